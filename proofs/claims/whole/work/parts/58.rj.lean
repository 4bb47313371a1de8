
theorem w9_embed5 {n : Nat} {bk : Nat → Int32} (hE : yNb 1024 (yGr (yGm n bk)) ≤ 57) (hV : yV2 1024 yI (yGr (yGm n bk))) (hC : yCon n bk)
    (i0 i1 i2 i4 i11 i12 i13 i14 i15 i16 i17 : Int32)
    (K : Int32 → (Int32 × Int32 × Int32 × Int32 × Int32 × Int32 × (Nat → Int32) × (Nat → Int32) × (Nat → Int32) × (Nat → Int32) × (Nat → Int32) × (Nat → Int32) × (Nat → Int32) × (Nat → Int32)) → Prop)
    (hK1 : ∀ F inH nH fa fs fb i7 y1 y2 y3 t0 t1 t2 old, yEmI n bk inH nH fa fs fb F → (∀ v, v < n → inH v = bk v) → K 1 (nH, Int32.ofNat F, i7, y1, y2, y3, t0, t1, t2, inH, fb, fa, fs, old))
    (hK0 : ¬ yPl n bk → ∀ u, K 0 u) :
    ∀ d F inH nH fa fs fb i7 y1 y2 y3 t0 t1 t2 old, yEmI n bk inH nH fa fs fb F → 57 - yNb 1024 (yGr (yGm n inH)) ≤ d →
      wLX9_embed_5 i0 i1 i2 (Int32.ofNat n) i4 i11 i12 i13 i14 i15 i16 i17 bk K (d+1) t0 t1 t2 inH fb fa fs old nH (Int32.ofNat F) i7 y1 y2 y3 := by
  intro d
  induction d with
  | zero =>
    intro F inH nH fa fs fb i7 y1 y2 y3 t0 t1 t2 old hI hd
    have hI' := hI
    obtain ⟨sz, fc, fo, hS, hA, hG, hD, hPl, hF1, hEu, hV3⟩ := hI'
    have hn := hG.1
    unfold wLX9_embed_5
    refine w9_isWhole hn inH bk _ ?_ ?_ _ _ _ _ _ _ _ _ _ _ _ _ _ _ _ _ _
    · intro hw
      exact ⟨fun _ => hK1 F inH nH fa fs fb i7 y1 y2 y3 t0 t1 t2 old hI hw, fun hh => absurd hh (by decide)⟩
    · rintro ⟨v, hv, hne⟩
      exfalso
      -- one more edge would be too many
      have hex : ∃ w, w < 32 ∧ yM (inH v) w ≠ yM (bk v) w := by
        by_cases c : ∃ w, w < 32 ∧ yM (inH v) w ≠ yM (bk v) w
        · exact c
        · exfalso; apply hne; apply yM_ext; intro w hw
          by_cases c2 : yM (inH v) w = yM (bk v) w
          · exact c2
          · exact absurd ⟨w, hw, c2⟩ c
      obtain ⟨w, hw, hwn⟩ := hex
      have hbw : yM (bk v) w = true ∧ yM (inH v) w = false := by
        cases h1 : yM (inH v) w with
        | true =>
          have := hG.2.2.2.2.2 v w (by unfold yGm; rw [decide_eq_true hv, h1]; rfl)
          unfold yGm at this; rw [Bool.and_eq_true] at this
          rw [h1, this.2] at hwn; exact absurd rfl hwn
        | false =>
          cases h2 : yM (bk v) w with
          | true => exact ⟨rfl, rfl⟩
          | false => rw [h1, h2] at hwn; exact absurd rfl hwn
      obtain ⟨g1, g2, g3, g4, g5⟩ := yGr_of hG hv hbw.1
      have hHf : yGr (yGm n inH) (yIx v w) = false := by
        unfold yGr
        rcases Nat.lt_or_ge v w with c | c
        · have := yIx_div (by omega : w < 32) c
          rw [this.1, this.2]; unfold yGm; rw [hbw.2]; simp
        · have := yIx_div (by omega : v < 32) (by omega : w < v)
          rw [yIx_comm, this.1, this.2, hG.2.2.2.2.1]; unfold yGm; rw [hbw.2]; simp
      have := yNb_strict 1024 _ _ (yIx v w) g3 hHf g4 (fun e _ he => yGH_sub hG e he)
      omega
  | succ d ih =>
    intro F inH nH fa fs fb i7 y1 y2 y3 t0 t1 t2 old hI hd
    have hF56 := yEmI_F hI hE
    have hI' := hI
    obtain ⟨sz, fc, fo, hS, hA, hG, hD, hPl, hF1, hEu, hV3⟩ := hI'
    have hn := hG.1
    unfold wLX9_embed_5
    refine w9_isWhole hn inH bk _ ?_ ?_ _ _ _ _ _ _ _ _ _ _ _ _ _ _ _ _ _
    · intro hw
      exact ⟨fun _ => hK1 F inH nH fa fs fb i7 y1 y2 y3 t0 t1 t2 old hI hw, fun hh => absurd hh (by decide)⟩
    · rintro ⟨v, hv, hne⟩
      refine ⟨fun hh => absurd rfl hh, fun _ => ?_⟩
      have hfree : ∃ e1, yFr n bk inH e1 := by
        have hex : ∃ w, w < 32 ∧ yM (inH v) w ≠ yM (bk v) w := by
          by_cases c : ∃ w, w < 32 ∧ yM (inH v) w ≠ yM (bk v) w
          · exact c
          · exfalso; apply hne; apply yM_ext; intro w hw
            by_cases c2 : yM (inH v) w = yM (bk v) w
            · exact c2
            · exact absurd ⟨w, hw, c2⟩ c
        obtain ⟨w, hw, hwn⟩ := hex
        have hbw : yM (bk v) w = true ∧ yM (inH v) w = false := by
          cases h1 : yM (inH v) w with
          | true =>
            have := hG.2.2.2.2.2 v w (by unfold yGm; rw [decide_eq_true hv, h1]; rfl)
            unfold yGm at this; rw [Bool.and_eq_true] at this
            rw [h1, this.2] at hwn; exact absurd rfl hwn
          | false =>
            cases h2 : yM (bk v) w with
            | true => exact ⟨rfl, rfl⟩
            | false => rw [h1, h2] at hwn; exact absurd rfl hwn
        obtain ⟨g1, g2, g3, g4, g5⟩ := yGr_of hG hv hbw.1
        refine ⟨yIx v w, g3, g4, ?_⟩
        unfold yGr
        rcases Nat.lt_or_ge v w with c | c
        · have := yIx_div (by omega : w < 32) c
          rw [this.1, this.2]; unfold yGm; rw [hbw.2]; simp
        · have := yIx_div (by omega : v < 32) (by omega : w < v)
          rw [yIx_comm, this.1, this.2, hG.2.2.2.2.1]; unfold yGm; rw [hbw.2]; simp
      obtain ⟨e1, he1⟩ := hfree
      refine w9_findPiece hn (by omega) hG.2.1 hG.2.2.1 _ _ _ _ _ _ _ _ _ _ _ _ _ _ _ _ ?_
      intro be bo bf hbf hB hc hp
      obtain ⟨hmin, hle, hcase⟩ := yBst_free hG (by omega) hB hc hp e1 he1
      dsimp only
      refine ⟨fun hnz => ?_, fun hz => ?_⟩
      · have hbf1 : 1 ≤ bf := by
          by_cases c : bf = 0
          · rw [c] at hnz; exact absurd rfl hnz
          · omega
        refine w9_embed27 hE hV hC hI hbf1 hmin hcase i0 i1 i2 i4 i11 i12 i13 i14 i15 i16 i17 K _ ?_
        intro x0 x1 x2 inH' fb' fa' fs' old' nH' x10 z1 z2 z3 hI2 hlt
        exact ih (F+1) inH' nH' fa' fs' fb' x10 z1 z2 z3 x0 x1 x2 old' hI2 (by omega)
      · apply hK0
        intro hpl
        have hbf0 : bf = 0 := (yn_inj (by omega) (by omega)).1 hz
        obtain ⟨as, hDem⟩ := hPl hpl
        have key : ∀ e0, yFr n bk inH e0 → yEb n bk inH nH e0 be → bf = yCnt F fb be → False := by
          intro e0 he0 hen hb
          have h1 := yDem_adm hG hS hA hDem he0 hen
          have h2 := yNb_pos1 (p := fun f => yAd (fb f) be) h1.1 h1.2
          have h3 : yCnt F fb be = yNb F (fun f => yAd (fb f) be) := rfl
          omega
        rcases hcase with ⟨_, hb, a, b, hc', _, hen⟩ | ⟨v', e0, _, _, hb, _, _, he0, _, hen⟩
        · exact key _ (yChd_fr hG hc').1 hen hb
        · exact key _ he0 hen hb


-- the first round
section
variable {n L : Nat} {bk inH : Nat → Int32} {nH : Int32} {pn : Nat → Nat}

noncomputable def yFo0 (L : Nat) (pn : Nat → Nat) (a b : Nat) : Nat := if yD (∃ k, k < L ∧ a = pn k ∧ b = pn ((k+1) % L)) = true then 0 else 1

theorem yFo0_f (k : Nat) (hk : k < L) : yFo0 L pn (pn k) (pn ((k+1) % L)) = 0 := by unfold yFo0; rw [if_pos (yD_pos ⟨k, hk, rfl, rfl⟩)]
theorem yFo0_b (hL : 3 ≤ L) (h4 : ∀ i j, i < L → j < L → pn i = pn j → i = j) (k : Nat) (hk : k < L) : yFo0 L pn (pn ((k+1) % L)) (pn k) = 1 := by
  unfold yFo0; rw [if_neg]
  rw [yD_iff]
  rintro ⟨j, hj, a, b⟩
  have hm : ∀ i, i % L < L := fun i => Nat.mod_lt _ (by omega)
  have a1 := h4 _ _ (hm _) hj a
  have a2 := h4 _ _ hk (hm _) b
  rcases Nat.lt_or_ge (k+1) L with c | c
  · rw [Nat.mod_eq_of_lt c] at a1
    rw [← a1] at a2
    rcases Nat.lt_or_ge (k+1+1) L with c2 | c2
    · rw [Nat.mod_eq_of_lt c2] at a2; omega
    · rw [show k+1+1 = L by omega, Nat.mod_self] at a2; omega
  · rw [show k+1 = L by omega, Nat.mod_self] at a1
    rw [← a1, Nat.mod_eq_of_lt (by omega)] at a2; omega

theorem yRd0_next (hL : 3 ≤ L) (k : Nat) (hk : k < L) : L-1-(L-1-(k+1) % L + 1) % L = k ∧ L-1-(k+1)%L < L := by
  rcases Nat.lt_or_ge (k+1) L with c | c
  · rw [Nat.mod_eq_of_lt c, Nat.mod_eq_of_lt (by omega : L-1-(k+1)+1 < L)]; omega
  · rw [show k+1 = L by omega, Nat.mod_self, show L-1-0+1 = L by omega, Nat.mod_self]; omega

theorem yFs_begin (hn : n ≤ 21) (hL : 3 ≤ L) (h3 : ∀ k, k < L → pn k < n) (h4 : ∀ i j, i < L → j < L → pn i = pn j → i = j) :
    yFs n 2 (yCy L pn) (fun _ => L) (fun f k => if f = 0 then pn k else pn (L-1-k)) (yFo0 L pn) := by
  have hm : ∀ i, i % L < L := fun i => Nat.mod_lt _ (by omega)
  have hcy : ∀ k, k < L → yCy L pn (yIx (pn k) (pn ((k+1) % L))) = true := fun k hk => yD_pos ⟨k, hk, rfl⟩
  refine ⟨?_, ?_, ?_, ?_⟩
  · intro f _
    refine ⟨hL, ?_, ?_⟩
    · intro k hk; dsimp only; split
      · exact h3 k hk
      · exact h3 _ (by omega)
    · intro i j hi hj he
      dsimp only at he hi hj
      by_cases c : f = 0
      · rw [if_pos c, if_pos c] at he; exact h4 i j hi hj he
      · rw [if_neg c, if_neg c] at he
        have := h4 _ _ (by omega) (by omega) he; omega
  · intro f k hf hk
    dsimp only at hk
    by_cases c : f = 0
    · simp only [if_pos c]
      rw [c]
      exact ⟨hcy k hk, yFo0_f k hk⟩
    · simp only [if_neg c]
      have hf1 : f = 1 := by omega
      rw [hf1]
      -- the step back
      have key : ∃ j, j < L ∧ L-1-k = (j+1) % L ∧ L-1-(k+1) % L = j := by
        rcases Nat.lt_or_ge (k+1) L with c1 | c1
        · refine ⟨L-1-(k+1), by omega, ?_, by rw [Nat.mod_eq_of_lt c1]⟩
          rw [Nat.mod_eq_of_lt (by omega)]; omega
        · refine ⟨L-1, by omega, ?_, by rw [show k+1 = L by omega, Nat.mod_self]; omega⟩
          rw [show L-1+1 = L by omega, Nat.mod_self]; omega
      obtain ⟨j, hj, e1, e2⟩ := key
      rw [e1, e2, yIx_comm]
      exact ⟨hcy j hj, yFo0_b hL h4 j hj⟩
  · intro a b ha hb hab hH
    obtain ⟨k, hk, hek⟩ := (yD_iff _).1 hH
    have g1 := h3 k hk; have g2 := h3 _ (hm (k+1))
    rcases yIx_inj ha hb (by omega) (by omega) hek with ⟨e1, e2⟩ | ⟨e1, e2⟩
    · rw [e1, e2, yFo0_f k hk]
      exact ⟨by omega, k, hk, by simp, by simp⟩
    · rw [e1, e2, yFo0_b hL h4 k hk]
      have hr := yRd0_next hL k hk
      refine ⟨by omega, L-1-(k+1)%L, hr.2, ?_, ?_⟩
      · simp only [if_neg (by omega : (1 : Nat) ≠ 0)]
        congr 1; have := hm (k+1); omega
      · simp only [if_neg (by omega : (1 : Nat) ≠ 0)]
        rw [hr.1]
  · intro e _ hH
    obtain ⟨k, hk, hek⟩ := (yD_iff _).1 hH
    have g1 := h3 k hk; have g2 := h3 _ (hm (k+1))
    have hne := yCy_ne hL h4 k hk
    rcases Nat.lt_or_ge (pn k) (pn ((k+1)%L)) with c | c
    · have := yIx_div (by omega : pn ((k+1)%L) < 32) c
      rw [hek, this.1, this.2]; exact c
    · have := yIx_div (by omega : pn k < 32) (by omega : pn ((k+1)%L) < pn k)
      rw [hek, yIx_comm, this.1, this.2]; omega

theorem yFo0_lab (hn : n ≤ 21) (hL : 3 ≤ L) (h3 : ∀ k, k < L → pn k < n) (h4 : ∀ i j, i < L → j < L → pn i = pn j → i = j) (e : Nat) (hH : yCy L pn e = true) :
    (yS1 (yFo0 L pn) e = 0 ∧ yT1 (yFo0 L pn) e = 1) ∨ (yS1 (yFo0 L pn) e = 1 ∧ yT1 (yFo0 L pn) e = 0) := by
  have hm : ∀ i, i % L < L := fun i => Nat.mod_lt _ (by omega)
  obtain ⟨k, hk, hek⟩ := (yD_iff _).1 hH
  have g1 := h3 k hk; have g2 := h3 _ (hm (k+1))
  have hne := yCy_ne hL h4 k hk
  unfold yS1 yT1
  rcases Nat.lt_or_ge (pn k) (pn ((k+1)%L)) with c | c
  · have := yIx_div (by omega : pn ((k+1)%L) < 32) c
    rw [hek, this.1, this.2, yFo0_f k hk, yFo0_b hL h4 k hk]; exact Or.inl ⟨rfl, rfl⟩
  · have := yIx_div (by omega : pn k < 32) (by omega : pn ((k+1)%L) < pn k)
    rw [hek, yIx_comm, this.1, this.2, yFo0_f k hk, yFo0_b hL h4 k hk]; exact Or.inr ⟨rfl, rfl⟩

theorem yDs_begin {C : Nat → Bool} (h : yCi 1024 yI C) : yDs 1024 yI C (fun _ => false) (fun _ => 0) (fun _ => 1) := by
  constructor
  · intro c
    cases hc : Bool.xor (c 1) (!false && c 0) with
    | false =>
      refine yEv_congr 1024 yI (fun _ => false) _ (fun e _ => by dsimp only; rw [hc, Bool.and_false]) ?_
      intro v; exact yX_false _ _ (fun _ _ => rfl)
    | true => exact yEv_congr 1024 yI C _ (fun e _ => by dsimp only; rw [hc, Bool.and_true]) h.1
  · intro y hy hev
    rcases h.2.1 y hy hev with c | c
    · exact ⟨fun _ => false, fun e he _ => by rw [c e he]; rfl⟩
    · exact ⟨fun l => l == 1, fun e he hx => by rw [c e he, hx]; rfl⟩

theorem yEmI_begin (hn : n ≤ 21) (hg : ∀ v w, yGm n bk v w = true → v < n ∧ w < n ∧ v ≠ w) (hs : ∀ v w, yGm n bk v w = yGm n bk w v) (hV : yV2 1024 yI (yGr (yGm n bk)))
    (hL : 3 ≤ L) (hL22 : L ≤ 22) (h3 : ∀ k, k < L → pn k < n) (h4 : ∀ i j, i < L → j < L → pn i = pn j → i = j)
    (hadj : ∀ k, k < L → yM (bk (pn k)) (pn ((k+1)%L)) = true)
    (h1 : ∀ v w, v < n → w < 32 → (yM (inH v) w = true ↔ yWe L L pn v w)) (h2 : ∀ w, w < 32 → (yM nH w = true ↔ yWo L L pn w))
    {fa fs fb : Nat → Int32} (hA : yFA 2 (fun _ => L) (fun f k => if f = 0 then pn k else pn (L-1-k)) fa fs fb) : yEmI n bk inH nH fa fs fb 2 := by
  have hm : ∀ i, i % L < L := fun i => Nat.mod_lt _ (by omega)
  have hne := fun k hk => yCy_ne hL h4 k hk
  have hgm : ∀ v w, yGm n inH v w = true ↔ yWe L L pn v w := by
    intro v w
    unfold yGm
    rw [Bool.and_eq_true, decide_eq_true_iff]
    constructor
    · rintro ⟨a, b⟩
      by_cases hw : w < 32
      · exact (h1 v w a hw).1 b
      · rw [yM_big _ _ (by omega)] at b; cases b
    · intro h
      have hvw : v < n ∧ w < n := by
        obtain ⟨k, hk, c | c⟩ := h
        · rw [c.1, c.2]; exact ⟨h3 k hk, h3 _ (hm _)⟩
        · rw [c.1, c.2]; exact ⟨h3 _ (hm _), h3 k hk⟩
      exact ⟨hvw.1, (h1 v w hvw.1 (by omega)).2 h⟩
  have hH : ∀ e, e < 1024 → yCy L pn e = yGr (yGm n inH) e := by
    intro e he
    rw [Bool.eq_iff_iff]
    unfold yGr yCy
    rw [Bool.and_eq_true, decide_eq_true_iff, hgm, yD_iff]
    constructor
    · rintro ⟨k, hk, hek⟩
      have g1 := h3 k hk; have g2 := h3 _ (hm (k+1)); have := hne k hk
      rcases Nat.lt_or_ge (pn k) (pn ((k+1)%L)) with c | c
      · have := yIx_div (by omega : pn ((k+1)%L) < 32) c
        rw [hek, this.1, this.2]
        exact ⟨c, k, hk, Or.inl ⟨rfl, rfl⟩⟩
      · have := yIx_div (by omega : pn k < 32) (by omega : pn ((k+1)%L) < pn k)
        rw [hek, yIx_comm, this.1, this.2]
        exact ⟨by omega, k, hk, Or.inr ⟨rfl, rfl⟩⟩
    · rintro ⟨hlt, k, hk, c⟩
      refine ⟨k, hk, ?_⟩
      rw [← yIx_de hlt]
      rcases c with ⟨c1, c2⟩ | ⟨c1, c2⟩
      · rw [c1, c2]
      · rw [c1, c2, yIx_comm]
  have hci : yCi 1024 yI (yCy L pn) := yCy_ci hL (fun i hi => by have := h3 i hi; omega) h4
  have hadj' : ∀ v w, yWe L L pn v w → yGm n bk v w = true := by
    have hk' : ∀ k, k < L → yGm n bk (pn k) (pn ((k+1)%L)) = true := fun k hk => by
      unfold yGm; rw [decide_eq_true (h3 k hk), hadj k hk]; rfl
    rintro v w ⟨k, hk, c | c⟩
    · rw [c.1, c.2]; exact hk' k hk
    · rw [c.1, c.2, hs]; exact hk' k hk
  have hlt : ∀ k, k < L → yIx (pn k) (pn ((k+1)%L)) < 1024 := fun k hk => yIx_lt (by have := h3 k hk; omega) (by have := h3 _ (hm (k+1)); omega)
  have hwo : ∀ w, yWo L L pn w ↔ ∃ k, k < L ∧ w = pn k := by
    intro w
    constructor
    · rintro ⟨k, hk, c | c⟩
      · exact ⟨k, hk, c⟩
      · exact ⟨_, hm _, c⟩
    · rintro ⟨k, hk, c⟩; exact ⟨k, hk, Or.inl c⟩
  have hI' : ∀ k, k < L → ∀ v, (yI (yIx (pn k) (pn ((k+1)%L))) v = true ↔ (v = pn k ∨ v = pn ((k+1)%L))) := fun k hk v =>
    yI_iff (by have := h3 k hk; omega) (by have := h3 _ (hm (k+1)); omega) (hne k hk) v
  have hS := yFs_begin hn hL h3 h4
  have hCG : ∀ e, e < 1024 → yCy L pn e = true → yGr (yGm n bk) e = true := by
    intro e he hc
    rw [hH e he] at hc
    unfold yGr at hc ⊢
    rw [Bool.and_eq_true] at hc ⊢
    exact ⟨hc.1, hadj' _ _ ((hgm _ _).1 hc.2)⟩
  have hEn : yNb 1024 (yGr (yGm n inH)) = L := by
    have := yNb_img 1024 (fun _ => false) L (fun k => yIx (pn k) (pn ((k+1)%L))) (fun k hk => ⟨hlt k hk, rfl⟩) (fun i j hi hj he => yCy_inj hL (fun i hi => by have := h3 i hi; omega) h4 i j hi hj he)
    have h0 : yNb 1024 (fun _ => false) = 0 := by decide +kernel
    rw [h0, Nat.zero_add] at this
    rw [← this]
    apply yNb_congr
    intro e he
    rw [← hH e he, Bool.false_or]; rfl
  have hVn : yNb 32 (yM nH) = L := by
    have := yNb_img 32 (fun _ => false) L pn (fun k hk => ⟨by have := h3 k hk; omega, rfl⟩) h4
    have h0 : yNb 32 (fun _ => false) = 0 := by decide +kernel
    rw [h0, Nat.zero_add] at this
    rw [← this]
    apply yNb_congr
    intro w hw
    rw [Bool.false_or, Bool.eq_iff_iff, h2 w hw, hwo, yD_iff]
  refine ⟨_, _, _, yFs_congr hn hS hH, hA, ⟨hn, hg, hs, ?_, ?_, ?_⟩, ?_, ?_, by omega, by omega, by omega⟩
  · intro v hv
    rw [h2 v hv, hwo]
    constructor
    · rintro ⟨k, hk, c⟩
      exact ⟨_, hlt k hk, by rw [← hH _ (hlt k hk)]; exact yD_pos ⟨k, hk, rfl⟩, (hI' k hk v).2 (Or.inl c)⟩
    · rintro ⟨e, he, hh, hI⟩
      rw [← hH e he] at hh
      obtain ⟨k, hk, hek⟩ := (yD_iff _).1 hh
      rw [hek] at hI
      rcases (hI' k hk v).1 hI with c | c
      · exact ⟨k, hk, c⟩
      · exact ⟨_, hm _, c⟩
  · intro v w
    rw [Bool.eq_iff_iff, hgm, hgm]
    constructor
    · rintro ⟨k, hk, c | c⟩
      · exact ⟨k, hk, Or.inr c⟩
      · exact ⟨k, hk, Or.inl c⟩
    · rintro ⟨k, hk, c | c⟩
      · exact ⟨k, hk, Or.inr c⟩
      · exact ⟨k, hk, Or.inl c⟩
  · intro v w h; exact hadj' v w ((hgm v w).1 h)
  · exact yDs_congr (yDs_swap (yDs_begin hci) (fun e _ hx => yFo0_lab hn hL h3 h4 e hx)) _ hH
  · rintro ⟨lab, hlab⟩
    obtain ⟨as, hD⟩ := yDem_init hlab hV hci hCG ⟨_, hlt 0 (by omega), yD_pos ⟨0, by omega, rfl⟩⟩
    exact ⟨as, yDem_congr (yDem_swap hD (fun e _ hx => yFo0_lab hn hL h3 h4 e hx)) hH⟩
end


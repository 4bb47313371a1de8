
-- edges counted twice
theorem yS_add (m : Nat) (f g : Nat → Nat) : yS m (fun i => f i + g i) = yS m f + yS m g := by
  induction m with
  | zero => rfl
  | succ m ih => simp only [yS]; rw [ih]; omega

theorem yNb_split (m : Nat) (p q r : Nat → Bool) (h : ∀ i, i < m → (p i = (q i || r i)) ∧ (q i && r i) = false) : yNb m p = yNb m q + yNb m r := by
  induction m with
  | zero => rfl
  | succ m ih =>
    simp only [yNb]
    rw [ih (fun i hi => h i (by omega))]
    obtain ⟨a, b⟩ := h m (by omega)
    cases hq : q m <;> cases hr : r m <;> rw [hq, hr] at a b <;> rw [a] <;> first | (cases b; done) | (simp; try omega)

theorem yNb_last (m : Nat) (p : Nat → Nat → Bool) (k : Nat) : yS m (fun a => yNb (k+1) (p a)) = yS m (fun a => yNb k (p a)) + yNb m (fun a => p a k) := by
  induction m with
  | zero => rfl
  | succ m ih => simp only [yS, yNb] at ih ⊢; omega

theorem yS_swap (m k : Nat) (p : Nat → Nat → Bool) : yS m (fun a => yNb k (p a)) = yS k (fun b => yNb m (fun a => p a b)) := by
  induction k with
  | zero =>
    have : ∀ m, yS m (fun a => yNb 0 (p a)) = 0 := by
      intro m; induction m with
      | zero => rfl
      | succ m ih => simp only [yS, yNb] at ih ⊢; omega
    rw [this]; rfl
  | succ k ih => rw [yNb_last, ih]; rfl

theorem yS_zero (m : Nat) (f : Nat → Nat) (h : ∀ i, i < m → f i = 0) : yS m f = 0 := by
  induction m with
  | zero => rfl
  | succ m ih => simp only [yS]; rw [ih (fun i hi => h i (by omega)), h m (by omega)]

theorem yS_more (n d : Nat) (f : Nat → Nat) (h : ∀ i, n ≤ i → f i = 0) : yS (n+d) f = yS n f := by
  induction d with
  | zero => rfl
  | succ d ih => rw [← Nat.add_assoc]; simp only [yS]; rw [ih, h (n+d) (by omega), Nat.add_zero]

theorem yNb_edges (g : Nat → Nat → Bool) : yNb 1024 (yGr g) = yS 32 (fun a => yNb 32 (fun b => decide (a < b) && g a b)) := by
  rw [← yNb_blocks 32 (fun a b => decide (a < b) && g a b)]; rfl

theorem yHand2 {n : Nat} (hn : n ≤ 32) {g : Nat → Nat → Bool} (hg : ∀ v w, g v w = true → v < n ∧ w < n ∧ v ≠ w) (hs : ∀ v w, g v w = g w v) :
    yS n (fun v => yNb 32 (g v)) = 2 * yNb 1024 (yGr g) := by
  have h1 : yS n (fun v => yNb 32 (g v)) = yS 32 (fun v => yNb 32 (g v)) := by
    have := yS_more n (32-n) (fun v => yNb 32 (g v)) (by
      intro i hi
      have hz : ∀ w, g i w = false := fun w => by
        cases c : g i w with
        | false => rfl
        | true => have := hg i w c; omega
      have : ∀ m, yNb m (g i) = 0 := by
        intro m; induction m with
        | zero => rfl
        | succ m ih => simp only [yNb]; rw [ih, hz]; rfl
      exact this 32)
    rw [show n + (32-n) = 32 by omega] at this
    exact this.symm
  have h2 : yS 32 (fun v => yNb 32 (g v)) = yS 32 (fun a => yNb 32 (fun b => decide (a < b) && g a b) + yNb 32 (fun b => decide (b < a) && g a b)) := by
    apply yS_congr
    intro a _
    apply yNb_split
    intro b _
    cases c : g a b with
    | false => simp
    | true =>
      have := (hg a b c).2.2
      rcases Nat.lt_or_ge a b with d | d
      · rw [decide_eq_true d, decide_eq_false (by omega : ¬ b < a)]; exact ⟨rfl, rfl⟩
      · rw [decide_eq_false (by omega : ¬ a < b), decide_eq_true (by omega : b < a)]; exact ⟨rfl, rfl⟩
  rw [h1, h2, yS_add, yS_swap 32 32 (fun a b => decide (b < a) && g a b), yNb_edges]
  have : yS 32 (fun b => yNb 32 (fun a => decide (b < a) && g a b)) = yS 32 (fun a => yNb 32 (fun b => decide (a < b) && g a b)) := by
    apply yS_congr
    intro a _
    apply yNb_congr
    intro b _
    rw [hs b a]
  rw [this]; omega

-- the classes as labels of edges
noncomputable def yClb (E : Nat) (ea eb cls : Nat → Nat) (e : Nat) : Nat := cls (Classical.epsilon (fun i => i < E ∧ yIx (ea i) (eb i) = e))

section
variable {n E : Nat} {f : Nat → Int32} {fa fb eo : Nat → Int32} {ea eb po cls dep : Nat → Nat}

theorem yEd_ix (hn : n ≤ 21) (hE : yEd n f n 0 E fa fb ea eb) {i j : Nat} (hi : i < E) (hj : j < E) (h : yIx (ea i) (eb i) = yIx (ea j) (eb j)) : i = j := by
  have h1 := hE.1 i hi; have h2 := hE.1 j hj
  rcases yIx_inj (by omega) (by omega) (by omega) (by omega) h with c | c
  · exact hE.2.1 i j hi hj c.1 c.2
  · omega

theorem yEd_gr (hn : n ≤ 21) (hE : yEd n f n 0 E fa fb ea eb) {i : Nat} (hi : i < E) : yIx (ea i) (eb i) < 1024 ∧ yGr (yGm n f) (yIx (ea i) (eb i)) = true ∧ (∀ v, yI (yIx (ea i) (eb i)) v = true ↔ (v = ea i ∨ v = eb i)) := by
  have h1 := hE.1 i hi
  have := yIx_div (by omega : eb i < 32) h1.2.2.1
  refine ⟨yIx_lt (by omega) (by omega), ?_, fun v => yI_iff (by omega) (by omega) (by omega) v⟩
  unfold yGr; rw [this.1, this.2, h1.2.2.2.2.1, decide_eq_true h1.2.2.1]; rfl

theorem yClb_at (hn : n ≤ 21) (hE : yEd n f n 0 E fa fb ea eb) {i : Nat} (hi : i < E) : yClb E ea eb cls (yIx (ea i) (eb i)) = cls i := by
  have h := Classical.epsilon_spec (p := fun j => j < E ∧ yIx (ea j) (eb j) = yIx (ea i) (eb i)) ⟨i, hi, rfl⟩
  unfold yClb
  congr 1
  exact yEd_ix hn hE h.1 hi h.2

theorem yEd_of (hE : yEd n f n 0 E fa fb ea eb) {e : Nat} (h : yGr (yGm n f) e = true) : ∃ i, i < E ∧ e = yIx (ea i) (eb i) := by
  unfold yGr at h
  rw [Bool.and_eq_true, decide_eq_true_iff] at h
  have hn : e/32 < n := by
    have := h.2
    unfold yGm at this
    rw [Bool.and_eq_true, decide_eq_true_iff] at this
    exact this.1
  obtain ⟨i, hi, h1, h2⟩ := hE.2.2 _ _ h.1 h.2 (Or.inl hn)
  exact ⟨i, hi, by rw [h1, h2, yIx_de h.1]⟩

theorem yEd_pr (hn : n ≤ 21) (hE : yEd n f n 0 E fa fb ea eb) {i v x : Nat} (hi : i < E) (hv : yI (yIx (ea i) (eb i)) v = true) (hx : yI (yIx (ea i) (eb i)) x = true) (hne : x ≠ v) : yPr2 ea eb i v x := by
  have h := (yEd_gr hn hE hi).2.2
  rcases (h v).1 hv with c | c <;> rcases (h x).1 hx with d | d
  · omega
  · exact Or.inl ⟨c.symm, d.symm⟩
  · exact Or.inr ⟨d.symm, c.symm⟩
  · omega

theorem yBl_of (hn : n ≤ 21) (hs : ∀ v w, yGm n f v w = yGm n f w v) (hE : yEd n f n 0 E fa fb ea eb) (hU : yUf n f E ea eb eo po cls dep)
    (hR : ∀ v, v < n → yRl n f E ea eb cls v) : yBl 1024 yI (yGr (yGm n f)) (yClb E ea eb cls) := by
  constructor
  · intro e e' v x y he he' hge hge' hv hx hv' hy hxv hyv hco
    obtain ⟨i, hi, hei⟩ := yEd_of hE hge
    obtain ⟨j, hj, hej⟩ := yEd_of hE hge'
    rw [hei] at hv hx; rw [hej] at hv' hy
    rw [hei, hej, yClb_at hn hE hi, yClb_at hn hE hj]
    have p1 := yEd_pr hn hE hi hv hx hxv
    have p2 := yEd_pr hn hE hj hv' hy hyv
    have g1 := hE.1 i hi; have g2 := hE.1 j hj
    have q1 : yGm n f v x = true := by
      rcases p1 with c | c
      · rw [← c.1, ← c.2]; exact g1.2.2.2.2.1
      · rw [← c.1, ← c.2, hs]; exact g1.2.2.2.2.1
    have q2 : yGm n f v y = true := by
      rcases p2 with c | c
      · rw [← c.1, ← c.2]; exact g2.2.2.2.2.1
      · rw [← c.1, ← c.2, hs]; exact g2.2.2.2.2.1
    have hvn : v < n := by rcases p1 with c | c <;> omega
    exact hR v hvn x y q1 q2 hco i j hi hj p1 p2
  · intro k hk e e' he he' hge hge' hc
    obtain ⟨i, hi, hei⟩ := yEd_of hE hge
    obtain ⟨j, hj, hej⟩ := yEd_of hE hge'
    rw [hei, hej, yClb_at hn hE hi, yClb_at hn hE hj] at hc
    rw [hei, hej]
    exact hU.2.2 k hk i j hi hj hc

-- few edges: no even set
theorem yEv_three {S : Nat → Bool} (hS : ∀ e, e < 1024 → S e = true → e/32 < e%32) (hev : yEv 1024 yI S) {e : Nat} (he : e < 1024) (h : S e = true) :
    ∃ e2 e3, e2 < 1024 ∧ e3 < 1024 ∧ S e2 = true ∧ S e3 = true ∧ e2 ≠ e ∧ e3 ≠ e ∧ e2 ≠ e3 := by
  have hd := hS e he h
  have key : ∀ v, yI e v = true → ∃ e2, e2 < 1024 ∧ S e2 = true ∧ e2 ≠ e ∧ yI e2 v = true := by
    intro v hv
    by_cases c : ∃ e2, e2 < 1024 ∧ S e2 = true ∧ e2 ≠ e ∧ yI e2 v = true
    · exact c
    · exfalso
      have h1 := (yEv_iff _ _ _).1 hev v
      unfold yDg at h1
      rw [yX_one 1024 _ e he] at h1
      · rw [h, hv] at h1; cases h1
      · intro d hd' hne
        cases c1 : S d with
        | false => rfl
        | true =>
          cases c2 : yI d v with
          | false => rfl
          | true => exact absurd ⟨d, hd', c1, hne, c2⟩ c
  have hde := yIx_de hd
  have hI : ∀ v, yI e v = true ↔ (v = e/32 ∨ v = e%32) := fun v => by
    have := yI_iff (a := e/32) (b := e%32) (by omega) (by omega) (by omega) v
    rw [hde] at this; exact this
  obtain ⟨e2, a1, a2, a3, a4⟩ := key (e/32) ((hI _).2 (Or.inl rfl))
  obtain ⟨e3, b1, b2, b3, b4⟩ := key (e%32) ((hI _).2 (Or.inr rfl))
  refine ⟨e2, e3, a1, b1, a2, b2, a3, b3, ?_⟩
  intro h23
  rw [← h23] at b4
  have hd2 := hS e2 a1 a2
  have hI2 : ∀ v, yI e2 v = true ↔ (v = e2/32 ∨ v = e2%32) := fun v => by
    have := yI_iff (a := e2/32) (b := e2%32) (by omega) (by omega) (by omega) v
    rw [yIx_de hd2] at this; exact this
  rcases (hI2 _).1 a4 with c | c <;> rcases (hI2 _).1 b4 with d | d <;> omega

theorem yDs_few {X : Nat → Bool} (hX : ∀ e, e < 1024 → X e = true → e/32 < e%32) (h : ∀ a b c, a < 1024 → b < 1024 → c < 1024 → X a = true → X b = true → X c = true → a ≠ b → a ≠ c → b ≠ c → False) :
    yDs 1024 yI X (fun _ => false) (fun _ => (0 : Nat)) (fun _ => (0 : Nat)) := by
  constructor
  · intro c
    refine yEv_congr 1024 yI (fun _ => false) _ (fun e _ => by dsimp only; cases c 0 <;> cases X e <;> rfl) ?_
    intro v; exact yX_false _ _ (fun _ _ => rfl)
  · intro y hy hev
    refine ⟨fun _ => false, fun e he _ => ?_⟩
    cases c : y e with
    | false => rfl
    | true =>
      exfalso
      obtain ⟨e2, e3, a1, a2, a3, a4, a5, a6, a7⟩ := yEv_three (fun e he h => hX e he (hy e he h)) hev he c
      exact h e e2 e3 he a1 a2 (hy e he c) (hy _ a1 a3) (hy _ a2 a4) (Ne.symm a5) (Ne.symm a6) a7
end


section
variable {n E : Nat} {f fa fb eo : Nat → Int32} {ea eb po cls dep : Nat → Nat}

-- the edges of a class
noncomputable def yKl (n : Nat) (f : Nat → Int32) (E : Nat) (ea eb cls : Nat → Nat) (r e : Nat) : Bool := yGr (yGm n f) e && decide (yClb E ea eb cls e = r)
def yFew (X : Nat → Bool) : Prop := ∀ a b c, a < 1024 → b < 1024 → c < 1024 → X a = true → X b = true → X c = true → a ≠ b → a ≠ c → b ≠ c → False

theorem yKl_at (hn : n ≤ 21) (hE : yEd n f n 0 E fa fb ea eb) {r e : Nat} : yKl n f E ea eb cls r e = true ↔ ∃ i, i < E ∧ e = yIx (ea i) (eb i) ∧ cls i = r := by
  unfold yKl
  rw [Bool.and_eq_true, decide_eq_true_iff]
  constructor
  · rintro ⟨h1, h2⟩
    obtain ⟨i, hi, he⟩ := yEd_of hE h1
    rw [he, yClb_at hn hE hi] at h2
    exact ⟨i, hi, he, h2⟩
  · rintro ⟨i, hi, he, h2⟩
    rw [he, yClb_at hn hE hi]
    exact ⟨(yEd_gr hn hE hi).2.1, h2⟩

theorem yKl_few (hn : n ≤ 21) (hE : yEd n f n 0 E fa fb ea eb) {r : Nat} (h : yNb E (fun i => decide (cls i = r)) ≤ 2) : yFew (yKl n f E ea eb cls r) := by
  intro a b c ha hb hc xa xb xc hab hac hbc
  obtain ⟨i, hi, hia, ri⟩ := (yKl_at hn hE).1 xa
  obtain ⟨j, hj, hjb, rj⟩ := (yKl_at hn hE).1 xb
  obtain ⟨k, hk, hkc, rk⟩ := (yKl_at hn hE).1 xc
  have hij : i ≠ j := fun h => hab (by rw [hia, hjb, h])
  have hik : i ≠ k := fun h => hac (by rw [hia, hkc, h])
  have hjk : j ≠ k := fun h => hbc (by rw [hjb, hkc, h])
  have := yPigC 3 E (fun i => decide (cls i = r)) (fun x => if x = 0 then i else if x = 1 then j else k) (by
    intro x hx
    rcases (by omega : x = 0 ∨ x = 1 ∨ x = 2) with d | d | d <;> subst d <;> simp <;> first | exact ⟨hi, ri⟩ | exact ⟨hj, rj⟩ | exact ⟨hk, rk⟩) (by
    intro x y hx hy hxy
    rcases (by omega : x = 0 ∨ x = 1 ∨ x = 2) with d | d | d <;> rcases (by omega : y = 0 ∨ y = 1 ∨ y = 2) with d' | d' | d' <;> subst d <;> subst d' <;> simp at hxy <;> first | rfl | (exfalso; omega))
  omega

-- the masks of a class
def yBm (n E : Nat) (ea eb cls : Nat → Nat) (r : Nat) (blk : Nat → Int32) : Prop :=
  ∀ v w, v < n → w < 32 → (yM (blk v) w = true ↔ ∃ i, i < E ∧ cls i = r ∧ yPr2 ea eb i v w)

theorem yBm_gm (hE : yEd n f n 0 E fa fb ea eb) {r : Nat} {blk : Nat → Int32} (hn : n ≤ 21) (hB : yBm n E ea eb cls r blk) (v w : Nat) :
    yGm n blk v w = true ↔ ∃ i, i < E ∧ cls i = r ∧ yPr2 ea eb i v w := by
  unfold yGm
  rw [Bool.and_eq_true, decide_eq_true_iff]
  constructor
  · rintro ⟨h1, h2⟩
    by_cases hw : w < 32
    · exact (hB v w h1 hw).1 h2
    · rw [yM_big _ _ (by omega)] at h2; cases h2
  · rintro ⟨i, hi, hc, hp⟩
    have g := hE.1 i hi
    have hv : v < n ∧ w < n := by rcases hp with c | c <;> omega
    exact ⟨hv.1, (hB v w hv.1 (by omega)).2 ⟨i, hi, hc, hp⟩⟩

theorem yBm_all (hE : yEd n f n 0 E fa fb ea eb) {r : Nat} {blk : Nat → Int32} (hn : n ≤ 21) (hB : yBm n E ea eb cls r blk) :
    (∀ v w, yGm n blk v w = true → v < n ∧ w < n ∧ v ≠ w) ∧ (∀ v w, yGm n blk v w = yGm n blk w v) ∧ (∀ e, e < 1024 → yGr (yGm n blk) e = yKl n f E ea eb cls r e) := by
  refine ⟨?_, ?_, ?_⟩
  · intro v w h
    obtain ⟨i, hi, _, hp⟩ := (yBm_gm hE hn hB v w).1 h
    have g := hE.1 i hi
    rcases hp with c | c <;> omega
  · intro v w
    rw [Bool.eq_iff_iff, yBm_gm hE hn hB, yBm_gm hE hn hB]
    constructor
    · rintro ⟨i, hi, hc, hp⟩; exact ⟨i, hi, hc, Or.symm hp⟩
    · rintro ⟨i, hi, hc, hp⟩; exact ⟨i, hi, hc, Or.symm hp⟩
  · intro e he
    rw [Bool.eq_iff_iff, yKl_at hn hE]
    unfold yGr
    rw [Bool.and_eq_true, decide_eq_true_iff, yBm_gm hE hn hB]
    constructor
    · rintro ⟨h, i, hi, hc, hp⟩
      refine ⟨i, hi, ?_, hc⟩
      rw [yPr2_ix hp, yIx_de h]
    · rintro ⟨i, hi, hei, hc⟩
      have g := hE.1 i hi
      have := yIx_div (by omega : eb i < 32) g.2.2.1
      rw [hei, this.1, this.2]
      exact ⟨g.2.2.1, i, hi, hc, Or.inl ⟨rfl, rfl⟩⟩

theorem yEd_nodes (hn : n ≤ 21) (hg : ∀ v w, yGm n f v w = true → v < n ∧ w < n ∧ v ≠ w) : ∀ e, e < 1024 → yGr (yGm n f) e = true → ∃ p q, p ≠ q ∧ p < 32 ∧ q < 32 ∧ ∀ v, yI e v = true ↔ (v = p ∨ v = q) := by
  intro e he h
  have h' := h
  unfold yGr at h'
  rw [Bool.and_eq_true, decide_eq_true_iff] at h'
  have := hg _ _ h'.2
  exact ⟨e/32, e%32, by omega, by omega, by omega, yGr_ends e he h⟩

theorem yV2_congr {m : Nat} {I : Nat → Nat → Bool} {X Y : Nat → Bool} (h : yV2 m I X) (he : ∀ e, e < m → X e = Y e) : yV2 m I Y := by
  intro v a b ha hb hab xa xb ia ib
  obtain ⟨w, h1, h2⟩ := h v a b ha hb hab (by rw [he a ha]; exact xa) (by rw [he b hb]; exact xb) ia ib
  exact ⟨w, fun e hl hw => by rw [← he e hl]; exact h1 e hl hw, h2⟩

theorem yBm_v2 (hg : ∀ v w, yGm n f v w = true → v < n ∧ w < n ∧ v ≠ w) (hs : ∀ v w, yGm n f v w = yGm n f w v) (hE : yEd n f n 0 E fa fb ea eb) (hU : yUf n f E ea eb eo po cls dep)
    (hR : ∀ v, v < n → yRl n f E ea eb cls v) {r : Nat} {blk : Nat → Int32} (hn : n ≤ 21) (hB : yBm n E ea eb cls r blk) : yV2 1024 yI (yGr (yGm n blk)) ∧ yCon n blk := by
  have hbl := yBl_of hn hs hE hU hR
  have hall := yBm_all hE hn hB
  refine ⟨yV2_congr (yBl_v2 (yEd_nodes hn hg) hbl r) (fun e he => ((hall.2.2 e he).symm ▸ rfl)), ?_⟩
  intro U hUc e e' p q he he' hge hge' hp hq
  have hk := hbl.2 (fun d => decide (yClb E ea eb cls d = r) && U (d/32)) (by
    intro d d' v x y hd hd' hgd hgd' hdv hdx hdv' hdy hxv hyv hco
    have hc := hbl.1 d d' v x y hd hd' hgd hgd' hdv hdx hdv' hdy hxv hyv hco
    rw [hc]
    by_cases c : yClb E ea eb cls d' = r
    · rw [decide_eq_true c, Bool.true_and, Bool.true_and]
      have g1 : yGr (yGm n blk) d = true := by rw [hall.2.2 d hd]; unfold yKl; rw [hgd, hc, decide_eq_true c]; rfl
      have g2 : yGr (yGm n blk) d' = true := by rw [hall.2.2 d' hd']; unfold yKl; rw [hgd', decide_eq_true c]; rfl
      rw [hUc d (d/32) v hd g1 ((yGr_ends d hd hgd _).2 (Or.inl rfl)) hdv, hUc d' (d'/32) v hd' g2 ((yGr_ends d' hd' hgd' _).2 (Or.inl rfl)) hdv']
    · rw [decide_eq_false c, Bool.false_and, Bool.false_and]) e e' he he'
  have x1 := hge; have x2 := hge'
  rw [hall.2.2 e he] at x1; rw [hall.2.2 e' he'] at x2
  unfold yKl at x1 x2
  rw [Bool.and_eq_true, decide_eq_true_iff] at x1 x2
  have := hk x1.1 x2.1 (x1.2.trans x2.2.symm)
  rw [decide_eq_true x1.2, decide_eq_true x2.2, Bool.true_and, Bool.true_and] at this
  rw [← hUc e (e/32) p he hge ((yGr_ends e he hge _).2 (Or.inl rfl)) hp, ← hUc e' (e'/32) q he' hge' ((yGr_ends e' he' hge' _).2 (Or.inl rfl)) hq]
  exact this
end



theorem yX_andc (m : Nat) (c : Bool) (p : Nat → Bool) : (c && yX m p) = yX m (fun i => c && p i) := by
  cases c with
  | false => rw [yX_false m (fun i => false && p i) (fun i _ => rfl)]; rfl
  | true => simp

-- an even set crosses a cut evenly
theorem yCut {S : Nat → Bool} (h : yEv 1024 yI S) (C : Nat → Bool) : yX 1024 (fun e => S e && Bool.xor (C (e/32)) (C (e%32))) = false := by
  have h1 : ∀ e, e < 1024 → Bool.xor (C (e/32)) (C (e%32)) = yX 32 (fun v => C v && yI e v) := by
    intro e he
    have h2 : yX 32 (fun v => C v && yI e v) = yX 32 (fun v => Bool.xor (C v && (e/32 == v)) (C v && (e%32 == v))) := by
      apply yX_congr; intro v _; unfold yI; cases C v <;> simp
    rw [h2, yX_xor, yX_one 32 (fun v => C v && (e/32 == v)) (e/32) (by omega) (fun i _ hi => by rw [beq_false_of_ne (Ne.symm hi), Bool.and_false]),
      yX_one 32 (fun v => C v && (e%32 == v)) (e%32) (by omega) (fun i _ hi => by rw [beq_false_of_ne (Ne.symm hi), Bool.and_false])]
    simp
  have h2 : yX 1024 (fun e => S e && Bool.xor (C (e/32)) (C (e%32))) = yX 1024 (fun e => yX 32 (fun v => C v && (S e && yI e v))) := by
    apply yX_congr
    intro e he
    rw [h1 e he, yX_andc]
    apply yX_congr
    intro v _
    cases S e <;> cases C v <;> simp
  rw [h2, yX_swap]
  apply yX_false
  intro v _
  rw [← yX_andc, h v, Bool.and_false]

def yCon (n : Nat) (bk : Nat → Int32) : Prop :=
  ∀ U : Nat → Bool, (∀ e p q, e < 1024 → yGr (yGm n bk) e = true → yI e p = true → yI e q = true → U p = U q) →
    ∀ e e' p q, e < 1024 → e' < 1024 → yGr (yGm n bk) e = true → yGr (yGm n bk) e' = true → yI e p = true → yI e' q = true → U p = U q

theorem yEnds2 {n : Nat} {bk inH : Nat → Int32} {nH be : Int32} (hG : yGH n bk inH nH) (hV : yV2 1024 yI (yGr (yGm n bk))) (hC : yCon n bk)
    (hne : ∃ e, e < 1024 ∧ yGr (yGm n inH) e = true) {v e0 : Nat} (_ : v < n) (hvo : yM nH v = false) (he0 : yFr n bk inH e0) (hI0 : yI e0 v = true) (hb : yEo n bk nH v be) :
    ∃ a b, a ≠ b ∧ a < 32 ∧ b < 32 ∧ yM be a = true ∧ yM be b = true := by
  have hn := hG.1
  have hout : ∀ p q, p < n → yRe n bk nH v p → yM (bk p) q = true → q < 32 → ¬ yRe n bk nH v q → yM be q = true := by
    intro p q hp hr hbk hq hnr
    have hnq : yM nH q = true := by
      cases hh : yM nH q with
      | true => rfl
      | false => exact absurd (yRe_step hr hp hq hbk hh) hnr
    exact (hb q hq).2 ⟨hnq, p, hp, hr, hbk⟩
  -- an edge with ends on both sides
  have hx : ∀ e p q, e < 1024 → yGr (yGm n bk) e = true → yI e p = true → yI e q = true → yRe n bk nH v p → ¬ yRe n bk nH v q → yM be q = true ∧ q < 32 := by
    intro e p q he hg hp hq hrp hrq
    have g1 := yGr_nodes hG hg
    have hq32 := yI_lt he hq
    have hpq : p ≠ q := by intro h; rw [h] at hrp; exact hrq hrp
    refine ⟨?_, hq32⟩
    rcases (yI_ends hG hg).1 hp with c | c <;> rcases (yI_ends hG hg).1 hq with c' | c'
    · omega
    · exact hout p q (by omega) hrp (by rw [c, c']; exact g1.2.2.1) hq32 hrq
    · exact hout p q (by omega) hrp (by rw [c, c']; exact g1.2.2.2) hq32 hrq
    · omega
  obtain ⟨eH, heH, hH⟩ := hne
  have hGH := yGH_sub hG eH hH
  have gH := yGr_nodes hG hGH
  have hHon : yM nH (eH/32) = true := (hG.2.2.2.1 (eH/32) (by omega)).2 ⟨eH, heH, hH, (yI_ends hG hGH).2 (Or.inl rfl)⟩
  have hnot : ∀ w, yM nH w = true → ¬ yRe n bk nH v w := fun w hw hr => by rw [yRe_off hvo hr] at hw; cases hw
  by_cases hex : ∃ a, a < 32 ∧ yM be a = true
  · obtain ⟨a, ha, hba⟩ := hex
    by_cases hex2 : ∃ b, b < 32 ∧ yM be b = true ∧ a ≠ b
    · obtain ⟨b, hb1, hb2, hb3⟩ := hex2
      exact ⟨a, b, hb3, ha, hb1, hba, hb2⟩
    · exfalso
      have huniq : ∀ b, b < 32 → yM be b = true → b = a := fun b h1 h2 => by
        by_cases c : a = b
        · exact c.symm
        · exact absurd ⟨b, h1, h2, c⟩ hex2
      obtain ⟨hna, y, hy, hry, hbk⟩ := (hb a ha).1 hba
      obtain ⟨g1, g2, g3, g4, g5⟩ := yGr_of hG hy hbk
      obtain ⟨e2, he2, hH2, hI2⟩ := (hG.2.2.2.1 a ha).1 hna
      have hG2 := yGH_sub hG e2 hH2
      have hyo := yRe_off hvo hry
      have hF1 := yFr_off hG hy hbk (Or.inl hyo)
      have hne12 : yIx y a ≠ e2 := by intro h; rw [h] at hF1; rw [hF1.2.2] at hH2; cases hH2
      obtain ⟨w, hw, hev, w1, w2, hw3⟩ := hV a (yIx y a) e2 g3 he2 hne12 g4 hG2 ((g5 a).2 (Or.inr rfl)) hI2
      have hcut := yCut hev (fun z => yD (yRe n bk nH v z))
      rw [yX_one 1024 _ (yIx y a) g3] at hcut
      · rw [w1] at hcut
        have hc1 : ∀ z, yI (yIx y a) z = true → (yD (yRe n bk nH v z) = true ↔ z = y) := by
          intro z hz
          rw [yD_iff]
          constructor
          · intro hr
            rcases (g5 z).1 hz with c | c
            · exact c
            · rw [c] at hr; exact absurd hr (hnot a hna)
          · intro c; rw [c]; exact hry
        have gn := yGr_nodes hG g4
        have hya := yGr_of hG hy hbk
        have hd1 := (yI_ends hG g4 (v := (yIx y a)/32)).2 (Or.inl rfl)
        have hd2 := (yI_ends hG g4 (v := (yIx y a)%32)).2 (Or.inr rfl)
        have hy' := (yI_ends hG g4 (v := y)).1 ((g5 y).2 (Or.inl rfl))
        rcases hy' with c | c
        · have t1 : yD (yRe n bk nH v ((yIx y a)/32)) = true := (hc1 _ hd1).2 c.symm
          have t2 : yD (yRe n bk nH v ((yIx y a)%32)) = false := by
            cases hh : yD (yRe n bk nH v ((yIx y a)%32)) with
            | false => rfl
            | true => have := (hc1 _ hd2).1 hh; omega
          rw [t1, t2] at hcut; cases hcut
        · have t2 : yD (yRe n bk nH v ((yIx y a)%32)) = true := (hc1 _ hd2).2 c.symm
          have t1 : yD (yRe n bk nH v ((yIx y a)/32)) = false := by
            cases hh : yD (yRe n bk nH v ((yIx y a)/32)) with
            | false => rfl
            | true => have := (hc1 _ hd1).1 hh; omega
          rw [t1, t2] at hcut; cases hcut
      · intro e he hne
        cases hwe : w e with
        | false => rfl
        | true =>
          have hge := hw e he hwe
          have gn := yGr_nodes hG hge
          have hd1 := (yI_ends hG hge (v := e/32)).2 (Or.inl rfl)
          have hd2 := (yI_ends hG hge (v := e%32)).2 (Or.inr rfl)
          have hat : ∀ q, yI e q = true → yM be q = true → q < 32 → e = e2 := by
            intro q hq hbq hq32
            rw [huniq q hq32 hbq] at hq
            rcases hw3 e he hwe hq with c | c
            · exact absurd c hne
            · exact c
          have h2off : ∀ q, yI e2 q = true → ¬ yRe n bk nH v q := fun q hq => hnot q ((hG.2.2.2.1 q (yI_lt he2 hq)).2 ⟨e2, he2, hH2, hq⟩)
          by_cases c1 : yRe n bk nH v (e/32)
          · by_cases c2 : yRe n bk nH v (e%32)
            · rw [yD_pos c1, yD_pos c2]; rfl
            · exfalso
              have := hx e _ _ he hge hd1 hd2 c1 c2
              have he2' := hat _ hd2 this.1 this.2
              exact h2off _ (by rw [← he2']; exact hd1) c1
          · by_cases c2 : yRe n bk nH v (e%32)
            · exfalso
              have := hx e _ _ he hge hd2 hd1 c2 c1
              have he2' := hat _ hd1 this.1 this.2
              exact h2off _ (by rw [← he2']; exact hd2) c2
            · rw [yD_neg c1, yD_neg c2]; rfl
  · exfalso
    have := hC (fun z => yD (yRe n bk nH v z)) (by
      intro e p q he hg hp hq
      by_cases c1 : yRe n bk nH v p
      · by_cases c2 : yRe n bk nH v q
        · rw [yD_pos c1, yD_pos c2]
        · exfalso
          have := hx e p q he hg hp hq c1 c2
          exact hex ⟨q, this.2, this.1⟩
      · by_cases c2 : yRe n bk nH v q
        · exfalso
          have := hx e q p he hg hq hp c2 c1
          exact hex ⟨p, this.2, this.1⟩
        · rw [yD_neg c1, yD_neg c2]) e0 eH v (eH/32) he0.1 heH he0.2.1 hGH hI0 ((yI_ends hG hGH).2 (Or.inl rfl))
    rw [yD_pos (yRe_refl v), yD_neg (hnot _ hHon)] at this
    cases this

-- the lowest of two ends, and the way over a piece
theorem yM_least2 {x : Int32} {a : Nat} (_ : a < 32) (h : yM x a = true) : ∃ k, k ≤ a ∧ yM x k = true ∧ ∀ i, i < k → yM x i = false := by
  have hne : ¬ x = 0 := by intro e; rw [e, yM_zero] at h; cases h
  obtain ⟨k, hk, h1, h2⟩ := yM_least hne
  refine ⟨k, ?_, h1, h2⟩
  by_cases c : k ≤ a
  · exact c
  · have := h2 a (by omega); rw [h] at this; cases this

section
variable {n : Nat} {bk : Nat → Int32}

theorem yPth_chord {inH : Nat → Int32} {nH : Int32} (hG : yGH n bk inH nH) {a b : Nat} (hc : yChd n bk inH nH a b) :
    yPth n bk inH nH (yIx a b) 2 (fun k => if k = 0 then a else b) := by
  obtain ⟨g1, g2, g3, g4⟩ := yChd_fr hG hc
  obtain ⟨h1, h2, h3, h4, h5, h6⟩ := hc
  refine ⟨by omega, by omega, ?_, ?_, ?_, ?_, ?_, ?_⟩
  · intro k _; dsimp only; split <;> omega
  · intro i j hi hj he
    dsimp only at he
    by_cases c1 : i = 0 <;> by_cases c2 : j = 0
    · omega
    · rw [if_pos c1, if_neg c2] at he; omega
    · rw [if_neg c1, if_pos c2] at he; omega
    · omega
  · intro k hk
    have : k = 0 := by omega
    subst this
    exact ⟨g1, rfl⟩
  · intro k h0 hk; omega
  · exact h3
  · exact h4

theorem yPth_over {inH : Nat → Int32} {nH be bo others : Int32} (hG : yGH n bk inH nH) {v e0 a L : Nat} {pn : Nat → Nat} (_ : v < n) (hv : yM nH v = false) (he0 : yFr n bk inH e0) (hI0 : yI e0 v = true)
    (hbo : ∀ y, y < 32 → (yM bo y = true ↔ yRe n bk nH v y)) (hbe : ∀ w, w < 32 → yM be w = true → yM nH w = true) (hba : yM be a = true) (hot : ∀ w, w < 32 → yM others w = true → yM be w = true)
    (hW : yWy n bk a bo others 100 L pn) (hL3 : 3 ≤ L) : yPth n bk inH nH e0 L pn := by
  obtain ⟨h1, h2, h3, h4, h5, h6, h7, h8⟩ := hW
  have hn := hG.1
  have ha : a < n := by rw [← h3]; exact h5 0 (by omega)
  have hin : ∀ k, 0 < k → k + 1 < L → yRe n bk nH v (pn k) := fun k h0 hk => (hbo _ (by have := h5 k (by omega); omega)).1 (h8 k h0 hk).1
  have hoff : ∀ k, 0 < k → k + 1 < L → yM nH (pn k) = false := fun k h0 hk => yRe_off hv (hin k h0 hk)
  have hpc0 := yPk_off hG he0 hI0 hv
  refine ⟨by omega, by omega, h5, h7, ?_, hoff, ?_, ?_⟩
  · intro k hk
    have g1 := h5 k (by omega); have g2 := h5 _ hk
    obtain ⟨q1, q2, q3, q4, q5⟩ := yGr_of hG g1 (h6 k hk).1
    by_cases c : 0 < k
    · have hF := yFr_off hG g1 (h6 k hk).1 (Or.inl (hoff k c hk))
      refine ⟨hF, ?_⟩
      rw [yPk_off hG hF ((q5 (pn k)).2 (Or.inl rfl)) (hoff k c hk), hpc0, yCp_eq hG hv (hin k c hk)]
    · have hF := yFr_off hG g1 (h6 k hk).1 (Or.inr (hoff (k+1) (by omega) (by omega)))
      refine ⟨hF, ?_⟩
      rw [yPk_off hG hF ((q5 (pn (k+1))).2 (Or.inr rfl)) (hoff (k+1) (by omega) (by omega)), hpc0, yCp_eq hG hv (hin (k+1) (by omega) (by omega))]
  · rw [h3]; exact hbe a (by omega) hba
  · have := h5 (L-1) (by omega)
    exact hbe _ (by omega) (hot _ (by omega) h4)
end

section
variable {n : Nat} {bk : Nat → Int32}

theorem w9_embed113 (hE : yNb 1024 (yGr (yGm n bk)) ≤ 57) {F L e0 bf : Nat} {inH fa fs fb old : Nat → Int32} {nH be bo : Int32} {pn : Nat → Nat}
    (hI : yEmI n bk inH nH fa fs fb F) (hP : yPth n bk inH nH e0 L pn)
    (hmin : ∀ e en, yFr n bk inH e → yEb n bk inH nH e en → bf ≤ yCnt F fb en) (he0 : yFr n bk inH e0) (hen : yEb n bk inH nH e0 be) (hbf : bf = yCnt F fb be) (hbf1 : 1 ≤ bf)
    (i0 i1 i2 i3 i4 i11 i12 i13 i14 i15 i16 i17 : Int32)
    (K : Int32 → (Int32 × Int32 × Int32 × Int32 × Int32 × Int32 × (Nat → Int32) × (Nat → Int32) × (Nat → Int32) × (Nat → Int32) × (Nat → Int32) × (Nat → Int32) × (Nat → Int32) × (Nat → Int32)) → Prop)
    (B : (Nat → Int32) → (Nat → Int32) → (Nat → Int32) → (Nat → Int32) → (Nat → Int32) → (Nat → Int32) → (Nat → Int32) → (Nat → Int32) → Int32 → Int32 → Int32 → Int32 → Int32 → Int32 → Prop)
    (hB : ∀ x0 x1 x2 inH' fb' fa' fs' old' nH' x10 y1 y2 y3, yEmI n bk inH' nH' fa' fs' fb' (F+1) → yNb 1024 (yGr (yGm n inH)) < yNb 1024 (yGr (yGm n inH')) →
      B x0 x1 x2 inH' fb' fa' fs' old' nH' (Int32.ofNat (F+1)) x10 y1 y2 y3) :
    (∀ u106 : Int32 × (Nat → Int32) × (Nat → Int32) × (Nat → Int32), u106.1 = Int32.ofNat L → (∀ k, k < L → u106.2.2.2 k = Int32.ofNat (pn k)) →
      ∃ n113, wLX9_embed_113 i0 i1 i2 i3 i4 i11 i12 i13 i14 i15 i16 i17 inH fb fa fs old nH (Int32.ofNat F) (be, bo, Int32.ofNat bf) u106 K B n113 0) ∧
    (L = 2 → ∀ t0 t1 g94, (∀ k, k < L → g94 k = Int32.ofNat (pn k)) →
      ∃ n113, wLX9_embed_113_1 i0 i1 i2 i3 i4 i11 i12 i13 i14 i15 i16 i17 t0 t1 inH fb fa fs old nH (Int32.ofNat F) (be, bo, Int32.ofNat bf) g94 K B n113 0) := by
  have h0eq : (0 : Int32) = Int32.ofNat 0 := rfl
  have hF56 := yEmI_F hI hE
  obtain ⟨f0, hf0, had0⟩ := yNb_ex1 (m := F) (p := fun f => yAd (fb f) be) (by have h : yCnt F fb be = yNb F (fun f => yAd (fb f) be) := rfl; omega)
  constructor
  · intro u106 hu hpt
    refine ⟨f0 - 0 + 1, ?_⟩
    rw [h0eq]
    have loop : ∀ d f, f0 - f = d → f ≤ f0 → wLX9_embed_113 i0 i1 i2 i3 i4 i11 i12 i13 i14 i15 i16 i17 inH fb fa fs old nH (Int32.ofNat F) (be, bo, Int32.ofNat bf) u106 K B (d+1) (Int32.ofNat f) := by
      intro d
      induction d with
      | zero =>
        intro f hd hf
        have : f = f0 := by omega
        subst this
        unfold wLX9_embed_113
        rw [yn_nat (by omega)]
        refine ⟨yn_in (by omega) (by omega), fun _ => ?_, fun hh => absurd (of_decide_eq_true had0) hh⟩
        rw [hu]
        exact w9_splitJoin hI hE hP hpt hmin he0 hen hbf (by omega) had0 (fun u141 u146 => B (u106.2.2.1) (u106.2.1) (u106.2.2.2) (u146.2) (u141.2.2.2.1) (u141.2.2.2.2) (u141.2.1) (u141.2.2.1) (u146.1) (u141.1) (Int32.ofNat L) be bo (Int32.ofNat bf))
          (fun fs' old' fb' fa' nH' inH' hI' hlt => hB _ _ _ _ _ _ _ _ _ _ _ _ _ hI' hlt) i0 i1 i2 i3 i4 _ _ _ i11 i12 i13 i14 i15 i16 i17
      | succ d ih =>
        intro f hd hf
        have e1 : Int32.ofNat f + 1 = Int32.ofNat (f+1) := yn_add f 1
        unfold wLX9_embed_113
        rw [yn_nat (by omega), e1]
        refine ⟨yn_in (by omega) (by omega), fun hh => ?_, fun _ => ih (f+1) (by omega) (by omega)⟩
        rw [hu]
        exact w9_splitJoin hI hE hP hpt hmin he0 hen hbf (by omega) (decide_eq_true hh) (fun u141 u146 => B (u106.2.2.1) (u106.2.1) (u106.2.2.2) (u146.2) (u141.2.2.2.1) (u141.2.2.2.2) (u141.2.1) (u141.2.2.1) (u146.1) (u141.1) (Int32.ofNat L) be bo (Int32.ofNat bf))
          (fun fs' old' fb' fa' nH' inH' hI' hlt => hB _ _ _ _ _ _ _ _ _ _ _ _ _ hI' hlt) i0 i1 i2 i3 i4 _ _ _ i11 i12 i13 i14 i15 i16 i17
    exact loop (f0 - 0) 0 rfl (by omega)
  · intro hL2 t0 t1 g94 hpt
    refine ⟨f0 - 0 + 1, ?_⟩
    rw [h0eq]
    have h2eq : (2 : Int32) = Int32.ofNat L := by rw [hL2]; rfl
    have loop : ∀ d f, f0 - f = d → f ≤ f0 → wLX9_embed_113_1 i0 i1 i2 i3 i4 i11 i12 i13 i14 i15 i16 i17 t0 t1 inH fb fa fs old nH (Int32.ofNat F) (be, bo, Int32.ofNat bf) g94 K B (d+1) (Int32.ofNat f) := by
      intro d
      induction d with
      | zero =>
        intro f hd hf
        have : f = f0 := by omega
        subst this
        unfold wLX9_embed_113_1
        rw [yn_nat (by omega)]
        refine ⟨yn_in (by omega) (by omega), fun _ => ?_, fun hh => absurd (of_decide_eq_true had0) hh⟩
        rw [h2eq]
        exact w9_splitJoin hI hE hP hpt hmin he0 hen hbf (by omega) had0 (fun u141 u146 => B t0 t1 g94 (u146.2) (u141.2.2.2.1) (u141.2.2.2.2) (u141.2.1) (u141.2.2.1) (u146.1) (u141.1) (Int32.ofNat L) be bo (Int32.ofNat bf))
          (fun fs' old' fb' fa' nH' inH' hI' hlt => hB _ _ _ _ _ _ _ _ _ _ _ _ _ hI' hlt) i0 i1 i2 i3 i4 _ _ _ i11 i12 i13 i14 i15 i16 i17
      | succ d ih =>
        intro f hd hf
        have e1 : Int32.ofNat f + 1 = Int32.ofNat (f+1) := yn_add f 1
        unfold wLX9_embed_113_1
        rw [yn_nat (by omega), e1]
        refine ⟨yn_in (by omega) (by omega), fun hh => ?_, fun _ => ih (f+1) (by omega) (by omega)⟩
        rw [h2eq]
        exact w9_splitJoin hI hE hP hpt hmin he0 hen hbf (by omega) (decide_eq_true hh) (fun u141 u146 => B t0 t1 g94 (u146.2) (u141.2.2.2.1) (u141.2.2.2.2) (u141.2.1) (u141.2.2.1) (u146.1) (u141.1) (Int32.ofNat L) be bo (Int32.ofNat bf))
          (fun fs' old' fb' fa' nH' inH' hI' hlt => hB _ _ _ _ _ _ _ _ _ _ _ _ _ hI' hlt) i0 i1 i2 i3 i4 _ _ _ i11 i12 i13 i14 i15 i16 i17
    exact loop (f0 - 0) 0 rfl (by omega)

theorem w9_embed27 (hE : yNb 1024 (yGr (yGm n bk)) ≤ 57) (hV : yV2 1024 yI (yGr (yGm n bk))) (hC : yCon n bk) {F bf : Nat} {inH fa fs fb old t0 t1 t2 : Nat → Int32} {nH be bo i7 : Int32}
    (hI : yEmI n bk inH nH fa fs fb F) (hbf1 : 1 ≤ bf)
    (hmin : ∀ e en, yFr n bk inH e → yEb n bk inH nH e en → bf ≤ yCnt F fb en)
    (hcase : (bo = 0 ∧ bf = yCnt F fb be ∧ ∃ a b, yChd n bk inH nH a b ∧ yBit2 a b be ∧ yEb n bk inH nH (yIx a b) be) ∨
     (∃ v e0, v < n ∧ yM nH v = false ∧ bf = yCnt F fb be ∧ (∀ y, y < 32 → (yM bo y = true ↔ yRe n bk nH v y)) ∧ yEo n bk nH v be ∧ yFr n bk inH e0 ∧ yI e0 v = true ∧ yEb n bk inH nH e0 be))
    (i0 i1 i2 i4 i11 i12 i13 i14 i15 i16 i17 : Int32)
    (K : Int32 → (Int32 × Int32 × Int32 × Int32 × Int32 × Int32 × (Nat → Int32) × (Nat → Int32) × (Nat → Int32) × (Nat → Int32) × (Nat → Int32) × (Nat → Int32) × (Nat → Int32) × (Nat → Int32)) → Prop)
    (B : (Nat → Int32) → (Nat → Int32) → (Nat → Int32) → (Nat → Int32) → (Nat → Int32) → (Nat → Int32) → (Nat → Int32) → (Nat → Int32) → Int32 → Int32 → Int32 → Int32 → Int32 → Int32 → Prop)
    (hB : ∀ x0 x1 x2 inH' fb' fa' fs' old' nH' x10 y1 y2 y3, yEmI n bk inH' nH' fa' fs' fb' (F+1) → yNb 1024 (yGr (yGm n inH)) < yNb 1024 (yGr (yGm n inH')) →
      B x0 x1 x2 inH' fb' fa' fs' old' nH' (Int32.ofNat (F+1)) x10 y1 y2 y3) :
    ∃ n27, wLX9_embed_27 i0 i1 i2 (Int32.ofNat n) i4 i11 i12 i13 i14 i15 i16 i17 bk t0 t1 t2 inH fb fa fs old nH (Int32.ofNat F) i7 (be, bo, Int32.ofNat bf) K B n27 0 := by
  have h0eq : (0 : Int32) = Int32.ofNat 0 := rfl
  have h1eq : (1 : Int32) = Int32.ofNat 1 := rfl
  have hIG := hI
  obtain ⟨sz, fc, fo, hS, hA, hG, hD, hPl, hF1, hEu, hV3⟩ := hIG
  have hn := hG.1
  have hHne : ∃ e, e < 1024 ∧ yGr (yGm n inH) e = true := by
    obtain ⟨e, he, hz⟩ := (yFs_used hn hS 0).2 (by omega)
    exact ⟨e, he, ((yZ_iff _ _ _ _ _).1 hz).1⟩
  -- two ends
  have h2 : ∃ a b, a ≠ b ∧ a < 32 ∧ b < 32 ∧ yM be a = true ∧ yM be b = true := by
    rcases hcase with ⟨_, _, a, b, hc, hb, _⟩ | ⟨v, e0, hv, hvo, _, _, heo, he0, hI0, _⟩
    · have := hc.1; have := hc.2.1
      exact ⟨a, b, by omega, by omega, by omega, (hb a (by omega)).2 (Or.inl rfl), (hb b (by omega)).2 (Or.inr rfl)⟩
    · exact yEnds2 hG hV hC hHne hv hvo he0 hI0 heo
  obtain ⟨x, y, hxy, hx, hy, hbx, hby⟩ := h2
  obtain ⟨a, hax, hba, hla⟩ := yM_least2 hx hbx
  have ha32 : a < 32 := by omega
  refine ⟨a - 0 + 1, ?_⟩
  rw [h0eq]
  have fin : wLX9_embed_27 i0 i1 i2 (Int32.ofNat n) i4 i11 i12 i13 i14 i15 i16 i17 bk t0 t1 t2 inH fb fa fs old nH (Int32.ofNat F) i7 (be, bo, Int32.ofNat bf) K B (0+1) (Int32.ofNat a) := by
    unfold wLX9_embed_27
    dsimp only
    rw [yM_test ha32, hba]
    refine ⟨fun _ v54 h54 => ?_, fun hh => absurd hh (by decide)⟩
    have hot : ∀ w, w < 32 → (yM v54 w = true ↔ (yM be w = true ∧ w ≠ a)) := by
      intro w hw
      rw [h54, yM_and, yM_not _ _ hw, yM_shl ha32 w hw]
      cases yM be w <;> simp
    have hoth : ∃ b, b < 32 ∧ yM v54 b = true := by
      by_cases c : x = a
      · exact ⟨y, hy, (hot y hy).2 ⟨hby, by omega⟩⟩
      · exact ⟨x, hx, (hot x hx).2 ⟨hbx, c⟩⟩
    refine ⟨fun hbo => ?_, fun hbo => ?_⟩
    · -- over a part
      rcases hcase with ⟨hbo0, _⟩ | ⟨v, e0, hv, hvo, hbfe, hboR, heo, he0, hI0, hen⟩
      · exact absurd hbo0 hbo
      have hbeN : ∀ w, w < 32 → yM be w = true → yM nH w = true := fun w hw h => ((heo w hw).1 h).1
      have han : a < n := by
        obtain ⟨_, z, hz, hrz, hbz⟩ := (heo a ha32).1 hba
        exact (yGr_of hG hz hbz).1
      refine w9_overPart hn bk a han bo v54 ?_ ?_ t1 t0 t2 i7 _ ?_ ?_ i0 i1 i2 i4 nH (Int32.ofNat F) be (Int32.ofNat bf) i11 i12 i13 i14 i15 i16 i17
      · intro w hw hbw
        have := yRe_off hvo ((hboR w hw).1 hbw)
        cases hh : yM v54 w with
        | false => rfl
        | true => rw [hbeN w hw ((hot w hw).1 hh).1] at this; cases this
      · cases hh : yM bo a with
        | false => rfl
        | true => have := yRe_off hvo ((hboR a ha32).1 hh); rw [hbeN a ha32 hba] at this; cases this
      · intro L pn pt bf' qu hW hL3 hpt
        have hP := yPth_over hG hv hvo he0 hI0 hboR hbeN hba (fun w hw h => ((hot w hw).1 h).1) hW hL3
        exact (w9_embed113 hE hI hP hmin he0 hen hbfe hbf1 i0 i1 i2 (Int32.ofNat n) i4 i11 i12 i13 i14 i15 i16 i17 K _ hB).1 (Int32.ofNat L, bf', qu, pt) rfl hpt
      · intro vis bf' qu hvn ha0 hcl hov
        exfalso
        obtain ⟨_, z, hz, hrz, hbz⟩ := (heo a ha32).1 hba
        have hza : yM (bk a) z = true := by
          have : yGm n bk z a = true := by unfold yGm; rw [decide_eq_true hz, hbz]; rfl
          rw [hG.2.2.1] at this
          unfold yGm at this; rw [Bool.and_eq_true] at this; exact this.2
        have hvz : vis z = true := ha0 z hz hza ((hboR z (by omega)).2 hrz)
        have hall : ∀ w, yRe n bk nH v w → w < n ∧ vis w = true := by
          intro w hw
          have hzw : yRe n bk nH z w := yRe_trans (yRe_symm hn hG.2.1 hG.2.2.1 hvo hrz) hw
          have := hzw (fun u => (yRe n bk nH v u ∧ u < n) ∧ vis u = true) ⟨⟨hrz, hz⟩, hvz⟩ (by
            rintro p q hp hq ⟨⟨hrp, _⟩, hvp⟩ hbp hnq
            have hrq := yRe_step hrp hp hq hbp hnq
            have hqn := (yGr_of hG hp hbp).1
            refine ⟨⟨hrq, hqn⟩, ?_⟩
            have hpa : p ≠ a := by intro e; rw [e] at hrp; have := yRe_off hvo hrp; rw [hbeN a ha32 hba] at this; cases this
            rcases hcl p q hvp hpa hqn hbp with c | c
            · exact c
            · rw [(hboR q hq).2 hrq] at c; exact absurd c.2 (by simp))
          exact ⟨this.1.2, this.2⟩
        obtain ⟨b, hb, hbo'⟩ := hoth
        have hb' := (hot b hb).1 hbo'
        obtain ⟨hnb, z', hz', hrz', hbz'⟩ := (heo b hb).1 hb'.1
        have hza' : z' ≠ a := by intro e; rw [e] at hrz'; have := yRe_off hvo hrz'; rw [hbeN a ha32 hba] at this; cases this
        rcases hcl z' b (hall z' hrz').2 hza' (yGr_of hG hz' hbz').1 hbz' with c | c
        · have := hov b c hb'.2
          have := yRe_off hvo ((hboR b hb).1 this)
          rw [hnb] at this; cases this
        · rw [hbo'] at c; exact absurd c.1 (by simp)
    · -- a chord
      rcases hcase with ⟨_, hbfe, a', b', hc, hbit, hen⟩ | ⟨v, e0, hv, hvo, hbfe, hboR, heo, he0, hI0, hen⟩
      · have hc1 := hc.1
        have hc2 := hc.2.1
        have haa : a = a' := by
          have h5 := (hbit a ha32).1 hba
          have h6 := hla a'
          rw [(hbit a' (by omega)).2 (Or.inl rfl)] at h6
          by_cases c : a' < a
          · have := h6 c; cases this
          · omega
        have hb54 : ∀ w, w < 32 → (yM v54 w = true ↔ w = b') := by
          intro w hw
          rw [hot w hw, hbit w hw]; omega
        refine ⟨b' - 0 + 1, ?_⟩
        have h65 : ∀ d j, b' - j = d → j ≤ b' → wLX9_embed_65 i0 i1 i2 (Int32.ofNat n) i4 i11 i12 i13 i14 i15 i16 i17 t0 t1 t2 inH fb fa fs old nH (Int32.ofNat F) (be, bo, Int32.ofNat bf) (Int32.ofNat a) v54 K
            (fun z0 z1 z2 z3 z4 z5 z6 z7 z8 z9 z10 z11 z12 z13 => B z0 z1 z2 z3 z4 z5 z6 z7 z8 z9 z10 z11 z12 z13) (d+1) (Int32.ofNat j) := by
          intro d
          induction d with
          | zero =>
            intro j hd hj
            have : j = b' := by omega
            subst this
            unfold wLX9_embed_65
            rw [yM_test (by omega), (hb54 j (by omega)).2 rfl]
            refine ⟨fun _ g86 h86 g94 h94 => ?_, fun hh => absurd hh (by decide)⟩
            have hP := yPth_chord hG hc
            refine (w9_embed113 hE hI hP hmin (yChd_fr hG hc).1 hen hbfe hbf1 i0 i1 i2 (Int32.ofNat n) i4 i11 i12 i13 i14 i15 i16 i17 K _ hB).2 rfl t0 t1 g94 ?_
            intro k hk
            rw [h94, h86, haa]
            have ez : Int32.toNatClampNeg (0 : Int32) = 0 := by decide
            have eo : Int32.toNatClampNeg (1 : Int32) = 1 := by decide
            rw [ez, eo]
            by_cases c : k = 0
            · rw [c, yupd_ne _ _ _ _ (by omega), yupd_same]; simp
            · rw [show k = 1 by omega, yupd_same]; simp
          | succ d ih =>
            intro j hd hj
            have e1 : Int32.ofNat j + 1 = Int32.ofNat (j+1) := yn_add j 1
            unfold wLX9_embed_65
            rw [yM_test (by omega), e1]
            refine ⟨fun hh => ?_, fun _ => ih (j+1) (by omega) (by omega)⟩
            exfalso
            cases hb : yM v54 j with
            | false => rw [hb] at hh; exact hh rfl
            | true => have := (hb54 j (by omega)).1 hb; omega
        rw [h0eq]
        exact h65 (b' - 0) 0 rfl (by omega)
      · exfalso
        have := (hboR v (by omega)).2 (yRe_refl v)
        rw [hbo, yM_zero] at this; cases this
  have loop : ∀ d j, a - j = d → j ≤ a → wLX9_embed_27 i0 i1 i2 (Int32.ofNat n) i4 i11 i12 i13 i14 i15 i16 i17 bk t0 t1 t2 inH fb fa fs old nH (Int32.ofNat F) i7 (be, bo, Int32.ofNat bf) K B (d+1) (Int32.ofNat j) := by
    intro d
    induction d with
    | zero =>
      intro j hd hj
      have : j = a := by omega
      rw [this]; exact fin
    | succ d ih =>
      intro j hd hj
      have e1 : Int32.ofNat j + 1 = Int32.ofNat (j+1) := yn_add j 1
      unfold wLX9_embed_27
      rw [e1]
      dsimp only
      rw [yM_test (by omega), hla j (by omega)]
      exact ⟨fun hh => absurd rfl hh, fun _ => ih (j+1) (by omega) (by omega)⟩
  exact loop (a - 0) 0 rfl (by omega)
end

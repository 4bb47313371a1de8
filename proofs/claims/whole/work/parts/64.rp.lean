
-- FILLED step by step
def yFlI (n : Nat) (g : Nat → Nat → Bool) (c : Nat) (C : Nat → Nat → Bool) : Prop :=
  ySg n g ∧ ySg n C ∧ (∀ v w, g v w = true → C v w = true) ∧ ∀ a b, a < b → b < n → g a b = false →
    (yIx a b < c → (C a b = true ↔ yPln n (yAddE (yUp g C (yIx a b)) a b))) ∧ (c ≤ yIx a b → C a b = false)

section
variable {n c : Nat} {g C : Nat → Nat → Bool}

theorem yFlI_begin (hg : ySg n g) : yFlI n g 0 g :=
  ⟨hg, hg, fun _ _ h => h, fun _ _ _ _ h => ⟨fun hh => by omega, fun _ => h⟩⟩

theorem yFlI_move {c' : Nat} (h : yFlI n g c C) (hc : c ≤ c') (hno : ∀ p q, p < q → q < n → c ≤ yIx p q → yIx p q < c' → False) : yFlI n g c' C := by
  refine ⟨h.1, h.2.1, h.2.2.1, ?_⟩
  intro a b hab hb hga
  obtain ⟨h1, h2⟩ := h.2.2.2 a b hab hb hga
  refine ⟨fun hh => ?_, fun hh => h2 (by omega)⟩
  by_cases d : yIx a b < c
  · exact h1 d
  · exact (hno a b hab hb (by omega) hh).elim

theorem yFlI_up (h : yFlI n g c C) : yUp g C c = C := by
  funext v w
  unfold yUp
  cases hC : C v w with
  | false =>
    cases hg : g v w with
    | false => rfl
    | true => have := h.2.2.1 v w hg; rw [hC] at this; cases this
  | true =>
    cases hg : g v w with
    | true => rfl
    | false =>
      have hv := h.2.1.1 v w hC
      have : yIx v w < c := by
        rcases Nat.lt_or_ge (yIx v w) c with d | d
        · exact d
        · exfalso
          rcases Nat.lt_or_ge v w with e | e
          · have := (h.2.2.2 v w e hv.2.1 hg).2 d
            rw [hC] at this; cases this
          · have := (h.2.2.2 w v (by omega) hv.1 (by rw [h.1.2]; exact hg)).2 (by rw [yIx_comm]; exact d)
            rw [h.2.1.2, hC] at this; cases this
      rw [decide_eq_true this]; rfl

theorem yUp_addE {a b d : Nat} (hn : n ≤ 32) (hC : ySg n C) (ha : a < n) (hb : b < n) (hd : d ≤ yIx a b) : yUp g (yAddE C a b) d = yUp g C d := by
  funext v w
  unfold yUp yAddE
  congr 1
  by_cases e : (v = a ∧ w = b) ∨ (v = b ∧ w = a)
  · have : yIx v w = yIx a b := by
      rcases e with e | e
      · rw [e.1, e.2]
      · rw [e.1, e.2, yIx_comm]
    rw [decide_eq_false (by omega : ¬ yIx v w < d), Bool.and_false, Bool.and_false]
  · rw [decide_eq_false e, Bool.or_false]

theorem yFlI_keep {a b : Nat} (h : yFlI n g (yIx a b) C) (hn : n ≤ 32) (hab : a < b) (hb : b < n) (hC : C a b = true) : yFlI n g (yIx a b + 1) C := by
  refine ⟨h.1, h.2.1, h.2.2.1, ?_⟩
  intro p q hpq hq hg
  obtain ⟨h1, h2⟩ := h.2.2.2 p q hpq hq hg
  refine ⟨fun hh => ?_, fun hh => h2 (by omega)⟩
  by_cases d : yIx p q < yIx a b
  · exact h1 d
  · exfalso
    have he : yIx p q = yIx a b := by omega
    rcases yIx_inj (by omega) (by omega) (by omega) (by omega) he with e | e
    · have := h2 (by omega); rw [e.1, e.2, hC] at this; cases this
    · omega

theorem yFlI_add {a b : Nat} (h : yFlI n g (yIx a b) C) (hn : n ≤ 32) (hab : a < b) (hb : b < n) (_ : C a b = false) (hp : yPln n (yAddE C a b)) : yFlI n g (yIx a b + 1) (yAddE C a b) := by
  refine ⟨h.1, yAddE_gs h.2.1 (by omega) hb (by omega), fun v w hv => by unfold yAddE; rw [h.2.2.1 v w hv]; rfl, ?_⟩
  intro p q hpq hq hg
  obtain ⟨h1, h2⟩ := h.2.2.2 p q hpq hq hg
  have hne : yIx p q ≠ yIx a b → yAddE C a b p q = C p q := by
    intro hh
    unfold yAddE
    have : ¬ ((p = a ∧ q = b) ∨ (p = b ∧ q = a)) := by
      rintro (e | e)
      · rw [e.1, e.2] at hh; exact hh rfl
      · omega
    rw [decide_eq_false this, Bool.or_false]
  refine ⟨fun hh => ?_, fun hh => ?_⟩
  · by_cases d : yIx p q < yIx a b
    · rw [hne (by omega), yUp_addE hn h.2.1 (by omega) hb (by omega)]
      exact h1 d
    · have he : yIx p q = yIx a b := by omega
      rcases yIx_inj (by omega) (by omega) (by omega) (by omega) he with e | e
      · rw [e.1, e.2, yUp_addE hn h.2.1 (by omega) hb (by omega), yFlI_up h]
        constructor
        · intro _; exact hp
        · intro _; unfold yAddE; simp
      · omega
  · rw [hne (by omega)]; exact h2 (by omega)

theorem yFlI_no {a b : Nat} (h : yFlI n g (yIx a b) C) (hn : n ≤ 32) (hab : a < b) (hb : b < n) (hC : C a b = false) (hp : ¬ yPln n (yAddE C a b)) : yFlI n g (yIx a b + 1) C := by
  refine ⟨h.1, h.2.1, h.2.2.1, ?_⟩
  intro p q hpq hq hg
  obtain ⟨h1, h2⟩ := h.2.2.2 p q hpq hq hg
  refine ⟨fun hh => ?_, fun hh => h2 (by omega)⟩
  by_cases d : yIx p q < yIx a b
  · exact h1 d
  · have he : yIx p q = yIx a b := by omega
    rcases yIx_inj (by omega) (by omega) (by omega) (by omega) he with e | e
    · rw [e.1, e.2, yFlI_up h]
      constructor
      · intro hh; rw [hC] at hh; cases hh
      · intro hh; exact absurd hh hp
    · omega

theorem yFlI_stop {c' : Nat} (h : yFlI n g c C) (hc : c ≤ c') (hn : n ≤ 32) (hno : ∀ a b, a < b → b < n → C a b = false → ¬ yPln n (yAddE C a b)) : yFlI n g c' C := by
  refine ⟨h.1, h.2.1, h.2.2.1, ?_⟩
  intro p q hpq hq hg
  obtain ⟨h1, h2⟩ := h.2.2.2 p q hpq hq hg
  refine ⟨fun hh => ?_, fun hh => h2 (by omega)⟩
  by_cases d : yIx p q < c
  · exact h1 d
  · have hC := h2 (by omega)
    have : yUp g C (yIx p q) = C := yFlI_up (c := yIx p q) ⟨h.1, h.2.1, h.2.2.1, by
      intro a b hab hb hga
      obtain ⟨k1, k2⟩ := h.2.2.2 a b hab hb hga
      by_cases e : yIx a b < c
      · exact ⟨fun _ => k1 e, fun hh => by omega⟩
      · have hC' := k2 (by omega)
        refine ⟨fun _ => ?_, fun _ => hC'⟩
        constructor
        · intro hh; rw [hC'] at hh; cases hh
        · intro hh
          exfalso
          -- a pair that was not reached yet: refused all the same
          refine hno a b hab hb hC' ?_
          have hu : yUp g C (yIx a b) = C := by
            funext v w
            unfold yUp
            cases hCv : C v w with
            | false =>
              cases hgv : g v w with
              | false => rfl
              | true => have := h.2.2.1 v w hgv; rw [hCv] at this; cases this
            | true =>
              cases hgv : g v w with
              | true => rfl
              | false =>
                have hv := h.2.1.1 v w hCv
                have : yIx v w < c := by
                  rcases Nat.lt_or_ge (yIx v w) c with d' | d'
                  · exact d'
                  · exfalso
                    rcases Nat.lt_or_ge v w with e' | e'
                    · have := (h.2.2.2 v w e' hv.2.1 hgv).2 d'
                      rw [hCv] at this; cases this
                    · have := (h.2.2.2 w v (by omega) hv.1 (by rw [h.1.2]; exact hgv)).2 (by rw [yIx_comm]; exact d')
                      rw [h.2.1.2, hCv] at this; cases this
                rw [decide_eq_true (by omega : yIx v w < yIx a b)]; rfl
          rw [hu] at hh; exact hh⟩
    rw [this]
    constructor
    · intro hh; rw [hC] at hh; cases hh
    · intro hh; exact absurd hh (hno p q hpq hq hC)

theorem yFlI_end (h : yFlI n g c C) (hc : ∀ a b, a < b → b < n → yIx a b < c) : yFl n g C :=
  ⟨h.2.1, h.2.2.1, fun a b hab hb hga => (h.2.2.2 a b hab hb hga).1 (hc a b hab hb)⟩

theorem yIx_of {a b : Nat} (h : a < b) : yIx a b = 32 * a + b := by unfold yIx; rw [if_pos h]
end


-- an edge more in the masks
theorem yGm_or {n a b : Nat} (hn : n ≤ 32) (ha : a < n) (hb : b < n) (hab : a ≠ b) (t : Nat → Int32) :
    yGm n (upd (upd t a (t a ||| ((1 : Int32) <<< (Int32.ofNat b &&& 31)))) b ((upd t a (t a ||| ((1 : Int32) <<< (Int32.ofNat b &&& 31)))) b ||| ((1 : Int32) <<< (Int32.ofNat a &&& 31)))) = yAddE (yGm n t) a b := by
  funext v w
  unfold yGm yAddE
  dsimp only
  by_cases hw : w < 32
  · by_cases hv : v < n
    · rw [decide_eq_true hv, Bool.true_and, Bool.true_and]
      by_cases c1 : v = b
      · rw [c1, yupd_same, yupd_ne _ _ _ _ (Ne.symm hab), yM_or, yM_shl (by omega) w hw]
        congr 1
        rw [decide_eq_decide]; omega
      · rw [yupd_ne _ _ _ _ c1]
        by_cases c2 : v = a
        · rw [c2, yupd_same, yM_or, yM_shl (by omega) w hw]
          congr 1
          rw [decide_eq_decide]; omega
        · rw [yupd_ne _ _ _ _ c2, decide_eq_false (by omega : ¬ ((v = a ∧ w = b) ∨ (v = b ∧ w = a))), Bool.or_false]
    · rw [decide_eq_false hv, decide_eq_false (by omega : ¬ ((v = a ∧ w = b) ∨ (v = b ∧ w = a)))]; rfl
  · rw [yM_big _ _ (by omega), yM_big _ _ (by omega), decide_eq_false (by omega : ¬ ((v = a ∧ w = b) ∨ (v = b ∧ w = a)))]; simp

theorem yGm_xor {n a b : Nat} (hn : n ≤ 32) (ha : a < n) (hb : b < n) (hab : a ≠ b) (t : Nat → Int32) (v w : Nat) :
    yGm n (upd (upd t a (t a ^^^ ((1 : Int32) <<< (Int32.ofNat b &&& 31)))) b ((upd t a (t a ^^^ ((1 : Int32) <<< (Int32.ofNat b &&& 31)))) b ^^^ ((1 : Int32) <<< (Int32.ofNat a &&& 31)))) v w =
      Bool.xor (yGm n t v w) (decide ((v = a ∧ w = b) ∨ (v = b ∧ w = a))) := by
  unfold yGm
  by_cases hw : w < 32
  · by_cases hv : v < n
    · rw [decide_eq_true hv, Bool.true_and, Bool.true_and]
      by_cases c1 : v = b
      · rw [c1, yupd_same, yupd_ne _ _ _ _ (Ne.symm hab), yM_xor, yM_shl (by omega) w hw]
        congr 1
        rw [decide_eq_decide]; omega
      · rw [yupd_ne _ _ _ _ c1]
        by_cases c2 : v = a
        · rw [c2, yupd_same, yM_xor, yM_shl (by omega) w hw]
          congr 1
          rw [decide_eq_decide]; omega
        · rw [yupd_ne _ _ _ _ c2, decide_eq_false (by omega : ¬ ((v = a ∧ w = b) ∨ (v = b ∧ w = a))), Bool.xor_false]
    · rw [decide_eq_false hv, decide_eq_false (by omega : ¬ ((v = a ∧ w = b) ∨ (v = b ∧ w = a)))]; rfl
  · rw [yM_big _ _ (by omega), yM_big _ _ (by omega), decide_eq_false (by omega : ¬ ((v = a ∧ w = b) ∨ (v = b ∧ w = a)))]; simp

theorem yGm_congr {n : Nat} {f g : Nat → Int32} (h : ∀ v, v < n → f v = g v) : yGm n f = yGm n g := by
  funext v w
  unfold yGm
  by_cases hv : v < n
  · rw [h v hv]
  · rw [decide_eq_false hv, Bool.false_and, Bool.false_and]

theorem w9_takeFilled {n : Nat} (hn : n ≤ 20) (fl g : Nat → Int32) (K : (Nat → Int32) → Prop) (hK : ∀ g', (∀ v, v < n → g' v = fl v) → (∀ v, n ≤ v → g' v = g v) → K g')
    (i1 i2 i3 i4 i5 i6 i7 i8 i9 i10 i11 i12 i13 i14 i15 i16 i17 : Int32) :
    wX9_takeFilled (Int32.ofNat n) i1 i2 i3 i4 i5 i6 i7 i8 i9 i10 i11 i12 i13 i14 i15 i16 i17 fl g K := by
  have key : ∀ d v t, n - v = d → v ≤ n → (∀ u, u < v → t u = fl u) → (∀ u, v ≤ u → t u = g u) → wLX9_takeFilled_2 (Int32.ofNat n) fl K (d+1) t (Int32.ofNat v) := by
    intro d
    induction d with
    | zero =>
      intro v t hd hv h1 h2
      unfold wLX9_takeFilled_2
      refine ⟨fun _ => hK t (fun u hu => h1 u (by omega)) (fun u hu => h2 u (by omega)), fun hh => ?_⟩
      exfalso; apply hh; rw [yn_le (by omega) (by omega)]; omega
    | succ d ih =>
      intro v t hd hv h1 h2
      have e1 : Int32.ofNat v + 1 = Int32.ofNat (v+1) := yn_add v 1
      unfold wLX9_takeFilled_2
      rw [e1, yn_nat (by omega)]
      refine ⟨fun hh => ?_, fun _ => ⟨yn_in (by omega) (by omega), yn_in (by omega) (by omega), fun g21 h21 => ?_⟩⟩
      · exfalso; rw [yn_le (by omega) (by omega)] at hh; omega
      · refine ih (v+1) g21 (by omega) (by omega) ?_ ?_
        · intro u hu
          rw [h21]
          by_cases c : u = v
          · rw [c, yupd_same]
          · rw [yupd_ne _ _ _ _ c]; exact h1 u (by omega)
        · intro u hu
          rw [h21, yupd_ne _ _ _ _ (by omega)]; exact h2 u (by omega)
  unfold wX9_takeFilled
  exact ⟨n - 0 + 1, key (n-0) 0 g rfl (by omega) (fun u hu => by omega) (fun u _ => rfl)⟩

theorem w9_fill {n : Nat} (hn : n ≤ 20) (sm : Nat → Int32) (hs : ySg n (yGm n sm)) (hp : yPln n (yGm n sm))
    (i1 i2 i4 i5 i6 i7 i8 i9 i10 i11 i12 i13 i14 i15 i16 i17 : Int32) (f18 f19 f20 f21 f22 f23 f24 f25 f26 f27 f28 f29 f30 f31 : Nat → Int32)
    (K : (Int32 × Int32 × Int32 × Int32 × Int32 × Int32 × Int32 × (Nat → Int32) × (Nat → Int32) × (Nat → Int32) × (Nat → Int32) × (Nat → Int32) × (Nat → Int32) × (Nat → Int32) × (Nat → Int32) × (Nat → Int32) × (Nat → Int32) × (Nat → Int32) × (Nat → Int32) × (Nat → Int32) × (Nat → Int32)) → Prop)
    (hK : ∀ fl g, yFl n (yGm n sm) (yGm n fl) → (∀ v, v < n → g v = fl v) → ∀ x0 x1 x2 x3 x4 x5 x6 x7 x8 x9 x10 x11 x12 x13 x14 x15 x16 x17 x18,
      yAfter n g (x0, x1, x2, x3, x4, x5, x6, x7, x8, x9, x10, x11, x12, x13, x14, x15, x16, x17, x18) → K (x0, x1, x2, x3, x4, x5, x6, fl, g, x7, x8, x9, x10, x11, x12, x13, x14, x15, x16, x17, x18)) :
    wX9_fill (Int32.ofNat n) i1 i2 (Int32.ofNat n) i4 i5 i6 i7 i8 i9 i10 i11 i12 i13 i14 i15 i16 i17 f18 f19 f20 f21 f22 f23 f24 f25 f26 f27 f28 f29 f30 f31 sm K := by
  have h0eq : (0 : Int32) = Int32.ofNat 0 := rfl
  have h1eq : (1 : Int32) = Int32.ofNat 1 := rfl
  -- the inner loop
  have h42 : ∀ (a : Nat) (_ : a < n) (B : (Nat → Int32) → (Nat → Int32) → (Nat → Int32) → (Nat → Int32) → (Nat → Int32) → (Nat → Int32) → (Nat → Int32) → (Nat → Int32) → (Nat → Int32) → (Nat → Int32) → (Nat → Int32) → (Nat → Int32) → (Nat → Int32) → (Nat → Int32) → Int32 → Int32 → Int32 → Int32 → Int32 → Int32 → Int32 → Int32 → Prop)
      (_ : ∀ fl t1 t2 t3 t4 t5 t6 t7 t8 t9 t10 t11 t12 t13 t14 t15 t16 t17 t18 t19 t20, yFlI n (yGm n sm) (32 * a + n) (yGm n fl) → B fl t1 t2 t3 t4 t5 t6 t7 t8 t9 t10 t11 t12 t13 t14 t15 t16 t17 t18 t19 t20 (Int32.ofNat (a+1))),
      ∀ d b fl t1 t2 t3 t4 t5 t6 t7 t8 t9 t10 t11 t12 t13 t14 t15 t16 t17 t18 t19 t20, n - b = d → b ≤ n → a < b → yFlI n (yGm n sm) (32 * a + b) (yGm n fl) →
        wLX9_fill_42 (Int32.ofNat n) i1 i2 (Int32.ofNat n) i11 i12 i13 i14 i15 i16 i17 (Int32.ofNat a) K B (d+1) fl t1 t2 t3 t4 t5 t6 t7 t8 t9 t10 t11 t12 t13 t14 t15 t16 t17 t18 t19 t20 (Int32.ofNat b) := by
    intro a ha B hB d
    have ea : Int32.ofNat a + 1 = Int32.ofNat (a+1) := yn_add a 1
    induction d with
    | zero =>
      intro b fl t1 t2 t3 t4 t5 t6 t7 t8 t9 t10 t11 t12 t13 t14 t15 t16 t17 t18 t19 t20 hd hb hab hI
      have : b = n := by omega
      subst this
      unfold wLX9_fill_42
      rw [ea]
      refine ⟨fun _ => hB _ _ _ _ _ _ _ _ _ _ _ _ _ _ _ _ _ _ _ _ _ hI, fun hh => ?_⟩
      exfalso; apply hh; rw [yn_le (by omega) (by omega)]; omega
    | succ d ih =>
      intro b fl t1 t2 t3 t4 t5 t6 t7 t8 t9 t10 t11 t12 t13 t14 t15 t16 t17 t18 t19 t20 hd hb hab hI
      have e1 : Int32.ofNat b + 1 = Int32.ofNat (b+1) := yn_add b 1
      have hcode := yIx_of hab
      rw [← hcode] at hI
      have hcode' : 32 * a + (b+1) = yIx a b + 1 := by omega
      have hgm : yGm n fl a b = yM (fl a) b := by unfold yGm; rw [decide_eq_true ha, Bool.true_and]
      unfold wLX9_fill_42
      rw [e1, yn_nat (by omega : a < 2147483648), yn_nat (by omega : b < 2147483648), yM_test (by omega)]
      refine ⟨fun hh => ?_, fun _ => ⟨yn_in (by omega) (by omega), fun hbit => ?_, fun hbit => ?_⟩⟩
      · exfalso; rw [yn_le (by omega) (by omega)] at hh; omega
      · have hCf : yGm n fl a b = false := by
          rw [hgm]
          cases c : yM (fl a) b with
          | false => rfl
          | true => rw [c] at hbit; exact absurd rfl hbit
        refine w9_takeFilled hn fl t6 _ ?_ _ _ _ _ _ _ _ _ _ _ _ _ _ _ _ _ _
        intro g' hg' _
        refine ⟨yn_in (by omega) (by omega), yn_in (by omega) (by omega), fun g82 h82 => ⟨yn_in (by omega) (by omega), yn_in (by omega) (by omega), fun g94 h94 => ?_⟩⟩
        have hgr : yGm n g94 = yAddE (yGm n fl) a b := by
          rw [h94, h82, yGm_or (by omega) ha (by omega) (by omega), yGm_congr hg']
        have hsg := yAddE_gs hI.2.1 ha (by omega : b < n) (by omega)
        refine w9_isPlane (by omega) g94 (by rw [hgr]; exact hsg.1) (by rw [hgr]; exact hsg.2) _ _ _ _ _ _ _ _ _ _ _ _ _ _ _ _ _ _ _ _ _ _ _ _ _ _ _ _ _ _ ?_ ?_
        · intro hpl u _
          refine ⟨fun hh => absurd hh (by decide), fun _ => ⟨yn_in (by omega) (by omega), yn_in (by omega) (by omega), fun g113 h113 => ⟨yn_in (by omega) (by omega), yn_in (by omega) (by omega), fun g125 h125 => ?_⟩⟩⟩
          refine ih (b+1) _ _ _ _ _ _ _ _ _ _ _ _ _ _ _ _ _ _ _ _ _ (by omega) (by omega) (by omega) ?_
          rw [hcode', h125, h113, yGm_or (by omega) ha (by omega) (by omega)]
          refine yFlI_add hI (by omega) hab (by omega) hCf ?_
          rw [← hgr]; exact hpl
        · intro hnp u
          refine ⟨fun _ => ?_, fun hh => absurd rfl hh⟩
          refine ih (b+1) _ _ _ _ _ _ _ _ _ _ _ _ _ _ _ _ _ _ _ _ _ (by omega) (by omega) (by omega) ?_
          rw [hcode']
          refine yFlI_no hI (by omega) hab (by omega) hCf ?_
          rw [← hgr]; exact hnp
      · have hCt : yGm n fl a b = true := by
          rw [hgm]
          cases c : yM (fl a) b with
          | true => rfl
          | false => rw [c] at hbit; exact absurd hbit (by decide)
        refine ih (b+1) _ _ _ _ _ _ _ _ _ _ _ _ _ _ _ _ _ _ _ _ _ (by omega) (by omega) (by omega) ?_
        rw [hcode']
        exact yFlI_keep hI (by omega) hab (by omega) hCt
  -- the outer loop
  have h30 : ∀ d a fl t1 t2 t3 t4 t5 t6 t7 t8 t9 t10 t11 t12 t13 t14 t15 t16 t17 t18 t19 t20, n - a = d → a ≤ n → yFlI n (yGm n sm) (32 * a) (yGm n fl) →
      wLX9_fill_30 (Int32.ofNat n) i1 i2 (Int32.ofNat n) i11 i12 i13 i14 i15 i16 i17 K (d+1) fl t1 t2 t3 t4 t5 t6 t7 t8 t9 t10 t11 t12 t13 t14 t15 t16 t17 t18 t19 t20 (Int32.ofNat a) := by
    intro d
    induction d with
    | zero =>
      intro a fl t1 t2 t3 t4 t5 t6 t7 t8 t9 t10 t11 t12 t13 t14 t15 t16 t17 t18 t19 t20 hd ha hI
      have : a = n := by omega
      subst this
      have hF : yFl a (yGm a sm) (yGm a fl) := yFlI_end hI (fun p q hpq hq => by rw [yIx_of hpq]; omega)
      unfold wLX9_fill_30
      refine ⟨fun _ => ?_, fun hh => ?_⟩
      · refine w9_takeFilled hn fl t6 _ ?_ _ _ _ _ _ _ _ _ _ _ _ _ _ _ _ _ _
        intro g' hg' _
        have hgr : yGm a g' = yGm a fl := yGm_congr hg'
        refine w9_isPlane (by omega) g' (by rw [hgr]; exact hF.1.1) (by rw [hgr]; exact hF.1.2) _ _ _ _ _ _ _ _ _ _ _ _ _ _ _ _ _ _ _ _ _ _ _ _ _ _ _ _ _ _ ?_ ?_
        · intro _ u hu
          exact hK fl g' hF hg' _ _ _ _ _ _ _ _ _ _ _ _ _ _ _ _ _ _ _ hu
        · intro hnp
          exfalso; apply hnp; rw [hgr]
          exact yFl_pln (by omega) hs hF hp
      · exfalso; apply hh; rw [yn_le (by omega) (by omega)]; omega
    | succ d ih =>
      intro a fl t1 t2 t3 t4 t5 t6 t7 t8 t9 t10 t11 t12 t13 t14 t15 t16 t17 t18 t19 t20 hd ha hI
      have e1 : Int32.ofNat a + 1 = Int32.ofNat (a+1) := yn_add a 1
      unfold wLX9_fill_30
      rw [e1]
      refine ⟨fun hh => ?_, fun _ v41 h41 => ⟨n - (a+1) + 1, ?_⟩⟩
      · exfalso; rw [yn_le (by omega) (by omega)] at hh; omega
      · rw [h41]
        refine h42 a (by omega) _ ?_ (n-(a+1)) (a+1) _ _ _ _ _ _ _ _ _ _ _ _ _ _ _ _ _ _ _ _ _ rfl (by omega) (by omega) ?_
        · intro fl' t1 t2 t3 t4 t5 t6 t7 t8 t9 t10 t11 t12 t13 t14 t15 t16 t17 t18 t19 t20 hI'
          refine ih (a+1) _ _ _ _ _ _ _ _ _ _ _ _ _ _ _ _ _ _ _ _ _ (by omega) (by omega) ?_
          refine yFlI_move hI' (by omega) ?_
          intro p q hpq hq h1 h2
          rw [yIx_of hpq] at h1 h2
          omega
        · refine yFlI_move hI (by omega) ?_
          intro p q hpq hq h1 h2
          rw [yIx_of hpq] at h1 h2
          omega
  have h2 : ∀ d v t, n - v = d → v ≤ n → (∀ u, u < v → t u = sm u) → wLX9_fill_2 (Int32.ofNat n) i1 i2 (Int32.ofNat n) i4 i5 i6 i7 i8 i9 i10 i11 i12 i13 i14 i15 i16 i17 f19 f20 f21 f22 f23 f24 f25 f26 f27 f28 f29 f30 f31 sm K (d+1) t (Int32.ofNat v) := by
    intro d
    induction d with
    | zero =>
      intro v t hd hv h1
      unfold wLX9_fill_2
      refine ⟨fun _ => ⟨n - 0 + 1, ?_⟩, fun hh => ?_⟩
      · refine h30 (n-0) 0 _ _ _ _ _ _ _ _ _ _ _ _ _ _ _ _ _ _ _ _ _ rfl (by omega) ?_
        rw [yGm_congr (fun u hu => h1 u (by omega))]
        exact yFlI_begin hs
      · exfalso; apply hh; rw [yn_le (by omega) (by omega)]; omega
    | succ d ih =>
      intro v t hd hv h1
      have e1 : Int32.ofNat v + 1 = Int32.ofNat (v+1) := yn_add v 1
      unfold wLX9_fill_2
      rw [e1, yn_nat (by omega)]
      refine ⟨fun hh => ?_, fun _ => ⟨yn_in (by omega) (by omega), yn_in (by omega) (by omega), fun g21 h21 => ?_⟩⟩
      · exfalso; rw [yn_le (by omega) (by omega)] at hh; omega
      · refine ih (v+1) g21 (by omega) (by omega) ?_
        intro u hu
        rw [h21]
        by_cases c : u = v
        · rw [c, yupd_same]
        · rw [yupd_ne _ _ _ _ c]; exact h1 u (by omega)
  unfold wX9_fill
  exact ⟨n - 0 + 1, h2 (n-0) 0 f18 rfl (by omega) (fun u hu => by omega)⟩


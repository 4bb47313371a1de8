
theorem w_hasBit {x : Int32} {k : Nat} (hk : k < 32) (K : Int32 → Unit → Prop) (h1 : yM x k = true → K 1 ()) (h0 : yM x k = false → K 0 ()) : wX8_hasBit x (Int32.ofNat k) K := by
  unfold wX8_hasBit
  rw [yM_testu hk]
  cases h : yM x k with
  | true => exact ⟨fun hh => absurd hh (by decide), fun _ => h1 h⟩
  | false => exact ⟨fun _ => h0 h, fun hh => absurd rfl hh⟩

theorem w_turnOver {n a b : Nat} (hn : n ≤ 20) (ha : a < n) (hb : b < n) (i0 : Int32) (t : Nat → Int32) (K : (Nat → Int32) → Prop)
    (hK : K (upd (upd t a (t a ^^^ ((1 : Int32) <<< (Int32.ofNat b &&& 31)))) b ((upd t a (t a ^^^ ((1 : Int32) <<< (Int32.ofNat b &&& 31)))) b ^^^ ((1 : Int32) <<< (Int32.ofNat a &&& 31))))) :
    wX2_turnOver i0 t (Int32.ofNat a) (Int32.ofNat b) K := by
  unfold wX2_turnOver
  rw [yn_nat (by omega : a < 2147483648), yn_nat (by omega : b < 2147483648)]
  refine ⟨yn_in (by omega) (by omega), yn_in (by omega) (by omega), fun g11 h11 => ⟨yn_in (by omega) (by omega), yn_in (by omega) (by omega), fun g23 h23 => ?_⟩⟩
  rw [h23, h11]; exact hK

def yCap (n : Nat) : Nat := if n < 3 then n * (n-1) / 2 else 3 * n - 6

theorem yCap_full {n : Nat} (hn : n ≤ 32) {C : Nat → Nat → Bool} (hC : ySg n C) (h : yNb 1024 (yGr C) = yCap n) : ∀ a b, a < b → b < n → C a b = false → ¬ yPln n (yAddE C a b) := by
  intro a b hab hb hf hp
  have hA := yAddE_gs hC (by omega : a < n) hb (by omega)
  have hnum : yNb 1024 (yGr (yAddE C a b)) = yNb 1024 (yGr C) + 1 := by
    refine yNb_add1 1024 (yGr C) (yGr (yAddE C a b)) (yIx a b) (yIx_lt (by omega) (by omega)) ?_ ?_ ?_
    · rw [yGr_iff hn hC.1 hC.2 a b (by omega) (by omega)]; exact hf
    · rw [yGr_add hn hC (by omega) hb (by omega) _ (yIx_lt (by omega) (by omega))]; simp
    · intro e he hne
      rw [yGr_add hn hC (by omega) hb (by omega) e he]; simp [hne]
  rcases hp with c | c
  · have hn2 : n = 2 := by omega
    subst hn2
    have ha : a = 0 := by omega
    have hb1 : b = 1 := by omega
    subst ha; subst hb1
    have hz : yNb 1024 (yGr C) = 0 := by
      have h0 : yNb 1024 (fun _ => false) = 0 := by decide +kernel
      rw [← h0]
      apply yNb_congr
      intro e _
      cases hh : yGr C e with
      | false => rfl
      | true =>
        exfalso
        have := yGr_node hC hh
        unfold yGr at hh
        rw [Bool.and_eq_true] at hh
        have e1 : e/32 = 0 := by omega
        have e2 : e%32 = 1 := by omega
        rw [e1, e2, hf] at hh; cases hh.2
    rw [hz] at h
    unfold yCap at h; simp at h
  · rw [yHand2 hn hA.1 hA.2, hnum, h] at c
    have := c.1
    unfold yCap at this
    split at this
    · rename_i h3
      have hn2 : n = 2 := by omega
      subst hn2
      simp at this
    · omega

section
variable {n : Nat} {g : Nat → Nat → Bool}
-- the state of the class's loop
def yRo (n : Nat) (g : Nat → Nat → Bool) (c : Nat) (t : Nat → Int32) (room : Int32) : Prop :=
  yFlI n g c (yGm n t) ∧ ∃ r, room = Int32.ofNat r ∧ r + yNb 1024 (yGr (yGm n t)) = yCap n

theorem yRo_stop {c c' : Nat} {t : Nat → Int32} {room : Int32} (hn : n ≤ 20) (h : yRo n g c t room) (hr : room ≤ 0) (hc : c ≤ c') : yRo n g c' t room := by
  obtain ⟨h1, r, h2, h3⟩ := h
  have hcap : yCap n ≤ 60 := by unfold yCap; split <;> rename_i h <;> first | omega | (have : n = 0 ∨ n = 1 ∨ n = 2 := by omega
                                                                                       rcases this with c | c | c <;> subst c <;> decide)
  have h0 : (0 : Int32) = Int32.ofNat 0 := rfl
  rw [h2, h0, yn_le (by omega) (by omega)] at hr
  refine ⟨yFlI_stop h1 hc (by omega) (yCap_full (by omega) h1.2.1 (by omega)), r, h2, h3⟩

theorem yRo_move {c c' : Nat} {t : Nat → Int32} {room : Int32} (h : yRo n g c t room) (hc : c ≤ c') (hno : ∀ p q, p < q → q < n → c ≤ yIx p q → yIx p q < c' → False) : yRo n g c' t room :=
  ⟨yFlI_move h.1 hc hno, h.2⟩

theorem w2_fill103 (hn : n ≤ 20) (a : Nat) (ha : a < n)
    (K : (Int32 × (Nat → Int32) × (Nat → Int32) × Int32 × Int32 × (Nat → Int64) × (Nat → Int32) × (Nat → Int32) × (Nat → Int64) × (Nat → Int64) × (Nat → Int32) × (Nat → Int64) × (Nat → Int32) × (Nat → Int64) × (Nat → Int64)) → Prop)
    (B : (Nat → Int32) → (Nat → Int64) → (Nat → Int32) → (Nat → Int64) → (Nat → Int64) → (Nat → Int32) → (Nat → Int64) → (Nat → Int32) → (Nat → Int32) → (Nat → Int64) → (Nat → Int64) → Int32 → Int32 → Int32 → Int32 → Prop)
    (hB : ∀ t0 t1 t2 t3 t4 t5 t6 t7 t8 t9 t10 t11 t12 t13, yRo n g (32 * a + n) t5 t13 → B t0 t1 t2 t3 t4 t5 t6 t7 t8 t9 t10 t11 t12 t13 (Int32.ofNat (a+1))) :
    ∀ d b t0 t1 t2 t3 t4 t5 t6 t7 t8 t9 t10 t11 t12 t13, n - b = d → b ≤ n → a < b → yRo n g (32 * a + b) t5 t13 →
      wLX2_fill_103 (Int32.ofNat n) (Int32.ofNat a) K B (d+1) t0 t1 t2 t3 t4 t5 t6 t7 t8 t9 t10 t11 t12 t13 (Int32.ofNat b) := by
  intro d
  have ea : Int32.ofNat a + 1 = Int32.ofNat (a+1) := yn_add a 1
  have hcap : yCap n ≤ 60 := by unfold yCap; split <;> rename_i h <;> first | omega | (have : n = 0 ∨ n = 1 ∨ n = 2 := by omega
                                                                                       rcases this with c | c | c <;> subst c <;> decide)
  induction d with
  | zero =>
    intro b t0 t1 t2 t3 t4 t5 t6 t7 t8 t9 t10 t11 t12 t13 hd hb hab hI
    have : b = n := by omega
    subst this
    unfold wLX2_fill_103
    rw [ea]
    refine ⟨fun _ => hB _ _ _ _ _ _ _ _ _ _ _ _ _ _ hI, fun hh => ?_⟩
    exfalso; apply hh; rw [yn_le (by omega) (by omega)]; omega
  | succ d ih =>
    intro b t0 t1 t2 t3 t4 t5 t6 t7 t8 t9 t10 t11 t12 t13 hd hb hab hI
    have e1 : Int32.ofNat b + 1 = Int32.ofNat (b+1) := yn_add b 1
    have hcode := yIx_of hab
    have hcode' : 32 * a + (b+1) = yIx a b + 1 := by omega
    have hI0 := hI
    obtain ⟨hF, r, hr, hsum⟩ := hI
    rw [← hcode] at hF
    have hgm : yGm n t5 a b = yM (t5 a) b := by unfold yGm; rw [decide_eq_true ha, Bool.true_and]
    unfold wLX2_fill_103
    rw [e1, ea, yn_nat (by omega : a < 2147483648)]
    refine ⟨fun hh => ?_, fun _ => ⟨fun hz => ?_, fun hz => ⟨yn_in (by omega) (by omega), ?_⟩⟩⟩
    · exfalso; rw [yn_le (by omega) (by omega)] at hh; omega
    · exact hB _ _ _ _ _ _ _ _ _ _ _ _ _ _ (yRo_stop hn hI0 hz (by omega))
    · have h0 : (0 : Int32) = Int32.ofNat 0 := rfl
      rw [hr, h0, yn_le (by omega) (by omega)] at hz
      refine w_hasBit (by omega) _ (fun hbit => ?_) (fun hbit => ?_)
      · refine ⟨fun hh => absurd hh (by decide), fun _ => ?_⟩
        refine ih (b+1) _ _ _ _ _ _ _ _ _ _ _ _ _ _ (by omega) (by omega) (by omega) ?_
        rw [hcode']
        exact ⟨yFlI_keep hF (by omega) hab (by omega) (by rw [hgm]; exact hbit), r, hr, hsum⟩
      · refine ⟨fun _ => ?_, fun hh => absurd rfl hh⟩
        have hCf : yGm n t5 a b = false := by rw [hgm]; exact hbit
        refine w_turnOver hn ha (by omega) _ t5 _ ?_
        generalize hu : (upd (upd t5 a (t5 a ^^^ ((1 : Int32) <<< (Int32.ofNat b &&& 31)))) b ((upd t5 a (t5 a ^^^ ((1 : Int32) <<< (Int32.ofNat b &&& 31)))) b ^^^ ((1 : Int32) <<< (Int32.ofNat a &&& 31)))) = u
        have hgr : yGm n u = yAddE (yGm n t5) a b := by
          funext v w
          rw [← hu, yGm_xor (by omega) ha (by omega) (by omega)]
          unfold yAddE
          by_cases c : (v = a ∧ w = b) ∨ (v = b ∧ w = a)
          · have : yGm n t5 v w = false := by
              rcases c with c | c
              · rw [c.1, c.2]; exact hCf
              · rw [c.1, c.2, hF.2.1.2]; exact hCf
            rw [this, decide_eq_true c]; rfl
          · rw [decide_eq_false c, Bool.xor_false, Bool.or_false]
        have hsg := yAddE_gs hF.2.1 ha (by omega : b < n) (by omega)
        have hnum : yNb 1024 (yGr (yAddE (yGm n t5) a b)) = yNb 1024 (yGr (yGm n t5)) + 1 := by
          refine yNb_add1 1024 (yGr (yGm n t5)) _ (yIx a b) (yIx_lt (by omega) (by omega)) ?_ ?_ ?_
          · rw [yGr_iff (by omega) hF.2.1.1 hF.2.1.2 a b (by omega) (by omega)]; exact hCf
          · rw [yGr_add (by omega) hF.2.1 (by omega) (by omega) (by omega) _ (yIx_lt (by omega) (by omega))]; simp
          · intro e he hne
            rw [yGr_add (by omega) hF.2.1 (by omega) (by omega) (by omega) e he]; simp [hne]
        refine (w_accepts (by omega) u (by rw [hgr]; exact hsg.1) (by rw [hgr]; exact hsg.2) t11 t12 t6 t7 t8 t9 t10 t0 t1 t2 t3 t4 _ ?_ ?_).1 hn
        · intro hpl x
          refine ⟨fun hh => absurd hh (by decide), fun _ => ?_⟩
          refine ih (b+1) _ _ _ _ _ _ _ _ _ _ _ _ _ _ (by omega) (by omega) (by omega) ?_
          rw [hcode']
          refine ⟨?_, r-1, ?_, ?_⟩
          · rw [hgr]
            exact yFlI_add hF (by omega) hab (by omega) hCf (by rw [← hgr]; exact hpl)
          · rw [hr]
            have : Int32.ofNat (r-1) = Int32.ofNat r - Int32.ofNat 1 := (yn_sub (by omega)).symm
            rw [this, Int32.sub_eq_add_neg]; rfl
          · rw [hgr, hnum]; omega
        · intro hnp x
          refine ⟨fun _ => ?_, fun hh => absurd rfl hh⟩
          refine w_turnOver hn ha (by omega) _ u _ ?_
          refine ih (b+1) _ _ _ _ _ _ _ _ _ _ _ _ _ _ (by omega) (by omega) (by omega) ?_
          rw [hcode']
          have hback : yGm n (upd (upd u a (u a ^^^ ((1 : Int32) <<< (Int32.ofNat b &&& 31)))) b ((upd u a (u a ^^^ ((1 : Int32) <<< (Int32.ofNat b &&& 31)))) b ^^^ ((1 : Int32) <<< (Int32.ofNat a &&& 31)))) = yGm n t5 := by
            funext v w
            rw [yGm_xor (by omega) ha (by omega) (by omega), ← hu, yGm_xor (by omega) ha (by omega) (by omega)]
            cases yGm n t5 v w <;> cases decide ((v = a ∧ w = b) ∨ (v = b ∧ w = a)) <;> rfl
          unfold yRo
          rw [hback]
          exact ⟨yFlI_no hF (by omega) hab (by omega) hCf (by rw [← hgr]; exact hnp), r, hr, hsum⟩

theorem w2_fill91 (hn : n ≤ 20) (base : Nat → Int32)
    (K : (Int32 × (Nat → Int32) × (Nat → Int32) × Int32 × Int32 × (Nat → Int64) × (Nat → Int32) × (Nat → Int32) × (Nat → Int64) × (Nat → Int64) × (Nat → Int32) × (Nat → Int64) × (Nat → Int32) × (Nat → Int64) × (Nat → Int64)) → Prop)
    (hK : ∀ joined x3 x4 x5 x6 x7 x8 x9 x10 x11 x12 x13 x14, yFl n g (yGm n joined) → K (Int32.ofNat n, base, joined, x3, x4, x5, x6, x7, x8, x9, x10, x11, x12, x13, x14)) :
    ∀ d a t0 t1 t2 t3 t4 t5 t6 t7 t8 t9 t10 t11 t12 t13, n - a = d → a ≤ n → yRo n g (32 * a) t5 t13 →
      wLX2_fill_91 (Int32.ofNat n) base K (d+1) t0 t1 t2 t3 t4 t5 t6 t7 t8 t9 t10 t11 t12 t13 (Int32.ofNat a) := by
  intro d
  induction d with
  | zero =>
    intro a t0 t1 t2 t3 t4 t5 t6 t7 t8 t9 t10 t11 t12 t13 hd ha hI
    have : a = n := by omega
    subst this
    unfold wLX2_fill_91
    refine ⟨fun _ => hK _ _ _ _ _ _ _ _ _ _ _ _ _ (yFlI_end hI.1 (fun p q hpq hq => by rw [yIx_of hpq]; omega)), fun hh => ?_⟩
    exfalso; apply hh; rw [yn_le (by omega) (by omega)]; omega
  | succ d ih =>
    intro a t0 t1 t2 t3 t4 t5 t6 t7 t8 t9 t10 t11 t12 t13 hd ha hI
    have e1 : Int32.ofNat a + 1 = Int32.ofNat (a+1) := yn_add a 1
    unfold wLX2_fill_91
    rw [e1]
    refine ⟨fun hh => ?_, fun _ v101 h101 => ⟨n - (a+1) + 1, ?_⟩⟩
    · exfalso; rw [yn_le (by omega) (by omega)] at hh; omega
    · rw [h101]
      refine w2_fill103 (g := g) hn a (by omega) K _ ?_ (n-(a+1)) (a+1) _ _ _ _ _ _ _ _ _ _ _ _ _ _ rfl (by omega) (by omega) ?_
      · intro t0 t1 t2 t3 t4 t5 t6 t7 t8 t9 t10 t11 t12 t13 hI'
        refine ih (a+1) _ _ _ _ _ _ _ _ _ _ _ _ _ _ (by omega) (by omega) ?_
        refine yRo_move hI' (by omega) ?_
        intro p q hpq hq h1 h2
        rw [yIx_of hpq] at h1 h2
        omega
      · refine yRo_move hI (by omega) ?_
        intro p q hpq hq h1 h2
        rw [yIx_of hpq] at h1 h2
        omega
theorem w2_fill103_1 (hn : n ≤ 20) (a : Nat) (ha : a < n)
    (K : (Int32 × (Nat → Int32) × (Nat → Int32) × Int32 × Int32 × (Nat → Int64) × (Nat → Int32) × (Nat → Int32) × (Nat → Int64) × (Nat → Int64) × (Nat → Int32) × (Nat → Int64) × (Nat → Int32) × (Nat → Int64) × (Nat → Int64)) → Prop)
    (B : (Nat → Int32) → (Nat → Int64) → (Nat → Int32) → (Nat → Int64) → (Nat → Int64) → (Nat → Int32) → (Nat → Int64) → (Nat → Int32) → (Nat → Int32) → (Nat → Int64) → (Nat → Int64) → Int32 → Int32 → Int32 → Int32 → Prop)
    (hB : ∀ t0 t1 t2 t3 t4 t5 t6 t7 t8 t9 t10 t11 t12 t13, yRo n g (32 * a + n) t5 t13 → B t0 t1 t2 t3 t4 t5 t6 t7 t8 t9 t10 t11 t12 t13 (Int32.ofNat (a+1))) :
    ∀ d b t0 t1 t2 t3 t4 t5 t6 t7 t8 t9 t10 t11 t12 t13, n - b = d → b ≤ n → a < b → yRo n g (32 * a + b) t5 t13 →
      wLX2_fill_103_1 (Int32.ofNat n) (Int32.ofNat a) K B (d+1) t0 t1 t2 t3 t4 t5 t6 t7 t8 t9 t10 t11 t12 t13 (Int32.ofNat b) := by
  intro d
  have ea : Int32.ofNat a + 1 = Int32.ofNat (a+1) := yn_add a 1
  have hcap : yCap n ≤ 60 := by unfold yCap; split <;> rename_i h <;> first | omega | (have : n = 0 ∨ n = 1 ∨ n = 2 := by omega
                                                                                       rcases this with c | c | c <;> subst c <;> decide)
  induction d with
  | zero =>
    intro b t0 t1 t2 t3 t4 t5 t6 t7 t8 t9 t10 t11 t12 t13 hd hb hab hI
    have : b = n := by omega
    subst this
    unfold wLX2_fill_103_1
    rw [ea]
    refine ⟨fun _ => hB _ _ _ _ _ _ _ _ _ _ _ _ _ _ hI, fun hh => ?_⟩
    exfalso; apply hh; rw [yn_le (by omega) (by omega)]; omega
  | succ d ih =>
    intro b t0 t1 t2 t3 t4 t5 t6 t7 t8 t9 t10 t11 t12 t13 hd hb hab hI
    have e1 : Int32.ofNat b + 1 = Int32.ofNat (b+1) := yn_add b 1
    have hcode := yIx_of hab
    have hcode' : 32 * a + (b+1) = yIx a b + 1 := by omega
    have hI0 := hI
    obtain ⟨hF, r, hr, hsum⟩ := hI
    rw [← hcode] at hF
    have hgm : yGm n t5 a b = yM (t5 a) b := by unfold yGm; rw [decide_eq_true ha, Bool.true_and]
    unfold wLX2_fill_103_1
    rw [e1, ea, yn_nat (by omega : a < 2147483648)]
    refine ⟨fun hh => ?_, fun _ => ⟨fun hz => ?_, fun hz => ⟨yn_in (by omega) (by omega), ?_⟩⟩⟩
    · exfalso; rw [yn_le (by omega) (by omega)] at hh; omega
    · exact hB _ _ _ _ _ _ _ _ _ _ _ _ _ _ (yRo_stop hn hI0 hz (by omega))
    · have h0 : (0 : Int32) = Int32.ofNat 0 := rfl
      rw [hr, h0, yn_le (by omega) (by omega)] at hz
      refine w_hasBit (by omega) _ (fun hbit => ?_) (fun hbit => ?_)
      · refine ⟨fun hh => absurd hh (by decide), fun _ => ?_⟩
        refine ih (b+1) _ _ _ _ _ _ _ _ _ _ _ _ _ _ (by omega) (by omega) (by omega) ?_
        rw [hcode']
        exact ⟨yFlI_keep hF (by omega) hab (by omega) (by rw [hgm]; exact hbit), r, hr, hsum⟩
      · refine ⟨fun _ => ?_, fun hh => absurd rfl hh⟩
        have hCf : yGm n t5 a b = false := by rw [hgm]; exact hbit
        refine w_turnOver hn ha (by omega) _ t5 _ ?_
        generalize hu : (upd (upd t5 a (t5 a ^^^ ((1 : Int32) <<< (Int32.ofNat b &&& 31)))) b ((upd t5 a (t5 a ^^^ ((1 : Int32) <<< (Int32.ofNat b &&& 31)))) b ^^^ ((1 : Int32) <<< (Int32.ofNat a &&& 31)))) = u
        have hgr : yGm n u = yAddE (yGm n t5) a b := by
          funext v w
          rw [← hu, yGm_xor (by omega) ha (by omega) (by omega)]
          unfold yAddE
          by_cases c : (v = a ∧ w = b) ∨ (v = b ∧ w = a)
          · have : yGm n t5 v w = false := by
              rcases c with c | c
              · rw [c.1, c.2]; exact hCf
              · rw [c.1, c.2, hF.2.1.2]; exact hCf
            rw [this, decide_eq_true c]; rfl
          · rw [decide_eq_false c, Bool.xor_false, Bool.or_false]
        have hsg := yAddE_gs hF.2.1 ha (by omega : b < n) (by omega)
        have hnum : yNb 1024 (yGr (yAddE (yGm n t5) a b)) = yNb 1024 (yGr (yGm n t5)) + 1 := by
          refine yNb_add1 1024 (yGr (yGm n t5)) _ (yIx a b) (yIx_lt (by omega) (by omega)) ?_ ?_ ?_
          · rw [yGr_iff (by omega) hF.2.1.1 hF.2.1.2 a b (by omega) (by omega)]; exact hCf
          · rw [yGr_add (by omega) hF.2.1 (by omega) (by omega) (by omega) _ (yIx_lt (by omega) (by omega))]; simp
          · intro e he hne
            rw [yGr_add (by omega) hF.2.1 (by omega) (by omega) (by omega) e he]; simp [hne]
        refine (w_accepts (by omega) u (by rw [hgr]; exact hsg.1) (by rw [hgr]; exact hsg.2) t11 t12 t6 t7 t8 t9 t10 t0 t1 t2 t3 t4 _ ?_ ?_).1 hn
        · intro hpl x
          refine ⟨fun hh => absurd hh (by decide), fun _ => ?_⟩
          refine ih (b+1) _ _ _ _ _ _ _ _ _ _ _ _ _ _ (by omega) (by omega) (by omega) ?_
          rw [hcode']
          refine ⟨?_, r-1, ?_, ?_⟩
          · rw [hgr]
            exact yFlI_add hF (by omega) hab (by omega) hCf (by rw [← hgr]; exact hpl)
          · rw [hr]
            have : Int32.ofNat (r-1) = Int32.ofNat r - Int32.ofNat 1 := (yn_sub (by omega)).symm
            rw [this, Int32.sub_eq_add_neg]; rfl
          · rw [hgr, hnum]; omega
        · intro hnp x
          refine ⟨fun _ => ?_, fun hh => absurd rfl hh⟩
          refine w_turnOver hn ha (by omega) _ u _ ?_
          refine ih (b+1) _ _ _ _ _ _ _ _ _ _ _ _ _ _ (by omega) (by omega) (by omega) ?_
          rw [hcode']
          have hback : yGm n (upd (upd u a (u a ^^^ ((1 : Int32) <<< (Int32.ofNat b &&& 31)))) b ((upd u a (u a ^^^ ((1 : Int32) <<< (Int32.ofNat b &&& 31)))) b ^^^ ((1 : Int32) <<< (Int32.ofNat a &&& 31)))) = yGm n t5 := by
            funext v w
            rw [yGm_xor (by omega) ha (by omega) (by omega), ← hu, yGm_xor (by omega) ha (by omega) (by omega)]
            cases yGm n t5 v w <;> cases decide ((v = a ∧ w = b) ∨ (v = b ∧ w = a)) <;> rfl
          unfold yRo
          rw [hback]
          exact ⟨yFlI_no hF (by omega) hab (by omega) hCf (by rw [← hgr]; exact hnp), r, hr, hsum⟩

theorem w2_fill91_1 (hn : n ≤ 20) (base : Nat → Int32)
    (K : (Int32 × (Nat → Int32) × (Nat → Int32) × Int32 × Int32 × (Nat → Int64) × (Nat → Int32) × (Nat → Int32) × (Nat → Int64) × (Nat → Int64) × (Nat → Int32) × (Nat → Int64) × (Nat → Int32) × (Nat → Int64) × (Nat → Int64)) → Prop)
    (hK : ∀ joined x3 x4 x5 x6 x7 x8 x9 x10 x11 x12 x13 x14, yFl n g (yGm n joined) → K (Int32.ofNat n, base, joined, x3, x4, x5, x6, x7, x8, x9, x10, x11, x12, x13, x14)) :
    ∀ d a t0 t1 t2 t3 t4 t5 t6 t7 t8 t9 t10 t11 t12 t13, n - a = d → a ≤ n → yRo n g (32 * a) t5 t13 →
      wLX2_fill_91_1 (Int32.ofNat n) base K (d+1) t0 t1 t2 t3 t4 t5 t6 t7 t8 t9 t10 t11 t12 t13 (Int32.ofNat a) := by
  intro d
  induction d with
  | zero =>
    intro a t0 t1 t2 t3 t4 t5 t6 t7 t8 t9 t10 t11 t12 t13 hd ha hI
    have : a = n := by omega
    subst this
    unfold wLX2_fill_91_1
    refine ⟨fun _ => hK _ _ _ _ _ _ _ _ _ _ _ _ _ (yFlI_end hI.1 (fun p q hpq hq => by rw [yIx_of hpq]; omega)), fun hh => ?_⟩
    exfalso; apply hh; rw [yn_le (by omega) (by omega)]; omega
  | succ d ih =>
    intro a t0 t1 t2 t3 t4 t5 t6 t7 t8 t9 t10 t11 t12 t13 hd ha hI
    have e1 : Int32.ofNat a + 1 = Int32.ofNat (a+1) := yn_add a 1
    unfold wLX2_fill_91_1
    rw [e1]
    refine ⟨fun hh => ?_, fun _ v101 h101 => ⟨n - (a+1) + 1, ?_⟩⟩
    · exfalso; rw [yn_le (by omega) (by omega)] at hh; omega
    · rw [h101]
      refine w2_fill103_1 (g := g) hn a (by omega) K _ ?_ (n-(a+1)) (a+1) _ _ _ _ _ _ _ _ _ _ _ _ _ _ rfl (by omega) (by omega) ?_
      · intro t0 t1 t2 t3 t4 t5 t6 t7 t8 t9 t10 t11 t12 t13 hI'
        refine ih (a+1) _ _ _ _ _ _ _ _ _ _ _ _ _ _ (by omega) (by omega) ?_
        refine yRo_move hI' (by omega) ?_
        intro p q hpq hq h1 h2
        rw [yIx_of hpq] at h1 h2
        omega
      · refine yRo_move hI (by omega) ?_
        intro p q hpq hq h1 h2
        rw [yIx_of hpq] at h1 h2
        omega
end

theorem yDeg {n : Nat} (hn : n ≤ 32) (t : Nat → Int32) (v : Nat) (hv : v < n) : yNb 32 (yM (t v)) = yNb 32 (yGm n t v) := by
  apply yNb_congr
  intro w _
  unfold yGm; rw [decide_eq_true hv, Bool.true_and]

theorem w_fill2 {n : Nat} (hn : n ≤ 20) (sm : Nat → Int32) (hs : ySg n (yGm n sm)) (hp : yPln n (yGm n sm))
    (i0 : Int32) (f2 f3 : Nat → Int32) (i4 i5 : Int32) (f6 : Nat → Int64) (f7 f8 : Nat → Int32) (f9 f10 : Nat → Int64) (f11 : Nat → Int32) (f12 : Nat → Int64) (f13 : Nat → Int32) (f14 f15 : Nat → Int64)
    (K : (Int32 × (Nat → Int32) × (Nat → Int32) × Int32 × Int32 × (Nat → Int64) × (Nat → Int32) × (Nat → Int32) × (Nat → Int64) × (Nat → Int64) × (Nat → Int32) × (Nat → Int64) × (Nat → Int32) × (Nat → Int64) × (Nat → Int64)) → Prop)
    (hK : ∀ base joined x3 x4 x5 x6 x7 x8 x9 x10 x11 x12 x13 x14, (∀ v, v < n → base v = sm v) → yFl n (yGm n sm) (yGm n joined) → K (Int32.ofNat n, base, joined, x3, x4, x5, x6, x7, x8, x9, x10, x11, x12, x13, x14)) :
    wX2_fill i0 sm f2 f3 i4 i5 f6 f7 f8 f9 f10 f11 f12 f13 f14 f15 (Int32.ofNat n) K := by
  have h0eq : (0 : Int32) = Int32.ofNat 0 := rfl
  have h2eq : (2 : Int32) = Int32.ofNat 2 := rfl
  have h3eq : (3 : Int32) = Int32.ofNat 3 := rfl
  have n0 : Int32.toNatClampNeg (0 : Int32) = 0 := yn_nat (by omega : (0 : Nat) < 2147483648)
  unfold wX2_fill
  rw [n0, yn_nat (by omega : n < 2147483648)]
  refine ⟨yn_neg (by omega), by omega, by omega, fun base hbase => ⟨yn_neg (by omega), by omega, by omega, fun j0 hj0 => ?_⟩⟩
  have hb : ∀ v, v < n → base v = sm v := by
    intro v hv
    rw [hbase]; unfold va_cpy
    rw [if_pos (by omega)]; congr 1; omega
  have hj : ∀ v, v < n → j0 v = sm v := by
    intro v hv
    rw [hj0]; unfold va_cpy
    rw [if_pos (by omega)]; congr 1; omega
  have hgr : yGm n j0 = yGm n sm := yGm_congr hj
  have hand := yHand2 (by omega : n ≤ 32) hs.1 hs.2
  have hcapE : yNb 1024 (yGr (yGm n sm)) ≤ yCap n := by
    rcases hp with c | c
    · -- at most one edge
      unfold yCap; rw [if_pos c]
      have : n = 0 ∨ n = 1 ∨ n = 2 := by omega
      have hz : n < 2 → yNb 1024 (yGr (yGm n sm)) = 0 := by
        intro h2
        have h0 : yNb 1024 (fun _ => false) = 0 := by decide +kernel
        rw [← h0]
        apply yNb_congr
        intro e _
        cases hh : yGr (yGm n sm) e with
        | false => rfl
        | true => have := yGr_node hs hh; omega
      rcases this with d | d | d
      · rw [hz (by omega)]; omega
      · rw [hz (by omega)]; omega
      · subst d
        have := yNb_sub 1024 (yGr (yGm 2 sm)) (fun e => e == 1) (by
          intro e _ hh
          have := yGr_node hs hh
          have : e = 1 := by omega
          simp [this])
        have h1 : yNb 1024 (fun e => e == 1) = 1 := by decide +kernel
        rw [h1] at this; simpa using this
    · have := c.1
      rw [hand] at this
      unfold yCap
      split
      · rename_i h
        have : n = 0 ∨ n = 1 ∨ n = 2 := by omega
        rcases this with d | d | d <;> subst d <;> simp at c ⊢ <;> omega
      · omega
  have key : ∀ d v, n - v = d → v ≤ n → wLX2_fill_33 i4 i5 f6 f7 f8 f9 f10 f11 f12 f13 f14 f15 (Int32.ofNat n) base j0 K (d+1) (Int32.ofNat (yS v (fun v => yNb 32 (yGm n sm v)))) (Int32.ofNat v) := by
    intro d
    induction d with
    | zero =>
      intro v hd hv
      have : v = n := by omega
      subst this
      have hlink : Int32.ofNat (yS v (fun w => yNb 32 (yGm v sm w))) / 2 = Int32.ofNat (yNb 1024 (yGr (yGm v sm))) := by
        have hle : yNb 1024 (yGr (yGm v sm)) ≤ 1024 := yNb_le _ _
        rw [h2eq, hand, yn_div (by omega) (by omega)]
        congr 1; omega
      unfold wLX2_fill_33
      rw [hlink]
      have hst : ∀ room, room = Int32.ofNat (yCap v - yNb 1024 (yGr (yGm v sm))) → yRo v (yGm v sm) (32 * 0) j0 room := by
        intro room hr
        refine ⟨?_, _, hr, ?_⟩
        · rw [hgr]; exact yFlI_begin hs
        · rw [hgr]; omega
      refine ⟨fun _ => ⟨fun h3 => ?_, fun h3 => ?_⟩, fun hh => ?_⟩
      · intro v86 h86
        rw [h3eq, yn_le (by omega) (by omega)] at h3
        refine ⟨v - 0 + 1, w2_fill91 hn base K ?_ (v-0) 0 _ _ _ _ _ _ _ _ _ _ _ _ _ _ rfl (by omega) (hst v86 ?_)⟩
        · intro joined x3 x4 x5 x6 x7 x8 x9 x10 x11 x12 x13 x14 hF
          exact hK _ _ _ _ _ _ _ _ _ _ _ _ _ _ hb hF
        · have h6 : (6 : Int32) = Int32.ofNat 6 := rfl
          have hc : yCap v = 3 * v - 6 := by unfold yCap; rw [if_neg (by omega)]
          rw [h86, h3eq, h6, yn_mul, yn_sub (by omega), yn_sub (by omega), hc]
      · intro v86 h86
        rw [h3eq, yn_le (by omega) (by omega)] at h3
        refine ⟨v - 0 + 1, w2_fill91_1 hn base K ?_ (v-0) 0 _ _ _ _ _ _ _ _ _ _ _ _ _ _ rfl (by omega) (hst v86 ?_)⟩
        · intro joined x3 x4 x5 x6 x7 x8 x9 x10 x11 x12 x13 x14 hF
          exact hK _ _ _ _ _ _ _ _ _ _ _ _ _ _ hb hF
        · have : (Int32.ofNat v * (Int32.ofNat v - 1)) / 2 = Int32.ofNat (yCap v) := by
            have : v = 0 ∨ v = 1 ∨ v = 2 := by omega
            rcases this with d | d | d <;> subst d <;> decide +kernel
          rw [h86, this, yn_sub hcapE]
      · exfalso; apply hh; rw [yn_le (by omega) (by omega)]; omega
    | succ d ih =>
      intro v hd hv
      have e1 : Int32.ofNat v + 1 = Int32.ofNat (v+1) := yn_add v 1
      unfold wLX2_fill_33
      rw [e1, yn_nat (by omega)]
      refine ⟨fun hh => ?_, fun _ => ⟨yn_in (by omega) (by omega), ?_⟩⟩
      · exfalso; rw [yn_le (by omega) (by omega)] at hh; omega
      · apply w_bitCount
        intro v52 h52
        rw [h52, hj v (by omega), yDeg (n := n) (by omega) sm v (by omega), yn_add]
        exact ih (v+1) (by omega) (by omega)
  refine ⟨n - 0 + 1, ?_⟩
  have := key (n-0) 0 rfl (by omega)
  exact this


-- no face has more than three nodes
section
variable {n F : Nat} {X : Nat → Bool} {sz : Nat → Nat} {fc fo : Nat → Nat → Nat}

theorem yFace_chord (hn : n ≤ 21) (hS : yFs n F X sz fc fo) (hD : yDs 1024 yI X (fun _ => false) (yS1 fo) (yT1 fo)) (hM : yMax n X)
    {f p q : Nat} (hf : f < F) (hp : p < sz f) (hq : q < sz f) (hpq : p ≠ q) : X (yIx (fc f p) (fc f q)) = true := by
  have hs := hS.1 f hf
  have hm : ∀ k, k % sz f < sz f := fun k => Nat.mod_lt _ (by omega)
  cases hX : X (yIx (fc f p) (fc f q)) with
  | true => rfl
  | false =>
    exfalso
    have hne : fc f p ≠ fc f q := fun h => hpq (hs.2.2 p q hp hq h)
    have hd := ymod_d hp hq hpq
    have b1 := hs.2.1 p hp; have b2 := hs.2.1 q hq
    have hR : yRd n X fo f (sz f) (fun k => fc f ((p+k) % sz f)) ((q + sz f - p) % sz f) 2 (fun k => if k = 0 then fc f p else fc f q) := by
      refine ⟨hs.1, fun k => hs.2.1 _ (hm _), ?_, ?_, ?_, ?_, hd.1, hd.2.1, by omega, ?_, ?_, ?_, ?_, ?_, ?_⟩
      · intro i j hi hj he
        exact ymod_inj hi hj (hs.2.2 _ _ (hm _) (hm _) he)
      · intro k; dsimp only; rw [← Nat.add_assoc, Nat.add_mod_right]
      · intro k
        have := hS.2.1 f ((p+k) % sz f) hf (hm _)
        rw [Nat.mod_add_mod, Nat.add_assoc] at this
        exact this
      · intro a b ha hb hab hH hfo
        obtain ⟨_, i, hi, h9, h10⟩ := hS.2.2.1 a b ha hb hab hH
        rw [hfo] at hi h9 h10
        refine ⟨(i + sz f - p) % sz f, hm _, ?_, ?_⟩
        · dsimp only; rw [ymod_ab hp hi]; exact h9.symm
        · dsimp only
          rw [← Nat.add_assoc, Nat.add_mod, ymod_ab hp hi, ← Nat.add_mod_mod, Nat.mod_mod]
          rw [← h10]
          congr 1
          rw [Nat.add_mod_mod]
      · dsimp only; rw [Nat.add_zero, Nat.mod_eq_of_lt hp]; rfl
      · dsimp only; rw [ymod_ab hp hq]; rfl
      · intro k _; dsimp only; split <;> assumption
      · intro i j hi hj he
        rcases (by omega : i = 0 ∨ i = 1) with c | c <;> rcases (by omega : j = 0 ∨ j = 1) with c' | c' <;> subst c <;> subst c' <;> simp at he <;> first | rfl | exact absurd he hne | exact absurd he.symm hne
      · intro k h0 h1; omega
      · intro k hk
        have : k = 0 := by omega
        subst this
        simpa using hX
    have hl := yDs_split hn hS hf hR hD
    have hlab : yLab (fun e => X e || decide (e = yIx (fc f p) (fc f q))) := by
      refine yLab_congr (X := fun e => X e || yPp 2 (fun k => if k = 0 then fc f p else fc f q) e) ⟨fun b => if b then yT1 (yFo 2 (fun k => if k = 0 then fc f p else fc f q) ((q + sz f - p) % sz f) (fun k => fc f ((p+k) % sz f)) f F fo) else yS1 (yFo 2 (fun k => if k = 0 then fc f p else fc f q) ((q + sz f - p) % sz f) (fun k => fc f ((p+k) % sz f)) f F fo), hl⟩ ?_
      intro e _
      congr 1
      rw [Bool.eq_iff_iff, decide_eq_true_iff]
      unfold yPp
      rw [yD_iff]
      constructor
      · rintro ⟨k, hk, he⟩
        have : k = 0 := by omega
        subst this
        simpa using he
      · intro he
        exact ⟨0, by omega, by simpa using he⟩
    rcases Nat.lt_or_ge (fc f p) (fc f q) with c | c
    · exact hM.2.2.2.2 _ _ c b2 hX hlab
    · rw [yIx_comm] at hX hlab
      exact hM.2.2.2.2 _ _ (by omega) b1 hX hlab

theorem yFace_three (hn : n ≤ 21) (hS : yFs n F X sz fc fo) (hD : yDs 1024 yI X (fun _ => false) (yS1 fo) (yT1 fo)) (hM : yMax n X)
    {f : Nat} (hf : f < F) : sz f = 3 := by
  have hs := hS.1 f hf
  rcases Nat.lt_or_ge (sz f) 4 with c4 | c4
  · omega
  · exfalso
    have b := hs.2.1
    have ne : ∀ i j, i < 4 → j < 4 → i ≠ j → fc f i ≠ fc f j := fun i j hi hj h e => h (hs.2.2 i j (by omega) (by omega) e)
    have b0 := b 0 (by omega); have b1 := b 1 (by omega); have b2 := b 2 (by omega); have b3 := b 3 (by omega)
    have n01 := ne 0 1 (by omega) (by omega) (by omega)
    have n02 := ne 0 2 (by omega) (by omega) (by omega)
    have n03 := ne 0 3 (by omega) (by omega) (by omega)
    have n12 := ne 1 2 (by omega) (by omega) (by omega)
    have n13 := ne 1 3 (by omega) (by omega) (by omega)
    have n23 := ne 2 3 (by omega) (by omega) (by omega)
    have x02 := yFace_chord hn hS hD hM hf (p := 0) (q := 2) (by omega) (by omega) (by omega)
    have x13 := yFace_chord hn hS hD hM hf (p := 1) (q := 3) (by omega) (by omega) (by omega)
    have hz : ∀ k, k + 1 < sz f → yZ X (yS1 fo) (yT1 fo) f (yIx (fc f k) (fc f (k+1))) = true := by
      intro k hk
      have g1 := b k (by omega); have g2 := b (k+1) hk
      rw [yFs_Z hn hS f hf _ (yIx_lt (by omega) (by omega))]
      exact yD_pos ⟨k, by omega, by rw [Nat.mod_eq_of_lt hk]⟩
    have I01 := yI_iff (a := fc f 0) (b := fc f 1) (by omega) (by omega) n01
    have I12 := yI_iff (a := fc f 1) (b := fc f 2) (by omega) (by omega) n12
    have I23 := yI_iff (a := fc f 2) (b := fc f 3) (by omega) (by omega) n23
    have I02 := yI_iff (a := fc f 0) (b := fc f 2) (by omega) (by omega) n02
    have I13 := yI_iff (a := fc f 1) (b := fc f 3) (by omega) (by omega) n13
    have fal : ∀ {e v : Nat}, ¬ (yI e v = true) → yI e v = false := fun h => by
      rename_i e v
      cases hh : yI e v with
      | false => rfl
      | true => exact absurd hh h
    -- the chord's labels
    have hfo1 : fo (fc f 1) (fc f 3) ≠ f := by
      intro h
      obtain ⟨_, k, hk, h1, h2⟩ := hS.2.2.1 (fc f 1) (fc f 3) (by omega) (by omega) n13 x13
      rw [h] at hk h1 h2
      have k1 := hs.2.2 k 1 hk (by omega) h1
      rw [k1, Nat.mod_eq_of_lt (by omega)] at h2
      exact n23 h2
    have hfo2 : fo (fc f 3) (fc f 1) ≠ f := by
      intro h
      obtain ⟨_, k, hk, h1, h2⟩ := hS.2.2.1 (fc f 3) (fc f 1) (by omega) (by omega) (Ne.symm n13) (by rw [yIx_comm]; exact x13)
      rw [h] at hk h1 h2
      have k1 := hs.2.2 k 3 hk (by omega) h1
      rw [k1] at h2
      have := hs.2.2 _ 1 (Nat.mod_lt _ (by omega)) (by omega) h2
      rcases Nat.lt_or_ge 4 (sz f) with c | c
      · rw [Nat.mod_eq_of_lt (by omega)] at this; omega
      · rw [show 3 + 1 = sz f by omega, Nat.mod_self] at this; omega
    have hst : yS1 fo (yIx (fc f 1) (fc f 3)) ≠ f ∧ yT1 fo (yIx (fc f 1) (fc f 3)) ≠ f := by
      unfold yS1 yT1
      rcases Nat.lt_or_ge (fc f 1) (fc f 3) with c | c
      · have := yIx_div (by omega : fc f 3 < 32) c
        rw [this.1, this.2]; exact ⟨hfo1, hfo2⟩
      · have := yIx_div (by omega : fc f 1 < 32) (by omega : fc f 3 < fc f 1)
        rw [yIx_comm, this.1, this.2]; exact ⟨hfo2, hfo1⟩
    refine yCross hD (yMax_v2 hM) f (fc f 1) (fc f 3) (yIx (fc f 0) (fc f 1)) (yIx (fc f 1) (fc f 2)) (yIx (fc f 2) (fc f 3)) (yIx (fc f 0) (fc f 2)) (yIx (fc f 1) (fc f 3))
      (fun d => decide (d = yIx (fc f 0) (fc f 1) ∨ d = yIx (fc f 1) (fc f 2))) ?_ ?_ ?_ ?_ ?_ ?_ ?_ ?_ ?_
    · intro d _ h; exact of_decide_eq_true h
    · exact ⟨yIx_lt (by omega) (by omega), hz 0 (by omega), (I01 _).2 (Or.inr rfl)⟩
    · exact ⟨yIx_lt (by omega) (by omega), hz 1 (by omega)⟩
    · intro d hd hzd hI
      rw [yFs_Z hn hS f hf d hd] at hzd
      obtain ⟨k, hk, he⟩ := (yD_iff _).1 hzd
      have hmk := Nat.mod_lt (k+1) (by omega : 0 < sz f)
      have g1 := b k hk; have g2 := b _ hmk
      have hkn : fc f k ≠ fc f ((k+1) % sz f) := yCy_ne hs.1 hs.2.2 k hk
      rw [he, yI_iff (by omega) (by omega) hkn] at hI
      apply decide_eq_true
      rcases hI with c | c
      · have := hs.2.2 1 k (by omega) hk c
        right
        rw [he, ← this, Nat.mod_eq_of_lt (by omega)]
      · have := hs.2.2 1 _ (by omega) hmk c
        left
        have hk0 : k = 0 := by
          rcases Nat.lt_or_ge (k+1) (sz f) with d' | d'
          · rw [Nat.mod_eq_of_lt d'] at this; omega
          · rw [show k + 1 = sz f by omega, Nat.mod_self] at this; omega
        rw [he, hk0, Nat.mod_eq_of_lt (by omega)]
    · exact ⟨yIx_lt (by omega) (by omega), hz 2 (by omega), (I23 _).2 (Or.inr rfl)⟩
    · refine ⟨fal ?_, fal ?_⟩
      · rw [I01]; rintro (c | c) <;> omega
      · rw [I12]; rintro (c | c) <;> omega
    · refine ⟨yIx_lt (by omega) (by omega), x02, fal ?_, fal ?_⟩
      · rw [I02]; rintro (c | c) <;> omega
      · rw [I02]; rintro (c | c) <;> omega
    · have := yEv_tri (a := fc f 1) (b := fc f 0) (c := fc f 2) (by omega) (by omega) (by omega) (Ne.symm n01) n12 n02
      refine yEv_congr 1024 yI _ _ ?_ this
      intro e _
      have m1 : yIx (fc f 0) (fc f 2) ≠ yIx (fc f 0) (fc f 1) := fun h => by rcases yIx_inj (by omega) (by omega) (by omega) (by omega) h with d | d <;> omega
      have m2 : yIx (fc f 0) (fc f 2) ≠ yIx (fc f 1) (fc f 2) := fun h => by rcases yIx_inj (by omega) (by omega) (by omega) (by omega) h with d | d <;> omega
      rw [yIx_comm (fc f 1) (fc f 0)]
      by_cases c0 : e = yIx (fc f 0) (fc f 2)
      · subst c0; simp [m1, m2]
      · simp [c0]
    · exact ⟨yIx_lt (by omega) (by omega), x13, (I13 _).2 (Or.inl rfl), (I13 _).2 (Or.inr rfl), hst⟩
end

-- three edges there are
theorem yMax_three {n : Nat} {X : Nat → Bool} (h : yMax n X) : ∃ a b c, a < 1024 ∧ b < 1024 ∧ c < 1024 ∧ X a = true ∧ X b = true ∧ X c = true ∧ a ≠ b ∧ a ≠ c ∧ b ≠ c := by
  have h3 := h.2.1
  obtain ⟨e, he, hx, hI⟩ := yMax_edge h (by omega : 0 < n)
  have ge := h.2.2.1 e he hx
  have Ie := yMax_ends h he hx
  -- an edge that leaves it
  have hex : ∃ e' v, e' < 1024 ∧ X e' = true ∧ e' ≠ e ∧ yI e v = true ∧ yI e' v = true := by
    by_cases c : ∃ e' v, e' < 1024 ∧ X e' = true ∧ e' ≠ e ∧ yI e v = true ∧ yI e' v = true
    · exact c
    · exfalso
      have hU := yMax_con h (fun v => yI e v) (by
        intro d hd hxd
        have Id := yMax_ends h hd hxd
        by_cases ce : d = e
        · subst ce
          rw [(Ie _).2 (Or.inl rfl), (Ie _).2 (Or.inr rfl)]
        · have f1 : ∀ v, yI d v = true → yI e v = false := by
            intro v hv
            cases hh : yI e v with
            | false => rfl
            | true => exact absurd ⟨d, v, hd, hxd, ce, hh, hv⟩ c
          rw [f1 _ ((Id _).2 (Or.inl rfl)), f1 _ ((Id _).2 (Or.inr rfl))])
      have : ∃ z, z < n ∧ z ≠ e/32 ∧ z ≠ e%32 := by
        by_cases c0 : e/32 = 0
        · by_cases c1 : e%32 = 1
          · exact ⟨2, by omega, by omega, by omega⟩
          · exact ⟨1, by omega, by omega, by omega⟩
        · exact ⟨0, by omega, by omega, by omega⟩
      obtain ⟨z, hz, z1, z2⟩ := this
      have hh := hU z (e%32) hz ge.2
      rw [(Ie (e%32)).2 (Or.inr rfl)] at hh
      rcases (Ie z).1 hh with c | c <;> omega
  obtain ⟨e', v, he', hx', hne, hv, hv'⟩ := hex
  obtain ⟨w, hw, hev, w1, _, _⟩ := yMax_v2 h v e e' he he' (Ne.symm hne) hx hx' hv hv'
  obtain ⟨e2, e3, a1, a2, a3, a4, a5, a6, a7⟩ := yEv_three (fun d hd hh => (h.2.2.1 d hd (hw d hd hh)).1) hev he w1
  exact ⟨e, e2, e3, he, a1, a2, hx, hw _ a1 a3, hw _ a2 a4, Ne.symm a5, Ne.symm a6, a7⟩



section
variable {n F : Nat} {g : Nat → Nat → Bool} {fo ρ : Nat → Nat → Nat} {s k : Nat} {r : Nat → Nat} {G : Nat → Prop}

theorem yIt_add (ρ : Nat → Nat → Nat) (v w i j : Nat) : yIt ρ v w (i+j) = yIt ρ v (yIt ρ v w i) j := by
  induction j with
  | zero => rfl
  | succ j ih => rw [← Nat.add_assoc]; show ρ v (yIt ρ v w (i+j)) = ρ v (yIt ρ v (yIt ρ v w i) j); rw [ih]

theorem yStp_ex (h : yTg n g F fo ρ) (hR : yRim n g ρ s r G) (hf : yFre g s r k) : ∃ p s' r', yStp g ρ s r k p s' r' := by
  obtain ⟨hs2, hr1, hr2, hr3, hr4, hr5⟩ := hR
  obtain ⟨hk1, hk2, hfree⟩ := hf
  have hgs := h.2.2.1.2
  have hvB : g (r k) (r (k+1)) = true := by rw [hgs]; exact hr3 k (by omega)
  have hvA : g (r k) (r (k-1)) = true := by have := hr3 (k-1) (by omega); rw [show k - 1 + 1 = k by omega] at this; exact this
  obtain ⟨c1, c2, c3, c4, c5⟩ := yTg_cyc h hvB
  obtain ⟨m, hm, hA⟩ := c5 (r (k-1)) hvA
  have hm1 : 1 ≤ m := by
    rcases Nat.lt_or_ge m 1 with e | e
    · exfalso
      have : m = 0 := by omega
      rw [this] at hA
      have hA' : r (k-1) = r (k+1) := hA
      have := hr2 _ _ (by omega) (by omega) hA'
      omega
    · exact e
  refine ⟨m-1, s + (m-1) - 1, fun i => if i < k then r i else if i < k + (m-1) then yIt ρ (r k) (r (k+1)) (m-1-(i-k)) else r (i+1-(m-1)), hk1, hk2, by omega, ?_, ?_, ?_, ?_, hfree⟩
  · intro i hi; dsimp only; rw [if_pos hi]
  · intro i hi hi'
    dsimp only
    rw [if_neg (by omega), if_neg (by omega)]
    congr 1; omega
  · intro j hj
    have e1 : (if k + j < k then r (k+j) else if k + j < k + (m-1) then yIt ρ (r k) (r (k+1)) (m-1-(k+j-k)) else r (k+j+1-(m-1))) = yIt ρ (r k) (r (k+1)) (m-1-j) := by
      rw [if_neg (by omega)]
      by_cases q : j < m - 1
      · rw [if_pos (by omega)]; congr 1; omega
      · rw [if_neg (by omega)]
        rw [show m - 1 - j = 0 by omega, show k + j + 1 - (m-1) = k + 1 by omega]; rfl
    have e2 : (if k + j - 1 < k then r (k+j-1) else if k + j - 1 < k + (m-1) then yIt ρ (r k) (r (k+1)) (m-1-(k+j-1-k)) else r (k+j-1+1-(m-1))) = yIt ρ (r k) (r (k+1)) (m-j) := by
      by_cases q : j = 0
      · rw [if_pos (by omega), q]
        rw [show k + 0 - 1 = k - 1 by omega, show m - 0 = m by omega]; exact hA
      · rw [if_neg (by omega), if_pos (by omega)]; congr 1; omega
    dsimp only
    rw [e1, e2]
    rw [show m - j = m - 1 - j + 1 by omega]; rfl
  · intro j hj
    dsimp only
    rw [if_neg (by omega), if_pos (by omega), hA]
    intro he
    have := c4 _ _ (by omega) (by omega) he
    omega
end

theorem yRim_size {n : Nat} {g : Nat → Nat → Bool} {ρ : Nat → Nat → Nat} {s : Nat} {r : Nat → Nat} {G : Nat → Prop} (hR : yRim n g ρ s r G) : s ≤ n :=
  yPig s n r (fun i hi => (hR.2.1 i hi).1) hR.2.2.1

-- the masks of what is gone
def yGmk (G : Nat → Prop) (x : Int32) : Prop := ∀ w, w < 32 → (yM x w = true ↔ G w)

section
variable {n F : Nat} {fl : Nat → Int32} {fo ρ : Nat → Nat → Nat} {s k p s' : Nat} {r r' : Nat → Nat} {G : Nat → Prop}

-- the row of neighbours: the place behind and the place before
theorem yRow_next {g : Nat → Nat → Bool} (h : yTg n g F fo ρ) {v w0 i : Nat} (hw0 : g v w0 = true) (hi : i < yNb 32 (g v)) : yIt ρ v w0 ((i+1) % yNb 32 (g v)) = ρ v (yIt ρ v w0 i) := by
  obtain ⟨c1, c2, c3, c4, c5⟩ := yTg_cyc h hw0
  by_cases q : i + 1 < yNb 32 (g v)
  · rw [Nat.mod_eq_of_lt q]; rfl
  · have : i + 1 = yNb 32 (g v) := by omega
    rw [this, Nat.mod_self]
    have h1 : yIt ρ v w0 (i+1) = w0 := by rw [this]; exact c3
    exact h1.symm

theorem yRow_prev {g : Nat → Nat → Bool} (h : yTg n g F fo ρ) {v w0 i : Nat} (hw0 : g v w0 = true) (hi : i < yNb 32 (g v)) :
    (i + (yNb 32 (g v) - 1)) % yNb 32 (g v) < yNb 32 (g v) ∧ ρ v (yIt ρ v w0 ((i + (yNb 32 (g v) - 1)) % yNb 32 (g v))) = yIt ρ v w0 i := by
  obtain ⟨c1, c2, c3, c4, c5⟩ := yTg_cyc h hw0
  have hlt := Nat.mod_lt (i + (yNb 32 (g v) - 1)) (by omega : 0 < yNb 32 (g v))
  refine ⟨hlt, ?_⟩
  rw [← yRow_next h hw0 hlt]
  congr 1
  rw [Nat.mod_add_mod, show i + (yNb 32 (g v) - 1) + 1 = i + yNb 32 (g v) by omega, Nat.add_mod_right, Nat.mod_eq_of_lt hi]

-- the outer side: nothing new
theorem w9_off119_1 (h : yTg n (yGm n fl) F fo ρ) (hR : yRim n (yGm n fl) ρ s r G) {gone : Int32} (hG : yGmk G gone) {ar : Nat → Int32} (hk1 : 1 ≤ k) (hk2 : k + 2 ≤ s) {w0 : Nat} (hw0 : yLw (yGm n fl) (r k) w0)
    (har : ∀ i, i < yNb 32 (yGm n fl (r k)) → ar (20 * r k + i) = Int32.ofNat (yIt ρ (r k) w0 i)) (t83 : Int32) (K : (Int32 × (Nat → Int32) × (Nat → Int32) × (Nat → Int32) × (Nat → Int32) × (Nat → Int32)) → Prop)
    (B : (Nat → Int32) → (Nat → Int32) → Int32 → Int32 → Prop) (fresh up : Nat → Int32) (hB : B fresh up 0 (t83 + 1)) :
    ∀ d i x, i < yNb 32 (yGm n fl (r k)) → yIt ρ (r k) w0 i = x → (x = r (k+1) ∨ G x) → (∃ m, m ≤ d ∧ yIt ρ (r k) x m = r (k+1)) →
      wLX9_takeOff_119_1 ar gone (Int32.ofNat (r k)) (Int32.ofNat (r (k+1))) (Int32.ofNat (yNb 32 (yGm n fl (r k)))) t83 K B (d+1) fresh up (Int32.ofNat i) 0 := by
  obtain ⟨hs2, hr1, hr2, hr3, hr4, hr5⟩ := hR
  have hn := h.2.1
  have hv := (hr1 k (by omega)).1
  have hB1 := (hr1 (k+1) (by omega)).1
  have hdg := yTg_deg h (r k)
  obtain ⟨c1, c2, c3, c4, c5⟩ := yTg_cyc h hw0.1
  have hBp : yBp s r k = r (k+1) := by unfold yBp; rw [if_pos (by omega)]
  obtain ⟨d1, d1', d2, d3⟩ := hr4 k (by omega)
  rw [hBp] at d1
  have h1eq : (1 : Int32) = Int32.ofNat 1 := rfl
  have h0eq : (0 : Int32) = Int32.ofNat 0 := rfl
  intro d
  induction d with
  | zero =>
    intro i x hi hx hc hm
    obtain ⟨m, hm0, hm1⟩ := hm
    have : m = 0 := by omega
    rw [this] at hm1
    have hxB : x = r (k+1) := hm1
    unfold wLX9_takeOff_119_1
    rw [yn_20, yn_nat (by omega), har i hi, hx, hxB]
    exact ⟨yn_in (by omega) (by omega), fun _ => hB, fun hh => absurd rfl hh⟩
  | succ d ih =>
    intro i x hi hx hc hm
    have gx := yTg_gr h (c2 i)
    rw [hx] at gx
    unfold wLX9_takeOff_119_1
    rw [yn_20, yn_nat (by omega), har i hi, hx]
    refine ⟨yn_in (by omega) (by omega), fun _ => hB, fun hne => ⟨yn_in (by omega) (by omega), ?_⟩⟩
    have hxB : x ≠ r (k+1) := fun e => hne (by rw [e])
    have hGx : G x := by
      rcases hc with e | e
      · exact absurd e hxB
      · exact e
    have hbit := (hG x (by omega)).2 hGx
    rw [yM_test (by omega), hbit]
    refine ⟨fun _ => ⟨?_, fun v198 h198 => ?_⟩, fun hh => absurd hh (by decide)⟩
    · intro hh
      rw [h0eq, yn_inj (by omega) (by omega)] at hh; omega
    · rw [h1eq, yn_add, yn_jmod (by omega) (by omega)] at h198
      rw [h198]
      have hlt := Nat.mod_lt (i+1) (by omega : 0 < yNb 32 (yGm n fl (r k)))
      refine ih _ (ρ (r k) x) hlt ?_ ?_ ?_
      · rw [yRow_next h hw0.1 hi, hx]
      · have hadj : yGm n fl (r k) x = true := by rw [← hx]; exact c2 i
        rcases d1 x hadj hGx with e | e
        · exact Or.inr e
        · exact Or.inl e
      · obtain ⟨m, hm0, hm1⟩ := hm
        have hmp : m ≠ 0 := by
          intro e
          rw [e] at hm1
          exact hxB hm1
        refine ⟨m-1, by omega, ?_⟩
        have := yIt_add ρ (r k) x 1 (m-1)
        rw [show 1 + (m-1) = m by omega] at this
        rw [this] at hm1
        exact hm1

-- the inner side: the new places
theorem w9_off119 (h : yTg n (yGm n fl) F fo ρ) (hR : yRim n (yGm n fl) ρ s r G) (hS : yStp (yGm n fl) ρ s r k p s' r') {gone : Int32} (hG : yGmk G gone) {ar : Nat → Int32} {w0 : Nat} (hw0 : yLw (yGm n fl) (r k) w0)
    (har : ∀ i, i < yNb 32 (yGm n fl (r k)) → ar (20 * r k + i) = Int32.ofNat (yIt ρ (r k) w0 i)) (t83 : Int32) (K : (Int32 × (Nat → Int32) × (Nat → Int32) × (Nat → Int32) × (Nat → Int32) × (Nat → Int32)) → Prop)
    (B : (Nat → Int32) → (Nat → Int32) → Int32 → Int32 → Prop) (up0 : Nat → Int32)
    (hB : ∀ fresh up, (∀ j, j < p → fresh j = Int32.ofNat (r' (k+j))) → (∀ j, j < p → up (r' (k+j)) = Int32.ofNat (r k)) → (∀ x, (∀ j, j < p → x ≠ r' (k+j)) → up x = up0 x) → B fresh up (Int32.ofNat p) (t83 + 1)) :
    ∀ d m i fresh up, p - m = d → m ≤ p → i < yNb 32 (yGm n fl (r k)) → yIt ρ (r k) w0 i = r' (k+m) → (∀ j, j < m → fresh j = Int32.ofNat (r' (k+j))) → (∀ j, j < m → up (r' (k+j)) = Int32.ofNat (r k)) → (∀ x, (∀ j, j < m → x ≠ r' (k+j)) → up x = up0 x) →
      wLX9_takeOff_119 ar gone (Int32.ofNat (r k)) (Int32.ofNat (r (k+1))) (Int32.ofNat (yNb 32 (yGm n fl (r k)))) t83 (Int32.ofNat (yNb 32 (yGm n fl (r k)) - 1)) K B (d+1) fresh up (Int32.ofNat i) (Int32.ofNat m) := by
  obtain ⟨e0, e1, F1, F3, F2, F4⟩ := yStp_facts h hR hS
  obtain ⟨hk1, hk2, hp, ha, hb, hcc, hd, hfree⟩ := hS
  have hn := h.2.1
  have hv := (hR.2.1 k (by omega)).1
  have hB1 := (hR.2.1 (k+1) (by omega)).1
  have hdg := yTg_deg h (r k)
  obtain ⟨c1, c2, c3, c4, c5⟩ := yTg_cyc h hw0.1
  have hs' := yRim_size (yRim_step h hR ⟨hk1, hk2, hp, ha, hb, hcc, hd, hfree⟩)
  have h0eq : (0 : Int32) = Int32.ofNat 0 := rfl
  have hq : ∀ m, m ≤ p → yGm n fl (r k) (r' (k+m)) = true ∧ r' (k+m) < n ∧ ¬ G (r' (k+m)) := by
    intro m hm
    have := F1 (m+1) (by omega)
    rw [show k + (m+1) - 1 = k + m by omega] at this
    exact ⟨this.2, (h.2.2.1.1 _ _ this.2).2.1, this.1⟩
  intro d
  induction d with
  | zero =>
    intro m i fresh up hd' hm hi hx k1 k2 k3
    have : m = p := by omega
    subst this
    unfold wLX9_takeOff_119
    rw [yn_20, yn_nat (by omega), har i hi, hx, e1]
    exact ⟨yn_in (by omega) (by omega), fun _ => hB fresh up k1 k2 k3, fun hh => absurd rfl hh⟩
  | succ d ih =>
    intro m i fresh up hd' hm hi hx k1 k2 k3
    obtain ⟨q1, q2, q3⟩ := hq m (by omega)
    have em : Int32.ofNat m + 1 = Int32.ofNat (m+1) := yn_add m 1
    have hne : r' (k+m) ≠ r (k+1) := by
      intro hh
      rw [← e1] at hh
      have := F3 (m+1) (p+1) (by omega) (by omega) (by rw [show k + (m+1) - 1 = k + m by omega, show k + (p+1) - 1 = k + p by omega]; exact hh)
      omega
    have hbit : yM gone (r' (k+m)) = false := by
      cases hh : yM gone (r' (k+m)) with
      | false => rfl
      | true => exact absurd ((hG _ (by omega)).1 hh) q3
    unfold wLX9_takeOff_119
    rw [yn_20, yn_nat (by omega), yn_nat (by omega : m < 2147483648), har i hi, hx, em]
    refine ⟨yn_in (by omega) (by omega), fun hh => ?_, fun _ => ⟨yn_in (by omega) (by omega), ?_⟩⟩
    · exfalso; rw [yn_inj (by omega) (by omega)] at hh; exact hne hh
    rw [yM_test (by omega), hbit]
    refine ⟨fun hh => absurd rfl hh, fun _ => ⟨yn_in (by omega) (by omega), yn_in (by omega) (by omega), fun fr hfr => ?_⟩⟩
    have hfm : fr m = Int32.ofNat (r' (k+m)) := by rw [hfr, yupd_same]
    rw [hfm, yn_nat (by omega)]
    refine ⟨yn_in (by omega) (by omega), yn_in (by omega) (by omega), fun up' hup => ⟨?_, fun v198 h198 => ?_⟩⟩
    · intro hh
      rw [h0eq, yn_inj (by omega) (by omega)] at hh; omega
    · rw [yn_add, yn_jmod (by omega) (by omega)] at h198
      rw [h198]
      obtain ⟨p1, p2⟩ := yRow_prev h hw0.1 hi
      refine ih (m+1) _ fr up' (by omega) (by omega) p1 ?_ ?_ ?_ ?_
      · -- the one before
        have hc1 := hcc (m+1) (by omega)
        rw [show k + (m+1) - 1 = k + m by omega] at hc1
        rw [hx] at p2
        have t1 := (yTg_th h (c2 ((i + (yNb 32 (yGm n fl (r k)) - 1)) % yNb 32 (yGm n fl (r k))))).2.2.2.2.1
        have t2 := (yTg_th h (hq (m+1) (by omega)).1).2.2.2.2.1
        rw [p2] at t1
        rw [hc1] at t2
        exact t1.symm.trans t2
      · intro j hj
        rw [hfr]
        by_cases cj : j = m
        · rw [cj, yupd_same]
        · rw [yupd_ne _ _ _ _ cj]; exact k1 j (by omega)
      · intro j hj
        rw [hup]
        by_cases cj : j = m
        · rw [cj, yupd_same]
        · rw [yupd_ne]
          · exact k2 j (by omega)
          · intro hh
            have := F3 (j+1) (m+1) (by omega) (by omega) (by rw [show k + (j+1) - 1 = k + j by omega, show k + (m+1) - 1 = k + m by omega]; exact hh)
            omega
      · intro x hx'
        rw [hup, yupd_ne _ _ _ _ (hx' m (by omega))]
        exact k3 x (fun j hj => hx' j (by omega))
end


section
variable {n F : Nat} {fl : Nat → Int32} {fo ρ : Nat → Nat → Nat} {s k p s' : Nat} {r r' : Nat → Nat} {G : Nat → Prop}

theorem yn_sp {s p : Nat} (h : 1 ≤ s + p) : Int32.ofNat s + (Int32.ofNat p - 1) = Int32.ofNat (s+p-1) := by
  have h1 : (1 : Int32) = Int32.ofNat 1 := rfl
  rw [Int32.sub_eq_add_neg, ← Int32.add_assoc, yn_add, ← Int32.sub_eq_add_neg, h1, yn_sub h]

-- one node more in place
theorem w9_off295 (hS : yStp (yGm n fl) ρ s r k p s' r') (hs : s' ≤ 20) (hs0 : s ≤ 20) (g34 g42 fresh up : Nat → Int32) (hfr : ∀ j, j < p → fresh j = Int32.ofNat (r' (k+j)))
    (K : (Int32 × (Nat → Int32) × (Nat → Int32) × (Nat → Int32) × (Nat → Int32) × (Nat → Int32)) → Prop)
    (hK : ∀ X, (∀ i, i < s' → X i = Int32.ofNat (r' i)) → K (Int32.ofNat s', X, g34, g42, fresh, up)) :
    ∀ d j X, p - j = d → j ≤ p → (∀ i, i < s' → (i < k + j ∨ k + p ≤ i) → X i = Int32.ofNat (r' i)) →
      wLX9_takeOff_295 (Int32.ofNat s) (Int32.ofNat k) g34 g42 fresh up (Int32.ofNat p) K (d+1) X (Int32.ofNat j) := by
  obtain ⟨hk1, hk2, hp, ha, hb, hcc, hd, hfree⟩ := hS
  intro d
  induction d with
  | zero =>
    intro j X hd' hj hX
    unfold wLX9_takeOff_295
    refine ⟨fun _ v334 h334 => ?_, fun hh => ?_⟩
    · rw [h334, yn_sp (by omega), show s + p - 1 = s' by omega]
      exact hK X (fun i hi => hX i hi (by omega))
    · exfalso; apply hh; rw [yn_le (by omega) (by omega)]; omega
  | succ d ih =>
    intro j X hd' hj hX
    have e1 : Int32.ofNat j + 1 = Int32.ofNat (j+1) := yn_add j 1
    unfold wLX9_takeOff_295
    rw [e1, yn_add, yn_nat (by omega), yn_nat (by omega)]
    refine ⟨fun hh => ?_, fun _ => ⟨yn_in (by omega) (by omega), yn_in (by omega) (by omega), fun X' hX' => ?_⟩⟩
    · exfalso; rw [yn_le (by omega) (by omega)] at hh; omega
    · refine ih (j+1) X' (by omega) (by omega) ?_
      intro i hi hc
      rw [hX']
      by_cases q : i = k + j
      · rw [q, yupd_same]; exact hfr j (by omega)
      · rw [yupd_ne _ _ _ _ q]; exact hX i hi (by omega)

theorem w9_off261 (hS : yStp (yGm n fl) ρ s r k p s' r') (hs : s' ≤ 20) (hs0 : s ≤ 20) (hp1 : 1 ≤ p) (g34 g42 fresh up : Nat → Int32) (hfr : ∀ j, j < p → fresh j = Int32.ofNat (r' (k+j)))
    (K : (Int32 × (Nat → Int32) × (Nat → Int32) × (Nat → Int32) × (Nat → Int32) × (Nat → Int32)) → Prop)
    (hK : ∀ X, (∀ i, i < s' → X i = Int32.ofNat (r' i)) → K (Int32.ofNat s', X, g34, g42, fresh, up)) :
    ∀ d j X, j - k = d → k ≤ j → j < s → (∀ i, i ≤ j → X i = Int32.ofNat (r i)) → (∀ i, j < i → i < s → X (i+p-1) = Int32.ofNat (r i)) →
      wLX9_takeOff_261 (Int32.ofNat s) (Int32.ofNat k) g34 g42 fresh up (Int32.ofNat p) K (d+1) X (Int32.ofNat j) := by
  have hS' := hS
  obtain ⟨hk1, hk2, hp, ha, hb, hcc, hd, hfree⟩ := hS
  have h1eq : (1 : Int32) = Int32.ofNat 1 := rfl
  have h0eq : (0 : Int32) = Int32.ofNat 0 := rfl
  intro d
  induction d with
  | zero =>
    intro j X hd' hkj hj h1 h2
    have : j = k := by omega
    subst this
    unfold wLX9_takeOff_261
    refine ⟨fun _ => ?_, fun hh => ?_⟩
    · rw [h0eq]
      refine ⟨p - 0 + 1, w9_off295 hS' hs hs0 g34 g42 fresh up hfr K hK (p-0) 0 X rfl (by omega) ?_⟩
      intro i hi hc
      rcases hc with c | c
      · rw [h1 i (by omega), ha i (by omega)]
      · have := h2 (i+1-p) (by omega) (by omega)
        rw [show i + 1 - p + p - 1 = i by omega] at this
        have hbb := hb (i+1-p) (by omega) (by omega)
        rw [show i + 1 - p + p - 1 = i by omega] at hbb
        rw [this, hbb]
    · exfalso; apply hh; rw [yn_le (by omega) (by omega)]; omega
  | succ d ih =>
    intro j X hd' hkj hj h1 h2
    have e1 : Int32.ofNat j + (-1) = Int32.ofNat (j-1) := by
      have : Int32.ofNat (j-1) = Int32.ofNat j - Int32.ofNat 1 := (yn_sub (by omega)).symm
      rw [this, Int32.sub_eq_add_neg]; rfl
    have e2 : Int32.ofNat j + Int32.ofNat p - 1 = Int32.ofNat (j+p-1) := by rw [yn_add, h1eq, yn_sub (by omega)]
    unfold wLX9_takeOff_261
    rw [e1, e2, yn_nat (by omega), yn_nat (by omega)]
    refine ⟨fun hh => ?_, fun _ => ⟨yn_in (by omega) (by omega), yn_in (by omega) (by omega), fun X' hX' => ?_⟩⟩
    · exfalso; rw [yn_le (by omega) (by omega)] at hh; omega
    · refine ih (j-1) X' (by omega) (by omega) (by omega) ?_ ?_
      · intro i hi
        rw [hX', yupd_ne _ _ _ _ (by omega)]; exact h1 i (by omega)
      · intro i hi hi'
        rw [hX']
        by_cases q : i = j
        · rw [q, yupd_same]; exact h1 j (Nat.le_refl _)
        · rw [yupd_ne _ _ _ _ (by omega)]; exact h2 i (by omega) hi'

theorem w9_off217 (hS : yStp (yGm n fl) ρ s r k 0 s' r') (hs : s' ≤ 20) (hs0 : s ≤ 20) (g34 g42 fresh up : Nat → Int32)
    (K : (Int32 × (Nat → Int32) × (Nat → Int32) × (Nat → Int32) × (Nat → Int32) × (Nat → Int32)) → Prop)
    (hK : ∀ X, (∀ i, i < s' → X i = Int32.ofNat (r' i)) → K (Int32.ofNat s', X, g34, g42, fresh, up)) :
    ∀ d j X, s - 1 - j = d → k ≤ j → j + 1 ≤ s → (∀ i, i < j → X i = Int32.ofNat (r' i)) → (∀ i, j ≤ i → i < s → X i = Int32.ofNat (r i)) →
      wLX9_takeOff_217 (Int32.ofNat s) g34 g42 fresh up (Int32.ofNat 0) K (d+1) X (Int32.ofNat j) := by
  obtain ⟨hk1, hk2, hp, ha, hb, hcc, hd, hfree⟩ := hS
  intro d
  induction d with
  | zero =>
    intro j X hd' hkj hj h1 h2
    have e1 : Int32.ofNat j + 1 = Int32.ofNat (j+1) := yn_add j 1
    unfold wLX9_takeOff_217
    rw [e1]
    refine ⟨fun _ v334 h334 => ?_, fun hh => ?_⟩
    · rw [h334, yn_sp (by omega), show s + 0 - 1 = s' by omega]
      exact hK X (fun i hi => h1 i (by omega))
    · exfalso; apply hh; rw [yn_le (by omega) (by omega)]; omega
  | succ d ih =>
    intro j X hd' hkj hj h1 h2
    have e1 : Int32.ofNat j + 1 = Int32.ofNat (j+1) := yn_add j 1
    unfold wLX9_takeOff_217
    rw [e1, yn_nat (by omega), yn_nat (by omega)]
    refine ⟨fun hh => ?_, fun _ => ⟨yn_in (by omega) (by omega), yn_in (by omega) (by omega), fun X' hX' => ?_⟩⟩
    · exfalso; rw [yn_le (by omega) (by omega)] at hh; omega
    · refine ih (j+1) X' (by omega) (by omega) (by omega) ?_ ?_
      · intro i hi
        rw [hX']
        by_cases q : i = j
        · have := hb (j+1) (by omega) (by omega)
          rw [show j + 1 + 0 - 1 = j by omega] at this
          rw [q, yupd_same, this]; exact h2 (j+1) (by omega) (by omega)
        · rw [yupd_ne _ _ _ _ q]; exact h1 i (by omega)
      · intro i hi hi'
        rw [hX', yupd_ne _ _ _ _ (by omega)]; exact h2 i (by omega) hi'

theorem w9_takeOff (h : yTg n (yGm n fl) F fo ρ) (hR : yRim n (yGm n fl) ρ s r G) (hS : yStp (yGm n fl) ρ s r k p s' r') {gone : Int32} (hG : yGmk G gone) {ar as : Nat → Int32} (hA : yRnds n (yGm n fl) ρ ar as)
    (rim lf rt fresh up : Nat → Int32) (hrim : ∀ i, i < s → rim i = Int32.ofNat (r i)) (i0 i1 i2 i3 i4 i5 i6 i7 i8 i9 i10 i11 i13 i14 i15 i16 i17 : Int32)
    (K : (Int32 × (Nat → Int32) × (Nat → Int32) × (Nat → Int32) × (Nat → Int32) × (Nat → Int32)) → Prop)
    (hK : ∀ rim' fresh' up', (∀ i, i < s' → rim' i = Int32.ofNat (r' i)) → (∀ j, j < p → up' (r' (k+j)) = Int32.ofNat (r k)) → (∀ x, (∀ j, j < p → x ≠ r' (k+j)) → up' x = up x) →
      K (Int32.ofNat s', rim', upd lf (r k) (Int32.ofNat (r (k-1))), upd rt (r k) (Int32.ofNat (r (k+1))), fresh', up')) :
    wX9_takeOff i0 i1 i2 i3 i4 i5 i6 i7 i8 i9 i10 i11 (Int32.ofNat s) i13 i14 i15 i16 i17 rim lf rt ar as fresh up (Int32.ofNat k) gone K := by
  have hn := h.2.1
  have hR' := yRim_step h hR hS
  have hs20 := yRim_size hR
  have hs20' := yRim_size hR'
  have hS' := hS
  obtain ⟨e0, e1, F1, F3, F2, F4⟩ := yStp_facts h hR hS
  obtain ⟨hk1, hk2, hp, ha, hb, hcc, hd, hfree⟩ := hS
  have hv := (hR.2.1 k (by omega)).1
  have h1eq : (1 : Int32) = Int32.ofNat 1 := rfl
  have h0eq : (0 : Int32) = Int32.ofNat 0 := rfl
  have h2eq : (2 : Int32) = Int32.ofNat 2 := rfl
  obtain ⟨w0, hw0, hw0n⟩ := yTg_nb h hv
  obtain ⟨has, har⟩ := hA (r k) hv
  have har' := har w0 hw0
  obtain ⟨c1, c2, c3, c4, c5⟩ := yTg_cyc h hw0.1
  have hdg := yTg_deg h (r k)
  have hgs := h.2.2.1.2
  have hvA : yGm n fl (r k) (r (k-1)) = true := by have := hR.2.2.2.1 (k-1) (by omega); rw [show k - 1 + 1 = k by omega] at this; exact this
  have hvB : yGm n fl (r k) (r (k+1)) = true := by rw [hgs]; exact hR.2.2.2.1 k (by omega)
  obtain ⟨iA, hiA, hxA⟩ := c5 _ hvA
  have ek1 : Int32.ofNat k - 1 = Int32.ofNat (k-1) := by rw [h1eq, yn_sub hk1]
  have ek2 : Int32.ofNat k + 1 = Int32.ofNat (k+1) := yn_add k 1
  have hAb := (hR.2.1 (k-1) (by omega)).1
  have hBb := (hR.2.1 (k+1) (by omega)).1
  unfold wX9_takeOff
  rw [ek1, ek2, yn_nat (by omega), yn_nat (by omega), yn_nat (by omega), hrim k (by omega), hrim (k-1) (by omega), hrim (k+1) (by omega)]
  refine ⟨yn_in (by omega) (by omega), fun v6 h6 => ⟨yn_in (by omega) (by omega), fun v15 h15 => ⟨yn_in (by omega) (by omega), fun v25 h25 => ?_⟩⟩⟩
  rw [h6, h15, h25, yn_nat (by omega)]
  refine ⟨yn_in (by omega) (by omega), fun g34 h34 => ⟨yn_in (by omega) (by omega), fun g42 h42 => ?_⟩⟩
  rw [← h34, ← h42] at hK
  -- the last part
  have hlast : ∀ fresh' up', (∀ j, j < p → fresh' j = Int32.ofNat (r' (k+j))) → (∀ j, j < p → up' (r' (k+j)) = Int32.ofNat (r k)) → (∀ x, (∀ j, j < p → x ≠ r' (k+j)) → up' x = up x) →
      ∀ N, wLX9_takeOff_83 (Int32.ofNat s) rim ar (Int32.ofNat k) gone (Int32.ofNat (r k)) (Int32.ofNat (r (k+1))) g34 g42 (Int32.ofNat iA) (Int32.ofNat (yNb 32 (yGm n fl (r k)))) K (N+1) fresh' up' (Int32.ofNat p) 2 := by
    intro fresh' up' f1 f2 f3 N
    unfold wLX9_takeOff_83
    refine ⟨fun _ => ⟨fun hne v259 h259 => ?_, fun hz => ?_⟩, fun hh => absurd (by decide) hh⟩
    · have hp1 : 1 ≤ p := by
        rcases Nat.lt_or_ge p 1 with e | e
        · exfalso; apply hne; rw [show p = 0 by omega]; rfl
        · exact e
      rw [h1eq, yn_sub (by omega)] at h259
      rw [h259]
      refine ⟨_, w9_off261 hS' (by omega) (by omega) hp1 g34 g42 fresh' up' f1 K (fun X hX => hK X fresh' up' hX f2 f3) (s-1-k) (s-1) rim rfl (by omega) (by omega) (fun i hi => hrim i (by omega)) (fun i h1 h2 => by omega)⟩
    · have hp0 : p = 0 := by rw [h0eq, yn_inj (by omega) (by omega)] at hz; exact hz
      have hSz : yStp (yGm n fl) ρ s r k 0 s' r' := by rw [hp0] at hS'; exact hS'
      rw [hp0]
      refine ⟨_, w9_off217 hSz (by omega) (by omega) g34 g42 fresh' up' K (fun X hX => hK X fresh' up' hX f2 f3) (s-1-k) k rim rfl (Nat.le_refl _) (by omega) (fun i hi => by rw [hrim i (by omega), ha i hi]) (fun i _ hi => hrim i hi)⟩
  have key : ∀ d i, iA - i = d → i ≤ iA → wLX9_takeOff_46 (Int32.ofNat s) rim ar as fresh up (Int32.ofNat k) gone (Int32.ofNat (r k)) (Int32.ofNat (r (k-1))) (Int32.ofNat (r (k+1))) g34 g42 K (d+1) (Int32.ofNat i) := by
    intro d
    induction d with
    | zero =>
      intro i hd' hi
      have : i = iA := by omega
      subst this
      unfold wLX9_takeOff_46
      rw [yn_20, yn_nat (by omega), har' i hiA, ← hxA, yn_nat (by omega), has]
      refine ⟨yn_in (by omega) (by omega), fun _ => ⟨yn_in (by omega) (by omega), fun v75 h75 => ⟨3, ?_⟩⟩, fun hh => absurd rfl hh⟩
      rw [h75]
      unfold wLX9_takeOff_83
      refine ⟨fun hh => absurd hh (by decide), fun _ => ⟨fun hh => absurd rfl hh, fun _ => ⟨fun hh => absurd rfl hh, fun _ => ⟨?_, fun v117 h117 => ?_⟩⟩⟩⟩
      · intro hh
        rw [h0eq, yn_inj (by omega) (by omega)] at hh; omega
      rw [h1eq, yn_add, yn_jmod (by omega) (by omega)] at h117
      rw [h117]
      have hlt := Nat.mod_lt (i+1) (by omega : 0 < yNb 32 (yGm n fl (r k)))
      have hAp : yAp s r k = r (k-1) := by unfold yAp; rw [if_neg (by omega)]
      have hBp : yBp s r k = r (k+1) := by unfold yBp; rw [if_pos (by omega)]
      have d1' := (hR.2.2.2.2.1 k (by omega)).2.1
      rw [hAp, hBp] at d1'
      have hadj2 : yGm n fl (r k) (ρ (r k) (r (k-1))) = true := by rw [hgs]; exact (yTg_th h hvA).2.2.1
      obtain ⟨mB, hmB, hxB⟩ := (yTg_cyc h hadj2).2.2.2.2 _ hvB
      refine ⟨_, w9_off119_1 h hR hG hk1 hk2 hw0 har' 0 K _ fresh up ?_ (yNb 32 (yGm n fl (r k))) _ (ρ (r k) (r (k-1))) hlt ?_ ?_ ?_⟩
      · -- the second side
        have h01 : (0 : Int32) + 1 = 1 := by decide
        rw [h01]
        unfold wLX9_takeOff_83
        refine ⟨fun hh => absurd hh (by decide), fun _ => ⟨fun hh => absurd rfl hh, fun _ => ⟨fun _ v107 h107 => ⟨?_, fun v117' h117' => ?_⟩, fun hh => absurd hh (by decide)⟩⟩⟩
        · intro hh
          rw [h0eq, yn_inj (by omega) (by omega)] at hh; omega
        rw [h1eq, yn_sub (by omega)] at h107
        rw [h107, yn_add, yn_jmod (by omega) (by omega)] at h117'
        rw [h117', h107]
        obtain ⟨p1, p2⟩ := yRow_prev h hw0.1 hiA
        refine ⟨_, w9_off119 h hR hS' hG hw0 har' 1 K _ up ?_ (p-0) 0 _ fresh up rfl (by omega) p1 ?_ (fun j hj => by omega) (fun j hj => by omega) (fun x _ => rfl)⟩
        · intro fresh' up' f1 f2 f3
          have h12 : (1 : Int32) + 1 = 2 := by decide
          rw [h12]
          exact hlast fresh' up' f1 f2 f3 0
        · rw [← hxA] at p2
          have hc0 := hcc 0 (by omega)
          simp only [Nat.add_zero] at hc0 ⊢
          rw [e0] at hc0
          have hqk : yGm n fl (r k) (r' k) = true := by
            have := (F1 1 (by omega)).2
            rw [show k + 1 - 1 = k by omega] at this; exact this
          have t1 := (yTg_th h (c2 ((i + (yNb 32 (yGm n fl (r k)) - 1)) % yNb 32 (yGm n fl (r k))))).2.2.2.2.1
          have t2 := (yTg_th h hqk).2.2.2.2.1
          rw [p2] at t1
          rw [hc0] at t2
          exact t1.symm.trans t2
      · rw [yRow_next h hw0.1 hiA, ← hxA]
      · exact Or.symm d1'
      · exact ⟨mB, by omega, hxB.symm⟩
    | succ d ih =>
      intro i hd' hi
      have ei : Int32.ofNat i + 1 = Int32.ofNat (i+1) := yn_add i 1
      have gi := yTg_gr h (c2 i)
      unfold wLX9_takeOff_46
      rw [yn_20, yn_nat (by omega), har' i (by omega), ei]
      refine ⟨yn_in (by omega) (by omega), fun hh => ?_, fun _ => ih (i+1) (by omega) (by omega)⟩
      exfalso
      rw [yn_inj (by omega) (by omega), hxA] at hh
      have := c4 _ _ (by omega) hiA hh
      omega
  rw [h0eq]
  exact ⟨_, key (iA-0) 0 rfl (by omega)⟩
end


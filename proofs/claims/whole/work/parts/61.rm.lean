
section
variable {n E : Nat} {f fa fb eo : Nat → Int32} {ea eb po cls dep : Nat → Nat}


-- pairs of numbers as numbers
theorem yPairNum : ∃ nm : Nat × Nat → Nat, ∀ a b, nm a = nm b → a = b := by
  refine ⟨fun p => 2^p.1 * (2*p.2+1), ?_⟩
  have key : ∀ a b c d : Nat, 2^a * (2*b+1) = 2^c * (2*d+1) → a = c ∧ b = d := by
    intro a
    induction a with
    | zero =>
      intro b c d h
      cases c with
      | zero => simp at h; exact ⟨rfl, by omega⟩
      | succ c =>
        exfalso
        rw [Nat.pow_succ, Nat.pow_zero, Nat.one_mul, Nat.mul_comm (2^c) 2, Nat.mul_assoc] at h
        omega
    | succ a ih =>
      intro b c d h
      cases c with
      | zero =>
        exfalso
        rw [Nat.pow_succ, Nat.pow_zero, Nat.one_mul, Nat.mul_comm (2^a) 2, Nat.mul_assoc] at h
        omega
      | succ c =>
        rw [Nat.pow_succ, Nat.pow_succ, Nat.mul_comm (2^a) 2, Nat.mul_comm (2^c) 2, Nat.mul_assoc, Nat.mul_assoc] at h
        have := ih b c d (by omega)
        exact ⟨by omega, this.2⟩
  rintro ⟨a, b⟩ ⟨c, d⟩ h
  have := key a b c d h
  rw [this.1, this.2]

theorem yDs_inj {L M : Type} {m : Nat} {I : Nat → Nat → Bool} {X z : Nat → Bool} {s t : Nat → L} (h : yDs m I X z s t) (q : L → M) (hq : ∀ a b, q a = q b → a = b) :
    yDs m I X z (fun e => q (s e)) (fun e => q (t e)) := by
  constructor
  · intro c; exact h.1 (fun l => c (q l))
  · intro y hy hev
    obtain ⟨c, hc⟩ := h.2 y hy hev
    have hdec : ∀ x : M, ∃ b : Bool, ∀ l, q l = x → b = c l := by
      intro x
      by_cases hx : ∃ l, q l = x
      · obtain ⟨l, hl⟩ := hx
        exact ⟨c l, fun l' hl' => by rw [hq l l' (hl.trans hl'.symm)]⟩
      · exact ⟨false, fun l hl => absurd ⟨l, hl⟩ hx⟩
    refine ⟨fun x => Classical.choose (hdec x), fun e he hx => ?_⟩
    dsimp only
    rw [hc e he hx, Classical.choose_spec (hdec (q (t e))) (t e) rfl, Classical.choose_spec (hdec (q (s e))) (s e) rfl]

theorem w9_ip129 (hn : n ≤ 21) (hg : ∀ v w, yGm n f v w = true → v < n ∧ w < n ∧ v ≠ w) (hs : ∀ v w, yGm n f v w = yGm n f w v) (hM : yNb 1024 (yGr (yGm n f)) ≤ 57)
    (hE210 : E ≤ 210) (hE : yEd n f n 0 E fa fb ea eb) (hU : yUf n f E ea eb eo po cls dep) (hR : ∀ v, v < n → yRl n f E ea eb cls v) (r : Nat) (hr : r < E)
    (i0 i1 i2 i11 i12 i13 i14 i15 i16 i17 : Int32) (t0 t1 t2 t3 t5 t6 t7 t8 : Nat → Int32) (t9 t10 t11 t12 t13 t14 : Int32)
    (K : Int32 → (Int32 × Int32 × Int32 × Int32 × Int32 × Int32 × Int32 × (Nat → Int32) × (Nat → Int32) × (Nat → Int32) × (Nat → Int32) × (Nat → Int32) × (Nat → Int32) × (Nat → Int32) × (Nat → Int32) × (Nat → Int32) × (Nat → Int32) × (Nat → Int32) × (Nat → Int32)) → Prop)
    (B : (Nat → Int32) → (Nat → Int32) → (Nat → Int32) → (Nat → Int32) → (Nat → Int32) → (Nat → Int32) → (Nat → Int32) → (Nat → Int32) → (Nat → Int32) → Int32 → Int32 → Int32 → Int32 → Int32 → Int32 → Int32 → Prop)
    (hB1 : yFew (yKl n f E ea eb cls r) → ∀ blk, B t0 t1 t2 t3 blk t5 t6 t7 t8 t9 t10 t11 t12 t13 t14 (Int32.ofNat (r+1)))
    (hB2 : ∀ F inH nH fa' fs' fb' i7 y1 y2 y3 x0 x1 x2 old blk, yEmI n blk inH nH fa' fs' fb' F → (∀ v, v < n → inH v = blk v) → (∀ e, e < 1024 → yGr (yGm n blk) e = yKl n f E ea eb cls r e) →
      B fb' fa' fs' old blk x0 x1 x2 inH nH (Int32.ofNat F) i7 y1 y2 y3 (Int32.ofNat (r+1)))
    (hK0 : ¬ yPl n f → ∀ u, K 0 u) :
    ∀ d j blk, E - j = d → j ≤ E → yBm n j ea eb cls r blk →
      wLX9_isPlane_129 i0 i1 i2 (Int32.ofNat n) i11 i12 i13 i14 i15 i16 i17 (Int32.ofNat E, fa, fb, eo) t0 t1 t2 t3 t5 t6 t7 t8 t9 t10 t11 t12 t13 t14 (Int32.ofNat r) K B (d+1) blk
        (Int32.ofNat (yNb j (fun i => decide (cls i = r)))) (Int32.ofNat j) := by
  have h2eq : (2 : Int32) = Int32.ofNat 2 := rfl
  have er : Int32.ofNat r + 1 = Int32.ofNat (r+1) := yn_add r 1
  intro d
  induction d with
  | zero =>
    intro j blk hd hj hB
    have hjE : j = E := by omega
    subst hjE
    have hc := yNb_le j (fun i => decide (cls i = r))
    unfold wLX9_isPlane_129
    dsimp only
    rw [er]
    refine ⟨fun _ => ⟨fun hm => ?_, fun hm => ?_⟩, fun hh => ?_⟩
    · rw [h2eq, yn_le (by omega) (by omega)] at hm
      exact hB1 (yKl_few hn hE hm) blk
    · rw [h2eq, yn_le (by omega) (by omega)] at hm
      have hall := yBm_all hE hn hB
      have hv := yBm_v2 hg hs hE hU hR hn hB
      obtain ⟨a, b, ha, hb, hab, ca, cb⟩ := yNb_ex2 (by omega : 2 ≤ yNb j (fun i => decide (cls i = r)))
      have ga := yEd_gr hn hE ha; have gb := yEd_gr hn hE hb
      refine w9_embed hn hall.1 hall.2.1 ?_ hv.1 hv.2 ga.1 gb.1 (fun h => hab (yEd_ix hn hE ha hb h))
        (by rw [hall.2.2 _ ga.1]; exact (yKl_at hn hE).2 ⟨a, ha, rfl, of_decide_eq_true ca⟩) (by rw [hall.2.2 _ gb.1]; exact (yKl_at hn hE).2 ⟨b, hb, rfl, of_decide_eq_true cb⟩)
        i0 i1 i2 (Int32.ofNat j) t9 t10 t11 t12 t13 t14 i11 i12 i13 i14 i15 i16 i17 t5 t6 t7 t8 t0 t1 t2 t3 _ ?_ ?_
      · refine Nat.le_trans (yNb_sub 1024 _ _ ?_) hM
        intro e he h
        rw [hall.2.2 e he] at h
        unfold yKl at h
        rw [Bool.and_eq_true] at h; exact h.1
      · intro F inH nH fa' fs' fb' i7 y1 y2 y3 x0 x1 x2 old hI hw
        exact ⟨fun _ => hB2 F inH nH fa' fs' fb' i7 y1 y2 y3 x0 x1 x2 old blk hI hw hall.2.2, fun h => absurd h (by decide)⟩
      · intro hnp u
        refine ⟨fun h => absurd rfl h, fun _ => hK0 ?_ _⟩
        rintro ⟨lab, hl⟩
        apply hnp
        obtain ⟨q, hq⟩ := yDs_sub hl (yGr (yGm n blk)) (by
          intro e he h
          rw [hall.2.2 e he] at h
          unfold yKl at h
          rw [Bool.and_eq_true] at h; exact h.1) (fun e _ h => by cases h)
        exact ⟨fun b e => q (lab b e), hq⟩
    · exfalso; apply hh; rw [yn_le (by omega) (by omega)]; omega
  | succ d ih =>
    intro j blk hd hj hB
    have hc := yNb_le j (fun i => decide (cls i = r))
    have gj := hE.1 j (by omega)
    have e1 : Int32.ofNat j + 1 = Int32.ofNat (j+1) := yn_add j 1
    have e2 : Int32.ofNat (yNb j (fun i => decide (cls i = r))) + 1 = Int32.ofNat (yNb j (fun i => decide (cls i = r)) + 1) := yn_add _ 1
    have hcl := (hU.2.1 j (by omega)).1
    unfold wLX9_isPlane_129
    dsimp only
    rw [e1, e2, yn_nat (by omega : j < 2147483648), gj.1, gj.2.1, yn_nat (by omega : ea j < 2147483648), yn_nat (by omega : eb j < 2147483648)]
    refine ⟨fun hh => ?_, fun _ => ?_⟩
    · exfalso; rw [yn_le (by omega) (by omega)] at hh; omega
    refine w9_rootOf (by omega) eo po cls dep hU.1 _ _ _ _ _ _ _ _ _ _ _ _ _ _ _ _ _ _ _ j (by omega) ?_
    refine ⟨fun hne => ?_, fun heq => ?_⟩
    · have hne' : cls j ≠ r := fun h => hne (by rw [h])
      have : yNb j (fun i => decide (cls i = r)) = yNb (j+1) (fun i => decide (cls i = r)) := by
        simp only [yNb, hne']; simp
      rw [this]
      refine ih (j+1) blk (by omega) (by omega) ?_
      intro v w hv hw
      rw [hB v w hv hw]
      constructor
      · rintro ⟨i, hi, h⟩; exact ⟨i, by omega, h⟩
      · rintro ⟨i, hi, h1, h2⟩
        by_cases c : i = j
        · rw [c] at h1; exact absurd h1 hne'
        · exact ⟨i, by omega, h1, h2⟩
    · have heq' : cls j = r := (yn_inj (by omega) (by omega)).1 heq
      have : yNb j (fun i => decide (cls i = r)) + 1 = yNb (j+1) (fun i => decide (cls i = r)) := by
        simp only [yNb, heq']; simp
      rw [this]
      refine ⟨yn_in (by omega) (by omega), yn_in (by omega) (by omega), yn_in (by omega) (by omega), yn_in (by omega) (by omega), fun g171 h171 => ⟨yn_in (by omega) (by omega), yn_in (by omega) (by omega), yn_in (by omega) (by omega), yn_in (by omega) (by omega), fun g195 h195 => ?_⟩⟩
      refine ih (j+1) g195 (by omega) (by omega) ?_
      have hab : ea j ≠ eb j := by omega
      intro v w hv hw
      have key : yM (g195 v) w = true ↔ (yM (blk v) w = true ∨ (v = ea j ∧ w = eb j) ∨ (v = eb j ∧ w = ea j)) := by
        by_cases c1 : v = eb j
        · rw [h195, c1, yupd_same, h171, yupd_ne _ _ _ _ (Ne.symm hab), yM_or, Bool.or_eq_true, yM_shl (by omega) w hw, decide_eq_true_iff]
          constructor
          · rintro (h | h)
            · exact Or.inl h
            · exact Or.inr (Or.inr ⟨rfl, h⟩)
          · rintro (h | h | h)
            · exact Or.inl h
            · exact absurd h.1.symm hab
            · exact Or.inr h.2
        · rw [h195, yupd_ne _ _ _ _ c1, h171]
          by_cases c2 : v = ea j
          · rw [c2, yupd_same, yM_or, Bool.or_eq_true, yM_shl (by omega) w hw, decide_eq_true_iff]
            constructor
            · rintro (h | h)
              · exact Or.inl h
              · exact Or.inr (Or.inl ⟨rfl, h⟩)
            · rintro (h | h | h)
              · exact Or.inl h
              · exact Or.inr h.2
              · exact absurd h.1 hab
          · rw [yupd_ne _ _ _ _ c2]
            constructor
            · exact Or.inl
            · rintro (h | h | h)
              · exact h
              · exact absurd h.1 c2
              · exact absurd h.1 c1
      rw [key, hB v w hv hw]
      constructor
      · rintro (⟨i, hi, h⟩ | h | h)
        · exact ⟨i, by omega, h⟩
        · exact ⟨j, by omega, heq', Or.inl ⟨h.1.symm, h.2.symm⟩⟩
        · exact ⟨j, by omega, heq', Or.inr ⟨h.2.symm, h.1.symm⟩⟩
      · rintro ⟨i, hi, h1, h2⟩
        by_cases c : i = j
        · rw [c] at h2
          rcases h2 with h | h
          · exact Or.inr (Or.inl ⟨h.1.symm, h.2.symm⟩)
          · exact Or.inr (Or.inr ⟨h.2.symm, h.1.symm⟩)
        · exact Or.inl ⟨i, by omega, h1, h2⟩

theorem w9_ip129_1 (hn : n ≤ 21) (hg : ∀ v w, yGm n f v w = true → v < n ∧ w < n ∧ v ≠ w) (hs : ∀ v w, yGm n f v w = yGm n f w v) (hM : yNb 1024 (yGr (yGm n f)) ≤ 57)
    (hE210 : E ≤ 210) (hE : yEd n f n 0 E fa fb ea eb) (hU : yUf n f E ea eb eo po cls dep) (hR : ∀ v, v < n → yRl n f E ea eb cls v) (r : Nat) (hr : r < E)
    (i0 i1 i2 i11 i12 i13 i14 i15 i16 i17 : Int32) (t0 t1 t2 t3 t5 t6 t7 t8 : Nat → Int32) (t9 t10 t11 t12 t13 t14 : Int32)
    (K : Int32 → (Int32 × Int32 × Int32 × Int32 × Int32 × Int32 × Int32 × (Nat → Int32) × (Nat → Int32) × (Nat → Int32) × (Nat → Int32) × (Nat → Int32) × (Nat → Int32) × (Nat → Int32) × (Nat → Int32) × (Nat → Int32) × (Nat → Int32) × (Nat → Int32) × (Nat → Int32)) → Prop)
    (B : (Nat → Int32) → (Nat → Int32) → (Nat → Int32) → (Nat → Int32) → (Nat → Int32) → (Nat → Int32) → (Nat → Int32) → (Nat → Int32) → (Nat → Int32) → Int32 → Int32 → Int32 → Int32 → Int32 → Int32 → Int32 → Prop)
    (hB1 : yFew (yKl n f E ea eb cls r) → ∀ blk, B t0 t1 t2 t3 blk t5 t6 t7 t8 t9 t10 t11 t12 t13 t14 (Int32.ofNat (r+1)))
    (hB2 : ∀ F inH nH fa' fs' fb' i7 y1 y2 y3 x0 x1 x2 old blk, yEmI n blk inH nH fa' fs' fb' F → (∀ v, v < n → inH v = blk v) → (∀ e, e < 1024 → yGr (yGm n blk) e = yKl n f E ea eb cls r e) →
      B fb' fa' fs' old blk x0 x1 x2 inH nH (Int32.ofNat F) i7 y1 y2 y3 (Int32.ofNat (r+1)))
    (hK0 : ¬ yPl n f → ∀ u, K 0 u) :
    ∀ d j blk, E - j = d → j ≤ E → yBm n j ea eb cls r blk →
      wLX9_isPlane_129_1 i0 i1 i2 (Int32.ofNat n) i11 i12 i13 i14 i15 i16 i17 (Int32.ofNat E, fa, fb, eo) t0 t1 t2 t3 t5 t6 t7 t8 t9 t10 t11 t12 t13 t14 (Int32.ofNat r) K B (d+1) blk
        (Int32.ofNat (yNb j (fun i => decide (cls i = r)))) (Int32.ofNat j) := by
  have h2eq : (2 : Int32) = Int32.ofNat 2 := rfl
  have er : Int32.ofNat r + 1 = Int32.ofNat (r+1) := yn_add r 1
  intro d
  induction d with
  | zero =>
    intro j blk hd hj hB
    have hjE : j = E := by omega
    subst hjE
    have hc := yNb_le j (fun i => decide (cls i = r))
    unfold wLX9_isPlane_129_1
    dsimp only
    rw [er]
    refine ⟨fun _ => ⟨fun hm => ?_, fun hm => ?_⟩, fun hh => ?_⟩
    · rw [h2eq, yn_le (by omega) (by omega)] at hm
      exact hB1 (yKl_few hn hE hm) blk
    · rw [h2eq, yn_le (by omega) (by omega)] at hm
      have hall := yBm_all hE hn hB
      have hv := yBm_v2 hg hs hE hU hR hn hB
      obtain ⟨a, b, ha, hb, hab, ca, cb⟩ := yNb_ex2 (by omega : 2 ≤ yNb j (fun i => decide (cls i = r)))
      have ga := yEd_gr hn hE ha; have gb := yEd_gr hn hE hb
      refine w9_embed hn hall.1 hall.2.1 ?_ hv.1 hv.2 ga.1 gb.1 (fun h => hab (yEd_ix hn hE ha hb h))
        (by rw [hall.2.2 _ ga.1]; exact (yKl_at hn hE).2 ⟨a, ha, rfl, of_decide_eq_true ca⟩) (by rw [hall.2.2 _ gb.1]; exact (yKl_at hn hE).2 ⟨b, hb, rfl, of_decide_eq_true cb⟩)
        i0 i1 i2 (Int32.ofNat j) t9 t10 t11 t12 t13 t14 i11 i12 i13 i14 i15 i16 i17 t5 t6 t7 t8 t0 t1 t2 t3 _ ?_ ?_
      · refine Nat.le_trans (yNb_sub 1024 _ _ ?_) hM
        intro e he h
        rw [hall.2.2 e he] at h
        unfold yKl at h
        rw [Bool.and_eq_true] at h; exact h.1
      · intro F inH nH fa' fs' fb' i7 y1 y2 y3 x0 x1 x2 old hI hw
        exact ⟨fun _ => hB2 F inH nH fa' fs' fb' i7 y1 y2 y3 x0 x1 x2 old blk hI hw hall.2.2, fun h => absurd h (by decide)⟩
      · intro hnp u
        refine ⟨fun h => absurd rfl h, fun _ => hK0 ?_ _⟩
        rintro ⟨lab, hl⟩
        apply hnp
        obtain ⟨q, hq⟩ := yDs_sub hl (yGr (yGm n blk)) (by
          intro e he h
          rw [hall.2.2 e he] at h
          unfold yKl at h
          rw [Bool.and_eq_true] at h; exact h.1) (fun e _ h => by cases h)
        exact ⟨fun b e => q (lab b e), hq⟩
    · exfalso; apply hh; rw [yn_le (by omega) (by omega)]; omega
  | succ d ih =>
    intro j blk hd hj hB
    have hc := yNb_le j (fun i => decide (cls i = r))
    have gj := hE.1 j (by omega)
    have e1 : Int32.ofNat j + 1 = Int32.ofNat (j+1) := yn_add j 1
    have e2 : Int32.ofNat (yNb j (fun i => decide (cls i = r))) + 1 = Int32.ofNat (yNb j (fun i => decide (cls i = r)) + 1) := yn_add _ 1
    have hcl := (hU.2.1 j (by omega)).1
    unfold wLX9_isPlane_129_1
    dsimp only
    rw [e1, e2, yn_nat (by omega : j < 2147483648), gj.1, gj.2.1, yn_nat (by omega : ea j < 2147483648), yn_nat (by omega : eb j < 2147483648)]
    refine ⟨fun hh => ?_, fun _ => ?_⟩
    · exfalso; rw [yn_le (by omega) (by omega)] at hh; omega
    refine w9_rootOf (by omega) eo po cls dep hU.1 _ _ _ _ _ _ _ _ _ _ _ _ _ _ _ _ _ _ _ j (by omega) ?_
    refine ⟨fun hne => ?_, fun heq => ?_⟩
    · have hne' : cls j ≠ r := fun h => hne (by rw [h])
      have : yNb j (fun i => decide (cls i = r)) = yNb (j+1) (fun i => decide (cls i = r)) := by
        simp only [yNb, hne']; simp
      rw [this]
      refine ih (j+1) blk (by omega) (by omega) ?_
      intro v w hv hw
      rw [hB v w hv hw]
      constructor
      · rintro ⟨i, hi, h⟩; exact ⟨i, by omega, h⟩
      · rintro ⟨i, hi, h1, h2⟩
        by_cases c : i = j
        · rw [c] at h1; exact absurd h1 hne'
        · exact ⟨i, by omega, h1, h2⟩
    · have heq' : cls j = r := (yn_inj (by omega) (by omega)).1 heq
      have : yNb j (fun i => decide (cls i = r)) + 1 = yNb (j+1) (fun i => decide (cls i = r)) := by
        simp only [yNb, heq']; simp
      rw [this]
      refine ⟨yn_in (by omega) (by omega), yn_in (by omega) (by omega), yn_in (by omega) (by omega), yn_in (by omega) (by omega), fun g171 h171 => ⟨yn_in (by omega) (by omega), yn_in (by omega) (by omega), yn_in (by omega) (by omega), yn_in (by omega) (by omega), fun g195 h195 => ?_⟩⟩
      refine ih (j+1) g195 (by omega) (by omega) ?_
      have hab : ea j ≠ eb j := by omega
      intro v w hv hw
      have key : yM (g195 v) w = true ↔ (yM (blk v) w = true ∨ (v = ea j ∧ w = eb j) ∨ (v = eb j ∧ w = ea j)) := by
        by_cases c1 : v = eb j
        · rw [h195, c1, yupd_same, h171, yupd_ne _ _ _ _ (Ne.symm hab), yM_or, Bool.or_eq_true, yM_shl (by omega) w hw, decide_eq_true_iff]
          constructor
          · rintro (h | h)
            · exact Or.inl h
            · exact Or.inr (Or.inr ⟨rfl, h⟩)
          · rintro (h | h | h)
            · exact Or.inl h
            · exact absurd h.1.symm hab
            · exact Or.inr h.2
        · rw [h195, yupd_ne _ _ _ _ c1, h171]
          by_cases c2 : v = ea j
          · rw [c2, yupd_same, yM_or, Bool.or_eq_true, yM_shl (by omega) w hw, decide_eq_true_iff]
            constructor
            · rintro (h | h)
              · exact Or.inl h
              · exact Or.inr (Or.inl ⟨rfl, h⟩)
            · rintro (h | h | h)
              · exact Or.inl h
              · exact Or.inr h.2
              · exact absurd h.1 hab
          · rw [yupd_ne _ _ _ _ c2]
            constructor
            · exact Or.inl
            · rintro (h | h | h)
              · exact h
              · exact absurd h.1 c2
              · exact absurd h.1 c1
      rw [key, hB v w hv hw]
      constructor
      · rintro (⟨i, hi, h⟩ | h | h)
        · exact ⟨i, by omega, h⟩
        · exact ⟨j, by omega, heq', Or.inl ⟨h.1.symm, h.2.symm⟩⟩
        · exact ⟨j, by omega, heq', Or.inr ⟨h.2.symm, h.1.symm⟩⟩
      · rintro ⟨i, hi, h1, h2⟩
        by_cases c : i = j
        · rw [c] at h2
          rcases h2 with h | h
          · exact Or.inr (Or.inl ⟨h.1.symm, h.2.symm⟩)
          · exact Or.inr (Or.inr ⟨h.2.symm, h.1.symm⟩)
        · exact Or.inl ⟨i, by omega, h1, h2⟩

-- the state that embed left
def yInfo (n : Nat) (f : Nat → Int32) (E : Nat) (ea eb cls : Nat → Nat) (nH fc : Int32) (inH fb fa fs : Nat → Int32) : Prop :=
  ∃ r F blk, yEmI n blk inH nH fa fs fb F ∧ fc = Int32.ofNat F ∧ (∀ v, v < n → inH v = blk v) ∧ (∀ e, e < 1024 → yGr (yGm n blk) e = yKl n f E ea eb cls r e)

theorem w9_ip78 (hn : n ≤ 21) (hg : ∀ v w, yGm n f v w = true → v < n ∧ w < n ∧ v ≠ w) (hs : ∀ v w, yGm n f v w = yGm n f w v) (hM : yNb 1024 (yGr (yGm n f)) ≤ 57)
    (hE210 : E ≤ 210) (hE : yEd n f n 0 E fa fb ea eb) (hU : yUf n f E ea eb eo po cls dep) (hR : ∀ v, v < n → yRl n f E ea eb cls v)
    (i0 i1 i2 i11 i12 i13 i14 i15 i16 i17 : Int32)
    (K : Int32 → (Int32 × Int32 × Int32 × Int32 × Int32 × Int32 × Int32 × (Nat → Int32) × (Nat → Int32) × (Nat → Int32) × (Nat → Int32) × (Nat → Int32) × (Nat → Int32) × (Nat → Int32) × (Nat → Int32) × (Nat → Int32) × (Nat → Int32) × (Nat → Int32) × (Nat → Int32)) → Prop)
    (hK1 : yPl n f → ∀ t0 t1 t2 t3 t4 t5 t6 t7 t8 t9 t10 t11 t12 t13 t14, ((∀ r, yFew (yKl n f E ea eb cls r)) ∨ yInfo n f E ea eb cls t9 t10 t8 t0 t1 t2) →
      K 1 (Int32.ofNat E, t9, t10, t11, t12, t13, t14, fa, fb, eo, t4, t5, t6, t7, t8, t0, t1, t2, t3))
    (hK0 : ¬ yPl n f → ∀ u, K 0 u) :
    ∀ d r t0 t1 t2 t3 t4 t5 t6 t7 t8 t9 t10 t11 t12 t13 t14, E - r = d → r ≤ E →
      (∀ r', r' < r → cls r' = r' → ∃ lab : Bool → Nat → Nat, yDs 1024 yI (yKl n f E ea eb cls r') (fun _ => false) (lab false) (lab true)) →
      ((∀ r', r' < r → cls r' = r' → yFew (yKl n f E ea eb cls r')) ∨ yInfo n f E ea eb cls t9 t10 t8 t0 t1 t2) →
      wLX9_isPlane_78 i0 i1 i2 (Int32.ofNat n) i11 i12 i13 i14 i15 i16 i17 (Int32.ofNat E, fa, fb, eo) K (d+1) t0 t1 t2 t3 t4 t5 t6 t7 t8 t9 t10 t11 t12 t13 t14 (Int32.ofNat r) := by
  have hKX : ∀ r e, e < 1024 → yKl n f E ea eb cls r e = true → e/32 < e%32 := by
    intro r e _ h
    unfold yKl yGr at h
    rw [Bool.and_eq_true, Bool.and_eq_true, decide_eq_true_iff] at h
    exact h.1.1
  have hempty : ∀ r, ¬ (r < E ∧ cls r = r) → ∀ e, yKl n f E ea eb cls r e = false := by
    intro r hr e
    cases h : yKl n f E ea eb cls r e with
    | false => rfl
    | true =>
      obtain ⟨i, hi, _, hc⟩ := (yKl_at hn hE).1 h
      have := hU.2.1 i hi
      rw [hc] at this
      exact absurd ⟨this.1, this.2.1⟩ hr
  intro d
  induction d with
  | zero =>
    intro r t0 t1 t2 t3 t4 t5 t6 t7 t8 t9 t10 t11 t12 t13 t14 hd hr hlab hst
    have hrE : r = E := by omega
    subst hrE
    unfold wLX9_isPlane_78
    refine ⟨fun _ => ?_, fun hh => ?_⟩
    · apply hK1
      · -- all classes together
        have hall : ∀ r', ∃ lab : Bool → Nat → Nat, yDs 1024 yI (yKl n f r ea eb cls r') (fun _ => false) (lab false) (lab true) := by
          intro r'
          by_cases c : r' < r ∧ cls r' = r'
          · exact hlab r' c.1 c.2
          · exact ⟨fun _ _ => 0, yDs_few (hKX r') (fun a b c' ha hb hc xa => by rw [hempty r' c a] at xa; cases xa)⟩
        have hch : ∃ L : Nat → Bool → Nat → Nat, ∀ r', yDs 1024 yI (yKl n f r ea eb cls r') (fun _ => false) (L r' false) (L r' true) :=
          ⟨fun r' => Classical.choose (hall r'), fun r' => Classical.choose_spec (hall r')⟩
        obtain ⟨L, hL⟩ := hch
        have hj := yBl_join (yEd_nodes hn hg) (yBl_of hn hs hE hU hR) (fun r' => L r' false) (fun r' => L r' true) (fun r' => hL r')
        -- pairs as numbers
        obtain ⟨nm, hnm⟩ := yPairNum
        exact ⟨fun b e => nm (yClb r ea eb cls e, L (yClb r ea eb cls e) b e), yDs_inj hj nm hnm⟩
      · rcases hst with h | h
        · left
          intro r'
          by_cases c : r' < r ∧ cls r' = r'
          · exact h r' c.1 c.2
          · intro a b c' ha hb hc xa
            rw [hempty r' c a] at xa; cases xa
        · exact Or.inr h
    · exfalso; apply hh; rw [yn_le (by omega) (by omega)]; omega
  | succ d ih =>
    intro r t0 t1 t2 t3 t4 t5 t6 t7 t8 t9 t10 t11 t12 t13 t14 hd hr hlab hst
    have e1 : Int32.ofNat r + 1 = Int32.ofNat (r+1) := yn_add r 1
    have hcl := (hU.2.1 r (by omega)).1
    unfold wLX9_isPlane_78
    dsimp only
    rw [e1]
    refine ⟨fun hh => ?_, fun _ => ?_⟩
    · exfalso; rw [yn_le (by omega) (by omega)] at hh; omega
    refine w9_rootOf (by omega) eo po cls dep hU.1 _ _ _ _ _ _ _ _ _ _ _ _ _ _ _ _ _ _ _ r (by omega) ?_
    refine ⟨fun heq => ?_, fun hne => ?_⟩
    · have heq' : cls r = r := (yn_inj (by omega) (by omega)).1 heq
      have h103 : ∀ d2 v blk, n - v = d2 → v ≤ n → (∀ u, u < v → blk u = 0) →
          wLX9_isPlane_103 i0 i1 i2 (Int32.ofNat n) i11 i12 i13 i14 i15 i16 i17 (Int32.ofNat E, fa, fb, eo) t0 t1 t2 t3 t5 t6 t7 t8 t9 t10 t11 t12 t13 t14 (Int32.ofNat r) K
            (fun z0 z1 z2 z3 z4 z5 z6 z7 z8 z9 z10 z11 z12 z13 z14 z15 => (wLX9_isPlane_78 i0 i1 i2 (Int32.ofNat n) i11 i12 i13 i14 i15 i16 i17 (Int32.ofNat E, fa, fb, eo) K (d+1)) z0 z1 z2 z3 z4 z5 z6 z7 z8 z9 z10 z11 z12 z13 z14 z15)
            (d2+1) blk (Int32.ofNat v) := by
        intro d2
        induction d2 with
        | zero =>
          intro v blk hd2 hv hz
          unfold wLX9_isPlane_103
          refine ⟨fun _ => ⟨E - 0 + 1, ?_⟩, fun hh => ?_⟩
          · have h0 : (0 : Int32) = Int32.ofNat (yNb 0 (fun i => decide (cls i = r))) := rfl
            have h0' : (0 : Int32) = Int32.ofNat 0 := rfl
            have := w9_ip129 hn hg hs hM hE210 hE hU hR r (by omega) i0 i1 i2 i11 i12 i13 i14 i15 i16 i17 t0 t1 t2 t3 t5 t6 t7 t8 t9 t10 t11 t12 t13 t14 K
              (fun z0 z1 z2 z3 z4 z5 z6 z7 z8 z9 z10 z11 z12 z13 z14 z15 => (wLX9_isPlane_78 i0 i1 i2 (Int32.ofNat n) i11 i12 i13 i14 i15 i16 i17 (Int32.ofNat E, fa, fb, eo) K (d+1)) z0 z1 z2 z3 z4 z5 z6 z7 z8 z9 z10 z11 z12 z13 z14 z15)
              (by
                intro hfew blk'
                refine ih (r+1) _ _ _ _ _ _ _ _ _ _ _ _ _ _ _ (by omega) (by omega) ?_ ?_
                · intro r' hr' hc'
                  by_cases c : r' = r
                  · rw [c]; exact ⟨fun _ _ => 0, yDs_few (hKX r) hfew⟩
                  · exact hlab r' (by omega) hc'
                · rcases hst with h | h
                  · left
                    intro r' hr' hc'
                    by_cases c : r' = r
                    · rw [c]; exact hfew
                    · exact h r' (by omega) hc'
                  · exact Or.inr h)
              (by
                intro F inH nH fa' fs' fb' i7 y1 y2 y3 x0 x1 x2 old blk' hI hw hbe
                refine ih (r+1) _ _ _ _ _ _ _ _ _ _ _ _ _ _ _ (by omega) (by omega) ?_ ?_
                · intro r' hr' hc'
                  by_cases c : r' = r
                  · rw [c]
                    obtain ⟨sz, fc, fo, _, _, _, hD, _⟩ := hI
                    have : ∀ e, e < 1024 → yGr (yGm n inH) e = yKl n f E ea eb cls r e := by
                      intro e he
                      rw [← hbe e he]
                      unfold yGr yGm
                      by_cases cv : e/32 < n
                      · rw [hw _ cv]
                      · rw [decide_eq_false cv, Bool.false_and, Bool.false_and]
                    exact ⟨fun b => if b then yT1 fo else yS1 fo, yDs_congr hD _ this⟩
                  · exact hlab r' (by omega) hc'
                · exact Or.inr ⟨r, F, blk', hI, rfl, hw, hbe⟩)
              hK0 (E - 0) 0 blk rfl (by omega) (by
                intro v' w hv' hw
                rw [hz v' (by omega), yM_zero]
                constructor
                · intro h; cases h
                · rintro ⟨i, hi, _⟩; omega)
            exact this
          · exfalso; apply hh; rw [yn_le (by omega) (by omega)]; omega
        | succ d2 ih2 =>
          intro v blk hd2 hv hz
          have e2 : Int32.ofNat v + 1 = Int32.ofNat (v+1) := yn_add v 1
          unfold wLX9_isPlane_103
          rw [e2, yn_nat (by omega)]
          refine ⟨fun hh => ?_, fun _ => ⟨yn_in (by omega) (by omega), fun g hg' => ?_⟩⟩
          · exfalso; rw [yn_le (by omega) (by omega)] at hh; omega
          · refine ih2 (v+1) g (by omega) (by omega) ?_
            intro u hu
            rw [hg']
            by_cases c : u = v
            · rw [c, yupd_same]
            · rw [yupd_ne _ _ _ _ c]; exact hz u (by omega)
      exact ⟨n - 0 + 1, h103 (n-0) 0 t4 rfl (by omega) (fun u hu => by omega)⟩
    · have hne' : cls r ≠ r := fun h => hne (by rw [h])
      refine ih (r+1) _ _ _ _ _ _ _ _ _ _ _ _ _ _ _ (by omega) (by omega) ?_ ?_
      · intro r' hr' hc'
        by_cases c : r' = r
        · rw [c] at hc'; exact absurd hc' hne'
        · exact hlab r' (by omega) hc'
      · rcases hst with h | h
        · left
          intro r' hr' hc'
          by_cases c : r' = r
          · rw [c] at hc'; exact absurd hc' hne'
          · exact h r' (by omega) hc'
        · exact Or.inr h
theorem w9_ip78_1 (hn : n ≤ 21) (hg : ∀ v w, yGm n f v w = true → v < n ∧ w < n ∧ v ≠ w) (hs : ∀ v w, yGm n f v w = yGm n f w v) (hM : yNb 1024 (yGr (yGm n f)) ≤ 57)
    (hE210 : E ≤ 210) (hE : yEd n f n 0 E fa fb ea eb) (hU : yUf n f E ea eb eo po cls dep) (hR : ∀ v, v < n → yRl n f E ea eb cls v)
    (i0 i1 i2 i11 i12 i13 i14 i15 i16 i17 : Int32)
    (K : Int32 → (Int32 × Int32 × Int32 × Int32 × Int32 × Int32 × Int32 × (Nat → Int32) × (Nat → Int32) × (Nat → Int32) × (Nat → Int32) × (Nat → Int32) × (Nat → Int32) × (Nat → Int32) × (Nat → Int32) × (Nat → Int32) × (Nat → Int32) × (Nat → Int32) × (Nat → Int32)) → Prop)
    (hK1 : yPl n f → ∀ t0 t1 t2 t3 t4 t5 t6 t7 t8 t9 t10 t11 t12 t13 t14, ((∀ r, yFew (yKl n f E ea eb cls r)) ∨ yInfo n f E ea eb cls t9 t10 t8 t0 t1 t2) →
      K 1 (Int32.ofNat E, t9, t10, t11, t12, t13, t14, fa, fb, eo, t4, t5, t6, t7, t8, t0, t1, t2, t3))
    (hK0 : ¬ yPl n f → ∀ u, K 0 u) :
    ∀ d r t0 t1 t2 t3 t4 t5 t6 t7 t8 t9 t10 t11 t12 t13 t14, E - r = d → r ≤ E →
      (∀ r', r' < r → cls r' = r' → ∃ lab : Bool → Nat → Nat, yDs 1024 yI (yKl n f E ea eb cls r') (fun _ => false) (lab false) (lab true)) →
      ((∀ r', r' < r → cls r' = r' → yFew (yKl n f E ea eb cls r')) ∨ yInfo n f E ea eb cls t9 t10 t8 t0 t1 t2) →
      wLX9_isPlane_78_1 i0 i1 i2 (Int32.ofNat n) i11 i12 i13 i14 i15 i16 i17 (Int32.ofNat E, fa, fb, eo) K (d+1) t0 t1 t2 t3 t4 t5 t6 t7 t8 t9 t10 t11 t12 t13 t14 (Int32.ofNat r) := by
  have hKX : ∀ r e, e < 1024 → yKl n f E ea eb cls r e = true → e/32 < e%32 := by
    intro r e _ h
    unfold yKl yGr at h
    rw [Bool.and_eq_true, Bool.and_eq_true, decide_eq_true_iff] at h
    exact h.1.1
  have hempty : ∀ r, ¬ (r < E ∧ cls r = r) → ∀ e, yKl n f E ea eb cls r e = false := by
    intro r hr e
    cases h : yKl n f E ea eb cls r e with
    | false => rfl
    | true =>
      obtain ⟨i, hi, _, hc⟩ := (yKl_at hn hE).1 h
      have := hU.2.1 i hi
      rw [hc] at this
      exact absurd ⟨this.1, this.2.1⟩ hr
  intro d
  induction d with
  | zero =>
    intro r t0 t1 t2 t3 t4 t5 t6 t7 t8 t9 t10 t11 t12 t13 t14 hd hr hlab hst
    have hrE : r = E := by omega
    subst hrE
    unfold wLX9_isPlane_78_1
    refine ⟨fun _ => ?_, fun hh => ?_⟩
    · apply hK1
      · -- all classes together
        have hall : ∀ r', ∃ lab : Bool → Nat → Nat, yDs 1024 yI (yKl n f r ea eb cls r') (fun _ => false) (lab false) (lab true) := by
          intro r'
          by_cases c : r' < r ∧ cls r' = r'
          · exact hlab r' c.1 c.2
          · exact ⟨fun _ _ => 0, yDs_few (hKX r') (fun a b c' ha hb hc xa => by rw [hempty r' c a] at xa; cases xa)⟩
        have hch : ∃ L : Nat → Bool → Nat → Nat, ∀ r', yDs 1024 yI (yKl n f r ea eb cls r') (fun _ => false) (L r' false) (L r' true) :=
          ⟨fun r' => Classical.choose (hall r'), fun r' => Classical.choose_spec (hall r')⟩
        obtain ⟨L, hL⟩ := hch
        have hj := yBl_join (yEd_nodes hn hg) (yBl_of hn hs hE hU hR) (fun r' => L r' false) (fun r' => L r' true) (fun r' => hL r')
        -- pairs as numbers
        obtain ⟨nm, hnm⟩ := yPairNum
        exact ⟨fun b e => nm (yClb r ea eb cls e, L (yClb r ea eb cls e) b e), yDs_inj hj nm hnm⟩
      · rcases hst with h | h
        · left
          intro r'
          by_cases c : r' < r ∧ cls r' = r'
          · exact h r' c.1 c.2
          · intro a b c' ha hb hc xa
            rw [hempty r' c a] at xa; cases xa
        · exact Or.inr h
    · exfalso; apply hh; rw [yn_le (by omega) (by omega)]; omega
  | succ d ih =>
    intro r t0 t1 t2 t3 t4 t5 t6 t7 t8 t9 t10 t11 t12 t13 t14 hd hr hlab hst
    have e1 : Int32.ofNat r + 1 = Int32.ofNat (r+1) := yn_add r 1
    have hcl := (hU.2.1 r (by omega)).1
    unfold wLX9_isPlane_78_1
    dsimp only
    rw [e1]
    refine ⟨fun hh => ?_, fun _ => ?_⟩
    · exfalso; rw [yn_le (by omega) (by omega)] at hh; omega
    refine w9_rootOf (by omega) eo po cls dep hU.1 _ _ _ _ _ _ _ _ _ _ _ _ _ _ _ _ _ _ _ r (by omega) ?_
    refine ⟨fun heq => ?_, fun hne => ?_⟩
    · have heq' : cls r = r := (yn_inj (by omega) (by omega)).1 heq
      have h103 : ∀ d2 v blk, n - v = d2 → v ≤ n → (∀ u, u < v → blk u = 0) →
          wLX9_isPlane_103_1 i0 i1 i2 (Int32.ofNat n) i11 i12 i13 i14 i15 i16 i17 (Int32.ofNat E, fa, fb, eo) t0 t1 t2 t3 t5 t6 t7 t8 t9 t10 t11 t12 t13 t14 (Int32.ofNat r) K
            (fun z0 z1 z2 z3 z4 z5 z6 z7 z8 z9 z10 z11 z12 z13 z14 z15 => (wLX9_isPlane_78_1 i0 i1 i2 (Int32.ofNat n) i11 i12 i13 i14 i15 i16 i17 (Int32.ofNat E, fa, fb, eo) K (d+1)) z0 z1 z2 z3 z4 z5 z6 z7 z8 z9 z10 z11 z12 z13 z14 z15)
            (d2+1) blk (Int32.ofNat v) := by
        intro d2
        induction d2 with
        | zero =>
          intro v blk hd2 hv hz
          unfold wLX9_isPlane_103_1
          refine ⟨fun _ => ⟨E - 0 + 1, ?_⟩, fun hh => ?_⟩
          · have h0 : (0 : Int32) = Int32.ofNat (yNb 0 (fun i => decide (cls i = r))) := rfl
            have h0' : (0 : Int32) = Int32.ofNat 0 := rfl
            have := w9_ip129_1 hn hg hs hM hE210 hE hU hR r (by omega) i0 i1 i2 i11 i12 i13 i14 i15 i16 i17 t0 t1 t2 t3 t5 t6 t7 t8 t9 t10 t11 t12 t13 t14 K
              (fun z0 z1 z2 z3 z4 z5 z6 z7 z8 z9 z10 z11 z12 z13 z14 z15 => (wLX9_isPlane_78_1 i0 i1 i2 (Int32.ofNat n) i11 i12 i13 i14 i15 i16 i17 (Int32.ofNat E, fa, fb, eo) K (d+1)) z0 z1 z2 z3 z4 z5 z6 z7 z8 z9 z10 z11 z12 z13 z14 z15)
              (by
                intro hfew blk'
                refine ih (r+1) _ _ _ _ _ _ _ _ _ _ _ _ _ _ _ (by omega) (by omega) ?_ ?_
                · intro r' hr' hc'
                  by_cases c : r' = r
                  · rw [c]; exact ⟨fun _ _ => 0, yDs_few (hKX r) hfew⟩
                  · exact hlab r' (by omega) hc'
                · rcases hst with h | h
                  · left
                    intro r' hr' hc'
                    by_cases c : r' = r
                    · rw [c]; exact hfew
                    · exact h r' (by omega) hc'
                  · exact Or.inr h)
              (by
                intro F inH nH fa' fs' fb' i7 y1 y2 y3 x0 x1 x2 old blk' hI hw hbe
                refine ih (r+1) _ _ _ _ _ _ _ _ _ _ _ _ _ _ _ (by omega) (by omega) ?_ ?_
                · intro r' hr' hc'
                  by_cases c : r' = r
                  · rw [c]
                    obtain ⟨sz, fc, fo, _, _, _, hD, _⟩ := hI
                    have : ∀ e, e < 1024 → yGr (yGm n inH) e = yKl n f E ea eb cls r e := by
                      intro e he
                      rw [← hbe e he]
                      unfold yGr yGm
                      by_cases cv : e/32 < n
                      · rw [hw _ cv]
                      · rw [decide_eq_false cv, Bool.false_and, Bool.false_and]
                    exact ⟨fun b => if b then yT1 fo else yS1 fo, yDs_congr hD _ this⟩
                  · exact hlab r' (by omega) hc'
                · exact Or.inr ⟨r, F, blk', hI, rfl, hw, hbe⟩)
              hK0 (E - 0) 0 blk rfl (by omega) (by
                intro v' w hv' hw
                rw [hz v' (by omega), yM_zero]
                constructor
                · intro h; cases h
                · rintro ⟨i, hi, _⟩; omega)
            exact this
          · exfalso; apply hh; rw [yn_le (by omega) (by omega)]; omega
        | succ d2 ih2 =>
          intro v blk hd2 hv hz
          have e2 : Int32.ofNat v + 1 = Int32.ofNat (v+1) := yn_add v 1
          unfold wLX9_isPlane_103_1
          rw [e2, yn_nat (by omega)]
          refine ⟨fun hh => ?_, fun _ => ⟨yn_in (by omega) (by omega), fun g hg' => ?_⟩⟩
          · exfalso; rw [yn_le (by omega) (by omega)] at hh; omega
          · refine ih2 (v+1) g (by omega) (by omega) ?_
            intro u hu
            rw [hg']
            by_cases c : u = v
            · rw [c, yupd_same]
            · rw [yupd_ne _ _ _ _ c]; exact hz u (by omega)
      exact ⟨n - 0 + 1, h103 (n-0) 0 t4 rfl (by omega) (fun u hu => by omega)⟩
    · have hne' : cls r ≠ r := fun h => hne (by rw [h])
      refine ih (r+1) _ _ _ _ _ _ _ _ _ _ _ _ _ _ _ (by omega) (by omega) ?_ ?_
      · intro r' hr' hc'
        by_cases c : r' = r
        · rw [c] at hc'; exact absurd hc' hne'
        · exact hlab r' (by omega) hc'
      · rcases hst with h | h
        · left
          intro r' hr' hc'
          by_cases c : r' = r
          · rw [c] at hc'; exact absurd hc' hne'
          · exact h r' (by omega) hc'
        · exact Or.inr h
end


theorem yNb_tail (g : Nat → Bool) (a b : Nat) (h : ∀ j, b ≤ j → g j = false) : ∀ d, yNb (b+d) g = yNb b g := by
  intro d
  induction d with
  | zero => rfl
  | succ d ih => rw [← Nat.add_assoc]; simp only [yNb]; rw [ih, h (b+d) (by omega)]; simp

-- what is known after the test of PLANE
def yAfter (n : Nat) (f : Nat → Int32) (u : Int32 × Int32 × Int32 × Int32 × Int32 × Int32 × Int32 × (Nat → Int32) × (Nat → Int32) × (Nat → Int32) × (Nat → Int32) × (Nat → Int32) × (Nat → Int32) × (Nat → Int32) × (Nat → Int32) × (Nat → Int32) × (Nat → Int32) × (Nat → Int32) × (Nat → Int32)) : Prop :=
  ∃ cl : Nat → Nat, yBl 1024 yI (yGr (yGm n f)) cl ∧ ((∀ r, yFew (fun e => yGr (yGm n f) e && decide (cl e = r))) ∨
    ∃ r F blk, yEmI n blk u.2.2.2.2.2.2.2.2.2.2.2.2.2.2.1 u.2.1 u.2.2.2.2.2.2.2.2.2.2.2.2.2.2.2.2.1 u.2.2.2.2.2.2.2.2.2.2.2.2.2.2.2.2.2.1 u.2.2.2.2.2.2.2.2.2.2.2.2.2.2.2.1 F ∧ u.2.2.1 = Int32.ofNat F ∧
      (∀ v, v < n → u.2.2.2.2.2.2.2.2.2.2.2.2.2.2.1 v = blk v) ∧ (∀ e, e < 1024 → yGr (yGm n blk) e = (yGr (yGm n f) e && decide (cl e = r))))

theorem w9_isPlane {n : Nat} (hn : n ≤ 21) (f : Nat → Int32)
    (hg : ∀ v w, yGm n f v w = true → v < n ∧ w < n ∧ v ≠ w) (hs : ∀ v w, yGm n f v w = yGm n f w v)
    (i0 i1 i2 i4 i5 i6 i7 i8 i9 i10 i11 i12 i13 i14 i15 i16 i17 : Int32) (f19 f20 f21 f22 f23 f24 f25 f26 f27 f28 f29 f30 : Nat → Int32)
    (K : Int32 → (Int32 × Int32 × Int32 × Int32 × Int32 × Int32 × Int32 × (Nat → Int32) × (Nat → Int32) × (Nat → Int32) × (Nat → Int32) × (Nat → Int32) × (Nat → Int32) × (Nat → Int32) × (Nat → Int32) × (Nat → Int32) × (Nat → Int32) × (Nat → Int32) × (Nat → Int32)) → Prop)
    (hK1 : yPln n (yGm n f) → ∀ u, yAfter n f u → K 1 u)
    (hK0 : ¬ yPln n (yGm n f) → ∀ u, K 0 u) :
    wX9_isPlane i0 i1 i2 (Int32.ofNat n) i4 i5 i6 i7 i8 i9 i10 i11 i12 i13 i14 i15 i16 i17 f f19 f20 f21 f22 f23 f24 f25 f26 f27 f28 f29 f30 K := by
  have h0eq : (0 : Int32) = Int32.ofNat 0 := rfl
  have h2eq : (2 : Int32) = Int32.ofNat 2 := rfl
  have hhand := yHand2 (by omega : n ≤ 32) hg hs
  have hedges := yNb_edges (yGm n f)
  have hE32 : yNb 1024 (yGr (yGm n f)) = yS n (fun a => yNb 32 (fun b => decide (a < b) && yGm n f a b)) := by
    have := yS_more n (32-n) (fun a => yNb 32 (fun b => decide (a < b) && yGm n f a b)) (by
      intro i hi
      have hz : ∀ m, yNb m (fun b => decide (i < b) && yGm n f i b) = 0 := by
        intro m
        induction m with
        | zero => rfl
        | succ m ih =>
          simp only [yNb]
          rw [ih]
          have : yGm n f i m = false := by unfold yGm; rw [decide_eq_false (by omega)]; rfl
          simp [this]
      exact hz 32)
    rw [show n + (32-n) = 32 by omega] at this
    rw [hedges, this]
  have hrow : ∀ a, yNb 32 (fun b => decide (a < b) && yGm n f a b) = yNb n (fun b => decide (a < b) && yGm n f a b) := by
    intro a
    have := yNb_tail (fun b => decide (a < b) && yGm n f a b) 0 n (by
      intro j hj
      cases c : yGm n f a j with
      | false => rw [Bool.and_false]
      | true => have := hg a j c; omega) (32 - n)
    rw [show n + (32-n) = 32 by omega] at this
    exact this
  -- at most n (n - 1) / 2
  have hbig : ∀ m, m ≤ n → yS m (fun a => yNb 32 (fun b => decide (a < b) && yGm n f a b)) ≤ 21 * m := by
    intro m
    induction m with
    | zero => intro _; exact Nat.le_refl _
    | succ m ih =>
      intro hm
      simp only [yS]
      have h1 := ih (by omega)
      have h2 := yNb_le n (fun b => decide (m < b) && yGm n f m b)
      rw [← hrow m] at h2
      omega
  have h16 : ∀ (v c0 : Nat) (_ : v < n) (_ : c0 ≤ 1000) (B : Int32 → Int32 → Prop) (_ : B (Int32.ofNat (c0 + yNb n (fun b => decide (v < b) && yGm n f v b))) (Int32.ofNat (v+1))),
      ∀ d w, n - w = d → w ≤ n → v < w → wLX9_isPlane_16 (Int32.ofNat n) f (Int32.ofNat v) K B (d+1) (Int32.ofNat (c0 + yNb w (fun b => decide (v < b) && yGm n f v b))) (Int32.ofNat w) := by
    intro v c0 hv hc0 B hB d
    have ev : Int32.ofNat v + 1 = Int32.ofNat (v+1) := yn_add v 1
    induction d with
    | zero =>
      intro w hd hw hvw
      have : w = n := by omega
      subst this
      unfold wLX9_isPlane_16
      rw [ev]
      refine ⟨fun _ => hB, fun hh => ?_⟩
      exfalso; apply hh; rw [yn_le (by omega) (by omega)]; omega
    | succ d ih =>
      intro w hd hw hvw
      have e1 : Int32.ofNat w + 1 = Int32.ofNat (w+1) := yn_add w 1
      unfold wLX9_isPlane_16
      rw [e1, yn_nat (by omega), yM_test (by omega)]
      refine ⟨fun hh => ?_, fun _ => ⟨yn_in (by omega) (by omega), fun v36 h36 => ?_⟩⟩
      · exfalso; rw [yn_le (by omega) (by omega)] at hh; omega
      · have : v36 = Int32.ofNat (c0 + yNb (w+1) (fun b => decide (v < b) && yGm n f v b)) := by
          rw [h36]
          have hb : (decide (v < w) && yGm n f v w) = yM (f v) w := by unfold yGm; rw [decide_eq_true hvw, decide_eq_true hv, Bool.true_and, Bool.true_and]
          have hst : yNb (w+1) (fun b => decide (v < b) && yGm n f v b) = yNb w (fun b => decide (v < b) && yGm n f v b) + (if yM (f v) w then 1 else 0) := by
            simp only [yNb, hb]
          rw [hst]
          have h1eq : (1 : Int32) = Int32.ofNat 1 := rfl
          cases yM (f v) w with
          | false => rw [if_neg (by decide), if_neg (by decide), h0eq, yn_add]; congr 1
          | true => rw [if_pos rfl, if_pos rfl, h1eq, yn_add]; congr 1
        rw [this]
        exact ih (w+1) (by omega) (by omega) (by omega)
  -- the two ends
  have hsmall : n ≤ 2 → yNb 1024 (yGr (yGm n f)) ≤ 57 := by
    intro h
    have := hbig n (Nat.le_refl _)
    rw [hE32]; omega
  have hlow : n ≤ 2 → wX9_findBlocks i0 i1 i2 (Int32.ofNat n) i4 i5 i6 i7 i8 i9 i10 i11 i12 i13 i14 i15 i16 i17 f f19 f20 f21 (fun u73 => (∃ n78, wLX9_isPlane_78 i0 i1 i2 (Int32.ofNat n) i11 i12 i13 i14 i15 i16 i17 u73 K  n78 f27 f28 f29 f30 f22 f23 f24 f25 f26 i5 i6 i7 i8 i9 i10 0)) := by
    intro h2
    have hM := hsmall h2
    refine w9_findBlocks hn hg hs (by omega) f19 f20 f21 _ i0 i1 i2 i4 i5 i6 i7 i8 i9 i10 i11 i12 i13 i14 i15 i16 i17 ?_
    intro E fa fb eo ea eb po cls dep hE210 hE hU hR
    refine ⟨E - 0 + 1, ?_⟩
    have hbl := yBl_of hn hs hE hU hR
    refine w9_ip78 hn hg hs hM hE210 hE hU hR i0 i1 i2 i11 i12 i13 i14 i15 i16 i17 K ?_ ?_ (E-0) 0 f27 f28 f29 f30 f22 f23 f24 f25 f26 i5 i6 i7 i8 i9 i10 rfl (by omega) (fun r' h => by omega) (Or.inl (fun r' h => by omega))
    · intro hpl t0 t1 t2 t3 t4 t5 t6 t7 t8 t9 t10 t11 t12 t13 t14 hst
      exact hK1 (Or.inl (by omega)) _ ⟨yClb E ea eb cls, hbl, hst⟩
    · intro hnp u
      exfalso
      apply hnp
      refine ⟨fun _ _ => 0, yDs_few ?_ ?_⟩
      · intro e _ h
        unfold yGr at h
        rw [Bool.and_eq_true, decide_eq_true_iff] at h
        exact h.1
      · intro a b c ha hb hc xa xb xc hab hac hbc
        have key : ∀ e, yGr (yGm n f) e = true → e = 1 := by
          intro e h
          unfold yGr at h
          rw [Bool.and_eq_true, decide_eq_true_iff] at h
          have := hg _ _ h.2
          omega
        exact hab ((key a xa).trans (key b xb).symm)
  have hhigh : 3 ≤ n → yNb 1024 (yGr (yGm n f)) ≤ 3*n-6 → wX9_findBlocks i0 i1 i2 (Int32.ofNat n) i4 i5 i6 i7 i8 i9 i10 i11 i12 i13 i14 i15 i16 i17 f f19 f20 f21 (fun u73 => (∃ n78, wLX9_isPlane_78_1 i0 i1 i2 (Int32.ofNat n) i11 i12 i13 i14 i15 i16 i17 u73 K  n78 f27 f28 f29 f30 f22 f23 f24 f25 f26 i5 i6 i7 i8 i9 i10 0)) := by
    intro h3 hle
    have hM : yNb 1024 (yGr (yGm n f)) ≤ 57 := by omega
    refine w9_findBlocks hn hg hs (by omega) f19 f20 f21 _ i0 i1 i2 i4 i5 i6 i7 i8 i9 i10 i11 i12 i13 i14 i15 i16 i17 ?_
    intro E fa fb eo ea eb po cls dep hE210 hE hU hR
    refine ⟨E - 0 + 1, ?_⟩
    have hbl := yBl_of hn hs hE hU hR
    refine w9_ip78_1 hn hg hs hM hE210 hE hU hR i0 i1 i2 i11 i12 i13 i14 i15 i16 i17 K ?_ ?_ (E-0) 0 f27 f28 f29 f30 f22 f23 f24 f25 f26 i5 i6 i7 i8 i9 i10 rfl (by omega) (fun r' h => by omega) (Or.inl (fun r' h => by omega))
    · intro hpl t0 t1 t2 t3 t4 t5 t6 t7 t8 t9 t10 t11 t12 t13 t14 hst
      refine hK1 (Or.inr ⟨?_, hpl⟩) _ ⟨yClb E ea eb cls, hbl, hst⟩
      rw [hhand]; omega
    · intro hnp u
      apply hK0
      rintro (h | h)
      · omega
      · exact hnp h.2
  have h4 : ∀ d v, n - v = d → v ≤ n → wLX9_isPlane_4 i0 i1 i2 (Int32.ofNat n) i4 i5 i6 i7 i8 i9 i10 i11 i12 i13 i14 i15 i16 i17 f f19 f20 f21 f22 f23 f24 f25 f26 f27 f28 f29 f30 K (d+1)
      (Int32.ofNat (yS v (fun a => yNb 32 (fun b => decide (a < b) && yGm n f a b)))) (Int32.ofNat v) := by
    intro d
    induction d with
    | zero =>
      intro v hd hv
      have : v = n := by omega
      subst this
      have hb := hbig v (Nat.le_refl _)
      unfold wLX9_isPlane_4
      refine ⟨fun _ => ⟨fun h2 => ?_, fun h2 => ⟨fun hle => ?_, fun hgt => ?_⟩⟩, fun hh => ?_⟩
      · rw [h2eq, yn_le (by omega) (by omega)] at h2
        exact hlow h2
      · rw [h2eq, yn_le (by omega) (by omega)] at h2
        have e6 : (3 : Int32) * Int32.ofNat v - 6 = Int32.ofNat (3*v-6) := by
          have a3 : (3 : Int32) = Int32.ofNat 3 := rfl
          have a6 : (6 : Int32) = Int32.ofNat 6 := rfl
          rw [a3, a6, yn_mul, yn_sub (by omega)]
        rw [e6, yn_le (by omega) (by omega)] at hle
        exact hhigh (by omega) (by rw [hE32]; exact hle)
      · rw [h2eq, yn_le (by omega) (by omega)] at h2
        have e6 : (3 : Int32) * Int32.ofNat v - 6 = Int32.ofNat (3*v-6) := by
          have a3 : (3 : Int32) = Int32.ofNat 3 := rfl
          have a6 : (6 : Int32) = Int32.ofNat 6 := rfl
          rw [a3, a6, yn_mul, yn_sub (by omega)]
        rw [e6, yn_le (by omega) (by omega)] at hgt
        apply hK0
        rintro (h | h)
        · omega
        · have h1 := h.1
          rw [hhand, hE32] at h1
          omega
      · exfalso; apply hh; rw [yn_le (by omega) (by omega)]; omega
    | succ d ih =>
      intro v hd hv
      have e1 : Int32.ofNat v + 1 = Int32.ofNat (v+1) := yn_add v 1
      have hb := hbig v (by omega)
      unfold wLX9_isPlane_4
      rw [e1]
      refine ⟨fun hh => ?_, fun _ v15 h15 => ⟨n - (v+1) + 1, ?_⟩⟩
      · exfalso; rw [yn_le (by omega) (by omega)] at hh; omega
      · rw [h15]
        have hz : yNb (v+1) (fun b => decide (v < b) && yGm n f v b) = 0 := by
          have : ∀ m, m ≤ v + 1 → yNb m (fun b => decide (v < b) && yGm n f v b) = 0 := by
            intro m
            induction m with
            | zero => intro _; rfl
            | succ m ih =>
              intro hm
              simp only [yNb]
              rw [ih (by omega)]
              have : ¬ v < m := by omega
              simp [this]
          exact this _ (Nat.le_refl _)
        have := h16 v (yS v (fun a => yNb 32 (fun b => decide (a < b) && yGm n f a b))) (by omega) (by omega)
          (fun z0 z1 => (wLX9_isPlane_4 i0 i1 i2 (Int32.ofNat n) i4 i5 i6 i7 i8 i9 i10 i11 i12 i13 i14 i15 i16 i17 f f19 f20 f21 f22 f23 f24 f25 f26 f27 f28 f29 f30 K (d+1)) z0 z1) (by
            have h := ih (v+1) (by omega) (by omega)
            simp only [yS] at h
            rw [hrow v] at h
            exact h) (n - (v+1)) (v+1) rfl (by omega) (by omega)
        rw [hz, Nat.add_zero] at this
        exact this
  unfold wX9_isPlane
  refine ⟨n - 0 + 1, ?_⟩
  have := h4 (n-0) 0 rfl (by omega)
  exact this



section
variable {n F : Nat} {g : Nat → Nat → Bool} {fo ρ : Nat → Nat → Nat} {s : Nat} {r : Nat → Nat} {G : Nat → Prop}

-- free: two neighbours on the rim
theorem yFre_cnt (h : yTg n g F fo ρ) (hR : yRim n g ρ s r G) {k : Nat} (hk1 : 1 ≤ k) (hk2 : k + 2 ≤ s) (on : Nat → Bool) (hon : ∀ x, x < 32 → (on x = true ↔ (g (r k) x = true ∧ ∃ i, i < s ∧ x = r i))) :
    yNb 32 on = 2 ↔ yFre g s r k := by
  have hn := h.2.1
  have hgs := h.2.2.1.2
  have hvA : g (r k) (r (k-1)) = true := by have := hR.2.2.2.1 (k-1) (by omega); rw [show k - 1 + 1 = k by omega] at this; exact this
  have hvB : g (r k) (r (k+1)) = true := by rw [hgs]; exact hR.2.2.2.1 k (by omega)
  have bA := (hR.2.1 (k-1) (by omega)).1; have bB := (hR.2.1 (k+1) (by omega)).1
  have hne : r (k-1) ≠ r (k+1) := fun e => by have := hR.2.2.1 _ _ (by omega) (by omega) e; omega
  have oA : on (r (k-1)) = true := (hon _ (by omega)).2 ⟨hvA, k-1, by omega, rfl⟩
  have oB : on (r (k+1)) = true := (hon _ (by omega)).2 ⟨hvB, k+1, by omega, rfl⟩
  constructor
  · intro h2
    refine ⟨hk1, hk2, fun i a1 a2 a3 a4 => ?_⟩
    cases hh : g (r k) (r i) with
    | false => rfl
    | true =>
      exfalso
      have bi := (hR.2.1 i a1).1
      have n1 : r i ≠ r (k-1) := fun e => by have := hR.2.2.1 _ _ a1 (by omega) e; omega
      have n2 : r i ≠ r (k+1) := fun e => by have := hR.2.2.1 _ _ a1 (by omega) e; omega
      have := yNb_three (m := 32) (p := on) (a := r i) (b := r (k-1)) (c := r (k+1)) (by omega) (by omega) (by omega) ((hon _ (by omega)).2 ⟨hh, i, a1, rfl⟩) oA oB n1 n2 hne
      omega
  · rintro ⟨_, _, hf⟩
    have himg := yNb_img 32 (fun _ => false) 2 (fun j => if j = 0 then r (k-1) else r (k+1)) (fun j hj => by
      refine ⟨?_, rfl⟩
      split <;> omega) (by
      intro i j hi hj he
      rcases (by omega : i = 0 ∨ i = 1) with e | e <;> rcases (by omega : j = 0 ∨ j = 1) with e' | e' <;> subst e <;> subst e' <;> simp at he <;> first | rfl | exact absurd he hne | exact absurd he.symm hne)
    have h0 : yNb 32 (fun _ => false) = 0 := by decide +kernel
    rw [h0] at himg
    rw [show (2 : Nat) = 0 + 2 from rfl, ← himg]
    apply yNb_congr
    intro x hx
    rw [Bool.false_or, Bool.eq_iff_iff, hon x hx, yD_iff]
    constructor
    · rintro ⟨hadj, i, hi, e⟩
      by_cases c1 : i = k
      · rw [e, c1] at hadj; exact absurd rfl (h.2.2.1.1 _ _ hadj).2.2
      · by_cases c2 : i + 1 = k
        · exact ⟨0, by omega, by simp; rw [e]; congr 1; omega⟩
        · by_cases c3 : i = k + 1
          · exact ⟨1, by omega, by simp; rw [e, c3]⟩
          · rw [e, hf i hi c1 c2 c3] at hadj; cases hadj
    · rintro ⟨j, hj, e⟩
      rcases (by omega : j = 0 ∨ j = 1) with e' | e' <;> subst e' <;> simp at e
      · rw [e]; exact ⟨hvA, k-1, by omega, rfl⟩
      · rw [e]; exact ⟨hvB, k+1, by omega, rfl⟩
end

section
variable {n F : Nat} {fl : Nat → Int32} {fo ρ : Nat → Nat → Nat} {s : Nat} {r : Nat → Nat} {G : Nat → Prop}

theorem w9_nextOff (h : yTg n (yGm n fl) F fo ρ) (hR : yRim n (yGm n fl) ρ s r G) (hex : ∃ k, yFre (yGm n fl) s r k) (rim : Nat → Int32) (hrim : ∀ i, i < s → rim i = Int32.ofNat (r i))
    (i1 i2 i3 i4 i5 i6 i7 i8 i9 i10 i11 i13 i14 i15 i16 i17 : Int32) (K : Int32 → Unit → Prop)
    (hK : ∀ k, yFre (yGm n fl) s r k → (∀ i, yFre (yGm n fl) s r i → r i ≤ r k) → K (Int32.ofNat k) ()) :
    wX9_nextOff (Int32.ofNat n) i1 i2 i3 i4 i5 i6 i7 i8 i9 i10 i11 (Int32.ofNat s) i13 i14 i15 i16 i17 rim fl K := by
  have hn := h.2.1
  have hs20 := yRim_size hR
  have h0eq : (0 : Int32) = Int32.ofNat 0 := rfl
  have h1eq : (1 : Int32) = Int32.ofNat 1 := rfl
  have h2eq : (2 : Int32) = Int32.ofNat 2 := rfl
  have hneg1 : ¬ ((-1 : Int32) = Int32.ofNat 0) := by decide
  -- the best so far
  let Best : Int32 → Nat → Prop := fun best k => (best = -1 ∧ ∀ i, i < k → ¬ yFre (yGm n fl) s r i) ∨ ∃ kb, best = Int32.ofNat kb ∧ kb < k ∧ yFre (yGm n fl) s r kb ∧ ∀ i, i < k → yFre (yGm n fl) s r i → r i ≤ r kb
  have h64 : ∀ (k : Nat) (hk1 : 1 ≤ k) (hk2 : k + 2 ≤ s) (best : Int32) (_ : Best best k) (v56 : Int32) (_ : ∀ x, x < 32 → (yM v56 x = true ↔ (yGm n fl (r k) x = true ∧ ∃ i, i < s ∧ x = r i))) (B : Int32 → Int32 → Prop)
      (_ : ∀ best', Best best' (k+1) → B best' (Int32.ofNat (k+1))),
      ∀ d v, n - v = d → v ≤ n → wLX9_nextOff_64 (Int32.ofNat n) rim best (Int32.ofNat k) v56 K B (d+1) (Int32.ofNat (yNb v (yM v56))) (Int32.ofNat v) := by
    intro k hk1 hk2 best hbest v56 h56 B hB d
    have ek : Int32.ofNat k + 1 = Int32.ofNat (k+1) := yn_add k 1
    have hall : yNb n (yM v56) = yNb 32 (yM v56) := by
      have := yNb_tail (yM v56) 0 n (by
        intro j hj
        cases hh : yM v56 j with
        | false => rfl
        | true =>
          exfalso
          by_cases hj32 : j < 32
          · obtain ⟨_, i, hi, e⟩ := (h56 j hj32).1 hh
            have := (hR.2.1 i hi).1; omega
          · rw [yM_big _ _ (by omega)] at hh; cases hh) (32-n)
      rw [show n + (32-n) = 32 by omega] at this
      exact this.symm
    have hcnt := yFre_cnt h hR hk1 hk2 (yM v56) h56
    induction d with
    | zero =>
      intro v hd hv
      have : v = n := by omega
      subst this
      have hle := yNb_le v (yM v56)
      unfold wLX9_nextOff_64
      rw [ek, hall]
      rw [hall] at hle
      refine ⟨fun _ => ⟨fun hne => ?_, fun he => ?_⟩, fun hh => ?_⟩
      · -- not free
        apply hB
        have hnf : ¬ yFre (yGm v fl) s r k := fun hf => hne (by rw [hcnt.2 hf]; rfl)
        rcases hbest with ⟨b1, b2⟩ | ⟨kb, b1, b2, b3, b4⟩
        · left
          refine ⟨b1, fun i hi => ?_⟩
          by_cases q : i = k
          · rw [q]; exact hnf
          · exact b2 i (by omega)
        · right
          refine ⟨kb, b1, by omega, b3, fun i hi hf => ?_⟩
          by_cases q : i = k
          · rw [q] at hf; exact absurd hf hnf
          · exact b4 i (by omega) hf
      · have hf : yFre (yGm v fl) s r k := hcnt.1 (by rw [h2eq, yn_inj (by omega) (by omega)] at he; exact he)
        rcases hbest with ⟨b1, b2⟩ | ⟨kb, b1, b2, b3, b4⟩
        · refine ⟨fun _ => hB _ (Or.inr ⟨k, rfl, by omega, hf, fun i hi hfi => ?_⟩), fun hh => ?_⟩
          · by_cases q : i = k
            · rw [q]; exact Nat.le_refl _
            · exact absurd hfi (b2 i (by omega))
          · exfalso; apply hh; rw [b1]; decide
        · rw [b1]
          have bk := (hR.2.1 k (by omega)).1
          have bkb := (hR.2.1 kb (by have := b3.2.1; omega)).1
          have hkbs := b3.2.1
          refine ⟨fun hh => absurd hh (yn_neg (by omega)), fun _ => ?_⟩
          rw [yn_nat (by omega), yn_nat (by omega), hrim k (by omega), hrim kb (by omega)]
          refine ⟨yn_in (by omega) (by omega), yn_in (by omega) (by omega), fun hle' => ?_, fun hgt => ?_⟩
          · rw [yn_le (by omega) (by omega)] at hle'
            refine hB _ (Or.inr ⟨kb, rfl, by omega, b3, fun i hi hfi => ?_⟩)
            by_cases q : i = k
            · rw [q]; exact hle'
            · exact b4 i (by omega) hfi
          · rw [yn_le (by omega) (by omega)] at hgt
            refine hB _ (Or.inr ⟨k, rfl, by omega, hf, fun i hi hfi => ?_⟩)
            by_cases q : i = k
            · rw [q]; exact Nat.le_refl _
            · have := b4 i (by omega) hfi; omega
      · exfalso; apply hh; rw [yn_le (by omega) (by omega)]; omega
    | succ d ih =>
      intro v hd hv
      have e1 : Int32.ofNat v + 1 = Int32.ofNat (v+1) := yn_add v 1
      unfold wLX9_nextOff_64
      rw [e1, yM_test (by omega)]
      refine ⟨fun hh => ?_, fun _ v83 h83 => ?_⟩
      · exfalso; rw [yn_le (by omega) (by omega)] at hh; omega
      · have : v83 = Int32.ofNat (yNb (v+1) (yM v56)) := by
          rw [h83]
          simp only [yNb]
          cases yM v56 v with
          | false => rw [if_neg (by decide), if_neg (by decide), h0eq, yn_add]
          | true => rw [if_pos rfl, if_pos rfl, h1eq, yn_add]
        rw [this]
        exact ih (v+1) (by omega) (by omega)
  have h33 : ∀ (bits : Int32) (_ : ∀ x, x < 32 → (yM bits x = true ↔ ∃ i, i < s ∧ x = r i)), ∀ d k best, s - k = d → 1 ≤ k → k + 1 ≤ s → Best best k → wLX9_nextOff_33 (Int32.ofNat n) (Int32.ofNat s) rim fl bits K (d+1) best (Int32.ofNat k) := by
    intro bits hbits d
    induction d with
    | zero => intro k best hd hk1 hk2; omega
    | succ d ih =>
      intro k best hd hk1 hk2 hbest
      have e1 : Int32.ofNat k + 1 = Int32.ofNat (k+1) := yn_add k 1
      have bk := (hR.2.1 k (by omega)).1
      unfold wLX9_nextOff_33
      rw [e1, yn_nat (by omega), hrim k (by omega), yn_nat (by omega)]
      refine ⟨fun hle => ?_, fun hgt => ⟨yn_in (by omega) (by omega), yn_in (by omega) (by omega), fun v56 h56 => ?_⟩⟩
      · rw [yn_le (by omega) (by omega)] at hle
        have hks : k + 1 = s := by omega
        rcases hbest with ⟨b1, b2⟩ | ⟨kb, b1, b2, b3, b4⟩
        · exfalso
          obtain ⟨k0, hk0⟩ := hex
          exact b2 k0 (by have := hk0.2.1; omega) hk0
        · rw [b1]
          exact hK kb b3 (fun i hfi => b4 i (by have := hfi.2.1; omega) hfi)
      · rw [yn_le (by omega) (by omega)] at hgt
        refine ⟨n - 0 + 1, ?_⟩
        have hz : (0 : Int32) = Int32.ofNat (yNb 0 (yM v56)) := rfl
        have := h64 k hk1 (by omega) best hbest v56 (by
          intro x hx
          rw [h56, yM_and, Bool.and_eq_true, hbits x hx]
          have : yGm n fl (r k) x = yM (fl (r k)) x := by unfold yGm; rw [decide_eq_true bk, Bool.true_and]
          rw [this]) (fun z0 z1 => (wLX9_nextOff_33 (Int32.ofNat n) (Int32.ofNat s) rim fl bits K (d+1)) z0 z1) (by
          intro best' hb'
          exact ih (k+1) best' (by omega) (by omega) (by omega) hb') (n-0) 0 rfl (by omega)
        exact this
  have h4 : ∀ d k bits, s - k = d → k ≤ s → (∀ x, x < 32 → (yM bits x = true ↔ ∃ i, i < k ∧ x = r i)) → wLX9_nextOff_4 (Int32.ofNat n) (Int32.ofNat s) rim fl K (d+1) bits (Int32.ofNat k) := by
    intro d
    induction d with
    | zero =>
      intro k bits hd hk hb
      have : k = s := by omega
      subst this
      unfold wLX9_nextOff_4
      refine ⟨fun _ => ?_, fun hh => ?_⟩
      · rw [h1eq]
        refine ⟨_, h33 bits hb (k-1) 1 (-1) rfl (by omega) (by have := hR.1; omega) (Or.inl ⟨rfl, fun i hi hf => by have := hf.1; omega⟩)⟩
      · exfalso; apply hh; rw [yn_le (by omega) (by omega)]; omega
    | succ d ih =>
      intro k bits hd hk hb
      have e1 : Int32.ofNat k + 1 = Int32.ofNat (k+1) := yn_add k 1
      have bk := (hR.2.1 k (by omega)).1
      unfold wLX9_nextOff_4
      rw [e1, yn_nat (by omega), hrim k (by omega)]
      refine ⟨fun hh => ?_, fun _ => ⟨yn_in (by omega) (by omega), fun v22 h22 => ih (k+1) v22 (by omega) (by omega) ?_⟩⟩
      · exfalso; rw [yn_le (by omega) (by omega)] at hh; omega
      · intro x hx
        rw [h22, yM_or, Bool.or_eq_true, hb x hx, yM_shl (by omega) x hx, decide_eq_true_iff]
        constructor
        · rintro (⟨i, hi, e⟩ | e)
          · exact ⟨i, by omega, e⟩
          · exact ⟨k, by omega, e⟩
        · rintro ⟨i, hi, e⟩
          by_cases q : i = k
          · rw [q] at e; exact Or.inr e
          · exact Or.inl ⟨i, by omega, e⟩
  unfold wX9_nextOff
  rw [h0eq]
  exact ⟨s - 0 + 1, h4 (s-0) 0 (Int32.ofNat 0) rfl (by omega) (by
    intro x _
    rw [← h0eq, yM_zero]
    constructor
    · intro hh; cases hh
    · rintro ⟨i, hi, _⟩; omega)⟩
end


-- the ways in arrays
def yDw (g : Nat → Nat → Bool) (ρ : Nat → Nat → Nat) (a b c t : Nat) (s : Nat → Nat) (rm : Nat → Nat → Nat) (kk pp : Nat → Nat) (lf rt up : Nat → Int32) : Prop :=
  yRun g ρ a b c t s rm kk pp ∧ ∀ τ, τ < t → lf (rm τ (kk τ)) = Int32.ofNat (rm τ (kk τ - 1)) ∧ rt (rm τ (kk τ)) = Int32.ofNat (rm τ (kk τ + 1)) ∧
    ∀ j, kk τ ≤ j → j < kk τ + pp τ → up (rm (τ+1) j) = Int32.ofNat (rm τ (kk τ))

section
variable {n F : Nat} {g : Nat → Nat → Bool} {fo ρ : Nat → Nat → Nat} {a b c t : Nat} {s : Nat → Nat} {rm : Nat → Nat → Nat} {kk pp : Nat → Nat}

theorem yRun_stay {T : Nat} (hr : yRun g ρ a b c T s rm kk pp) : ∀ d σ, σ + d ≤ T → ∀ i, i < s σ → yGo rm kk (σ+d) (rm σ i) ∨ ∃ j, j < s (σ+d) ∧ rm (σ+d) j = rm σ i := by
  intro d
  induction d with
  | zero => intro σ _ i hi; exact Or.inr ⟨i, hi, rfl⟩
  | succ d ih =>
    intro σ hσ i hi
    rcases ih σ (by omega) i hi with ⟨τ, hτ, e⟩ | ⟨j, hj, e⟩
    · exact Or.inl ⟨τ, by omega, e⟩
    · obtain ⟨hk1, hk2, hp, ha, hb, _⟩ := (hr.2.2.2.2 (σ+d) (by omega)).1
      rcases Nat.lt_trichotomy j (kk (σ+d)) with q | q | q
      · exact Or.inr ⟨j, by rw [← Nat.add_assoc]; omega, by rw [← Nat.add_assoc, ha j q]; exact e⟩
      · exact Or.inl ⟨σ+d, by omega, by rw [← e, q]⟩
      · exact Or.inr ⟨j + pp (σ+d) - 1, by rw [← Nat.add_assoc]; omega, by rw [← Nat.add_assoc, hb j q hj]; exact e⟩

theorem yDw_ext (h : yTg n g F fo ρ) (hab : g a b = true) (hc : ρ a b = c) {lf rt up : Nat → Int32} (hd : yDw g ρ a b c t s rm kk pp lf rt up) {k p s' : Nat} {r' : Nat → Nat} (hS : yStp g ρ (s t) (rm t) k p s' r')
    (hmax : ∀ i, yFre g (s t) (rm t) i → rm t i ≤ rm t k) {lf' rt' up' : Nat → Int32} (hlf : lf' = upd lf (rm t k) (Int32.ofNat (rm t (k-1)))) (hrt : rt' = upd rt (rm t k) (Int32.ofNat (rm t (k+1))))
    (hup1 : ∀ j, j < p → up' (r' (k+j)) = Int32.ofNat (rm t k)) (hup2 : ∀ x, (∀ j, j < p → x ≠ r' (k+j)) → up' x = up x) :
    ∃ (s1 : Nat → Nat) (rm1 : Nat → Nat → Nat) (kk1 pp1 : Nat → Nat), yDw g ρ a b c (t+1) s1 rm1 kk1 pp1 lf' rt' up' ∧ s1 (t+1) = s' ∧ rm1 (t+1) = r' ∧ (∀ x, yGo rm1 kk1 (t+1) x ↔ (yGo rm kk t x ∨ x = rm t k)) := by
  obtain ⟨hr, hw⟩ := hd
  have hR := yRun_rim h hab hc hr t (Nat.le_refl _)
  obtain ⟨e0, e1, F1, F3, F2, F4⟩ := yStp_facts h hR hS
  let s1 : Nat → Nat := fun τ => if τ = t + 1 then s' else s τ
  let rm1 : Nat → Nat → Nat := fun τ => if τ = t + 1 then r' else rm τ
  let kk1 : Nat → Nat := fun τ => if τ = t then k else kk τ
  let pp1 : Nat → Nat := fun τ => if τ = t then p else pp τ
  have es : ∀ τ, τ ≤ t → s1 τ = s τ ∧ rm1 τ = rm τ := by
    intro τ hτ
    have : ¬ τ = t + 1 := by omega
    exact ⟨if_neg this, if_neg this⟩
  have ek : ∀ τ, τ < t → kk1 τ = kk τ ∧ pp1 τ = pp τ := by
    intro τ hτ
    have : ¬ τ = t := by omega
    exact ⟨if_neg this, if_neg this⟩
  have en : s1 (t+1) = s' ∧ rm1 (t+1) = r' := ⟨if_pos rfl, if_pos rfl⟩
  have ekt : kk1 t = k ∧ pp1 t = p := ⟨if_pos rfl, if_pos rfl⟩
  refine ⟨s1, rm1, kk1, pp1, ⟨⟨?_, ?_, ?_, ?_, ?_⟩, ?_⟩, en.1, en.2, ?_⟩
  · rw [(es 0 (by omega)).1]; exact hr.1
  · rw [(es 0 (by omega)).2]; exact hr.2.1
  · rw [(es 0 (by omega)).2]; exact hr.2.2.1
  · rw [(es 0 (by omega)).2]; exact hr.2.2.2.1
  · intro τ hτ
    by_cases q : τ = t
    · subst q
      rw [(es τ (Nat.le_refl _)).1, (es τ (Nat.le_refl _)).2, ekt.1, ekt.2, en.1, en.2]
      exact ⟨hS, hmax⟩
    · rw [(es τ (by omega)).1, (es τ (by omega)).2, (es (τ+1) (by omega)).1, (es (τ+1) (by omega)).2, (ek τ (by omega)).1, (ek τ (by omega)).2]
      exact hr.2.2.2.2 τ (by omega)
  · intro τ hτ
    by_cases q : τ = t
    · subst q
      rw [(es τ (Nat.le_refl _)).2, ekt.1, ekt.2, en.2]
      refine ⟨by rw [hlf, yupd_same], by rw [hrt, yupd_same], fun j h1 h2 => ?_⟩
      have := hup1 (j-k) (by omega)
      rw [show k + (j-k) = j by omega] at this
      exact this
    · rw [(es τ (by omega)).2, (es (τ+1) (by omega)).2, (ek τ (by omega)).1, (ek τ (by omega)).2]
      obtain ⟨w1, w2, w3⟩ := hw τ (by omega)
      have hne : rm τ (kk τ) ≠ rm t k := by
        intro e
        exact (hR.2.1 k (by have := hS.2.1; omega)).2 ⟨τ, by omega, e.symm⟩
      refine ⟨by rw [hlf, yupd_ne _ _ _ _ hne]; exact w1, by rw [hrt, yupd_ne _ _ _ _ hne]; exact w2, fun j h1 h2 => ?_⟩
      rw [hup2]
      · exact w3 j h1 h2
      · intro j' hj' e
        -- it was on the rim before
        have hSτ := (hr.2.2.2.2 τ (by omega)).1
        have hjs : j < s (τ+1) := by have := hSτ.2.1; have := hSτ.2.2.1; omega
        rcases yRun_stay hr (t-(τ+1)) (τ+1) (by omega) j hjs with h3 | ⟨i, hi, h3⟩
        · rw [show τ + 1 + (t-(τ+1)) = t by omega, e] at h3
          have := (F1 (j'+1) (by omega)).1
          rw [show k + (j'+1) - 1 = k + j' by omega] at this
          exact this h3
        · rw [show τ + 1 + (t-(τ+1)) = t by omega] at hi h3
          exact F2 j' hj' i hi (by rw [← e]; exact h3.symm)
  · intro x
    constructor
    · rintro ⟨τ, hτ, e⟩
      by_cases q : τ = t
      · rw [q, (es t (Nat.le_refl _)).2, ekt.1] at e; exact Or.inr e
      · rw [(es τ (by omega)).2, (ek τ (by omega)).1] at e
        exact Or.inl ⟨τ, by omega, e⟩
    · rintro (⟨τ, hτ, e⟩ | e)
      · exact ⟨τ, by omega, by rw [(es τ (by omega)).2, (ek τ hτ).1]; exact e⟩
      · exact ⟨t, by omega, by rw [(es t (Nat.le_refl _)).2, ekt.1]; exact e⟩
end

section
variable {n F : Nat} {fl : Nat → Int32} {fo ρ : Nat → Nat → Nat} {a b c : Nat}

-- the reference's loop
theorem w9_draw80 (h : yTg n (yGm n fl) F fo ρ) (hab : yGm n fl a b = true) (hc : ρ a b = c) {ar as : Nat → Int32} (hA : yRnds n (yGm n fl) ρ ar as)
    (i1 i2 i3 i4 i5 i6 i7 i8 i9 i10 i11 i17 : Int32) (f26 f27 f28 f29 f30 : Nat → Int32) (u40 : Int32 × Int32 × Int32 × Int32)
    (K : (Int32 × Int32 × Int32 × Int32 × Int32 × (Nat → Int32) × (Nat → Int32) × (Nat → Int32) × (Nat → Int32) × (Nat → Int32) × (Nat → Int32) × (Nat → Int32) × (Nat → Int32) × (Nat → Int32)) → Prop)
    (hK : ∀ T s rm kk pp lf rt up rim fresh, yDw (yGm n fl) ρ a b c T s rm kk pp lf rt up → s T = 2 →
      ∃ n125, wLX9_findDrawing_125 (Int32.ofNat n) i1 i2 i3 i4 i5 i6 i7 i8 i9 i10 i11 i17 f30 u40 rim lf rt fresh up (Int32.ofNat 2) K n125 f27 f28 f29 f26 0) :
    ∀ d t s rm kk pp rim lf rt fresh up gone, n - t = d → yDw (yGm n fl) ρ a b c t s rm kk pp lf rt up → (∀ i, i < s t → rim i = Int32.ofNat (rm t i)) → yGmk (yGo rm kk t) gone →
      wLX9_findDrawing_80 (Int32.ofNat n) i1 i2 i3 i4 i5 i6 i7 i8 i9 i10 i11 i17 ar as f26 f27 f28 f29 f30 fl u40 K (d+1) rim lf rt fresh up (Int32.ofNat (s t)) gone := by
  have hn := h.2.1
  have h2eq : (2 : Int32) = Int32.ofNat 2 := rfl
  have h1eq : (1 : Int32) = Int32.ofNat 1 := rfl
  have n1 : Int32.toNatClampNeg (1 : Int32) = 1 := yn_nat (by omega : (1 : Nat) < 2147483648)
  intro d
  induction d with
  | zero =>
    intro t s rm kk pp rim lf rt fresh up gone hd hD hrim hG
    exfalso
    have h1 := yRun_size h hab hc hD.1 (Nat.le_refl t)
    have h2 := (yRun_ends hD.1 t (Nat.le_refl t)).2.2
    omega
  | succ d ih =>
    intro t s rm kk pp rim lf rt fresh up gone hd hD hrim hG
    have hR := yRun_rim h hab hc hD.1 t (Nat.le_refl _)
    have hs20 := yRim_size hR
    have hs2 := (yRun_ends hD.1 t (Nat.le_refl t)).2.2
    -- one step
    have step : ∀ k, yFre (yGm n fl) (s t) (rm t) k → (∀ i, yFre (yGm n fl) (s t) (rm t) i → rm t i ≤ rm t k) →
        wX9_takeOff (Int32.ofNat n) i1 i2 i3 i4 i5 i6 i7 i8 i9 i10 i11 (Int32.ofNat (s t)) (u40.1) (u40.2.1) (u40.2.2.1) (u40.2.2.2) i17 rim lf rt ar as fresh up (Int32.ofNat k) gone (fun u111 => (∀ v119 : Int32, v119 = (gone ||| ((1 : Int32) <<< (Int32.ofNat (rm t k) &&& 31))) → (wLX9_findDrawing_80 (Int32.ofNat n) i1 i2 i3 i4 i5 i6 i7 i8 i9 i10 i11 i17 ar as f26 f27 f28 f29 f30 fl u40 K (d+1)) (u111.2.1) (u111.2.2.1) (u111.2.2.2.1) (u111.2.2.2.2.1) (u111.2.2.2.2.2) (u111.1) v119)) := by
      intro k hf hmax
      obtain ⟨p, s', r', hS⟩ := yStp_ex h hR hf
      refine w9_takeOff h hR hS hG hA rim lf rt fresh up hrim _ _ _ _ _ _ _ _ _ _ _ _ _ _ _ _ _ _ ?_
      intro rim' fresh' up' q1 q2 q3 v119 h119
      obtain ⟨s1, rm1, kk1, pp1, hD1, es1, er1, hgo⟩ := yDw_ext h hab hc hD hS hmax rfl rfl q2 q3
      have := ih (t+1) s1 rm1 kk1 pp1 rim' (upd lf (rm t k) (Int32.ofNat (rm t (k-1)))) (upd rt (rm t k) (Int32.ofNat (rm t (k+1)))) fresh' up' v119 (by omega) hD1 (by rw [es1, er1]; exact q1) (by
        intro x hx
        have bk := (hR.2.1 k (by have := hf.2.1; omega)).1
        rw [h119, yM_or, Bool.or_eq_true, hG x hx, yM_shl (by omega) x hx, decide_eq_true_iff, hgo])
      rw [es1] at this
      exact this
    unfold wLX9_findDrawing_80
    refine ⟨fun hle => ?_, fun hgt => ⟨fun hnz => ?_, fun hz => ?_⟩⟩
    · rw [h2eq, yn_le (by omega) (by omega)] at hle
      have : s t = 2 := by omega
      rw [this]
      exact hK t s rm kk pp lf rt up rim fresh hD this
    · rw [h2eq, yn_le (by omega) (by omega)] at hgt
      have ht1 : 1 ≤ t := by
        rcases Nat.lt_or_ge t 1 with e | e
        · exfalso; apply hnz
          rw [yM_eq0]
          intro x hx
          cases hh : yM gone x with
          | false => rfl
          | true => obtain ⟨τ, hτ, _⟩ := (hG x hx).1 hh; omega
        · exact e
      refine w9_nextOff h hR (yRun_free h hab hc hD.1 ht1 (Nat.le_refl _) (by omega)) rim hrim _ _ _ _ _ _ _ _ _ _ _ _ _ _ _ _ _ ?_
      intro k hf hmax
      have hks := hf.2.1
      rw [yn_nat (by omega), hrim k (by omega)]
      refine ⟨yn_in (by omega) (by omega), fun v107 h107 => ?_⟩
      rw [h107]
      exact step k hf hmax
    · rw [h2eq, yn_le (by omega) (by omega)] at hgt
      have ht0 : t = 0 := by
        rcases Nat.lt_or_ge t 1 with e | e
        · omega
        · exfalso
          have hb := (hG (rm 0 (kk 0)) (by
            have hS := (hD.1.2.2.2.2 0 (by omega)).1
            have := ((yRun_rim h hab hc hD.1 0 (by omega)).2.1 (kk 0) (by have := hS.2.1; omega)).1
            omega)).2 ⟨0, by omega, rfl⟩
          rw [hz, yM_zero] at hb; cases hb
      subst ht0
      have s0 := hD.1.1
      rw [n1, hrim 1 (by omega)]
      intro v107 h107
      rw [h107]
      have := step 1 ⟨by omega, by omega, fun i a1 a2 a3 a4 => by omega⟩ (fun i hf => by
        have h1 := hf.1; have h2 := hf.2.1
        have : i = 1 := by omega
        rw [this]; exact Nat.le_refl _)
      exact this
end


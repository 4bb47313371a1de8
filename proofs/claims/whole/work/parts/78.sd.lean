
theorem w_fill20 (x : Int32) (f0 : Nat → Int32) (K : (Nat → Int32) → Prop) (hK : ∀ f, (∀ i, i < 20 → f i = x) → K f) : wJ7_fill_53178 f0 x K := by
  have key : ∀ d i t, 20 - i = d → i ≤ 20 → (∀ j, j < i → t j = x) → wLJ7_fill_53178_5 x K (d+1) t (Int32.ofNat i) := by
    have e4 : (20 : Int32) = Int32.ofNat 20 := rfl
    intro d
    induction d with
    | zero =>
      intro i t hd hi ht
      unfold wLJ7_fill_53178_5
      refine ⟨fun _ => hK t (fun j hj => ht j (by omega)), fun hh => ?_⟩
      exfalso; apply hh; rw [e4, yn_le (by omega) (by omega)]; omega
    | succ d ih =>
      intro i t hd hi ht
      have e1 : Int32.ofNat i + 1 = Int32.ofNat (i+1) := yn_add i 1
      unfold wLJ7_fill_53178_5
      rw [e1, yn_nat (by omega)]
      refine ⟨fun hh => ?_, fun _ => ⟨yn_in (by omega) (by omega), fun g hg => ih (i+1) g (by omega) (by omega) ?_⟩⟩
      · exfalso; rw [e4, yn_le (by omega) (by omega)] at hh; omega
      · intro j hj
        rw [hg]
        by_cases c : j = i
        · rw [c, yupd_same]
        · rw [yupd_ne _ _ _ _ c]; exact ht j (by omega)
  unfold wJ7_fill_53178
  exact ⟨20 - 0 + 1, key (20-0) 0 f0 rfl (by omega) (fun j hj => by omega)⟩

-- the rim in the class's arrays
def yCr (s : Nat) (r : Nat → Nat) (rim : Int32) (rA rB : Nat → Int32) : Prop :=
  (∀ x, x < 32 → (yM rim x = true ↔ ∃ i, i < s ∧ x = r i)) ∧ (∀ i, 1 ≤ i → i < s → rA (r i) = Int32.ofNat (r (i-1))) ∧ (∀ i, i + 1 < s → rB (r i) = Int32.ofNat (r (i+1)))

theorem w0_link {p q : Nat} (hp : p < 20) (hq : q < 20) (rA rB : Nat → Int32) (i0 i1 i2 i3 : Int32) (K : ((Nat → Int32) × (Nat → Int32)) → Prop) (hK : K (upd rA p (Int32.ofNat q), upd rB q (Int32.ofNat p))) :
    wX0_link i0 i1 i2 i3 rA rB (Int32.ofNat p) (Int32.ofNat q) K := by
  unfold wX0_link
  rw [yn_nat (by omega), yn_nat (by omega)]
  refine ⟨yn_in (by omega) (by omega), fun g6 h6 => ⟨yn_in (by omega) (by omega), fun g13 h13 => ?_⟩⟩
  rw [h6, h13]; exact hK

section
variable {n F : Nat} {fl : Nat → Int32} {fo ρ : Nat → Nat → Nat} {s k p s' : Nat} {r r' : Nat → Nat} {G : Nat → Prop}

theorem w0_off63 (h : yTg n (yGm n fl) F fo ρ) (hR : yRim n (yGm n fl) ρ s r G) (hS : yStp (yGm n fl) ρ s r k p s' r') {o : Nat → Int32} (ho : ∀ v w, yGm n fl v w = true → o (20*v+w) = Int32.ofNat (ρ v w))
    (i0 i1 i2 : Int32) (tA tB : Nat → Int32) (htA : tA (r k) = Int32.ofNat (r (k-1))) (rim0 : Int32) (rA0 rB0 tC0 : Nat → Int32)
    (K : (Int32 × (Nat → Int32) × (Nat → Int32) × (Nat → Int32) × (Nat → Int32) × (Nat → Int32)) → Prop)
    (hK : ∀ rim rA rB tC, (∀ x, x < 32 → (yM rim x = true ↔ (yM rim0 x = true ∨ ∃ j, j < p ∧ x = r' (k+j)))) → (∀ i, k ≤ i → i ≤ k + p → rA (r' i) = Int32.ofNat (r' (i-1))) → (∀ x, (∀ i, k ≤ i → i ≤ k + p → x ≠ r' i) → rA x = rA0 x) →
      (∀ i, k ≤ i → i ≤ k + p → rB (r' (i-1)) = Int32.ofNat (r' i)) → (∀ x, (∀ i, k ≤ i → i ≤ k + p → x ≠ r' (i-1)) → rB x = rB0 x) → (∀ j, j < p → tC (r' (k+j)) = Int32.ofNat (r k)) → (∀ x, (∀ j, j < p → x ≠ r' (k+j)) → tC x = tC0 x) →
      K (rim, rA, tA, rB, tB, tC)) :
    ∀ d m rA rB tC rim, p - m = d → m ≤ p → (∀ x, x < 32 → (yM rim x = true ↔ (yM rim0 x = true ∨ ∃ j, j < p ∧ p ≤ j + m ∧ x = r' (k+j)))) → (∀ i, k + p < i + m → i ≤ k + p → rA (r' i) = Int32.ofNat (r' (i-1))) → (∀ x, (∀ i, k + p < i + m → i ≤ k + p → x ≠ r' i) → rA x = rA0 x) →
      (∀ i, k + p < i + m → i ≤ k + p → rB (r' (i-1)) = Int32.ofNat (r' i)) → (∀ x, (∀ i, k + p < i + m → i ≤ k + p → x ≠ r' (i-1)) → rB x = rB0 x) → (∀ j, j < p → p ≤ j + m → tC (r' (k+j)) = Int32.ofNat (r k)) → (∀ x, (∀ j, j < p → p ≤ j + m → x ≠ r' (k+j)) → tC x = tC0 x) →
      wLX0_takeOff_63 i0 i1 i2 o (Int32.ofNat (r k)) tA tB K (d+1) rA rB tC rim (Int32.ofNat (r' (k+p-m))) (Int32.ofNat (r' (k+p-m-1))) (Int32.ofNat m) := by
  have hn := h.2.1
  have hR' := yRim_step h hR hS
  have hs20' := yRim_size hR'
  have hs20 := yRim_size hR
  obtain ⟨e0, e1, F1, F3, F2, F4⟩ := yStp_facts h hR hS
  obtain ⟨hk1, hk2, hp, ha, hb, hcc, hd, hfree⟩ := hS
  have hv := (hR.2.1 k (by omega)).1
  have hq : ∀ i, k ≤ i + 1 → i ≤ k + p → yGm n fl (r k) (r' i) = true ∧ r' i < 20 := by
    intro i h1 h2
    have := (F1 (i+1-k) (by omega)).2
    rw [show k + (i+1-k) - 1 = i by omega] at this
    exact ⟨this, (yTg_gr h this).2.1⟩
  have hinj : ∀ i j, k ≤ i + 1 → i ≤ k + p → k ≤ j + 1 → j ≤ k + p → r' i = r' j → i = j := by
    intro i j h1 h2 h3 h4 he
    have := F3 (i+1-k) (j+1-k) (by omega) (by omega) (by rw [show k + (i+1-k) - 1 = i by omega, show k + (j+1-k) - 1 = j by omega]; exact he)
    omega
  have h20 : (20 : Int32) = Int32.ofNat 20 := rfl
  -- the end
  have fin : ∀ rA rB tC rim, (∀ x, x < 32 → (yM rim x = true ↔ (yM rim0 x = true ∨ ∃ j, j < p ∧ x = r' (k+j)))) → (∀ i, k < i → i ≤ k + p → rA (r' i) = Int32.ofNat (r' (i-1))) → (∀ x, (∀ i, k < i → i ≤ k + p → x ≠ r' i) → rA x = rA0 x) →
      (∀ i, k < i → i ≤ k + p → rB (r' (i-1)) = Int32.ofNat (r' i)) → (∀ x, (∀ i, k < i → i ≤ k + p → x ≠ r' (i-1)) → rB x = rB0 x) → (∀ j, j < p → tC (r' (k+j)) = Int32.ofNat (r k)) → (∀ x, (∀ j, j < p → x ≠ r' (k+j)) → tC x = tC0 x) →
      wX0_link i0 i1 i2 rim rA rB (Int32.ofNat (r' k)) (Int32.ofNat (r (k-1))) (fun u135 => K (rim, u135.1, tA, u135.2, tB, tC)) := by
    intro rA rB tC rim q1 q2 q3 q4 q5 q6 q7
    have b1 := (hq k (by omega) (by omega)).2
    have b2 := (hq (k-1) (by omega) (by omega)).2
    rw [e0] at b2
    refine w0_link b1 b2 rA rB _ _ _ _ _ ?_
    refine hK rim (upd rA (r' k) (Int32.ofNat (r (k-1)))) (upd rB (r (k-1)) (Int32.ofNat (r' k))) tC q1 ?_ ?_ ?_ ?_ q6 q7
    · intro i h1 h2
      by_cases c : i = k
      · rw [c, yupd_same, e0]
      · rw [yupd_ne]
        · exact q2 i (by omega) h2
        · intro he; exact c (hinj i k (by omega) h2 (by omega) (by omega) he)
    · intro x hx
      rw [yupd_ne _ _ _ _ (hx k (by omega) (by omega))]
      exact q3 x (fun i h1 h2 => hx i (by omega) h2)
    · intro i h1 h2
      by_cases c : i = k
      · rw [c, e0, yupd_same]
      · rw [yupd_ne]
        · exact q4 i (by omega) h2
        · intro he
          rw [← e0] at he
          have := hinj (i-1) (k-1) (by omega) (by omega) (by omega) (by omega) he
          omega
    · intro x hx
      rw [yupd_ne]
      · exact q5 x (fun i h1 h2 => hx i (by omega) h2)
      · rw [← e0]; exact hx k (by omega) (by omega)
  intro d
  induction d with
  | zero =>
    intro m rA rB tC rim hd' hm q1 q2 q3 q4 q5 q6 q7
    have : m = p := by omega
    subst this
    have e3 : k + m - m = k := by omega
    rw [e3, e0]
    have hfin := fin rA rB tC rim (by
      intro x hx; rw [q1 x hx]
      constructor
      · rintro (e | ⟨j, j1, _, j3⟩)
        · exact Or.inl e
        · exact Or.inr ⟨j, j1, j3⟩
      · rintro (e | ⟨j, j1, j3⟩)
        · exact Or.inl e
        · exact Or.inr ⟨j, j1, by omega, j3⟩) (fun i h1 h2 => q2 i (by omega) h2) (fun x hx => q3 x (fun i h1 h2 => hx i (by omega) h2)) (fun i h1 h2 => q4 i (by omega) h2) (fun x hx => q5 x (fun i h1 h2 => hx i (by omega) h2))
      (fun j hj => q6 j hj (by omega)) (fun x hx => q7 x (fun j hj _ => hx j hj))
    unfold wLX0_takeOff_63
    rw [yn_nat (by omega), htA]
    refine ⟨fun _ => ⟨yn_in (by omega) (by omega), hfin⟩, fun _ => ⟨fun _ => ⟨yn_in (by omega) (by omega), hfin⟩, fun _ => ⟨yn_in (by omega) (by omega), fun _ => ⟨yn_in (by omega) (by omega), hfin⟩, fun hh => absurd rfl hh⟩⟩⟩
  | succ d ih =>
    intro m rA rB tC rim hd' hm q1 q2 q3 q4 q5 q6 q7
    have em : Int32.ofNat m + 1 = Int32.ofNat (m+1) := yn_add m 1
    have bw := (hq (k+p-m-1) (by omega) (by omega)).2
    have gw := (hq (k+p-m-1) (by omega) (by omega)).1
    have bl := (hq (k+p-m) (by omega) (by omega)).2
    have hAb := (hR.2.1 (k-1) (by omega)).1
    have hwA : r' (k+p-m-1) ≠ r (k-1) := by
      intro he
      rw [← e0] at he
      have := hinj _ _ (by omega) (by omega) (by omega) (by omega) he
      omega
    unfold wLX0_takeOff_63
    rw [em, yn_nat (by omega), yn_nat (by omega), htA]
    refine ⟨fun hh => ?_, fun _ => ⟨fun hh => absurd hh (yn_neg (by omega)), fun _ => ⟨yn_in (by omega) (by omega), fun hh => ?_, fun _ => ⟨yn_in (by omega) (by omega), fun tC' htC => fun rim' hrim => ?_⟩⟩⟩⟩
    · exfalso; rw [h20, yn_le (by omega) (by omega)] at hh; omega
    · exfalso; rw [yn_inj (by omega) (by omega)] at hh; exact hwA hh
    refine w0_link bl bw rA rB _ _ _ _ _ ?_
    refine w_behind (by omega) (by omega) o _ ?_
    rw [ho _ _ gw]
    have hst := hcc (p-m-1) (by omega)
    rw [show k + (p-m-1) = k + p - m - 1 by omega] at hst
    rw [hst]
    have hgoal := ih (m+1) (upd rA (r' (k+p-m)) (Int32.ofNat (r' (k+p-m-1)))) (upd rB (r' (k+p-m-1)) (Int32.ofNat (r' (k+p-m)))) tC' rim' (by omega) (by omega) (by
      intro x hx
      rw [hrim, yM_or, Bool.or_eq_true, q1 x hx, yM_shl (by omega) x hx, decide_eq_true_iff]
      constructor
      · rintro ((e | ⟨j, j1, j2, j3⟩) | e)
        · exact Or.inl e
        · exact Or.inr ⟨j, j1, by omega, j3⟩
        · exact Or.inr ⟨p-m-1, by omega, by omega, by rw [e]; congr 1; omega⟩
      · rintro (e | ⟨j, j1, j2, j3⟩)
        · exact Or.inl (Or.inl e)
        · by_cases c : j = p - m - 1
          · right; rw [j3]; congr 1; omega
          · exact Or.inl (Or.inr ⟨j, j1, by omega, j3⟩)) (by
      intro i h1 h2
      by_cases c : i = k + p - m
      · rw [c, yupd_same]
      · rw [yupd_ne]
        · exact q2 i (by omega) h2
        · intro he; exact c (hinj i _ (by omega) h2 (by omega) (by omega) he)) (by
      intro x hx
      rw [yupd_ne _ _ _ _ (hx (k+p-m) (by omega) (by omega))]
      exact q3 x (fun i h1 h2 => hx i (by omega) h2)) (by
      intro i h1 h2
      by_cases c : i = k + p - m
      · rw [c, yupd_same]
      · rw [yupd_ne]
        · exact q4 i (by omega) h2
        · intro he
          have := hinj (i-1) (k+p-m-1) (by omega) (by omega) (by omega) (by omega) he
          omega) (by
      intro x hx
      rw [yupd_ne _ _ _ _ (hx (k+p-m) (by omega) (by omega))]
      exact q5 x (fun i h1 h2 => hx i (by omega) h2)) (by
      intro j h1 h2
      rw [htC]
      by_cases c : j = p - m - 1
      · rw [show k + j = k + p - m - 1 by omega, yupd_same]
      · rw [yupd_ne]
        · exact q6 j h1 (by omega)
        · intro he
          have := hinj (k+j) (k+p-m-1) (by omega) (by omega) (by omega) (by omega) he
          omega) (by
      intro x hx
      rw [htC, yupd_ne]
      · exact q7 x (fun j h1 h2 => hx j h1 (by omega))
      · have := hx (p-m-1) (by omega) (by omega)
        rw [show k + (p-m-1) = k + p - m - 1 by omega] at this
        exact this)
    rw [show k + p - (m+1) = k + p - m - 1 by omega] at hgoal
    exact hgoal
end


section
variable {n F : Nat} {fl : Nat → Int32} {fo ρ : Nat → Nat → Nat} {s k p s' : Nat} {r r' : Nat → Nat} {G : Nat → Prop}

theorem w0_takeOff (h : yTg n (yGm n fl) F fo ρ) (hR : yRim n (yGm n fl) ρ s r G) (hS : yStp (yGm n fl) ρ s r k p s' r') {o : Nat → Int32} (ho : ∀ v w, yGm n fl v w = true → o (20*v+w) = Int32.ofNat (ρ v w))
    (i0 i1 i2 : Int32) {rim : Int32} {rA rB : Nat → Int32} (hc : yCr s r rim rA rB) (tA tB tC : Nat → Int32)
    (K : (Int32 × (Nat → Int32) × (Nat → Int32) × (Nat → Int32) × (Nat → Int32) × (Nat → Int32)) → Prop)
    (hK : ∀ rim' rA' rB' tC', yCr s' r' rim' rA' rB' → (∀ j, j < p → tC' (r' (k+j)) = Int32.ofNat (r k)) → (∀ x, (∀ j, j < p → x ≠ r' (k+j)) → tC' x = tC x) →
      K (rim', rA', upd tA (r k) (Int32.ofNat (r (k-1))), rB', upd tB (r k) (Int32.ofNat (r (k+1))), tC')) :
    wX0_takeOff i0 i1 i2 rim rA tA rB tB o tC (Int32.ofNat (r k)) K := by
  have hn := h.2.1
  have hR' := yRim_step h hR hS
  have hs20' := yRim_size hR'
  have hs20 := yRim_size hR
  have hS' := hS
  obtain ⟨e0, e1, F1, F3, F2, F4⟩ := yStp_facts h hR hS
  obtain ⟨hk1, hk2, hp, ha, hb, hcc, hd, hfree⟩ := hS
  have hv := (hR.2.1 k (by omega)).1
  obtain ⟨c1, c2, c3⟩ := hc
  have hgs := h.2.2.1.2
  have hBb := (hR.2.1 (k+1) (by omega)).1
  have hvB : yGm n fl (r k) (r (k+1)) = true := by rw [hgs]; exact hR.2.2.2.1 k (by omega)
  have h0eq : (0 : Int32) = Int32.ofNat 0 := rfl
  unfold wX0_takeOff
  rw [yn_nat (by omega), c2 k hk1 (by omega), c3 k (by omega)]
  refine ⟨fun _ => ⟨yn_in (by omega) (by omega), yn_in (by omega) (by omega), fun g16 h16 => ⟨yn_in (by omega) (by omega), yn_in (by omega) (by omega), fun g28 h28 v40 h40 => ⟨yn_in (by omega) (by omega), fun v49 h49 => ?_⟩⟩⟩, fun hh => ?_⟩
  · have e49 : v49 = Int32.ofNat (r (k+1)) := by rw [h49, h28, yupd_same]
    rw [e49]
    refine w_behind (by omega) (by omega) o _ ?_
    rw [ho _ _ hvB]
    have hst := hcc p (Nat.le_refl _)
    rw [e1] at hst
    rw [hst, ← e1]
    have b40 : ∀ x, x < 32 → (yM v40 x = true ↔ (x ≠ r k ∧ ∃ i, i < s ∧ x = r i)) := by
      intro x hx
      rw [h40, yM_and, Bool.and_eq_true, c1 x hx, yM_not _ x hx, yM_shl (by omega) x hx]
      simp only [Bool.not_eq_true', decide_eq_false_iff_not]
      exact And.comm
    refine ⟨_, w0_off63 h hR hS' ho i0 i1 i2 g16 g28 (by rw [h16, yupd_same]) v40 rA rB tC K ?_ (p-0) 0 rA rB tC v40 rfl (by omega) ?_ ?_ ?_ ?_ ?_ ?_ ?_⟩
    · intro rim' rA' rB' tC' q1 q2 q3 q4 q5 q6 q7
      rw [h16, h28]
      refine hK rim' rA' rB' tC' ⟨?_, ?_, ?_⟩ q6 q7
      · intro x hx
        rw [q1 x hx, b40 x hx]
        constructor
        · rintro (⟨n1, i, hi, e⟩ | ⟨j, hj, e⟩)
          · rcases Nat.lt_trichotomy i k with c | c | c
            · exact ⟨i, by omega, by rw [ha i c]; exact e⟩
            · rw [c] at e; exact absurd e n1
            · exact ⟨i+p-1, by omega, by rw [hb i c hi]; exact e⟩
          · exact ⟨k+j, by omega, e⟩
        · rintro ⟨i, hi, e⟩
          rcases Nat.lt_or_ge i k with c | c
          · left
            rw [ha i c] at e
            refine ⟨fun he => ?_, i, by omega, e⟩
            rw [e] at he
            have := hR.2.2.1 _ _ (by omega) (by omega) he; omega
          · rcases Nat.lt_or_ge i (k+p) with c' | c'
            · exact Or.inr ⟨i-k, by omega, by rw [e]; congr 1; omega⟩
            · left
              have hbb := hb (i+1-p) (by omega) (by omega)
              rw [show i + 1 - p + p - 1 = i by omega] at hbb
              rw [hbb] at e
              refine ⟨fun he => ?_, i+1-p, by omega, e⟩
              rw [e] at he
              have := hR.2.2.1 _ _ (by omega) (by omega) he; omega
      · intro i h1 h2
        rcases Nat.lt_or_ge i k with c | c
        · rw [q3]
          · rw [ha i c, ha (i-1) (by omega)]; exact c2 i h1 (by omega)
          · intro j j1 j2 he
            have := hR'.2.2.1 i j (by omega) (by omega) he; omega
        · rcases Nat.lt_or_ge (k+p) i with c' | c'
          · have hbb := hb (i+1-p) (by omega) (by omega)
            rw [show i + 1 - p + p - 1 = i by omega] at hbb
            have hbb2 := hb (i-p) (by omega) (by omega)
            rw [show i - p + p - 1 = i - 1 by omega] at hbb2
            rw [q3]
            · rw [hbb, hbb2]
              have := c2 (i+1-p) (by omega) (by omega)
              rw [show i + 1 - p - 1 = i - p by omega] at this
              exact this
            · intro j j1 j2 he
              have := hR'.2.2.1 i j (by omega) (by omega) he; omega
          · exact q2 i c c'
      · intro i h1
        rcases Nat.lt_or_ge (i+1) k with c | c
        · rw [q5]
          · rw [ha i (by omega), ha (i+1) c]; exact c3 i (by omega)
          · intro j j1 j2 he
            have := hR'.2.2.1 i (j-1) (by omega) (by omega) he; omega
        · rcases Nat.lt_or_ge (k+p) (i+1) with c' | c'
          · have hbb := hb (i+1-p) (by omega) (by omega)
            rw [show i + 1 - p + p - 1 = i by omega] at hbb
            have hbb2 := hb (i+2-p) (by omega) (by omega)
            rw [show i + 2 - p + p - 1 = i + 1 by omega] at hbb2
            rw [q5]
            · rw [hbb, hbb2]
              have := c3 (i+1-p) (by omega)
              rw [show i + 1 - p + 1 = i + 2 - p by omega] at this
              exact this
            · intro j j1 j2 he
              have := hR'.2.2.1 i (j-1) (by omega) (by omega) he; omega
          · have := q4 (i+1) c c'
            rw [show i + 1 - 1 = i by omega] at this
            exact this
    · intro x hx
      constructor
      · exact Or.inl
      · rintro (e | ⟨j, j1, j2, _⟩)
        · exact e
        · omega
    · intro i h1 h2; omega
    · intro x _; rfl
    · intro i h1 h2; omega
    · intro x _; rfl
    · intro j h1 h2; omega
    · intro x _; rfl
  · exfalso; apply hh; rw [h0eq, yn_le (by omega) (by omega)]; omega

theorem w0_greatestFree (h : yTg n (yGm n fl) F fo ρ) (hR : yRim n (yGm n fl) ρ s r G) (hex : ∃ k, yFre (yGm n fl) s r k) {rim : Int32} {rA rB : Nat → Int32} (hc : yCr s r rim rA rB)
    (i2 : Int32) (K : Int32 → Unit → Prop) (hK : ∀ k, yFre (yGm n fl) s r k → (∀ i, yFre (yGm n fl) s r i → r i ≤ r k) → K (Int32.ofNat (r k)) ()) :
    wX0_greatestFree (Int32.ofNat (r 0)) (Int32.ofNat (r (s-1))) i2 rim (Int32.ofNat n) fl K := by
  have hn := h.2.1
  have hs2 := hR.1
  obtain ⟨c1, c2, c3⟩ := hc
  have h1eq : (1 : Int32) = Int32.ofNat 1 := rfl
  have h2eq : (2 : Int32) = Int32.ofNat 2 := rfl
  have b0 := (hR.2.1 0 (by omega)).1
  have b1 := (hR.2.1 (s-1) (by omega)).1
  obtain ⟨k0, hk0⟩ := hex
  have bk0 := (hR.2.1 k0 (by have := hk0.2.1; omega)).1
  have key : ∀ d v, v = d → v < n → (∀ i, yFre (yGm n fl) s r i → r i ≤ v) → wLX0_greatestFree_10 (Int32.ofNat (r 0)) (Int32.ofNat (r (s-1))) rim fl K (d+1) (Int32.ofNat v) := by
    intro d
    induction d with
    | zero =>
      intro v hv hvn hall
      subst hv
      -- only node 0 can be it
      have hr0 : r k0 = 0 := by have := hall k0 hk0; omega
      unfold wLX0_greatestFree_10
      refine ⟨fun hh => absurd hh (yn_neg (by omega)), fun _ => ?_⟩
      refine w_hasBit (by omega) _ (fun hbit => ⟨fun hh => absurd hh (by decide), fun _ => ?_⟩) (fun hbit => ?_)
      · rw [yn_inj (by omega) (by omega), yn_inj (by omega) (by omega), yn_nat (by omega)]
        have hne0 : ¬ 0 = r 0 := fun e => by
          rw [← hr0] at e
          have := hR.2.2.1 _ _ (by have := hk0.2.1; omega) (by omega) e
          have := hk0.1; omega
        have hne1 : ¬ 0 = r (s-1) := fun e => by
          rw [← hr0] at e
          have := hR.2.2.1 _ _ (by have := hk0.2.1; omega) (by omega) e
          have := hk0.2.1; omega
        refine ⟨fun hh => absurd hh hne0, fun _ => ⟨fun hh => absurd hh hne1, fun _ => ⟨yn_in (by omega) (by omega), ?_⟩⟩⟩
        apply w_bitCount
        have hcnt := (yFre_cnt h hR hk0.1 hk0.2.1 (yM (fl 0 &&& rim)) (by
          intro x hx
          rw [yM_and, Bool.and_eq_true, c1 x hx, hr0]
          have : yGm n fl 0 x = yM (fl 0) x := by unfold yGm; rw [decide_eq_true (by omega : 0 < n), Bool.true_and]
          rw [this])).2 hk0
        rw [hcnt]
        refine ⟨fun hh => absurd rfl hh, fun _ => ?_⟩
        have := hK k0 hk0 (fun i hi => by have := hall i hi; omega)
        rw [hr0] at this; exact this
      · exfalso
        have := (c1 0 (by omega)).2 ⟨k0, by have := hk0.2.1; omega, hr0.symm⟩
        rw [hbit] at this; cases this
    | succ d ih =>
      intro v hv hvn hall
      have e1 : Int32.ofNat v + (-1) = Int32.ofNat (v-1) := by
        have : Int32.ofNat (v-1) = Int32.ofNat v - Int32.ofNat 1 := (yn_sub (by omega)).symm
        rw [this, Int32.sub_eq_add_neg]; rfl
      have next : (∀ i, yFre (yGm n fl) s r i → r i ≠ v) → wLX0_greatestFree_10 (Int32.ofNat (r 0)) (Int32.ofNat (r (s-1))) rim fl K (d+1) (Int32.ofNat (v-1)) := by
        intro hno
        refine ih (v-1) (by omega) (by omega) ?_
        intro i hi
        have := hall i hi; have := hno i hi; omega
      unfold wLX0_greatestFree_10
      rw [e1]
      refine ⟨fun hh => absurd hh (yn_neg (by omega)), fun _ => ?_⟩
      refine w_hasBit (by omega) _ (fun hbit => ⟨fun hh => absurd hh (by decide), fun _ => ?_⟩) (fun hbit => ⟨fun _ => next ?_, fun hh => absurd rfl hh⟩)
      · rw [yn_inj (by omega) (by omega), yn_inj (by omega) (by omega), yn_nat (by omega)]
        obtain ⟨j, hj, ej⟩ := (c1 v (by omega)).1 hbit
        refine ⟨fun ha => next ?_, fun ha => ⟨fun hb => next ?_, fun hb => ⟨yn_in (by omega) (by omega), ?_⟩⟩⟩
        · intro i hi he
          rw [ha] at he
          have := hR.2.2.1 _ _ (by have := hi.2.1; omega) (by omega) he
          have := hi.1; omega
        · intro i hi he
          rw [hb] at he
          have := hR.2.2.1 _ _ (by have := hi.2.1; omega) (by omega) he
          have := hi.2.1; omega
        · have hj1 : 1 ≤ j := by
            rcases Nat.lt_or_ge j 1 with e | e
            · exfalso; apply ha; rw [ej, show j = 0 by omega]
            · exact e
          have hj2 : j + 2 ≤ s := by
            rcases Nat.lt_or_ge s (j+2) with e | e
            · exfalso; apply hb; rw [ej, show j = s - 1 by omega]
            · exact e
          apply w_bitCount
          have hcnt := yFre_cnt h hR hj1 hj2 (yM (fl v &&& rim)) (by
            intro x hx
            rw [yM_and, Bool.and_eq_true, c1 x hx, ej]
            have bj := (hR.2.1 j hj).1
            have : yGm n fl (r j) x = yM (fl (r j)) x := by unfold yGm; rw [decide_eq_true bj, Bool.true_and]
            rw [this])
          have hle := yNb_le 32 (yM (fl v &&& rim))
          refine ⟨fun hne => next ?_, fun he => ?_⟩
          · intro i hi hiv
            have hij : i = j := by
              rw [ej] at hiv
              exact hR.2.2.1 _ _ (by have := hi.2.1; omega) hj hiv
            rw [hij] at hi
            exact hne (by rw [hcnt.2 hi]; rfl)
          · have hf : yFre (yGm n fl) s r j := hcnt.1 (by rw [h2eq, yn_inj (by omega) (by omega)] at he; exact he)
            have := hK j hf (fun i hi => by have := hall i hi; omega)
            rw [← ej] at this; exact this
      · intro i hi he
        have := (c1 v (by omega)).2 ⟨i, by have := hi.2.1; omega, he.symm⟩
        rw [hbit] at this; cases this
  unfold wX0_greatestFree
  intro v9 h9
  rw [h1eq, yn_sub (by omega)] at h9
  rw [h9]
  exact ⟨_, key (n-1) (n-1) rfl (by omega) (fun i hi => by have := (hR.2.1 i (by have := hi.2.1; omega)).1; omega)⟩
end

section
variable {n F : Nat} {fl : Nat → Int32} {fo ρ : Nat → Nat → Nat} {a b c : Nat}

-- the class's ways
theorem w0_findWays (h : yTg n (yGm n fl) F fo ρ) (hab : yGm n fl a b = true) (hc : ρ a b = c) {o : Nat → Int32} (ho : ∀ v w, yGm n fl v w = true → o (20*v+w) = Int32.ofNat (ρ v w))
    (i3 : Int32) (f4 f5 f6 f7 f8 : Nat → Int32) (K : (Int32 × (Nat → Int32) × (Nat → Int32) × (Nat → Int32) × (Nat → Int32) × (Nat → Int32)) → Prop)
    (hK : ∀ T s rm kk pp rim tA tB tC rA rB, yDw (yGm n fl) ρ a b c T s rm kk pp tA tB tC → s T = 2 → tA a = -1 → tA b = -1 → tB a = -1 → tB b = -1 → tC c = -1 → K (rim, tA, tB, tC, rA, rB)) :
    wX0_findWays (Int32.ofNat a) (Int32.ofNat b) (Int32.ofNat c) i3 f4 f5 f6 f7 f8 o (Int32.ofNat n) fl K := by
  have hn := h.2.1
  have hn3 := h.1
  have th := yTg_th h hab
  rw [hc] at th
  have gab := yTg_gr h hab; have gca := yTg_gr h th.2.2.1; have gbc := yTg_gr h th.2.1
  -- one step of a run
  have step : ∀ t s rm kk pp rim tA tB tC rA rB, yDw (yGm n fl) ρ a b c t s rm kk pp tA tB tC → yCr (s t) (rm t) rim rA rB → tA a = -1 → tA b = -1 → tB a = -1 → tB b = -1 → tC c = -1 →
      ∀ k, yFre (yGm n fl) (s t) (rm t) k → (∀ i, yFre (yGm n fl) (s t) (rm t) i → rm t i ≤ rm t k) → ∀ K' : (Int32 × (Nat → Int32) × (Nat → Int32) × (Nat → Int32) × (Nat → Int32) × (Nat → Int32)) → Prop,
      (∀ s1 rm1 kk1 pp1 rim' tA' tB' tC' rA' rB', yDw (yGm n fl) ρ a b c (t+1) s1 rm1 kk1 pp1 tA' tB' tC' → yCr (s1 (t+1)) (rm1 (t+1)) rim' rA' rB' → tA' a = -1 → tA' b = -1 → tB' a = -1 → tB' b = -1 → tC' c = -1 → K' (rim', rA', tA', rB', tB', tC')) →
      wX0_takeOff (Int32.ofNat a) (Int32.ofNat b) (Int32.ofNat c) rim rA tA rB tB o tC (Int32.ofNat (rm t k)) K' := by
    intro t s rm kk pp rim tA tB tC rA rB hD hcr a1 a2 a3 a4 a5 k hf hmax K' hK'
    have hR := yRun_rim h hab hc hD.1 t (Nat.le_refl _)
    obtain ⟨p, s', r', hS⟩ := yStp_ex h hR hf
    obtain ⟨e0, e1, F1, F3, F2, F4⟩ := yStp_facts h hR hS
    have ends := yRun_ends hD.1 t (Nat.le_refl _)
    have hk1 := hf.1; have hk2 := hf.2.1
    have hka : a ≠ rm t k := fun e => by
      rw [← ends.1] at e
      have := hR.2.2.1 _ _ (by omega) (by omega) e; omega
    have hkb : b ≠ rm t k := fun e => by
      rw [← ends.2.1] at e
      have := hR.2.2.1 _ _ (by omega) (by omega) e; omega
    refine w0_takeOff h hR hS ho _ _ _ hcr tA tB tC K' ?_
    intro rim' rA' rB' tC' q1 q2 q3
    obtain ⟨s1, rm1, kk1, pp1, hD1, es1, er1, hgo⟩ := yDw_ext h hab hc hD hS hmax rfl rfl q2 q3
    refine hK' s1 rm1 kk1 pp1 rim' _ _ tC' rA' rB' hD1 (by rw [es1, er1]; exact q1) ?_ ?_ ?_ ?_ ?_
    · rw [yupd_ne _ _ _ _ hka]; exact a1
    · rw [yupd_ne _ _ _ _ hkb]; exact a2
    · rw [yupd_ne _ _ _ _ hka]; exact a3
    · rw [yupd_ne _ _ _ _ hkb]; exact a4
    · rw [q3]
      · exact a5
      · -- the third corner is on the rim or gone
        intro j hj e
        rcases yRun_stay hD.1 t 0 (by omega) 1 (by rw [hD.1.1]; omega) with h3 | ⟨i, hi, h3⟩
        · rw [Nat.zero_add, hD.1.2.2.1, e] at h3
          have := (F1 (j+1) (by omega)).1
          rw [show k + (j+1) - 1 = k + j by omega] at this
          exact this h3
        · rw [Nat.zero_add] at hi h3
          rw [hD.1.2.2.1] at h3
          exact F2 j hj i hi (by rw [← e, h3])
  have h3eq : (3 : Int32) = Int32.ofNat 3 := rfl
  -- the loop
  have h82 : ∀ d t s rm kk pp rim tA tB tC rA rB, n - (t+2) = d → 1 ≤ t → t + 2 ≤ n → yDw (yGm n fl) ρ a b c t s rm kk pp tA tB tC → yCr (s t) (rm t) rim rA rB → tA a = -1 → tA b = -1 → tB a = -1 → tB b = -1 → tC c = -1 →
      wLX0_findWays_82 (Int32.ofNat a) (Int32.ofNat b) (Int32.ofNat c) o (Int32.ofNat n) fl K (d+1) tA tB tC rA rB rim (Int32.ofNat (t+2)) := by
    intro d
    induction d with
    | zero =>
      intro t s rm kk pp rim tA tB tC rA rB hd ht htn hD hcr a1 a2 a3 a4 a5
      have hsz := yRun_size h hab hc hD.1 (Nat.le_refl t)
      have hs2 := (yRun_ends hD.1 t (Nat.le_refl t)).2.2
      unfold wLX0_findWays_82
      refine ⟨fun _ => hK t s rm kk pp rim tA tB tC rA rB hD (by omega) a1 a2 a3 a4 a5, fun hh => ?_⟩
      exfalso; apply hh; rw [yn_le (by omega) (by omega)]; omega
    | succ d ih =>
      intro t s rm kk pp rim tA tB tC rA rB hd ht htn hD hcr a1 a2 a3 a4 a5
      have e1 : Int32.ofNat (t+2) + 1 = Int32.ofNat (t+2+1) := yn_add (t+2) 1
      have ends := yRun_ends hD.1 t (Nat.le_refl _)
      have hs3 : 3 ≤ s t := by
        rcases Nat.lt_or_ge (s t) 3 with e | e
        · exfalso
          have := (yRun_all h hab hc hD.1 (Nat.le_refl t) (by omega)).2
          omega
        · exact e
      have hR := yRun_rim h hab hc hD.1 t (Nat.le_refl _)
      unfold wLX0_findWays_82
      rw [e1]
      refine ⟨fun hh => ?_, fun _ => ?_⟩
      · exfalso; rw [yn_le (by omega) (by omega)] at hh; omega
      have hgf := w0_greatestFree h hR (yRun_free h hab hc hD.1 ht (Nat.le_refl _) hs3) hcr (Int32.ofNat c) (fun r95 _ => (wX0_takeOff (Int32.ofNat a) (Int32.ofNat b) (Int32.ofNat c) rim rA tA rB tB o tC r95 (fun u98 => (wLX0_findWays_82 (Int32.ofNat a) (Int32.ofNat b) (Int32.ofNat c) o (Int32.ofNat n) fl K (d+1)) (u98.2.2.1) (u98.2.2.2.2.1) (u98.2.2.2.2.2) (u98.2.1) (u98.2.2.2.1) (u98.1) (Int32.ofNat (t+2+1))))) (by
        intro k hf hmax
        refine step t s rm kk pp rim tA tB tC rA rB hD hcr a1 a2 a3 a4 a5 k hf hmax _ ?_
        intro s1 rm1 kk1 pp1 rim' tA' tB' tC' rA' rB' hD1 hcr1 b1 b2 b3 b4 b5
        have := ih (t+1) s1 rm1 kk1 pp1 rim' tA' tB' tC' rA' rB' (by omega) (by omega) (by omega) hD1 hcr1 b1 b2 b3 b4 b5
        rw [show t + 1 + 2 = t + 2 + 1 by omega] at this
        exact this)
      rw [ends.1, ends.2.1] at hgf
      exact hgf
  unfold wX0_findWays
  refine w_fill20 (-1) f4 _ ?_
  intro tA htA
  refine w_fill20 (-1) f5 _ ?_
  intro tB htB
  refine w_fill20 (-1) f6 _ ?_
  intro tC htC
  intro v45 h45
  refine w0_link (by omega) (by omega) f7 f8 _ _ _ _ _ ?_
  dsimp only
  refine w0_link (by omega) (by omega) _ _ _ _ _ _ _ ?_
  dsimp only
  have hrun : yDw (yGm n fl) ρ a b c 0 (fun _ => 3) (fun _ i => if i = 0 then a else if i = 1 then c else b) (fun _ => 0) (fun _ => 0) tA tB tC :=
    ⟨⟨rfl, rfl, rfl, rfl, fun t ht => by omega⟩, fun τ hτ => by omega⟩
  have hcr0 : yCr 3 (fun i => if i = 0 then a else if i = 1 then c else b) v45 (upd (upd f7 b (Int32.ofNat c)) c (Int32.ofNat a)) (upd (upd f8 c (Int32.ofNat b)) a (Int32.ofNat c)) := by
    refine ⟨?_, ?_, ?_⟩
    · intro x hx
      rw [h45, yM_or, yM_or, Bool.or_eq_true, Bool.or_eq_true, yM_shl (by omega) x hx, yM_shl (by omega) x hx, yM_shl (by omega) x hx, decide_eq_true_iff, decide_eq_true_iff, decide_eq_true_iff]
      constructor
      · rintro ((e | e) | e)
        · exact ⟨0, by omega, by simp; exact e⟩
        · exact ⟨2, by omega, by simp; exact e⟩
        · exact ⟨1, by omega, by simp; exact e⟩
      · rintro ⟨i, hi, e⟩
        rcases (by omega : i = 0 ∨ i = 1 ∨ i = 2) with q | q | q <;> subst q <;> simp at e
        · exact Or.inl (Or.inl e)
        · exact Or.inr e
        · exact Or.inl (Or.inr e)
    · intro i h1 h2
      rcases (by omega : i = 1 ∨ i = 2) with q | q <;> subst q <;> simp
      · rw [yupd_same]
      · rw [yupd_ne _ _ _ _ (by omega), yupd_same]
    · intro i h1
      rcases (by omega : i = 0 ∨ i = 1) with q | q <;> subst q <;> simp
      · rw [yupd_same]
      · rw [yupd_ne _ _ _ _ (by omega), yupd_same]
  have hst := step 0 (fun _ => 3) _ (fun _ => 0) (fun _ => 0) v45 tA tB tC _ _ hrun hcr0 (htA a (by omega)) (htA b (by omega)) (htB a (by omega)) (htB b (by omega)) (htC c (by omega)) 1
    ⟨by omega, by omega, fun i a1 a2 a3 a4 => by omega⟩ (fun i hf => by
      have h1 := hf.1; have h2 := hf.2.1
      have : i = 1 := by omega
      rw [this]; exact Nat.le_refl _) (fun u77 => (∃ n82, wLX0_findWays_82 (Int32.ofNat a) (Int32.ofNat b) (Int32.ofNat c) o (Int32.ofNat n) fl K  n82 (u77.2.2.1) (u77.2.2.2.2.1) (u77.2.2.2.2.2) (u77.2.1) (u77.2.2.2.1) (u77.1) 3)) (by
      intro s1 rm1 kk1 pp1 rim' tA' tB' tC' rA' rB' hD1 hcr1 b1 b2 b3 b4 b5
      exact ⟨_, h82 (n-(0+1+2)) (0+1) s1 rm1 kk1 pp1 rim' tA' tB' tC' rA' rB' rfl (by omega) (by omega) hD1 hcr1 b1 b2 b3 b4 b5⟩)
  exact hst
end



-- a way as a row of nodes in an array
def yPw (way : Nat → Int32) (L : Nat) (x : Nat → Nat) : Prop := (∀ i, i ≤ L → x i < 20) ∧ (∀ i, i < L → x i ≠ x L ∧ way (x i) = Int32.ofNat (x (i+1)))
-- the edges of two ways, and one edge more
def yW2 (L : Nat) (x : Nat → Nat) (M : Nat) (z : Nat → Nat) (p q : Nat) (a b : Nat) : Prop :=
  ((∃ i, i < L ∧ ((a = x i ∧ b = x (i+1)) ∨ (a = x (i+1) ∧ b = x i))) ∨ (∃ i, i < M ∧ ((a = z i ∧ b = z (i+1)) ∨ (a = z (i+1) ∧ b = z i)))) ∨ (a = p ∧ b = q) ∨ (a = q ∧ b = p)

theorem yWa_congr {wall wall' : Nat → Nat → Prop} {w : Nat → Int32} (h : yWa wall w) (he : ∀ x y, wall x y ↔ wall' x y) : yWa wall' w := by
  intro x y hx hy
  obtain ⟨a, b⟩ := h x y hx hy
  exact ⟨a, b.trans (he x y)⟩

section
variable {n F : Nat} {g : Nat → Nat → Bool} {fo ρ : Nat → Nat → Nat}

theorem w9_between (h : yTg n g F fo ρ) {fa fb : Nat → Int32} (ha : yTa g F fo ρ fa fb) {of : Nat} (hof : of < F) {way up : Nat → Int32} {L M v cn c2 : Nat} {x z : Nat → Nat} (hx : yPw way L x) (hz : yPw up M z)
    (x0 : x 0 = v) (xL : x L = cn) (z0 : z 0 = v) (zM : z M = c2)
    (i0 i1 i2 i3 i4 i5 i7 i8 i9 i10 i11 i12 i13 i14 i17 : Int32) (f18 f19 : Nat → Int32) (K : Int32 → ((Nat → Int32) × (Nat → Int32)) → Prop)
    (hK : ∀ w' o', K (Int32.ofNat (yNb F (fun f => yD (¬ yRea g fo (yW2 L x M z cn c2) of f)))) (w', o')) :
    wX9_between i0 i1 i2 i3 i4 i5 (Int32.ofNat F) i7 i8 i9 i10 i11 i12 i13 i14 (Int32.ofNat c2) (Int32.ofNat of) i17 f18 f19 fa up way (Int32.ofNat v) (Int32.ofNat cn) K := by
  have hF40 : F ≤ 40 := by have := h.2.1; have : F + 4 = 2 * n := h.2.2.2.2.2.2.2.2; omega
  have h0eq : (0 : Int32) = Int32.ofNat 0 := rfl
  have hcn : cn < 20 := by rw [← xL]; exact hx.1 L (Nat.le_refl _)
  have hc2 : c2 < 20 := by rw [← zM]; exact hz.1 M (Nat.le_refl _)
  -- which faces are out at first
  have h102 : ∀ w, yWa (yW2 L x M z cn c2) w → ∀ d f o, F - f = d → f ≤ F → (∀ f', f' < f → o f' = if f' = of then 1 else 0) →
      wLX9_between_102 i0 i1 i2 i3 i4 i5 (Int32.ofNat F) i7 i8 i9 i10 i11 i12 i13 i14 (Int32.ofNat c2) (Int32.ofNat of) i17 fa w K (d+1) o (Int32.ofNat f) := by
    intro w hw d
    induction d with
    | zero =>
      intro f o hd hf ho
      have : f = F := by omega
      subst this
      unfold wLX9_between_102
      refine ⟨fun _ => ⟨f + 2, ?_⟩, fun hh => ?_⟩
      · refine w9_btw141 h ha hw hof _ _ _ _ _ _ _ _ _ _ _ _ _ _ _ _ _ K hK f o (yNb_le f _) ?_ ?_ ?_
        · intro f' hf'
          rw [ho f' hf']
          by_cases q : f' = of
          · rw [if_pos q]; exact Or.inr rfl
          · rw [if_neg q]; exact Or.inl rfl
        · intro f' hf' h1
          rw [ho f' hf'] at h1
          by_cases q : f' = of
          · rw [q]; intro V hV _; exact hV
          · rw [if_neg q] at h1; exact absurd h1 (by decide)
        · rw [ho of hof, if_pos rfl]
      · exfalso; apply hh; rw [yn_le (by omega) (by omega)]; omega
    | succ d ih =>
      intro f o hd hf ho
      have e1 : Int32.ofNat f + 1 = Int32.ofNat (f+1) := yn_add f 1
      unfold wLX9_between_102
      rw [e1, yn_nat (by omega), ynar0, ynar1]
      refine ⟨fun hh => ?_, fun _ => ⟨fun hne => ⟨yn_in (by omega) (by omega), fun o' ho' => ih (f+1) o' (by omega) (by omega) ?_⟩, fun he => ⟨yn_in (by omega) (by omega), fun o' ho' => ih (f+1) o' (by omega) (by omega) ?_⟩⟩⟩
      · exfalso; rw [yn_le (by omega) (by omega)] at hh; omega
      · intro f' hf'
        rw [ho']
        by_cases q : f' = f
        · rw [q, yupd_same, if_neg]
          intro e; exact hne (by rw [e])
        · rw [yupd_ne _ _ _ _ q]; exact ho f' (by omega)
      · have he' : f = of := (yn_inj (by omega) (by omega)).1 he
        intro f' hf'
        rw [ho']
        by_cases q : f' = f
        · rw [q, yupd_same, if_pos he']
        · rw [yupd_ne _ _ _ _ q]; exact ho f' (by omega)
  -- the second way
  have h56 : ∀ d i w, M - i = d → i ≤ M → yWa (fun a b => (∃ i, i < L ∧ ((a = x i ∧ b = x (i+1)) ∨ (a = x (i+1) ∧ b = x i))) ∨ (∃ i', i' < i ∧ ((a = z i' ∧ b = z (i'+1)) ∨ (a = z (i'+1) ∧ b = z i')))) w →
      wLX9_between_56 i0 i1 i2 i3 i4 i5 (Int32.ofNat F) i7 i8 i9 i10 i11 i12 i13 i14 (Int32.ofNat c2) (Int32.ofNat of) i17 f19 fa up (Int32.ofNat cn) K (d+1) w (Int32.ofNat (z i)) := by
    intro d
    induction d with
    | zero =>
      intro i w hd hi hw
      have : i = M := by omega
      subst this
      unfold wLX9_between_56
      rw [zM]
      refine ⟨fun _ => ?_, fun hh => absurd rfl hh⟩
      refine w9_wall hw hcn hc2 _ ?_ _ _ _ _ _ _ _ _ _ _ _ _ _ _ _ _ _ _
      intro w' hw'
      rw [h0eq]
      exact ⟨F - 0 + 1, h102 w' hw' (F-0) 0 f19 rfl (by omega) (fun f' hf' => by omega)⟩
    | succ d ih =>
      intro i w hd hi hw
      obtain ⟨q1, q2⟩ := hz.2 i (by omega)
      have b1 := hz.1 i hi; have b2 := hz.1 (i+1) (by omega)
      unfold wLX9_between_56
      rw [yn_nat (by omega), q2]
      refine ⟨fun hh => ?_, fun _ => ⟨yn_in (by omega) (by omega), ?_⟩⟩
      · exfalso
        rw [yn_inj (by omega) (by omega), ← zM] at hh; exact q1 hh
      · refine w9_wall hw b1 b2 _ ?_ _ _ _ _ _ _ _ _ _ _ _ _ _ _ _ _ _ _
        intro w' hw'
        refine ⟨yn_in (by omega) (by omega), fun v85 h85 => ?_⟩
        rw [h85]
        refine ih (i+1) w' (by omega) (by omega) (yWa_congr hw' ?_)
        intro a b
        constructor
        · rintro ((q | ⟨i', hi', q⟩) | q | q)
          · exact Or.inl q
          · exact Or.inr ⟨i', by omega, q⟩
          · exact Or.inr ⟨i, by omega, Or.inl q⟩
          · exact Or.inr ⟨i, by omega, Or.inr q⟩
        · rintro (q | ⟨i', hi', q⟩)
          · exact Or.inl (Or.inl q)
          · by_cases e : i' = i
            · subst e
              rcases q with q | q
              · exact Or.inr (Or.inl q)
              · exact Or.inr (Or.inr q)
            · exact Or.inl (Or.inr ⟨i', by omega, q⟩)
  -- the first way
  have h28 : ∀ d i w, L - i = d → i ≤ L → yWa (fun a b => ∃ i', i' < i ∧ ((a = x i' ∧ b = x (i'+1)) ∨ (a = x (i'+1) ∧ b = x i'))) w →
      wLX9_between_28 i0 i1 i2 i3 i4 i5 (Int32.ofNat F) i7 i8 i9 i10 i11 i12 i13 i14 (Int32.ofNat c2) (Int32.ofNat of) i17 f19 fa up way (Int32.ofNat v) (Int32.ofNat cn) K (d+1) w (Int32.ofNat (x i)) := by
    intro d
    induction d with
    | zero =>
      intro i w hd hi hw
      have : i = L := by omega
      subst this
      unfold wLX9_between_28
      rw [xL]
      refine ⟨fun _ => ?_, fun hh => absurd rfl hh⟩
      have := h56 (M-0) 0 w rfl (by omega) (yWa_congr hw (by
        intro a b
        constructor
        · exact Or.inl
        · rintro (q | ⟨i', hi', _⟩)
          · exact q
          · omega))
      rw [z0] at this
      exact ⟨_, this⟩
    | succ d ih =>
      intro i w hd hi hw
      obtain ⟨q1, q2⟩ := hx.2 i (by omega)
      have b1 := hx.1 i hi; have b2 := hx.1 (i+1) (by omega)
      unfold wLX9_between_28
      rw [yn_nat (by omega), q2]
      refine ⟨fun hh => ?_, fun _ => ⟨yn_in (by omega) (by omega), ?_⟩⟩
      · exfalso
        rw [yn_inj (by omega) (by omega), ← xL] at hh; exact q1 hh
      · refine w9_wall hw b1 b2 _ ?_ _ _ _ _ _ _ _ _ _ _ _ _ _ _ _ _ _ _
        intro w' hw'
        refine ⟨yn_in (by omega) (by omega), fun v48 h48 => ?_⟩
        rw [h48]
        refine ih (i+1) w' (by omega) (by omega) (yWa_congr hw' ?_)
        intro a b
        constructor
        · rintro (⟨i', hi', q⟩ | q | q)
          · exact ⟨i', by omega, q⟩
          · exact ⟨i, by omega, Or.inl q⟩
          · exact ⟨i, by omega, Or.inr q⟩
        · rintro ⟨i', hi', q⟩
          by_cases e : i' = i
          · subst e
            rcases q with q | q
            · exact Or.inr (Or.inl q)
            · exact Or.inr (Or.inr q)
          · exact Or.inl ⟨i', by omega, q⟩
  have h3 : ∀ d i w, 441 - i = d → i ≤ 441 → (∀ j, j < i → w j = 0) →
      wLX9_between_3 i0 i1 i2 i3 i4 i5 (Int32.ofNat F) i7 i8 i9 i10 i11 i12 i13 i14 (Int32.ofNat c2) (Int32.ofNat of) i17 f19 fa up way (Int32.ofNat v) (Int32.ofNat cn) K (d+1) w (Int32.ofNat i) := by
    have e441 : (441 : Int32) = Int32.ofNat 441 := rfl
    intro d
    induction d with
    | zero =>
      intro i w hd hi hw
      unfold wLX9_between_3
      refine ⟨fun _ => ?_, fun hh => ?_⟩
      · have := h28 (L-0) 0 w rfl (by omega) (by
          intro p q hp hq
          rw [hw _ (by omega)]
          refine ⟨Or.inl rfl, fun hh => absurd hh (by decide), ?_⟩
          rintro ⟨i', hi', _⟩; omega)
        rw [x0] at this
        exact ⟨_, this⟩
      · exfalso; apply hh; rw [e441, yn_le (by omega) (by omega)]; omega
    | succ d ih =>
      intro i w hd hi hw
      have e1 : Int32.ofNat i + 1 = Int32.ofNat (i+1) := yn_add i 1
      unfold wLX9_between_3
      rw [e1, yn_nat (by omega), ynar0]
      refine ⟨fun hh => ?_, fun _ => ⟨yn_in (by omega) (by omega), fun w' hw' => ih (i+1) w' (by omega) (by omega) ?_⟩⟩
      · exfalso; rw [e441, yn_le (by omega) (by omega)] at hh; omega
      · intro j hj
        rw [hw']
        by_cases q : j = i
        · rw [q, yupd_same]
        · rw [yupd_ne _ _ _ _ q]; exact hw j (by omega)
  unfold wX9_between
  rw [h0eq]
  exact ⟨441 - 0 + 1, h3 (441-0) 0 f18 rfl (by omega) (fun j hj => by omega)⟩

theorem w9_between_1 (h : yTg n g F fo ρ) {fa fb : Nat → Int32} (ha : yTa g F fo ρ fa fb) {of : Nat} (hof : of < F) {way up : Nat → Int32} {L M v cn c2 : Nat} {x z : Nat → Nat} (hx : yPw way L x) (hz : yPw up M z)
    (x0 : x 0 = v) (xL : x L = cn) (z0 : z 0 = v) (zM : z M = c2)
    (i0 i1 i2 i3 i4 i5 i7 i8 i9 i10 i11 i12 i13 i14 i17 : Int32) (f18 f19 : Nat → Int32) (K : Int32 → ((Nat → Int32) × (Nat → Int32)) → Prop)
    (hK : ∀ w' o', K (Int32.ofNat (yNb F (fun f => yD (¬ yRea g fo (yW2 L x M z cn c2) of f)))) (w', o')) :
    wX9_between_1 i0 i1 i2 i3 i4 i5 (Int32.ofNat F) i7 i8 i9 i10 i11 i12 i13 i14 (Int32.ofNat c2) (Int32.ofNat of) i17 f18 f19 fa up way (Int32.ofNat v) (Int32.ofNat cn) K := by
  have hF40 : F ≤ 40 := by have := h.2.1; have : F + 4 = 2 * n := h.2.2.2.2.2.2.2.2; omega
  have h0eq : (0 : Int32) = Int32.ofNat 0 := rfl
  have hcn : cn < 20 := by rw [← xL]; exact hx.1 L (Nat.le_refl _)
  have hc2 : c2 < 20 := by rw [← zM]; exact hz.1 M (Nat.le_refl _)
  -- which faces are out at first
  have h102 : ∀ w, yWa (yW2 L x M z cn c2) w → ∀ d f o, F - f = d → f ≤ F → (∀ f', f' < f → o f' = if f' = of then 1 else 0) →
      wLX9_between_1_102 i0 i1 i2 i3 i4 i5 (Int32.ofNat F) i7 i8 i9 i10 i11 i12 i13 i14 (Int32.ofNat c2) (Int32.ofNat of) i17 fa w K (d+1) o (Int32.ofNat f) := by
    intro w hw d
    induction d with
    | zero =>
      intro f o hd hf ho
      have : f = F := by omega
      subst this
      unfold wLX9_between_1_102
      refine ⟨fun _ => ⟨f + 2, ?_⟩, fun hh => ?_⟩
      · refine w9_btw141_1 h ha hw hof _ _ _ _ _ _ _ _ _ _ _ _ _ _ _ _ _ K hK f o (yNb_le f _) ?_ ?_ ?_
        · intro f' hf'
          rw [ho f' hf']
          by_cases q : f' = of
          · rw [if_pos q]; exact Or.inr rfl
          · rw [if_neg q]; exact Or.inl rfl
        · intro f' hf' h1
          rw [ho f' hf'] at h1
          by_cases q : f' = of
          · rw [q]; intro V hV _; exact hV
          · rw [if_neg q] at h1; exact absurd h1 (by decide)
        · rw [ho of hof, if_pos rfl]
      · exfalso; apply hh; rw [yn_le (by omega) (by omega)]; omega
    | succ d ih =>
      intro f o hd hf ho
      have e1 : Int32.ofNat f + 1 = Int32.ofNat (f+1) := yn_add f 1
      unfold wLX9_between_1_102
      rw [e1, yn_nat (by omega), ynar0, ynar1]
      refine ⟨fun hh => ?_, fun _ => ⟨fun hne => ⟨yn_in (by omega) (by omega), fun o' ho' => ih (f+1) o' (by omega) (by omega) ?_⟩, fun he => ⟨yn_in (by omega) (by omega), fun o' ho' => ih (f+1) o' (by omega) (by omega) ?_⟩⟩⟩
      · exfalso; rw [yn_le (by omega) (by omega)] at hh; omega
      · intro f' hf'
        rw [ho']
        by_cases q : f' = f
        · rw [q, yupd_same, if_neg]
          intro e; exact hne (by rw [e])
        · rw [yupd_ne _ _ _ _ q]; exact ho f' (by omega)
      · have he' : f = of := (yn_inj (by omega) (by omega)).1 he
        intro f' hf'
        rw [ho']
        by_cases q : f' = f
        · rw [q, yupd_same, if_pos he']
        · rw [yupd_ne _ _ _ _ q]; exact ho f' (by omega)
  -- the second way
  have h56 : ∀ d i w, M - i = d → i ≤ M → yWa (fun a b => (∃ i, i < L ∧ ((a = x i ∧ b = x (i+1)) ∨ (a = x (i+1) ∧ b = x i))) ∨ (∃ i', i' < i ∧ ((a = z i' ∧ b = z (i'+1)) ∨ (a = z (i'+1) ∧ b = z i')))) w →
      wLX9_between_1_56 i0 i1 i2 i3 i4 i5 (Int32.ofNat F) i7 i8 i9 i10 i11 i12 i13 i14 (Int32.ofNat c2) (Int32.ofNat of) i17 f19 fa up (Int32.ofNat cn) K (d+1) w (Int32.ofNat (z i)) := by
    intro d
    induction d with
    | zero =>
      intro i w hd hi hw
      have : i = M := by omega
      subst this
      unfold wLX9_between_1_56
      rw [zM]
      refine ⟨fun _ => ?_, fun hh => absurd rfl hh⟩
      refine w9_wall hw hcn hc2 _ ?_ _ _ _ _ _ _ _ _ _ _ _ _ _ _ _ _ _ _
      intro w' hw'
      rw [h0eq]
      exact ⟨F - 0 + 1, h102 w' hw' (F-0) 0 f19 rfl (by omega) (fun f' hf' => by omega)⟩
    | succ d ih =>
      intro i w hd hi hw
      obtain ⟨q1, q2⟩ := hz.2 i (by omega)
      have b1 := hz.1 i hi; have b2 := hz.1 (i+1) (by omega)
      unfold wLX9_between_1_56
      rw [yn_nat (by omega), q2]
      refine ⟨fun hh => ?_, fun _ => ⟨yn_in (by omega) (by omega), ?_⟩⟩
      · exfalso
        rw [yn_inj (by omega) (by omega), ← zM] at hh; exact q1 hh
      · refine w9_wall hw b1 b2 _ ?_ _ _ _ _ _ _ _ _ _ _ _ _ _ _ _ _ _ _
        intro w' hw'
        refine ⟨yn_in (by omega) (by omega), fun v85 h85 => ?_⟩
        rw [h85]
        refine ih (i+1) w' (by omega) (by omega) (yWa_congr hw' ?_)
        intro a b
        constructor
        · rintro ((q | ⟨i', hi', q⟩) | q | q)
          · exact Or.inl q
          · exact Or.inr ⟨i', by omega, q⟩
          · exact Or.inr ⟨i, by omega, Or.inl q⟩
          · exact Or.inr ⟨i, by omega, Or.inr q⟩
        · rintro (q | ⟨i', hi', q⟩)
          · exact Or.inl (Or.inl q)
          · by_cases e : i' = i
            · subst e
              rcases q with q | q
              · exact Or.inr (Or.inl q)
              · exact Or.inr (Or.inr q)
            · exact Or.inl (Or.inr ⟨i', by omega, q⟩)
  -- the first way
  have h28 : ∀ d i w, L - i = d → i ≤ L → yWa (fun a b => ∃ i', i' < i ∧ ((a = x i' ∧ b = x (i'+1)) ∨ (a = x (i'+1) ∧ b = x i'))) w →
      wLX9_between_1_28 i0 i1 i2 i3 i4 i5 (Int32.ofNat F) i7 i8 i9 i10 i11 i12 i13 i14 (Int32.ofNat c2) (Int32.ofNat of) i17 f19 fa up way (Int32.ofNat v) (Int32.ofNat cn) K (d+1) w (Int32.ofNat (x i)) := by
    intro d
    induction d with
    | zero =>
      intro i w hd hi hw
      have : i = L := by omega
      subst this
      unfold wLX9_between_1_28
      rw [xL]
      refine ⟨fun _ => ?_, fun hh => absurd rfl hh⟩
      have := h56 (M-0) 0 w rfl (by omega) (yWa_congr hw (by
        intro a b
        constructor
        · exact Or.inl
        · rintro (q | ⟨i', hi', _⟩)
          · exact q
          · omega))
      rw [z0] at this
      exact ⟨_, this⟩
    | succ d ih =>
      intro i w hd hi hw
      obtain ⟨q1, q2⟩ := hx.2 i (by omega)
      have b1 := hx.1 i hi; have b2 := hx.1 (i+1) (by omega)
      unfold wLX9_between_1_28
      rw [yn_nat (by omega), q2]
      refine ⟨fun hh => ?_, fun _ => ⟨yn_in (by omega) (by omega), ?_⟩⟩
      · exfalso
        rw [yn_inj (by omega) (by omega), ← xL] at hh; exact q1 hh
      · refine w9_wall hw b1 b2 _ ?_ _ _ _ _ _ _ _ _ _ _ _ _ _ _ _ _ _ _
        intro w' hw'
        refine ⟨yn_in (by omega) (by omega), fun v48 h48 => ?_⟩
        rw [h48]
        refine ih (i+1) w' (by omega) (by omega) (yWa_congr hw' ?_)
        intro a b
        constructor
        · rintro (⟨i', hi', q⟩ | q | q)
          · exact ⟨i', by omega, q⟩
          · exact ⟨i, by omega, Or.inl q⟩
          · exact ⟨i, by omega, Or.inr q⟩
        · rintro ⟨i', hi', q⟩
          by_cases e : i' = i
          · subst e
            rcases q with q | q
            · exact Or.inr (Or.inl q)
            · exact Or.inr (Or.inr q)
          · exact Or.inl ⟨i', by omega, q⟩
  have h3 : ∀ d i w, 441 - i = d → i ≤ 441 → (∀ j, j < i → w j = 0) →
      wLX9_between_1_3 i0 i1 i2 i3 i4 i5 (Int32.ofNat F) i7 i8 i9 i10 i11 i12 i13 i14 (Int32.ofNat c2) (Int32.ofNat of) i17 f19 fa up way (Int32.ofNat v) (Int32.ofNat cn) K (d+1) w (Int32.ofNat i) := by
    have e441 : (441 : Int32) = Int32.ofNat 441 := rfl
    intro d
    induction d with
    | zero =>
      intro i w hd hi hw
      unfold wLX9_between_1_3
      refine ⟨fun _ => ?_, fun hh => ?_⟩
      · have := h28 (L-0) 0 w rfl (by omega) (by
          intro p q hp hq
          rw [hw _ (by omega)]
          refine ⟨Or.inl rfl, fun hh => absurd hh (by decide), ?_⟩
          rintro ⟨i', hi', _⟩; omega)
        rw [x0] at this
        exact ⟨_, this⟩
      · exfalso; apply hh; rw [e441, yn_le (by omega) (by omega)]; omega
    | succ d ih =>
      intro i w hd hi hw
      have e1 : Int32.ofNat i + 1 = Int32.ofNat (i+1) := yn_add i 1
      unfold wLX9_between_1_3
      rw [e1, yn_nat (by omega), ynar0]
      refine ⟨fun hh => ?_, fun _ => ⟨yn_in (by omega) (by omega), fun w' hw' => ih (i+1) w' (by omega) (by omega) ?_⟩⟩
      · exfalso; rw [e441, yn_le (by omega) (by omega)] at hh; omega
      · intro j hj
        rw [hw']
        by_cases q : j = i
        · rw [q, yupd_same]
        · rw [yupd_ne _ _ _ _ q]; exact hw j (by omega)
  unfold wX9_between_1
  rw [h0eq]
  exact ⟨441 - 0 + 1, h3 (441-0) 0 f18 rfl (by omega) (fun j hj => by omega)⟩

end


-- a node's number of faces between two ways
def yXr (g : Nat → Nat → Bool) (ρ : Nat → Nat → Nat) (a b c v val : Nat) : Prop :=
  ∃ T s rm kk pp ts pos, yRun g ρ a b c T s rm kk pp ∧ s T = 2 ∧ ts < T ∧ v = rm ts (kk ts) ∧ yCur T ts s kk pp pos ∧ val + 1 = 2 * yNb T (fun t => decide (pos t < kk t)) + yNb T (fun t => decide (kk t = pos t))

section
variable {n F : Nat} {g : Nat → Nat → Bool} {fo ρ : Nat → Nat → Nat} {a b c T : Nat} {s : Nat → Nat} {rm : Nat → Nat → Nat} {kk pp : Nat → Nat}

theorem yCur_uniq {T ts : Nat} {s kk pp pos s' kk' pp' pos' : Nat → Nat} (hp : yCur T ts s kk pp pos) (hp' : yCur T ts s' kk' pp' pos') (hk : ∀ t, t < T → kk t = kk' t ∧ pp t = pp' t) : ∀ t, t ≤ T → pos t = pos' t := by
  obtain ⟨a0, a1, a2, a3, a4, a5, a6⟩ := hp
  obtain ⟨b0, b1, b2, b3, b4, b5, b6⟩ := hp'
  have hts : pos ts = pos' ts := by rw [a2, b2]; exact (hk ts a1).1
  have fwd : ∀ d, ts + d ≤ T → pos (ts+d) = pos' (ts+d) := by
    intro d
    induction d with
    | zero => intro _; exact hts
    | succ d ih =>
      intro hd
      have i1 := ih (by omega)
      obtain ⟨k1, k2⟩ := hk (ts+d) (by omega)
      obtain ⟨x1, x2, x3, x4⟩ := a6 (ts+d) (by omega)
      obtain ⟨y1, y2, y3, y4⟩ := b6 (ts+d) (by omega)
      rw [← Nat.add_assoc]
      rcases Nat.lt_trichotomy (pos (ts+d)) (kk (ts+d)) with e | e | e
      · have := x1 e; have := y1 (by omega); omega
      · have := x4 e.symm (by omega); have := y4 (by omega) (by omega); omega
      · have := x2 e; have := y2 (by omega); omega
  have bwd : ∀ d, d ≤ ts → pos (ts-d) = pos' (ts-d) := by
    intro d
    induction d with
    | zero => intro _; exact hts
    | succ d ih =>
      intro hd
      have i1 := ih (by omega)
      obtain ⟨k1, k2⟩ := hk (ts-(d+1)) (by omega)
      obtain ⟨x1, x2, x3, x4⟩ := a6 (ts-(d+1)) (by omega)
      obtain ⟨y1, y2, y3, y4⟩ := b6 (ts-(d+1)) (by omega)
      rw [show ts - (d+1) + 1 = ts - d by omega] at x1 x2 x3 x4 y1 y2 y3 y4
      rcases Nat.lt_trichotomy (pos (ts-(d+1))) (kk (ts-(d+1))) with e | e | e <;> rcases Nat.lt_trichotomy (pos' (ts-(d+1))) (kk' (ts-(d+1))) with e' | e' | e'
      · have := x1 e; have := y1 e'; omega
      · have := x1 e; have := y3 e'.symm (by omega); omega
      · have := x1 e; have := y2 e'; omega
      · have := x3 e.symm (by omega); have := y1 e'; omega
      · omega
      · have := x3 e.symm (by omega); have := y2 e'; omega
      · have := x2 e; have := y1 e'; omega
      · have := x2 e; have := y3 e'.symm (by omega); omega
      · have := x2 e; have := y2 e'; omega
  intro t ht
  rcases Nat.lt_or_ge t ts with e | e
  · have := bwd (ts-t) (by omega)
    rw [show ts - (ts-t) = t by omega] at this; exact this
  · have := fwd (t-ts) (by omega)
    rw [show ts + (t-ts) = t by omega] at this; exact this

theorem yXr_fun (h : yTg n g F fo ρ) (hab : g a b = true) (hc : ρ a b = c) {v x x' : Nat} (h1 : yXr g ρ a b c v x) (h2 : yXr g ρ a b c v x') : x = x' := by
  obtain ⟨T, s, rm, kk, pp, ts, pos, r1, r2, r3, r4, r5, r6⟩ := h1
  obtain ⟨T', s', rm', kk', pp', ts', pos', q1, q2, q3, q4, q5, q6⟩ := h2
  have t1 := (yRun_all h hab hc r1 (Nat.le_refl _) r2).2
  have t2 := (yRun_all h hab hc q1 (Nat.le_refl _) q2).2
  have hT : T = T' := by omega
  subst hT
  have hu := yRun_uniq h hab hc r1 q1
  have hkk : ∀ t, t < T → kk t = kk' t ∧ pp t = pp' t := fun t ht => (hu t (by omega)).2.2 ht
  have hv : ∀ t, t < T → rm t (kk t) = rm' t (kk' t) := by
    intro t ht
    have hS := (r1.2.2.2.2 t ht).1
    rw [← (hkk t ht).1]
    exact (hu t (by omega)).2.1 _ (by have := hS.2.1; omega)
  have hts : ts = ts' := by
    apply yRun_inj h hab hc r1 ts ts' r3 q3
    rw [← r4, q4, hv ts' q3]
  subst hts
  have hpos := yCur_uniq r5 q5 hkk
  have e1 : yNb T (fun t => decide (pos t < kk t)) = yNb T (fun t => decide (pos' t < kk' t)) := by
    apply yNb_congr; intro t ht; rw [hpos t (by omega), (hkk t ht).1]
  have e2 : yNb T (fun t => decide (kk t = pos t)) = yNb T (fun t => decide (kk' t = pos' t)) := by
    apply yNb_congr; intro t ht; rw [hpos t (by omega), (hkk t ht).1]
  omega

theorem yDw_mir (h : yTg n g F fo ρ) (hab : g a b = true) (hc : ρ a b = c) {lf rt up : Nat → Int32} (hD : yDw g ρ a b c T s rm kk pp lf rt up) :
    yDw g (fun x y => ρ y x) b a c T s (fun t i => rm t (s t - 1 - i)) (fun t => s t - 1 - kk t) pp rt lf up := by
  refine ⟨yRun_mir h hab hc hD.1, ?_⟩
  intro τ hτ
  obtain ⟨w1, w2, w3⟩ := hD.2 τ hτ
  obtain ⟨hk1, hk2, hp, _⟩ := (hD.1.2.2.2.2 τ hτ).1
  show rt (rm τ (s τ - 1 - (s τ - 1 - kk τ))) = Int32.ofNat (rm τ (s τ - 1 - (s τ - 1 - kk τ - 1))) ∧ lf (rm τ (s τ - 1 - (s τ - 1 - kk τ))) = Int32.ofNat (rm τ (s τ - 1 - (s τ - 1 - kk τ + 1))) ∧
    ∀ j, s τ - 1 - kk τ ≤ j → j < s τ - 1 - kk τ + pp τ → up (rm (τ+1) (s (τ+1) - 1 - j)) = Int32.ofNat (rm τ (s τ - 1 - (s τ - 1 - kk τ)))
  rw [show s τ - 1 - (s τ - 1 - kk τ) = kk τ by omega, show s τ - 1 - (s τ - 1 - kk τ - 1) = kk τ + 1 by omega, show s τ - 1 - (s τ - 1 - kk τ + 1) = kk τ - 1 by omega]
  refine ⟨w2, w1, fun j h1 h2 => w3 _ (by omega) (by omega)⟩

-- the ways of a node, and what the reference counts
theorem yDw_val (h : yTg n g F fo ρ) (hab : g a b = true) (hc : ρ a b = c) {lf rt up : Nat → Int32} (hD : yDw g ρ a b c T s rm kk pp lf rt up) (hT : s T = 2) {v : Nat} (hv : v < n) (hva : v ≠ a) (hvb : v ≠ b) :
    ∃ val pos L x M z, yXr g ρ a b c v val ∧ val + 1 = 2 * yNb T (fun t => decide (pos t < kk t)) + yNb T (fun t => decide (kk t = pos t)) ∧ (∃ ts, yCur T ts s kk pp pos) ∧ yPw rt L x ∧ x 0 = v ∧ x L = b ∧ yPw up M z ∧ z 0 = v ∧ z M = c ∧
      yNb F (fun f => yD (¬ yRea g fo (yW2 L x M z b c) (fo a b) f)) = val ∧ L + M = yNb T (fun t => decide (kk t = pos t)) ∧ L ≤ 18 ∧ M ≤ 18 ∧
      (∀ f : Nat → Nat, yS (L+1) (fun i => f (x i)) + yS (M+1) (fun i => f (z i)) = f v + (yS T (fun τ => if kk τ = pos τ then f (rm τ (kk τ)) else 0) + f b)) := by
  obtain ⟨hr, hw⟩ := hD
  have hn := h.2.1
  have hTn := yRun_all h hab hc hr (Nat.le_refl T) hT
  have heT := yRun_ends hr T (Nat.le_refl _)
  rw [hT] at heT
  have hb1 : rm T 1 = b := heT.2.1
  obtain ⟨ts, hts, hvt⟩ : ∃ ts, ts < T ∧ v = rm ts (kk ts) := by
    rcases hTn.1 v hv with e | e | e
    · exact e
    · rw [heT.1] at e; exact absurd e hva
    · rw [hb1] at e; exact absurd e hvb
  obtain ⟨pos, hp⟩ := yCur_ex hr hT hts
  have hgo : ∀ τ σ j, τ < σ → σ ≤ T → j < s σ → rm σ j ≠ rm τ (kk τ) := by
    intro τ σ j hτ hσ hj hh
    exact ((yRun_rim h hab hc hr σ hσ).2.1 j hj).2 ⟨τ, hτ, hh⟩
  have hlt : ∀ t i, t ≤ T → i < s t → rm t i < 20 := by
    intro t i ht hi
    have := ((yRun_rim h hab hc hr t ht).2.1 i hi).1; omega
  have hks : ∀ t, t < T → 1 ≤ kk t ∧ kk t + 2 ≤ s t := fun t ht => by
    have := (hr.2.2.2.2 t ht).1
    exact ⟨this.1, this.2.1⟩
  have hvb' : ∀ t, t < T → rm t (kk t) ≠ b := by
    intro t ht hh
    have e := yRun_ends hr t (by omega)
    rw [← e.2.1] at hh
    have := hks t ht
    have := (yRun_rim h hab hc hr t (by omega)).2.2.1 _ _ (by omega) (by omega) hh
    omega
  obtain ⟨L, x, x0, xL, xs, xc, hL, hxs⟩ := yCur_right hr hp (T-ts) ts rfl (Nat.le_refl _) (by omega)
  obtain ⟨M, z, z0, zM, zs, zc, hM, hzs⟩ := yCur_up hr hp ts (Nat.le_refl _)
  have hpts := hp.2.2.1
  rw [hpts, ← hvt] at x0 z0
  have hv0 : rm 0 (kk 0) = c := by
    have := hks 0 (by omega); have := hr.1
    rw [show kk 0 = 1 by omega]; exact hr.2.2.1
  have hval : ∃ val, val + 1 = 2 * yNb T (fun t => decide (pos t < kk t)) + yNb T (fun t => decide (kk t = pos t)) := by
    have := yNb_pos1 (m := T) (p := fun t => decide (kk t = pos t)) hts (decide_eq_true hpts.symm)
    exact ⟨2 * yNb T (fun t => decide (pos t < kk t)) + yNb T (fun t => decide (kk t = pos t)) - 1, by omega⟩
  obtain ⟨val, hval⟩ := hval
  have hwl : yWl b c T ts rm kk pos (yW2 L x M z b c) := by
    intro p q
    unfold yW2
    constructor
    · rintro ((⟨i, hi, e⟩ | ⟨i, hi, e⟩) | e)
      · obtain ⟨τ, a1, a2, a3, a4, a5⟩ := xs i hi
        left
        refine ⟨τ, a2, a3, a1, ?_⟩
        rw [a4, a5] at e
        rcases e with e | e
        · exact Or.inl e
        · exact Or.inr ⟨e.2, e.1⟩
      · obtain ⟨τ, a1, a2, a3, a4⟩ := zs i hi
        right; left
        refine ⟨τ, a1, a2, ?_⟩
        rw [a3, a4] at e
        rcases e with e | e
        · exact Or.inl e
        · exact Or.inr ⟨e.2, e.1⟩
      · exact Or.inr (Or.inr e)
    · rintro (⟨t, a1, a2, a3, e⟩ | ⟨t, a1, a2, e⟩ | e)
      · obtain ⟨i, hi, q1, q2⟩ := xc t a3 a1 a2
        left; left
        refine ⟨i, hi, ?_⟩
        rw [q1, q2]
        rcases e with e | e
        · exact Or.inl e
        · exact Or.inr ⟨e.2, e.1⟩
      · obtain ⟨i, hi, q1, q2⟩ := zc t a1 a2
        left; right
        refine ⟨i, hi, ?_⟩
        rw [q1, q2]
        rcases e with e | e
        · exact Or.inl e
        · exact Or.inr ⟨e.2, e.1⟩
      · exact Or.inr e
  have hcount := yReach_count h hab hc hr hT hp hwl (O := yRea g fo (yW2 L x M z b c) (fo a b)) (fun V hV _ => hV) (by
    intro x' y' hxy hO hnw V hV hcl
    exact hcl _ _ (hO V hV hcl) ⟨x', y', hxy, rfl, rfl, hnw⟩) (by
    intro V hV hcl f hO
    refine hO V hV ?_
    rintro f1 f2 hV1 ⟨x', y', hxy, e1, e2, hnw⟩
    rw [← e2]
    exact hcl x' y' hxy (by rw [e1]; exact hV1) hnw)
  have hLM : L + M = yNb T (fun t => decide (kk t = pos t)) := by
    rw [hL, hM]
    have hsplit := yNb_split T (fun t => decide (kk t = pos t)) (fun t => decide (ts ≤ t ∧ kk t = pos t)) (fun t => decide (t < ts ∧ kk t = pos t)) (by
      intro i _
      by_cases q1 : kk i = pos i <;> by_cases q2 : ts ≤ i
      · have : ¬ i < ts := by omega
        simp [q1, q2, this]
      · have : i < ts := by omega
        simp [q1, q2, this]
      · simp [q1]
      · simp [q1])
    rw [hsplit]
    congr 1
    have := yNb_tail (fun t => decide (t < ts ∧ kk t = pos t)) 0 ts (fun j hj => by rw [decide_eq_false_iff_not]; omega) (T-ts)
    rw [show ts + (T-ts) = T by omega] at this
    rw [this]
    apply yNb_congr
    intro i hi
    rw [decide_eq_decide]
    exact ⟨fun q => ⟨hi, q⟩, fun q => q.2⟩
  have hTle : yNb T (fun t => decide (kk t = pos t)) ≤ T := yNb_le _ _
  refine ⟨val, pos, L, x, M, z, ⟨T, s, rm, kk, pp, ts, pos, hr, hT, hts, hvt, hp, hval⟩, hval, ⟨ts, hp⟩, ⟨?_, ?_⟩, x0, xL, ⟨?_, ?_⟩, z0, zM, by omega, hLM, by omega, by omega, ?_⟩
  · intro i hi
    by_cases q : i < L
    · obtain ⟨τ, a1, a2, a3, a4, a5⟩ := xs i q
      rw [a4]; exact hlt τ _ (by omega) (by have := hks τ a2; omega)
    · rw [show i = L by omega, xL]; exact (yTg_gr h hab).2.1
  · intro i hi
    obtain ⟨τ, a1, a2, a3, a4, a5⟩ := xs i hi
    refine ⟨by rw [xL, a4]; exact hvb' τ a2, ?_⟩
    rw [a4, a5]; exact (hw τ a2).2.1
  · intro i hi
    by_cases q : i < M
    · obtain ⟨τ, a1, a2, a3, a4⟩ := zs i q
      rw [a3]; exact hlt (τ+1) _ (by omega) (hp.2.2.2.2.1 (τ+1) (by omega)).2
    · rw [show i = M by omega, zM]
      have t := yTg_th h hab
      rw [hc] at t
      exact (yTg_gr h t.2.2.1).1
  · intro i hi
    obtain ⟨τ, a1, a2, a3, a4⟩ := zs i hi
    refine ⟨?_, ?_⟩
    · rw [zM, a3, ← hv0]
      exact hgo 0 (τ+1) _ (by omega) (by omega) (hp.2.2.2.2.1 (τ+1) (by omega)).2
    · rw [a3, a4]
      have := (hp.2.2.2.2.2.2 τ (by omega)).2.2.1 a2 (by omega)
      exact (hw τ (by omega)).2.2 _ this.1 this.2
  · intro f
    rw [hxs f, hzs f, hpts, ← hvt]
    have hsp : yS T (fun τ => if kk τ = pos τ then f (rm τ (kk τ)) else 0) = yS T (fun τ => if ts ≤ τ ∧ kk τ = pos τ then f (rm τ (kk τ)) else 0) + yS T (fun τ => if τ < ts ∧ kk τ = pos τ then f (rm τ (kk τ)) else 0) := by
      rw [← yS_add]
      apply yS_congr
      intro i _
      by_cases q1 : kk i = pos i <;> by_cases q2 : ts ≤ i
      · have : ¬ i < ts := by omega
        simp [q1, q2, this]
      · have : i < ts := by omega
        simp [q1, q2, this]
      · simp [q1]
      · simp [q1]
    have hsp2 : yS T (fun τ => if τ < ts ∧ kk τ = pos τ then f (rm τ (kk τ)) else 0) = yS ts (fun τ => if kk τ = pos τ then f (rm τ (kk τ)) else 0) := by
      have := yS_more ts (T-ts) (fun τ => if τ < ts ∧ kk τ = pos τ then f (rm τ (kk τ)) else 0) (fun i hi => by rw [if_neg (by omega)])
      rw [show ts + (T-ts) = T by omega] at this
      rw [this]
      apply yS_congr
      intro i hi
      by_cases q : kk i = pos i
      · rw [if_pos ⟨hi, q⟩, if_pos q]
      · rw [if_neg (fun hh => q hh.2), if_neg q]
    rw [hsp, hsp2]; omega
end


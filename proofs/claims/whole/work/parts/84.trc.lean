
theorem yRw_congr {N : Nat} {rs rs' : Nat → Nat} {rw1 rw2 : Nat → Nat → Nat} {st en : Nat → Int32} (h : yRw N rs rw1 st en) (h1 : ∀ v, v < N → rs v = rs' v) (h2 : ∀ v i, v < N → i < rs v → rw1 v i = rw2 v i) : yRw N rs' rw2 st en := by
  obtain ⟨a1, a2, a3, a4, a5⟩ := h
  have hS : ∀ v, v ≤ N → yS v rs = yS v rs' := fun v hv => by apply yS_congr; intro i hi; exact h1 i (by omega)
  refine ⟨a1, by rw [← hS N (Nat.le_refl _)]; exact a2, fun v hv => by rw [← hS v hv]; exact a3 v hv, fun v i hv hi => ?_, fun v i hv hi => ?_⟩
  · rw [← h1 v hv] at hi
    rw [← hS v (by omega), ← h2 v i hv hi]; exact a4 v i hv hi
  · rw [← h1 v hv] at hi
    rw [← h2 v i hv hi]; exact a5 v i hv hi

-- rounds of ends as an array: -1 for none
def yFq (fo : Nat → Nat) (f : Nat → Int32) : Prop := ∀ e, e < 160 → f e = if fo e = 0 then -1 else Int32.ofNat (fo e - 1)

theorem yn_m1 : ((-1) : Int32) < 0 := by decide
theorem yn_ge {n : Nat} (h : n < 2147483648) : (0 : Int32) ≤ Int32.ofNat n := by
  have : (0 : Int32) = Int32.ofNat 0 := rfl
  rw [this, yn_le (by omega) h]; omega
theorem yn_ge1 : ¬ ((0 : Int32) ≤ -1) := by decide

theorem yFq_put {fo : Nat → Nat} {f : Nat → Int32} (h : yFq fo f) {x r : Nat} : yFq (fun e => if e = x then r + 1 else fo e) (upd f x (Int32.ofNat r)) := by
  intro e he
  by_cases c : e = x
  · rw [c, yupd_same]; simp
  · rw [yupd_ne _ _ _ _ c]; simp only [if_neg c]; exact h e he

-- the class: for each end the one behind it
section
variable {N : Nat} {nd : Nat → Nat} {L : Nat → Bool} {rs : Nat → Nat} {rw' : Nat → Nat → Nat} {st en : Nat → Int32}

theorem w1_findBehind (h : yRw N rs rw' st en) (hE : yEr N nd (fun e => L e = true) rs rw') (f0 : Nat → Int32) (K : (Nat → Int32) → Prop)
    (hK : ∀ b, (∀ e, e < 160 → L e = true → b e = Int32.ofNat (yBt N rs rw' e)) → (∀ e, e < 160 → L e = false → b e = -1) → K b) : wX1_findBehind f0 (Int32.ofNat N) st en K := by
  have hN := h.1
  have hT := h.2.1
  have h27 : ∀ row, row < N → ∀ (B : (Nat → Int32) → Int32 → Prop), (∀ b, (∀ e, e < 160 → L e = true → nd e < row + 1 → b e = Int32.ofNat (yBt N rs rw' e)) → (∀ e, e < 160 → (L e = false ∨ row + 1 ≤ nd e) → b e = -1) → B b (Int32.ofNat (row+1))) →
      ∀ d i b, rs row - i = d → i ≤ rs row → (∀ e, e < 160 → L e = true → (nd e < row ∨ ∃ j, j < i ∧ rw' row j = e) → b e = Int32.ofNat (yBt N rs rw' e)) → (∀ e, e < 160 → (L e = false ∨ row + 1 ≤ nd e ∨ ∃ j, i ≤ j ∧ j < rs row ∧ rw' row j = e) → b e = -1) →
      wLX1_findBehind_27 (Int32.ofNat N) st en (Int32.ofNat row) (Int32.ofNat (rs row)) K B (d+1) b (Int32.ofNat i) := by
    intro row hrow B hB d
    have er : Int32.ofNat row + 1 = Int32.ofNat (row+1) := yn_add row 1
    have hsz := yS_at rs hrow
    induction d with
    | zero =>
      intro i b hd hi q1 q2
      unfold wLX1_findBehind_27
      rw [er]
      refine ⟨fun _ => hB b ?_ ?_, fun hh => ?_⟩
      · intro e he hLe hnd
        apply q1 e he hLe
        by_cases c : nd e < row
        · exact Or.inl c
        · right
          have hnd' : nd e = row := by omega
          obtain ⟨_, _, j, b1, b2⟩ := hE.2.2 e hLe
          rw [hnd'] at b1 b2
          exact ⟨j, by omega, b2⟩
      · intro e he hh
        apply q2 e he
        rcases hh with hh | hh
        · exact Or.inl hh
        · exact Or.inr (Or.inl hh)
      · exfalso; apply hh; rw [yn_le (by omega) (by omega)]; omega
    | succ d ih =>
      intro i b hd hi q1 q2
      have ei : Int32.ofNat i + 1 = Int32.ofNat (i+1) := yn_add i 1
      have hi' : i < rs row := by omega
      have h0 : (0 : Int32) = Int32.ofNat 0 := rfl
      have hlt := h.2.2.2.2 row i hrow hi'
      have step : ∀ nx, nx < rs row → nx = (if i + 1 < rs row then i + 1 else 0) → ∀ g, g = upd b (rw' row i) (Int32.ofNat (rw' row nx)) → wLX1_findBehind_27 (Int32.ofNat N) st en (Int32.ofNat row) (Int32.ofNat (rs row)) K B (d+1) g (Int32.ofNat (i+1)) := by
        intro nx hnx hnx2 g hg
        refine ih (i+1) g (by omega) (by omega) ?_ ?_
        · intro e he hLe hh
          rw [hg]
          by_cases c : e = rw' row i
          · rw [c, yupd_same, yBt_eq hE hrow hi', ← hnx2]
          · rw [yupd_ne _ _ _ _ c]
            apply q1 e he hLe
            rcases hh with hh | ⟨j, b1, b2⟩
            · exact Or.inl hh
            · right
              refine ⟨j, ?_, b2⟩
              have : j ≠ i := fun e' => c (by rw [← b2, e'])
              omega
        · intro e he hh
          have hne : e ≠ rw' row i := by
            intro c
            have hlive := hE.1 row i hrow hi'
            rcases hh with hh | hh | ⟨j, b1, b2, b3⟩
            · rw [c] at hh
              have h1 : L (rw' row i) = true := hlive.1
              rw [h1] at hh; exact absurd hh (by decide)
            · rw [c, hlive.2] at hh; omega
            · have := hE.2.1 row j i hrow b2 hi' (by rw [b3, c]); omega
          rw [hg, yupd_ne _ _ _ _ hne]
          apply q2 e he
          rcases hh with hh | hh | ⟨j, b1, b2, b3⟩
          · exact Or.inl hh
          · exact Or.inr (Or.inl hh)
          · exact Or.inr (Or.inr ⟨j, by omega, b2, b3⟩)
      unfold wLX1_findBehind_27
      rw [ei]
      refine ⟨fun hh => ?_, fun _ => ?_⟩
      · exfalso; rw [yn_le (by omega) (by omega)] at hh; omega
      refine w7_get h hrow hi' _ _ ⟨fun hle => ?_, fun hgt => ?_⟩
      · rw [yn_le (by omega) (by omega)] at hle
        rw [h0]
        refine w7_get h hrow (by omega) _ _ ?_
        rw [yn_nat (by omega)]
        exact ⟨yn_in (by omega) (by omega), step 0 (by omega) (by rw [if_neg (by omega)])⟩
      · rw [yn_le (by omega) (by omega)] at hgt
        refine w7_get h hrow (by omega) _ _ ?_
        rw [yn_nat (by omega)]
        exact ⟨yn_in (by omega) (by omega), step (i+1) (by omega) (by rw [if_pos (by omega)])⟩
  have h10 : ∀ d row b, N - row = d → row ≤ N → (∀ e, e < 160 → L e = true → nd e < row → b e = Int32.ofNat (yBt N rs rw' e)) → (∀ e, e < 160 → (L e = false ∨ row ≤ nd e) → b e = -1) →
      wLX1_findBehind_10 (Int32.ofNat N) st en K (d+1) b (Int32.ofNat row) := by
    intro d
    induction d with
    | zero =>
      intro row b hd hrow q1 q2
      unfold wLX1_findBehind_10
      refine ⟨fun _ => hK b (fun e he hLe => q1 e he hLe ?_) (fun e he hLe => q2 e he (Or.inl hLe)), fun hh => ?_⟩
      · have := (hE.2.2 e hLe).2.1; omega
      · exfalso; apply hh; rw [yn_le (by omega) (by omega)]; omega
    | succ d ih =>
      intro row b hd hrow q1 q2
      unfold wLX1_findBehind_10
      refine ⟨fun hh => ?_, fun _ => w7_size h (by omega) _ _ ⟨_, h27 row (by omega) _ ?_ (rs row - 0) 0 b rfl (by omega) ?_ ?_⟩⟩
      · exfalso; rw [yn_le (by omega) (by omega)] at hh; omega
      · intro b' p1 p2
        exact ih (row+1) b' (by omega) (by omega) p1 p2
      · intro e he hLe hh
        rcases hh with hh | ⟨j, b1, _⟩
        · exact q1 e he hLe hh
        · omega
      · intro e he hh
        apply q2 e he
        rcases hh with hh | hh | ⟨j, b1, b2, b3⟩
        · exact Or.inl hh
        · exact Or.inr (by omega)
        · have := (hE.1 row j (by omega) b2).2
          rw [b3] at this
          exact Or.inr (by omega)
  unfold wX1_findBehind
  refine w_fill160 _ f0 _ (fun f hf => ⟨N - 0 + 1, h10 (N-0) 0 f rfl (by omega) (fun e he hLe hh => by omega) (fun e he _ => hf e he)⟩)
end

-- a walk of the class
section
variable {β : Nat → Nat} {L : Nat → Bool} {b : Nat → Int32}

theorem w1_walk20 (hL : ∀ e, L e = true → e < 160 ∧ L (yPt e) = true ∧ L (β e) = true) (hb : ∀ e, e < 160 → L e = true → b e = Int32.ofNat (β e)) {r : Nat} (u : Int32 × (Nat → Int32)) (K : (Int32 × (Nat → Int32) × (Nat → Int32) × (Nat → Int32)) → Prop) (R : Nat) (hu : u.1 = Int32.ofNat R) :
    ∀ n x s st fo en, n ≤ 160 → yTI s → s.1 = R → r < s.1 → L x = true → (∀ e, s.2.2.2 e ≠ 0 → L e = true) → yRw R s.2.1 s.2.2.1 st en → yFq s.2.2.2 fo →
    (∀ st' fo' en', yRw R (yWk β r n x s).2.1 (yWk β r n x s).2.2.1 st' en' → yFq (yWk β r n x s).2.2.2 fo' → K (Int32.ofNat R, st', fo', en')) →
    wLX1_walk_20 (Int32.ofNat r) b u K (n+1) st fo en (Int32.ofNat x) (Int32.ofNat (160-n)) := by
  intro n
  have e160 : (160 : Int32) = Int32.ofNat 160 := rfl
  induction n with
  | zero =>
    intro x s st fo en hn hI hs hr hx hm h hf hK
    unfold wLX1_walk_20
    rw [hu]
    refine ⟨fun _ => hK st fo en h hf, fun hh => ?_⟩
    exfalso; apply hh; rw [e160, yn_le (by omega) (by omega)]; omega
  | succ n ih =>
    intro x s st fo en hn hI hs hr hx hm h hf hK
    have hlx := hL x hx
    have hlp := hL _ hlx.2.1
    have ex : Int32.ofNat (160-(n+1)) + 1 = Int32.ofNat (160-n) := by
      have h1eq : (1 : Int32) = Int32.ofNat 1 := rfl
      rw [h1eq, yn_add]; congr 1; omega
    have hpt := yPt_lt hlx.1
    have hR := h.1
    unfold wLX1_walk_20
    rw [hu, ex, yn_xor hlx.1, yn_nat (by omega), yn_nat (by omega), hf x hlx.1, hb (yPt x) hpt hlx.2.1]
    refine ⟨fun hh => ?_, fun _ => ⟨fun hh => absurd hh (yn_neg (by omega)), fun _ => ⟨yn_in (by omega) (by omega), fun hge => ?_, fun hlt => ?_⟩⟩⟩
    · exfalso; rw [e160, yn_le (by omega) (by omega)] at hh; omega
    · have hne : s.2.2.2 x ≠ 0 := by
        intro c; rw [if_pos c] at hge; exact yn_ge1 hge
      have hw : yWk β r (n+1) x s = s := by
        show (if s.2.2.2 x = 0 then _ else s) = s
        rw [if_neg hne]
      rw [hw] at hK
      exact hK st fo en h hf
    · have h0 : s.2.2.2 x = 0 := by
        apply Classical.byContradiction
        intro c
        rw [if_neg c] at hlt
        have hr2 : s.2.2.2 x - 1 < s.1 := (hI.2.2 x c).2.1
        exact hlt (yn_ge (by omega))
      have hw : yWk β r (n+1) x s = yWk β r n (β (yPt x)) (yPut r x s) := by
        show (if s.2.2.2 x = 0 then _ else s) = _
        rw [if_pos h0]
      refine ⟨yn_in (by omega) (by omega), fun g hg => ?_⟩
      have hroom := yTI_room hI hr hlx.1 h0
      rw [hs] at hroom
      refine w7_append h (by omega) hlx.1 hroom _ (fun st' en' h' => ⟨yn_in (by omega) (by omega), fun v65 h65 => ?_⟩)
      rw [h65, hg]
      refine ih (β (yPt x)) (yPut r x s) st' _ en' (by omega) (yTI_put hI hr hlx.1 h0) hs hr hlp.2.2 ?_ h' (yFq_put hf) ?_
      · intro e he
        have he' : (if e = x then r + 1 else s.2.2.2 e) ≠ 0 := he
        by_cases d : e = x
        · rw [d]; exact hx
        · rw [if_neg d] at he'; exact hm e he'
      · intro st2 fo2 en2 a1 a2
        rw [← hw] at a1 a2
        exact hK st2 fo2 en2 a1 a2

theorem w1_walk (hL : ∀ e, L e = true → e < 160 ∧ L (yPt e) = true ∧ L (β e) = true) (hb : ∀ e, e < 160 → L e = true → b e = Int32.ofNat (β e)) (s : yTS) (hI : yTI s) (hR : s.1 < 180) {x : Nat} (hx : L x = true) (hm : ∀ e, s.2.2.2 e ≠ 0 → L e = true) {st fo en : Nat → Int32} (h : yRw s.1 s.2.1 s.2.2.1 st en) (hf : yFq s.2.2.2 fo)
    (K : (Int32 × (Nat → Int32) × (Nat → Int32) × (Nat → Int32)) → Prop)
    (hK : ∀ st' fo' en', yRw (s.1+1) (yWk β s.1 160 x (yTo s)).2.1 (yWk β s.1 160 x (yTo s)).2.2.1 st' en' → yFq (yWk β s.1 160 x (yTo s)).2.2.2 fo' → K (Int32.ofNat (s.1+1), st', fo', en')) :
    wX1_walk (Int32.ofNat s.1) st fo en b (Int32.ofNat x) K := by
  unfold wX1_walk
  refine w7_open h hR _ (fun st' h' => ⟨161, ?_⟩)
  exact w1_walk20 hL hb (Int32.ofNat (s.1+1), st') K (s.1+1) rfl 160 x (yTo s) st' fo en (by omega) (yTI_opn hI) rfl (Nat.lt_succ_self _) hx hm h' hf hK
end


section
variable {N : Nat} {nd : Nat → Nat} {L : Nat → Bool} {rs : Nat → Nat} {rw' : Nat → Nat → Nat} {st en : Nat → Int32}

theorem yBt_closed (hE : yEr N nd (fun e => L e = true) rs rw') (hP : ∀ e, L e = true → L (yPt e) = true) : ∀ e, L e = true → e < 160 ∧ L (yPt e) = true ∧ L (yBt N rs rw' e) = true :=
  fun e he => ⟨(hE.2.2 e he).1, hP e he, (yBt_live hE he).1⟩

theorem w1_trace (h : yRw N rs rw' st en) (hE : yEr N nd (fun e => L e = true) rs rw') (hP : ∀ e, L e = true → L (yPt e) = true) (hB : yNb N (fun v => decide (rs v = 0)) ≤ 20) (f0 f4 : Nat → Int32) (i5 : Int32) (f6 f7 : Nat → Int32) (hst0 : f6 0 = 0)
    (K : ((Nat → Int32) × (Nat → Int32) × Int32 × (Nat → Int32) × (Nat → Int32)) → Prop)
    (hK : ∀ b fo' st' en', yFq (yTc (yBt N rs rw') L 160).2.2.2 fo' → yRw ((yTc (yBt N rs rw') L 160).1 + yNb N (fun v => decide (rs v = 0))) (fun r => if r < (yTc (yBt N rs rw') L 160).1 then (yTc (yBt N rs rw') L 160).2.1 r else 0) (yTc (yBt N rs rw') L 160).2.2.1 st' en' →
      K (b, fo', Int32.ofNat ((yTc (yBt N rs rw') L 160).1 + yNb N (fun v => decide (rs v = 0))), st', en')) :
    wX1_trace f0 (Int32.ofNat N) st en f4 i5 f6 f7 K := by
  have hL := yBt_closed hE hP
  have e160 : (160 : Int32) = Int32.ofNat 160 := rfl
  have hN := h.1
  unfold wX1_trace
  refine w1_findBehind h hE f0 _ (fun b hb1 hb0 => w_fill160 _ f4 _ (fun fo0 hfo0 => ?_))
  unfold wX7_empty
  have keep := yTc_keeps hL
  obtain ⟨kI, kR, kL, kA⟩ := keep 160
  have h160 := yTI_few kI kR
  have h60 : ∀ fo en', yFq (yTc (yBt N rs rw') L 160).2.2.2 fo → ∀ d row st', N - row = d → row ≤ N →
      yRw ((yTc (yBt N rs rw') L 160).1 + yNb row (fun v => decide (rs v = 0))) (fun r => if r < (yTc (yBt N rs rw') L 160).1 then (yTc (yBt N rs rw') L 160).2.1 r else 0) (yTc (yBt N rs rw') L 160).2.2.1 st' en' →
      wLX1_trace_60 (Int32.ofNat N) st b fo en' K (d+1) st' (Int32.ofNat ((yTc (yBt N rs rw') L 160).1 + yNb row (fun v => decide (rs v = 0)))) (Int32.ofNat row) := by
    intro fo en' hfo d
    induction d with
    | zero =>
      intro row st' hd hrow hw
      have : row = N := by omega
      subst this
      unfold wLX1_trace_60
      refine ⟨fun _ => hK b fo st' en' hfo hw, fun hh => ?_⟩
      exfalso; apply hh; rw [yn_le (by omega) (by omega)]; omega
    | succ d ih =>
      intro row st' hd hrow hw
      have er : Int32.ofNat row + 1 = Int32.ofNat (row+1) := yn_add row 1
      have hsz := yS_at rs (show row < N by omega)
      have hT := h.2.1
      have hmono : yNb (row+1) (fun v => decide (rs v = 0)) ≤ yNb N (fun v => decide (rs v = 0)) := by
        have : ∀ m, yNb (row+1) (fun v => decide (rs v = 0)) ≤ yNb (row+1+m) (fun v => decide (rs v = 0)) := by
          intro m
          induction m with
          | zero => exact Nat.le_refl _
          | succ m ihm => exact Nat.le_trans ihm (by rw [← Nat.add_assoc]; simp only [yNb]; omega)
        have := this (N-(row+1))
        rw [show row + 1 + (N-(row+1)) = N by omega] at this; exact this
      unfold wLX1_trace_60
      rw [er]
      refine ⟨fun hh => ?_, fun _ => w7_size h (by omega) _ _ ⟨fun hne => ?_, fun he => ?_⟩⟩
      · exfalso; rw [yn_le (by omega) (by omega)] at hh; omega
      · have hz : rs row ≠ 0 := fun e => hne (by rw [e]; rfl)
        have e1 : yNb (row+1) (fun v => decide (rs v = 0)) = yNb row (fun v => decide (rs v = 0)) := by
          simp [yNb, hz]
        have := ih (row+1) st' (by omega) (by omega)
        rw [e1] at this
        exact this hw
      · have hz : rs row = 0 := by
          have h0 : (0 : Int32) = Int32.ofNat 0 := rfl
          rw [h0] at he; exact (yn_inj (by omega) (by omega)).1 he
        have e1 : yNb (row+1) (fun v => decide (rs v = 0)) = yNb row (fun v => decide (rs v = 0)) + 1 := by
          simp [yNb, hz]
        refine w7_open hw (by omega) _ (fun st2 hw2 => ?_)
        have := ih (row+1) st2 (by omega) (by omega)
        rw [e1, ← Nat.add_assoc] at this
        apply this
        refine yRw_congr hw2 (fun v hv => ?_) (fun v i hv hi => rfl)
        show (if _ then _ else _) = _
        by_cases c : v = (yTc (yBt N rs rw') L 160).1 + yNb row (fun v => decide (rs v = 0))
        · rw [if_pos c, if_neg (by omega)]
        · rw [if_neg c]
  have h22 : ∀ d e st' fo en', 160 - e = d → e ≤ 160 → yRw (yTc (yBt N rs rw') L e).1 (yTc (yBt N rs rw') L e).2.1 (yTc (yBt N rs rw') L e).2.2.1 st' en' → yFq (yTc (yBt N rs rw') L e).2.2.2 fo →
      wLX1_trace_22 (Int32.ofNat N) st b K (d+1) fo st' en' (Int32.ofNat (yTc (yBt N rs rw') L e).1) (Int32.ofNat e) := by
    intro d
    induction d with
    | zero =>
      intro e st' fo en' hd he hw hfo
      have : e = 160 := by omega
      subst this
      unfold wLX1_trace_22
      refine ⟨fun _ => ⟨_, h60 fo en' hfo (N-0) 0 st' rfl (by omega) ?_⟩, fun hh => ?_⟩
      · refine yRw_congr hw (fun v hv => ?_) (fun v i hv hi => rfl)
        rw [if_pos (show v < (yTc (yBt N rs rw') L 160).1 from hv)]
      · exfalso; apply hh; rw [e160, yn_le (by omega) (by omega)]; omega
    | succ d ih =>
      intro e st' fo en' hd he hw hfo
      have ee : Int32.ofNat e + 1 = Int32.ofNat (e+1) := yn_add e 1
      obtain ⟨cI, cR, cL, cA⟩ := keep e
      have c160 := yTI_few cI cR
      have skip : ¬ (L e = true ∧ (yTc (yBt N rs rw') L e).2.2.2 e = 0) → yTc (yBt N rs rw') L (e+1) = yTc (yBt N rs rw') L e := by
        intro hc
        show (if _ ∧ _ then _ else _) = _
        rw [if_neg hc]
      unfold wLX1_trace_22
      rw [ee, yn_nat (by omega), hfo e (by omega)]
      refine ⟨fun hh => ?_, fun _ => ⟨yn_in (by omega) (by omega), fun hneg => ?_, fun hpos => ⟨yn_in (by omega) (by omega), fun hge => ?_, fun hlt => ?_⟩⟩⟩
      · exfalso; rw [e160, yn_le (by omega) (by omega)] at hh; omega
      · have hLe : ¬ L e = true := by
          intro c
          rw [hb1 e (by omega) c] at hneg
          have := (hL e c).2.2
          have := (hL _ this).1
          exact yn_neg (by omega) hneg
        have e1 := skip (fun hh => hLe hh.1)
        have := ih (e+1) st' fo en' (by omega) (by omega) (by rw [e1]; exact hw) (by rw [e1]; exact hfo)
        rw [e1] at this; exact this
      · have hne : (yTc (yBt N rs rw') L e).2.2.2 e ≠ 0 := by
          intro c; rw [if_pos c] at hge; exact yn_ge1 hge
        have e1 := skip (fun hh => hne hh.2)
        have := ih (e+1) st' fo en' (by omega) (by omega) (by rw [e1]; exact hw) (by rw [e1]; exact hfo)
        rw [e1] at this; exact this
      · have hLe : L e = true := by
          cases c : L e with
          | true => rfl
          | false => exfalso; apply hpos; rw [hb0 e (by omega) c]; exact yn_m1
        have h0 : (yTc (yBt N rs rw') L e).2.2.2 e = 0 := by
          apply Classical.byContradiction
          intro c
          rw [if_neg c] at hlt
          have hr2 : (yTc (yBt N rs rw') L e).2.2.2 e - 1 < (yTc (yBt N rs rw') L e).1 := (cI.2.2 e c).2.1
          exact hlt (yn_ge (by omega))
        have e1 : yTc (yBt N rs rw') L (e+1) = yWk (yBt N rs rw') (yTc (yBt N rs rw') L e).1 160 e (yTo (yTc (yBt N rs rw') L e)) := by
          show (if _ ∧ _ then _ else _) = _
          rw [if_pos ⟨hLe, h0⟩]
        have e2 : (yTc (yBt N rs rw') L (e+1)).1 = (yTc (yBt N rs rw') L e).1 + 1 := by
          rw [e1]
          exact (yWk_keeps hL (yTc (yBt N rs rw') L e).1 160 e (yTo (yTc (yBt N rs rw') L e)) (yTI_opn cI) (Nat.lt_succ_self _) hLe cL).2.1
        refine w1_walk hL hb1 (yTc (yBt N rs rw') L e) cI (by omega) hLe cL hw hfo _ (fun st2 fo2 en2 a1 a2 => ?_)
        have := ih (e+1) st2 fo2 en2 (by omega) (by omega) (by rw [e2, e1]; exact a1) (by rw [e1]; exact a2)
        rw [e2] at this; exact this
  refine ⟨161, h22 160 0 f6 fo0 f7 rfl (by omega) ⟨by show (0:Nat) ≤ 180; omega, by show yS 0 _ ≤ 160; simp [yS], fun v hv => ?_, fun v i hv hi => absurd hv (Nat.not_lt_zero _), fun v i hv hi => absurd hv (Nat.not_lt_zero _)⟩ ?_⟩
  · have hv' : v = 0 := Nat.le_zero.1 hv
    rw [hv', hst0]; rfl
  · intro e he
    rw [hfo0 e he]; rfl
end


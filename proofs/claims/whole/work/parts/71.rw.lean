
theorem ySS_swap (m k : Nat) (p : Nat → Nat → Nat) : yS m (fun i => yS k (fun j => p i j)) = yS k (fun j => yS m (fun i => p i j)) := by
  induction m with
  | zero => rw [yS_zero k (fun j => yS 0 (fun i => p i j)) (fun _ _ => rfl)]; rfl
  | succ m ih =>
    simp only [yS]
    rw [ih, ← yS_add]

theorem yS_perm (n : Nat) (h : Nat → Nat) : ∀ (m : Nat) (x : Nat → Nat), (∀ i, i < m → x i < n) → (∀ i j, i < m → j < m → x i = x j → i = j) →
    yS m (fun i => h (x i)) = yS n (fun u => if yD (∃ i, i < m ∧ x i = u) = true then h u else 0) := by
  intro m
  induction m with
  | zero =>
    intro x _ _
    rw [yS_zero n _ (fun u _ => by rw [if_neg]; rw [yD_iff]; rintro ⟨i, hi, _⟩; omega)]; rfl
  | succ m ih =>
    intro x h1 h2
    simp only [yS]
    rw [ih x (fun i hi => h1 i (by omega)) (fun i j hi hj => h2 i j (by omega) (by omega))]
    symm
    refine yS_one n _ _ (x m) (h (x m)) (h1 m (by omega)) ?_ ?_
    · rw [if_pos (yD_pos ⟨m, by omega, rfl⟩), if_neg, Nat.zero_add]
      rw [yD_iff]
      rintro ⟨i, hi, he⟩
      have := h2 i m (by omega) (by omega) he; omega
    · intro u _ hu
      have : yD (∃ i, i < m + 1 ∧ x i = u) = yD (∃ i, i < m ∧ x i = u) := by
        rw [Bool.eq_iff_iff, yD_iff, yD_iff]
        constructor
        · rintro ⟨i, hi, he⟩
          by_cases c : i = m
          · rw [c] at he; exact absurd he.symm hu
          · exact ⟨i, by omega, he⟩
        · rintro ⟨i, hi, he⟩; exact ⟨i, by omega, he⟩
      rw [this]

theorem yS_all (n : Nat) (h : Nat → Nat) (x : Nat → Nat) (h1 : ∀ i, i < n → x i < n) (h2 : ∀ i j, i < n → j < n → x i = x j → i = j) : yS n (fun i => h (x i)) = yS n h := by
  rw [yS_perm n h n x h1 h2]
  apply yS_congr
  intro u hu
  rw [if_pos]
  rw [yD_iff]
  by_cases c : ∃ i, i < n ∧ x i = u
  · exact c
  · exfalso
    have := yPig (n+1) n (fun i => if i = n then u else x i) (fun i hi => by
      by_cases e : i = n
      · rw [if_pos e]; exact hu
      · rw [if_neg e]; exact h1 i (by omega)) (by
      intro i j hi hj he
      by_cases e1 : i = n <;> by_cases e2 : j = n
      · omega
      · rw [if_pos e1, if_neg e2] at he; exact absurd ⟨j, by omega, he.symm⟩ c
      · rw [if_neg e1, if_pos e2] at he; exact absurd ⟨i, by omega, he⟩ c
      · rw [if_neg e1, if_neg e2] at he; exact h2 i j (by omega) (by omega) he)
    omega

-- the place of the way's present node on the rim
def yCur (T ts : Nat) (s kk pp pos : Nat → Nat) : Prop :=
  pos 0 = 1 ∧ ts < T ∧ pos ts = kk ts ∧ pos T + 1 = s T ∧ (∀ t, t ≤ T → 1 ≤ pos t ∧ pos t < s t) ∧ (∀ t, t ≤ ts → pos t + 2 ≤ s t) ∧
  ∀ t, t < T → (pos t < kk t → pos (t+1) = pos t) ∧ (kk t < pos t → pos (t+1) + 1 = pos t + pp t) ∧
    (kk t = pos t → t < ts → kk t ≤ pos (t+1) ∧ pos (t+1) < kk t + pp t) ∧ (kk t = pos t → ts ≤ t → pos (t+1) = kk t + pp t)

section
variable {n F : Nat} {g : Nat → Nat → Bool} {fo ρ : Nat → Nat → Nat} {a b c T : Nat} {s : Nat → Nat} {rm : Nat → Nat → Nat} {kk pp : Nat → Nat}

theorem yCur_ex (hr : yRun g ρ a b c T s rm kk pp) (hT : s T = 2) {ts : Nat} (hts : ts < T) : ∃ pos, yCur T ts s kk pp pos := by
  have hst : ∀ t, t < T → 1 ≤ kk t ∧ kk t + 2 ≤ s t ∧ s t + pp t = s (t+1) + 1 := fun t ht => by
    have := (hr.2.2.2.2 t ht).1
    exact ⟨this.1, this.2.1, this.2.2.1⟩
  have back : ∀ t0, t0 ≤ T → ∀ x, 1 ≤ x → x + 2 ≤ s t0 → ∃ pos : Nat → Nat, pos t0 = x ∧ (∀ t, t ≤ t0 → 1 ≤ pos t ∧ pos t + 2 ≤ s t) ∧
      ∀ t, t < t0 → (pos t < kk t → pos (t+1) = pos t) ∧ (kk t < pos t → pos (t+1) + 1 = pos t + pp t) ∧ (kk t = pos t → kk t ≤ pos (t+1) ∧ pos (t+1) < kk t + pp t) := by
    intro t0
    induction t0 with
    | zero =>
      intro _ x h1 h2
      refine ⟨fun _ => x, rfl, ?_, fun t ht => by omega⟩
      intro t ht
      have : t = 0 := by omega
      subst this
      exact ⟨h1, h2⟩
    | succ t0 ih =>
      intro ht0 x h1 h2
      have h3 := hst t0 (by omega)
      have hx0 : ∃ x0, 1 ≤ x0 ∧ x0 + 2 ≤ s t0 ∧ (x0 < kk t0 → x = x0) ∧ (kk t0 < x0 → x + 1 = x0 + pp t0) ∧ (kk t0 = x0 → kk t0 ≤ x ∧ x < kk t0 + pp t0) := by
        rcases Nat.lt_or_ge x (kk t0) with e | e
        · exact ⟨x, h1, by omega, fun _ => rfl, fun _ => by omega, fun _ => by omega⟩
        · rcases Nat.lt_or_ge x (kk t0 + pp t0) with e' | e'
          · exact ⟨kk t0, by omega, by omega, fun _ => by omega, fun _ => by omega, fun _ => ⟨e, e'⟩⟩
          · exact ⟨x + 1 - pp t0, by omega, by omega, fun _ => by omega, fun _ => by omega, fun _ => by omega⟩
      obtain ⟨x0, a1, a2, a3, a4, a5⟩ := hx0
      obtain ⟨pos, p1, p2, p3⟩ := ih (by omega) x0 a1 a2
      refine ⟨fun t => if t = t0 + 1 then x else pos t, by simp, ?_, ?_⟩
      · intro t ht
        by_cases e : t = t0 + 1
        · simp only [e, if_true]; exact ⟨h1, h2⟩
        · simp only [e, if_false]; exact p2 t (by omega)
      · intro t ht
        have e : ¬ t = t0 + 1 := by omega
        simp only [e, if_false]
        by_cases e2 : t = t0
        · subst e2
          simp only [if_true]
          rw [p1]; exact ⟨a3, a4, a5⟩
        · have e3 : ¬ t + 1 = t0 + 1 := by omega
          simp only [e3, if_false]
          exact p3 t (by omega)
  obtain ⟨h1, h2, h3⟩ := hst ts hts
  obtain ⟨pos0, q1, q2, q3⟩ := back ts (by omega) (kk ts) h1 h2
  have fwd : ∀ d, ts + d ≤ T → ∃ pos : Nat → Nat, pos ts = kk ts ∧ (∀ t, t ≤ ts → pos t = pos0 t) ∧ (∀ t, t ≤ ts + d → 1 ≤ pos t ∧ pos t < s t) ∧
      ∀ t, t < ts + d → (pos t < kk t → pos (t+1) = pos t) ∧ (kk t < pos t → pos (t+1) + 1 = pos t + pp t) ∧
        (kk t = pos t → t < ts → kk t ≤ pos (t+1) ∧ pos (t+1) < kk t + pp t) ∧ (kk t = pos t → ts ≤ t → pos (t+1) = kk t + pp t) := by
    intro d
    induction d with
    | zero =>
      intro _
      refine ⟨pos0, q1, fun _ _ => rfl, fun t ht => by have := q2 t (by omega); omega, fun t ht => ?_⟩
      obtain ⟨a1, a2, a3⟩ := q3 t (by omega)
      exact ⟨a1, a2, fun e _ => a3 e, fun _ e => by omega⟩
    | succ d ih =>
      intro hd
      obtain ⟨pos, p1, p2, p3, p4⟩ := ih (by omega)
      have h5 := hst (ts+d) (by omega)
      have h6 := p3 (ts+d) (by omega)
      refine ⟨fun t => if t = ts + d + 1 then (if pos (ts+d) < kk (ts+d) then pos (ts+d) else if kk (ts+d) < pos (ts+d) then pos (ts+d) + pp (ts+d) - 1 else kk (ts+d) + pp (ts+d)) else pos t, ?_, ?_, ?_, ?_⟩
      · have e : ¬ ts = ts + d + 1 := by omega
        simp only [e, if_false]; exact p1
      · intro t ht
        have e : ¬ t = ts + d + 1 := by omega
        simp only [e, if_false]; exact p2 t ht
      · intro t ht
        by_cases e : t = ts + d + 1
        · simp only [e, if_true]
          split
          · omega
          · split <;> omega
        · simp only [e, if_false]; exact p3 t (by omega)
      · intro t ht
        have e : ¬ t = ts + d + 1 := by omega
        simp only [e, if_false]
        by_cases e2 : t = ts + d
        · subst e2
          simp only [if_true]
          refine ⟨fun hh => by rw [if_pos hh], fun hh => ?_, fun _ hh => by omega, fun hh _ => ?_⟩
          · rw [if_neg (by omega), if_pos hh]; omega
          · rw [if_neg (by omega), if_neg (by omega)]
        · have e3 : ¬ t + 1 = ts + d + 1 := by omega
          simp only [e3, if_false]
          exact p4 t (by omega)
  obtain ⟨pos, p1, p2, p3, p4⟩ := fwd (T - ts) (by omega)
  rw [show ts + (T - ts) = T by omega] at p3 p4
  refine ⟨pos, ?_, hts, p1, ?_, p3, ?_, p4⟩
  · have h0 := q2 0 (by omega)
    rw [hr.1] at h0
    rw [p2 0 (by omega)]; omega
  · have := p3 T (Nat.le_refl _)
    rw [hT] at this ⊢; omega
  · intro t ht
    rw [p2 t ht]; exact (q2 t ht).2

-- how many faces have the one colour
theorem yCur_count (hr : yRun g ρ a b c T s rm kk pp) {ts : Nat} {pos : Nat → Nat} (hp : yCur T ts s kk pp pos) :
    yS T (fun t => kk t + pp t - max (kk t - 1) (pos (t+1))) + 1 = 2 * yNb T (fun t => decide (pos t < kk t)) + yNb T (fun t => decide (kk t = pos t)) := by
  have hst : ∀ t, t < T → 1 ≤ kk t ∧ kk t + 2 ≤ s t ∧ s t + pp t = s (t+1) + 1 := fun t ht => by
    have := (hr.2.2.2.2 t ht).1
    exact ⟨this.1, this.2.1, this.2.2.1⟩
  obtain ⟨c0, c1, c2, c3, c4, c5, c6⟩ := hp
  have key : ∀ t, t ≤ T → yS t (fun t => kk t + pp t - max (kk t - 1) (pos (t+1))) + 1 = 2 * yNb t (fun t => decide (pos t < kk t)) + yNb t (fun t => decide (kk t = pos t)) + (s t - 1 - pos t) := by
    intro t
    induction t with
    | zero => intro _; simp only [yS, yNb]; rw [hr.1, c0]
    | succ t ih =>
      intro ht
      have i1 := ih (by omega)
      have h1 := hst t (by omega)
      obtain ⟨d1, d2, d3, d4⟩ := c6 t (by omega)
      have h4 := c4 t (by omega); have h5 := c4 (t+1) ht
      simp only [yS, yNb]
      rcases Nat.lt_trichotomy (pos t) (kk t) with e | e | e
      · have e1 : ¬ kk t = pos t := by omega
        simp only [e, e1, decide_true, decide_false, if_true]
        have := d1 e
        simp
        omega
      · have e1 : kk t = pos t := e.symm
        have e2 : ¬ pos t < kk t := by omega
        simp only [e1, e2, decide_true, decide_false, if_true]
        simp
        rcases Nat.lt_or_ge t ts with f | f
        · have := d3 e1 f; omega
        · have := d4 e1 f; omega
      · have e1 : ¬ kk t = pos t := by omega
        have e2 : ¬ pos t < kk t := by omega
        simp only [e1, e2, decide_false]
        have := d2 e
        simp
        omega
  have := key T (Nat.le_refl _)
  rw [show s T - 1 - pos T = 0 by omega, Nat.add_zero] at this
  exact this

theorem yRun_ends (hr : yRun g ρ a b c T s rm kk pp) : ∀ t, t ≤ T → rm t 0 = a ∧ rm t (s t - 1) = b ∧ 2 ≤ s t := by
  intro t
  induction t with
  | zero => intro _; rw [hr.1]; exact ⟨hr.2.1, hr.2.2.2.1, by omega⟩
  | succ t ih =>
    intro ht
    obtain ⟨i1, i2, i3⟩ := ih (by omega)
    obtain ⟨hk1, hk2, hp, ha, hb, _⟩ := (hr.2.2.2.2 t (by omega)).1
    refine ⟨by rw [ha 0 (by omega)]; exact i1, ?_, by omega⟩
    have := hb (s t - 1) (by omega) (by omega)
    rw [show s t - 1 + pp t - 1 = s (t+1) - 1 by omega] at this
    rw [this]; exact i2

-- the present node stays the same until it is taken off
theorem yCur_same (hr : yRun g ρ a b c T s rm kk pp) {ts : Nat} {pos : Nat → Nat} (hp : yCur T ts s kk pp pos) {t : Nat} (ht : t < T) :
    (kk t ≠ pos t → rm (t+1) (pos (t+1)) = rm t (pos t)) ∧ (kk t = pos t → ts ≤ t → rm (t+1) (pos (t+1)) = rm t (kk t + 1)) := by
  obtain ⟨hk1, hk2, hpp, ha, hb, _⟩ := (hr.2.2.2.2 t ht).1
  obtain ⟨c0, c1, c2, c3, c4, c5, c6⟩ := hp
  obtain ⟨d1, d2, d3, d4⟩ := c6 t ht
  have h4 := c4 t (by omega)
  constructor
  · intro hne
    rcases Nat.lt_or_ge (pos t) (kk t) with e | e
    · rw [d1 e]; exact ha _ e
    · have := d2 (by omega)
      have h := hb (pos t) (by omega) h4.2
      rw [show pos t + pp t - 1 = pos (t+1) by omega] at h
      exact h
  · intro he hts
    rw [d4 he hts]
    have h := hb (kk t + 1) (by omega) (by omega)
    rw [show kk t + 1 + pp t - 1 = kk t + pp t by omega] at h
    exact h

-- the way on the rim after it
theorem yCur_right (hr : yRun g ρ a b c T s rm kk pp) {ts : Nat} {pos : Nat → Nat} (hp : yCur T ts s kk pp pos) :
    ∀ d t, T - t = d → ts ≤ t → t ≤ T → ∃ (L : Nat) (x : Nat → Nat), x 0 = rm t (pos t) ∧ x L = b ∧ (∀ i, i < L → ∃ τ, t ≤ τ ∧ τ < T ∧ kk τ = pos τ ∧ x i = rm τ (kk τ) ∧ x (i+1) = rm τ (kk τ + 1)) ∧
      (∀ τ, t ≤ τ → τ < T → kk τ = pos τ → ∃ i, i < L ∧ x i = rm τ (kk τ) ∧ x (i+1) = rm τ (kk τ + 1)) ∧
      L = yNb T (fun τ => decide (t ≤ τ ∧ kk τ = pos τ)) ∧ ∀ f : Nat → Nat, yS (L+1) (fun i => f (x i)) = yS T (fun τ => if t ≤ τ ∧ kk τ = pos τ then f (rm τ (kk τ)) else 0) + f b := by
  intro d
  induction d with
  | zero =>
    intro t hd h1 h2
    have : t = T := by omega
    subst this
    have hz : yNb t (fun τ => decide (t ≤ τ ∧ kk τ = pos τ)) = 0 := by
      have : ∀ m, m ≤ t → yNb m (fun τ => decide (t ≤ τ ∧ kk τ = pos τ)) = 0 := by
        intro m
        induction m with
        | zero => intro _; rfl
        | succ m ih =>
          intro hm
          simp only [yNb]
          rw [ih (by omega)]
          have : ¬ (t ≤ m ∧ kk m = pos m) := by omega
          simp [this]
      exact this t (Nat.le_refl _)
    have hb := (yRun_ends hr t (Nat.le_refl _)).2.1
    have hpos := hp.2.2.2.1
    refine ⟨0, fun _ => b, ?_, rfl, fun i hi => by omega, fun τ h3 h4 => by omega, hz.symm, ?_⟩
    · rw [show pos t = s t - 1 by omega]; exact hb.symm
    · intro f
      rw [yS_zero t _ (fun τ hτ => by rw [if_neg]; omega)]
      simp only [yS]
  | succ d ih =>
    intro t hd h1 h2
    obtain ⟨L, x, x0, xL, xs, xc, hL, hsum⟩ := ih (t+1) (by omega) (by omega) (by omega)
    obtain ⟨hs1, hs2⟩ := yCur_same hr hp (show t < T by omega)
    by_cases e : kk t = pos t
    · -- it is taken off now
      refine ⟨L+1, fun i => if i = 0 then rm t (kk t) else x (i-1), ?_, ?_, ?_, ?_, ?_, ?_⟩
      · simp only [if_true]; rw [e]
      · simp; exact xL
      · intro i hi
        by_cases ci : i = 0
        · refine ⟨t, Nat.le_refl _, by omega, e, by simp [ci], ?_⟩
          simp [ci]
          rw [x0]; exact hs2 e h1
        · obtain ⟨τ, a0, a1, a1', a2, a3⟩ := xs (i-1) (by omega)
          refine ⟨τ, by omega, a1, a1', by simp only [ci, if_false]; exact a2, ?_⟩
          have : ¬ i + 1 = 0 := by omega
          simp only [this, if_false]
          rw [show i + 1 - 1 = i - 1 + 1 by omega]; exact a3
      · intro τ h3 h4 h5
        by_cases cτ : τ = t
        · subst cτ
          refine ⟨0, by omega, by simp, ?_⟩
          simp
          rw [x0]; exact hs2 e h1
        · obtain ⟨i, i1, i2, i3⟩ := xc τ (by omega) h4 h5
          refine ⟨i+1, by omega, ?_, ?_⟩
          · have : ¬ i + 1 = 0 := by omega
            simp only [this, if_false]
            rw [show i + 1 - 1 = i by omega]; exact i2
          · have : ¬ i + 1 + 1 = 0 := by omega
            simp only [this, if_false]
            rw [show i + 1 + 1 - 1 = i + 1 by omega]; exact i3
      · rw [hL]
        refine (yNb_add1 T _ _ t (by omega) ?_ ?_ ?_).symm
        · rw [decide_eq_false_iff_not]; omega
        · rw [decide_eq_true_iff]; exact ⟨Nat.le_refl _, e⟩
        · intro i hi hne
          rw [decide_eq_decide]
          omega
      · intro f
        have h3 := hsum f
        have h4 : yS T (fun τ => if t ≤ τ ∧ kk τ = pos τ then f (rm τ (kk τ)) else 0) = yS T (fun τ => if t + 1 ≤ τ ∧ kk τ = pos τ then f (rm τ (kk τ)) else 0) + f (rm t (kk t)) := by
          refine yS_one T _ _ t _ (by omega) ?_ ?_
          · rw [if_pos ⟨Nat.le_refl _, e⟩, if_neg (by omega)]; omega
          · intro i hi hne
            by_cases q : t ≤ i ∧ kk i = pos i
            · rw [if_pos q, if_pos (by omega)]
            · rw [if_neg q, if_neg (by omega)]
        have h5 : ∀ m, yS (m+1) (fun i => f (if i = 0 then rm t (kk t) else x (i-1))) = f (rm t (kk t)) + yS m (fun i => f (x i)) := by
          intro m
          induction m with
          | zero => simp [yS]
          | succ m ihm =>
            rw [yS, ihm]
            simp [yS]; omega
        rw [h5, h4, h3]; omega
    · refine ⟨L, x, ?_, xL, ?_, ?_, ?_, ?_⟩
      · rw [x0]; exact hs1 e
      · intro i hi
        obtain ⟨τ, a0, a1⟩ := xs i hi
        exact ⟨τ, by omega, a1⟩
      · intro τ h3 h4 h5
        by_cases cτ : τ = t
        · rw [cτ] at h5; exact absurd h5 e
        · exact xc τ (by omega) h4 h5
      · rw [hL]
        apply yNb_congr
        intro i _
        rw [decide_eq_decide]
        constructor
        · intro q; exact ⟨by omega, q.2⟩
        · intro q
          refine ⟨?_, q.2⟩
          by_cases ci : i = t
          · rw [ci] at q; exact absurd q.2 e
          · omega
      · intro f
        rw [hsum f]
        congr 1
        apply yS_congr
        intro i _
        by_cases ci : i = t
        · rw [if_neg (by omega), if_neg (by rw [ci]; exact fun q => e q.2)]
        · by_cases q : t ≤ i ∧ kk i = pos i
          · rw [if_pos q, if_pos (by omega)]
          · rw [if_neg q, if_neg (by omega)]

-- the way before it
theorem yCur_up (hr : yRun g ρ a b c T s rm kk pp) {ts : Nat} {pos : Nat → Nat} (hp : yCur T ts s kk pp pos) :
    ∀ t, t ≤ ts → ∃ (L : Nat) (x : Nat → Nat), x 0 = rm t (pos t) ∧ x L = c ∧ (∀ i, i < L → ∃ τ, τ < t ∧ kk τ = pos τ ∧ x i = rm (τ+1) (pos (τ+1)) ∧ x (i+1) = rm τ (kk τ)) ∧
      (∀ τ, τ < t → kk τ = pos τ → ∃ i, i < L ∧ x i = rm (τ+1) (pos (τ+1)) ∧ x (i+1) = rm τ (kk τ)) ∧
      L = yNb t (fun τ => decide (kk τ = pos τ)) ∧ ∀ f : Nat → Nat, yS (L+1) (fun i => f (x i)) = f (rm t (pos t)) + yS t (fun τ => if kk τ = pos τ then f (rm τ (kk τ)) else 0) := by
  have hts := hp.2.1
  intro t
  induction t with
  | zero =>
    intro _
    refine ⟨0, fun _ => c, ?_, rfl, fun i hi => by omega, fun τ hτ => by omega, rfl, ?_⟩
    · rw [hp.1]; exact hr.2.2.1.symm
    · intro f
      rw [hp.1, hr.2.2.1]
      simp [yS]
  | succ t ih =>
    intro ht
    obtain ⟨L, x, x0, xL, xs, xc, hL, hsum⟩ := ih (by omega)
    obtain ⟨hs1, _⟩ := yCur_same hr hp (show t < T by omega)
    by_cases e : kk t = pos t
    · refine ⟨L+1, fun i => if i = 0 then rm (t+1) (pos (t+1)) else x (i-1), by simp, by simp; exact xL, ?_, ?_, ?_, ?_⟩
      · intro i hi
        by_cases ci : i = 0
        · refine ⟨t, by omega, e, by simp [ci], ?_⟩
          simp [ci]
          rw [x0, e]
        · obtain ⟨τ, a1, a2, a4, a5⟩ := xs (i-1) (by omega)
          refine ⟨τ, by omega, a2, by simp only [ci, if_false]; exact a4, ?_⟩
          have : ¬ i + 1 = 0 := by omega
          simp only [this, if_false]
          rw [show i + 1 - 1 = i - 1 + 1 by omega]; exact a5
      · intro τ h3 h5
        by_cases cτ : τ = t
        · subst cτ
          refine ⟨0, by omega, by simp, ?_⟩
          simp
          rw [x0, e]
        · obtain ⟨i, i1, i2, i3⟩ := xc τ (by omega) h5
          refine ⟨i+1, by omega, ?_, ?_⟩
          · have : ¬ i + 1 = 0 := by omega
            simp only [this, if_false]
            rw [show i + 1 - 1 = i by omega]; exact i2
          · have : ¬ i + 1 + 1 = 0 := by omega
            simp only [this, if_false]
            rw [show i + 1 + 1 - 1 = i + 1 by omega]; exact i3
      · simp only [yNb, e, decide_true, if_true]; rw [hL]
      · intro f
        have h3 := hsum f
        have h5 : ∀ m, yS (m+1) (fun i => f (if i = 0 then rm (t+1) (pos (t+1)) else x (i-1))) = f (rm (t+1) (pos (t+1))) + yS m (fun i => f (x i)) := by
          intro m
          induction m with
          | zero => simp [yS]
          | succ m ihm => rw [yS, ihm]; simp [yS]; omega
        rw [h5, h3]
        simp only [yS, e, if_true]
        omega
    · refine ⟨L, x, by rw [x0]; exact (hs1 e).symm, xL, ?_, ?_, ?_, ?_⟩
      · intro i hi
        obtain ⟨τ, a0, a1⟩ := xs i hi
        exact ⟨τ, by omega, a1⟩
      · intro τ h3 h5
        by_cases cτ : τ = t
        · rw [cτ] at h5; exact absurd h5 e
        · exact xc τ (by omega) h5
      · simp only [yNb, e, decide_false]; rw [hL]; simp
      · intro f
        rw [hsum f, hs1 e]
        simp only [yS, e, if_false]
        omega
end


section
variable {n F : Nat} {g : Nat → Nat → Bool} {fo ρ : Nat → Nat → Nat} {a b c T : Nat} {s : Nat → Nat} {rm : Nat → Nat → Nat} {kk pp : Nat → Nat}

-- how often the third way of a node meets the other two
theorem yOver_one (h : yTg n g F fo ρ) (hab : g a b = true) (hc : ρ a b = c) (hr : yRun g ρ a b c T s rm kk pp) (hT : s T = 2) {ts : Nat} {pos : Nat → Nat} (hp : yCur T ts s kk pp pos)
    {lam : Nat → Nat → Nat} (l1 : ∀ t, t < T → ∀ w, lam (rm t (kk t)) w = (if rm t (kk t) = w then 1 else 0) + lam (rm t (kk t - 1)) w)
    (la : ∀ w, lam a w = if a = w then 1 else 0) (lb : ∀ w, lam b w = if b = w then 1 else 0) :
    ∀ d t, T - t = d → t ≤ T → ∀ i, i < s t → yS T (fun τ => if kk τ = pos τ then lam (rm t i) (rm τ (kk τ)) else 0) + lam (rm t i) b = if pos t ≤ i then 1 else 0 := by
  have hgo : ∀ τ t i, τ < t → t ≤ T → i < s t → rm t i ≠ rm τ (kk τ) := by
    intro τ t i hτ ht hi he
    exact ((yRun_rim h hab hc hr t ht).2.1 i hi).2 ⟨τ, hτ, he⟩
  have hpos := hp.2.2.2.1
  intro d
  induction d with
  | zero =>
    intro t hd ht i hi
    have : t = T := by omega
    subst this
    have he := yRun_ends hr t (Nat.le_refl _)
    rw [hT] at hi hpos he
    have hne : a ≠ b := (yTg_gr h hab).2.2.1
    rcases (by omega : i = 0 ∨ i = 1) with e | e
    · rw [e, he.1, if_neg (by omega), la, if_neg hne, yS_zero]
      intro τ hτ
      by_cases q : kk τ = pos τ
      · rw [if_pos q, la, if_neg]
        have := hgo τ t 0 hτ (Nat.le_refl _) (by omega)
        rw [he.1] at this; exact this
      · rw [if_neg q]
    · have hb : rm t 1 = b := he.2.1
      rw [e, hb, if_pos (by omega), lb, if_pos rfl, yS_zero]
      intro τ hτ
      by_cases q : kk τ = pos τ
      · rw [if_pos q, lb, if_neg]
        have := hgo τ t 1 hτ (Nat.le_refl _) (by omega)
        rw [hb] at this; exact this
      · rw [if_neg q]
  | succ d ih =>
    intro t hd ht
    obtain ⟨hk1, hk2, hpp, ha, hb, _⟩ := (hr.2.2.2.2 t (by omega)).1
    obtain ⟨d1, d2, d3, d4⟩ := hp.2.2.2.2.2.2 t (by omega)
    have ihn := ih (t+1) (by omega) (by omega)
    have left : ∀ i, i < kk t → yS T (fun τ => if kk τ = pos τ then lam (rm t i) (rm τ (kk τ)) else 0) + lam (rm t i) b = if pos t ≤ i then 1 else 0 := by
      intro i hi
      have := ihn i (by omega)
      rw [ha i hi] at this
      rw [this]
      by_cases q : pos t ≤ i
      · rw [if_pos q, if_pos]
        have := d1 (by omega); omega
      · rw [if_neg q, if_neg]
        rcases Nat.lt_trichotomy (pos t) (kk t) with e | e | e
        · have := d1 e; omega
        · rcases Nat.lt_or_ge t ts with f | f
          · have := d3 e.symm f; omega
          · have := d4 e.symm f; omega
        · have := d2 e; omega
    intro i hi
    rcases Nat.lt_trichotomy i (kk t) with e | e | e
    · exact left i e
    · subst e
      have hl := left (kk t - 1) (by omega)
      have hsum : yS T (fun τ => if kk τ = pos τ then lam (rm t (kk t)) (rm τ (kk τ)) else 0) = yS T (fun τ => if kk τ = pos τ then lam (rm t (kk t - 1)) (rm τ (kk τ)) else 0) + (if kk t = pos t then 1 else 0) := by
        refine yS_one T _ _ t _ (by omega) ?_ ?_
        · by_cases q : kk t = pos t
          · rw [if_pos q, if_pos q, if_pos q, l1 t (by omega), if_pos rfl]; omega
          · rw [if_neg q, if_neg q, if_neg q]
        · intro τ hτ hne
          by_cases q : kk τ = pos τ
          · rw [if_pos q, if_pos q, l1 t (by omega), if_neg, Nat.zero_add]
            intro hh
            exact hne (yRun_inj h hab hc hr t τ (by omega) hτ hh).symm
          · rw [if_neg q, if_neg q]
      have hlb : lam (rm t (kk t)) b = lam (rm t (kk t - 1)) b := by
        rw [l1 t (by omega), if_neg, Nat.zero_add]
        have hb2 := (yRun_ends hr t ht).2.1
        intro hh
        rw [← hb2] at hh
        have := (yRun_rim h hab hc hr t ht).2.2.1 (kk t) (s t - 1) (by omega) (by omega) hh
        omega
      rw [hsum, hlb]
      rw [show ∀ x y z : Nat, x + y + z = (x + z) + y by omega, hl]
      by_cases q : kk t = pos t
      · rw [if_pos q, if_neg (by omega), if_pos (by omega)]
      · rw [if_neg q]
        by_cases q2 : pos t ≤ kk t - 1
        · rw [if_pos q2, if_pos (by omega)]
        · rw [if_neg q2, if_neg (by omega)]
    · have := ihn (i + pp t - 1) (by omega)
      rw [hb i e hi] at this
      rw [this]
      by_cases q : pos t ≤ i
      · rw [if_pos q, if_pos]
        rcases Nat.lt_trichotomy (pos t) (kk t) with f | f | f
        · have := d1 f; omega
        · rcases Nat.lt_or_ge t ts with f2 | f2
          · have := d3 f.symm f2; omega
          · have := d4 f.symm f2; omega
        · have := d2 f; omega
      · rw [if_neg q, if_neg]
        have := d2 (by omega); omega

-- all nodes: those taken off, and the two corners
theorem yRun_sum (h : yTg n g F fo ρ) (hab : g a b = true) (hc : ρ a b = c) (hr : yRun g ρ a b c T s rm kk pp) (hT : s T = 2) (f : Nat → Nat) : yS n f = yS T (fun t => f (rm t (kk t))) + f a + f b := by
  have hTn := (yRun_all h hab hc hr (Nat.le_refl T) hT).2
  have he := yRun_ends hr T (Nat.le_refl _)
  rw [hT] at he
  have hR := yRun_rim h hab hc hr T (Nat.le_refl _)
  rw [hT] at hR
  have hb1 : rm T 1 = b := he.2.1
  have hlt : ∀ t, t < T → rm t (kk t) < n := by
    intro t ht
    have hS := (hr.2.2.2.2 t ht).1
    exact ((yRun_rim h hab hc hr t (by omega)).2.1 _ (by have := hS.2.1; omega)).1
  have hgo : ∀ t, t < T → rm t (kk t) ≠ a ∧ rm t (kk t) ≠ b := by
    intro t ht
    constructor
    · intro e; exact (hR.2.1 0 (by omega)).2 ⟨t, ht, by rw [he.1, e]⟩
    · intro e; exact (hR.2.1 1 (by omega)).2 ⟨t, ht, by rw [hb1, e]⟩
  have gab := yTg_gr h hab
  have := yS_all n f (fun i => if i < T then rm i (kk i) else if i = T then a else b) (by
    intro i hi
    split
    · rename_i q; exact hlt i q
    · split
      · exact gab.2.2.2.1
      · exact gab.2.2.2.2.1) (by
    intro i j hi hj hij
    by_cases c1 : i < T <;> by_cases c2 : j < T
    · rw [if_pos c1, if_pos c2] at hij; exact yRun_inj h hab hc hr i j c1 c2 hij
    · rw [if_pos c1, if_neg c2] at hij
      split at hij
      · exact absurd hij (hgo i c1).1
      · exact absurd hij (hgo i c1).2
    · rw [if_neg c1, if_pos c2] at hij
      split at hij
      · exact absurd hij.symm (hgo j c2).1
      · exact absurd hij.symm (hgo j c2).2
    · rw [if_neg c1, if_neg c2] at hij
      have hne := gab.2.2.1
      split at hij <;> split at hij
      · omega
      · exact absurd hij hne
      · exact absurd hij.symm hne
      · omega)
  rw [← this, ← hTn]
  rw [show T + 2 = (T + 1) + 1 from rfl]
  simp only [yS]
  rw [if_neg (by omega), if_pos trivial, if_neg (by omega), if_neg (by omega)]
  congr 2
  apply yS_congr
  intro i hi
  rw [if_pos hi]

-- the class's sum
theorem yOver_sum (h : yTg n g F fo ρ) (hab : g a b = true) (hc : ρ a b = c) (hr : yRun g ρ a b c T s rm kk pp) (hT : s T = 2) {ts : Nat} {pos : Nat → Nat} (hp : yCur T ts s kk pp pos)
    {lam : Nat → Nat → Nat} (l1 : ∀ t, t < T → ∀ w, lam (rm t (kk t)) w = (if rm t (kk t) = w then 1 else 0) + lam (rm t (kk t - 1)) w)
    (la : ∀ w, lam a w = if a = w then 1 else 0) (lb : ∀ w, lam b w = if b = w then 1 else 0) :
    yS T (fun τ => if kk τ = pos τ then yS n (fun u => lam u (rm τ (kk τ))) else 0) + yS n (fun u => lam u b) = yNb T (fun t => decide (pos t < kk t)) + yNb T (fun t => decide (kk t = pos t)) + 1 := by
  have h1 : yS T (fun τ => if kk τ = pos τ then yS n (fun u => lam u (rm τ (kk τ))) else 0) = yS n (fun u => yS T (fun τ => if kk τ = pos τ then lam u (rm τ (kk τ)) else 0)) := by
    rw [← ySS_swap T n]
    apply yS_congr
    intro τ _
    by_cases q : kk τ = pos τ
    · simp only [if_pos q]
    · simp only [if_neg q]
      rw [yS_zero n (fun _ => 0) (fun _ _ => rfl)]
  rw [h1, ← yS_add]
  rw [yRun_sum h hab hc hr hT (fun u => yS T (fun τ => if kk τ = pos τ then lam u (rm τ (kk τ)) else 0) + lam u b)]
  have key := yOver_one h hab hc hr hT hp l1 la lb
  have e0 := yRun_ends hr 0 (by omega)
  have p0 := hp.1
  have s0 := hr.1
  have ka := key (T-0) 0 rfl (by omega) 0 (by omega)
  have kb := key (T-0) 0 rfl (by omega) (s 0 - 1) (by omega)
  rw [e0.1, if_neg (by omega)] at ka
  rw [e0.2.1, if_pos (by omega)] at kb
  rw [ka, kb]
  have h2 : ∀ m, m ≤ T → yS m (fun t => yS T (fun τ => if kk τ = pos τ then lam (rm t (kk t)) (rm τ (kk τ)) else 0) + lam (rm t (kk t)) b) = yNb m (fun t => decide (pos t < kk t)) + yNb m (fun t => decide (kk t = pos t)) := by
    intro m
    induction m with
    | zero => intro _; rfl
    | succ m ihm =>
      intro hm
      have hS := (hr.2.2.2.2 m (by omega)).1
      have km := key (T-m) m rfl (by omega) (kk m) (by have := hS.2.1; omega)
      simp only [yS, yNb]
      rw [ihm (by omega), km]
      rcases Nat.lt_trichotomy (pos m) (kk m) with e | e | e
      · have e1 : ¬ kk m = pos m := by omega
        rw [if_pos (by omega)]; simp [e, e1]; omega
      · rw [if_pos (by omega)]
        have e1 : ¬ pos m < kk m := by omega
        simp [e1, e.symm]; omega
      · have e1 : ¬ kk m = pos m := by omega
        have e2 : ¬ pos m < kk m := by omega
        rw [if_neg (by omega)]; simp [e1, e2]
  rw [h2 T (Nat.le_refl _)]

-- the other way round
theorem yRun_mir (h : yTg n g F fo ρ) (hab : g a b = true) (hc : ρ a b = c) (hr : yRun g ρ a b c T s rm kk pp) :
    yRun g (fun x y => ρ y x) b a c T s (fun t i => rm t (s t - 1 - i)) (fun t => s t - 1 - kk t) pp := by
  refine ⟨hr.1, ?_, ?_, ?_, ?_⟩
  · show rm 0 (s 0 - 1 - 0) = b
    rw [hr.1]; exact hr.2.2.2.1
  · show rm 0 (s 0 - 1 - 1) = c
    rw [hr.1]; exact hr.2.2.1
  · show rm 0 (s 0 - 1 - 2) = a
    rw [hr.1]; exact hr.2.1
  · intro t ht
    show yStp g (fun x y => ρ y x) (s t) (fun i => rm t (s t - 1 - i)) (s t - 1 - kk t) (pp t) (s (t+1)) (fun i => rm (t+1) (s (t+1) - 1 - i)) ∧ ∀ i, yFre g (s t) (fun i => rm t (s t - 1 - i)) i → rm t (s t - 1 - i) ≤ rm t (s t - 1 - (s t - 1 - kk t))
    obtain ⟨hS, hmax⟩ := hr.2.2.2.2 t ht
    have hR := yRun_rim h hab hc hr t (by omega)
    obtain ⟨e0, e1, F1, F3, F2, F4⟩ := yStp_facts h hR hS
    obtain ⟨hk1, hk2, hpp, ha, hb, hcc, hd, hfree⟩ := hS
    have hvk : rm t (s t - 1 - (s t - 1 - kk t)) = rm t (kk t) := by congr 1; omega
    refine ⟨⟨by omega, by omega, hpp, ?_, ?_, ?_, ?_, ?_⟩, ?_⟩
    · intro i hi
      have := hb (s t - 1 - i) (by omega) (by omega)
      rw [show s t - 1 - i + pp t - 1 = s (t+1) - 1 - i by omega] at this
      exact this
    · intro i hi hi'
      have := ha (s t - 1 - i) (by omega)
      show rm (t+1) (s (t+1) - 1 - (i + pp t - 1)) = rm t (s t - 1 - i)
      rw [show s (t+1) - 1 - (i + pp t - 1) = s t - 1 - i by omega]
      exact this
    · intro j hj
      show ρ (rm (t+1) (s (t+1) - 1 - (s t - 1 - kk t + j))) (rm t (s t - 1 - (s t - 1 - kk t))) = rm (t+1) (s (t+1) - 1 - (s t - 1 - kk t + j - 1))
      rw [hvk]
      have c1 := hcc (pp t - j) (by omega)
      have f1 := (F1 (pp t - j + 1) (by omega)).2
      rw [show kk t + (pp t - j + 1) - 1 = kk t + (pp t - j) by omega] at f1
      have tt := (yTg_th h f1).2.2.2.2.1
      rw [c1] at tt
      rw [show s (t+1) - 1 - (s t - 1 - kk t + j) = kk t + (pp t - j) - 1 by omega, show s (t+1) - 1 - (s t - 1 - kk t + j - 1) = kk t + (pp t - j) by omega]
      exact tt
    · intro j hj
      show rm (t+1) (s (t+1) - 1 - (s t - 1 - kk t + j)) ≠ rm t (s t - 1 - (s t - 1 - kk t - 1))
      rw [show s (t+1) - 1 - (s t - 1 - kk t + j) = kk t + (pp t - 1 - j) by omega, show s t - 1 - (s t - 1 - kk t - 1) = kk t + 1 by omega]
      exact F2 (pp t - 1 - j) (by omega) (kk t + 1) (by omega)
    · intro i h1 h2 h3 h4
      show g (rm t (s t - 1 - (s t - 1 - kk t))) (rm t (s t - 1 - i)) = false
      rw [hvk]
      exact hfree (s t - 1 - i) (by omega) (by omega) (by omega) (by omega)
    · intro i hf
      show rm t (s t - 1 - i) ≤ rm t (s t - 1 - (s t - 1 - kk t))
      rw [hvk]
      apply hmax
      obtain ⟨f1, f2, f3⟩ := hf
      refine ⟨by omega, by omega, fun j h1 h2 h3 h4 => ?_⟩
      have := f3 (s t - 1 - j) (by omega) (by omega) (by omega) (by omega)
      have this' : g (rm t (s t - 1 - i)) (rm t (s t - 1 - (s t - 1 - j))) = false := this
      rw [show s t - 1 - (s t - 1 - j) = j by omega] at this'
      exact this'
end


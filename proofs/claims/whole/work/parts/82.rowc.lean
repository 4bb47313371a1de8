
-- rows of ends, one behind the other
def yRw (N : Nat) (rs : Nat → Nat) (rw : Nat → Nat → Nat) (st en : Nat → Int32) : Prop :=
  N ≤ 180 ∧ yS N rs ≤ 160 ∧ (∀ v, v ≤ N → st v = Int32.ofNat (yS v rs)) ∧ (∀ v i, v < N → i < rs v → en (yS v rs + i) = Int32.ofNat (rw v i)) ∧ (∀ v i, v < N → i < rs v → rw v i < 160)

theorem yS_mono (f : Nat → Nat) {a b : Nat} (h : a ≤ b) : yS a f ≤ yS b f := by
  obtain ⟨d, rfl⟩ := Nat.exists_eq_add_of_le h
  induction d with
  | zero => exact Nat.le_refl _
  | succ d ih => have := ih (by omega); rw [← Nat.add_assoc]; simp only [yS]; omega

theorem yS_at (f : Nat → Nat) {v N : Nat} (h : v < N) : yS v f + f v ≤ yS N f := by
  have := yS_mono f (show v + 1 ≤ N by omega)
  simp only [yS] at this; exact this

section
variable {N : Nat} {rs : Nat → Nat} {rw' : Nat → Nat → Nat} {st en : Nat → Int32}

theorem w7_size (h : yRw N rs rw' st en) {v : Nat} (hv : v < N) (i0 : Int32) (K : Int32 → Unit → Prop) (hK : K (Int32.ofNat (rs v)) ()) : wX7_size i0 st (Int32.ofNat v) K := by
  obtain ⟨h1, h2, h3, h4, h5⟩ := h
  have e1 : Int32.ofNat v + 1 = Int32.ofNat (v+1) := yn_add v 1
  have hle := yS_at rs hv
  unfold wX7_size
  rw [e1, yn_nat (by omega), yn_nat (by omega), h3 (v+1) (by omega), h3 v (by omega), yn_sub (by simp only [yS]; omega)]
  refine ⟨yn_in (by omega) (by omega), yn_in (by omega) (by omega), ?_⟩
  have : yS (v+1) rs - yS v rs = rs v := by simp only [yS]; omega
  rw [this]; exact hK

theorem w7_has (h : yRw N rs rw' st en) (p q : Int32) (K : Int32 → Unit → Prop)
    (hK1 : ∀ v i, v < N → i < rs v → p = Int32.ofNat v → q = Int32.ofNat i → K 1 ()) (hK0 : (¬ ∃ v i, v < N ∧ i < rs v ∧ p = Int32.ofNat v ∧ q = Int32.ofNat i) → K 0 ()) : wX7_has (Int32.ofNat N) st p q K := by
  have hN := h.1
  unfold wX7_has
  refine ⟨fun hp => hK0 ?_, fun hp => ?_⟩
  · rintro ⟨v, i, hv, hi, e1, e2⟩
    rw [e1] at hp; exact yn_neg (by omega) hp
  obtain ⟨v, hv, rfl⟩ := yn_of hp
  refine ⟨fun hle => hK0 ?_, fun hlt => ?_⟩
  · rw [yn_le (by omega) (by omega)] at hle
    rintro ⟨v', i, hv', hi, e1, e2⟩
    have := (yn_inj (by omega) (by omega)).1 e1; omega
  rw [yn_le (by omega) (by omega)] at hlt
  have hsz := yS_at rs (show v < N by omega)
  have hT := h.2.1
  refine ⟨fun hq => hK0 ?_, fun hq => ?_⟩
  · rintro ⟨v', i, hv', hi, e1, e2⟩
    have hs2 := yS_at rs hv'
    rw [e2] at hq; exact yn_neg (by omega) hq
  obtain ⟨i, hi, rfl⟩ := yn_of hq
  refine w7_size h (by omega) _ _ ?_
  refine ⟨fun hle => hK0 ?_, fun hgt => ?_⟩
  · rw [yn_le (by omega) (by omega)] at hle
    rintro ⟨v', i', hv', hi', e1, e2⟩
    have a1 := (yn_inj (by omega) (by omega)).1 e1
    have hs2 := yS_at rs hv'
    have a2 := (yn_inj (by omega) (by omega)).1 e2
    rw [← a1] at hi'; omega
  · rw [yn_le (by omega) (by omega)] at hgt
    exact hK1 v i (by omega) (by omega) rfl rfl

theorem w7_get (h : yRw N rs rw' st en) {v i : Nat} (hv : v < N) (hi : i < rs v) (i0 : Int32) (K : Int32 → Unit → Prop) (hK : K (Int32.ofNat (rw' v i)) ()) : wX7_get i0 st en (Int32.ofNat v) (Int32.ofNat i) K := by
  obtain ⟨h1, h2, h3, h4, h5⟩ := h
  have hle := yS_at rs hv
  unfold wX7_get
  rw [yn_nat (by omega), h3 v (by omega), yn_add, yn_nat (by omega), h4 v i hv hi]
  exact ⟨yn_in (by omega) (by omega), yn_in (by omega) (by omega), hK⟩

theorem w7_open (h : yRw N rs rw' st en) (hN : N < 180) (K : (Int32 × (Nat → Int32)) → Prop) (hK : ∀ st', yRw (N+1) (fun v => if v = N then 0 else rs v) rw' st' en → K (Int32.ofNat (N+1), st')) : wX7_open (Int32.ofNat N) st K := by
  obtain ⟨h1, h2, h3, h4, h5⟩ := h
  have e1 : Int32.ofNat N + 1 = Int32.ofNat (N+1) := yn_add N 1
  have e180 : (180 : Int32) = Int32.ofNat 180 := rfl
  have hs : ∀ v, v ≤ N → yS v (fun v => if v = N then 0 else rs v) = yS v rs := by
    intro v hv
    apply yS_congr
    intro i hi
    rw [if_neg (by omega)]
  unfold wX7_open
  rw [e1, yn_nat (by omega), yn_nat (by omega)]
  refine ⟨fun hh => ?_, fun _ => ⟨yn_in (by omega) (by omega), yn_in (by omega) (by omega), fun st' hst v37 h37 => ?_⟩⟩
  · exfalso; rw [e180, yn_le (by omega) (by omega)] at hh; omega
  · rw [h37]
    apply hK
    have hT : yS (N+1) (fun v => if v = N then 0 else rs v) = yS N rs := by
      show yS N _ + (if N = N then 0 else rs N) = yS N rs; rw [if_pos rfl, Nat.add_zero]; exact hs N (Nat.le_refl _)
    refine ⟨by omega, by rw [hT]; exact h2, ?_, ?_, ?_⟩
    · intro v hv
      rw [hst]
      by_cases c : v = N + 1
      · rw [c, yupd_same, hT, h3 N (Nat.le_refl _)]
      · rw [yupd_ne _ _ _ _ c, hs v (by omega)]; exact h3 v (by omega)
    · intro v i hv hi
      try dsimp only at hi
      by_cases c : v = N
      · rw [if_pos c] at hi; omega
      · rw [if_neg c] at hi
        rw [hs v (by omega)]; exact h4 v i (by omega) hi
    · intro v i hv hi
      try dsimp only at hi
      by_cases c : v = N
      · rw [if_pos c] at hi; omega
      · rw [if_neg c] at hi; exact h5 v i (by omega) hi

theorem w7_append (h : yRw N rs rw' st en) {v e : Nat} (hv : v < N) (he : e < 160) (hT : yS N rs < 160) (K : ((Nat → Int32) × (Nat → Int32)) → Prop)
    (hK : ∀ st' en', yRw N (fun u => if u = v then rs v + 1 else rs u) (fun u i => if u = v ∧ i = rs v then e else rw' u i) st' en' → K (st', en')) : wX7_append (Int32.ofNat N) st en (Int32.ofNat v) (Int32.ofNat e) K := by
  obtain ⟨h1, h2, h3, h4, h5⟩ := h
  have ev : Int32.ofNat v + 1 = Int32.ofNat (v+1) := yn_add v 1
  have e160 : (160 : Int32) = Int32.ofNat 160 := rfl
  have h1eq : (1 : Int32) = Int32.ofNat 1 := rfl
  have hPT := yS_mono rs (show v + 1 ≤ N by omega)
  have hS1 : yS (v+1) rs = yS v rs + rs v := rfl
  have hlow : ∀ u, u ≤ v → yS u (fun u => if u = v then rs v + 1 else rs u) = yS u rs := by
    intro u hu; apply yS_congr; intro i hi; rw [if_neg (by omega)]
  have hhigh : ∀ d, yS (v+1+d) (fun u => if u = v then rs v + 1 else rs u) = yS (v+1+d) rs + 1 := by
    intro d
    induction d with
    | zero =>
      show yS v _ + (if v = v then rs v + 1 else rs v) = yS v rs + rs v + 1
      rw [hlow v (Nat.le_refl _), if_pos rfl]; omega
    | succ d ih =>
      rw [← Nat.add_assoc]
      show yS (v+1+d) _ + (if v+1+d = v then rs v + 1 else rs (v+1+d)) = yS (v+1+d) rs + rs (v+1+d) + 1
      rw [ih, if_neg (by omega)]; omega
  have hhigh' : ∀ u, v < u → yS u (fun u => if u = v then rs v + 1 else rs u) = yS u rs + 1 := by
    intro u hu
    have := hhigh (u-(v+1))
    rw [show v + 1 + (u-(v+1)) = u by omega] at this; exact this
  -- the starts
  have h76 : ∀ en', (∀ j, j < yS (v+1) rs → en' j = en j) → en' (yS (v+1) rs) = Int32.ofNat e → (∀ j, yS (v+1) rs ≤ j → j < yS N rs → en' (j+1) = en j) → ∀ d r st', N + 1 - r = d → v + 1 ≤ r → r ≤ N + 1 → (∀ u, u ≤ N → st' u = Int32.ofNat (if v < u ∧ u < r then yS u rs + 1 else yS u rs)) →
      wLX7_append_76 (Int32.ofNat N) en' K (d+1) st' (Int32.ofNat r) := by
    intro en' q1 q2 q3 d
    induction d with
    | zero =>
      intro r st' hd hr hr2 hst
      have : r = N + 1 := by omega
      subst this
      unfold wLX7_append_76
      refine ⟨fun _ => hK st' en' ⟨h1, ?_, ?_, ?_, ?_⟩, fun hh => ?_⟩
      · rw [hhigh' N (by omega)]; omega
      · intro u hu
        rw [hst u hu]
        by_cases c : v < u
        · rw [if_pos ⟨c, by omega⟩, hhigh' u c]
        · rw [if_neg (by omega), hlow u (by omega)]
      · intro u i hu hi
        try dsimp only at hi
        try dsimp only
        rcases Nat.lt_trichotomy u v with c | c | c
        · rw [if_neg (by omega)] at hi
          have a1 := yS_at rs c
          rw [hlow u (by omega), if_neg (by omega), q1 _ (by omega)]
          exact h4 u i hu hi
        · subst c
          rw [if_pos rfl] at hi
          rw [hlow u (Nat.le_refl _)]
          by_cases c2 : i = rs u
          · rw [if_pos ⟨rfl, c2⟩, c2, ← hS1]; exact q2
          · rw [if_neg (by omega), q1 _ (by omega)]; exact h4 u i hu (by omega)
        · rw [if_neg (by omega)] at hi
          have a1 := yS_mono rs (show v + 1 ≤ u by omega)
          have a2 := yS_at rs hu
          rw [hhigh' u c, if_neg (by omega), show yS u rs + 1 + i = (yS u rs + i) + 1 by omega, q3 _ (by omega) (by omega)]
          exact h4 u i hu hi
      · intro u i hu hi
        try dsimp only at hi
        try dsimp only
        by_cases c : u = v
        · subst c
          rw [if_pos rfl] at hi
          by_cases c2 : i = rs u
          · rw [if_pos ⟨rfl, c2⟩]; exact he
          · rw [if_neg (by omega)]; exact h5 u i hu (by omega)
        · rw [if_neg c] at hi
          rw [if_neg (by omega)]; exact h5 u i hu hi
      · exfalso; apply hh; rw [yn_lt (by omega) (by omega)]; omega
    | succ d ih =>
      intro r st' hd hr hr2 hst
      have er : Int32.ofNat r + 1 = Int32.ofNat (r+1) := yn_add r 1
      have e2 : Int32.ofNat (yS r rs) + 1 = Int32.ofNat (yS r rs + 1) := yn_add _ 1
      unfold wLX7_append_76
      rw [er, yn_nat (by omega), hst r (by omega), if_neg (by omega), e2]
      refine ⟨fun hh => ?_, fun _ => ⟨yn_in (by omega) (by omega), yn_in (by omega) (by omega), fun st2 hst2 => ih (r+1) st2 (by omega) (by omega) (by omega) ?_⟩⟩
      · exfalso; rw [yn_lt (by omega) (by omega)] at hh; omega
      · intro u hu
        rw [hst2]
        by_cases c : u = r
        · rw [c, yupd_same, if_pos (by omega)]
        · rw [yupd_ne _ _ _ _ c, hst u hu]
          congr 1
          by_cases c2 : v < u ∧ u < r
          · rw [if_pos c2, if_pos (by omega)]
          · rw [if_neg c2, if_neg (by omega)]
  have h26 : ∀ d i en', i - yS (v+1) rs = d → yS (v+1) rs ≤ i → i ≤ yS N rs → (∀ j, j < i → en' j = en j) → (∀ j, i ≤ j → j < yS N rs → en' (j+1) = en j) → wLX7_append_26 (Int32.ofNat N) st (Int32.ofNat v) (Int32.ofNat e) K (d+1) en' (Int32.ofNat i) := by
    intro d
    induction d with
    | zero =>
      intro i en' hd hi1 hi2 q1 q2
      have : i = yS (v+1) rs := by omega
      subst this
      unfold wLX7_append_26
      rw [ev, yn_nat (by omega), h3 (v+1) (by omega), yn_nat (by omega)]
      refine ⟨yn_in (by omega) (by omega), fun _ => ⟨yn_in (by omega) (by omega), yn_in (by omega) (by omega), fun en2 hen2 v75 h75 => ?_⟩, fun hh => ?_⟩
      · rw [h75]
        refine ⟨_, h76 en2 ?_ ?_ ?_ (N+1-(v+1)) (v+1) st rfl (by omega) (by omega) ?_⟩
        · intro j hj; rw [hen2, yupd_ne _ _ _ _ (by omega)]; exact q1 j hj
        · rw [hen2, yupd_same]
        · intro j hj1 hj2; rw [hen2, yupd_ne _ _ _ _ (by omega)]; exact q2 j hj1 hj2
        · intro u hu; rw [h3 u hu, if_neg (by omega)]
      · exfalso; apply hh; rw [yn_le (by omega) (by omega)]; omega
    | succ d ih =>
      intro i en' hd hi1 hi2 q1 q2
      have e1 : Int32.ofNat i + (-1) = Int32.ofNat (i-1) := by
        have : Int32.ofNat (i-1) = Int32.ofNat i - Int32.ofNat 1 := (yn_sub (by omega)).symm
        rw [this, Int32.sub_eq_add_neg]; rfl
      have e2 : Int32.ofNat i - 1 = Int32.ofNat (i-1) := by rw [h1eq, yn_sub (by omega)]
      unfold wLX7_append_26
      rw [ev, e1, e2, yn_nat (by omega), h3 (v+1) (by omega), yn_nat (by omega), yn_nat (by omega)]
      refine ⟨yn_in (by omega) (by omega), fun hh => ?_, fun _ => ⟨yn_in (by omega) (by omega), yn_in (by omega) (by omega), fun en2 hen2 => ih (i-1) en2 (by omega) (by omega) (by omega) ?_ ?_⟩⟩
      · exfalso; rw [yn_le (by omega) (by omega)] at hh; omega
      · intro j hj; rw [hen2, yupd_ne _ _ _ _ (by omega)]; exact q1 j (by omega)
      · intro j hj1 hj2
        rw [hen2]
        by_cases c : j + 1 = i
        · rw [c, yupd_same, yn_nat (by omega), q1 (i-1) (by omega)]; congr 1; omega
        · rw [yupd_ne _ _ _ _ c]; exact q2 j (by omega) hj2
  unfold wX7_append
  rw [yn_nat (by omega), h3 N (Nat.le_refl _)]
  refine ⟨yn_in (by omega) (by omega), fun _ => ⟨yn_in (by omega) (by omega), fun v25 h25 => ?_⟩, fun hh => ?_⟩
  · rw [h25]
    exact ⟨_, h26 (yS N rs - yS (v+1) rs) (yS N rs) en rfl hPT (Nat.le_refl _) (fun j _ => rfl) (fun j h1 h2 => by omega)⟩
  · exfalso; apply hh; rw [e160, yn_lt (by omega) (by omega)]; omega

-- an end is taken out
theorem w7_remove (h : yRw N rs rw' st en) {v p : Nat} (hv : v < N) (hp : p < rs v) (huniq : ∀ u i, u < N → i < rs u → rw' u i = rw' v p → u = v ∧ i = p) (K : ((Nat → Int32) × (Nat → Int32)) → Prop)
    (hK : ∀ st' en', yRw N (fun u => if u = v then rs v - 1 else rs u) (fun u i => if u = v ∧ p ≤ i then rw' u (i+1) else rw' u i) st' en' → K (st', en')) : wX7_remove (Int32.ofNat N) st en (Int32.ofNat v) (Int32.ofNat (rw' v p)) K := by
  obtain ⟨h1, h2, h3, h4, h5⟩ := h
  have ev : Int32.ofNat v + 1 = Int32.ofNat (v+1) := yn_add v 1
  have h1eq : (1 : Int32) = Int32.ofNat 1 := rfl
  have hvT := yS_at rs hv
  have hlow : ∀ u, u ≤ v → yS u (fun u => if u = v then rs v - 1 else rs u) = yS u rs := by
    intro u hu; apply yS_congr; intro i hi; rw [if_neg (by omega)]
  have hhigh : ∀ d, yS (v+1+d) (fun u => if u = v then rs v - 1 else rs u) + 1 = yS (v+1+d) rs := by
    intro d
    induction d with
    | zero =>
      show yS v _ + (if v = v then rs v - 1 else rs v) + 1 = yS v rs + rs v
      rw [hlow v (Nat.le_refl _), if_pos rfl]; omega
    | succ d ih =>
      rw [← Nat.add_assoc]
      show yS (v+1+d) _ + (if v+1+d = v then rs v - 1 else rs (v+1+d)) + 1 = yS (v+1+d) rs + rs (v+1+d)
      rw [if_neg (by omega)]; omega
  have hhigh' : ∀ u, v < u → yS u (fun u => if u = v then rs v - 1 else rs u) + 1 = yS u rs := by
    intro u hu
    have := hhigh (u-(v+1))
    rw [show v + 1 + (u-(v+1)) = u by omega] at this; exact this
  -- every place belongs to a row
  have hplace : ∀ m j, m ≤ N → j < yS m rs → ∃ u i, u < m ∧ i < rs u ∧ j = yS u rs + i := by
    intro m
    induction m with
    | zero => intro j _ hj; simp [yS] at hj
    | succ m ih =>
      intro j hm hj
      rcases Nat.lt_or_ge j (yS m rs) with c | c
      · obtain ⟨u, i, a1, a2, a3⟩ := ih j (by omega) c
        exact ⟨u, i, by omega, a2, a3⟩
      · simp only [yS] at hj
        exact ⟨m, j - yS m rs, by omega, by omega, by omega⟩
  have hval : ∀ j, j < yS N rs → (en j = Int32.ofNat (rw' v p) ↔ j = yS v rs + p) := by
    intro j hj
    obtain ⟨u, i, a1, a2, a3⟩ := hplace N j (Nat.le_refl _) hj
    have b1 := h5 u i a1 a2; have b2 := h5 v p hv hp
    rw [a3, h4 u i a1 a2, yn_inj (by omega) (by omega)]
    constructor
    · intro e
      obtain ⟨e1, e2⟩ := huniq u i a1 a2 e
      rw [e1, e2]
    · intro e
      -- the same place is the same row
      have : u = v := by
        rcases Nat.lt_trichotomy u v with c | c | c
        · have := yS_at rs c; omega
        · exact c
        · have := yS_at rs c; omega
      subst this
      rw [show i = p by omega]
  have h80 : ∀ en', (∀ j, j < yS v rs + p → en' j = en j) → (∀ j, yS v rs + p ≤ j → j + 1 < yS N rs → en' j = en (j+1)) → ∀ d r st', N + 1 - r = d → v + 1 ≤ r → r ≤ N + 1 → (∀ u, u ≤ N → st' u = Int32.ofNat (if v < u ∧ u < r then yS u rs - 1 else yS u rs)) →
      wLX7_remove_80 (Int32.ofNat N) en' (Int32.ofNat 1) K (d+1) st' (Int32.ofNat r) := by
    intro en' q1 q2 d
    induction d with
    | zero =>
      intro r st' hd hr hr2 hst
      have : r = N + 1 := by omega
      subst this
      unfold wLX7_remove_80
      refine ⟨fun _ => hK st' en' ⟨h1, ?_, ?_, ?_, ?_⟩, fun hh => ?_⟩
      · have := hhigh' N (by omega); omega
      · intro u hu
        rw [hst u hu]
        by_cases c : v < u
        · have := hhigh' u c
          rw [if_pos ⟨c, by omega⟩]; congr 1; omega
        · rw [if_neg (by omega), hlow u (by omega)]
      · intro u i hu hi
        try dsimp only at hi
        try dsimp only
        rcases Nat.lt_trichotomy u v with c | c | c
        · rw [if_neg (by omega)] at hi
          have a1 := yS_at rs c
          rw [hlow u (by omega), if_neg (by omega), q1 _ (by omega)]
          exact h4 u i hu hi
        · subst c
          rw [if_pos rfl] at hi
          rw [hlow u (Nat.le_refl _)]
          by_cases c2 : p ≤ i
          · rw [if_pos ⟨rfl, c2⟩, q2 _ (by omega) (by omega), Nat.add_assoc]
            exact h4 u (i+1) hu (by omega)
          · rw [if_neg (by omega), q1 _ (by omega)]; exact h4 u i hu (by omega)
        · rw [if_neg (by omega)] at hi
          have a1 := yS_at rs c
          have a2 := yS_at rs hu
          have a3 := hhigh' u c
          rw [if_neg (by omega), q2 _ (by omega) (by omega)]
          rw [show yS u (fun u => if u = v then rs v - 1 else rs u) + i + 1 = yS u rs + i by omega]
          exact h4 u i hu hi
      · intro u i hu hi
        try dsimp only at hi
        try dsimp only
        by_cases c : u = v
        · subst c
          rw [if_pos rfl] at hi
          by_cases c2 : p ≤ i
          · rw [if_pos ⟨rfl, c2⟩]; exact h5 u (i+1) hu (by omega)
          · rw [if_neg (by omega)]; exact h5 u i hu (by omega)
        · rw [if_neg c] at hi
          rw [if_neg (by omega)]; exact h5 u i hu hi
      · exfalso; apply hh; rw [yn_lt (by omega) (by omega)]; omega
    | succ d ih =>
      intro r st' hd hr hr2 hst
      have er : Int32.ofNat r + 1 = Int32.ofNat (r+1) := yn_add r 1
      have hge := yS_mono rs (show v + 1 ≤ r by omega)
      have hge' : yS (v+1) rs = yS v rs + rs v := rfl
      unfold wLX7_remove_80
      rw [er, yn_nat (by omega), hst r (by omega), if_neg (by omega), yn_sub (by omega)]
      refine ⟨fun hh => ?_, fun _ => ⟨yn_in (by omega) (by omega), yn_in (by omega) (by omega), fun st2 hst2 => ih (r+1) st2 (by omega) (by omega) (by omega) ?_⟩⟩
      · exfalso; rw [yn_lt (by omega) (by omega)] at hh; omega
      · intro u hu
        rw [hst2]
        by_cases c : u = r
        · rw [c, yupd_same, if_pos (by omega)]
        · rw [yupd_ne _ _ _ _ c, hst u hu]
          congr 1
          by_cases c2 : v < u ∧ u < r
          · rw [if_pos c2, if_pos (by omega)]
          · rw [if_neg c2, if_neg (by omega)]
  have h15 : ∀ d i en', yS N rs - i = d → yS v rs ≤ i → i ≤ yS N rs → (∀ j, j < yS v rs + p → en' j = en j) → (∀ j, yS v rs + p ≤ j → j + 1 < i → en' j = en (j+1)) → (∀ j, i ≤ j → j < yS N rs → en' j = en j) →
      wLX7_remove_15 (Int32.ofNat N) st (Int32.ofNat v) (Int32.ofNat (rw' v p)) K (d+1) en' (Int32.ofNat (if i ≤ yS v rs + p then i else i - 1)) (Int32.ofNat i) := by
    intro d
    induction d with
    | zero =>
      intro i en' hd hi1 hi2 q1 q2 q3
      have : i = yS N rs := by omega
      subst this
      rw [if_neg (by omega)]
      unfold wLX7_remove_15
      rw [yn_nat (by omega), h3 N (Nat.le_refl _), ev]
      refine ⟨yn_in (by omega) (by omega), fun _ => ⟨yn_in (by omega) (by omega), fun v73 h73 v78 h78 => ?_⟩, fun hh => ?_⟩
      · rw [yn_sub (by omega), show yS N rs - (yS N rs - 1) = 1 by omega] at h73
        rw [h73, h78]
        exact ⟨_, h80 en' q1 (fun j h1 h2 => q2 j h1 h2) (N+1-(v+1)) (v+1) st rfl (by omega) (by omega) (fun u hu => by rw [h3 u hu, if_neg (by omega)])⟩
      · exfalso; apply hh; rw [yn_le (by omega) (by omega)]; omega
    | succ d ih =>
      intro i en' hd hi1 hi2 q1 q2 q3
      have ei : Int32.ofNat i + 1 = Int32.ofNat (i+1) := yn_add i 1
      unfold wLX7_remove_15
      rw [yn_nat (by omega), h3 N (Nat.le_refl _), ei, yn_nat (by omega : i < 2147483648), q3 i (Nat.le_refl _) (by omega)]
      refine ⟨yn_in (by omega) (by omega), fun hh => ?_, fun _ => ⟨yn_in (by omega) (by omega), fun he => ?_, fun hne => ?_⟩⟩
      · exfalso; rw [yn_le (by omega) (by omega)] at hh; omega
      · have hi : i = yS v rs + p := (hval i (by omega)).1 he
        have := ih (i+1) en' (by omega) (by omega) (by omega) q1 (fun j h1 h2 => by omega) (fun j h1 h2 => q3 j (by omega) h2)
        rw [if_neg (by omega), show i + 1 - 1 = i by omega] at this
        rw [if_pos (by omega)]
        exact this
      · have hi : i ≠ yS v rs + p := fun e => hne ((hval i (by omega)).2 e)
        by_cases c : i ≤ yS v rs + p
        · rw [if_pos c, yn_nat (by omega), ei]
          refine ⟨yn_in (by omega) (by omega), yn_in (by omega) (by omega), fun en2 hen2 => ?_⟩
          have hsame : ∀ j, en2 j = en' j := by
            intro j
            rw [hen2]
            by_cases c2 : j = i
            · rw [c2, yupd_same, q3 i (Nat.le_refl _) (by omega)]
            · rw [yupd_ne _ _ _ _ c2]
          have := ih (i+1) en2 (by omega) (by omega) (by omega) (fun j hj => by rw [hsame]; exact q1 j hj) (fun j h1 h2 => by omega) (fun j h1 h2 => by rw [hsame]; exact q3 j (by omega) h2)
          rw [if_pos (by omega)] at this
          exact this
        · have ek : Int32.ofNat (i-1) + 1 = Int32.ofNat i := by rw [h1eq, yn_add]; congr 1; omega
          rw [if_neg c, yn_nat (by omega), ek]
          refine ⟨yn_in (by omega) (by omega), yn_in (by omega) (by omega), fun en2 hen2 => ?_⟩
          have := ih (i+1) en2 (by omega) (by omega) (by omega) (fun j hj => by rw [hen2, yupd_ne _ _ _ _ (by omega)]; exact q1 j hj) (fun j h1 h2 => by
            rw [hen2]
            by_cases c2 : j = i - 1
            · rw [c2, yupd_same]; congr 1; omega
            · rw [yupd_ne _ _ _ _ c2]; exact q2 j h1 (by omega)) (fun j h1 h2 => by rw [hen2, yupd_ne _ _ _ _ (by omega)]; exact q3 j (by omega) h2)
          rw [if_neg (by omega), show i + 1 - 1 = i by omega] at this
          exact this
  unfold wX7_remove
  rw [yn_nat (by omega), h3 v (by omega)]
  refine ⟨yn_in (by omega) (by omega), fun v6 h6 => ⟨yn_in (by omega) (by omega), fun v13 h13 => ?_⟩⟩
  rw [h6, h13]
  have := h15 (yS N rs - yS v rs) (yS v rs) en rfl (Nat.le_refl _) (by omega) (fun j _ => rfl) (fun j h1 h2 => by omega) (fun j _ _ => rfl)
  rw [if_pos (by omega)] at this
  exact ⟨_, this⟩

theorem w7_exchange (h : yRw N rs rw' st en) {v i j : Nat} (hv : v < N) (hi : i < rs v) (hj : j < rs v) (i0 : Int32) (K : (Nat → Int32) → Prop)
    (hK : ∀ en', yRw N rs (fun u k => if u = v ∧ k = j then rw' v i else if u = v ∧ k = i then rw' v j else rw' u k) st en' → K en') : wX7_exchange i0 st en (Int32.ofNat v) (Int32.ofNat i) (Int32.ofNat j) K := by
  obtain ⟨h1, h2, h3, h4, h5⟩ := h
  have hvT := yS_at rs hv
  unfold wX7_exchange
  rw [yn_nat (by omega : v < 2147483648), h3 v (by omega), yn_add, yn_add, yn_nat (by omega), yn_nat (by omega), h4 v i hv hi, h4 v j hv hj]
  refine ⟨yn_in (by omega) (by omega), yn_in (by omega) (by omega), fun v13 h13 => ⟨yn_in (by omega) (by omega), yn_in (by omega) (by omega), yn_in (by omega) (by omega), yn_in (by omega) (by omega), fun g40 h40 => ⟨yn_in (by omega) (by omega), yn_in (by omega) (by omega), fun g55 h55 => hK g55 ⟨h1, h2, h3, ?_, ?_⟩⟩⟩⟩
  · intro u k hu hk
    try dsimp only
    rw [h55, h13]
    by_cases c1 : u = v ∧ k = j
    · rw [if_pos c1, c1.1, c1.2, yupd_same]
    · have hne : yS u rs + k ≠ yS v rs + j := by
        intro e
        apply c1
        have : u = v := by
          rcases Nat.lt_trichotomy u v with c | c | c
          · have := yS_at rs c; omega
          · exact c
          · have := yS_at rs c; omega
        subst this
        exact ⟨rfl, by omega⟩
      rw [if_neg c1, yupd_ne _ _ _ _ hne, h40]
      by_cases c2 : u = v ∧ k = i
      · rw [if_pos c2, c2.1, c2.2, yupd_same]
      · have hne2 : yS u rs + k ≠ yS v rs + i := by
          intro e
          apply c2
          have : u = v := by
            rcases Nat.lt_trichotomy u v with c | c | c
            · have := yS_at rs c; omega
            · exact c
            · have := yS_at rs c; omega
          subst this
          exact ⟨rfl, by omega⟩
        rw [if_neg c2, yupd_ne _ _ _ _ hne2]; exact h4 u k hu hk
  · intro u k hu hk
    try dsimp only
    by_cases c1 : u = v ∧ k = j
    · rw [if_pos c1]; exact h5 v i hv hi
    · rw [if_neg c1]
      by_cases c2 : u = v ∧ k = i
      · rw [if_pos c2]; exact h5 v j hv hj
      · rw [if_neg c2]; exact h5 u k hu hk
end


-- the graph that some of the arcs make
def yGk : Nat → (Nat → Nat) → (Nat → Nat) → (Nat → Bool) → Nat → Nat → Bool
  | 0, _, _, _ => fun _ _ => false
  | k+1, F, T, c => if c k = true ∧ F k ≠ T k then yAddE (yGk k F T c) (F k) (T k) else yGk k F T c

theorem yGk_iff (F T : Nat → Nat) (c : Nat → Bool) (M v w : Nat) : yGk M F T c v w = true ↔ ∃ k, k < M ∧ c k = true ∧ F k ≠ T k ∧ ((F k = v ∧ T k = w) ∨ (F k = w ∧ T k = v)) := by
  induction M with
  | zero => simp [yGk]
  | succ M ih =>
    unfold yGk
    constructor
    · intro h
      split at h
      · rename_i hc
        unfold yAddE at h
        rw [Bool.or_eq_true, decide_eq_true_eq] at h
        rcases h with h | h
        · obtain ⟨k, a1, a2⟩ := ih.1 h; exact ⟨k, by omega, a2⟩
        · exact ⟨M, by omega, hc.1, hc.2, by omega⟩
      · obtain ⟨k, a1, a2⟩ := ih.1 h; exact ⟨k, by omega, a2⟩
    · rintro ⟨k, a1, a2, a3, a4⟩
      by_cases e : k = M
      · subst e
        rw [if_pos ⟨a2, a3⟩]
        unfold yAddE
        rw [Bool.or_eq_true, decide_eq_true_eq]
        right; clear ih; omega
      · have := ih.2 ⟨k, by omega, a2, a3, a4⟩
        split
        · unfold yAddE; rw [this]; rfl
        · exact this

theorem yGk_sg {F T : Nat → Nat} {c : Nat → Bool} {M n : Nat} (hF : ∀ k, k < M → F k < n ∧ T k < n) : ySg n (yGk M F T c) := by
  constructor
  · intro v w h
    obtain ⟨k, a1, a2, a3, a4⟩ := (yGk_iff F T c M v w).1 h
    have := hF k a1
    omega
  · intro v w
    have h1 := yGk_iff F T c M v w
    have h2 := yGk_iff F T c M w v
    have : (yGk M F T c v w = true) ↔ (yGk M F T c w v = true) := by
      rw [h1, h2]
      constructor <;> (rintro ⟨k, a1, a2, a3, a4⟩; exact ⟨k, a1, a2, a3, by omega⟩)
    revert this
    cases yGk M F T c v w <;> cases yGk M F T c w v <;> simp

theorem yGk_congr {F T : Nat → Nat} {c d : Nat → Bool} {M : Nat} (h : ∀ k, k < M → c k = d k) : yGk M F T c = yGk M F T d := by
  induction M with
  | zero => rfl
  | succ M ih =>
    unfold yGk
    rw [ih (fun k hk => h k (by omega)), h M (by omega)]

theorem yGk_mono {F T : Nat → Nat} {c d : Nat → Bool} {M : Nat} (h : ∀ k, k < M → c k = true → d k = true) (v w : Nat) (hv : yGk M F T c v w = true) : yGk M F T d v w = true := by
  obtain ⟨k, a1, a2, a3⟩ := (yGk_iff F T c M v w).1 hv
  exact (yGk_iff F T d M v w).2 ⟨k, a1, h k a1 a2, a3⟩

theorem yGm_less {C n : Nat} {t : Nat → Int32} {g : Nat → Nat → Bool} (hn : n ≤ C) (hg : ∀ v w, g v w = true → v < n) (h : yGm C t = g) : yGm n t = g := by
  funext v w
  have h1 := congrFun (congrFun h v) w
  unfold yGm at h1 ⊢
  by_cases c : v < n
  · rw [decide_eq_true c]; rw [decide_eq_true (by omega)] at h1; exact h1
  · rw [decide_eq_false c]
    cases e : g v w with
    | false => rfl
    | true => exact absurd (hg v w e) c

-- how the class holds arcs
def yAt (M : Nat) (F T : Nat → Nat) (f : Nat → Int32) : Prop := ∀ k, k < M → f (2*k) = Int32.ofNat (F k) ∧ f (2*k+1) = Int32.ofNat (T k)
-- an array of true and false
def yBo (C : Nat) (c : Nat → Bool) (f : Nat → Int32) : Prop := ∀ k, k < C → f k = if c k = true then 1 else 0

theorem yBo_iff {C : Nat} {c : Nat → Bool} {f : Nat → Int32} (h : yBo C c f) {k : Nat} (hk : k < C) : f k = 0 ↔ c k = false := by
  rw [h k hk]
  cases c k <;> simp

theorem yn_2 (k : Nat) : (2 : Int32) * Int32.ofNat k = Int32.ofNat (2*k) := yn_mul 2 k
theorem yn_21' (k : Nat) : (2 : Int32) * Int32.ofNat k + 1 = Int32.ofNat (2*k+1) := by rw [yn_2]; exact yn_add _ 1

theorem w3_isLoop {M : Nat} {F T : Nat → Nat} {at' : Nat → Int32} (hA : yAt M F T at') (hM : M ≤ 80) (hF : ∀ k, k < M → F k < 20 ∧ T k < 20) {k : Nat} (hk : k < M) (i0 i1 i2 : Int32) (K : Int32 → Unit → Prop)
    (h1 : F k = T k → K 1 ()) (h0 : F k ≠ T k → K 0 ()) : wX3_isLoop i0 i1 i2 at' (Int32.ofNat k) K := by
  unfold wX3_isLoop
  have hb := hF k hk
  rw [yn_21', yn_2, yn_nat (by omega), yn_nat (by omega), (hA k hk).1, (hA k hk).2]
  refine ⟨yn_in (by omega) (by omega), yn_in (by omega) (by omega), fun hne => h0 (fun e => hne (by rw [e])), fun he => h1 ?_⟩
  exact (yn_inj (by omega) (by omega)).1 he

theorem w_fill160 (x : Int32) (f0 : Nat → Int32) (K : (Nat → Int32) → Prop) (hK : ∀ f, (∀ i, i < 160 → f i = x) → K f) : wJ7_fill_53178_2 f0 x K := by
  have key : ∀ d i t, 160 - i = d → i ≤ 160 → (∀ j, j < i → t j = x) → wLJ7_fill_53178_2_5 x K (d+1) t (Int32.ofNat i) := by
    have e4 : (160 : Int32) = Int32.ofNat 160 := rfl
    intro d
    induction d with
    | zero =>
      intro i t hd hi ht
      unfold wLJ7_fill_53178_2_5
      refine ⟨fun _ => hK t (fun j hj => ht j (by omega)), fun hh => ?_⟩
      exfalso; apply hh; rw [e4, yn_le (by omega) (by omega)]; omega
    | succ d ih =>
      intro i t hd hi ht
      have e1 : Int32.ofNat i + 1 = Int32.ofNat (i+1) := yn_add i 1
      unfold wLJ7_fill_53178_2_5
      rw [e1, yn_nat (by omega)]
      refine ⟨fun hh => ?_, fun _ => ⟨yn_in (by omega) (by omega), fun g hg => ih (i+1) g (by omega) (by omega) ?_⟩⟩
      · exfalso; rw [e4, yn_le (by omega) (by omega)] at hh; omega
      · intro j hj
        rw [hg]
        by_cases c : j = i
        · rw [c, yupd_same]
        · rw [yupd_ne _ _ _ _ c]; exact ht j (by omega)
  unfold wJ7_fill_53178_2
  exact ⟨160 - 0 + 1, key (160-0) 0 f0 rfl (by omega) (fun j hj => by omega)⟩

theorem w_fill21 (x : Int32) (f0 : Nat → Int32) (K : (Nat → Int32) → Prop) (hK : ∀ f, (∀ i, i < 21 → f i = x) → K f) : wJ7_fill_53178_3 f0 x K := by
  have key : ∀ d i t, 21 - i = d → i ≤ 21 → (∀ j, j < i → t j = x) → wLJ7_fill_53178_3_5 x K (d+1) t (Int32.ofNat i) := by
    have e4 : (21 : Int32) = Int32.ofNat 21 := rfl
    intro d
    induction d with
    | zero =>
      intro i t hd hi ht
      unfold wLJ7_fill_53178_3_5
      refine ⟨fun _ => hK t (fun j hj => ht j (by omega)), fun hh => ?_⟩
      exfalso; apply hh; rw [e4, yn_le (by omega) (by omega)]; omega
    | succ d ih =>
      intro i t hd hi ht
      have e1 : Int32.ofNat i + 1 = Int32.ofNat (i+1) := yn_add i 1
      unfold wLJ7_fill_53178_3_5
      rw [e1, yn_nat (by omega)]
      refine ⟨fun hh => ?_, fun _ => ⟨yn_in (by omega) (by omega), fun g hg => ih (i+1) g (by omega) (by omega) ?_⟩⟩
      · exfalso; rw [e4, yn_le (by omega) (by omega)] at hh; omega
      · intro j hj
        rw [hg]
        by_cases c : j = i
        · rw [c, yupd_same]
        · rw [yupd_ne _ _ _ _ c]; exact ht j (by omega)
  unfold wJ7_fill_53178_3
  exact ⟨21 - 0 + 1, key (21-0) 0 f0 rfl (by omega) (fun j hj => by omega)⟩

theorem w3_findNeighbours {M n : Nat} {F T : Nat → Nat} {c : Nat → Bool} {at' ch : Nat → Int32} (hA : yAt M F T at') (hM : M ≤ 80) (hn : n ≤ 20) (hF : ∀ k, k < M → F k < n ∧ T k < n) (hc : yBo M c ch) (f0 : Nat → Int32) (i1 i3 : Int32)
    (K : (Nat → Int32) → Prop) (hK : ∀ t, yGm 20 t = yGk M F T c → K t) : wX3_findNeighbours f0 i1 (Int32.ofNat M) i3 ch at' K := by
  have hF20 : ∀ k, k < M → F k < 20 ∧ T k < 20 := fun k hk => by have := hF k hk; omega
  have key : ∀ d k t, M - k = d → k ≤ M → yGm 20 t = yGk k F T c → wLX3_findNeighbours_7 i1 (Int32.ofNat M) i3 ch at' K (d+1) t (Int32.ofNat k) := by
    intro d
    induction d with
    | zero =>
      intro k t hd hk ht
      have : k = M := by omega
      subst this
      unfold wLX3_findNeighbours_7
      refine ⟨fun _ => hK t ht, fun hh => ?_⟩
      exfalso; apply hh; rw [yn_le (by omega) (by omega)]; omega
    | succ d ih =>
      intro k t hd hk ht
      have hk' : k < M := by omega
      have hb := hF20 k hk'
      have e1 : Int32.ofNat k + 1 = Int32.ofNat (k+1) := yn_add k 1
      unfold wLX3_findNeighbours_7
      rw [e1, yn_21', yn_2, yn_nat (by omega : k < 2147483648), yn_nat (by omega : 2*k < 2147483648), yn_nat (by omega : 2*k+1 < 2147483648), (hA k hk').1, (hA k hk').2, yn_nat (by omega : F k < 2147483648), yn_nat (by omega : T k < 2147483648)]
      refine ⟨fun hh => ?_, fun _ => ⟨yn_in (by omega) (by omega), fun h0 => ih (k+1) t (by omega) (by omega) ?_, fun h1 => ?_⟩⟩
      · exfalso; rw [yn_le (by omega) (by omega)] at hh; omega
      · rw [ht]
        have := (yBo_iff hc (by omega)).1 h0
        show _ = (if c k = true ∧ F k ≠ T k then _ else _)
        rw [if_neg (by rw [this]; simp)]
      · have hck : c k = true := by
          cases e : c k with
          | true => rfl
          | false => exact absurd ((yBo_iff hc (by omega)).2 e) h1
        refine w3_isLoop hA hM hF20 hk' _ _ _ _ (fun hl => ⟨fun _ => ih (k+1) t (by omega) (by omega) ?_, fun hh => absurd hh (by decide)⟩) (fun hl => ⟨fun hh => absurd rfl hh, fun _ => ?_⟩)
        · rw [ht]
          show _ = (if c k = true ∧ F k ≠ T k then _ else _)
          rw [if_neg (by intro hh; exact hh.2 hl)]
        · refine ⟨yn_in (by omega) (by omega), yn_in (by omega) (by omega), yn_in (by omega) (by omega), yn_in (by omega) (by omega), fun g h => ⟨yn_in (by omega) (by omega), yn_in (by omega) (by omega), yn_in (by omega) (by omega), yn_in (by omega) (by omega), fun g2 h2 => ih (k+1) g2 (by omega) (by omega) ?_⟩⟩
          rw [h2, h, yGm_or (by omega) (by omega) (by omega) hl, ht]
          show _ = (if c k = true ∧ F k ≠ T k then _ else _)
          rw [if_pos ⟨hck, hl⟩]
  unfold wX3_findNeighbours
  refine w_fill20 0 f0 _ (fun f hf => ⟨M - 0 + 1, key (M-0) 0 f rfl (by omega) ?_⟩)
  funext v w
  unfold yGm yGk
  by_cases h : v < 20
  · rw [hf v h, yM_zero]; simp
  · rw [decide_eq_false h]; rfl

theorem w3_findNeighbours_1 {M n : Nat} {F T : Nat → Nat} {c : Nat → Bool} {at' ch : Nat → Int32} (hA : yAt M F T at') (hM : M ≤ 80) (hn : n ≤ 20) (hF : ∀ k, k < M → F k < n ∧ T k < n) (hc : yBo M c ch) (f0 : Nat → Int32) (i1 i3 : Int32)
    (K : (Nat → Int32) → Prop) (hK : ∀ t, yGm 21 t = yGk M F T c → K t) : wX3_findNeighbours_1 f0 i1 (Int32.ofNat M) i3 ch at' K := by
  have hF20 : ∀ k, k < M → F k < 20 ∧ T k < 20 := fun k hk => by have := hF k hk; omega
  have key : ∀ d k t, M - k = d → k ≤ M → yGm 21 t = yGk k F T c → wLX3_findNeighbours_1_7 i1 (Int32.ofNat M) i3 ch at' K (d+1) t (Int32.ofNat k) := by
    intro d
    induction d with
    | zero =>
      intro k t hd hk ht
      have : k = M := by omega
      subst this
      unfold wLX3_findNeighbours_1_7
      refine ⟨fun _ => hK t ht, fun hh => ?_⟩
      exfalso; apply hh; rw [yn_le (by omega) (by omega)]; omega
    | succ d ih =>
      intro k t hd hk ht
      have hk' : k < M := by omega
      have hb := hF20 k hk'
      have e1 : Int32.ofNat k + 1 = Int32.ofNat (k+1) := yn_add k 1
      unfold wLX3_findNeighbours_1_7
      rw [e1, yn_21', yn_2, yn_nat (by omega : k < 2147483648), yn_nat (by omega : 2*k < 2147483648), yn_nat (by omega : 2*k+1 < 2147483648), (hA k hk').1, (hA k hk').2, yn_nat (by omega : F k < 2147483648), yn_nat (by omega : T k < 2147483648)]
      refine ⟨fun hh => ?_, fun _ => ⟨yn_in (by omega) (by omega), fun h0 => ih (k+1) t (by omega) (by omega) ?_, fun h1 => ?_⟩⟩
      · exfalso; rw [yn_le (by omega) (by omega)] at hh; omega
      · rw [ht]
        have := (yBo_iff hc (by omega)).1 h0
        show _ = (if c k = true ∧ F k ≠ T k then _ else _)
        rw [if_neg (by rw [this]; simp)]
      · have hck : c k = true := by
          cases e : c k with
          | true => rfl
          | false => exact absurd ((yBo_iff hc (by omega)).2 e) h1
        refine w3_isLoop hA hM hF20 hk' _ _ _ _ (fun hl => ⟨fun _ => ih (k+1) t (by omega) (by omega) ?_, fun hh => absurd hh (by decide)⟩) (fun hl => ⟨fun hh => absurd rfl hh, fun _ => ?_⟩)
        · rw [ht]
          show _ = (if c k = true ∧ F k ≠ T k then _ else _)
          rw [if_neg (by intro hh; exact hh.2 hl)]
        · refine ⟨yn_in (by omega) (by omega), yn_in (by omega) (by omega), yn_in (by omega) (by omega), yn_in (by omega) (by omega), fun g h => ⟨yn_in (by omega) (by omega), yn_in (by omega) (by omega), yn_in (by omega) (by omega), yn_in (by omega) (by omega), fun g2 h2 => ih (k+1) g2 (by omega) (by omega) ?_⟩⟩
          rw [h2, h, yGm_or (by omega) (by omega) (by omega) hl, ht]
          show _ = (if c k = true ∧ F k ≠ T k then _ else _)
          rw [if_pos ⟨hck, hl⟩]
  unfold wX3_findNeighbours_1
  refine w_fill21 0 f0 _ (fun f hf => ⟨M - 0 + 1, key (M-0) 0 f rfl (by omega) ?_⟩)
  funext v w
  unfold yGm yGk
  by_cases h : v < 21
  · rw [hf v h, yM_zero]; simp
  · rw [decide_eq_false h]; rfl

-- the reference
theorem w9_takeSimple {M n : Nat} {F T : Nat → Nat} {al ip c : Nat → Bool} {alv frm too inp : Nat → Int32} (hM : M ≤ 80) (hn : n ≤ 20) (hF : ∀ k, k < M → F k < n ∧ T k < n) (hfr : ∀ k, k < M → frm k = Int32.ofNat (F k)) (hto : ∀ k, k < M → too k = Int32.ofNat (T k)) (hal : yBo M al alv) (p0 p1 : Int32) (hip : p0 ≠ 0 → yBo M ip inp)
    (hc : ∀ k, k < M → c k = (al k && decide (¬ Int32.ofNat k = p1) && (decide (p0 = 0) || ip k)))
    (i2 i3 i4 i5 i6 i7 i8 i9 i10 i11 i12 i13 i14 i15 i16 i17 : Int32) (f18 : Nat → Int32)
    (K : (Int32 × (Nat → Int32)) → Prop) (hK : ∀ t, yGm 21 t = yGk M F T c → K (Int32.ofNat n, t)) : wX9_takeSimple (Int32.ofNat n) (Int32.ofNat M) i2 i3 i4 i5 i6 i7 i8 i9 i10 i11 i12 i13 i14 i15 i16 i17 f18 alv frm too inp p0 p1 K := by
  have key : ∀ d k t, M - k = d → k ≤ M → yGm 21 t = yGk k F T c → wLX9_takeSimple_31 (Int32.ofNat n) (Int32.ofNat M) alv frm too inp p0 p1 K (d+1) t (Int32.ofNat k) := by
    intro d
    induction d with
    | zero =>
      intro k t hd hk ht
      have : k = M := by omega
      subst this
      unfold wLX9_takeSimple_31
      refine ⟨fun _ => hK t ht, fun hh => ?_⟩
      exfalso; apply hh; rw [yn_le (by omega) (by omega)]; omega
    | succ d ih =>
      intro k t hd hk ht
      have hk' : k < M := by omega
      have hb := hF k hk'
      have e1 : Int32.ofNat k + 1 = Int32.ofNat (k+1) := yn_add k 1
      have hckk := hc k hk'
      have skip : c k = false → yGm 21 t = yGk (k+1) F T c := by
        intro e
        rw [ht]
        show _ = (if c k = true ∧ F k ≠ T k then _ else _)
        rw [if_neg (by rw [e]; simp)]
      have put : c k = true → F k ≠ T k → ∀ g2, g2 = (upd (upd t (F k) (t (F k) ||| ((1 : Int32) <<< (Int32.ofNat (T k) &&& 31)))) (T k) ((upd t (F k) (t (F k) ||| ((1 : Int32) <<< (Int32.ofNat (T k) &&& 31)))) (T k) ||| ((1 : Int32) <<< (Int32.ofNat (F k) &&& 31)))) → yGm 21 g2 = yGk (k+1) F T c := by
        intro e hne g2 h2
        rw [h2, yGm_or (by omega) (by omega) (by omega) hne, ht]
        show _ = (if c k = true ∧ F k ≠ T k then _ else _)
        rw [if_pos ⟨e, hne⟩]
      unfold wLX9_takeSimple_31
      rw [e1, yn_nat (by omega : k < 2147483648), hfr k hk', hto k hk', yn_nat (by omega : F k < 2147483648), yn_nat (by omega : T k < 2147483648)]
      refine ⟨fun hh => ?_, fun _ => ⟨yn_in (by omega) (by omega), fun h0 => ih (k+1) t (by omega) (by omega) (skip ?_), fun h1 => ?_⟩⟩
      · exfalso; rw [yn_le (by omega) (by omega)] at hh; omega
      · rw [hckk, (yBo_iff hal hk').1 h0]; rfl
      · have hak : al k = true := by
          cases e : al k with
          | true => rfl
          | false => exact absurd ((yBo_iff hal hk').2 e) h1
        rw [hak, Bool.true_and] at hckk
        refine ⟨yn_in (by omega) (by omega), yn_in (by omega) (by omega), fun hl => ih (k+1) t (by omega) (by omega) ?_, fun hl => ?_⟩
        · rw [ht]
          show _ = (if c k = true ∧ F k ≠ T k then _ else _)
          rw [if_neg (by intro hh; exact hh.2 ((yn_inj (by omega) (by omega)).1 hl))]
        · have hl' : F k ≠ T k := fun e => hl (by rw [e])
          refine ⟨fun hp => ih (k+1) t (by omega) (by omega) (skip ?_), fun hp => ?_⟩
          · rw [hckk, decide_eq_false (by simpa using hp)]; rfl
          · rw [decide_eq_true hp, Bool.true_and] at hckk
            refine ⟨fun hz => ?_, fun hz => ⟨yn_in (by omega) (by omega), fun h0 => ih (k+1) t (by omega) (by omega) (skip ?_), fun h1 => ?_⟩⟩
            · refine ⟨yn_in (by omega) (by omega), yn_in (by omega) (by omega), yn_in (by omega) (by omega), yn_in (by omega) (by omega), fun g h => ⟨yn_in (by omega) (by omega), yn_in (by omega) (by omega), yn_in (by omega) (by omega), yn_in (by omega) (by omega), fun g2 h2 => ih (k+1) g2 (by omega) (by omega) (put ?_ hl' g2 (by rw [h2, h]))⟩⟩
              rw [hckk, decide_eq_true hz]; rfl
            · rw [hckk, decide_eq_false hz, (yBo_iff (hip hz) hk').1 h0]; rfl
            · refine ⟨yn_in (by omega) (by omega), yn_in (by omega) (by omega), yn_in (by omega) (by omega), yn_in (by omega) (by omega), fun g h => ⟨yn_in (by omega) (by omega), yn_in (by omega) (by omega), yn_in (by omega) (by omega), yn_in (by omega) (by omega), fun g2 h2 => ih (k+1) g2 (by omega) (by omega) (put ?_ hl' g2 (by rw [h2, h]))⟩⟩
              have : ip k = true := by
                cases e : ip k with
                | true => rfl
                | false => exact absurd ((yBo_iff (hip hz) hk').2 e) h1
              rw [hckk, this, Bool.or_true]
  have h10 : ∀ d i t, 21 - i = d → i ≤ 21 → (∀ j, j < i → t j = 0) → wLX9_takeSimple_10 (Int32.ofNat n) (Int32.ofNat M) alv frm too inp p0 p1 K (d+1) t (Int32.ofNat i) := by
    have e4 : (21 : Int32) = Int32.ofNat 21 := rfl
    intro d
    induction d with
    | zero =>
      intro i t hd hi ht
      unfold wLX9_takeSimple_10
      refine ⟨fun _ => ⟨M - 0 + 1, key (M-0) 0 t rfl (by omega) ?_⟩, fun hh => ?_⟩
      · funext v w
        unfold yGm yGk
        by_cases h : v < 21
        · rw [ht v (by omega), yM_zero]; simp
        · rw [decide_eq_false h]; rfl
      · exfalso; apply hh; rw [e4, yn_le (by omega) (by omega)]; omega
    | succ d ih =>
      intro i t hd hi ht
      have e1 : Int32.ofNat i + 1 = Int32.ofNat (i+1) := yn_add i 1
      unfold wLX9_takeSimple_10
      rw [e1, yn_nat (by omega)]
      refine ⟨fun hh => ?_, fun _ => ⟨yn_in (by omega) (by omega), fun g hg => ih (i+1) g (by omega) (by omega) ?_⟩⟩
      · exfalso; rw [e4, yn_le (by omega) (by omega)] at hh; omega
      · intro j hj
        rw [hg]
        by_cases c : j = i
        · rw [c, yupd_same]
        · rw [yupd_ne _ _ _ _ c]; exact ht j (by omega)
  unfold wX9_takeSimple
  exact ⟨21 - 0 + 1, h10 (21-0) 0 f18 rfl (by omega) (fun j hj => by omega)⟩

-- the class's question whether FILLED is still good
theorem w2_isOf {n : Nat} (hn : n ≤ 20) (i0 : Int32) (f1 f2 f3 : Nat → Int32) (K : Int32 → Unit → Prop)
    (h1 : i0 = Int32.ofNat n → (∀ v w, yGm n f1 v w = true → yGm n f2 v w = true) → (∀ v w, yGm n f2 v w = true → yGm n f3 v w = true) → K 1 ()) (h0 : K 0 ()) : wX2_isOf i0 f1 f2 f3 (Int32.ofNat n) K := by
  have sub : ∀ x y : Int32, x &&& (y ^^^ (-1)) = 0 → ∀ w, yM x w = true → yM y w = true := by
    intro x y h w hw
    by_cases h32 : w < 32
    · have := (yM_eq0.1 h) w h32
      rw [yM_and, yM_not _ _ h32, hw, Bool.true_and] at this
      cases e : yM y w with
      | true => rfl
      | false => rw [e] at this; exact absurd this (by decide)
    · rw [yM_big _ _ (by omega)] at hw; exact absurd hw (by decide)
  have key : i0 = Int32.ofNat n → ∀ d v, n - v = d → v ≤ n → (∀ u, u < v → (∀ w, yM (f1 u) w = true → yM (f2 u) w = true) ∧ (∀ w, yM (f2 u) w = true → yM (f3 u) w = true)) → wLX2_isOf_12 f1 f2 f3 (Int32.ofNat n) K (d+1) (Int32.ofNat v) := by
    intro hi d
    induction d with
    | zero =>
      intro v hd hv hu
      unfold wLX2_isOf_12
      refine ⟨fun _ => h1 hi ?_ ?_, fun hh => ?_⟩
      · intro u w h
        unfold yGm at h ⊢
        rw [Bool.and_eq_true, decide_eq_true_eq] at h ⊢
        exact ⟨h.1, (hu u (by omega)).1 w h.2⟩
      · intro u w h
        unfold yGm at h ⊢
        rw [Bool.and_eq_true, decide_eq_true_eq] at h ⊢
        exact ⟨h.1, (hu u (by omega)).2 w h.2⟩
      · exfalso; apply hh; rw [yn_le (by omega) (by omega)]; omega
    | succ d ih =>
      intro v hd hv hu
      have e1 : Int32.ofNat v + 1 = Int32.ofNat (v+1) := yn_add v 1
      unfold wLX2_isOf_12
      rw [e1, yn_nat (by omega)]
      refine ⟨fun hh => ?_, fun _ => ⟨yn_in (by omega) (by omega), yn_in (by omega) (by omega), fun _ => h0, fun a => ⟨yn_in (by omega) (by omega), yn_in (by omega) (by omega), fun b => ih (v+1) (by omega) (by omega) ?_, fun _ => h0⟩⟩⟩
      · exfalso; rw [yn_le (by omega) (by omega)] at hh; omega
      · intro u hu'
        by_cases c : u = v
        · subst c; exact ⟨sub _ _ a, sub _ _ b⟩
        · exact hu u (by omega)
  unfold wX2_isOf
  exact ⟨fun h => ⟨n - 0 + 1, key h.symm (n-0) 0 rfl (by omega) (fun u hu => by omega)⟩, fun _ => h0⟩


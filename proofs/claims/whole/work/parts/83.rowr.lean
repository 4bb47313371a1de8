
-- rows that hold each living end once, at its node
def yEr (N : Nat) (nd : Nat → Nat) (L : Nat → Prop) (rs : Nat → Nat) (rw : Nat → Nat → Nat) : Prop :=
  (∀ v i, v < N → i < rs v → L (rw v i) ∧ nd (rw v i) = v) ∧ (∀ v i j, v < N → i < rs v → j < rs v → rw v i = rw v j → i = j) ∧
  (∀ e, L e → e < 160 ∧ nd e < N ∧ ∃ i, i < rs (nd e) ∧ rw (nd e) i = e)

theorem yS_place (f : Nat → Nat) (m : Nat) : ∀ j, j < yS m f → ∃ u i, u < m ∧ i < f u ∧ j = yS u f + i := by
  induction m with
  | zero => intro j hj; simp [yS] at hj
  | succ m ih =>
    intro j hj
    rcases Nat.lt_or_ge j (yS m f) with c | c
    · obtain ⟨u, i, a1, a2, a3⟩ := ih j c
      exact ⟨u, i, by omega, a2, a3⟩
    · simp only [yS] at hj
      exact ⟨m, j - yS m f, by omega, by omega, by omega⟩

theorem yS_same (f : Nat → Nat) {u v i j : Nat} (hi : i < f u) (hj : j < f v) (h : yS u f + i = yS v f + j) : u = v ∧ i = j := by
  have : u = v := by
    rcases Nat.lt_trichotomy u v with c | c | c
    · have := yS_at f c; omega
    · exact c
    · have := yS_at f c; omega
  subst this
  exact ⟨rfl, by omega⟩

section
variable {N : Nat} {nd : Nat → Nat} {L : Nat → Prop} {rs : Nat → Nat} {rw' : Nat → Nat → Nat}

theorem yEr_sum (h : yEr N nd L rs rw') {B : Nat} (hB : ∀ e, L e → e < B) : yS N rs ≤ B := by
  have hp := yS_place rs N
  have hex : ∀ j, ∃ e, j < yS N rs → ∃ u i, u < N ∧ i < rs u ∧ j = yS u rs + i ∧ e = rw' u i := by
    intro j
    by_cases c : j < yS N rs
    · obtain ⟨u, i, a1, a2, a3⟩ := hp j c
      exact ⟨rw' u i, fun _ => ⟨u, i, a1, a2, a3, rfl⟩⟩
    · exact ⟨0, fun h => absurd h c⟩
  have hf := fun j => Classical.choose_spec (hex j)
  apply yPig (yS N rs) B (fun j => Classical.choose (hex j))
  · intro j hj
    obtain ⟨u, i, a1, a2, a3, a4⟩ := hf j hj
    show Classical.choose (hex j) < B
    rw [a4]; exact hB _ (h.1 u i a1 a2).1
  · intro j j' hj hj' he
    obtain ⟨u, i, a1, a2, a3, a4⟩ := hf j hj
    obtain ⟨u', i', b1, b2, b3, b4⟩ := hf j' hj'
    have he' : Classical.choose (hex j) = Classical.choose (hex j') := he
    rw [a4, b4] at he'
    have hu : u = u' := by rw [← (h.1 u i a1 a2).2, ← (h.1 u' i' b1 b2).2, he']
    subst hu
    have := h.2.1 u i i' a1 a2 b2 he'
    rw [a3, b3, this]

theorem yEr_le (h : yEr N nd L rs rw') {v : Nat} (hv : v < N) : rs v ≤ 160 := by
  have h1 := yEr_sum h (B := 160) (fun e he => (h.2.2 e he).1)
  have := yS_at rs hv
  omega

theorem yEr_uniq (h : yEr N nd L rs rw') {u v i j : Nat} (hu : u < N) (hv : v < N) (hi : i < rs u) (hj : j < rs v) (e : rw' u i = rw' v j) : u = v ∧ i = j := by
  have huv : u = v := by rw [← (h.1 u i hu hi).2, ← (h.1 v j hv hj).2, e]
  subst huv
  exact ⟨rfl, h.2.1 u i j hu hi hj e⟩

theorem yEr_app (h : yEr N nd L rs rw') {e v : Nat} (he : ¬ L e) (hnd : nd e = v) (hv : v < N) (h160 : e < 160) :
    yEr N nd (fun x => x = e ∨ L x) (fun u => if u = v then rs v + 1 else rs u) (fun u i => if u = v ∧ i = rs v then e else rw' u i) := by
  obtain ⟨h1, h2, h3⟩ := h
  have hold : ∀ u i, u < N → i < (if u = v then rs v + 1 else rs u) → ¬ (u = v ∧ i = rs v) → i < rs u := by
    intro u i hu hi hn
    by_cases c : u = v
    · subst c; rw [if_pos rfl] at hi; omega
    · rw [if_neg c] at hi; exact hi
  refine ⟨?_, ?_, ?_⟩
  · intro u i hu hi
    dsimp only at hi ⊢
    by_cases c : u = v ∧ i = rs v
    · rw [if_pos c]; exact ⟨Or.inl rfl, by rw [hnd, c.1]⟩
    · rw [if_neg c]
      have := h1 u i hu (hold u i hu hi c)
      exact ⟨Or.inr this.1, this.2⟩
  · intro u i j hu hi hj hij
    dsimp only at hi hj hij
    by_cases c : u = v ∧ i = rs v
    · rw [if_pos c] at hij
      by_cases d : u = v ∧ j = rs v
      · omega
      · rw [if_neg d] at hij
        exfalso; apply he; rw [hij]; exact (h1 u j hu (hold u j hu hj d)).1
    · rw [if_neg c] at hij
      by_cases d : u = v ∧ j = rs v
      · rw [if_pos d] at hij
        exfalso; apply he; rw [← hij]; exact (h1 u i hu (hold u i hu hi c)).1
      · rw [if_neg d] at hij
        exact h2 u i j hu (hold u i hu hi c) (hold u j hu hj d) hij
  · intro x hx
    rcases hx with hx | hx
    · subst hx
      refine ⟨h160, by omega, rs v, ?_, ?_⟩
      · dsimp only; rw [hnd, if_pos rfl]; omega
      · dsimp only; rw [hnd, if_pos ⟨rfl, rfl⟩]
    · obtain ⟨a1, a2, i, a3, a4⟩ := h3 x hx
      refine ⟨a1, a2, i, ?_, ?_⟩
      · dsimp only
        by_cases c : nd x = v
        · rw [if_pos c]; rw [c] at a3; omega
        · rw [if_neg c]; exact a3
      · dsimp only
        rw [if_neg ?_]
        · exact a4
        · rintro ⟨c1, c2⟩; rw [c1] at a3; omega

theorem yEr_rem (h : yEr N nd L rs rw') {v p : Nat} (hv : v < N) (hp : p < rs v) :
    yEr N nd (fun x => L x ∧ x ≠ rw' v p) (fun u => if u = v then rs v - 1 else rs u) (fun u i => if u = v ∧ p ≤ i then rw' u (i+1) else rw' u i) := by
  have h0 := h
  obtain ⟨h1, h2, h3⟩ := h
  refine ⟨?_, ?_, ?_⟩
  · intro u i hu hi
    dsimp only at hi ⊢
    by_cases c : u = v
    · rw [if_pos c] at hi
      subst c
      by_cases d : p ≤ i
      · rw [if_pos ⟨rfl, d⟩]
        have := h1 u (i+1) hu (by omega)
        exact ⟨⟨this.1, fun e => by have := h2 u (i+1) p hu (by omega) hp e; omega⟩, this.2⟩
      · rw [if_neg (by omega)]
        have := h1 u i hu (by omega)
        exact ⟨⟨this.1, fun e => by have := h2 u i p hu (by omega) hp e; omega⟩, this.2⟩
    · rw [if_neg c] at hi
      rw [if_neg (by omega)]
      have := h1 u i hu hi
      exact ⟨⟨this.1, fun e => c (yEr_uniq h0 hu hv hi hp e).1⟩, this.2⟩
  · intro u i j hu hi hj hij
    dsimp only at hi hj hij
    by_cases c : u = v
    · rw [if_pos c] at hi hj
      subst c
      by_cases d : p ≤ i
      · rw [if_pos ⟨rfl, d⟩] at hij
        by_cases d' : p ≤ j
        · rw [if_pos ⟨rfl, d'⟩] at hij
          have := h2 u (i+1) (j+1) hu (by omega) (by omega) hij; omega
        · rw [if_neg (by omega)] at hij
          have := h2 u (i+1) j hu (by omega) (by omega) hij; omega
      · rw [if_neg (by omega)] at hij
        by_cases d' : p ≤ j
        · rw [if_pos ⟨rfl, d'⟩] at hij
          have := h2 u i (j+1) hu (by omega) (by omega) hij; omega
        · rw [if_neg (by omega)] at hij
          exact h2 u i j hu (by omega) (by omega) hij
    · rw [if_neg c] at hi hj
      rw [if_neg (by omega), if_neg (by omega)] at hij
      exact h2 u i j hu hi hj hij
  · rintro x ⟨hx, hne⟩
    obtain ⟨a1, a2, i, a3, a4⟩ := h3 x hx
    refine ⟨a1, a2, ?_⟩
    by_cases c : nd x = v
    · have hip : i ≠ p := by
        intro e; apply hne; rw [← a4, c, e]
      rcases Nat.lt_or_ge i p with d | d
      · refine ⟨i, ?_, ?_⟩
        · dsimp only; rw [if_pos c]; omega
        · dsimp only; rw [if_neg (by omega)]; exact a4
      · refine ⟨i-1, ?_, ?_⟩
        · dsimp only; rw [if_pos c]; rw [c] at a3; omega
        · dsimp only; rw [if_pos ⟨c, by omega⟩, show i - 1 + 1 = i by omega]; exact a4
    · refine ⟨i, ?_, ?_⟩
      · dsimp only; rw [if_neg c]; exact a3
      · dsimp only; rw [if_neg (fun hh => c hh.1)]; exact a4

theorem yEr_exch (h : yEr N nd L rs rw') {v i j : Nat} (hv : v < N) (hi : i < rs v) (hj : j < rs v) :
    yEr N nd L rs (fun u k => if u = v ∧ k = j then rw' v i else if u = v ∧ k = i then rw' v j else rw' u k) := by
  obtain ⟨h1, h2, h3⟩ := h
  refine ⟨?_, ?_, ?_⟩
  · intro u k hu hk
    dsimp only
    by_cases c1 : u = v ∧ k = j
    · rw [if_pos c1, c1.1]; exact h1 v i hv hi
    · rw [if_neg c1]
      by_cases c2 : u = v ∧ k = i
      · rw [if_pos c2, c2.1]; exact h1 v j hv hj
      · rw [if_neg c2]; exact h1 u k hu hk
  · intro u k l hu hk hl e
    dsimp only at e
    by_cases c : u = v
    · subst c
      have key : ∀ k, k < rs u → ∃ k', k' < rs u ∧ (if u = u ∧ k = j then rw' u i else if u = u ∧ k = i then rw' u j else rw' u k) = rw' u k' ∧ k' = (if k = j then i else if k = i then j else k) := by
        intro k hk
        by_cases c1 : k = j
        · exact ⟨i, hi, by rw [if_pos ⟨rfl, c1⟩], by rw [if_pos c1]⟩
        · by_cases c2 : k = i
          · exact ⟨j, hj, by rw [if_neg (by omega), if_pos ⟨rfl, c2⟩], by rw [if_neg c1, if_pos c2]⟩
          · exact ⟨k, hk, by rw [if_neg (by omega), if_neg (by omega)], by rw [if_neg c1, if_neg c2]⟩
      obtain ⟨k', a1, a2, a3⟩ := key k hk
      obtain ⟨l', b1, b2, b3⟩ := key l hl
      rw [a2, b2] at e
      have := h2 u k' l' hu a1 b1 e
      rw [a3, b3] at this
      clear key a2 b2 e
      split at this <;> split at this <;> (try split at this) <;> (try split at this) <;> omega
    · rw [if_neg (by omega), if_neg (by omega), if_neg (by omega), if_neg (by omega)] at e
      exact h2 u k l hu hk hl e
  · intro x hx
    obtain ⟨a1, a2, k, a3, a4⟩ := h3 x hx
    refine ⟨a1, a2, ?_⟩
    by_cases c : nd x = v
    · rw [c] at a3 a4 ⊢
      by_cases c1 : k = i
      · exact ⟨j, hj, by dsimp only; rw [if_pos ⟨rfl, rfl⟩, ← c1]; exact a4⟩
      · by_cases c2 : k = j
        · refine ⟨i, hi, ?_⟩
          dsimp only
          by_cases c3 : i = j
          · rw [if_pos ⟨rfl, c3⟩, c3, ← c2]; exact a4
          · rw [if_neg (by omega), if_pos ⟨rfl, rfl⟩, ← c2]; exact a4
        · exact ⟨k, a3, by dsimp only; rw [if_neg (by omega), if_neg (by omega)]; exact a4⟩
    · exact ⟨k, a3, by dsimp only; rw [if_neg (fun hh => c hh.1), if_neg (fun hh => c hh.1)]; exact a4⟩

theorem yEr_node (h : yEr N nd L rs rw') : yEr (N+1) nd L (fun v => if v = N then 0 else rs v) rw' := by
  obtain ⟨h1, h2, h3⟩ := h
  refine ⟨?_, ?_, ?_⟩
  · intro v i hv hi
    dsimp only at hi
    by_cases c : v = N
    · rw [if_pos c] at hi; omega
    · rw [if_neg c] at hi; exact h1 v i (by omega) hi
  · intro v i j hv hi hj e
    dsimp only at hi hj
    by_cases c : v = N
    · rw [if_pos c] at hi; omega
    · rw [if_neg c] at hi hj; exact h2 v i j (by omega) hi hj e
  · intro e he
    obtain ⟨a1, a2, i, a3, a4⟩ := h3 e he
    exact ⟨a1, by omega, i, by dsimp only; rw [if_neg (by omega)]; exact a3, a4⟩

theorem yEr_congr (h : yEr N nd L rs rw') {nd' : Nat → Nat} {L' : Nat → Prop} (hL : ∀ e, L e ↔ L' e) (hnd : ∀ e, L e → nd e = nd' e) : yEr N nd' L' rs rw' := by
  obtain ⟨h1, h2, h3⟩ := h
  refine ⟨?_, h2, ?_⟩
  · intro v i hv hi
    have := h1 v i hv hi
    exact ⟨(hL _).1 this.1, by rw [← hnd _ this.1]; exact this.2⟩
  · intro e he
    have he' := (hL e).2 he
    rw [← hnd e he']; exact h3 e he'
end

-- the rows as the reference holds them
def yRr (N : Nat) (rs : Nat → Nat) (rw : Nat → Nat → Nat) (rz ro : Nat → Int32) : Prop :=
  (∀ v, v < N → rz v = Int32.ofNat (rs v)) ∧ (∀ v i, v < N → i < rs v → ro (160*v+i) = Int32.ofNat (rw v i)) ∧ (∀ v, v < N → rs v ≤ 160) ∧ (∀ v i, v < N → i < rs v → rw v i < 160)

theorem yn_160 (a b : Nat) : (160 : Int32) * Int32.ofNat a + Int32.ofNat b = Int32.ofNat (160*a+b) := by
  have : (160 : Int32) = Int32.ofNat 160 := rfl
  rw [this, yn_mul, yn_add]

section
variable {N : Nat} {rs : Nat → Nat} {rw' : Nat → Nat → Nat} {rz ro : Nat → Int32}

theorem w9_append (h : yRr N rs rw' rz ro) (hN : N ≤ 20) {v e : Nat} (hv : v < N) (hs : rs v < 160) (he : e < 160) (i0 i1 i2 i3 i4 i5 i6 i7 i8 i9 i10 i11 i12 i13 i14 i15 i16 i17 : Int32)
    (K : ((Nat → Int32) × (Nat → Int32)) → Prop) (hK : ∀ rz' ro', yRr N (fun u => if u = v then rs v + 1 else rs u) (fun u i => if u = v ∧ i = rs v then e else rw' u i) rz' ro' → K (rz', ro')) :
    wX9_append i0 i1 i2 i3 i4 i5 i6 i7 i8 i9 i10 i11 i12 i13 i14 i15 i16 i17 rz ro (Int32.ofNat v) (Int32.ofNat e) K := by
  obtain ⟨h1, h2, h3, h4⟩ := h
  have e1 : Int32.ofNat (rs v) + 1 = Int32.ofNat (rs v + 1) := yn_add _ 1
  unfold wX9_append
  rw [yn_nat (by omega), h1 v hv, yn_160, yn_nat (by omega), e1]
  refine ⟨yn_in (by omega) (by omega), yn_in (by omega) (by omega), fun g hg => ⟨yn_in (by omega) (by omega), yn_in (by omega) (by omega), fun g2 hg2 => hK g2 g ⟨?_, ?_, ?_, ?_⟩⟩⟩
  · intro u hu
    rw [hg2]; dsimp only
    by_cases c : u = v
    · rw [c, yupd_same, if_pos rfl]
    · rw [yupd_ne _ _ _ _ c, if_neg c]; exact h1 u hu
  · intro u i hu hi
    dsimp only at hi ⊢
    rw [hg]
    by_cases c : u = v ∧ i = rs v
    · rw [if_pos c, c.1, c.2, yupd_same]
    · rw [if_neg c]
      have hi' : i < rs u := by
        by_cases d : u = v
        · rw [if_pos d] at hi; subst d; omega
        · rw [if_neg d] at hi; exact hi
      have h160 := h3 u hu
      rw [yupd_ne _ _ _ _ (by omega)]; exact h2 u i hu hi'
  · intro u hu
    dsimp only
    split
    · omega
    · exact h3 u hu
  · intro u i hu hi
    dsimp only at hi ⊢
    by_cases c : u = v ∧ i = rs v
    · rw [if_pos c]; exact he
    · rw [if_neg c]
      have hi' : i < rs u := by
        by_cases d : u = v
        · rw [if_pos d] at hi; subst d; omega
        · rw [if_neg d] at hi; exact hi
      exact h4 u i hu hi'

theorem w9_remove (h : yRr N rs rw' rz ro) (hN : N ≤ 20) {v p : Nat} (hv : v < N) (hp : p < rs v) (huniq : ∀ i, i < rs v → rw' v i = rw' v p → i = p) (i0 i1 i2 i3 i4 i5 i6 i7 i8 i9 i10 i11 i12 i13 i14 i15 i16 i17 : Int32)
    (K : ((Nat → Int32) × (Nat → Int32)) → Prop) (hK : ∀ rz' ro', yRr N (fun u => if u = v then rs v - 1 else rs u) (fun u i => if u = v ∧ p ≤ i then rw' u (i+1) else rw' u i) rz' ro' → K (rz', ro')) :
    wX9_remove i0 i1 i2 i3 i4 i5 i6 i7 i8 i9 i10 i11 i12 i13 i14 i15 i16 i17 rz ro (Int32.ofNat v) (Int32.ofNat (rw' v p)) K := by
  obtain ⟨h1, h2, h3, h4⟩ := h
  have h160 := h3 v hv
  have b2 := h4 v p hv hp
  have key : ∀ d k t, rs v - k = d → k ≤ rs v → (∀ x, x < 160*v ∨ 160*v+k ≤ x → t x = ro x) → (∀ i, i < p → i < k → t (160*v+i) = ro (160*v+i)) → (∀ i, p ≤ i → i + 1 < k → t (160*v+i) = ro (160*v+i+1)) →
      wLX9_remove_5 rz (Int32.ofNat v) (Int32.ofNat (rw' v p)) K (d+1) t (Int32.ofNat (if k ≤ p then k else k - 1)) (Int32.ofNat k) := by
    intro d
    induction d with
    | zero =>
      intro k t hd hk q1 q2 q3
      have : k = rs v := by omega
      subst this
      unfold wLX9_remove_5
      rw [yn_nat (by omega), h1 v hv, if_neg (by omega)]
      refine ⟨yn_in (by omega) (by omega), fun _ => ⟨yn_in (by omega) (by omega), fun g hg => hK g t ⟨?_, ?_, ?_, ?_⟩⟩, fun hh => ?_⟩
      · intro u hu
        rw [hg]; dsimp only
        by_cases c : u = v
        · rw [c, yupd_same, if_pos rfl]
        · rw [yupd_ne _ _ _ _ c, if_neg c]; exact h1 u hu
      · intro u i hu hi
        dsimp only at hi ⊢
        by_cases c : u = v
        · rw [if_pos c] at hi
          subst c
          by_cases d2 : p ≤ i
          · rw [if_pos ⟨rfl, d2⟩, q3 i d2 (by omega), Nat.add_assoc]
            exact h2 u (i+1) hu (by omega)
          · rw [if_neg (by omega), q2 i (by omega) (by omega)]; exact h2 u i hu (by omega)
        · rw [if_neg c] at hi
          have := h3 u hu
          rw [if_neg (by omega), q1 _ (by omega)]; exact h2 u i hu hi
      · intro u hu
        dsimp only
        split
        · omega
        · exact h3 u hu
      · intro u i hu hi
        dsimp only at hi ⊢
        by_cases c : u = v
        · rw [if_pos c] at hi
          subst c
          by_cases d2 : p ≤ i
          · rw [if_pos ⟨rfl, d2⟩]; exact h4 u (i+1) hu (by omega)
          · rw [if_neg (by omega)]; exact h4 u i hu (by omega)
        · rw [if_neg c] at hi
          rw [if_neg (by omega)]; exact h4 u i hu hi
      · exfalso; apply hh; rw [yn_le (by omega) (by omega)]; omega
    | succ d ih =>
      intro k t hd hk q1 q2 q3
      have ek : Int32.ofNat k + 1 = Int32.ofNat (k+1) := yn_add k 1
      have b1 := h4 v k hv (by omega)
      unfold wLX9_remove_5
      rw [yn_nat (by omega), h1 v hv, ek, yn_160, yn_nat (by omega : 160*v+k < 2147483648), q1 (160*v+k) (by omega), h2 v k hv (by omega)]
      refine ⟨yn_in (by omega) (by omega), fun hh => ?_, fun _ => ⟨yn_in (by omega) (by omega), fun he => ?_, fun hne => ?_⟩⟩
      · exfalso; rw [yn_le (by omega) (by omega)] at hh; omega
      · have hkp := huniq k (by omega) ((yn_inj (by omega) (by omega)).1 he)
        have := ih (k+1) t (by omega) (by omega) (fun x hx => q1 x (by omega)) (fun i a b => q2 i a (by omega)) (fun i a b => by omega)
        rw [if_neg (by omega), show k + 1 - 1 = k by omega] at this
        rw [if_pos (by omega)]; exact this
      · have hkp : k ≠ p := fun e => hne (by rw [e])
        by_cases c : k ≤ p
        · rw [if_pos c, yn_160, yn_nat (by omega), ek]
          refine ⟨yn_in (by omega) (by omega), yn_in (by omega) (by omega), fun g hg => ?_⟩
          have := ih (k+1) g (by omega) (by omega) (fun x hx => by rw [hg, yupd_ne _ _ _ _ (by omega)]; exact q1 x (by omega)) (fun i a b => by
            rw [hg]
            by_cases c2 : i = k
            · rw [c2, yupd_same, h2 v k hv (by omega)]
            · rw [yupd_ne _ _ _ _ (by omega)]; exact q2 i a (by omega)) (fun i a b => by omega)
          rw [if_pos (by omega)] at this; exact this
        · have ek' : Int32.ofNat (k-1) + 1 = Int32.ofNat k := by
            have h1eq : (1 : Int32) = Int32.ofNat 1 := rfl
            rw [h1eq, yn_add]; congr 1; omega
          rw [if_neg c, yn_160, yn_nat (by omega), ek']
          refine ⟨yn_in (by omega) (by omega), yn_in (by omega) (by omega), fun g hg => ?_⟩
          have := ih (k+1) g (by omega) (by omega) (fun x hx => by rw [hg, yupd_ne _ _ _ _ (by omega)]; exact q1 x (by omega)) (fun i a b => by
            rw [hg, yupd_ne _ _ _ _ (by omega)]; exact q2 i a (by omega)) (fun i a b => by
            rw [hg]
            by_cases c2 : i = k - 1
            · rw [c2, yupd_same, show 160*v+(k-1)+1 = 160*v+k by omega, h2 v k hv (by omega)]
            · rw [yupd_ne _ _ _ _ (by omega)]; exact q3 i a (by omega))
          rw [if_neg (by omega), show k + 1 - 1 = k by omega] at this; exact this
  unfold wX9_remove
  have := key (rs v - 0) 0 ro rfl (by omega) (fun x hx => rfl) (fun i a b => by omega) (fun i a b => by omega)
  rw [if_pos (by omega)] at this
  exact ⟨_, this⟩
end


-- the other end of an end's arc
def yPt (x : Nat) : Nat := if x % 2 = 0 then x + 1 else x - 1

theorem yPt_lt {x : Nat} (h : x < 160) : yPt x < 160 := by unfold yPt; split <;> omega
theorem yPt_half (x : Nat) : yPt x / 2 = x / 2 := by unfold yPt; split <;> omega
theorem yPt_pt (x : Nat) : yPt (yPt x) = x := by unfold yPt; split <;> split <;> omega
theorem yPt_ne (x : Nat) : yPt x ≠ x := by unfold yPt; split <;> omega

set_option maxRecDepth 20000 in
theorem yn_pt : ∀ x : Fin 160, Int32.ofNat x.1 ^^^ 1 = Int32.ofNat (yPt x.1) := by decide

theorem yn_xor {x : Nat} (h : x < 160) : Int32.ofNat x ^^^ 1 = Int32.ofNat (yPt x) := yn_pt ⟨x, h⟩

-- the state of a trace: rounds, their sizes, their ends, the round of each end (and one more; 0: none)
abbrev yTS := Nat × (Nat → Nat) × (Nat → Nat → Nat) × (Nat → Nat)

def yTo (s : yTS) : yTS := (s.1 + 1, fun v => if v = s.1 then 0 else s.2.1 v, s.2.2.1, s.2.2.2)
def yPut (r x : Nat) (s : yTS) : yTS :=
  (s.1, fun u => if u = r then s.2.1 r + 1 else s.2.1 u, fun u i => if u = r ∧ i = s.2.1 r then x else s.2.2.1 u i, fun e => if e = x then r + 1 else s.2.2.2 e)

def yWk (β : Nat → Nat) (r : Nat) : Nat → Nat → yTS → yTS
  | 0, _, s => s
  | n+1, x, s => if s.2.2.2 x = 0 then yWk β r n (β (yPt x)) (yPut r x s) else s

def yTc (β : Nat → Nat) (L : Nat → Bool) : Nat → yTS
  | 0 => (0, fun _ => 0, fun _ _ => 0, fun _ => 0)
  | e+1 => if L e = true ∧ (yTc β L e).2.2.2 e = 0 then yWk β (yTc β L e).1 160 e (yTo (yTc β L e)) else yTc β L e

-- what it keeps
def yTI (s : yTS) : Prop := yEr s.1 (fun e => s.2.2.2 e - 1) (fun e => s.2.2.2 e ≠ 0) s.2.1 s.2.2.1

theorem yTI_opn {s : yTS} (h : yTI s) : yTI (yTo s) := yEr_node h

theorem yTI_put {s : yTS} (h : yTI s) {r x : Nat} (hr : r < s.1) (hx : x < 160) (h0 : s.2.2.2 x = 0) : yTI (yPut r x s) := by
  have h1 : yEr s.1 (fun e => if e = x then r else s.2.2.2 e - 1) (fun e => s.2.2.2 e ≠ 0) s.2.1 s.2.2.1 := by
    refine yEr_congr h (fun e => Iff.rfl) (fun e he => ?_)
    show s.2.2.2 e - 1 = if e = x then r else s.2.2.2 e - 1
    rw [if_neg]
    intro c; rw [c] at he; exact he h0
  have h2 := yEr_app (e := x) (v := r) h1 (by intro hh; exact hh h0) (by show (if x = x then r else s.2.2.2 x - 1) = r; rw [if_pos rfl]) hr hx
  refine yEr_congr h2 (fun e => ?_) (fun e he => ?_)
  · show (e = x ∨ s.2.2.2 e ≠ 0) ↔ (if e = x then r + 1 else s.2.2.2 e) ≠ 0
    by_cases c : e = x
    · rw [if_pos c]; simp [c]
    · rw [if_neg c]; simp [c]
  · show (if e = x then r else s.2.2.2 e - 1) = (if e = x then r + 1 else s.2.2.2 e) - 1
    by_cases c : e = x
    · rw [if_pos c, if_pos c]; omega
    · rw [if_neg c, if_neg c]

theorem yS_inc (N v : Nat) (rs : Nat → Nat) (hv : v < N) : yS N (fun u => if u = v then rs v + 1 else rs u) = yS N rs + 1 := by
  have hlow : ∀ u, u ≤ v → yS u (fun u => if u = v then rs v + 1 else rs u) = yS u rs := by
    intro u hu; apply yS_congr; intro i hi; rw [if_neg (by omega)]
  have hhigh : ∀ d, yS (v+1+d) (fun u => if u = v then rs v + 1 else rs u) = yS (v+1+d) rs + 1 := by
    intro d
    induction d with
    | zero =>
      show yS v _ + (if v = v then rs v + 1 else rs v) = yS v rs + rs v + 1
      rw [hlow v (Nat.le_refl _), if_pos rfl]; omega
    | succ d ih =>
      rw [← Nat.add_assoc]
      show yS (v+1+d) _ + (if v+1+d = v then rs v + 1 else rs (v+1+d)) = yS (v+1+d) rs + rs (v+1+d) + 1
      rw [ih, if_neg (by omega)]; omega
  have := hhigh (N-(v+1))
  rw [show v + 1 + (N-(v+1)) = N by omega] at this; exact this

theorem yTI_room {s : yTS} (h : yTI s) {r x : Nat} (hr : r < s.1) (hx : x < 160) (h0 : s.2.2.2 x = 0) : yS s.1 s.2.1 < 160 := by
  have h1 := yTI_put h hr hx h0
  have h2 := yEr_sum h1 (B := 160) (fun e he => (h1.2.2 e he).1)
  have h3 : yS s.1 (fun u => if u = r then s.2.1 r + 1 else s.2.1 u) ≤ 160 := h2
  rw [yS_inc _ _ _ hr] at h3
  omega

theorem yS_ge (fs : Nat → Nat) (R : Nat) (h : ∀ r, r < R → 1 ≤ fs r) : R ≤ yS R fs := by
  induction R with
  | zero => exact Nat.zero_le _
  | succ R ih => have := ih (fun r hr => h r (by omega)); have := h R (by omega); simp only [yS]; omega

theorem yTI_few {s : yTS} (h : yTI s) (h1 : ∀ r, r < s.1 → 1 ≤ s.2.1 r) : s.1 ≤ 160 := by
  have a := yS_ge s.2.1 s.1 h1
  have b := yEr_sum h (B := 160) (fun e he => (h.2.2 e he).1)
  omega

section
variable {β : Nat → Nat} {L : Nat → Bool}

-- what a walk keeps
theorem yWk_keeps (hL : ∀ e, L e = true → e < 160 ∧ L (yPt e) = true ∧ L (β e) = true) (r : Nat) : ∀ n x s, yTI s → r < s.1 → L x = true → (∀ e, s.2.2.2 e ≠ 0 → L e = true) →
    yTI (yWk β r n x s) ∧ (yWk β r n x s).1 = s.1 ∧ (∀ u, s.2.1 u ≤ (yWk β r n x s).2.1 u) ∧ (∀ e, (yWk β r n x s).2.2.2 e ≠ 0 → L e = true) ∧ (∀ e, s.2.2.2 e ≠ 0 → (yWk β r n x s).2.2.2 e ≠ 0) ∧ (0 < n → (yWk β r n x s).2.2.2 x ≠ 0) ∧ (0 < n → s.2.2.2 x = 0 → 1 ≤ (yWk β r n x s).2.1 r) := by
  intro n
  induction n with
  | zero => intro x s h hr hx hs; exact ⟨h, rfl, fun _ => Nat.le_refl _, hs, fun e he => he, fun h => absurd h (by omega), fun h => absurd h (by omega)⟩
  | succ n ih =>
    intro x s h hr hx hs
    unfold yWk
    by_cases c : s.2.2.2 x = 0
    · rw [if_pos c]
      have a := hL x hx
      have a2 := hL _ a.2.1
      obtain ⟨b1, b2, b3, b4, b5, b6, b7⟩ := ih (β (yPt x)) (yPut r x s) (yTI_put h hr a.1 c) hr a2.2.2 (by
        intro e he
        have he' : (if e = x then r + 1 else s.2.2.2 e) ≠ 0 := he
        by_cases d : e = x
        · rw [d]; exact hx
        · rw [if_neg d] at he'; exact hs e he')
      refine ⟨b1, b2, fun u => Nat.le_trans ?_ (b3 u), b4, fun e he => b5 e ?_, fun _ => b5 x ?_, fun _ _ => Nat.le_trans ?_ (b3 r)⟩
      · show s.2.1 u ≤ if u = r then s.2.1 r + 1 else s.2.1 u
        by_cases d : u = r
        · rw [if_pos d, d]; omega
        · rw [if_neg d]; omega
      · show (if e = x then r + 1 else s.2.2.2 e) ≠ 0
        by_cases d : e = x
        · rw [if_pos d]; omega
        · rw [if_neg d]; exact he
      · show (if x = x then r + 1 else s.2.2.2 x) ≠ 0
        rw [if_pos rfl]; omega
      · show 1 ≤ if r = r then s.2.1 r + 1 else s.2.1 r
        rw [if_pos rfl]; omega
    · rw [if_neg c]; exact ⟨h, rfl, fun _ => Nat.le_refl _, hs, fun e he => he, fun _ => c, fun _ hc => absurd hc c⟩

theorem yTc_keeps (hL : ∀ e, L e = true → e < 160 ∧ L (yPt e) = true ∧ L (β e) = true) : ∀ e, yTI (yTc β L e) ∧ (∀ r, r < (yTc β L e).1 → 1 ≤ (yTc β L e).2.1 r) ∧ (∀ x, (yTc β L e).2.2.2 x ≠ 0 → L x = true) ∧ (∀ x, x < e → L x = true → (yTc β L e).2.2.2 x ≠ 0) := by
  intro e
  induction e with
  | zero =>
    refine ⟨⟨fun v i hv => ?_, fun v i j hv => ?_, fun e he => ?_⟩, fun r hr => ?_, fun x hx => ?_, fun x hx => ?_⟩
    · exact absurd hv (Nat.not_lt_zero _)
    · exact absurd hv (Nat.not_lt_zero _)
    · exact absurd rfl he
    · exact absurd hr (Nat.not_lt_zero _)
    · exact absurd rfl hx
    · exact absurd hx (Nat.not_lt_zero _)
  | succ e ih =>
    obtain ⟨h1, h2, h3, h4⟩ := ih
    unfold yTc
    by_cases c : L e = true ∧ (yTc β L e).2.2.2 e = 0
    · rw [if_pos c]
      obtain ⟨b1, b2, b3, b4, b5, b6, b7⟩ := yWk_keeps hL (yTc β L e).1 160 e (yTo (yTc β L e)) (yTI_opn h1) (Nat.lt_succ_self _) c.1 h3
      refine ⟨b1, fun r hr => ?_, b4, fun x hx hLx => ?_⟩
      · rw [b2] at hr
        have hr' : r < (yTc β L e).1 + 1 := hr
        by_cases d : r = (yTc β L e).1
        · rw [d]; exact b7 (by omega) c.2
        · have := b3 r
          have e1 : (yTo (yTc β L e)).2.1 r = (yTc β L e).2.1 r := by
            show (if r = (yTc β L e).1 then 0 else _) = _
            rw [if_neg d]
          rw [e1] at this
          have := h2 r (by omega)
          omega
      · by_cases d : x = e
        · rw [d]; exact b6 (by omega)
        · exact b5 x (h4 x (by omega) hLx)
    · rw [if_neg c]
      refine ⟨h1, h2, h3, fun x hx hLx => ?_⟩
      by_cases d : x = e
      · subst d
        intro h0; exact c ⟨hLx, h0⟩
      · exact h4 x (by omega) hLx

theorem yTc_stop {m : Nat} (h : ∀ e, m ≤ e → L e = false) : ∀ d, yTc β L (m+d) = yTc β L m := by
  intro d
  induction d with
  | zero => rfl
  | succ d ih =>
    rw [← Nat.add_assoc]
    show (if L (m+d) = true ∧ _ then _ else _) = _
    rw [if_neg (by rw [h (m+d) (by omega)]; simp), ih]
end

-- the end behind an end
noncomputable def yBt (N : Nat) (rs : Nat → Nat) (rw : Nat → Nat → Nat) (e : Nat) : Nat :=
  rw (Classical.epsilon (fun p : Nat × Nat => p.1 < N ∧ p.2 < rs p.1 ∧ rw p.1 p.2 = e)).1 (if (Classical.epsilon (fun p : Nat × Nat => p.1 < N ∧ p.2 < rs p.1 ∧ rw p.1 p.2 = e)).2 + 1 < rs (Classical.epsilon (fun p : Nat × Nat => p.1 < N ∧ p.2 < rs p.1 ∧ rw p.1 p.2 = e)).1 then (Classical.epsilon (fun p : Nat × Nat => p.1 < N ∧ p.2 < rs p.1 ∧ rw p.1 p.2 = e)).2 + 1 else 0)

theorem yBt_eq {N : Nat} {nd : Nat → Nat} {L : Nat → Prop} {rs : Nat → Nat} {rw' : Nat → Nat → Nat} (h : yEr N nd L rs rw') {v i : Nat} (hv : v < N) (hi : i < rs v) : yBt N rs rw' (rw' v i) = rw' v (if i + 1 < rs v then i + 1 else 0) := by
  have hs := Classical.epsilon_spec (p := fun p : Nat × Nat => p.1 < N ∧ p.2 < rs p.1 ∧ rw' p.1 p.2 = rw' v i) ⟨(v, i), hv, hi, rfl⟩
  unfold yBt
  have := yEr_uniq h hs.1 hv hs.2.1 hi hs.2.2
  rw [this.1, this.2]

theorem yBt_live {N : Nat} {nd : Nat → Nat} {L : Nat → Prop} {rs : Nat → Nat} {rw' : Nat → Nat → Nat} (h : yEr N nd L rs rw') {e : Nat} (he : L e) : L (yBt N rs rw' e) ∧ nd (yBt N rs rw' e) = nd e := by
  obtain ⟨a1, a2, i, a3, a4⟩ := h.2.2 e he
  have := yBt_eq h a2 a3
  rw [a4] at this
  rw [this]
  refine h.1 (nd e) _ a2 ?_
  split <;> omega


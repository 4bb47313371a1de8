
-- the rim while nodes are taken off: r 0 .. r (s-1), from the first corner to the second; G: taken off
def yBp (s : Nat) (r : Nat → Nat) (i : Nat) : Nat := if i + 1 < s then r (i+1) else r 0
def yAp (s : Nat) (r : Nat → Nat) (i : Nat) : Nat := if i = 0 then r (s-1) else r (i-1)

def yRim (n : Nat) (g : Nat → Nat → Bool) (ρ : Nat → Nat → Nat) (s : Nat) (r : Nat → Nat) (G : Nat → Prop) : Prop :=
  2 ≤ s ∧ (∀ i, i < s → r i < n ∧ ¬ G (r i)) ∧ (∀ i j, i < s → j < s → r i = r j → i = j) ∧
  (∀ i, i + 1 < s → g (r (i+1)) (r i) = true) ∧
  (∀ i, i < s → (∀ x, g (r i) x = true → G x → G (ρ (r i) x) ∨ ρ (r i) x = yBp s r i) ∧
    (G (ρ (r i) (yAp s r i)) ∨ ρ (r i) (yAp s r i) = yBp s r i) ∧
    (∀ x, g (r i) x = true → ¬ G x → x ≠ yAp s r i → ¬ G (ρ (r i) x)) ∧
    (∀ x, g (r i) x = true → ρ (r i) x = yBp s r i → x = yAp s r i ∨ G x)) ∧
  (∀ w x, w < n → ¬ G w → (∀ i, i < s → w ≠ r i) → g w x = true → ¬ G x)

-- a node is taken off
def yStp (g : Nat → Nat → Bool) (ρ : Nat → Nat → Nat) (s : Nat) (r : Nat → Nat) (k p s' : Nat) (r' : Nat → Nat) : Prop :=
  1 ≤ k ∧ k + 2 ≤ s ∧ s + p = s' + 1 ∧ (∀ i, i < k → r' i = r i) ∧ (∀ i, k < i → i < s → r' (i+p-1) = r i) ∧
  (∀ j, j ≤ p → ρ (r k) (r' (k+j)) = r' (k+j-1)) ∧ (∀ j, j < p → r' (k+j) ≠ r (k-1)) ∧
  (∀ i, i < s → i ≠ k → i + 1 ≠ k → i ≠ k + 1 → g (r k) (r i) = false)

section
variable {n F : Nat} {g : Nat → Nat → Bool} {fo ρ : Nat → Nat → Nat} {s k p s' : Nat} {r r' : Nat → Nat} {G : Nat → Prop}

-- what is known of a step
theorem yStp_facts (h : yTg n g F fo ρ) (hR : yRim n g ρ s r G) (hS : yStp g ρ s r k p s' r') :
    r' (k-1) = r (k-1) ∧ r' (k+p) = r (k+1) ∧ (∀ j, j ≤ p + 1 → ¬ G (r' (k+j-1)) ∧ g (r k) (r' (k+j-1)) = true) ∧
    (∀ i j, i ≤ p + 1 → j ≤ p + 1 → r' (k+i-1) = r' (k+j-1) → i = j) ∧ (∀ j, j < p → ∀ i, i < s → r' (k+j) ≠ r i) ∧
    (∀ x, g (r k) x = true → G x ∨ ∃ j, j ≤ p + 1 ∧ x = r' (k+j-1)) := by
  obtain ⟨hs2, hr1, hr2, hr3, hr4, hr5⟩ := hR
  obtain ⟨hk1, hk2, hp, ha, hb, hc, hd, hfree⟩ := hS
  have hgs := h.2.2.1.2
  have e0 : r' (k-1) = r (k-1) := ha (k-1) (by omega)
  have e1 : r' (k+p) = r (k+1) := by have := hb (k+1) (by omega) (by omega); rw [show k + 1 + p - 1 = k + p by omega] at this; exact this
  have hB : yBp s r k = r (k+1) := by unfold yBp; rw [if_pos (by omega)]
  have hA : yAp s r k = r (k-1) := by unfold yAp; rw [if_neg (by omega)]
  obtain ⟨d1, d1', d2, d3⟩ := hr4 k (by omega)
  rw [hA, hB] at d1'
  rw [hA] at d2
  have hfwd : ∀ w, g (r k) w = true → g (r k) (ρ (r k) w) = true ∧ ρ (ρ (r k) w) (r k) = w := by
    intro w hw
    have := yTg_th h hw
    exact ⟨by rw [hgs]; exact this.2.2.1, this.2.2.2.2.1⟩
  have hvB : g (r k) (r (k+1)) = true := by rw [hgs]; exact hr3 k (by omega)
  -- not gone, and neighbours
  have f1 : ∀ d j, p + 1 - j = d → j ≤ p + 1 → ¬ G (r' (k+j-1)) ∧ g (r k) (r' (k+j-1)) = true := by
    intro d
    induction d with
    | zero =>
      intro j hd hj
      have : j = p + 1 := by omega
      subst this
      rw [show k + (p+1) - 1 = k + p by omega, e1]
      exact ⟨(hr1 (k+1) (by omega)).2, hvB⟩
    | succ d ih =>
      intro j hd' hj
      obtain ⟨a1, a2⟩ := ih (j+1) (by omega) (by omega)
      have e : k + (j+1) - 1 = k + j := by omega
      rw [e] at a1 a2
      have hst := hc j (by omega)
      rw [← hst]
      refine ⟨d2 _ a2 a1 ?_, (hfwd _ a2).1⟩
      by_cases cj : j < p
      · exact hd j cj
      · have : j = p := by omega
        rw [this, e1]
        intro hh
        have := hr2 (k+1) (k-1) (by omega) (by omega) hh
        omega
  have F1 : ∀ j, j ≤ p + 1 → ¬ G (r' (k+j-1)) ∧ g (r k) (r' (k+j-1)) = true := fun j hj => f1 (p+1-j) j rfl hj
  -- all different
  have back : ∀ i d, i + d ≤ p + 1 → r' (k+i-1) = r' (k+(i+d)-1) → r' (k-1) = r' (k+d-1) := by
    intro i
    induction i with
    | zero => intro d _ hh; rw [Nat.add_zero, Nat.zero_add] at hh; exact hh
    | succ i ih =>
      intro d hd' hh
      apply ih d (by omega)
      have h1 := hc i (by omega)
      have h2 := hc (i+d) (by omega)
      rw [show k + (i+1) - 1 = k + i by omega, show k + (i+1+d) - 1 = k + (i+d) by omega] at hh
      rw [← h1, ← h2, hh]
  have F3' : ∀ i j, i < j → j ≤ p + 1 → r' (k+i-1) ≠ r' (k+j-1) := by
    intro i j hij hj hh
    have := back i (j-i) (by omega) (by rw [show i + (j-i) = j by omega]; exact hh)
    rw [e0] at this
    by_cases cj : j - i ≤ p
    · refine hd (j-i-1) (by omega) ?_
      rw [this]
      congr 1; omega
    · rw [show k + (j-i) - 1 = k + p by omega, e1] at this
      have := hr2 (k-1) (k+1) (by omega) (by omega) this
      omega
  have F3 : ∀ i j, i ≤ p + 1 → j ≤ p + 1 → r' (k+i-1) = r' (k+j-1) → i = j := by
    intro i j hi hj hh
    rcases Nat.lt_trichotomy i j with c | c | c
    · exact absurd hh (F3' i j c hj)
    · exact c
    · exact absurd hh.symm (F3' j i c hi)
  refine ⟨e0, e1, F1, F3, ?_, ?_⟩
  · intro j hj i hi hh
    have hadj := (F1 (j+1) (by omega)).2
    rw [show k + (j+1) - 1 = k + j by omega, hh] at hadj
    by_cases c1 : i = k
    · rw [c1] at hadj; exact (h.2.2.1.1 _ _ hadj).2.2 rfl
    · by_cases c2 : i + 1 = k
      · exact hd j hj (by rw [hh]; congr 1; omega)
      · by_cases c3 : i = k + 1
        · rw [c3, ← e1] at hh
          have := F3 (j+1) (p+1) (by omega) (by omega) (by rw [show k + (j+1) - 1 = k + j by omega, show k + (p+1) - 1 = k + p by omega]; exact hh)
          omega
        · rw [hfree i hi c1 c2 c3] at hadj; cases hadj
  · refine yTg_orbit h (fun x => G x ∨ ∃ j, j ≤ p + 1 ∧ x = r' (k+j-1)) hvB (Or.inr ⟨p+1, by omega, by rw [show k + (p+1) - 1 = k + p by omega, e1]⟩) ?_
    rintro x hx (hG | ⟨j, hj, hxj⟩)
    · rcases d1 x hx hG with c | c
      · exact Or.inl c
      · right; refine ⟨p+1, by omega, ?_⟩
        rw [c, hB, show k + (p+1) - 1 = k + p by omega, e1]
    · by_cases cj : j = 0
      · rw [cj, Nat.add_zero, e0] at hxj
        rw [hxj]
        rcases d1' with c | c
        · exact Or.inl c
        · right; refine ⟨p+1, by omega, ?_⟩
          rw [c, show k + (p+1) - 1 = k + p by omega, e1]
      · right
        refine ⟨j-1, by omega, ?_⟩
        have := hc (j-1) (by omega)
        rw [hxj]
        rw [show k + j - 1 = k + (j-1) by omega]
        exact this

theorem yRim_step (h : yTg n g F fo ρ) (hR : yRim n g ρ s r G) (hS : yStp g ρ s r k p s' r') : yRim n g ρ s' r' (fun x => G x ∨ x = r k) := by
  obtain ⟨e0, e1, F1, F3, F2, F4⟩ := yStp_facts h hR hS
  obtain ⟨hs2, hr1, hr2, hr3, hr4, hr5⟩ := hR
  obtain ⟨hk1, hk2, hp, ha, hb, hc, hd, hfree⟩ := hS
  have hgs := h.2.2.1.2
  have hb' : ∀ i, k + p ≤ i → i < s' → r' i = r (i+1-p) ∧ k < i + 1 - p ∧ i + 1 - p < s := by
    intro i hi hi'
    have := hb (i+1-p) (by omega) (by omega)
    rw [show i + 1 - p + p - 1 = i by omega] at this
    exact ⟨this, by omega, by omega⟩
  have hfr : ∀ i, k ≤ i → i < k + p → ¬ G (r' i) ∧ g (r k) (r' i) = true ∧ (∀ j, j < s → r' i ≠ r j) := by
    intro i hi hi'
    have := F1 (i-k+1) (by omega)
    rw [show k + (i-k+1) - 1 = i by omega] at this
    have h2 := F2 (i-k) (by omega)
    rw [show k + (i-k) = i by omega] at h2
    exact ⟨this.1, this.2, h2⟩
  have hkn := (hr1 k (by omega)).1
  -- the kinds of places
  have kind : ∀ i, i < s' → (i < k ∧ r' i = r i) ∨ (k ≤ i ∧ i < k + p) ∨ (k + p ≤ i ∧ r' i = r (i+1-p) ∧ k < i + 1 - p ∧ i + 1 - p < s) := by
    intro i hi
    rcases Nat.lt_or_ge i k with c | c
    · exact Or.inl ⟨c, ha i c⟩
    · rcases Nat.lt_or_ge i (k+p) with d | d
      · exact Or.inr (Or.inl ⟨c, d⟩)
      · exact Or.inr (Or.inr ⟨d, hb' i d hi⟩)
  have hlt : ∀ i, i < s' → r' i < n ∧ ¬ G (r' i) ∧ r' i ≠ r k := by
    intro i hi
    rcases kind i hi with ⟨c1, c2⟩ | ⟨c1, c2⟩ | ⟨c1, c2, c3, c4⟩
    · rw [c2]
      refine ⟨(hr1 i (by omega)).1, (hr1 i (by omega)).2, fun hh => ?_⟩
      have := hr2 i k (by omega) (by omega) hh; omega
    · obtain ⟨d1, d2, d3⟩ := hfr i c1 c2
      exact ⟨(h.2.2.1.1 _ _ d2).2.1, d1, d3 k (by omega)⟩
    · rw [c2]
      refine ⟨(hr1 _ c4).1, (hr1 _ c4).2, fun hh => ?_⟩
      have := hr2 _ k c4 (by omega) hh; omega
  have hinj : ∀ i j, i < s' → j < s' → r' i = r' j → i = j := by
    intro i j hi hj he
    rcases kind i hi with ⟨c1, c2⟩ | ⟨c1, c2⟩ | ⟨c1, c2, c3, c4⟩ <;> rcases kind j hj with ⟨d1, d2⟩ | ⟨d1, d2⟩ | ⟨d1, d2, d3, d4⟩
    · rw [c2, d2] at he; exact hr2 i j (by omega) (by omega) he
    · rw [c2] at he; exact absurd he.symm ((hfr j d1 d2).2.2 i (by omega))
    · rw [c2, d2] at he; have := hr2 i _ (by omega) d4 he; omega
    · rw [d2] at he; exact absurd he ((hfr i c1 c2).2.2 j (by omega))
    · have := F3 (i-k+1) (j-k+1) (by omega) (by omega) (by rw [show k + (i-k+1) - 1 = i by omega, show k + (j-k+1) - 1 = j by omega]; exact he)
      omega
    · rw [d2] at he; exact absurd he ((hfr i c1 c2).2.2 _ d4)
    · rw [c2, d2] at he; have := hr2 _ j c4 (by omega) he; omega
    · rw [c2] at he; exact absurd he.symm ((hfr j d1 d2).2.2 _ c4)
    · rw [c2, d2] at he; have := hr2 _ _ c4 d4 he; omega
  -- steps round the node that goes
  have hq : ∀ i, k ≤ i + 1 → i < k + p → ρ (r k) (r' (i+1)) = r' i ∧ g (r k) (r' (i+1)) = true ∧ g (r k) (r' i) = true ∧ g (r' (i+1)) (r' i) = true ∧ ρ (r' i) (r k) = r' (i+1) ∧ ρ (r' (i+1)) (r' i) = r k := by
    intro i hi hi'
    have h1 := hc (i+1-k) (by omega)
    rw [show k + (i+1-k) = i + 1 by omega, show i + 1 - 1 = i by omega] at h1
    have h2 := (F1 (i+1-k+1) (by omega)).2
    rw [show k + (i+1-k+1) - 1 = i + 1 by omega] at h2
    have t := yTg_th h h2
    rw [h1] at t
    exact ⟨h1, h2, by rw [hgs]; exact t.2.2.1, t.2.1, t.2.2.2.2.1, t.2.2.2.1⟩
  -- free: other places of the rim are no neighbours
  have hnb : ∀ i, i < s → i ≠ k → i + 1 ≠ k → i ≠ k + 1 → g (r i) (r k) = false := fun i a1 a2 a3 a4 => by rw [hgs]; exact hfree i a1 a2 a3 a4
  refine ⟨by omega, fun i hi => ⟨(hlt i hi).1, fun hh => ?_⟩, hinj, ?_, ?_, ?_⟩
  · rcases hh with c | c
    · exact (hlt i hi).2.1 c
    · exact (hlt i hi).2.2 c
  · -- neighbours on the rim
    intro i hi
    rcases Nat.lt_or_ge (i+1) k with c | c
    · rw [ha i (by omega), ha (i+1) c]; exact hr3 i (by omega)
    · rcases Nat.lt_or_ge i (k+p) with d | d
      · exact (hq i c d).2.2.2.1
      · obtain ⟨x1, x2, x3⟩ := hb' i d (by omega)
        obtain ⟨y1, y2, y3⟩ := hb' (i+1) (by omega) hi
        rw [x1, y1]
        have := hr3 (i+1-p) (by omega)
        rw [show i + 1 + 1 - p = i + 1 - p + 1 by omega]; exact this
  · -- the sectors
    intro i hi
    rcases kind i hi with ⟨c1, c2⟩ | ⟨c1, c2⟩ | ⟨c1, c2, c3, c4⟩
    · -- left of the place
      obtain ⟨d1, d1', d2, d3⟩ := hr4 i (by omega)
      have hA : yAp s' r' i = yAp s r i := by
        unfold yAp
        by_cases ci : i = 0
        · rw [if_pos ci, if_pos ci]
          obtain ⟨x1, x2, x3⟩ := hb' (s'-1) (by omega) (by omega)
          rw [x1]; congr 1; omega
        · rw [if_neg ci, if_neg ci]; exact ha (i-1) (by omega)
      rw [c2, hA]
      by_cases ck : i + 1 = k
      · -- the neighbour on the left
        have hBo : yBp s r i = r k := by unfold yBp; rw [if_pos (by omega), ck]
        have hBn : yBp s' r' i = r' k := by unfold yBp; rw [if_pos (by omega), ck]
        have hiq := hq i (by omega) (by omega)
        rw [ck] at hiq
        have hrv : ρ (r i) (r k) = r' k := by rw [← c2]; exact hiq.2.2.2.2.1
        rw [hBo] at d1 d1' d3
        rw [hBn]
        refine ⟨?_, ?_, ?_, ?_⟩
        · rintro x hx (hG | hG)
          · rcases d1 x hx hG with e | e
            · exact Or.inl (Or.inl e)
            · exact Or.inl (Or.inr e)
          · rw [hG]; exact Or.inr hrv
        · rcases d1' with e | e
          · exact Or.inl (Or.inl e)
          · exact Or.inl (Or.inr e)
        · rintro x hx hxG hxA (hh | hh)
          · exact d2 x hx (fun a => hxG (Or.inl a)) hxA hh
          · rcases d3 x hx hh with e | e
            · exact hxA e
            · exact hxG (Or.inl e)
        · intro x hx hh
          right; right
          have hrvg : g (r i) (r k) = true := by
            have := hiq.2.2.1
            rw [c2, hgs] at this; exact this
          have t1 := (yTg_th h hx).2.2.2.2.1
          have t2 := (yTg_th h hrvg).2.2.2.2.1
          rw [hh] at t1; rw [hrv] at t2
          exact t1.symm.trans t2
      · -- farther left
        have hB : yBp s' r' i = yBp s r i := by
          unfold yBp
          rw [if_pos (by omega), if_pos (by omega)]
          exact ha (i+1) (by omega)
        have hno := hnb i (by omega) (by omega) (by omega) (by omega)
        rw [hB]
        refine ⟨?_, ?_, ?_, ?_⟩
        · rintro x hx (hG | hG)
          · rcases d1 x hx hG with e | e
            · exact Or.inl (Or.inl e)
            · exact Or.inr e
          · rw [hG, hno] at hx; cases hx
        · rcases d1' with e | e
          · exact Or.inl (Or.inl e)
          · exact Or.inr e
        · rintro x hx hxG hxA (hh | hh)
          · exact d2 x hx (fun a => hxG (Or.inl a)) hxA hh
          · have t := (yTg_th h hx).2.2.1
            rw [hh, hgs, hno] at t; cases t
        · intro x hx hh
          rcases d3 x hx hh with e | e
          · exact Or.inl e
          · exact Or.inr (Or.inl e)
    · -- a new place
      obtain ⟨f1, f2, f3⟩ := hfr i c1 c2
      have hB : yBp s' r' i = r' (i+1) := by unfold yBp; rw [if_pos (by omega)]
      have hA : yAp s' r' i = r' (i-1) := by unfold yAp; rw [if_neg (by omega)]
      have q1 := hq i (by omega) c2
      have q2 := hq (i-1) (by omega) (by omega)
      rw [show i - 1 + 1 = i by omega] at q2
      have hin : ∀ x, g (r' i) x = true → ¬ G x := fun x hx => hr5 (r' i) x (hlt i hi).1 f1 (fun j hj => f3 j hj) hx
      have hadjv : g (r' i) (r k) = true := by rw [hgs]; exact f2
      rw [hB, hA]
      refine ⟨?_, ?_, ?_, ?_⟩
      · rintro x hx (hG | hG)
        · exact absurd hG (hin x hx)
        · rw [hG]; exact Or.inr q1.2.2.2.2.1
      · left; right; exact q2.2.2.2.2.2
      · rintro x hx hxG hxA (hh | hh)
        · exact hin _ (by rw [hgs]; exact (yTg_th h hx).2.2.1) hh
        · apply hxA
          have hadjA : g (r' i) (r' (i-1)) = true := q2.2.2.2.1
          have t1 := (yTg_th h hx).2.2.2.2.1
          have t2 := (yTg_th h hadjA).2.2.2.2.1
          rw [hh] at t1; rw [q2.2.2.2.2.2] at t2
          exact t1.symm.trans t2
      · intro x hx hh
        right; right
        have t1 := (yTg_th h hx).2.2.2.2.1
        have t2 := (yTg_th h hadjv).2.2.2.2.1
        rw [hh] at t1; rw [q1.2.2.2.2.1] at t2
        exact t1.symm.trans t2
    · -- right of the place
      obtain ⟨d1, d1', d2, d3⟩ := hr4 (i+1-p) c4
      have hB : yBp s' r' i = yBp s r (i+1-p) := by
        unfold yBp
        by_cases ci : i + 1 < s'
        · rw [if_pos ci, if_pos (by omega)]
          obtain ⟨x1, x2, x3⟩ := hb' (i+1) (by omega) ci
          rw [x1]; congr 1; omega
        · rw [if_neg ci, if_neg (by omega)]; exact ha 0 (by omega)
      rw [c2, hB]
      by_cases ck : i = k + p
      · -- the neighbour on the right
        have hi1 : i + 1 - p = k + 1 := by omega
        have hAo : yAp s r (i+1-p) = r k := by unfold yAp; rw [if_neg (by omega)]; congr 1; omega
        have hAn : yAp s' r' i = r' (i-1) := by unfold yAp; rw [if_neg (by omega)]
        have q2 := hq (i-1) (by omega) (by omega)
        rw [show i - 1 + 1 = i by omega] at q2
        rw [hAo] at d1' d2 d3
        rw [hAn]
        have hrq : ρ (r (i+1-p)) (r' (i-1)) = r k := by rw [← c2]; exact q2.2.2.2.2.2
        have hadjA : g (r (i+1-p)) (r' (i-1)) = true := by rw [← c2]; exact q2.2.2.2.1
        have hadjv : g (r (i+1-p)) (r k) = true := by rw [← c2, hgs]; exact q2.2.1
        refine ⟨?_, ?_, ?_, ?_⟩
        · rintro x hx (hG | hG)
          · rcases d1 x hx hG with e | e
            · exact Or.inl (Or.inl e)
            · exact Or.inr e
          · rw [hG]
            rcases d1' with e | e
            · exact Or.inl (Or.inl e)
            · exact Or.inr e
        · left; right; exact hrq
        · rintro x hx hxG hxA (hh | hh)
          · exact d2 x hx (fun a => hxG (Or.inl a)) (fun a => hxG (Or.inr a)) hh
          · apply hxA
            have t1 := (yTg_th h hx).2.2.2.2.1
            have t2 := (yTg_th h hadjA).2.2.2.2.1
            rw [hh] at t1; rw [hrq] at t2
            exact t1.symm.trans t2
        · intro x hx hh
          rcases d3 x hx hh with e | e
          · exact Or.inr (Or.inr e)
          · exact Or.inr (Or.inl e)
      · -- farther right
        have hA : yAp s' r' i = yAp s r (i+1-p) := by
          unfold yAp
          rw [if_neg (by omega), if_neg (by omega)]
          obtain ⟨x1, x2, x3⟩ := hb' (i-1) (by omega) (by omega)
          rw [x1]; congr 1; omega
        have hno := hnb (i+1-p) c4 (by omega) (by omega) (by omega)
        rw [hA]
        refine ⟨?_, ?_, ?_, ?_⟩
        · rintro x hx (hG | hG)
          · rcases d1 x hx hG with e | e
            · exact Or.inl (Or.inl e)
            · exact Or.inr e
          · rw [hG, hno] at hx; cases hx
        · rcases d1' with e | e
          · exact Or.inl (Or.inl e)
          · exact Or.inr e
        · rintro x hx hxG hxA (hh | hh)
          · exact d2 x hx (fun a => hxG (Or.inl a)) hxA hh
          · have t := (yTg_th h hx).2.2.1
            rw [hh, hgs, hno] at t; cases t
        · intro x hx hh
          rcases d3 x hx hh with e | e
          · exact Or.inl e
          · exact Or.inr (Or.inl e)
  · -- those inside
    intro w x hw hwG hwr hwx hG
    have hwG' : ¬ G w := fun a => hwG (Or.inl a)
    have hwk : w ≠ r k := fun a => hwG (Or.inr a)
    have hwo : ∀ i, i < s → w ≠ r i := by
      intro i hi he
      rcases Nat.lt_trichotomy i k with c | c | c
      · exact hwr i (by omega) (by rw [ha i c]; exact he)
      · rw [c] at he; exact hwk he
      · exact hwr (i+p-1) (by omega) (by rw [hb i c hi]; exact he)
    rcases hG with hG | hG
    · exact hr5 w x hw hwG' hwo hwx hG
    · rw [hG, hgs] at hwx
      rcases F4 w hwx with c | ⟨j, hj, c⟩
      · exact hwG' c
      · exact hwr (k+j-1) (by omega) c
end


section
variable {n F : Nat} {g : Nat → Nat → Bool} {fo ρ : Nat → Nat → Nat} {s : Nat} {r : Nat → Nat} {G : Nat → Prop}

-- all faces at a node that no edge of z touches have one colour
theorem yTg_col1 (h : yTg n g F fo ρ) (c : Nat → Bool) {v : Nat} (hv : ∀ x, g v x = true → c (fo v x) = c (fo x v)) : ∀ x y, g v x = true → g v y = true → c (fo v x) = c (fo v y) := by
  intro x y hx hy
  have := yTg_orbit h (fun w => c (fo v w) = c (fo v x)) hx rfl (by
    intro w hw hc
    have t := yTg_th h hw
    have hvw : g v (ρ v w) = true := by rw [h.2.2.1.2]; exact t.2.2.1
    show c (fo v (ρ v w)) = c (fo v x)
    rw [hv _ hvw, t.2.2.2.2.2.2]
    exact hc) y hy
  exact this.symm

-- a node that may be taken off
theorem yFree (h : yTg n g F fo ρ) (hR : yRim n g ρ s r G) (hs : 3 ≤ s) (hout : ∀ i, i + 1 < s → G (ρ (r (i+1)) (r i)))
    (hcon : ∀ U : Nat → Prop, (∀ x y, G x → G y → g x y = true → U x → U y) → ∀ x y, G x → G y → U x → U y) :
    ∃ k, 1 ≤ k ∧ k + 2 ≤ s ∧ ∀ i, i < s → i ≠ k → i + 1 ≠ k → i ≠ k + 1 → g (r k) (r i) = false := by
  by_cases hex : ∃ k, 1 ≤ k ∧ k + 2 ≤ s ∧ ∀ i, i < s → i ≠ k → i + 1 ≠ k → i ≠ k + 1 → g (r k) (r i) = false
  · exact hex
  exfalso
  obtain ⟨hs2, hr1, hr2, hr3, hr4, hr5⟩ := hR
  have hgs := h.2.2.1.2
  have hn := h.2.1
  -- each has a chord
  have hch : ∀ k, 1 ≤ k → k + 2 ≤ s → ∃ i, i < s ∧ i ≠ k ∧ i + 1 ≠ k ∧ i ≠ k + 1 ∧ g (r k) (r i) = true := by
    intro k h1 h2
    by_cases hc : ∃ i, i < s ∧ i ≠ k ∧ i + 1 ≠ k ∧ i ≠ k + 1 ∧ g (r k) (r i) = true
    · exact hc
    · exfalso
      apply hex
      refine ⟨k, h1, h2, fun i a1 a2 a3 a4 => ?_⟩
      cases hh : g (r k) (r i) with
      | false => rfl
      | true => exact absurd ⟨i, a1, a2, a3, a4, hh⟩ hc
  -- the shortest chord
  have hmin : ∀ N, (∃ d i, d ≤ N ∧ 2 ≤ d ∧ i + d < s ∧ g (r i) (r (i+d)) = true) → ∃ d i, 2 ≤ d ∧ i + d < s ∧ g (r i) (r (i+d)) = true ∧ ∀ d' i', 2 ≤ d' → i' + d' < s → g (r i') (r (i'+d')) = true → d ≤ d' := by
    intro N
    induction N with
    | zero => rintro ⟨d, i, h1, h2, _⟩; omega
    | succ N ih =>
      rintro ⟨d, i, h1, h2, h3, h4⟩
      by_cases hc : ∃ d' i', d' < d ∧ 2 ≤ d' ∧ i' + d' < s ∧ g (r i') (r (i'+d')) = true
      · obtain ⟨d', i', a1, a2, a3, a4⟩ := hc
        exact ih ⟨d', i', by omega, a2, a3, a4⟩
      · refine ⟨d, i, h2, h3, h4, fun d' i' a2 a3 a4 => ?_⟩
        rcases Nat.lt_or_ge d' d with e | e
        · exact absurd ⟨d', i', e, a2, a3, a4⟩ hc
        · exact e
  have hany : ∃ d i, d ≤ s ∧ 2 ≤ d ∧ i + d < s ∧ g (r i) (r (i+d)) = true := by
    obtain ⟨l, a1, a2, a3, a4, a5⟩ := hch 1 (by omega) (by omega)
    exact ⟨l-1, 1, by omega, by omega, by omega, by rw [show 1 + (l-1) = l by omega]; exact a5⟩
  obtain ⟨d, i, hd2, hds, hgd, hdmin⟩ := hmin s hany
  -- the node behind its first end
  obtain ⟨l, l1, l2, l3, l4, l5⟩ := hch (i+1) (by omega) (by omega)
  have hl : l < i ∨ i + d < l := by
    rcases Nat.lt_or_ge l i with c | c
    · exact Or.inl c
    · right
      have := hdmin (l-(i+1)) (i+1) (by omega) (by omega) (by rw [show i + 1 + (l-(i+1)) = l by omega]; exact l5)
      omega
  have hlout : ∀ x, x ≤ d → r l ≠ r (i+x) := by
    intro x hx he
    have := hr2 l (i+x) l1 (by omega) he
    omega
  -- the round
  have hlt : ∀ x, x < d+1 → r (i+x) < 32 := fun x hx => by have := (hr1 (i+x) (by omega)).1; omega
  have hinj : ∀ x y, x < d+1 → y < d+1 → r (i+x) = r (i+y) → x = y := fun x y hx hy he => by
    have := hr2 (i+x) (i+y) (by omega) (by omega) he; omega
  have hci := yCy_ci (n := d+1) (v := fun x => r (i+x)) (by omega) hlt hinj
  have hsub : ∀ e, e < 1024 → yCy (d+1) (fun x => r (i+x)) e = true → yGr g e = true := by
    intro e _ he
    obtain ⟨x, hx, hex'⟩ := (yD_iff _).1 he
    rw [hex']
    by_cases cx : x + 1 = d + 1
    · have hxd : x = d := by omega
      rw [cx, Nat.mod_self, hxd]
      show yGr g (yIx (r (i+d)) (r (i+0))) = true
      rw [Nat.add_zero]
      have := yTg_gr h hgd
      rw [yIx_comm]; exact this.2.2.2.2.2.2.1
    · rw [Nat.mod_eq_of_lt (by omega)]
      have := yTg_gr h (hr3 (i+x) (by omega))
      rw [yIx_comm]; exact this.2.2.2.2.2.2.1
  obtain ⟨c, hc⟩ := h.2.2.2.2.1.2 (yCy (d+1) (fun x => r (i+x))) hsub hci.1
  have hcol : ∀ x y, g x y = true → yCy (d+1) (fun x => r (i+x)) (yIx x y) = Bool.xor (c (fo x y)) (c (fo y x)) := by
    intro x y hxy
    have gx := yTg_gr h hxy
    rw [hc _ gx.2.2.2.2.2.1 gx.2.2.2.2.2.2.1]
    rcases yLb fo (by omega : x < 32) (by omega : y < 32) gx.2.2.1 with e | e
    · rw [e.1, e.2]; cases c (fo x y) <;> cases c (fo y x) <;> rfl
    · rw [e.1, e.2]; cases c (fo x y) <;> cases c (fo y x) <;> rfl
  -- nodes off the round
  have hoff : ∀ y, (∀ x, x ≤ d → y ≠ r (i+x)) → ∀ x, g y x = true → c (fo y x) = c (fo x y) := by
    intro y hy x hyx
    have gy := yTg_gr h hyx
    have : yCy (d+1) (fun x => r (i+x)) (yIx y x) = false := by
      cases hh : yCy (d+1) (fun x => r (i+x)) (yIx y x) with
      | false => rfl
      | true =>
        exfalso
        obtain ⟨z, hz, he⟩ := (yD_iff _).1 hh
        have m := Nat.mod_lt (z+1) (by omega : 0 < d+1)
        have b1 := hlt z hz; have b2 := hlt _ m
        rcases yIx_inj (by omega) (by omega) b1 b2 he with e | e
        · exact hy z (by omega) e.1
        · exact hy _ (by omega) e.1
    rw [hcol y x hyx] at this
    revert this
    cases c (fo y x) <;> cases c (fo x y) <;> simp
  have hGoff : ∀ y, G y → ∀ x, x ≤ d → y ≠ r (i+x) := by
    intro y hy x hx he
    exact (hr1 (i+x) (by omega)).2 (by rw [← he]; exact hy)
  -- the colour at those that are gone
  have hg0 := hout i (by omega)
  obtain ⟨u0, hu0⟩ : ∃ u, u = ρ (r (i+1)) (r i) := ⟨_, rfl⟩
  rw [← hu0] at hg0
  have hu0n : g u0 (r (i+1)) = true := by rw [hu0]; exact (yTg_th h (hr3 i (by omega))).2.2.1
  have hγ : ∀ y, G y → ∀ x, g y x = true → c (fo y x) = c (fo u0 (r (i+1))) := by
    intro y hy
    have := hcon (fun y => ∀ x, g y x = true → c (fo y x) = c (fo u0 (r (i+1)))) (by
      intro y y' hy hy' hyy' hU x hx
      have h1 := yTg_col1 h c (hoff y' (hGoff y' hy'))
      have hy'y : g y' y = true := by rw [hgs]; exact hyy'
      rw [h1 x y hx hy'y, hoff y' (hGoff y' hy') y hy'y]
      exact hU y' hyy') u0 y hg0 hy (by
      intro x hx
      exact yTg_col1 h c (hoff u0 (hGoff u0 hg0)) x (r (i+1)) hx hu0n)
    exact this
  have hrim : ∀ x, x + 1 < s → c (fo (r (x+1)) (r x)) = c (fo u0 (r (i+1))) := by
    intro x hx
    have t := yTg_th h (hr3 x hx)
    rw [← t.2.2.2.2.2.2]
    exact hγ _ (hout x hx) _ t.2.2.1
  -- the sector of the node behind the first end
  have hB : yBp s r (i+1) = r (i+2) := by unfold yBp; rw [if_pos (by omega)]
  have hA : yAp s r (i+1) = r i := by unfold yAp; rw [if_neg (by omega)]; congr 1
  obtain ⟨d1, d1', d2, d3⟩ := hr4 (i+1) (by omega)
  rw [hB] at d1 d1'
  rw [hA] at d1' d2
  have hkB : g (r (i+1)) (r (i+2)) = true := by rw [hgs]; exact hr3 (i+1) (by omega)
  have hBcol : c (fo (r (i+1)) (r (i+2))) = !c (fo u0 (r (i+1))) := by
    have h1 : yCy (d+1) (fun x => r (i+x)) (yIx (r (i+1)) (r (i+2))) = true := yD_pos ⟨1, by omega, by rw [Nat.mod_eq_of_lt (by omega)]⟩
    rw [hcol _ _ hkB, hrim (i+1) (by omega)] at h1
    revert h1
    cases c (fo (r (i+1)) (r (i+2))) <;> cases c (fo u0 (r (i+1))) <;> simp
  have hin : ∀ x, g (r (i+1)) x = true → (G x ∨ x = r i) ∨ c (fo (r (i+1)) x) = !c (fo u0 (r (i+1))) := by
    refine yTg_orbit h (fun x => (G x ∨ x = r i) ∨ c (fo (r (i+1)) x) = !c (fo u0 (r (i+1)))) hkB (Or.inr hBcol) ?_
    intro x hx hU
    by_cases cg : G x
    · rcases d1 x hx cg with e | e
      · exact Or.inl (Or.inl e)
      · rw [e]; exact Or.inr hBcol
    · by_cases ca : x = r i
      · rw [ca]
        rcases d1' with e | e
        · exact Or.inl (Or.inl e)
        · rw [e]; exact Or.inr hBcol
      · have hcx : c (fo (r (i+1)) x) = !c (fo u0 (r (i+1))) := by
          rcases hU with (e | e) | e
          · exact absurd e cg
          · exact absurd e ca
          · exact e
        by_cases cya : ρ (r (i+1)) x = r i
        · exact Or.inl (Or.inr cya)
        · by_cases cyb : ρ (r (i+1)) x = r (i+2)
          · rw [cyb]; exact Or.inr hBcol
          · right
            have t := yTg_th h hx
            have hky : g (r (i+1)) (ρ (r (i+1)) x) = true := by rw [hgs]; exact t.2.2.1
            have gy := yTg_gr h hky
            have hz : yCy (d+1) (fun x => r (i+x)) (yIx (r (i+1)) (ρ (r (i+1)) x)) = false := by
              cases hh : yCy (d+1) (fun x => r (i+x)) (yIx (r (i+1)) (ρ (r (i+1)) x)) with
              | false => rfl
              | true =>
                exfalso
                obtain ⟨z, hz, he⟩ := (yD_iff _).1 hh
                have m := Nat.mod_lt (z+1) (by omega : 0 < d+1)
                have b1 := hlt z hz; have b2 := hlt _ m
                rcases yIx_inj (by omega) (by omega) b1 b2 he with e | e
                · have hz1 := hinj 1 z (by omega) hz e.1
                  rw [← hz1, Nat.mod_eq_of_lt (by omega)] at e
                  exact cyb e.2
                · have hz1 := hinj 1 _ (by omega) m e.1
                  have hz0 : z = 0 := by
                    rcases Nat.lt_or_ge (z+1) (d+1) with q | q
                    · rw [Nat.mod_eq_of_lt q] at hz1; omega
                    · rw [show z + 1 = d + 1 by omega, Nat.mod_self] at hz1; omega
                  rw [hz0] at e
                  exact cya e.2
            rw [hcol _ _ hky, t.2.2.2.2.2.2] at hz
            rw [← hcx]
            revert hz
            cases c (fo (r (i+1)) (ρ (r (i+1)) x)) <;> cases c (fo (r (i+1)) x) <;> simp
  -- the chord's other end
  have hlcol : c (fo (r (i+1)) (r l)) = !c (fo u0 (r (i+1))) := by
    rcases hin (r l) l5 with (e | e) | e
    · exact absurd e (hr1 l l1).2
    · have := hr2 l i l1 (by omega) e; omega
    · exact e
  have hlk : g (r l) (r (i+1)) = true := by rw [hgs]; exact l5
  have hl1 := hoff (r l) hlout
  have hlall : ∀ x, g (r l) x = true → c (fo (r l) x) = !c (fo u0 (r (i+1))) := by
    intro x hx
    rw [yTg_col1 h c hl1 x (r (i+1)) hx hlk, hl1 _ hlk]; exact hlcol
  by_cases cl : l = 0
  · have h01 : g (r 1) (r 0) = true := hr3 0 (by omega)
    have h10 : g (r l) (r 1) = true := by rw [cl, hgs]; exact h01
    have e1 := hlall (r 1) h10
    rw [hl1 _ h10, cl, hrim 0 (by omega)] at e1
    revert e1
    cases c (fo u0 (r (i+1))) <;> simp
  · have h01 : g (r l) (r (l-1)) = true := by have := hr3 (l-1) (by omega); rw [show l - 1 + 1 = l by omega] at this; exact this
    have e1 := hlall (r (l-1)) h01
    have e2 := hrim (l-1) (by omega)
    rw [show l - 1 + 1 = l by omega] at e2
    rw [e2] at e1
    revert e1
    cases c (fo u0 (r (i+1))) <;> simp
end


-- the whole way of taking nodes off
def yGo (rm : Nat → Nat → Nat) (kk : Nat → Nat) (t x : Nat) : Prop := ∃ τ, τ < t ∧ x = rm τ (kk τ)
def yFre (g : Nat → Nat → Bool) (s : Nat) (r : Nat → Nat) (k : Nat) : Prop := 1 ≤ k ∧ k + 2 ≤ s ∧ ∀ i, i < s → i ≠ k → i + 1 ≠ k → i ≠ k + 1 → g (r k) (r i) = false
def yRun (g : Nat → Nat → Bool) (ρ : Nat → Nat → Nat) (a b c T : Nat) (s : Nat → Nat) (rm : Nat → Nat → Nat) (kk pp : Nat → Nat) : Prop :=
  s 0 = 3 ∧ rm 0 0 = a ∧ rm 0 1 = c ∧ rm 0 2 = b ∧
  ∀ t, t < T → yStp g ρ (s t) (rm t) (kk t) (pp t) (s (t+1)) (rm (t+1)) ∧ ∀ i, yFre g (s t) (rm t) i → rm t i ≤ rm t (kk t)

section
variable {n F : Nat} {g : Nat → Nat → Bool} {fo ρ : Nat → Nat → Nat} {a b c T : Nat} {s : Nat → Nat} {rm : Nat → Nat → Nat} {kk pp : Nat → Nat}

theorem yRim_congr {s : Nat} {r : Nat → Nat} {G G' : Nat → Prop} (hR : yRim n g ρ s r G) (hG : ∀ x, G x ↔ G' x) : yRim n g ρ s r G' := by
  have : G = G' := by funext x; exact propext (hG x)
  rw [← this]; exact hR

theorem yRim_begin (h : yTg n g F fo ρ) (hab : g a b = true) (hc : ρ a b = c) {r : Nat → Nat} (r0 : r 0 = a) (r1 : r 1 = c) (r2 : r 2 = b) : yRim n g ρ 3 r (fun _ => False) := by
  have t := yTg_th h hab
  rw [hc] at t
  have g1 := yTg_gr h hab; have g2 := yTg_gr h t.2.1; have g3 := yTg_gr h t.2.2.1
  have hgs := h.2.2.1.2
  have inj : ∀ v x y, g v x = true → g v y = true → ρ v x = ρ v y → x = y := by
    intro v x y hx hy he
    have t1 := (yTg_th h hx).2.2.2.2.1; have t2 := (yTg_th h hy).2.2.2.2.1
    rw [he] at t1; exact t1.symm.trans t2
  refine ⟨by omega, ?_, ?_, ?_, ?_, fun w x _ _ _ _ hh => hh⟩
  · intro i hi
    rcases (by omega : i = 0 ∨ i = 1 ∨ i = 2) with e | e | e <;> subst e
    · rw [r0]; exact ⟨g1.2.2.2.1, fun hh => hh⟩
    · rw [r1]; exact ⟨g3.2.2.2.1, fun hh => hh⟩
    · rw [r2]; exact ⟨g1.2.2.2.2.1, fun hh => hh⟩
  · intro i j hi hj he
    rcases (by omega : i = 0 ∨ i = 1 ∨ i = 2) with e | e | e <;> rcases (by omega : j = 0 ∨ j = 1 ∨ j = 2) with e' | e' | e' <;> subst e <;> subst e' <;> first | rfl | (exfalso; omega)
  · intro i hi
    rcases (by omega : i = 0 ∨ i = 1) with e | e <;> subst e
    · rw [r0, r1]; exact t.2.2.1
    · rw [r1, r2]; exact t.2.1
  · intro i hi
    refine ⟨fun x _ hh => hh.elim, Or.inr ?_, fun x _ _ _ hh => hh, fun x hx he => Or.inl ?_⟩
    · rcases (by omega : i = 0 ∨ i = 1 ∨ i = 2) with e | e | e <;> subst e <;> simp [yAp, yBp, r0, r1, r2]
      · exact hc
      · exact t.2.2.2.2.1
      · exact t.2.2.2.1
    · rcases (by omega : i = 0 ∨ i = 1 ∨ i = 2) with e | e | e <;> subst e <;> simp [yAp, yBp, r0, r1, r2] at hx he ⊢
      · exact inj a x b hx hab (by rw [he, hc])
      · exact inj c x a hx t.2.2.1 (by rw [he, t.2.2.2.2.1])
      · exact inj b x c hx t.2.1 (by rw [he, t.2.2.2.1])

theorem yRun_rim (h : yTg n g F fo ρ) (hab : g a b = true) (hc : ρ a b = c) (hr : yRun g ρ a b c T s rm kk pp) : ∀ t, t ≤ T → yRim n g ρ (s t) (rm t) (yGo rm kk t) := by
  intro t
  induction t with
  | zero =>
    intro _
    rw [hr.1]
    refine yRim_congr (yRim_begin h hab hc hr.2.1 hr.2.2.1 hr.2.2.2.1) ?_
    intro x
    constructor
    · intro hh; exact hh.elim
    · rintro ⟨τ, hτ, _⟩; omega
  | succ t ih =>
    intro ht
    refine yRim_congr (yRim_step h (ih (by omega)) (hr.2.2.2.2 t (by omega)).1) ?_
    intro x
    constructor
    · rintro (⟨τ, hτ, hx⟩ | hx)
      · exact ⟨τ, by omega, hx⟩
      · exact ⟨t, by omega, hx⟩
    · rintro ⟨τ, hτ, hx⟩
      by_cases e : τ = t
      · rw [e] at hx; exact Or.inr hx
      · exact Or.inl ⟨τ, by omega, hx⟩

-- the outer third node is gone
theorem yRun_out (h : yTg n g F fo ρ) (hab : g a b = true) (hc : ρ a b = c) (hr : yRun g ρ a b c T s rm kk pp) : ∀ t, 1 ≤ t → t ≤ T → ∀ i, i + 1 < s t → yGo rm kk t (ρ (rm t (i+1)) (rm t i)) := by
  intro t
  induction t with
  | zero => intro h1; omega
  | succ t ih =>
    intro _ ht i hi
    have hS := (hr.2.2.2.2 t (by omega)).1
    have hR := yRun_rim h hab hc hr t (by omega)
    obtain ⟨e0, e1, F1, F3, F2, F4⟩ := yStp_facts h hR hS
    obtain ⟨hk1, hk2, hp, ha, hb, hcc, hd, hfree⟩ := hS
    have up : ∀ x, yGo rm kk t x → yGo rm kk (t+1) x := by
      rintro x ⟨τ, hτ, hx⟩; exact ⟨τ, by omega, hx⟩
    have old : ∀ j, j + 1 < s t → (j + 1 < kk t ∨ kk t < j) → yGo rm kk t (ρ (rm t (j+1)) (rm t j)) := by
      intro j hj hcase
      by_cases t0 : t = 0
      · exfalso
        subst t0
        have := hr.1
        omega
      · exact ih (by omega) (by omega) j hj
    rcases Nat.lt_or_ge (i+1) (kk t) with c1 | c1
    · rw [ha i (by omega), ha (i+1) c1]
      exact up _ (old i (by omega) (Or.inl c1))
    · rcases Nat.lt_or_ge i (kk t + pp t) with c2 | c2
      · have h1 := hcc (i+1-kk t) (by omega)
        rw [show kk t + (i+1-kk t) = i + 1 by omega, show i + 1 - 1 = i by omega] at h1
        have h2 := (F1 (i+1-kk t+1) (by omega)).2
        rw [show kk t + (i+1-kk t+1) - 1 = i + 1 by omega] at h2
        have tt := yTg_th h h2
        rw [h1] at tt
        exact ⟨t, by omega, tt.2.2.2.1⟩
      · have x1 := hb (i+1-pp t) (by omega) (by omega)
        rw [show i + 1 - pp t + pp t - 1 = i by omega] at x1
        have x2 := hb (i+1-pp t+1) (by omega) (by omega)
        rw [show i + 1 - pp t + 1 + pp t - 1 = i + 1 by omega] at x2
        rw [x1, x2]
        exact up _ (old (i+1-pp t) (by omega) (Or.inr (by omega)))

theorem yRun_conn (h : yTg n g F fo ρ) (hab : g a b = true) (hc : ρ a b = c) (hr : yRun g ρ a b c T s rm kk pp) {t : Nat} (ht : t ≤ T)
    (U : Nat → Prop) (hU : ∀ x y, yGo rm kk t x → yGo rm kk t y → g x y = true → U x → U y) : ∀ x y, yGo rm kk t x → yGo rm kk t y → U x → U y := by
  have hgs := h.2.2.1.2
  have key : ∀ τ, τ < t → (U (rm τ (kk τ)) ↔ U (rm 0 (kk 0))) := by
    intro τ
    induction τ using Nat.strongRecOn with
    | _ τ ih =>
      intro hτ
      by_cases t0 : τ = 0
      · rw [t0]
      · have hS := (hr.2.2.2.2 τ (by omega)).1
        have hR := yRun_rim h hab hc hr τ (by omega)
        have ho := yRun_out h hab hc hr τ (by omega) (by omega) (kk τ - 1) (by have := hS.2.1; have := hS.1; omega)
        have hk1 := hS.1
        rw [show kk τ - 1 + 1 = kk τ by omega] at ho
        obtain ⟨σ, hσ, he⟩ := ho
        have hadj : g (rm τ (kk τ)) (rm σ (kk σ)) = true := by
          rw [← he]
          have hnb := hR.2.2.2.1 (kk τ - 1) (by have := hS.2.1; omega)
          rw [show kk τ - 1 + 1 = kk τ by omega] at hnb
          rw [hgs]; exact (yTg_th h hnb).2.2.1
        rw [← ih σ hσ (by omega)]
        have G1 : yGo rm kk t (rm τ (kk τ)) := ⟨τ, hτ, rfl⟩
        have G2 : yGo rm kk t (rm σ (kk σ)) := ⟨σ, by omega, rfl⟩
        exact ⟨hU _ _ G1 G2 hadj, hU _ _ G2 G1 (by rw [hgs]; exact hadj)⟩
  rintro x y ⟨τ, hτ, hx⟩ ⟨σ, hσ, hy⟩ hUx
  rw [hy, key σ hσ, ← key τ hτ, ← hx]; exact hUx

-- those taken off are different
theorem yRun_inj (h : yTg n g F fo ρ) (hab : g a b = true) (hc : ρ a b = c) (hr : yRun g ρ a b c T s rm kk pp) : ∀ τ σ, τ < T → σ < T → rm τ (kk τ) = rm σ (kk σ) → τ = σ := by
  have key : ∀ τ σ, τ < σ → σ < T → rm τ (kk τ) ≠ rm σ (kk σ) := by
    intro τ σ hτ hσ he
    have hR := yRun_rim h hab hc hr σ (by omega)
    have hS := (hr.2.2.2.2 σ hσ).1
    exact (hR.2.1 (kk σ) (by have := hS.2.1; omega)).2 ⟨τ, hτ, he.symm⟩
  intro τ σ hτ hσ he
  rcases Nat.lt_trichotomy τ σ with e | e | e
  · exact absurd he (key τ σ e hσ)
  · exact e
  · exact absurd he.symm (key σ τ e hτ)

theorem yRun_size (h : yTg n g F fo ρ) (hab : g a b = true) (hc : ρ a b = c) (hr : yRun g ρ a b c T s rm kk pp) {t : Nat} (ht : t ≤ T) : s t + t ≤ n := by
  have hR := yRun_rim h hab hc hr t ht
  refine yPig (s t + t) n (fun i => if i < s t then rm t i else rm (i - s t) (kk (i - s t))) ?_ ?_
  · intro i hi
    split
    · rename_i h1; exact (hR.2.1 i h1).1
    · rename_i h1
      have hR' := yRun_rim h hab hc hr (i - s t) (by omega)
      have hS := (hr.2.2.2.2 (i - s t) (by omega)).1
      exact (hR'.2.1 _ (by have := hS.2.1; omega)).1
  · intro i j hi hj he
    by_cases c1 : i < s t <;> by_cases c2 : j < s t
    · rw [if_pos c1, if_pos c2] at he; exact hR.2.2.1 i j c1 c2 he
    · rw [if_pos c1, if_neg c2] at he
      exact absurd ⟨j - s t, by omega, he⟩ (hR.2.1 i c1).2
    · rw [if_neg c1, if_pos c2] at he
      exact absurd ⟨i - s t, by omega, he.symm⟩ (hR.2.1 j c2).2
    · rw [if_neg c1, if_neg c2] at he
      have := yRun_inj h hab hc hr _ _ (by omega) (by omega) he
      omega

-- when two are left, all others are gone
theorem yRun_all (h : yTg n g F fo ρ) (hab : g a b = true) (hc : ρ a b = c) (hr : yRun g ρ a b c T s rm kk pp) {t : Nat} (ht : t ≤ T) (h2 : s t = 2) :
    (∀ x, x < n → yGo rm kk t x ∨ x = rm t 0 ∨ x = rm t 1) ∧ t + 2 = n := by
  have hgs := h.2.2.1.2
  have hR := yRun_rim h hab hc hr t ht
  have hR' := hR
  obtain ⟨hs2, hr1, hr2, hr3, hr4, hr5⟩ := hR
  rw [h2] at hr1 hr2 hr3 hr4 hr5
  have g10 := hr3 0 (by omega)
  have nb : ∀ i, i < 2 → ∀ x, g (rm t i) x = true → yGo rm kk t x ∨ x = yBp 2 (rm t) i := by
    intro i hi
    obtain ⟨d1, d1', d2, d3⟩ := hr4 i hi
    have hAB : yAp 2 (rm t) i = yBp 2 (rm t) i := by
      rcases (by omega : i = 0 ∨ i = 1) with e | e <;> subst e <;> simp [yAp, yBp]
    rw [hAB] at d1'
    have hst : g (rm t i) (yBp 2 (rm t) i) = true := by
      rcases (by omega : i = 0 ∨ i = 1) with e | e <;> subst e <;> simp [yBp]
      · rw [hgs]; exact g10
      · exact g10
    refine yTg_orbit h (fun x => yGo rm kk t x ∨ x = yBp 2 (rm t) i) hst (Or.inr rfl) ?_
    rintro x hx (hG | hG)
    · exact d1 x hx hG
    · rw [hG]; exact d1'
  have hin : ∀ x, x < n → yGo rm kk t x ∨ x = rm t 0 ∨ x = rm t 1 := by
    intro x hx
    by_cases cx : yGo rm kk t x ∨ x = rm t 0 ∨ x = rm t 1
    · exact cx
    · exfalso
      have hU := yMax_con h.2.2.2.1 (fun y => yD (¬ (yGo rm kk t y ∨ y = rm t 0 ∨ y = rm t 1))) (by
        intro e he hxe
        have hge : g (e/32) (e%32) = true := by unfold yGr at hxe; rw [Bool.and_eq_true] at hxe; exact hxe.2
        have st : ∀ p q, g p q = true → ¬ (yGo rm kk t p ∨ p = rm t 0 ∨ p = rm t 1) → ¬ (yGo rm kk t q ∨ q = rm t 0 ∨ q = rm t 1) := by
          intro p q hpq hp hq
          have gp := yTg_gr h hpq
          rcases hq with e1 | e1 | e1
          · exact hr5 p q gp.2.2.2.1 (fun hh => hp (Or.inl hh)) (fun i hi => by
              rcases (by omega : i = 0 ∨ i = 1) with e | e <;> subst e
              · exact fun hh => hp (Or.inr (Or.inl hh))
              · exact fun hh => hp (Or.inr (Or.inr hh))) hpq e1
          · rw [e1, hgs] at hpq
            rcases nb 0 (by omega) p hpq with f | f
            · exact hp (Or.inl f)
            · exact hp (Or.inr (Or.inr (by rw [f]; simp [yBp])))
          · rw [e1, hgs] at hpq
            rcases nb 1 (by omega) p hpq with f | f
            · exact hp (Or.inl f)
            · exact hp (Or.inr (Or.inl (by rw [f]; simp [yBp])))
        rw [Bool.eq_iff_iff, yD_iff, yD_iff]
        exact ⟨st _ _ hge, st _ _ (by rw [hgs]; exact hge)⟩)
      have := hU x (rm t 0) hx (hr1 0 (by omega)).1
      rw [yD_pos cx] at this
      exact (yD_iff _).1 this.symm (Or.inr (Or.inl rfl))
  refine ⟨hin, ?_⟩
  have hle := yRun_size h hab hc hr ht
  rw [h2] at hle
  -- no more nodes than those
  have hch : ∀ x, ∃ i, x < n → i < t + 2 ∧ (x = if i < t then rm i (kk i) else if i = t then rm t 0 else rm t 1) := by
    intro x
    by_cases hx : x < n
    · rcases hin x hx with ⟨τ, hτ, e⟩ | e | e
      · exact ⟨τ, fun _ => ⟨by omega, by rw [if_pos hτ]; exact e⟩⟩
      · exact ⟨t, fun _ => ⟨by omega, by rw [if_neg (by omega), if_pos rfl]; exact e⟩⟩
      · exact ⟨t+1, fun _ => ⟨by omega, by rw [if_neg (by omega), if_neg (by omega)]; exact e⟩⟩
    · exact ⟨0, fun hh => absurd hh hx⟩
  have := yPig n (t+2) (fun x => Classical.choose (hch x)) (fun x hx => (Classical.choose_spec (hch x) hx).1) (by
    intro x y hx hy he
    have h1 := (Classical.choose_spec (hch x) hx).2
    have h3 := (Classical.choose_spec (hch y) hy).2
    have he' : Classical.choose (hch x) = Classical.choose (hch y) := he
    rw [he'] at h1
    exact h1.trans h3.symm)
  omega

theorem yRun_free (h : yTg n g F fo ρ) (hab : g a b = true) (hc : ρ a b = c) (hr : yRun g ρ a b c T s rm kk pp) {t : Nat} (h1 : 1 ≤ t) (ht : t ≤ T) (h3 : 3 ≤ s t) : ∃ k, yFre g (s t) (rm t) k :=
  yFree h (yRun_rim h hab hc hr t ht) h3 (yRun_out h hab hc hr t h1 ht) (fun U hU => yRun_conn h hab hc hr ht U hU)

-- two runs are one
theorem yRun_uniq (h : yTg n g F fo ρ) (hab : g a b = true) (hc : ρ a b = c) (hr : yRun g ρ a b c T s rm kk pp)
    {s' : Nat → Nat} {rm' : Nat → Nat → Nat} {kk' pp' : Nat → Nat} (hr' : yRun g ρ a b c T s' rm' kk' pp') :
    ∀ t, t ≤ T → s t = s' t ∧ (∀ i, i < s t → rm t i = rm' t i) ∧ (t < T → kk t = kk' t ∧ pp t = pp' t) := by
  have hstep : ∀ t, t ≤ T → s t = s' t → (∀ i, i < s t → rm t i = rm' t i) → (t < T → kk t = kk' t) := by
    intro t ht hs hrm htT
    have hR := yRun_rim h hab hc hr t ht
    obtain ⟨S1, M1⟩ := hr.2.2.2.2 t htT
    obtain ⟨S2, M2⟩ := hr'.2.2.2.2 t htT
    have f1 : yFre g (s t) (rm t) (kk t) := ⟨S1.1, S1.2.1, S1.2.2.2.2.2.2.2⟩
    have f2 : yFre g (s' t) (rm' t) (kk' t) := ⟨S2.1, S2.2.1, S2.2.2.2.2.2.2.2⟩
    have tr : ∀ k, yFre g (s t) (rm t) k ↔ yFre g (s' t) (rm' t) k := by
      intro k
      unfold yFre
      rw [← hs]
      constructor
      · rintro ⟨a1, a2, a3⟩
        exact ⟨a1, a2, fun i b1 b2 b3 b4 => by rw [← hrm k (by omega), ← hrm i b1]; exact a3 i b1 b2 b3 b4⟩
      · rintro ⟨a1, a2, a3⟩
        exact ⟨a1, a2, fun i b1 b2 b3 b4 => by rw [hrm k (by omega), hrm i b1]; exact a3 i b1 b2 b3 b4⟩
    have m1 := M1 (kk' t) ((tr _).2 f2)
    have m2 := M2 (kk t) ((tr _).1 f1)
    have b1 := f1.2.1; have b2 := f2.2.1
    rw [← hrm (kk t) (by omega), ← hrm (kk' t) (by omega)] at m2
    exact hR.2.2.1 _ _ (by omega) (by omega) (by omega)
  have hpstep : ∀ t, t < T → s t = s' t → (∀ i, i < s t → rm t i = rm' t i) → kk t = kk' t → pp t = pp' t ∧ s (t+1) = s' (t+1) ∧ (∀ i, i < s (t+1) → rm (t+1) i = rm' (t+1) i) := by
    intro t htT hs hrm hkk
    obtain ⟨S1, _⟩ := hr.2.2.2.2 t htT
    obtain ⟨S2, _⟩ := hr'.2.2.2.2 t htT
    have hR := yRun_rim h hab hc hr t (by omega)
    have hR2 := yRun_rim h hab hc hr' t (by omega)
    obtain ⟨e0, e1, F1, F3, F2, F4⟩ := yStp_facts h hR S1
    obtain ⟨e0', e1', F1', F3', F2', F4'⟩ := yStp_facts h hR2 S2
    obtain ⟨hk1, hk2, hp, ha, hb, hcc, hd, hfree⟩ := S1
    obtain ⟨hk1', hk2', hp', ha', hb', hcc', hd', hfree'⟩ := S2
    rw [← hkk] at *
    have hv : rm t (kk t) = rm' t (kk t) := hrm _ (by omega)
    have hB : rm t (kk t + 1) = rm' t (kk t + 1) := hrm _ (by omega)
    have hA : rm t (kk t - 1) = rm' t (kk t - 1) := hrm _ (by omega)
    -- the two rows from the right
    have same : ∀ j, j ≤ pp t → j ≤ pp' t → rm (t+1) (kk t + pp t - j) = rm' (t+1) (kk t + pp' t - j) := by
      intro j
      induction j with
      | zero => intro _ _; rw [Nat.sub_zero, Nat.sub_zero, e1, e1']; exact hB
      | succ j ih =>
        intro h1 h2
        have i1 := ih (by omega) (by omega)
        have c1 := hcc (pp t - j) (by omega)
        have c2 := hcc' (pp' t - j) (by omega)
        rw [show kk t + (pp t - j) = kk t + pp t - j by omega] at c1
        rw [show kk t + (pp' t - j) = kk t + pp' t - j by omega] at c2
        rw [i1, hv, c2] at c1
        rw [show kk t + pp t - (j+1) = kk t + pp t - j - 1 by omega, show kk t + pp' t - (j+1) = kk t + pp' t - j - 1 by omega]
        exact c1.symm
    have hpp : pp t = pp' t := by
      rcases Nat.lt_trichotomy (pp t) (pp' t) with e | e | e
      · exfalso
        have i1 := same (pp t) (Nat.le_refl _) (by omega)
        have c1 := hcc 0 (by omega)
        have c2 := hcc' (pp' t - pp t) (by omega)
        rw [show kk t + pp t - pp t = kk t by omega] at i1
        simp only [Nat.add_zero] at c1
        rw [i1, hv] at c1
        rw [show kk t + (pp' t - pp t) = kk t + pp' t - pp t by omega] at c2
        rw [c2, e0, hA] at c1
        exact hd' (pp' t - pp t - 1) (by omega) (by rw [← c1]; congr 1; omega)
      · exact e
      · exfalso
        have i1 := same (pp' t) (by omega) (Nat.le_refl _)
        have c1 := hcc' 0 (by omega)
        have c2 := hcc (pp t - pp' t) (by omega)
        rw [show kk t + pp' t - pp' t = kk t by omega] at i1
        simp only [Nat.add_zero] at c1
        rw [← i1, ← hv] at c1
        rw [show kk t + (pp t - pp' t) = kk t + pp t - pp' t by omega] at c2
        rw [c2, e0', ← hA] at c1
        exact hd (pp t - pp' t - 1) (by omega) (by rw [← c1]; congr 1; omega)
    refine ⟨hpp, by omega, ?_⟩
    intro i hi
    rcases Nat.lt_or_ge i (kk t) with d1 | d1
    · rw [ha i d1, ha' i d1]; exact hrm i (by omega)
    · rcases Nat.lt_or_ge i (kk t + pp t) with d2 | d2
      · have := same (kk t + pp t - i) (by omega) (by omega)
        rw [show kk t + pp t - (kk t + pp t - i) = i by omega, show kk t + pp' t - (kk t + pp t - i) = i by omega] at this
        exact this
      · have x1 := hb (i+1-pp t) (by omega) (by omega)
        have x2 := hb' (i+1-pp t) (by omega) (by omega)
        rw [show i + 1 - pp t + pp t - 1 = i by omega] at x1
        rw [show i + 1 - pp t + pp' t - 1 = i by omega] at x2
        rw [x1, x2]; exact hrm _ (by omega)
  intro t
  induction t with
  | zero =>
    intro h0
    have h1 : s 0 = s' 0 := by rw [hr.1, hr'.1]
    have h2 : ∀ i, i < s 0 → rm 0 i = rm' 0 i := by
      intro i hi
      rw [hr.1] at hi
      rcases (by omega : i = 0 ∨ i = 1 ∨ i = 2) with e | e | e <;> subst e
      · rw [hr.2.1, hr'.2.1]
      · rw [hr.2.2.1, hr'.2.2.1]
      · rw [hr.2.2.2.1, hr'.2.2.2.1]
    refine ⟨h1, h2, fun hT => ?_⟩
    have hk := hstep 0 h0 h1 h2 hT
    exact ⟨hk, (hpstep 0 hT h1 h2 hk).1⟩
  | succ t ih =>
    intro ht
    obtain ⟨i1, i2, i3⟩ := ih (by omega)
    obtain ⟨k1, k2⟩ := i3 (by omega)
    obtain ⟨_, p2, p3⟩ := hpstep t (by omega) i1 i2 k1
    refine ⟨p2, p3, fun hT => ?_⟩
    have hk := hstep (t+1) ht p2 p3 hT
    exact ⟨hk, (hpstep (t+1) hT p2 p3 hk).1⟩
end


-- one side on P, the other on Q
def yC2 (σ : Nat → Bool) (P Q : Int64) : Prop := ∃ c : Bool, ∀ j, j < 64 → (yL P j = true → σ j = c) ∧ (yL Q j = true → σ j = !c)
def ySat (σ : Nat → Bool) (k : Nat) (a b : Nat → Int64) : Prop := ∀ i, i < k → yC2 σ (a i) (b i)

theorem yC2_or {σ : Nat → Bool} {P Q A B : Int64} (j0 : Nat) (hj0 : j0 < 64)
    (h0 : (yL P j0 = true ∧ yL A j0 = true) ∨ (yL Q j0 = true ∧ yL B j0 = true)) :
    (yC2 σ P Q ∧ yC2 σ A B) ↔ yC2 σ (P ||| A) (Q ||| B) := by
  constructor
  · rintro ⟨⟨c, hc⟩, ⟨d, hd⟩⟩
    have hcd : c = d := by
      rcases h0 with ⟨a1, a2⟩ | ⟨a1, a2⟩
      · rw [← (hc j0 hj0).1 a1, ← (hd j0 hj0).1 a2]
      · have e1 := (hc j0 hj0).2 a1
        have e2 := (hd j0 hj0).2 a2
        rw [e1] at e2
        revert e2; cases c <;> cases d <;> simp
    subst hcd
    refine ⟨c, fun j hj => ⟨fun h => ?_, fun h => ?_⟩⟩
    · rw [yL_or] at h
      simp only [Bool.or_eq_true] at h
      rcases h with h | h
      · exact (hc j hj).1 h
      · exact (hd j hj).1 h
    · rw [yL_or] at h
      simp only [Bool.or_eq_true] at h
      rcases h with h | h
      · exact (hc j hj).2 h
      · exact (hd j hj).2 h
  · rintro ⟨c, hc⟩
    refine ⟨⟨c, fun j hj => ⟨fun h => ?_, fun h => ?_⟩⟩, ⟨c, fun j hj => ⟨fun h => ?_, fun h => ?_⟩⟩⟩
    · exact (hc j hj).1 (by rw [yL_or, h]; rfl)
    · exact (hc j hj).2 (by rw [yL_or, h]; rfl)
    · exact (hc j hj).1 (by rw [yL_or, h]; simp)
    · exact (hc j hj).2 (by rw [yL_or, h]; simp)

theorem yC2_swap {σ : Nat → Bool} {A B : Int64} : yC2 σ A B ↔ yC2 σ B A := by
  constructor <;>
  · rintro ⟨c, hc⟩
    refine ⟨!c, fun j hj => ⟨fun h => (hc j hj).2 h, fun h => ?_⟩⟩
    rw [(hc j hj).1 h]; simp

-- a bit of a mask that is not 0
theorem yL_ex {x : Int64} (h : ¬ x = 0) : ∃ j, j < 64 ∧ yL x j = true := by
  by_cases hc : ∃ j, j < 64 ∧ yL x j = true
  · exact hc
  · exfalso; apply h; rw [yL_eq0]; intro i hi
    cases hb : yL x i with
    | false => rfl
    | true => exact absurd ⟨i, hi, hb⟩ hc

-- all bits of group i
def yGb (a b : Nat → Int64) (i j : Nat) : Bool := yL (a i) j || yL (b i) j

-- what holds of the groups
def yGs (k : Nat) (a b : Nat → Int64) : Prop :=
  (∀ i i' j, i < k → i' < k → j < 64 → yGb a b i j = true → yGb a b i' j = true → i = i') ∧
  (∀ i, i < k → ∃ j, j < 64 ∧ yGb a b i j = true) ∧
  (∀ i j, i < k → j < 64 → ¬ (yL (a i) j = true ∧ yL (b i) j = true))

theorem w_partL (f g : Nat → Int64) (k : Nat) (p0 p1 : Int64) (hk : k ≤ 57) (hG : yGs k f g) (hp : ∃ j, j < 64 ∧ (yL p0 j || yL p1 j) = true)
    (K : Int32 → (Int32 × (Nat → Int64) × (Nat → Int64)) → Prop)
    (hK1 : ∀ k' a b, k' ≤ k + 1 → yGs k' a b → (∀ σ, ySat σ k' a b ↔ (ySat σ k f g ∧ yC2 σ p0 p1)) →
      (∀ i j, i < k' → j < 64 → yGb a b i j = true → (yL p0 j || yL p1 j) = true ∨ ∃ i', i' < k ∧ yGb f g i' j = true) → K 1 (Int32.ofNat k', a, b))
    (hK0 : ∀ k' a b, (∀ σ, ¬ (ySat σ k f g ∧ yC2 σ p0 p1)) → K 0 (Int32.ofNat k', a, b)) :
    ∀ (d i kept : Nat) (a b : Nat → Int64) (first second : Int64), k - i = d → i ≤ k → kept ≤ i →
      (∀ x, i ≤ x → a x = f x ∧ b x = g x) →
      (∀ σ, ((∀ x, x < i → yC2 σ (f x) (g x)) ∧ yC2 σ p0 p1) ↔ ((∀ x, x < kept → yC2 σ (a x) (b x)) ∧ yC2 σ first second)) →
      (∀ j, j < 64 → (yL p0 j = true → yL first j = true) ∧ (yL p1 j = true → yL second j = true)) →
      -- kept groups are old ones, apart from each other, from what was put together and from what comes
      (∀ x, x < kept → ∃ y, y < i ∧ a x = f y ∧ b x = g y) →
      (∀ x x', x < kept → x' < kept → ∀ j, j < 64 → yGb a b x j = true → yGb a b x' j = true → x = x') →
      (∀ x j, x < kept → j < 64 → yGb a b x j = true → (yL first j || yL second j) = false) →
      (∀ j, j < 64 → (yL first j || yL second j) = true → (yL p0 j || yL p1 j) = true ∨ ∃ y, y < i ∧ yGb f g y j = true) →
      wLX5_part_12 (Int32.ofNat k) p0 p1 K (d+1) a b (Int32.ofNat i) first second (Int32.ofNat kept) := by
  intro d
  induction d with
  | zero =>
    intro i kept a b first second hd hik hkept hab hsat hp01 hold hdis hoff hsrc
    have hi : i = k := by omega
    unfold wLX5_part_12
    refine ⟨fun _ => ?_, fun hn => ?_⟩
    · have hb58 : kept < 58 := by omega
      refine ⟨yn_in (by omega) hb58, ?_⟩
      intro g136 h136
      refine ⟨yn_in (by omega) hb58, ?_⟩
      intro g145 h145 v151 hv151
      have hv : v151 = Int32.ofNat (kept + 1) := by rw [hv151]; exact yn_add kept 1
      rw [yn_nat (by omega)] at h136 h145
      have ga : ∀ x, x < kept → g136 x = a x ∧ g145 x = b x := by
        intro x hx
        rw [h136, h145, yupdL_ne _ _ _ _ (by omega), yupdL_ne _ _ _ _ (by omega)]; exact ⟨rfl, rfl⟩
      have gk : g136 kept = first ∧ g145 kept = second := by
        rw [h136, h145, yupdL_same, yupdL_same]; exact ⟨rfl, rfl⟩
      constructor
      · intro hne
        rw [ylg_cmp0] at hne
        obtain ⟨j, hj, hjb⟩ := yL_ex hne
        rw [yL_and] at hjb
        simp only [Bool.and_eq_true] at hjb
        rw [hv]
        apply hK0
        intro σ hσ
        have := (hsat σ).1 ⟨fun x hx => hσ.1 x (by omega), hσ.2⟩
        obtain ⟨c, hc⟩ := this.2
        have e1 := (hc j hj).1 hjb.1
        have e2 := (hc j hj).2 hjb.2
        rw [e1] at e2
        revert e2; cases c <;> simp
      · intro heq
        rw [ylg_cmp0, yL_eq0] at heq
        rw [hv]
        apply hK1
        · omega
        · refine ⟨?_, ?_, ?_⟩
          · intro x x' j hx hx' hj hb hb'
            by_cases e : x = kept
            · by_cases e' : x' = kept
              · omega
              · exfalso
                have h1 := hoff x' j (by omega) hj (by unfold yGb; rw [← (ga x' (by omega)).1, ← (ga x' (by omega)).2]; exact hb')
                unfold yGb at hb
                rw [e, gk.1, gk.2, h1] at hb; cases hb
            · by_cases e' : x' = kept
              · exfalso
                have h1 := hoff x j (by omega) hj (by unfold yGb; rw [← (ga x (by omega)).1, ← (ga x (by omega)).2]; exact hb)
                unfold yGb at hb'
                rw [e', gk.1, gk.2, h1] at hb'; cases hb'
              · refine hdis x x' (by omega) (by omega) j hj ?_ ?_
                · unfold yGb at hb ⊢; rw [← (ga x (by omega)).1, ← (ga x (by omega)).2]; exact hb
                · unfold yGb at hb' ⊢; rw [← (ga x' (by omega)).1, ← (ga x' (by omega)).2]; exact hb'
          · intro x hx
            by_cases e : x = kept
            · obtain ⟨j, hj, hb⟩ := hp
              refine ⟨j, hj, ?_⟩
              unfold yGb
              rw [e, gk.1, gk.2]
              simp only [Bool.or_eq_true] at hb ⊢
              rcases hb with hb | hb
              · exact Or.inl ((hp01 j hj).1 hb)
              · exact Or.inr ((hp01 j hj).2 hb)
            · obtain ⟨y, hy, e1, e2⟩ := hold x (by omega)
              obtain ⟨j, hj, hb⟩ := hG.2.1 y (by omega)
              refine ⟨j, hj, ?_⟩
              unfold yGb at hb ⊢
              rw [(ga x (by omega)).1, (ga x (by omega)).2, e1, e2]; exact hb
          · intro x j hx hj hb
            by_cases e : x = kept
            · rw [e, gk.1, gk.2] at hb
              have := heq j hj
              rw [yL_and, hb.1, hb.2] at this; cases this
            · obtain ⟨y, hy, e1, e2⟩ := hold x (by omega)
              rw [(ga x (by omega)).1, (ga x (by omega)).2, e1, e2] at hb
              exact hG.2.2 y j (by omega) hj hb
        · intro σ
          have h1 := hsat σ
          constructor
          · intro hs
            have h2 : (∀ x, x < kept → yC2 σ (a x) (b x)) ∧ yC2 σ first second := by
              refine ⟨fun x hx => ?_, ?_⟩
              · have := hs x (by omega)
                rw [(ga x hx).1, (ga x hx).2] at this; exact this
              · have := hs kept (by omega)
                rw [gk.1, gk.2] at this; exact this
            have h3 := h1.2 h2
            exact ⟨fun x hx => h3.1 x (by omega), h3.2⟩
          · intro hs x hx
            have h3 := h1.1 ⟨fun x hx => hs.1 x (by omega), hs.2⟩
            by_cases e : x = kept
            · rw [e, gk.1, gk.2]; exact h3.2
            · rw [(ga x (by omega)).1, (ga x (by omega)).2]; exact h3.1 x (by omega)
        · intro x j hx hj hb
          by_cases e : x = kept
          · unfold yGb at hb
            rw [e, gk.1, gk.2] at hb
            rcases hsrc j hj hb with h | ⟨y, hy, h⟩
            · exact Or.inl h
            · exact Or.inr ⟨y, by omega, h⟩
          · obtain ⟨y, hy, e1, e2⟩ := hold x (by omega)
            unfold yGb at hb
            rw [(ga x (by omega)).1, (ga x (by omega)).2, e1, e2] at hb
            exact Or.inr ⟨y, by omega, hb⟩
    · exfalso; apply hn; rw [yn_le (by omega) (by omega)]; omega
  | succ d ih =>
    intro i kept a b first second hd hik hkept hab hsat hp01 hold hdis hoff hsrc
    have hi : i < k := by omega
    unfold wLX5_part_12
    refine ⟨fun hn => ?_, fun _ => ?_⟩
    · exfalso; rw [yn_le (by omega) (by omega)] at hn; omega
    · refine ⟨yn_in (by omega) (by omega), ?_⟩
      intro v28 hv28
      refine ⟨yn_in (by omega) (by omega), ?_⟩
      intro v37 hv37
      rw [yn_nat (by omega)] at hv28 hv37
      rw [(hab i (Nat.le_refl i)).1] at hv28
      rw [(hab i (Nat.le_refl i)).2] at hv37
      have hnext : Int32.ofNat i + 1 = Int32.ofNat (i+1) := yn_add i 1
      have hsatG : ∀ σ, ((∀ x, x < i+1 → yC2 σ (f x) (g x)) ∧ yC2 σ p0 p1) ↔ (((∀ x, x < i → yC2 σ (f x) (g x)) ∧ yC2 σ p0 p1) ∧ yC2 σ v28 v37) := by
        intro σ
        constructor
        · intro h; refine ⟨⟨fun x hx => h.1 x (by omega), h.2⟩, ?_⟩
          rw [hv28, hv37]; exact h.1 i (by omega)
        · intro h; refine ⟨fun x hx => ?_, h.1.2⟩
          by_cases e : x = i
          · rw [e, ← hv28, ← hv37]; exact h.2
          · exact h.1.1 x (by omega)
      -- a kept group has nothing in common with this one
      have hapart : ∀ x j, x < kept → j < 64 → yGb a b x j = true → (yL v28 j || yL v37 j) = false := by
        intro x j hx hj hb
        obtain ⟨y, hy, e1, e2⟩ := hold x hx
        cases hc : (yL v28 j || yL v37 j) with
        | false => rfl
        | true =>
          exfalso
          have h1 : yGb f g y j = true := by unfold yGb at hb ⊢; rw [← e1, ← e2]; exact hb
          have h2 : yGb f g i j = true := by unfold yGb; rw [← hv28, ← hv37]; exact hc
          have := hG.1 y i j (by omega) hi hj h1 h2
          omega
      constructor
      · intro hne
        rw [ylg_cmp0] at hne
        constructor
        · -- the other way round
          intro heq v113 hv113 v120 hv120
          rw [ylg_cmp0, yL_eq0] at heq
          rw [hnext]
          obtain ⟨j0, hj0, hb0⟩ := yL_ex hne
          rw [yL_and, yL_or, yL_or] at hb0
          simp only [Bool.and_eq_true, Bool.or_eq_true] at hb0
          have hz := heq j0 hj0
          rw [yL_or, yL_and, yL_and] at hz
          simp only [Bool.or_eq_false_iff] at hz
          have hpt : (yL first j0 = true ∧ yL v37 j0 = true) ∨ (yL second j0 = true ∧ yL v28 j0 = true) := by
            rcases hb0 with ⟨h1, h2⟩
            rcases h1 with h1 | h1 <;> rcases h2 with h2 | h2
            · rw [h1, h2] at hz; cases hz.1
            · exact Or.inr ⟨(hp01 j0 hj0).2 h2, h1⟩
            · exact Or.inl ⟨(hp01 j0 hj0).1 h2, h1⟩
            · rw [h1, h2] at hz; cases hz.2
          refine ih (i+1) kept a b v113 v120 (by omega) (by omega) (by omega) (fun x hx => hab x (by omega)) ?_ ?_ ?_ hdis ?_ ?_
          · intro σ
            rw [hsatG σ, hsat σ, and_assoc, yC2_swap (A := v28), yC2_or j0 hj0 hpt, hv113, hv120]
          · intro j hj
            refine ⟨fun h => ?_, fun h => ?_⟩
            · rw [hv113, yL_or, (hp01 j hj).1 h]; rfl
            · rw [hv120, yL_or, (hp01 j hj).2 h]; rfl
          · intro x hx
            obtain ⟨y, hy, e⟩ := hold x hx
            exact ⟨y, by omega, e⟩
          · intro x j hx hj hb
            have h1 := hoff x j hx hj hb
            have h2 := hapart x j hx hj hb
            simp only [Bool.or_eq_false_iff] at h1 h2
            rw [hv113, hv120, yL_or, yL_or, h1.1, h1.2, h2.1, h2.2]; rfl
          · intro j hj hb
            rw [hv113, hv120, yL_or, yL_or] at hb
            have hcase : (yL first j || yL second j) = true ∨ (yL v28 j || yL v37 j) = true := by
              revert hb; cases yL first j <;> cases yL second j <;> cases yL v28 j <;> cases yL v37 j <;> simp
            rcases hcase with h | h
            · rcases hsrc j hj h with h | ⟨y, hy, h⟩
              · exact Or.inl h
              · exact Or.inr ⟨y, by omega, h⟩
            · exact Or.inr ⟨i, by omega, by unfold yGb; rw [← hv28, ← hv37]; exact h⟩
        · intro hne2 v96 hv96 v103 hv103
          rw [ylg_cmp0] at hne2
          rw [hnext]
          obtain ⟨j0, hj0, hb0⟩ := yL_ex hne2
          rw [yL_or, yL_and, yL_and] at hb0
          simp only [Bool.or_eq_true, Bool.and_eq_true] at hb0
          have hpt : (yL first j0 = true ∧ yL v28 j0 = true) ∨ (yL second j0 = true ∧ yL v37 j0 = true) := by
            rcases hb0 with ⟨h1, h2⟩ | ⟨h1, h2⟩
            · exact Or.inl ⟨(hp01 j0 hj0).1 h2, h1⟩
            · exact Or.inr ⟨(hp01 j0 hj0).2 h2, h1⟩
          refine ih (i+1) kept a b v96 v103 (by omega) (by omega) (by omega) (fun x hx => hab x (by omega)) ?_ ?_ ?_ hdis ?_ ?_
          · intro σ
            rw [hsatG σ, hsat σ, and_assoc, yC2_or j0 hj0 hpt, hv96, hv103]
          · intro j hj
            refine ⟨fun h => ?_, fun h => ?_⟩
            · rw [hv96, yL_or, (hp01 j hj).1 h]; rfl
            · rw [hv103, yL_or, (hp01 j hj).2 h]; rfl
          · intro x hx
            obtain ⟨y, hy, e⟩ := hold x hx
            exact ⟨y, by omega, e⟩
          · intro x j hx hj hb
            have h1 := hoff x j hx hj hb
            have h2 := hapart x j hx hj hb
            simp only [Bool.or_eq_false_iff] at h1 h2
            rw [hv96, hv103, yL_or, yL_or, h1.1, h1.2, h2.1, h2.2]; rfl
          · intro j hj hb
            rw [hv96, hv103, yL_or, yL_or] at hb
            have hcase : (yL first j || yL second j) = true ∨ (yL v28 j || yL v37 j) = true := by
              revert hb; cases yL first j <;> cases yL second j <;> cases yL v28 j <;> cases yL v37 j <;> simp
            rcases hcase with h | h
            · rcases hsrc j hj h with h | ⟨y, hy, h⟩
              · exact Or.inl h
              · exact Or.inr ⟨y, by omega, h⟩
            · exact Or.inr ⟨i, by omega, by unfold yGb; rw [← hv28, ← hv37]; exact h⟩
      · intro heq
        rw [ylg_cmp0, yL_eq0] at heq
        refine ⟨yn_in (by omega) (by omega), ?_⟩
        intro g61 h61
        refine ⟨yn_in (by omega) (by omega), ?_⟩
        intro g70 h70
        rw [yn_nat (by omega)] at h61 h70
        have hkn : Int32.ofNat kept + 1 = Int32.ofNat (kept+1) := yn_add kept 1
        rw [hnext, hkn]
        have ga : ∀ x, x < kept → g61 x = a x ∧ g70 x = b x := by
          intro x hx
          rw [h61, h70, yupdL_ne _ _ _ _ (by omega), yupdL_ne _ _ _ _ (by omega)]; exact ⟨rfl, rfl⟩
        have gk : g61 kept = v28 ∧ g70 kept = v37 := by
          rw [h61, h70, yupdL_same, yupdL_same]; exact ⟨rfl, rfl⟩
        -- this group is off p0 and p1, so off all that was put together
        have hoffp : ∀ j, j < 64 → (yL v28 j || yL v37 j) = true → (yL first j || yL second j) = false := by
          intro j hj hb
          cases hc : (yL first j || yL second j) with
          | false => rfl
          | true =>
            exfalso
            rcases hsrc j hj hc with h | ⟨y, hy, h⟩
            · have := heq j hj
              rw [yL_and, yL_or, yL_or, hb, h] at this; cases this
            · have h2 : yGb f g i j = true := by unfold yGb; rw [← hv28, ← hv37]; exact hb
              have := hG.1 y i j (by omega) hi hj h h2
              omega
        refine ih (i+1) (kept+1) g61 g70 first second (by omega) (by omega) (by omega) ?_ ?_ hp01 ?_ ?_ ?_ ?_
        · intro x hx
          rw [h61, h70, yupdL_ne _ _ _ _ (by omega), yupdL_ne _ _ _ _ (by omega)]; exact hab x (by omega)
        · intro σ
          rw [hsatG σ, hsat σ]
          constructor
          · rintro ⟨⟨h1, h2⟩, h3⟩
            refine ⟨fun x hx => ?_, h2⟩
            by_cases e : x = kept
            · rw [e, gk.1, gk.2]; exact h3
            · rw [(ga x (by omega)).1, (ga x (by omega)).2]; exact h1 x (by omega)
          · rintro ⟨h1, h2⟩
            refine ⟨⟨fun x hx => ?_, h2⟩, ?_⟩
            · have := h1 x (by omega)
              rw [(ga x hx).1, (ga x hx).2] at this; exact this
            · have := h1 kept (by omega)
              rw [gk.1, gk.2] at this; exact this
        · intro x hx
          by_cases e : x = kept
          · exact ⟨i, by omega, by rw [e, gk.1, hv28], by rw [e, gk.2, hv37]⟩
          · obtain ⟨y, hy, e1, e2⟩ := hold x (by omega)
            exact ⟨y, by omega, by rw [(ga x (by omega)).1, e1], by rw [(ga x (by omega)).2, e2]⟩
        · intro x x' hx hx' j hj hb hb'
          by_cases e : x = kept
          · by_cases e' : x' = kept
            · omega
            · exfalso
              have h1 := hapart x' j (by omega) hj (by unfold yGb at hb' ⊢; rw [← (ga x' (by omega)).1, ← (ga x' (by omega)).2]; exact hb')
              unfold yGb at hb
              rw [e, gk.1, gk.2, h1] at hb; cases hb
          · by_cases e' : x' = kept
            · exfalso
              have h1 := hapart x j (by omega) hj (by unfold yGb at hb ⊢; rw [← (ga x (by omega)).1, ← (ga x (by omega)).2]; exact hb)
              unfold yGb at hb'
              rw [e', gk.1, gk.2, h1] at hb'; cases hb'
            · refine hdis x x' (by omega) (by omega) j hj ?_ ?_
              · unfold yGb at hb ⊢; rw [← (ga x (by omega)).1, ← (ga x (by omega)).2]; exact hb
              · unfold yGb at hb' ⊢; rw [← (ga x' (by omega)).1, ← (ga x' (by omega)).2]; exact hb'
        · intro x j hx hj hb
          by_cases e : x = kept
          · unfold yGb at hb
            rw [e, gk.1, gk.2] at hb
            exact hoffp j hj hb
          · exact hoff x j (by omega) hj (by unfold yGb at hb ⊢; rw [← (ga x (by omega)).1, ← (ga x (by omega)).2]; exact hb)
        · intro j hj hb
          rcases hsrc j hj hb with h | ⟨y, hy, h⟩
          · exact Or.inl h
          · exact Or.inr ⟨y, by omega, h⟩

theorem w_part (i0 : Int32) (f g : Nat → Int64) (k : Nat) (p0 p1 : Int64) (hk : k ≤ 57) (hG : yGs k f g) (hp : ∃ j, j < 64 ∧ (yL p0 j || yL p1 j) = true)
    (K : Int32 → (Int32 × (Nat → Int64) × (Nat → Int64)) → Prop)
    (hK1 : ∀ k' a b, k' ≤ k + 1 → yGs k' a b → (∀ σ, ySat σ k' a b ↔ (ySat σ k f g ∧ yC2 σ p0 p1)) →
      (∀ i j, i < k' → j < 64 → yGb a b i j = true → (yL p0 j || yL p1 j) = true ∨ ∃ i', i' < k ∧ yGb f g i' j = true) → K 1 (Int32.ofNat k', a, b))
    (hK0 : ∀ k' a b, (∀ σ, ¬ (ySat σ k f g ∧ yC2 σ p0 p1)) → K 0 (Int32.ofNat k', a, b)) :
    wX5_part i0 (Int32.ofNat k) f g p0 p1 K := by
  unfold wX5_part
  refine ⟨k + 1, ?_⟩
  refine w_partL f g k p0 p1 hk hG hp K hK1 hK0 k 0 0 f g p0 p1 (by omega) (by omega) (by omega) (fun x _ => ⟨rfl, rfl⟩) ?_ ?_ ?_ ?_ ?_ ?_
  · intro σ
    constructor
    · intro h; exact ⟨fun x hx => by omega, h.2⟩
    · intro h; exact ⟨fun x hx => by omega, h.2⟩
  · intro j _; exact ⟨id, id⟩
  · intro x hx; omega
  · intro x x' hx; omega
  · intro x j hx; omega
  · intro j _ h; exact Or.inl h

theorem yPig (c : Nat) : ∀ (n : Nat) (f : Nat → Nat), (∀ i, i < c → f i < n) → (∀ i j, i < c → j < c → f i = f j → i = j) → c ≤ n := by
  induction c with
  | zero => intro n f _ _; omega
  | succ c ih =>
    intro n f h1 h2
    have hn : 0 < n := by have := h1 0 (by omega); omega
    -- put the last number where f c is
    have := ih (n - 1) (fun i => if f i = n - 1 then f c else f i) (by
      intro i hi
      have a1 := h1 i (by omega)
      have a2 := h1 c (by omega)
      by_cases e : f i = n - 1
      · rw [if_pos e]
        have : f c ≠ n - 1 := by intro e2; have := h2 i c (by omega) (by omega) (e.trans e2.symm); omega
        omega
      · rw [if_neg e]; omega) (by
      intro i j hi hj
      by_cases e : f i = n - 1
      · by_cases e' : f j = n - 1
        · intro _; exact h2 i j (by omega) (by omega) (e.trans e'.symm)
        · rw [if_pos e, if_neg e']; intro hh
          have := h2 c j (by omega) (by omega) hh; omega
      · by_cases e' : f j = n - 1
        · rw [if_neg e, if_pos e']; intro hh
          have := h2 i c (by omega) (by omega) hh; omega
        · rw [if_neg e, if_neg e']; intro hh
          exact h2 i j (by omega) (by omega) hh)
    omega

-- the arrays of the check when the search is over
def yAr (n nb : Nat) (bs bl ht par : Nat → Nat) (lower own under : Nat → Int64) (height parent : Nat → Int32) : Prop :=
  (nb ≤ 57 ∧ n ≤ 21) ∧
  (∀ h j, h ≤ n → j < 64 → (yL (lower h) j = true ↔ j < nb ∧ bl j < h)) ∧
  (∀ v j, v < n → j < 64 → (yL (own v) j = true ↔ j < nb ∧ bs j = v)) ∧
  (∀ w j, w < n → j < 64 → (yL (under w) j = true ↔ j < nb ∧ yAn ht par w (bs j))) ∧
  (∀ v, v < n → height v = Int32.ofNat (ht v)) ∧
  (∀ v, v < n → 0 < ht v → parent v = Int32.ofNat (par v)) ∧ (∀ v, v < n → ht v = 0 → parent v = -1) ∧
  (∀ v, v < n → ht v < n) ∧ (∀ j, j < nb → bs j < n ∧ bl j + 1 < ht (bs j)) ∧
  (∀ i j, i < nb → j < nb → bs i = bs j → bl i = bl j → i = j) ∧
  (∀ w, w < n → 0 < ht w → par w < n ∧ ht (par w) + 1 = ht w)

-- returns over v, and their branches, by the numbers of back arcs
def yRj (nb : Nat) (bs bl ht par : Nat → Nat) (v j : Nat) : Prop := j < nb ∧ yAn ht par v (bs j) ∧ bl j < ht v
def yBj (bs ht par : Nat → Nat) (v j : Nat) : Nat ⊕ Nat := if bs j = v then Sum.inl j else Sum.inr (yUpp ht par (bs j) (ht v + 1))

section
variable {n nb : Nat} {bs bl ht par : Nat → Nat} {lower own under : Nat → Int64} {height parent : Nat → Int32}

theorem yAr_up (hA : yAr n nb bs bl ht par lower own under height parent) (q j : Nat) (hq : q < n) (hj : j ≤ ht q) :
    yUpp ht par q j < n ∧ ht (yUpp ht par q j) = j := by
  have h1 := hA.2.2.2.2.2.2.2.2.2.2
  have := yPar_vis (vis := fun w => decide (w < n)) (ht := ht) (par := par) (fun w a b => by
    have := h1 w (of_decide_eq_true a) b
    exact ⟨decide_eq_true this.1, this.2⟩) (ht q - j) q (decide_eq_true hq) (by omega)
  unfold yUpp
  exact ⟨of_decide_eq_true this.1, by rw [this.2]; omega⟩

-- the node at the other end of a branch
theorem yAr_few (hA : yAr n nb bs bl ht par lower own under height parent) (v c : Nat) (hv : v < n) (kd : Nat → Nat ⊕ Nat)
    (h1 : ∀ i, i < c → ∃ j, yRj nb bs bl ht par v j ∧ yBj bs ht par v j = kd i) (h2 : ∀ i i', i < c → i' < c → kd i = kd i' → i = i') : c + 1 ≤ n := by
  have hup := fun q j hq hj => yAr_up hA q j hq hj
  obtain ⟨a1, a2, a3, a4, a5, a6, a7, a8, a9, a10, a11⟩ := hA
  have hinfo : ∀ i, i < c → (∃ j, kd i = Sum.inl j ∧ j < nb ∧ bs j = v ∧ bl j < ht v) ∨ (∃ w, kd i = Sum.inr w ∧ w < n ∧ ht w = ht v + 1) := by
    intro i hi
    obtain ⟨j, hR, hB⟩ := h1 i hi
    unfold yBj at hB
    by_cases e : bs j = v
    · rw [if_pos e] at hB
      exact Or.inl ⟨j, hB.symm, hR.1, e, hR.2.2⟩
    · rw [if_neg e] at hB
      have hlt : ht v < ht (bs j) := by
        have h3 := hR.2.1.1
        by_cases he : ht v = ht (bs j)
        · exfalso
          have h4 := hR.2.1.2
          unfold yUpp at h4
          rw [he, Nat.sub_self] at h4
          exact e h4
        · omega
      have := hup (bs j) (ht v + 1) (a9 j hR.1).1 (by omega)
      exact Or.inr ⟨_, hB.symm, this.1, this.2⟩
  have hpig := yPig (c + 1) n (fun i => if i = c then v else match kd i with | Sum.inl j => yUpp ht par v (bl j) | Sum.inr w => w) (by
    intro i hi
    by_cases e : i = c
    · rw [if_pos e]; exact hv
    · rw [if_neg e]
      rcases hinfo i (by omega) with ⟨j, h3, h4, h5, h6⟩ | ⟨w, h3, h4, h5⟩
      · rw [h3]; exact (hup v (bl j) hv (by omega)).1
      · rw [h3]; exact h4) (by
    intro i i' hi hi' hh
    by_cases e : i = c
    · by_cases e' : i' = c
      · omega
      · exfalso
        rw [if_pos e, if_neg e'] at hh
        rcases hinfo i' (by omega) with ⟨j, h3, h4, h5, h6⟩ | ⟨w, h3, h4, h5⟩
        · rw [h3] at hh
          have := (hup v (bl j) hv (by omega)).2
          dsimp only at hh
          rw [← hh] at this; omega
        · rw [h3] at hh; dsimp only at hh; rw [← hh] at h5; omega
    · by_cases e' : i' = c
      · exfalso
        rw [if_neg e, if_pos e'] at hh
        rcases hinfo i (by omega) with ⟨j, h3, h4, h5, h6⟩ | ⟨w, h3, h4, h5⟩
        · rw [h3] at hh
          have := (hup v (bl j) hv (by omega)).2
          dsimp only at hh
          rw [hh] at this; omega
        · rw [h3] at hh; dsimp only at hh; rw [hh] at h5; omega
      · rw [if_neg e, if_neg e'] at hh
        apply h2 i i' (by omega) (by omega)
        rcases hinfo i (by omega) with ⟨j, h3, h4, h5, h6⟩ | ⟨w, h3, h4, h5⟩
        · rcases hinfo i' (by omega) with ⟨j', h3', h4', h5', h6'⟩ | ⟨w', h3', h4', h5'⟩
          · rw [h3, h3'] at hh
            dsimp only at hh
            have q1 := (hup v (bl j) hv (by omega)).2
            have q2 := (hup v (bl j') hv (by omega)).2
            have : j = j' := a10 j j' h4 h4' (h5.trans h5'.symm) (by rw [← q1, ← q2, hh])
            rw [h3, h3', this]
          · rw [h3, h3'] at hh
            dsimp only at hh
            have q1 := (hup v (bl j) hv (by omega)).2
            rw [hh] at q1; omega
        · rcases hinfo i' (by omega) with ⟨j', h3', h4', h5', h6'⟩ | ⟨w', h3', h4', h5'⟩
          · rw [h3, h3'] at hh
            dsimp only at hh
            have q1 := (hup v (bl j') hv (by omega)).2
            rw [← hh] at q1; omega
          · rw [h3, h3'] at hh
            dsimp only at hh
            rw [h3, h3', hh])
  exact hpig

theorem w_addLeadingL (hA : yAr n nb bs bl ht par lower own under height parent) (ld : Nat → Int64) (le : Nat → Int32) (c : Nat) (hc : c < 21) (M : Int64)
    (j0 : Nat) (hj0 : j0 < nb ∧ yL M j0 = true) (hM : ∀ j, j < 64 → yL M j = true → j < nb)
    (K : Int32 → ((Nat → Int64) × (Nat → Int32)) → Prop)
    (hK : ∀ low, (∀ j, j < 64 → yL M j = true → low ≤ bl j) → (∃ j, j < 64 ∧ yL M j = true ∧ bl j = low) →
      K (Int32.ofNat (c+1)) (vp_updL ld c M, upd le c (Int32.ofNat low))) :
    ∀ d h, bl j0 - h = d → h ≤ bl j0 → (∀ j, j < 64 → yL M j = true → h ≤ bl j) →
      wLX5_addLeading_20 lower ld le (Int32.ofNat c) M K (d+1) (Int32.ofNat h) (Int32.ofNat (h+1)) := by
  obtain ⟨a1, a2, a3, a4, a5, a6, a7, a8, a9, a10, a11⟩ := hA
  have hb0 : bl j0 + 2 < n := by
    have h1 := a9 j0 hj0.1
    have h2 := a8 (bs j0) h1.1
    omega
  have hj64 : j0 < 64 := by omega
  have hfin : ∀ h, h ≤ bl j0 → (∀ j, j < 64 → yL M j = true → h ≤ bl j) → (∃ j, j < 64 ∧ yL M j = true ∧ bl j = h) →
      (vp_in (Int32.ofNat c) 21 ∧ (∀ g61 : Nat → Int64, g61 = vp_updL ld (Int32.toNatClampNeg (Int32.ofNat c)) M → (vp_in (Int32.ofNat c) 21 ∧ (∀ g69 : Nat → Int32, g69 = upd le (Int32.toNatClampNeg (Int32.ofNat c)) (Int32.ofNat h) → K ((Int32.ofNat c) + 1) (g61, g69))))) := by
    intro h hh hmin hex
    refine ⟨yn_in (by omega) hc, ?_⟩
    intro g61 h61
    refine ⟨yn_in (by omega) hc, ?_⟩
    intro g69 h69
    rw [yn_nat (by omega)] at h61 h69
    rw [h61, h69]
    have e : Int32.ofNat c + 1 = Int32.ofNat (c+1) := yn_add c 1
    rw [e]
    exact hK h hmin hex
  intro d
  induction d with
  | zero =>
    intro h hd hh hmin
    have he : h = bl j0 := by omega
    have hex : ∃ j, j < 64 ∧ yL M j = true ∧ bl j = h := ⟨j0, hj64, hj0.2, he.symm⟩
    unfold wLX5_addLeading_20
    refine ⟨fun _ => hfin h hh hmin hex, fun _ => ?_⟩
    refine ⟨yn_in (by omega) (by omega), fun _ => hfin h hh hmin hex, fun hz => ?_⟩
    exfalso
    rw [ylg_cmp0, yL_eq0] at hz
    have := hz j0 hj64
    rw [yL_and, hj0.2, yn_nat (by omega)] at this
    have h2 := (a2 (h+1) j0 (by omega) hj64).2 ⟨hj0.1, by omega⟩
    rw [h2] at this; cases this
  | succ d ih =>
    intro h hd hh hmin
    unfold wLX5_addLeading_20
    refine ⟨fun hn => ?_, fun _ => ?_⟩
    · exfalso
      have e21 : (21 : Int32) = Int32.ofNat 21 := rfl
      rw [e21, yn_le (by omega) (by omega)] at hn
      omega
    · refine ⟨yn_in (by omega) (by omega), fun hne => ?_, fun hz => ?_⟩
      · rw [ylg_cmp0] at hne
        obtain ⟨j, hj, hb⟩ := yL_ex hne
        rw [yL_and, yn_nat (by omega)] at hb
        simp only [Bool.and_eq_true] at hb
        have h2 := (a2 (h+1) j (by omega) hj).1 hb.2
        have h3 := hmin j hj hb.1
        exact hfin h hh hmin ⟨j, hj, hb.1, by omega⟩
      · rw [ylg_cmp0, yL_eq0] at hz
        have e2 : Int32.ofNat (h+1) + 1 = Int32.ofNat (h+1+1) := yn_add (h+1) 1
        rw [e2]
        refine ih (h+1) (by omega) (by omega) ?_
        intro j hj hb
        have h3 := hmin j hj hb
        have h4 := hz j hj
        rw [yL_and, hb, yn_nat (by omega), Bool.true_and] at h4
        by_cases he : bl j = h
        · exfalso
          have := (a2 (h+1) j (by omega) hj).2 ⟨hM j hj hb, by omega⟩
          rw [this] at h4; cases h4
        · omega

theorem w_addLeading (hA : yAr n nb bs bl ht par lower own under height parent) (i0 i1 : Int32) (ld : Nat → Int64) (le : Nat → Int32) (c : Nat) (hc : c < 21) (M : Int64)
    (hM : ∀ j, j < 64 → yL M j = true → j < nb)
    (K : Int32 → ((Nat → Int64) × (Nat → Int32)) → Prop)
    (hK0 : M = 0 → K (Int32.ofNat c) (ld, le))
    (hK : ¬ M = 0 → ∀ low, (∀ j, j < 64 → yL M j = true → low ≤ bl j) → (∃ j, j < 64 ∧ yL M j = true ∧ bl j = low) →
      K (Int32.ofNat (c+1)) (vp_updL ld c M, upd le c (Int32.ofNat low))) :
    wX5_addLeading i0 i1 lower ld le (Int32.ofNat c) M K := by
  unfold wX5_addLeading
  refine ⟨fun h => hK0 ((ylg_cmp0 M).1 h), fun h => ⟨fun _ => ?_, fun hn => ?_⟩⟩
  · have hne : ¬ M = 0 := fun e => h ((ylg_cmp0 M).2 e)
    obtain ⟨j0, hj0, hb⟩ := yL_ex hne
    exact ⟨bl j0 + 1, w_addLeadingL hA ld le c hc M j0 ⟨hM j0 hj0 hb, hb⟩ hM K (hK hne) (bl j0) 0 (by omega) (by omega) (fun j _ _ => by omega)⟩
  · exfalso; apply hn
    have e21 : (21 : Int32) = Int32.ofNat 21 := rfl
    rw [e21, yn_lt (by omega) (by omega)]; exact hc
end

-- the entries found so far
def yEn (n nb : Nat) (bs bl ht par : Nat → Nat) (v : Nat) (Pd : Nat ⊕ Nat → Prop) (c : Nat) (ld : Nat → Int64) (le : Nat → Int32) (kd : Nat → Nat ⊕ Nat) : Prop :=
  (∀ i, i < c → Pd (kd i) ∧ (∀ j, j < 64 → (yL (ld i) j = true ↔ (yRj nb bs bl ht par v j ∧ yBj bs ht par v j = kd i))) ∧
    ∃ low, le i = Int32.ofNat low ∧ low < n ∧ (∀ j, yRj nb bs bl ht par v j → yBj bs ht par v j = kd i → low ≤ bl j) ∧
      ∃ j, yRj nb bs bl ht par v j ∧ yBj bs ht par v j = kd i ∧ bl j = low) ∧
  (∀ i i', i < c → i' < c → kd i = kd i' → i = i') ∧
  (∀ j, yRj nb bs bl ht par v j → Pd (yBj bs ht par v j) → ∃ i, i < c ∧ kd i = yBj bs ht par v j)

section
variable {n nb : Nat} {bs bl ht par : Nat → Nat} {lower own under : Nat → Int64} {height parent : Nat → Int32}

theorem yEn_none {v : Nat} {Pd Pd' : Nat ⊕ Nat → Prop} {c : Nat} {ld : Nat → Int64} {le : Nat → Int32} {kd : Nat → Nat ⊕ Nat}
    (h : yEn n nb bs bl ht par v Pd c ld le kd) (h1 : ∀ k, Pd k → Pd' k) (h2 : ∀ j, yRj nb bs bl ht par v j → Pd' (yBj bs ht par v j) → Pd (yBj bs ht par v j)) :
    yEn n nb bs bl ht par v Pd' c ld le kd := by
  refine ⟨fun i hi => ⟨h1 _ (h.1 i hi).1, (h.1 i hi).2⟩, h.2.1, fun j hj hp => h.2.2 j hj (h2 j hj hp)⟩

theorem yEn_add (hA : yAr n nb bs bl ht par lower own under height parent) {v : Nat} {Pd Pd' : Nat ⊕ Nat → Prop} {c : Nat} {ld : Nat → Int64} {le : Nat → Int32} {kd : Nat → Nat ⊕ Nat}
    (h : yEn n nb bs bl ht par v Pd c ld le kd) (κ : Nat ⊕ Nat) (hκ : ¬ Pd κ) (h1 : ∀ k, Pd' k ↔ (Pd k ∨ k = κ)) (M : Int64)
    (hM : ∀ j, j < 64 → (yL M j = true ↔ (yRj nb bs bl ht par v j ∧ yBj bs ht par v j = κ))) (low : Nat)
    (hl1 : ∀ j, j < 64 → yL M j = true → low ≤ bl j) (hl2 : ∃ j, j < 64 ∧ yL M j = true ∧ bl j = low) :
    yEn n nb bs bl ht par v Pd' (c+1) (vp_updL ld c M) (upd le c (Int32.ofNat low)) (fun i => if i = c then κ else kd i) := by
  obtain ⟨a1, a2, a3, a4, a5, a6, a7, a8, a9, a10, a11⟩ := hA
  have hlt : low < n := by
    obtain ⟨j, hj, hb, hbl⟩ := hl2
    have hR := (hM j hj).1 hb
    have := a9 j hR.1.1
    have h2 := a8 (bs j) this.1
    omega
  refine ⟨?_, ?_, ?_⟩
  · intro i hi
    by_cases e : i = c
    · subst e
      simp only [if_true]
      rw [yupdL_same, yupd_same]
      refine ⟨(h1 κ).2 (Or.inr rfl), hM, low, rfl, hlt, ?_, ?_⟩
      · intro j hR hB
        have hj : j < 64 := by have := hR.1; omega
        exact hl1 j hj ((hM j hj).2 ⟨hR, hB⟩)
      · obtain ⟨j, hj, hb, hbl⟩ := hl2
        exact ⟨j, ((hM j hj).1 hb).1, ((hM j hj).1 hb).2, hbl⟩
    · simp only [e, if_false]
      rw [yupdL_ne _ _ _ _ e, yupd_ne _ _ _ _ e]
      have := h.1 i (by omega)
      exact ⟨(h1 _).2 (Or.inl this.1), this.2⟩
  · intro i i' hi hi' hh
    by_cases e : i = c
    · by_cases e' : i' = c
      · omega
      · exfalso
        simp only [e, e', if_true, if_false] at hh
        exact hκ (by rw [hh]; exact (h.1 i' (by omega)).1)
    · by_cases e' : i' = c
      · exfalso
        simp only [e, e', if_true, if_false] at hh
        exact hκ (by rw [← hh]; exact (h.1 i (by omega)).1)
      · simp only [e, e', if_false] at hh
        exact h.2.1 i i' (by omega) (by omega) hh
  · intro j hR hp
    rcases (h1 _).1 hp with hp | hp
    · obtain ⟨i, hi, hk⟩ := h.2.2 j hR hp
      exact ⟨i, by omega, by simp only [show ¬ i = c by omega, if_false]; exact hk⟩
    · exact ⟨c, by omega, by simp only [if_true]; exact hp.symm⟩

theorem yEn_few (hA : yAr n nb bs bl ht par lower own under height parent) {v : Nat} (hv : v < n) {Pd : Nat ⊕ Nat → Prop} {c : Nat} {ld : Nat → Int64} {le : Nat → Int32} {kd : Nat → Nat ⊕ Nat}
    (h : yEn n nb bs bl ht par v Pd c ld le kd) : c < 21 := by
  have hn : n ≤ 21 := hA.1.2
  have := yAr_few hA v c hv kd (fun i hi => by
    obtain ⟨_, _, low, _, _, _, j, h1, h2, _⟩ := h.1 i hi
    exact ⟨j, h1, h2⟩) h.2.1
  omega

-- what the mask of a child holds
theorem yAr_child (hA : yAr n nb bs bl ht par lower own under height parent) (v w : Nat) (hv : v < n) (hw : w < n) (h0 : 0 < ht w) (hp : par w = v) (j : Nat) (hj : j < 64) :
    yL (under w &&& lower (ht v)) j = true ↔ (yRj nb bs bl ht par v j ∧ yBj bs ht par v j = Sum.inr w) := by
  have hup := fun q j hq hj => yAr_up hA q j hq hj
  obtain ⟨a1, a2, a3, a4, a5, a6, a7, a8, a9, a10, a11⟩ := hA
  have hhw : ht w = ht v + 1 := by have := (a11 w hw h0).2; rw [hp] at this; omega
  have hAv : yAn ht par v w := by
    refine ⟨by omega, ?_⟩
    unfold yUpp
    have : ht w - ht v = 1 := by omega
    rw [this]; exact hp
  rw [yL_and, Bool.and_eq_true, a4 w j hw hj, a2 (ht v) j (by have := a8 v hv; omega) hj]
  constructor
  · rintro ⟨⟨h1, h2⟩, _, h3⟩
    refine ⟨⟨h1, yAn_trans hAv h2, h3⟩, ?_⟩
    unfold yBj
    have hne : bs j ≠ v := by intro e; have := h2.1; rw [e] at this; omega
    rw [if_neg hne]
    congr 1
    have := h2.2
    rw [hhw] at this; exact this
  · rintro ⟨⟨h1, h2, h3⟩, h4⟩
    unfold yBj at h4
    by_cases e : bs j = v
    · rw [if_pos e] at h4; cases h4
    · rw [if_neg e] at h4
      have h5 := Sum.inr.inj h4
      have hlt : ht v < ht (bs j) := by
        have h3 := h2.1
        by_cases he : ht v = ht (bs j)
        · exfalso
          have h4 := h2.2
          unfold yUpp at h4
          rw [he, Nat.sub_self] at h4
          exact e h4
        · omega
      exact ⟨⟨h1, by omega, by rw [hhw]; exact h5⟩, h1, h3⟩

theorem w_find60 (hA : yAr n nb bs bl ht par lower own under height parent) (v : Nat) (hv : v < n) (i0 i1 : Int32)
    (K : Int32 → ((Nat → Int64) × (Nat → Int32)) → Prop)
    (hK : ∀ c ld le kd, yEn n nb bs bl ht par v (fun _ => True) c ld le kd → K (Int32.ofNat c) (ld, le)) :
    ∀ d w c ld le kd, n - w = d → w ≤ n → yEn n nb bs bl ht par v (fun k => (∃ j, k = Sum.inl j) ∨ ∃ w', w' < w ∧ k = Sum.inr w') c ld le kd →
      wLX5_findLeading_60 i0 i1 parent under height lower (Int32.ofNat v) (Int32.ofNat n) K (d+1) ld le (Int32.ofNat c) (Int32.ofNat w) ∧
      wLX5_findLeading_60_1 i0 i1 parent under height lower (Int32.ofNat v) (Int32.ofNat n) K (d+1) ld le (Int32.ofNat c) (Int32.ofNat w) := by
  have hup := fun q j hq hj => yAr_up hA q j hq hj
  have hA' := hA
  obtain ⟨a1, a2, a3, a4, a5, a6, a7, a8, a9, a10, a11⟩ := hA'
  intro d
  induction d with
  | zero =>
    intro w c ld le kd hd hw hE
    have hwn : w = n := by omega
    have hfin : K (Int32.ofNat c) (ld, le) := by
      apply hK c ld le kd
      refine yEn_none hE (fun _ _ => trivial) ?_
      intro j hR _
      unfold yBj
      by_cases e : bs j = v
      · rw [if_pos e]; exact Or.inl ⟨j, rfl⟩
      · rw [if_neg e]
        right
        refine ⟨_, ?_, rfl⟩
        have hlt : ht v < ht (bs j) := by
          have h3 := hR.2.1.1
          by_cases he : ht v = ht (bs j)
          · exfalso
            have h4 := hR.2.1.2
            unfold yUpp at h4
            rw [he, Nat.sub_self] at h4
            exact e h4
          · omega
        rw [hwn]
        exact (hup (bs j) (ht v + 1) (a9 j hR.1).1 (by omega)).1
    unfold wLX5_findLeading_60 wLX5_findLeading_60_1
    refine ⟨⟨fun _ => hfin, fun hn => ?_⟩, ⟨fun _ => hfin, fun hn => ?_⟩⟩
    all_goals (exfalso; apply hn; rw [yn_le (by omega) (by omega)]; omega)
  | succ d ih =>
    intro w c ld le kd hd hw hE
    have hwn : w < n := by omega
    have hc := yEn_few hA hv hE
    have hnw : Int32.ofNat w + 1 = Int32.ofNat (w+1) := yn_add w 1
    -- the answer of one look
    have hskip : ¬ (parent w = Int32.ofNat v) → yEn n nb bs bl ht par v (fun k => (∃ j, k = Sum.inl j) ∨ ∃ w', w' < w+1 ∧ k = Sum.inr w') c ld le kd := by
      intro hne
      refine yEn_none hE ?_ ?_
      · rintro k (h | ⟨w', h1, h2⟩)
        · exact Or.inl h
        · exact Or.inr ⟨w', by omega, h2⟩
      · rintro j hR (h | ⟨w', h1, h2⟩)
        · exact Or.inl h
        · by_cases e : w' = w
          · exfalso
            apply hne
            rw [e] at h2
            unfold yBj at h2
            by_cases e2 : bs j = v
            · rw [if_pos e2] at h2; cases h2
            · rw [if_neg e2] at h2
              have h5 := Sum.inr.inj h2
              have hlt : ht v < ht (bs j) := by
                have h3 := hR.2.1.1
                by_cases he : ht v = ht (bs j)
                · exfalso
                  have h4 := hR.2.1.2
                  unfold yUpp at h4
                  rw [he, Nat.sub_self] at h4
                  exact e2 h4
                · omega
              have h6 := hup (bs j) (ht v + 1) (a9 j hR.1).1 (by omega)
              rw [h5] at h6
              rw [a6 w hwn (by omega)]
              congr 1
              -- the node below w on the way is v
              have h7 := hR.2.1.2
              unfold yUpp at h5 h7
              have h8 : ht (bs j) - ht v = (ht (bs j) - (ht v + 1)) + 1 := by omega
              rw [h8, yPar_succ, h5] at h7
              exact h7
          · exact Or.inr ⟨w', by omega, h2⟩
    have htake : parent w = Int32.ofNat v → 0 < ht w ∧ par w = v := by
      intro he
      by_cases h0 : 0 < ht w
      · refine ⟨h0, ?_⟩
        rw [a6 w hwn h0] at he
        exact (yn_inj (by have := (a11 w hwn h0).1; omega) (by omega)).1 he
      · exfalso
        rw [a7 w hwn (by omega)] at he
        have h1 := yn_neg (n := v) (by omega)
        rw [← he] at h1
        exact h1 (by decide)
    have hboth : ∀ (F : (Nat → Int64) → (Nat → Int32) → Int32 → Int32 → Prop),
        (∀ c ld le kd, yEn n nb bs bl ht par v (fun k => (∃ j, k = Sum.inl j) ∨ ∃ w', w' < w+1 ∧ k = Sum.inr w') c ld le kd → F ld le (Int32.ofNat c) (Int32.ofNat (w+1))) →
        (vp_in (Int32.ofNat w) 21 ∧ ((¬ (parent (Int32.toNatClampNeg (Int32.ofNat w))) = Int32.ofNat v → F ld le (Int32.ofNat c) (Int32.ofNat w + 1)) ∧
          ((parent (Int32.toNatClampNeg (Int32.ofNat w))) = Int32.ofNat v → (vp_in (Int32.ofNat w) 21 ∧ (vp_in (Int32.ofNat v) 21 ∧ (vp_in (height (Int32.toNatClampNeg (Int32.ofNat v))) 22 ∧
            (wX5_addLeading i0 i1 lower ld le (Int32.ofNat c) ((under (Int32.toNatClampNeg (Int32.ofNat w))) &&& (lower (Int32.toNatClampNeg (height (Int32.toNatClampNeg (Int32.ofNat v)))))) (fun r98 u98 => F (u98.1) (u98.2) r98 (Int32.ofNat w + 1)))))))))
        := by
      intro F hF
      rw [yn_nat (by omega : w < 2147483648), yn_nat (by omega : v < 2147483648), hnw]
      refine ⟨yn_in (by omega) (by omega), fun hne => hF c ld le kd (hskip hne), fun he => ?_⟩
      obtain ⟨h0, hp⟩ := htake he
      have hhv := a8 v hv
      refine ⟨yn_in (by omega) (by omega), yn_in (by omega) (by omega), by rw [a5 v hv]; exact yn_in (by omega) (by omega), ?_⟩
      rw [a5 v hv, yn_nat (by omega)]
      have hMiff := fun j hj => yAr_child hA v w hv hwn h0 hp j hj
      refine w_addLeading hA i0 i1 ld le c hc _ (fun j hj hb => ((hMiff j hj).1 hb).1.1) _ ?_ ?_
      · intro hz
        rw [yL_eq0] at hz
        apply hF c ld le kd
        refine yEn_none hE ?_ ?_
        · rintro k (h | ⟨w', h1, h2⟩)
          · exact Or.inl h
          · exact Or.inr ⟨w', by omega, h2⟩
        · rintro j hR (h | ⟨w', h1, h2⟩)
          · exact Or.inl h
          · by_cases e : w' = w
            · exfalso
              rw [e] at h2
              have hj : j < 64 := by have := hR.1; omega
              have := (hMiff j hj).2 ⟨hR, h2⟩
              rw [hz j hj] at this; cases this
            · exact Or.inr ⟨w', by omega, h2⟩
      · intro _ low hl1 hl2
        apply hF (c+1) _ _ (fun i => if i = c then Sum.inr w else kd i)
        refine yEn_add hA hE (Sum.inr w) ?_ ?_ _ hMiff low hl1 hl2
        · rintro (⟨j, h⟩ | ⟨w', h1, h2⟩)
          · cases h
          · have := Sum.inr.inj h2; omega
        · intro k
          constructor
          · rintro (h | ⟨w', h1, h2⟩)
            · exact Or.inl (Or.inl h)
            · by_cases e : w' = w
              · right; rw [h2, e]
              · exact Or.inl (Or.inr ⟨w', by omega, h2⟩)
          · rintro ((h | ⟨w', h1, h2⟩) | h)
            · exact Or.inl h
            · exact Or.inr ⟨w', by omega, h2⟩
            · exact Or.inr ⟨w, by omega, h⟩
    unfold wLX5_findLeading_60 wLX5_findLeading_60_1
    refine ⟨⟨fun hn => ?_, fun _ => ?_⟩, ⟨fun hn => ?_, fun _ => ?_⟩⟩
    · exfalso; rw [yn_le (by omega) (by omega)] at hn; omega
    · exact hboth (fun a b c d' => wLX5_findLeading_60 i0 i1 parent under height lower (Int32.ofNat v) (Int32.ofNat n) K (d+1) a b c d')
        (fun c ld le kd hE' => (ih (w+1) c ld le kd (by omega) (by omega) hE').1)
    · exfalso; rw [yn_le (by omega) (by omega)] at hn; omega
    · exact hboth (fun a b c d' => wLX5_findLeading_60_1 i0 i1 parent under height lower (Int32.ofNat v) (Int32.ofNat n) K (d+1) a b c d')
        (fun c ld le kd hE' => (ih (w+1) c ld le kd (by omega) (by omega) hE').2)

theorem w_find16 (hA : yAr n nb bs bl ht par lower own under height parent) (v : Nat) (hv : v < n) (i1 : Int32)
    (K : Int32 → ((Nat → Int64) × (Nat → Int32)) → Prop)
    (hK : ∀ c ld le kd, yEn n nb bs bl ht par v (fun _ => True) c ld le kd → K (Int32.ofNat c) (ld, le)) :
    ∀ d b c ld le kd, nb - b = d → b ≤ nb → yEn n nb bs bl ht par v (fun k => ∃ j, j < b ∧ k = Sum.inl j) c ld le kd →
      wLX5_findLeading_16 (Int32.ofNat nb) i1 own parent under height lower (Int32.ofNat v) (Int32.ofNat n) K (d+1) ld le (Int32.ofNat c) (Int32.ofNat b) := by
  have hA' := hA
  obtain ⟨a1, a2, a3, a4, a5, a6, a7, a8, a9, a10, a11⟩ := hA'
  intro d
  induction d with
  | zero =>
    intro b c ld le kd hd hb hE
    unfold wLX5_findLeading_16
    refine ⟨fun _ => ?_, fun hn => ?_⟩
    · refine ⟨n + 1, ?_⟩
      have h0 : (0 : Int32) = Int32.ofNat 0 := rfl
      rw [h0]
      refine (w_find60 hA v hv _ i1 K hK n 0 c ld le kd (by omega) (by omega) ?_).2
      refine yEn_none hE ?_ ?_
      · rintro k ⟨j, _, h⟩; exact Or.inl ⟨j, h⟩
      · rintro j hR (⟨j', h⟩ | ⟨w', h1, _⟩)
        · unfold yBj at h ⊢
          by_cases e : bs j = v
          · rw [if_pos e] at h ⊢; exact ⟨j, by have := hR.1; omega, rfl⟩
          · rw [if_neg e] at h; cases h
        · omega
    · exfalso; apply hn; rw [yn_le (by omega) (by omega)]; omega
  | succ d ih =>
    intro b c ld le kd hd hb hE
    have hbn : b < nb := by omega
    have hc := yEn_few hA hv hE
    have hnw : Int32.ofNat b + 1 = Int32.ofNat (b+1) := yn_add b 1
    unfold wLX5_findLeading_16
    refine ⟨fun hn => ?_, fun _ => ?_⟩
    · exfalso; rw [yn_le (by omega) (by omega)] at hn; omega
    · refine ⟨yn_in (by omega) (by omega), ?_⟩
      rw [yn_nat (by omega : v < 2147483648), yL_test (by omega), hnw]
      have hown := a3 v b hv (by omega)
      refine ⟨fun hz => ?_, fun hnz => ?_⟩
      · refine ih (b+1) c ld le kd (by omega) (by omega) ?_
        have hno : bs b ≠ v := by
          intro e
          rw [hown.2 ⟨hbn, e⟩] at hz
          revert hz; decide
        refine yEn_none hE ?_ ?_
        · rintro k ⟨j, h1, h2⟩; exact ⟨j, by omega, h2⟩
        · rintro j hR ⟨j', h1, h2⟩
          by_cases e : j' = b
          · exfalso
            rw [e] at h2
            unfold yBj at h2
            by_cases e2 : bs j = v
            · rw [if_pos e2] at h2
              have := Sum.inl.inj h2
              rw [this] at e2; exact hno e2
            · rw [if_neg e2] at h2; cases h2
          · exact ⟨j', by omega, h2⟩
      · have hyes : bs b = v := by
          cases hb' : yL (own v) b with
          | true => exact (hown.1 hb').2
          | false => rw [hb'] at hnz; exfalso; apply hnz; decide
        have hMiff : ∀ j, j < 64 → (yL ((1 : Int64) <<< (Int32.toInt64 (Int32.ofNat b) &&& 63)) j = true ↔ (yRj nb bs bl ht par v j ∧ yBj bs ht par v j = Sum.inl b)) := by
          intro j hj
          rw [yL_shl (by omega) j hj, decide_eq_true_iff]
          constructor
          · intro e
            subst e
            refine ⟨⟨hbn, by rw [hyes]; exact yAn_refl v, by have := (a9 j hbn).2; rw [hyes] at this; omega⟩, ?_⟩
            unfold yBj; rw [if_pos hyes]
          · rintro ⟨hR, hB⟩
            unfold yBj at hB
            by_cases e : bs j = v
            · rw [if_pos e] at hB; exact Sum.inl.inj hB
            · rw [if_neg e] at hB; cases hB
        refine w_addLeading hA _ i1 ld le c hc _ (fun j hj hb => ((hMiff j hj).1 hb).1.1) _ ?_ ?_
        · intro hz
          exfalso
          rw [yL_eq0] at hz
          have := hz b (by omega)
          rw [yL_shl (by omega) b (by omega)] at this
          simp at this
        · intro _ low hl1 hl2
          refine ih (b+1) (c+1) _ _ (fun i => if i = c then Sum.inl b else kd i) (by omega) (by omega) ?_
          refine yEn_add hA hE (Sum.inl b) ?_ ?_ _ hMiff low hl1 hl2
          · rintro ⟨j, h1, h2⟩
            have := Sum.inl.inj h2; omega
          · intro k
            constructor
            · rintro ⟨j, h1, h2⟩
              by_cases e : j = b
              · right; rw [h2, e]
              · exact Or.inl ⟨j, by omega, h2⟩
            · rintro (⟨j, h1, h2⟩ | h)
              · exact ⟨j, by omega, h2⟩
              · exact ⟨b, by omega, h⟩

theorem w_findLeading (hA : yAr n nb bs bl ht par lower own under height parent) (v : Nat) (hv : v < n) (i1 : Int32) (ld : Nat → Int64) (le : Nat → Int32)
    (K : Int32 → ((Nat → Int64) × (Nat → Int32)) → Prop)
    (hK : ∀ c ld le kd, yEn n nb bs bl ht par v (fun _ => True) c ld le kd → K (Int32.ofNat c) (ld, le)) :
    wX5_findLeading (Int32.ofNat nb) i1 own parent under height lower ld le (Int32.ofNat v) (Int32.ofNat n) K := by
  have hA' := hA
  obtain ⟨a1, a2, a3, a4, a5, a6, a7, a8, a9, a10, a11⟩ := hA'
  have h0 : (0 : Int32) = Int32.ofNat 0 := rfl
  unfold wX5_findLeading
  rw [yn_nat (by omega : v < 2147483648), h0]
  refine ⟨yn_in (by omega) (by omega), fun hz => ?_, fun _ => ?_⟩
  · have hz' : own v = 0 := (ylg_cmp0 _).1 hz
    refine ⟨n + 1, (w_find60 hA v hv _ i1 K hK n 0 0 ld le (fun _ => Sum.inl 0) (by omega) (by omega) ?_).1⟩
    refine ⟨fun i hi => by omega, fun i i' hi => by omega, ?_⟩
    rintro j hR (⟨j', h⟩ | ⟨w', h1, _⟩)
    · exfalso
      unfold yBj at h
      by_cases e : bs j = v
      · have := (a3 v j hv (by have := hR.1; omega)).2 ⟨hR.1, e⟩
        rw [hz', yL_zero] at this; cases this
      · rw [if_neg e] at h; cases h
    · omega
  · refine ⟨nb + 1, w_find16 hA v hv i1 K hK nb 0 0 ld le (fun _ => Sum.inl 0) (by omega) (by omega) ?_⟩
    refine ⟨fun i hi => by omega, fun i i' hi => by omega, ?_⟩
    rintro j hR ⟨j', h1, _⟩
    omega
end

-- sides that fit at v
def yPv (nb : Nat) (bs bl ht par : Nat → Nat) (σ : Nat → Bool) (v : Nat) : Prop :=
  ∀ κ1 κ2, κ1 ≠ κ2 → ∃ c : Bool,
    (∀ j, yRj nb bs bl ht par v j → yBj bs ht par v j = κ1 → (∃ k, yRj nb bs bl ht par v k ∧ yBj bs ht par v k = κ2 ∧ bl k < bl j) → σ j = c) ∧
    (∀ j, yRj nb bs bl ht par v j → yBj bs ht par v j = κ2 → (∃ k, yRj nb bs bl ht par v k ∧ yBj bs ht par v k = κ1 ∧ bl k < bl j) → σ j = !c)

section
variable {n nb : Nat} {bs bl ht par : Nat → Nat} {lower own under : Nat → Int64} {height parent : Nat → Int32}

theorem yGs_few {k : Nat} {a b : Nat → Int64} (hG : yGs k a b) (hs : ∀ i j, i < k → j < 64 → yGb a b i j = true → j < nb) : k ≤ nb := by
  have hx : ∀ i, ∃ j, i < k → (j < 64 ∧ yGb a b i j = true) := by
    intro i
    by_cases h : i < k
    · obtain ⟨j, hj⟩ := hG.2.1 i h
      exact ⟨j, fun _ => hj⟩
    · exact ⟨0, fun h' => absurd h' h⟩
  obtain ⟨f, hf⟩ := yChoice hx
  refine yPig k nb f (fun i hi => hs i (f i) hi (hf i hi).1 (hf i hi).2) ?_
  intro i j hi hj h
  refine hG.1 i j (f i) hi hj (hf i hi).1 (hf i hi).2 ?_
  rw [h]; exact (hf j hj).2

-- a pair of entries
def yPc (lower : Nat → Int64) (ld : Nat → Int64) (lo : Nat → Nat) (σ : Nat → Bool) (i j : Nat) : Prop :=
  yC2 σ (ld i &&& (lower (lo j + 1) ^^^ (-1))) (ld j &&& (lower (lo i + 1) ^^^ (-1)))

theorem w_sides9 (hA : yAr n nb bs bl ht par lower own under height parent) (i0 : Int32) (ld : Nat → Int64) (le : Nat → Int32) (lo : Nat → Nat) (c : Nat) (hc : c < 21)
    (hle : ∀ i, i < c → le i = Int32.ofNat (lo i) ∧ lo i < n) (hld : ∀ i j, i < c → j < 64 → yL (ld i) j = true → j < nb)
    (S0 : (Nat → Bool) → Prop) (K : Int32 → (Int32 × (Nat → Int64) × (Nat → Int64)) → Prop)
    (hK0 : ∀ k' a b, (∀ σ, ¬ (S0 σ ∧ ∀ x y, y < x → x < c → yPc lower ld lo σ x y)) → K 0 (Int32.ofNat k', a, b))
    (i : Nat) (hi : i < c) (B : (Nat → Int64) → (Nat → Int64) → Int32 → Int32 → Prop)
    (hB : ∀ k a b, yGs k a b → (∀ i j, i < k → j < 64 → yGb a b i j = true → j < nb) →
      (∀ σ, ySat σ k a b ↔ (S0 σ ∧ ∀ x y, y < x → x < c → x < i + 1 → yPc lower ld lo σ x y)) → B a b (Int32.ofNat k) (Int32.ofNat (i+1))) :
    ∀ d j k a b, i - j = d → j ≤ i → yGs k a b → (∀ i j, i < k → j < 64 → yGb a b i j = true → j < nb) →
      (∀ σ, ySat σ k a b ↔ (S0 σ ∧ ∀ x y, y < x → x < c → (x < i ∨ (x = i ∧ y < j)) → yPc lower ld lo σ x y)) →
      wLX5_sidesFit_9 i0 ld le lower (Int32.ofNat i) K B (d+1) a b (Int32.ofNat k) (Int32.ofNat j) := by
  have hA' := hA
  obtain ⟨a1, a2, a3, a4, a5, a6, a7, a8, a9, a10, a11⟩ := hA'
  intro d
  induction d with
  | zero =>
    intro j k a b hd hj hG hs hsat
    have hji : j = i := by omega
    unfold wLX5_sidesFit_9
    refine ⟨fun _ => ?_, fun hn => ?_⟩
    · have e : Int32.ofNat i + 1 = Int32.ofNat (i+1) := yn_add i 1
      rw [e]
      refine hB k a b hG hs (fun σ => ?_)
      rw [hsat σ]
      constructor
      · rintro ⟨h1, h2⟩
        refine ⟨h1, fun x y hyx hxc hx => h2 x y hyx hxc ?_⟩
        by_cases e : x = i
        · exact Or.inr ⟨e, by omega⟩
        · exact Or.inl (by omega)
      · rintro ⟨h1, h2⟩
        refine ⟨h1, fun x y hyx hxc hx => h2 x y hyx hxc ?_⟩
        rcases hx with h | h <;> omega
    · exfalso; apply hn; rw [yn_le (by omega) (by omega)]; omega
  | succ d ih =>
    intro j k a b hd hj hG hs hsat
    have hji : j < i := by omega
    have hk57 : k ≤ 57 := Nat.le_trans (yGs_few hG hs) a1.1
    unfold wLX5_sidesFit_9
    refine ⟨fun hn => ?_, fun _ => ?_⟩
    · exfalso; rw [yn_le (by omega) (by omega)] at hn; omega
    · have hlei := hle i hi
      have hlej := hle j (by omega)
      have e1 : Int32.ofNat (lo j) + 1 = Int32.ofNat (lo j + 1) := yn_add _ 1
      have e2 : Int32.ofNat (lo i) + 1 = Int32.ofNat (lo i + 1) := yn_add _ 1
      have e3 : Int32.ofNat j + 1 = Int32.ofNat (j + 1) := yn_add _ 1
      rw [yn_nat (by omega : i < 2147483648), yn_nat (by omega : j < 2147483648), hlei.1, hlej.1, e1, e2, e3, yn_nat (by omega), yn_nat (by omega)]
      refine ⟨yn_in (by omega) (by omega), yn_in (by omega) (by omega), yn_in (by omega) (by omega), ?_⟩
      intro v38 hv38
      refine ⟨yn_in (by omega) (by omega), yn_in (by omega) (by omega), yn_in (by omega) (by omega), ?_⟩
      intro v64 hv64
      have hPc : ∀ σ, yPc lower ld lo σ i j ↔ yC2 σ v38 v64 := by
        intro σ; unfold yPc; rw [hv38, hv64]
      have hnextQ : ∀ σ, (S0 σ ∧ ∀ x y, y < x → x < c → (x < i ∨ (x = i ∧ y < j + 1)) → yPc lower ld lo σ x y) ↔
          ((S0 σ ∧ ∀ x y, y < x → x < c → (x < i ∨ (x = i ∧ y < j)) → yPc lower ld lo σ x y) ∧ yC2 σ v38 v64) := by
        intro σ
        constructor
        · rintro ⟨h1, h2⟩
          refine ⟨⟨h1, fun x y hyx hxc hx => h2 x y hyx hxc ?_⟩, ?_⟩
          · rcases hx with h | h
            · exact Or.inl h
            · exact Or.inr ⟨h.1, by omega⟩
          · rw [← hPc]; exact h2 i j hji hi (Or.inr ⟨rfl, by omega⟩)
        · rintro ⟨⟨h1, h2⟩, h3⟩
          refine ⟨h1, fun x y hyx hxc hx => ?_⟩
          rcases hx with h | h
          · exact h2 x y hyx hxc (Or.inl h)
          · by_cases e : y = j
            · rw [h.1, e, hPc]; exact h3
            · exact h2 x y hyx hxc (Or.inr ⟨h.1, by omega⟩)
      refine ⟨fun hz => ?_, fun hnz => ?_⟩
      · rw [ylg_cmp0, yL_eq0] at hz
        refine ih (j+1) k a b (by omega) (by omega) hG hs (fun σ => ?_)
        rw [hsat σ, hnextQ σ]
        constructor
        · intro h
          refine ⟨h, false, fun x hx => ⟨fun hb => ?_, fun hb => ?_⟩⟩
          · have := hz x hx; rw [yL_or, hb] at this; cases this
          · have := hz x hx; rw [yL_or, hb] at this; simp at this
        · intro h; exact h.1
      · rw [ylg_cmp0] at hnz
        obtain ⟨x0, hx0, hb0⟩ := yL_ex hnz
        rw [yL_or] at hb0
        refine w_part i0 a b k v38 v64 hk57 hG ⟨x0, hx0, hb0⟩ _ ?_ ?_
        · intro k' a' b' hk' hG' hsat' hsrc
          refine ⟨fun _ => ?_, fun h => absurd h (by decide)⟩
          refine ih (j+1) k' a' b' (by omega) (by omega) hG' ?_ ?_
          · intro x y hx hy hb
            rcases hsrc x y hx hy hb with h | ⟨x', hx', h⟩
            · simp only [Bool.or_eq_true] at h
              rcases h with h | h
              · rw [hv38, yL_and] at h
                simp only [Bool.and_eq_true] at h
                exact hld i y hi hy h.1
              · rw [hv64, yL_and] at h
                simp only [Bool.and_eq_true] at h
                exact hld j y (by omega) hy h.1
            · exact hs x' y hx' hy h
          · intro σ
            rw [hsat' σ, hsat σ, hnextQ σ]
        · intro k' a' b' hno
          refine ⟨fun h => absurd rfl h, fun _ => ?_⟩
          refine hK0 k' a' b' (fun σ hσ => ?_)
          apply hno σ
          refine ⟨(hsat σ).2 ⟨hσ.1, fun x y hyx hxc _ => hσ.2 x y hyx hxc⟩, ?_⟩
          rw [← hPc]; exact hσ.2 i j hji hi

theorem w_sides2 (hA : yAr n nb bs bl ht par lower own under height parent) (i0 : Int32) (ld : Nat → Int64) (le : Nat → Int32) (lo : Nat → Nat) (c : Nat) (hc : c < 21)
    (hle : ∀ i, i < c → le i = Int32.ofNat (lo i) ∧ lo i < n) (hld : ∀ i j, i < c → j < 64 → yL (ld i) j = true → j < nb)
    (S0 : (Nat → Bool) → Prop) (K : Int32 → (Int32 × (Nat → Int64) × (Nat → Int64)) → Prop)
    (hK1 : ∀ k a b, yGs k a b → (∀ i j, i < k → j < 64 → yGb a b i j = true → j < nb) →
      (∀ σ, ySat σ k a b ↔ (S0 σ ∧ ∀ x y, y < x → x < c → yPc lower ld lo σ x y)) → K 1 (Int32.ofNat k, a, b))
    (hK0 : ∀ k' a b, (∀ σ, ¬ (S0 σ ∧ ∀ x y, y < x → x < c → yPc lower ld lo σ x y)) → K 0 (Int32.ofNat k', a, b)) :
    ∀ d i k a b, c - i = d → i ≤ c → yGs k a b → (∀ i j, i < k → j < 64 → yGb a b i j = true → j < nb) →
      (∀ σ, ySat σ k a b ↔ (S0 σ ∧ ∀ x y, y < x → x < c → x < i → yPc lower ld lo σ x y)) →
      wLX5_sidesFit_2 i0 ld le lower (Int32.ofNat c) K (d+1) a b (Int32.ofNat k) (Int32.ofNat i) := by
  intro d
  induction d with
  | zero =>
    intro i k a b hd hi hG hs hsat
    unfold wLX5_sidesFit_2
    refine ⟨fun _ => ?_, fun hn => ?_⟩
    · refine hK1 k a b hG hs (fun σ => ?_)
      rw [hsat σ]
      constructor
      · rintro ⟨h1, h2⟩; exact ⟨h1, fun x y hyx hxc => h2 x y hyx hxc (by omega)⟩
      · rintro ⟨h1, h2⟩; exact ⟨h1, fun x y hyx hxc _ => h2 x y hyx hxc⟩
    · exfalso; apply hn; rw [yn_le (by omega) (by omega)]; omega
  | succ d ih =>
    intro i k a b hd hi hG hs hsat
    unfold wLX5_sidesFit_2
    refine ⟨fun hn => ?_, fun _ => ?_⟩
    · exfalso; rw [yn_le (by omega) (by omega)] at hn; omega
    · refine ⟨i + 1, ?_⟩
      have h0 : (0 : Int32) = Int32.ofNat 0 := rfl
      rw [h0]
      refine w_sides9 hA i0 ld le lo c hc hle hld S0 K hK0 i (by omega) _ ?_ i 0 k a b (by omega) (by omega) hG hs ?_
      · intro k' a' b' hG' hs' hsat'
        exact ih (i+1) k' a' b' (by omega) (by omega) hG' hs' hsat'
      · intro σ
        rw [hsat σ]
        constructor
        · rintro ⟨h1, h2⟩
          refine ⟨h1, fun x y hyx hxc hx => h2 x y hyx hxc ?_⟩
          rcases hx with h | h
          · exact h
          · omega
        · rintro ⟨h1, h2⟩
          exact ⟨h1, fun x y hyx hxc hx => h2 x y hyx hxc (Or.inl hx)⟩

-- pairs of entries and sides that fit at v
theorem yEn_pv (hA : yAr n nb bs bl ht par lower own under height parent) {v : Nat} {c : Nat} {ld : Nat → Int64} {le : Nat → Int32} {kd : Nat → Nat ⊕ Nat}
    (h : yEn n nb bs bl ht par v (fun _ => True) c ld le kd) (lo : Nat → Nat) (hlo : ∀ i, i < c → le i = Int32.ofNat (lo i) ∧ lo i < n ∧
      (∀ j, yRj nb bs bl ht par v j → yBj bs ht par v j = kd i → lo i ≤ bl j) ∧ ∃ j, yRj nb bs bl ht par v j ∧ yBj bs ht par v j = kd i ∧ bl j = lo i) (σ : Nat → Bool) :
    (∀ x y, y < x → x < c → yPc lower ld lo σ x y) ↔ yPv nb bs bl ht par σ v := by
  obtain ⟨a1, a2, a3, a4, a5, a6, a7, a8, a9, a10, a11⟩ := hA
  -- one mask
  have hmask : ∀ x y, x < c → y < c → ∀ j, j < 64 → (yL (ld x &&& (lower (lo y + 1) ^^^ (-1))) j = true ↔
      (yRj nb bs bl ht par v j ∧ yBj bs ht par v j = kd x ∧ ∃ k, yRj nb bs bl ht par v k ∧ yBj bs ht par v k = kd y ∧ bl k < bl j)) := by
    intro x y hx hy j hj
    rw [yL_and, Bool.and_eq_true, yL_not _ j hj, ((h.1 x hx).2.1 j hj)]
    have hl := a2 (lo y + 1) j (by have := (hlo y hy).2.1; omega) hj
    constructor
    · rintro ⟨⟨h1, h2⟩, h3⟩
      refine ⟨h1, h2, ?_⟩
      obtain ⟨k, k1, k2, k3⟩ := (hlo y hy).2.2.2
      refine ⟨k, k1, k2, ?_⟩
      have : ¬ (yL (lower (lo y + 1)) j = true) := by
        intro h4; rw [h4] at h3; cases h3
      rw [hl] at this
      have hj' := h1.1
      rw [k3]
      by_cases hlt : lo y < bl j
      · exact hlt
      · exact absurd ⟨hj', by omega⟩ this
    · rintro ⟨h1, h2, k, k1, k2, k3⟩
      refine ⟨⟨h1, h2⟩, ?_⟩
      have h4 := (hlo y hy).2.2.1 k k1 k2
      cases hb : yL (lower (lo y + 1)) j with
      | false => rfl
      | true => have := hl.1 hb; omega
  have hpair : ∀ x y, x < c → y < c → (yPc lower ld lo σ x y ↔ ∃ cc : Bool,
      (∀ j, yRj nb bs bl ht par v j → yBj bs ht par v j = kd x → (∃ k, yRj nb bs bl ht par v k ∧ yBj bs ht par v k = kd y ∧ bl k < bl j) → σ j = cc) ∧
      (∀ j, yRj nb bs bl ht par v j → yBj bs ht par v j = kd y → (∃ k, yRj nb bs bl ht par v k ∧ yBj bs ht par v k = kd x ∧ bl k < bl j) → σ j = !cc)) := by
    intro x y hx hy
    unfold yPc yC2
    constructor
    · rintro ⟨cc, hcc⟩
      refine ⟨cc, fun j hR hB hk => ?_, fun j hR hB hk => ?_⟩
      · have hj : j < 64 := by have := hR.1; omega
        exact (hcc j hj).1 ((hmask x y hx hy j hj).2 ⟨hR, hB, hk⟩)
      · have hj : j < 64 := by have := hR.1; omega
        exact (hcc j hj).2 ((hmask y x hy hx j hj).2 ⟨hR, hB, hk⟩)
    · rintro ⟨cc, h1, h2⟩
      refine ⟨cc, fun j hj => ⟨fun hb => ?_, fun hb => ?_⟩⟩
      · have := (hmask x y hx hy j hj).1 hb
        exact h1 j this.1 this.2.1 this.2.2
      · have := (hmask y x hy hx j hj).1 hb
        exact h2 j this.1 this.2.1 this.2.2
  constructor
  · intro hall κ1 κ2 hne
    by_cases h1 : ∃ x, x < c ∧ kd x = κ1
    · obtain ⟨x, hx, hx1⟩ := h1
      by_cases h2 : ∃ y, y < c ∧ kd y = κ2
      · obtain ⟨y, hy, hy1⟩ := h2
        rw [← hx1, ← hy1] at hne ⊢
        have hxy : x ≠ y := fun e => hne (by rw [e])
        by_cases hlt : y < x
        · exact (hpair x y hx hy).1 (hall x y hlt hx)
        · obtain ⟨cc, c1, c2⟩ := (hpair y x hy hx).1 (hall y x (by omega) hy)
          exact ⟨!cc, fun j a b d => c2 j a b d, fun j a b d => by rw [c1 j a b d]; simp⟩
      · refine ⟨false, fun j hR hB hk => ?_, fun j hR hB hk => ?_⟩
        · obtain ⟨k, k1, k2, _⟩ := hk
          obtain ⟨y, hy, hy1⟩ := h.2.2 k k1 trivial
          exact absurd ⟨y, hy, hy1.trans k2⟩ h2
        · obtain ⟨y, hy, hy1⟩ := h.2.2 j hR trivial
          exact absurd ⟨y, hy, hy1.trans hB⟩ h2
    · refine ⟨false, fun j hR hB hk => ?_, fun j hR hB hk => ?_⟩
      · obtain ⟨y, hy, hy1⟩ := h.2.2 j hR trivial
        exact absurd ⟨y, hy, hy1.trans hB⟩ h1
      · obtain ⟨k, k1, k2, _⟩ := hk
        obtain ⟨y, hy, hy1⟩ := h.2.2 k k1 trivial
        exact absurd ⟨y, hy, hy1.trans k2⟩ h1
  · intro hall x y hyx hx
    rw [hpair x y hx (by omega)]
    apply hall
    intro e
    have := h.2.1 x y hx (by omega) e
    omega

theorem w_sidesFit (hA : yAr n nb bs bl ht par lower own under height parent) (i0 : Int32) {v : Nat} (hv : v < n) {c : Nat} {ld : Nat → Int64} {le : Nat → Int32} {kd : Nat → Nat ⊕ Nat}
    (h : yEn n nb bs bl ht par v (fun _ => True) c ld le kd) (S0 : (Nat → Bool) → Prop) (k : Nat) (a b : Nat → Int64) (hG : yGs k a b)
    (hs : ∀ i j, i < k → j < 64 → yGb a b i j = true → j < nb) (hsat : ∀ σ, ySat σ k a b ↔ S0 σ)
    (K : Int32 → (Int32 × (Nat → Int64) × (Nat → Int64)) → Prop)
    (hK1 : ∀ k a b, yGs k a b → (∀ i j, i < k → j < 64 → yGb a b i j = true → j < nb) →
      (∀ σ, ySat σ k a b ↔ (S0 σ ∧ yPv nb bs bl ht par σ v)) → K 1 (Int32.ofNat k, a, b))
    (hK0 : ∀ k' a b, (∀ σ, ¬ (S0 σ ∧ yPv nb bs bl ht par σ v)) → K 0 (Int32.ofNat k', a, b)) :
    wX5_sidesFit i0 (Int32.ofNat k) ld le lower a b (Int32.ofNat c) K := by
  have hc := yEn_few hA hv h
  have hlo : ∀ i, ∃ low, i < c → le i = Int32.ofNat low ∧ low < n ∧
      (∀ j, yRj nb bs bl ht par v j → yBj bs ht par v j = kd i → low ≤ bl j) ∧ ∃ j, yRj nb bs bl ht par v j ∧ yBj bs ht par v j = kd i ∧ bl j = low := by
    intro i
    by_cases hi : i < c
    · obtain ⟨_, _, low, h1⟩ := h.1 i hi
      exact ⟨low, fun _ => h1⟩
    · exact ⟨0, fun h' => absurd h' hi⟩
  obtain ⟨lo, hlo⟩ := yChoice hlo
  have hpv := fun σ => yEn_pv hA h lo (fun i hi => hlo i hi) σ
  unfold wX5_sidesFit
  refine ⟨c + 1, ?_⟩
  have h0 : (0 : Int32) = Int32.ofNat 0 := rfl
  rw [h0]
  refine w_sides2 hA i0 ld le lo c hc (fun i hi => ⟨(hlo i hi).1, (hlo i hi).2.1⟩) ?_ S0 K ?_ ?_ c 0 k a b (by omega) (by omega) hG hs ?_
  · intro i j hi hj hb
    exact (((h.1 i hi).2.1 j hj).1 hb).1.1
  · intro k a b h1 h2 h3
    refine hK1 k a b h1 h2 (fun σ => ?_)
    rw [h3 σ, hpv σ]
  · intro k a b h1
    refine hK0 k a b (fun σ hσ => h1 σ ⟨hσ.1, (hpv σ).2 hσ.2⟩)
  · intro σ
    rw [hsat σ]
    constructor
    · intro h; exact ⟨h, fun x y _ _ hx => by omega⟩
    · intro h; exact h.1
end

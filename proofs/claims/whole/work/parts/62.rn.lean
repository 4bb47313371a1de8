
-- bits as a number
def yNum : Nat → (Nat → Bool) → Nat
  | 0, _ => 0
  | m+1, p => yNum m p + (if p m then 2^m else 0)

theorem yNum_lt (m : Nat) (p : Nat → Bool) : yNum m p < 2^m := by
  induction m with
  | zero => simp [yNum]
  | succ m ih =>
    simp only [yNum, Nat.pow_succ]
    cases p m <;> simp <;> omega

theorem yNum_inj (m : Nat) (p q : Nat → Bool) (h : yNum m p = yNum m q) : ∀ i, i < m → p i = q i := by
  induction m with
  | zero => intro i hi; omega
  | succ m ih =>
    intro i hi
    have h1 := yNum_lt m p; have h2 := yNum_lt m q
    have hm : p m = q m ∧ yNum m p = yNum m q := by
      simp only [yNum] at h
      cases hp : p m <;> cases hq : q m <;> rw [hp, hq] at h <;> simp at h <;> first | exact ⟨rfl, h⟩ | (exfalso; omega)
    by_cases c : i = m
    · rw [c]; exact hm.1
    · exact ih hm.2 i (by omega)

theorem yPigB (a b : Nat) (code : (Nat → Bool) → (Nat → Bool)) (h : ∀ p q, (∀ i, i < b → code p i = code q i) → ∀ i, i < a → p i = q i) : a ≤ b := by
  have h1 := yPig (2^a) (2^b) (fun k => yNum b (code (fun i => Nat.testBit k i))) (fun i _ => yNum_lt b _) (by
    intro i j hi hj hij
    have := h _ _ (yNum_inj b _ _ hij)
    apply Nat.eq_of_testBit_eq
    intro k
    by_cases hk : k < a
    · exact this k hk
    · rw [Nat.testBit_lt_two_pow (Nat.lt_of_lt_of_le hi (Nat.pow_le_pow_right (by omega) (by omega))), Nat.testBit_lt_two_pow (Nat.lt_of_lt_of_le hj (Nat.pow_le_pow_right (by omega) (by omega)))])
  rcases Nat.lt_or_ge b a with c | c
  · exfalso
    have := Nat.pow_lt_pow_right (a := 2) (by omega) c
    omega
  · exact c

-- those that have a property, in a row
theorem yList (m : Nat) (p : Nat → Bool) : ∃ x : Nat → Nat, (∀ k, k < yNb m p → x k < m ∧ p (x k) = true) ∧ (∀ i, i < m → p i = true → ∃ k, k < yNb m p ∧ x k = i) ∧
    (∀ i j, i < yNb m p → j < yNb m p → x i = x j → i = j) := by
  induction m with
  | zero => exact ⟨fun _ => 0, fun k hk => by simp [yNb] at hk, fun i hi => by omega, fun i j hi => by simp [yNb] at hi⟩
  | succ m ih =>
    obtain ⟨x, h1, h2, h3⟩ := ih
    cases hp : p m with
    | false =>
      have he : yNb (m+1) p = yNb m p := by simp [yNb, hp]
      rw [he]
      refine ⟨x, fun k hk => ⟨by have := (h1 k hk).1; omega, (h1 k hk).2⟩, ?_, h3⟩
      intro i hi hpi
      by_cases c : i = m
      · rw [c, hp] at hpi; cases hpi
      · exact h2 i (by omega) hpi
    | true =>
      have he : yNb (m+1) p = yNb m p + 1 := by simp [yNb, hp]
      rw [he]
      refine ⟨fun k => if k = yNb m p then m else x k, ?_, ?_, ?_⟩
      · intro k hk
        by_cases c : k = yNb m p
        · simp only [c, if_true]; exact ⟨by omega, hp⟩
        · simp only [c, if_false]
          have := h1 k (by omega)
          exact ⟨by omega, this.2⟩
      · intro i hi hpi
        by_cases c : i = m
        · exact ⟨yNb m p, by omega, by simp [c]⟩
        · obtain ⟨k, hk, hx⟩ := h2 i (by omega) hpi
          refine ⟨k, by omega, ?_⟩
          have : k ≠ yNb m p := by omega
          simp [this, hx]
      · intro i j hi hj hij
        by_cases ci : i = yNb m p <;> by_cases cj : j = yNb m p
        · omega
        · simp only [ci, cj, if_true, if_false] at hij
          have := (h1 j (by omega)).1; omega
        · simp only [ci, cj, if_true, if_false] at hij
          have := (h1 i (by omega)).1; omega
        · simp only [ci, cj, if_false] at hij
          exact h3 i j (by omega) (by omega) hij

theorem yBoundL (m : Nat) (s : Nat → Nat) : ∃ B, ∀ e, e < m → s e < B := by
  induction m with
  | zero => exact ⟨0, fun e he => by omega⟩
  | succ m ih =>
    obtain ⟨B, h⟩ := ih
    refine ⟨B + s m + 1, fun e he => ?_⟩
    by_cases c : e = m
    · rw [c]; omega
    · have := h e (by omega); omega

theorem yNb_xle (m : Nat) (p q : Nat → Bool) : yNb m (fun l => Bool.xor (p l) (q l)) ≤ yNb m p + yNb m q := by
  induction m with
  | zero => exact Nat.le_refl _
  | succ m ih =>
    have h1 : yNb (m+1) (fun l => Bool.xor (p l) (q l)) = yNb m (fun l => Bool.xor (p l) (q l)) + (if Bool.xor (p m) (q m) then 1 else 0) := rfl
    have h2 : (if Bool.xor (p m) (q m) then 1 else 0) ≤ (if p m then 1 else 0) + (if q m then 1 else 0) := by cases p m <;> cases q m <;> simp
    rw [h1]
    simp only [yNb]
    omega

-- the sum over labels
theorem ySum_labels {X : Nat → Bool} {s t : Nat → Nat} (B : Nat) (m : Nat) :
    yS B (fun l => yNb m (fun e => X e && Bool.xor (t e == l) (s e == l))) ≤ 2 * yNb m X := by
  rw [yS_swap B m (fun l e => X e && Bool.xor (t e == l) (s e == l))]
  have key : ∀ e, yNb B (fun l => X e && Bool.xor (t e == l) (s e == l)) ≤ (if X e then 2 else 0) := by
    intro e
    cases hX : X e with
    | false =>
      have : ∀ B, yNb B (fun l => false && Bool.xor (t e == l) (s e == l)) = 0 := by
        intro B; induction B with
        | zero => rfl
        | succ B ih => simp only [yNb]; rw [ih]; simp
      rw [this]; simp
    | true =>
      simp only [if_true]
      have : ∀ B, yNb B (fun l => true && Bool.xor (t e == l) (s e == l)) ≤ yNb B (fun l => (t e == l)) + yNb B (fun l => (s e == l)) := by
        intro B
        simp only [Bool.true_and]
        exact yNb_xle B _ _
      have one : ∀ (x B : Nat), yNb B (fun l => x == l) ≤ 1 := by
        intro x B
        rcases Nat.lt_or_ge x B with c | c
        · have := yNb_one B (fun l => x == l) (fun _ => false) x c ⟨by simp, rfl⟩ (fun i _ hi => by simp [Ne.symm hi])
          have z : ∀ B, yNb B (fun _ => false) = 0 := by
            intro B; induction B with
            | zero => rfl
            | succ B ih => simp only [yNb]; rw [ih]; simp
          rw [z] at this; omega
        · have : ∀ B, B ≤ x → yNb B (fun l => x == l) = 0 := by
            intro B; induction B with
            | zero => intro _; rfl
            | succ B ih =>
              intro hB
              simp only [yNb]; rw [ih (by omega)]
              have : ¬ x = B := by omega
              simp [this]
          rw [this B c]; omega
      have h1 := this B; have h2 := one (t e) B; have h3 := one (s e) B
      omega
  have : ∀ m, yS m (fun e => yNb B (fun l => X e && Bool.xor (t e == l) (s e == l))) ≤ 2 * yNb m X := by
    intro m
    induction m with
    | zero => exact Nat.le_refl _
    | succ m ih =>
      simp only [yS, yNb]
      have := key m
      cases hX : X m with
      | false => rw [hX] at this; simp at this ⊢; omega
      | true => rw [hX] at this; simp at this ⊢; omega
  exact this m

theorem ySum_used (B : Nat) (q : Nat → Bool) (w : Nat → Nat) (h : ∀ l, l < B → q l = true → 3 ≤ w l) : 3 * yNb B q ≤ yS B w := by
  induction B with
  | zero => exact Nat.le_refl _
  | succ B ih =>
    simp only [yS, yNb]
    have h1 := ih (fun l hl => h l (by omega))
    cases hq : q B with
    | false => simp; omega
    | true => have := h B (by omega) hq; simp; omega

theorem yNb_three {m : Nat} {p : Nat → Bool} {a b c : Nat} (ha : a < m) (hb : b < m) (hc : c < m) (pa : p a = true) (pb : p b = true) (pc : p c = true) (hab : a ≠ b) (hac : a ≠ c) (hbc : b ≠ c) : 3 ≤ yNb m p := by
  refine yPigC 3 m p (fun x => if x = 0 then a else if x = 1 then b else c) ?_ ?_
  · intro x hx
    rcases (by omega : x = 0 ∨ x = 1 ∨ x = 2) with d | d | d <;> subst d <;> simp <;> first | exact ⟨ha, pa⟩ | exact ⟨hb, pb⟩ | exact ⟨hc, pc⟩
  · intro x y hx hy hxy
    rcases (by omega : x = 0 ∨ x = 1 ∨ x = 2) with d | d | d <;> rcases (by omega : y = 0 ∨ y = 1 ∨ y = 2) with d' | d' | d' <;> subst d <;> subst d' <;> simp at hxy <;> first | rfl | (exfalso; omega)

-- Euler: at most 3 n - 6 edges
theorem yEuler {n : Nat} (hn3 : 3 ≤ n) (hn : n ≤ 32) {X : Nat → Bool} (hX : ∀ e, e < 1024 → X e = true → e/32 < e%32 ∧ e%32 < n) {s t : Nat → Nat} (h : yDs 1024 yI X (fun _ => false) s t) :
    yNb 1024 X ≤ 3 * n - 6 := by
  obtain ⟨B1, hB1⟩ := yBoundL 1024 s
  obtain ⟨B2, hB2⟩ := yBoundL 1024 t
  let B := B1 + B2
  let used : Nat → Bool := fun l => yD (∃ e, e < 1024 ∧ X e = true ∧ Bool.xor (t e == l) (s e == l) = true)
  have hsB : ∀ e, e < 1024 → s e < B := fun e he => by have := hB1 e he; show _ < B1 + B2; omega
  have htB : ∀ e, e < 1024 → t e < B := fun e he => by have := hB2 e he; show _ < B1 + B2; omega
  -- 3 F ≤ 2 E
  have hsum : 3 * yNb B used ≤ 2 * yNb 1024 X := by
    refine Nat.le_trans (ySum_used B used (fun l => yNb 1024 (fun e => X e && Bool.xor (t e == l) (s e == l))) ?_) (ySum_labels B 1024)
    intro l _ hl
    obtain ⟨e, he, hXe, hx⟩ := (yD_iff _).1 hl
    have hev := h.1 (fun x => x == l)
    have hev' : yEv 1024 yI (fun e => X e && Bool.xor (t e == l) (s e == l)) := yEv_congr 1024 yI _ _ (fun e _ => by simp) hev
    obtain ⟨e2, e3, a1, a2, a3, a4, a5, a6, a7⟩ := yEv_three (fun e he hh => (hX e he (by rw [Bool.and_eq_true] at hh; exact hh.1)).1) hev' he (by rw [hXe, hx]; rfl)
    exact yNb_three he a1 a2 (by rw [hXe, hx]; rfl) a3 a4 (Ne.symm a5) (Ne.symm a6) a7
  -- the edges and the labels in rows
  obtain ⟨xe, e1, e2, e3⟩ := yList 1024 X
  obtain ⟨xl, l1, l2, l3⟩ := yList B used
  let E := yNb 1024 X
  let F := yNb B used
  let set : (Nat → Bool) → (Nat → Bool) := fun A e => X e && yD (∃ k, k < E ∧ xe k = e ∧ A k = true)
  let rep : (Nat → Bool) → (Nat → Bool) := fun π => Classical.epsilon (fun S => (∀ e, S e = true → X e = true) ∧ ∀ v, yDg 1024 yI S v = π v)
  have hrep : ∀ A, (∀ e, rep (yDg 1024 yI (set A)) e = true → X e = true) ∧ ∀ v, yDg 1024 yI (rep (yDg 1024 yI (set A))) v = yDg 1024 yI (set A) v := by
    intro A
    exact Classical.epsilon_spec (p := fun S => (∀ e, S e = true → X e = true) ∧ ∀ v, yDg 1024 yI S v = yDg 1024 yI (set A) v)
      ⟨set A, fun e he => by have : (X e && _) = true := he; rw [Bool.and_eq_true] at this; exact this.1, fun v => rfl⟩
  let ev : (Nat → Bool) → (Nat → Bool) := fun A e => Bool.xor (set A e) (rep (yDg 1024 yI (set A)) e)
  have hcol : ∀ A, ∃ c : Nat → Bool, c (xl 0) = false ∧ ∀ e, e < 1024 → X e = true → ev A e = Bool.xor (c (t e)) (c (s e)) := by
    intro A
    have hev : yEv 1024 yI (ev A) := by
      intro v
      have h1 := yDg_xor 1024 yI (set A) (rep (yDg 1024 yI (set A))) v
      rw [(hrep A).2 v, Bool.xor_self] at h1
      exact h1
    obtain ⟨c, hc⟩ := h.2 (ev A) (by
      intro e _ hh
      cases hx : X e with
      | true => rfl
      | false =>
        exfalso
        have hs0 : set A e = false := by show (X e && _) = false; rw [hx]; rfl
        have hr0 : rep (yDg 1024 yI (set A)) e = false := by
          cases hr : rep (yDg 1024 yI (set A)) e with
          | false => rfl
          | true => have := (hrep A).1 e hr; rw [hx] at this; cases this
        have : Bool.xor (set A e) (rep (yDg 1024 yI (set A)) e) = true := hh
        rw [hs0, hr0] at this; cases this) hev
    refine ⟨fun l => Bool.xor (c l) (c (xl 0)), by simp, fun e he hx => ?_⟩
    rw [hc e he hx]
    dsimp only
    cases c (t e) <;> cases c (s e) <;> cases c (xl 0) <;> rfl
  let col : (Nat → Bool) → (Nat → Bool) := fun A => Classical.choose (hcol A)
  have hcol' : ∀ A, col A (xl 0) = false ∧ ∀ e, e < 1024 → X e = true → ev A e = Bool.xor (col A (t e)) (col A (s e)) := fun A => Classical.choose_spec (hcol A)
  have hpar : ∀ A, (∀ v, n ≤ v → yDg 1024 yI (set A) v = false) ∧ yX 32 (fun v => yDg 1024 yI (set A) v) = false := by
    intro A
    constructor
    · intro v hv
      apply yDg_false
      intro e he hI
      cases hx : set A e with
      | false => rfl
      | true =>
        exfalso
        have hx' : (X e && _) = true := hx
        rw [Bool.and_eq_true] at hx'
        have := hX e he hx'.1
        have hd := yI_iff (a := e/32) (b := e%32) (by omega) (by omega) (by omega) v
        rw [yIx_de this.1] at hd
        rcases hd.1 hI with c | c <;> omega
    · unfold yDg
      rw [← yX_swap 1024 32 (fun e v => set A e && yI e v)]
      apply yX_false
      intro e he
      have := yI_hand e he
      rw [← yX_andc, this, Bool.and_false]
  -- one subset of edges for each code
  have hinj : ∀ (p q : Nat → Bool), (∀ v, 1 ≤ v → v < n → yDg 1024 yI (set p) v = yDg 1024 yI (set q) v) → (∀ k, 1 ≤ k → k < F → col p (xl k) = col q (xl k)) → ∀ i, i < E → p i = q i := by
    intro p q h1 h2
    have hD : yDg 1024 yI (set p) = yDg 1024 yI (set q) := by
      have hpos : ∀ v, 1 ≤ v → yDg 1024 yI (set p) v = yDg 1024 yI (set q) v := by
        intro v hv
        by_cases c : v < n
        · exact h1 v hv c
        · rw [(hpar p).1 v (by omega), (hpar q).1 v (by omega)]
      funext v
      by_cases c : v = 0
      · subst c
        have hx := yX_xor 32 (fun v => yDg 1024 yI (set p) v) (fun v => yDg 1024 yI (set q) v)
        rw [(hpar p).2, (hpar q).2, yX_one 32 _ 0 (by omega) (fun i _ hi => by rw [hpos i (by omega), Bool.xor_self])] at hx
        revert hx
        cases yDg 1024 yI (set p) 0 <;> cases yDg 1024 yI (set q) 0 <;> decide
      · exact hpos v (by omega)
    have hc : ∀ l, l < B → used l = true → col p l = col q l := by
      intro l hl hu
      obtain ⟨k, hk, hx⟩ := l2 l hl hu
      by_cases c : k = 0
      · rw [c] at hx; rw [← hx, (hcol' p).1, (hcol' q).1]
      · rw [← hx]; exact h2 k (by omega) hk
    have hev : ∀ e, e < 1024 → X e = true → ev p e = ev q e := by
      intro e he hx
      rw [(hcol' p).2 e he hx, (hcol' q).2 e he hx]
      by_cases c : t e = s e
      · rw [c, Bool.xor_self, Bool.xor_self]
      · have u1 : used (t e) = true := yD_pos ⟨e, he, hx, by simp [Ne.symm c]⟩
        have u2 : used (s e) = true := yD_pos ⟨e, he, hx, by simp [c]⟩
        rw [hc _ (htB e he) u1, hc _ (hsB e he) u2]
    intro i hi
    have ⟨g1, g2⟩ := e1 i hi
    have hh := hev (xe i) g1 g2
    have hh' : Bool.xor (set p (xe i)) (rep (yDg 1024 yI (set p)) (xe i)) = Bool.xor (set q (xe i)) (rep (yDg 1024 yI (set q)) (xe i)) := hh
    rw [hD] at hh'
    have hset : set p (xe i) = set q (xe i) := by
      revert hh'
      cases set p (xe i) <;> cases set q (xe i) <;> cases rep (yDg 1024 yI (set q)) (xe i) <;> decide
    have hval : ∀ A : Nat → Bool, set A (xe i) = A i := by
      intro A
      show (X (xe i) && yD (∃ k, k < E ∧ xe k = xe i ∧ A k = true)) = A i
      rw [g2, Bool.true_and]
      cases hA : A i with
      | true => exact yD_pos ⟨i, hi, rfl, hA⟩
      | false =>
        apply yD_neg
        rintro ⟨k, hk, hx, hAk⟩
        rw [e3 k i hk hi hx, hA] at hAk; cases hAk
    rw [hval p, hval q] at hset
    exact hset
  have hle : E ≤ (n-1) + (F-1) := by
    refine yPigB E ((n-1) + (F-1)) (fun A i => if i < n-1 then yDg 1024 yI (set A) (i+1) else col A (xl (i-(n-1)+1))) ?_
    intro p q hpq
    apply hinj p q
    · intro v h1 h2
      have := hpq (v-1) (by omega)
      simp only [if_pos (by omega : v-1 < n-1)] at this
      rw [show v-1+1 = v by omega] at this
      exact this
    · intro k h1 h2
      have := hpq (n-1+(k-1)) (by omega)
      simp only [if_neg (by omega : ¬ n-1+(k-1) < n-1)] at this
      rw [show n-1+(k-1)-(n-1)+1 = k by omega] at this
      exact this
  have hE : E = yNb 1024 X := rfl
  have hF : F = yNb B used := rfl
  rw [← hE, ← hF] at hsum
  rw [← hE]
  omega


def yLab (X : Nat → Bool) : Prop := ∃ lab : Bool → Nat → Nat, yDs 1024 yI X (fun _ => false) (lab false) (lab true)

theorem yLab_sub {X Y : Nat → Bool} (h : yLab X) (hs : ∀ e, e < 1024 → Y e = true → X e = true) : yLab Y := by
  obtain ⟨lab, hl⟩ := h
  obtain ⟨q, hq⟩ := yDs_sub hl Y hs (fun e _ h => by cases h)
  exact ⟨fun b e => q (lab b e), hq⟩

theorem yLab_congr {X Y : Nat → Bool} (h : yLab X) (hs : ∀ e, e < 1024 → X e = Y e) : yLab Y := by
  obtain ⟨lab, hl⟩ := h
  exact ⟨lab, yDs_congr hl _ hs⟩

-- an edge between two parts
theorem yLab_bridge {X : Nat → Bool} (h : yLab X) {e0 : Nat} (he0 : e0 < 1024) (C : Nat → Bool) (h0 : C (e0/32) ≠ C (e0%32)) (hC : ∀ e, e < 1024 → X e = true → C (e/32) = C (e%32)) :
    yLab (fun e => X e || decide (e = e0)) := by
  obtain ⟨lab, h1, h2⟩ := h
  have hX0 : X e0 = false := by
    cases hx : X e0 with
    | false => rfl
    | true => exact absurd (hC e0 he0 hx) h0
  refine ⟨fun b e => if e = e0 then 0 else lab b e, ?_, ?_⟩
  · intro c
    refine yEv_congr 1024 yI _ _ ?_ (h1 c)
    intro e _
    by_cases ce : e = e0
    · simp [ce, hX0]
    · simp [ce]
  · intro y hy hev
    have hy0 : y e0 = false := by
      have hcut := yCut hev C
      rw [yX_one 1024 _ e0 he0] at hcut
      · cases hh : y e0 with
        | false => rfl
        | true =>
          rw [hh, Bool.true_and] at hcut
          exfalso; apply h0
          revert hcut
          cases C (e0/32) <;> cases C (e0%32) <;> decide
      · intro e he hne
        cases hye : y e with
        | false => rfl
        | true =>
          have := hy e he hye
          rw [Bool.or_eq_true, decide_eq_true_iff] at this
          rcases this with c | c
          · rw [hC e he c, Bool.xor_self, Bool.and_false]
          · exact absurd c hne
    obtain ⟨c, hc⟩ := h2 y (by
      intro e he hye
      have := hy e he hye
      rw [Bool.or_eq_true, decide_eq_true_iff] at this
      rcases this with d | d
      · exact d
      · rw [d, hy0] at hye; cases hye) hev
    refine ⟨c, fun e he hx => ?_⟩
    by_cases ce : e = e0
    · simp [ce, hy0]
    · rw [Bool.or_eq_true, decide_eq_true_iff] at hx
      rcases hx with d | d
      · simp only [ce, if_false]; exact hc e he d
      · exact absurd d ce

-- a third edge between two of different classes
theorem yDs_join3 {L : Type} {X : Nat → Bool} {s t : Nat → L} (h : yDs 1024 yI X (fun _ => false) s t) {e0 e1 e2 : Nat} (he0 : e0 < 1024) (he1 : e1 < 1024) (he2 : e2 < 1024) (h01 : e0 ≠ e1) (h02 : e0 ≠ e2) (h12 : e1 ≠ e2)
    (x0 : X e0 = false) (x1 : X e1 = true) (x2 : X e2 = true) (hev : yEv 1024 yI (fun e => decide (e = e0 ∨ e = e1 ∨ e = e2)))
    (hcol : ∀ y, (∀ e, e < 1024 → y e = true → X e = true) → yEv 1024 yI y → ∃ c : L → Bool, c (s e1) = c (s e2) ∧ ∀ e, e < 1024 → X e = true → y e = Bool.xor (c (t e)) (c (s e))) :
    ∃ s' t' : Nat → Option L, yDs 1024 yI (fun e => X e || decide (e = e0)) (fun _ => false) s' t' := by
  -- the label of e2 goes into that of e1
  have hq : ∃ q : L → L, q (s e2) = s e1 ∧ (∀ l, l ≠ s e2 → q l = l) := by
    refine ⟨fun l => if yD (l = s e2) = true then s e1 else l, by simp [yD_pos], ?_⟩
    intro l hl
    simp [yD_neg hl]
  obtain ⟨q, q1, q2⟩ := hq
  have qs1 : q (s e1) = s e1 := by
    by_cases c : s e1 = s e2
    · rw [c, q1, c]
    · exact q2 _ c
  have hqc : ∀ c : L → Bool, c (s e1) = c (s e2) → ∀ l, c (q l) = c l := by
    intro c hc l
    by_cases d : l = s e2
    · rw [d, q1, hc]
    · rw [q2 l d]
  refine ⟨fun e => if e = e0 ∨ e = e1 ∨ e = e2 then none else some (q (s e)), fun e => if e = e0 then some (s e1) else some (q (t e)), ?_, ?_⟩
  · intro c
    -- the old set with or without the three
    have hold := h.1 (fun l => c (some (q l)))
    have := yEv_xor 1024 yI _ _ hold (show yEv 1024 yI (fun e => Bool.xor (c none) (c (some (s e1))) && decide (e = e0 ∨ e = e1 ∨ e = e2)) by
      cases Bool.xor (c none) (c (some (s e1))) with
      | false => intro v; exact yX_false _ _ (fun e _ => by simp)
      | true => simpa using hev)
    refine yEv_congr 1024 yI _ _ ?_ this
    intro e _
    by_cases c0 : e = e0
    · subst c0
      simp [x0]
      cases c none <;> cases c (some (s e1)) <;> rfl
    · by_cases c1 : e = e1
      · subst c1
        simp [c0, x1, qs1]
        cases c none <;> cases c (some (s e)) <;> cases c (some (q (t e))) <;> rfl
      · by_cases c2 : e = e2
        · subst c2
          simp [c0, c1, x2, q1]
          cases c none <;> cases c (some (s e1)) <;> cases c (some (q (t e))) <;> rfl
        · simp [c0, c1, c2]
  · intro y hy hy2
    -- without the new edge
    have hev' := yEv_xor 1024 yI _ _ hy2 (show yEv 1024 yI (fun e => y e0 && decide (e = e0 ∨ e = e1 ∨ e = e2)) by
      cases y e0 with
      | false => intro v; exact yX_false _ _ (fun e _ => by simp)
      | true => simpa using hev)
    obtain ⟨c, hc1, hc2⟩ := hcol (fun e => Bool.xor (y e) (y e0 && decide (e = e0 ∨ e = e1 ∨ e = e2))) (by
      intro e he hh
      by_cases c1 : e = e1
      · rw [c1]; exact x1
      · by_cases c2 : e = e2
        · rw [c2]; exact x2
        · by_cases c0 : e = e0
          · subst c0; simp at hh
          · simp [c0, c1, c2] at hh
            have := hy e he hh
            simpa [c0] using this) hev'
    refine ⟨fun l => match l with | none => Bool.xor (y e0) (c (s e1)) | some l => c l, ?_⟩
    intro e he hx
    by_cases c0 : e = e0
    · subst c0
      simp
      cases y e <;> cases c (s e1) <;> rfl
    · have hxe : X e = true := by simpa [c0] using hx
      have := hc2 e he hxe
      by_cases c1 : e = e1
      · subst c1
        simp [h01.symm, hqc c hc1] at this ⊢
        revert this
        cases y e <;> cases y e0 <;> cases c (t e) <;> cases c (s e) <;> simp
      · by_cases c2 : e = e2
        · subst c2
          simp [c0, c1, hqc c hc1] at this ⊢
          rw [hc1]
          revert this
          cases y e <;> cases y e0 <;> cases c (t e) <;> cases c (s e) <;> simp
        · simp [c0, c1, c2] at this ⊢
          rw [hqc c hc1, hqc c hc1, this]

-- classes there are
theorem yBl_ex (m : Nat) (I : Nat → Nat → Bool) (G : Nat → Bool) : ∃ cls : Nat → Nat, yBl m I G cls := by
  let P : (Nat → Bool) → Prop := fun k => ∀ e e' v x y, e < m → e' < m → G e = true → G e' = true → I e v = true → I e x = true → I e' v = true → I e' y = true → x ≠ v → y ≠ v →
    yCo m I G v x y → k e = k e'
  let R : Nat → Nat → Prop := fun e e' => ∀ k, P k → k e = k e'
  have hR : ∀ e e', R e e' → Classical.epsilon (R e) = Classical.epsilon (R e') := by
    intro e e' h
    congr 1
    funext x
    apply propext
    exact ⟨fun h1 k hk => (h k hk).symm.trans (h1 k hk), fun h1 k hk => (h k hk).trans (h1 k hk)⟩
  refine ⟨fun e => Classical.epsilon (R e), ?_, ?_⟩
  · intro e e' v x y he he' hg hg' h1 h2 h3 h4 hx hy hco
    exact hR e e' (fun k hk => hk e e' v x y he he' hg hg' h1 h2 h3 h4 hx hy hco)
  · intro k hk e e' _ _ _ _ hc
    have h1 : R e (Classical.epsilon (R e)) := Classical.epsilon_spec (p := R e) ⟨e, fun k _ => rfl⟩
    have h2 : R e' (Classical.epsilon (R e')) := Classical.epsilon_spec (p := R e') ⟨e', fun k _ => rfl⟩
    have hc' : Classical.epsilon (R e) = Classical.epsilon (R e') := hc
    rw [← hc'] at h2
    exact (h1 k hk).trans (h2 k hk).symm


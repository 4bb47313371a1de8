theorem yDs_colorw {L : Type} {m : Nat} {I : Nat → Nat → Bool} {X z : Nat → Bool} {s t : Nat → L}
    (hE : yDs m I X z s t) (c : L → Bool) (v : Nat)
    (hv : ∀ e, e < m → X e = true → I e v = true → Bool.xor (c (t e)) (!z e && c (s e)) = false)
    (w : Nat → Bool) (hwX : ∀ e, e < m → w e = true → X e = true) (hw : yEv m I w)
    (a b : Nat) (ha : a < m) (hb : b < m) (hIa : I a v = true) (hIb : I b v = true) (wa : w a = true) (wb : w b = true)
    (h : ∀ e, e < m → w e = true → I e v = true → e = a ∨ e = b) :
    c (t a) = c (t b) := by
  by_cases hab : a = b
  · rw [hab]
  obtain ⟨d, hd⟩ := hE.2 w hwX hw
  have h1 := hE.1 (fun l => c l && d l) v
  have h2 : yX m (fun e => (X e && Bool.xor (c (t e) && d (t e)) (!z e && (c (s e) && d (s e)))) && I e v)
      = yDg m I (fun e => w e && c (t e)) v := by
    unfold yDg
    apply yX_congr
    intro e he
    cases hI : I e v with
    | false => simp
    | true =>
      cases hX : X e with
      | false =>
        have : w e = false := by
          cases hwe : w e with
          | false => rfl
          | true => have := hwX e he hwe; rw [hX] at this; cases this
        simp [this]
      | true =>
        dsimp only
        have h3 := hv e he hX hI
        rw [hd e he hX]
        revert h3
        cases c (t e) <;> cases c (s e) <;> cases d (s e) <;> cases d (t e) <;> cases z e <;> simp
  rw [h2] at h1
  rw [yDg_two m I _ v a b ha hb hab hIa hIb] at h1
  · rw [wa, wb] at h1
    revert h1
    cases c (t a) <;> cases c (t b) <;> simp
  · intro e he hI h3 h4
    cases hwe : w e with
    | false => simp
    | true => rcases h e he hwe hI with h5 | h5 <;> contradiction

-- a tree from searching deep first, and its back edges
def yTr (m : Nat) (I : Nat → Nat → Bool) (G : Nat → Bool) (V : Nat → Prop) (ht : Nat → Nat) (up : Nat → Nat → Nat) (pe : Nat → Nat)
    (Bk : Nat → Bool) (sr lo : Nat → Nat) : Prop :=
  (∀ q j, V q → j ≤ ht q → V (up q j) ∧ ht (up q j) = j) ∧
  (∀ q, V q → up q (ht q) = q) ∧
  (∀ q j i, V q → j ≤ ht q → i ≤ j → up (up q j) i = up q i) ∧
  (∀ y, V y → 0 < ht y → pe y < m ∧ G (pe y) = true ∧ Bk (pe y) = false ∧ ∀ n, I (pe y) n = true ↔ (n = y ∨ n = up y (ht y - 1))) ∧
  (∀ y y', V y → V y' → 0 < ht y → 0 < ht y' → pe y = pe y' → y = y') ∧
  (∀ b, b < m → Bk b = true → G b = true ∧ V (sr b) ∧ lo b + 1 < ht (sr b) ∧ ∀ n, I b n = true ↔ (n = sr b ∨ n = up (sr b) (lo b))) ∧
  (∀ e, e < m → G e = true → Bk e = true ∨ ∃ y, V y ∧ 0 < ht y ∧ e = pe y)

-- the round of a back edge: itself and the way over the tree
noncomputable def yFc (ht : Nat → Nat) (up : Nat → Nat → Nat) (pe sr lo : Nat → Nat) (b e : Nat) : Bool :=
  yD (e = b ∨ ∃ j, lo b < j ∧ j ≤ ht (sr b) ∧ e = pe (up (sr b) j))

theorem yFc_b (ht : Nat → Nat) (up : Nat → Nat → Nat) (pe sr lo : Nat → Nat) (b : Nat) : yFc ht up pe sr lo b b = true :=
  yD_pos (Or.inl rfl)

theorem yFc_t {ht : Nat → Nat} {up : Nat → Nat → Nat} {pe sr lo : Nat → Nat} {b j : Nat} (h1 : lo b < j) (h2 : j ≤ ht (sr b)) :
    yFc ht up pe sr lo b (pe (up (sr b) j)) = true := yD_pos (Or.inr ⟨j, h1, h2, rfl⟩)

section
variable {m : Nat} {I : Nat → Nat → Bool} {G : Nat → Bool} {V : Nat → Prop} {ht : Nat → Nat} {up : Nat → Nat → Nat} {pe : Nat → Nat}
  {Bk : Nat → Bool} {sr lo : Nat → Nat}

theorem yTr_pe (hT : yTr m I G V ht up pe Bk sr lo) {b j : Nat} (hb : b < m) (hB : Bk b = true) (hj : 0 < j) (hj2 : j ≤ ht (sr b)) :
    pe (up (sr b) j) < m ∧ G (pe (up (sr b) j)) = true ∧ Bk (pe (up (sr b) j)) = false ∧
    ∀ n, I (pe (up (sr b) j)) n = true ↔ (n = up (sr b) j ∨ n = up (sr b) (j - 1)) := by
  obtain ⟨t1, t2, t3, t4, t5, t6, t7⟩ := hT
  have hV := (t6 b hb hB).2.1
  have h1 := t1 (sr b) j hV hj2
  have h2 := t4 (up (sr b) j) h1.1 (by rw [h1.2]; exact hj)
  refine ⟨h2.1, h2.2.1, h2.2.2.1, ?_⟩
  intro n
  rw [h2.2.2.2 n, h1.2, t3 (sr b) j (j-1) hV hj2 (by omega)]

theorem yTr_inj (hT : yTr m I G V ht up pe Bk sr lo) {b j j' : Nat} (hb : b < m) (hB : Bk b = true) (hj : 0 < j) (hj2 : j ≤ ht (sr b))
    (hj' : 0 < j') (hj2' : j' ≤ ht (sr b)) (h : pe (up (sr b) j) = pe (up (sr b) j')) : j = j' := by
  obtain ⟨t1, t2, t3, t4, t5, t6, t7⟩ := hT
  have hV := (t6 b hb hB).2.1
  have h1 := t1 (sr b) j hV hj2
  have h2 := t1 (sr b) j' hV hj2'
  have h3 := t5 _ _ h1.1 h2.1 (by rw [h1.2]; exact hj) (by rw [h2.2]; exact hj') h
  rw [← h1.2, h3, h2.2]

theorem yFc_G (hT : yTr m I G V ht up pe Bk sr lo) {b : Nat} (hb : b < m) (hB : Bk b = true) (e : Nat)
    (h : yFc ht up pe sr lo b e = true) : G e = true := by
  rcases (yD_iff _).1 h with h1 | ⟨j, h1, h2, h3⟩
  · rw [h1]; exact (hT.2.2.2.2.2.1 b hb hB).1
  · rw [h3]; exact (yTr_pe hT hb hB (by omega) h2).2.1

-- where an edge of the round meets a node
theorem yFc_at (hT : yTr m I G V ht up pe Bk sr lo) {b : Nat} (hb : b < m) (hB : Bk b = true) (e n : Nat)
    (h : yFc ht up pe sr lo b e = true) (hI : I e n = true) :
    ∃ j, lo b ≤ j ∧ j ≤ ht (sr b) ∧ n = up (sr b) j ∧ ((e = b ∧ (j = lo b ∨ j = ht (sr b))) ∨ (e = pe (up (sr b) j) ∧ lo b < j) ∨
      (e = pe (up (sr b) (j+1)) ∧ j < ht (sr b))) := by
  have hb6 := hT.2.2.2.2.2.1 b hb hB
  rcases (yD_iff _).1 h with h1 | ⟨j, h1, h2, h3⟩
  · rw [h1] at hI
    rcases (hb6.2.2.2 n).1 hI with h4 | h4
    · exact ⟨ht (sr b), by omega, Nat.le_refl _, by rw [hT.2.1 (sr b) hb6.2.1]; exact h4, Or.inl ⟨h1, Or.inr rfl⟩⟩
    · exact ⟨lo b, Nat.le_refl _, by omega, h4, Or.inl ⟨h1, Or.inl rfl⟩⟩
  · rw [h3] at hI
    rcases ((yTr_pe hT hb hB (by omega) h2).2.2.2 n).1 hI with h4 | h4
    · exact ⟨j, by omega, h2, h4, Or.inr (Or.inl ⟨h3, h1⟩)⟩
    · exact ⟨j-1, by omega, by omega, h4, Or.inr (Or.inr ⟨by rw [h3]; congr 2; omega, by omega⟩)⟩

-- two edges at a node on the round
theorem yFc_two (hT : yTr m I G V ht up pe Bk sr lo) {b : Nat} (hb : b < m) (hB : Bk b = true) (j : Nat) (h1 : lo b ≤ j) (h2 : j ≤ ht (sr b)) :
    ∃ e1 e2, e1 ≠ e2 ∧ e1 < m ∧ e2 < m ∧ yFc ht up pe sr lo b e1 = true ∧ yFc ht up pe sr lo b e2 = true ∧
      I e1 (up (sr b) j) = true ∧ I e2 (up (sr b) j) = true ∧
      (e1 = if j = lo b then b else pe (up (sr b) j)) ∧ (e2 = if j = ht (sr b) then b else pe (up (sr b) (j+1))) ∧
      ∀ e, yFc ht up pe sr lo b e = true → I e (up (sr b) j) = true → e = e1 ∨ e = e2 := by
  have hb6 := hT.2.2.2.2.2.1 b hb hB
  have hbk : ∀ j, 0 < j → j ≤ ht (sr b) → pe (up (sr b) j) ≠ b := by
    intro j hj hj2 h
    have := (yTr_pe hT hb hB hj hj2).2.2.1
    rw [h, hB] at this; cases this
  have hIb1 : I b (up (sr b) (ht (sr b))) = true := (hb6.2.2.2 _).2 (Or.inl (hT.2.1 _ hb6.2.1))
  have hIb2 : I b (up (sr b) (lo b)) = true := (hb6.2.2.2 _).2 (Or.inr rfl)
  refine ⟨if j = lo b then b else pe (up (sr b) j), if j = ht (sr b) then b else pe (up (sr b) (j+1)), ?_, ?_, ?_, ?_, ?_, ?_, ?_, rfl, rfl, ?_⟩
  · by_cases a1 : j = lo b
    · have a2 : j ≠ ht (sr b) := by omega
      rw [if_pos a1, if_neg a2]; exact (hbk (j+1) (by omega) (by omega)).symm
    · rw [if_neg a1]
      by_cases a2 : j = ht (sr b)
      · rw [if_pos a2]; exact hbk j (by omega) h2
      · rw [if_neg a2]; intro h
        have := yTr_inj hT hb hB (by omega) h2 (by omega) (by omega) h
        omega
  · by_cases a1 : j = lo b
    · rw [if_pos a1]; exact hb
    · rw [if_neg a1]; exact (yTr_pe hT hb hB (by omega) h2).1
  · by_cases a2 : j = ht (sr b)
    · rw [if_pos a2]; exact hb
    · rw [if_neg a2]; exact (yTr_pe hT hb hB (by omega) (by omega)).1
  · by_cases a1 : j = lo b
    · rw [if_pos a1]; exact yFc_b ..
    · rw [if_neg a1]; exact yFc_t (by omega) h2
  · by_cases a2 : j = ht (sr b)
    · rw [if_pos a2]; exact yFc_b ..
    · rw [if_neg a2]; exact yFc_t (by omega) (by omega)
  · by_cases a1 : j = lo b
    · rw [if_pos a1, a1]; exact hIb2
    · rw [if_neg a1]; exact ((yTr_pe hT hb hB (by omega) h2).2.2.2 _).2 (Or.inl rfl)
  · by_cases a2 : j = ht (sr b)
    · rw [if_pos a2, a2]; exact hIb1
    · rw [if_neg a2]; exact ((yTr_pe hT hb hB (by omega) (by omega)).2.2.2 _).2 (Or.inr (by simp))
  · intro e he hI
    obtain ⟨i, i1, i2, i3, i4⟩ := yFc_at hT hb hB e _ he hI
    have hij : j = i := by
      have c1 := (hT.1 (sr b) j hb6.2.1 h2).2
      have c2 := (hT.1 (sr b) i hb6.2.1 i2).2
      rw [← c1, i3, c2]
    rw [← hij] at i4
    rcases i4 with ⟨d1, d2⟩ | ⟨d1, d2⟩ | ⟨d1, d2⟩
    · rcases d2 with d2 | d2
      · left; rw [if_pos d2]; exact d1
      · right; rw [if_pos d2]; exact d1
    · left; rw [if_neg (by omega)]; exact d1
    · right; rw [if_neg (by omega)]; exact d1

theorem yFc_even (hT : yTr m I G V ht up pe Bk sr lo) {b : Nat} (hb : b < m) (hB : Bk b = true) : yEv m I (yFc ht up pe sr lo b) := by
  rw [yEv_iff]
  intro n
  by_cases hn : ∃ j, lo b ≤ j ∧ j ≤ ht (sr b) ∧ n = up (sr b) j
  · obtain ⟨j, h1, h2, h3⟩ := hn
    obtain ⟨e1, e2, a1, a2, a3, a4, a5, a6, a7, _, _, a8⟩ := yFc_two hT hb hB j h1 h2
    rw [h3, yDg_two m I _ _ e1 e2 a2 a3 a1 a6 a7]
    · rw [a4, a5]; rfl
    · intro e he hI h4 h5
      cases h6 : yFc ht up pe sr lo b e with
      | false => rfl
      | true => rcases a8 e h6 hI with h7 | h7 <;> contradiction
  · apply yDg_false
    intro e he hI
    cases h6 : yFc ht up pe sr lo b e with
    | false => rfl
    | true =>
      obtain ⟨i, i1, i2, i3, _⟩ := yFc_at hT hb hB e _ h6 hI
      exact absurd ⟨i, i1, i2, i3⟩ hn

-- colours along the round of a back edge
theorem yWalk {L : Type} {s t : Nat → L} (hT : yTr m I G V ht up pe Bk sr lo) (hE : yDs m I G (fun _ => false) s t)
    {b : Nat} (hb : b < m) (hB : Bk b = true) (k : L → Bool) (j : Nat) (h1 : lo b ≤ j) (h2 : j ≤ ht (sr b))
    (hk : ∀ e, e < m → G e = true → I e (up (sr b) j) = true → k (t e) = k (s e)) :
    k (t (if j = lo b then b else pe (up (sr b) j))) = k (t (if j = ht (sr b) then b else pe (up (sr b) (j+1)))) := by
  obtain ⟨e1, e2, a1, a2, a3, a4, a5, a6, a7, a9, a10, a8⟩ := yFc_two hT hb hB j h1 h2
  rw [← a9, ← a10]
  refine yDs_colorw hE k (up (sr b) j) ?_ (yFc ht up pe sr lo b) (fun e _ h => yFc_G hT hb hB e h) (yFc_even hT hb hB) e1 e2 a2 a3 a6 a7 a4 a5
    (fun e _ h hI => a8 e h hI)
  intro e he hg hI
  rw [hk e he hg hI]; simp

theorem yChain {L : Type} {s t : Nat → L} (hT : yTr m I G V ht up pe Bk sr lo) (hE : yDs m I G (fun _ => false) s t)
    {b : Nat} (hb : b < m) (hB : Bk b = true) (k : L → Bool) (i d : Nat) (h1 : lo b < i) (h2 : i + d ≤ ht (sr b))
    (hk : ∀ j, i ≤ j → j < i + d → ∀ e, e < m → G e = true → I e (up (sr b) j) = true → k (t e) = k (s e)) :
    k (t (pe (up (sr b) i))) = k (t (pe (up (sr b) (i + d)))) := by
  induction d with
  | zero => rfl
  | succ d ih =>
    rw [ih (by omega) (fun j a1 a2 => hk j a1 (by omega))]
    have := yWalk hT hE hb hB k (i + d) (by omega) (by omega) (hk (i+d) (by omega) (by omega))
    rw [if_neg (by omega), if_neg (by omega)] at this
    exact this

theorem yWalk_top {L : Type} {s t : Nat → L} (hT : yTr m I G V ht up pe Bk sr lo) (hE : yDs m I G (fun _ => false) s t)
    {b : Nat} (hb : b < m) (hB : Bk b = true) (k : L → Bool) (i : Nat) (h1 : lo b < i) (h2 : i ≤ ht (sr b))
    (hk : ∀ j, i ≤ j → j ≤ ht (sr b) → ∀ e, e < m → G e = true → I e (up (sr b) j) = true → k (t e) = k (s e)) :
    k (t (pe (up (sr b) i))) = k (t b) := by
  have h3 := yChain hT hE hb hB k i (ht (sr b) - i) h1 (by omega) (fun j a1 a2 => hk j a1 (by omega))
  rw [h3]
  have h4 : i + (ht (sr b) - i) = ht (sr b) := by omega
  rw [h4]
  have := yWalk hT hE hb hB k (ht (sr b)) (by omega) (Nat.le_refl _) (hk _ h2 (Nat.le_refl _))
  rw [if_neg (by omega), if_pos rfl] at this
  exact this

theorem yWalk_low {L : Type} {s t : Nat → L} (hT : yTr m I G V ht up pe Bk sr lo) (hE : yDs m I G (fun _ => false) s t)
    {b : Nat} (hb : b < m) (hB : Bk b = true) (k : L → Bool) (i : Nat) (h1 : lo b < i) (h2 : i ≤ ht (sr b))
    (hk : ∀ j, lo b ≤ j → j < i → ∀ e, e < m → G e = true → I e (up (sr b) j) = true → k (t e) = k (s e)) :
    k (t b) = k (t (pe (up (sr b) i))) := by
  have := yWalk hT hE hb hB k (lo b) (Nat.le_refl _) (by omega) (hk _ (Nat.le_refl _) h1)
  rw [if_pos rfl, if_neg (by omega)] at this
  rw [this]
  have h3 := yChain hT hE hb hB k (lo b + 1) (i - (lo b + 1)) (by omega) (by omega) (fun j a1 a2 => hk j (by omega) (by omega))
  rw [h3]
  congr 4
  omega
end
section
variable {m : Nat} {I : Nat → Nat → Bool} {G : Nat → Bool} {V : Nat → Prop} {ht : Nat → Nat} {up : Nat → Nat → Nat} {pe : Nat → Nat}
  {Bk : Nat → Bool} {sr lo : Nat → Nat}

-- back edges that come from v or above it and end below it
def yR (m : Nat) (ht : Nat → Nat) (up : Nat → Nat → Nat) (Bk : Nat → Bool) (sr lo : Nat → Nat) (v b : Nat) : Prop :=
  b < m ∧ Bk b = true ∧ ht v ≤ ht (sr b) ∧ up (sr b) (ht v) = v ∧ lo b < ht v

-- the edge over which they leave v
def yBr (ht : Nat → Nat) (up : Nat → Nat → Nat) (pe sr : Nat → Nat) (v b : Nat) : Nat :=
  if ht v = ht (sr b) then b else pe (up (sr b) (ht v + 1))

-- sides that fit
def yLr (m : Nat) (V : Nat → Prop) (ht : Nat → Nat) (up : Nat → Nat → Nat) (pe : Nat → Nat) (Bk : Nat → Bool) (sr lo : Nat → Nat) (σ : Nat → Bool) : Prop :=
  (∀ v b b' c, V v → yR m ht up Bk sr lo v b → yR m ht up Bk sr lo v b' → yR m ht up Bk sr lo v c →
    yBr ht up pe sr v b = yBr ht up pe sr v b' → yBr ht up pe sr v b ≠ yBr ht up pe sr v c → lo c < lo b → lo c < lo b' → σ b = σ b') ∧
  (∀ v b b' c c', V v → yR m ht up Bk sr lo v b → yR m ht up Bk sr lo v b' → yR m ht up Bk sr lo v c → yR m ht up Bk sr lo v c' →
    yBr ht up pe sr v b = yBr ht up pe sr v c → yBr ht up pe sr v b' = yBr ht up pe sr v c' → yBr ht up pe sr v b ≠ yBr ht up pe sr v b' →
    lo c' < lo b → lo c < lo b' → σ b ≠ σ b')

-- the edges of the round at v
theorem yR_at (hT : yTr m I G V ht up pe Bk sr lo) {v b : Nat} (hR : yR m ht up Bk sr lo v b) (e : Nat) (hI : I e v = true) :
    yFc ht up pe sr lo b e = true ↔ (e = pe v ∨ e = yBr ht up pe sr v b) := by
  obtain ⟨r1, r2, r3, r4, r5⟩ := hR
  obtain ⟨e1, e2, a1, a2, a3, a4, a5, a6, a7, a9, a10, a8⟩ := yFc_two hT r1 r2 (ht v) (by omega) r3
  rw [r4] at a6 a7 a8
  rw [if_neg (by omega), r4] at a9
  have hbr : e2 = yBr ht up pe sr v b := by rw [a10]; rfl
  constructor
  · intro h
    rcases a8 e h hI with h1 | h1
    · exact Or.inl (h1.trans a9)
    · exact Or.inr (h1.trans hbr)
  · intro h
    rcases h with h | h
    · rw [h, ← a9]; exact a4
    · rw [h, ← hbr]; exact a5

-- off the round
theorem yFc_off (hT : yTr m I G V ht up pe Bk sr lo) {b : Nat} (hb : b < m) (hB : Bk b = true) (n : Nat)
    (hn : ∀ j, lo b ≤ j → j ≤ ht (sr b) → n ≠ up (sr b) j) (e : Nat) (hI : I e n = true) : yFc ht up pe sr lo b e = false := by
  cases h6 : yFc ht up pe sr lo b e with
  | false => rfl
  | true =>
    obtain ⟨i, i1, i2, i3, _⟩ := yFc_at hT hb hB e _ h6 hI
    exact absurd i3 (hn i i1 i2)

-- nodes above v in another branch are off the round
theorem yR_other (hT : yTr m I G V ht up pe Bk sr lo) {v b c : Nat} (hRb : yR m ht up Bk sr lo v b) (hRc : yR m ht up Bk sr lo v c)
    (hbr : yBr ht up pe sr v b ≠ yBr ht up pe sr v c) (j : Nat) (hj : ht v < j) (hj2 : j ≤ ht (sr c)) (i : Nat) (hi : i ≤ ht (sr b)) :
    up (sr c) j ≠ up (sr b) i := by
  obtain ⟨r1, r2, r3, r4, r5⟩ := hRb
  obtain ⟨q1, q2, q3, q4, q5⟩ := hRc
  have hVb := (hT.2.2.2.2.2.1 b r1 r2).2.1
  have hVc := (hT.2.2.2.2.2.1 c q1 q2).2.1
  intro h
  have c1 := (hT.1 (sr c) j hVc hj2).2
  have c2 := (hT.1 (sr b) i hVb hi).2
  have hij : j = i := by rw [← c1, h, c2]
  apply hbr
  unfold yBr
  rw [if_neg (by omega), if_neg (by omega)]
  have e1 := hT.2.2.1 (sr c) j (ht v + 1) hVc hj2 (by omega)
  have e2 := hT.2.2.1 (sr b) i (ht v + 1) hVb hi (by omega)
  rw [← e1, ← e2, h]

-- nodes lower than the end are off the round
theorem yR_lower (hT : yTr m I G V ht up pe Bk sr lo) {b : Nat} (hb : b < m) (hB : Bk b = true) {q j : Nat} (hV : V q) (hj : j ≤ ht q) (hl : j < lo b)
    (i : Nat) (hi : lo b ≤ i) (hi2 : i ≤ ht (sr b)) : up q j ≠ up (sr b) i := by
  have hVb := (hT.2.2.2.2.2.1 b hb hB).2.1
  intro h
  have c1 := (hT.1 q j hV hj).2
  have c2 := (hT.1 (sr b) i hVb hi2).2
  rw [h, c2] at c1
  omega

-- the way below v is the same
theorem yR_up (hT : yTr m I G V ht up pe Bk sr lo) {v b : Nat} (hR : yR m ht up Bk sr lo v b) (j : Nat) (hj : j ≤ ht v) : up (sr b) j = up v j := by
  obtain ⟨r1, r2, r3, r4, r5⟩ := hR
  have hVb := (hT.2.2.2.2.2.1 b r1 r2).2.1
  have := hT.2.2.1 (sr b) (ht v) j hVb r3 hj
  rw [r4] at this
  exact this.symm

-- from a labelling: sides that fit
theorem yLr_of {L : Type} {s t : Nat → L} (hT : yTr m I G V ht up pe Bk sr lo) (hE : yDs m I G (fun _ => false) s t) :
    ∃ σ, yLr m V ht up pe Bk sr lo σ := by
  have t1 := hT.1
  have t2 := hT.2.1
  have t3 := hT.2.2.1
  have t6 := hT.2.2.2.2.2.1
  -- colours of the rounds, 0 just below the end
  have hc : ∀ b, ∃ c : L → Bool, b < m → Bk b = true → (∀ e, e < m → G e = true → yFc ht up pe sr lo b e = Bool.xor (c (t e)) (c (s e))) ∧
      (0 < lo b → c (t (pe (up (sr b) (lo b)))) = false) := by
    intro b
    by_cases hb : b < m ∧ Bk b = true
    · obtain ⟨c, hc⟩ := hE.2 (yFc ht up pe sr lo b) (fun e _ h => yFc_G hT hb.1 hb.2 e h) (yFc_even hT hb.1 hb.2)
      by_cases h0 : c (t (pe (up (sr b) (lo b)))) = false
      · refine ⟨c, fun _ _ => ⟨fun e he hg => ?_, fun _ => h0⟩⟩
        rw [hc e he hg]; simp
      · refine ⟨fun l => !c l, fun _ _ => ⟨fun e he hg => ?_, fun _ => ?_⟩⟩
        · rw [hc e he hg]; dsimp only; cases c (t e) <;> cases c (s e) <;> rfl
        · dsimp only; revert h0; cases c (t (pe (up (sr b) (lo b)))) <;> simp
    · exact ⟨fun _ => false, fun h1 h2 => absurd ⟨h1, h2⟩ hb⟩
  obtain ⟨c, hc⟩ := yChoice hc
  -- no edge of the round: one colour
  have hc0 : ∀ b e, b < m → Bk b = true → e < m → G e = true → yFc ht up pe sr lo b e = false → c b (t e) = c b (s e) := by
    intro b e hb hB he hg h
    have := (hc b hb hB).1 e he hg
    rw [h] at this
    revert this; cases c b (t e) <;> cases c b (s e) <;> simp
  have hc1 : ∀ b e, b < m → Bk b = true → e < m → G e = true → yFc ht up pe sr lo b e = true → c b (t e) = !c b (s e) := by
    intro b e hb hB he hg h
    have := (hc b hb hB).1 e he hg
    rw [h] at this
    revert this; cases c b (t e) <;> cases c b (s e) <;> simp
  -- the turn at a node of the tree
  have hτ : ∀ u, ∃ k : Bool, ∀ b, b < m → Bk b = true → ht u ≤ ht (sr b) → up (sr b) (ht u) = u → lo b + 1 < ht u →
      Bool.xor (c b (s (pe u))) (c b (s (pe (up u (ht u - 1))))) = k := by
    intro u
    by_cases hex : ∃ b, b < m ∧ Bk b = true ∧ ht u ≤ ht (sr b) ∧ up (sr b) (ht u) = u ∧ lo b + 1 < ht u
    · obtain ⟨b0, g1, g2, g3, g4, g5⟩ := hex
      refine ⟨Bool.xor (c b0 (s (pe u))) (c b0 (s (pe (up u (ht u - 1))))), ?_⟩
      intro b f1 f2 f3 f4 f5
      -- the node below u
      have e0 : up (sr b0) (ht u - 1) = up u (ht u - 1) := by
        have := t3 (sr b0) (ht u) (ht u - 1) (t6 b0 g1 g2).2.1 g3 (by omega)
        rw [g4] at this; exact this.symm
      have e1 : up (sr b) (ht u - 1) = up u (ht u - 1) := by
        have := t3 (sr b) (ht u) (ht u - 1) (t6 b f1 f2).2.1 f3 (by omega)
        rw [f4] at this; exact this.symm
      have hhu : ht u - 1 + 1 = ht u := by omega
      have hiff : ∀ b, b < m → Bk b = true → ht u ≤ ht (sr b) → up (sr b) (ht u) = u → lo b + 1 < ht u →
          ∀ e, I e (up u (ht u - 1)) = true → (yFc ht up pe sr lo b e = true ↔ (e = pe (up u (ht u - 1)) ∨ e = pe u)) := by
        intro b f1 f2 f3 f4 f5 e hI
        have e1 : up (sr b) (ht u - 1) = up u (ht u - 1) := by
          have := t3 (sr b) (ht u) (ht u - 1) (t6 b f1 f2).2.1 f3 (by omega)
          rw [f4] at this; exact this.symm
        obtain ⟨a, a', a1, a2, a3, a4, a5, a6, a7, a9, a10, a8⟩ := yFc_two hT f1 f2 (ht u - 1) (by omega) (by omega)
        rw [e1] at a6 a7 a8
        rw [if_neg (by omega), e1] at a9
        rw [if_neg (by omega), hhu, f4] at a10
        constructor
        · intro h
          rcases a8 e h hI with h1 | h1
          · exact Or.inl (h1.trans a9)
          · exact Or.inr (h1.trans a10)
        · intro h
          rcases h with h | h
          · rw [h, ← a9]; exact a4
          · rw [h, ← a10]; exact a5
      have hw := yWalk hT hE g1 g2 (fun l => Bool.xor (c b l) (c b0 l)) (ht u - 1) (by omega) (by omega) (by
        intro e he hg hI
        rw [e0] at hI
        have h1 := hiff b f1 f2 f3 f4 f5 e hI
        have h2 := hiff b0 g1 g2 g3 g4 g5 e hI
        cases h3 : yFc ht up pe sr lo b e with
        | true =>
          have h4 : yFc ht up pe sr lo b0 e = true := h2.2 (h1.1 h3)
          rw [hc1 b e f1 f2 he hg h3, hc1 b0 e g1 g2 he hg h4]
          cases c b (s e) <;> cases c b0 (s e) <;> rfl
        | false =>
          have h4 : yFc ht up pe sr lo b0 e = false := by
            cases h5 : yFc ht up pe sr lo b0 e with
            | false => rfl
            | true => rw [h1.2 (h2.1 h5)] at h3; cases h3
          rw [hc0 b e f1 f2 he hg h3, hc0 b0 e g1 g2 he hg h4])
      rw [if_neg (by omega), if_neg (by omega), hhu, g4, e0] at hw
      -- both edges lie on both rounds
      have hIu := (yTr_pe hT g1 g2 (j := ht u) (by omega) g3)
      rw [g4] at hIu
      have hIp := (yTr_pe hT g1 g2 (j := ht u - 1) (by omega) (by omega))
      rw [e0] at hIp
      have m1 : yFc ht up pe sr lo b (pe u) = true := by have := yFc_t (ht := ht) (up := up) (pe := pe) (sr := sr) (lo := lo) (b := b) (j := ht u) (by omega) f3; rw [f4] at this; exact this
      have m2 : yFc ht up pe sr lo b0 (pe u) = true := by have := yFc_t (ht := ht) (up := up) (pe := pe) (sr := sr) (lo := lo) (b := b0) (j := ht u) (by omega) g3; rw [g4] at this; exact this
      have m3 : yFc ht up pe sr lo b (pe (up u (ht u - 1))) = true := by have := yFc_t (ht := ht) (up := up) (pe := pe) (sr := sr) (lo := lo) (b := b) (j := ht u - 1) (by omega) (by omega); rw [e1] at this; exact this
      have m4 : yFc ht up pe sr lo b0 (pe (up u (ht u - 1))) = true := by have := yFc_t (ht := ht) (up := up) (pe := pe) (sr := sr) (lo := lo) (b := b0) (j := ht u - 1) (by omega) (by omega); rw [e0] at this; exact this
      rw [hc1 b _ f1 f2 hIp.1 hIp.2.1 m3, hc1 b0 _ g1 g2 hIp.1 hIp.2.1 m4, hc1 b _ f1 f2 hIu.1 hIu.2.1 m1, hc1 b0 _ g1 g2 hIu.1 hIu.2.1 m2] at hw
      revert hw
      cases c b (s (pe u)) <;> cases c b0 (s (pe u)) <;> cases c b (s (pe (up u (ht u - 1)))) <;> cases c b0 (s (pe (up u (ht u - 1)))) <;> simp
    · exact ⟨false, fun b f1 f2 f3 f4 f5 => absurd ⟨b, f1, f2, f3, f4, f5⟩ hex⟩
  obtain ⟨τ, hτ⟩ := yChoice hτ
  -- sides
  have hσ : ∀ b d, b < m → Bk b = true → lo b < ht (sr b) - d →
      Bool.xor (c b (s (pe (sr b)))) (yX (ht (sr b)) (fun j => τ (up (sr b) (j+1)))) =
      Bool.xor (c b (s (pe (up (sr b) (ht (sr b) - d))))) (yX (ht (sr b) - d) (fun j => τ (up (sr b) (j+1)))) := by
    intro b d hb hB
    induction d with
    | zero => intro _; rw [Nat.sub_zero, t2 _ (t6 b hb hB).2.1]
    | succ d ih =>
      intro hd
      rw [ih (by omega)]
      obtain ⟨k, hk⟩ : ∃ k, ht (sr b) - d = k + 1 := ⟨ht (sr b) - d - 1, by omega⟩
      have hk2 : ht (sr b) - (d+1) = k := by omega
      rw [hk, hk2]
      have hV := (t6 b hb hB).2.1
      have hh := (t1 (sr b) (k+1) hV (by omega))
      have h1 := hτ (up (sr b) (k+1)) b hb hB (by rw [hh.2]; omega) (by rw [hh.2]) (by rw [hh.2]; omega)
      rw [hh.2, t3 (sr b) (k+1) (k+1-1) hV (by omega) (by omega)] at h1
      simp only [Nat.add_sub_cancel] at h1
      simp only [yX]
      rw [← h1]
      cases c b (s (pe (up (sr b) (k+1)))) <;> cases c b (s (pe (up (sr b) k))) <;> cases yX k (fun j => τ (up (sr b) (j+1))) <;> rfl
  refine ⟨fun b => Bool.xor (c b (s (pe (sr b)))) (yX (ht (sr b)) (fun j => τ (up (sr b) (j+1)))), ?_, ?_⟩
  all_goals (
    have hside : ∀ v b, yR m ht up Bk sr lo v b → Bool.xor (c b (s (pe (sr b)))) (yX (ht (sr b)) (fun j => τ (up (sr b) (j+1)))) =
        Bool.xor (c b (s (pe v))) (yX (ht v) (fun j => τ (up v (j+1)))) := by
      intro v b hR
      have hR' := hR
      obtain ⟨r1, r2, r3, r4, r5⟩ := hR'
      have h1 := hσ b (ht (sr b) - ht v) r1 r2 (by omega)
      have h2 : ht (sr b) - (ht (sr b) - ht v) = ht v := by omega
      rw [h1, h2, r4]
      congr 1
      apply yX_congr
      intro j hj
      rw [yR_up hT hR (j+1) (by omega)])
  · -- one side
    have hmain : ∀ v b b' d, V v → yR m ht up Bk sr lo v b → yR m ht up Bk sr lo v b' → yR m ht up Bk sr lo v d →
        yBr ht up pe sr v b = yBr ht up pe sr v b' → yBr ht up pe sr v b ≠ yBr ht up pe sr v d → lo d < lo b → lo b ≤ lo b' → c b (s (pe v)) = c b' (s (pe v)) := by
      intro v b b' d hVv hRb hRb' hRd hbr hbd hlo hle
      obtain ⟨r1, r2, r3, r4, r5⟩ := hRb
      obtain ⟨r1', r2', r3', r4', r5'⟩ := hRb'
      obtain ⟨q1, q2, q3, q4, q5⟩ := hRd
      have hRb : yR m ht up Bk sr lo v b := ⟨r1, r2, r3, r4, r5⟩
      have hRb' : yR m ht up Bk sr lo v b' := ⟨r1', r2', r3', r4', r5'⟩
      have hRd : yR m ht up Bk sr lo v d := ⟨q1, q2, q3, q4, q5⟩
      have hVd := (t6 d q1 q2).2.1
      -- colour of the sum on nodes off both
      have hoff : ∀ n, (∀ j, lo b ≤ j → j ≤ ht (sr b) → n ≠ up (sr b) j) → (∀ j, lo b' ≤ j → j ≤ ht (sr b') → n ≠ up (sr b') j) →
          ∀ e, e < m → G e = true → I e n = true → Bool.xor (c b (t e)) (c b' (t e)) = Bool.xor (c b (s e)) (c b' (s e)) := by
        intro n h1 h2 e he hg hI
        rw [hc0 b e r1 r2 he hg (yFc_off hT r1 r2 n h1 e hI), hc0 b' e r1' r2' he hg (yFc_off hT r1' r2' n h2 e hI)]
      have hatv : ∀ e, e < m → G e = true → I e v = true → Bool.xor (c b (t e)) (c b' (t e)) = Bool.xor (c b (s e)) (c b' (s e)) := by
        intro e he hg hI
        have h1 := yR_at hT hRb e hI
        have h2 := yR_at hT hRb' e hI
        rw [← hbr] at h2
        cases h3 : yFc ht up pe sr lo b e with
        | true =>
          rw [hc1 b e r1 r2 he hg h3, hc1 b' e r1' r2' he hg (h2.2 (h1.1 h3))]
          cases c b (s e) <;> cases c b' (s e) <;> rfl
        | false =>
          have h4 : yFc ht up pe sr lo b' e = false := by
            cases h5 : yFc ht up pe sr lo b' e with
            | false => rfl
            | true => rw [h1.2 (h2.1 h5)] at h3; cases h3
          rw [hc0 b e r1 r2 he hg h3, hc0 b' e r1' r2' he hg h4]
      have w1 := yWalk_top hT hE q1 q2 (fun l => Bool.xor (c b l) (c b' l)) (ht v) q5 q3 (by
        intro j hj1 hj2 e he hg hI
        by_cases hjv : j = ht v
        · rw [hjv, q4] at hI; exact hatv e he hg hI
        · refine hoff (up (sr d) j) ?_ ?_ e he hg hI
          · intro i _ hi2; exact yR_other hT hRb hRd hbd j (by omega) hj2 i hi2
          · intro i _ hi2; exact yR_other hT hRb' hRd (by rw [← hbr]; exact hbd) j (by omega) hj2 i hi2)
      have w2 := yWalk_low hT hE q1 q2 (fun l => Bool.xor (c b l) (c b' l)) (lo b) hlo (by omega) (by
        intro j hj1 hj2 e he hg hI
        refine hoff (up (sr d) j) ?_ ?_ e he hg hI
        · intro i hi1 hi2; exact yR_lower hT r1 r2 hVd (by omega) hj2 i hi1 hi2
        · intro i hi1 hi2; exact yR_lower hT r1' r2' hVd (by omega) (by omega) i hi1 hi2)
      -- just below the end both are 0
      have hz1 : c b (t (pe (up (sr d) (lo b)))) = false := by
        have := (hc b r1 r2).2 (by omega)
        rw [yR_up hT hRb (lo b) (by omega)] at this
        rw [yR_up hT hRd (lo b) (by omega)]
        exact this
      have hz2 : c b' (t (pe (up (sr d) (lo b)))) = false := by
        have h1 := yChain hT hE q1 q2 (c b') (lo b) (lo b' - lo b) hlo (by omega) (by
          intro j hj1 hj2 e he hg hI
          exact hc0 b' e r1' r2' he hg (yFc_off hT r1' r2' _ (fun i hi1 hi2 => yR_lower hT r1' r2' hVd (by omega) (by omega) i hi1 hi2) e hI))
        rw [h1]
        have h2 : lo b + (lo b' - lo b) = lo b' := by omega
        rw [h2]
        have := (hc b' r1' r2').2 (by omega)
        rw [yR_up hT hRb' (lo b') (by omega)] at this
        rw [yR_up hT hRd (lo b') (by omega)]
        exact this
      rw [q4] at w1
      rw [hz1, hz2] at w2
      rw [w2] at w1
      have hpv := yTr_pe hT q1 q2 (j := ht v) (by omega) q3
      rw [q4] at hpv
      have h3 := hatv (pe v) hpv.1 hpv.2.1 ((hpv.2.2.2 v).2 (Or.inl rfl))
      rw [w1] at h3
      revert h3
      cases c b (s (pe v)) <;> cases c b' (s (pe v)) <;> simp
    intro v b b' d hVv hRb hRb' hRd hbr hbd h1 h2
    dsimp only
    rw [hside v b hRb, hside v b' hRb']
    congr 1
    by_cases hle : lo b ≤ lo b'
    · exact hmain v b b' d hVv hRb hRb' hRd hbr hbd h1 hle
    · exact (hmain v b' b d hVv hRb' hRb hRd hbr.symm (by rw [← hbr]; exact hbd) h2 (by omega)).symm
  · -- other sides
    have hzero : ∀ v b d, yR m ht up Bk sr lo v b → yR m ht up Bk sr lo v d → yBr ht up pe sr v b ≠ yBr ht up pe sr v d → lo d < lo b →
        c b (t (yBr ht up pe sr v d)) = false := by
      intro v b d hRb hRd hbd hlo
      obtain ⟨r1, r2, r3, r4, r5⟩ := hRb
      obtain ⟨q1, q2, q3, q4, q5⟩ := hRd
      have hRb : yR m ht up Bk sr lo v b := ⟨r1, r2, r3, r4, r5⟩
      have hRd : yR m ht up Bk sr lo v d := ⟨q1, q2, q3, q4, q5⟩
      have hVd := (t6 d q1 q2).2.1
      have w2 := yWalk_low hT hE q1 q2 (c b) (lo b) hlo (by omega) (by
        intro j hj1 hj2 e he hg hI
        exact hc0 b e r1 r2 he hg (yFc_off hT r1 r2 _ (fun i hi1 hi2 => yR_lower hT r1 r2 hVd (by omega) hj2 i hi1 hi2) e hI))
      have hz1 : c b (t (pe (up (sr d) (lo b)))) = false := by
        have := (hc b r1 r2).2 (by omega)
        rw [yR_up hT hRb (lo b) (by omega)] at this
        rw [yR_up hT hRd (lo b) (by omega)]
        exact this
      rw [hz1] at w2
      unfold yBr
      by_cases hh : ht v = ht (sr d)
      · rw [if_pos hh]; exact w2
      · rw [if_neg hh]
        rw [yWalk_top hT hE q1 q2 (c b) (ht v + 1) (by omega) (by omega) (by
          intro j hj1 hj2 e he hg hI
          exact hc0 b e r1 r2 he hg (yFc_off hT r1 r2 _ (fun i hi1 hi2 => yR_other hT hRb hRd hbd j (by omega) hj2 i hi2) e hI))]
        exact w2
    intro v b b' d d' hVv hRb hRb' hRd hRd' hbd hbd' hbb h1 h2 hcon
    dsimp only at hcon
    rw [hside v b hRb, hside v b' hRb'] at hcon
    have hsame : c b (s (pe v)) = c b' (s (pe v)) := by
      revert hcon
      cases c b (s (pe v)) <;> cases c b' (s (pe v)) <;> cases yX (ht v) (fun j => τ (up v (j+1))) <;> simp
    have z1 := hzero v b d' hRb hRd' (by rw [← hbd']; exact hbb) h1
    have z2 := hzero v b' d hRb' hRd (by rw [← hbd]; exact Ne.symm hbb) h2
    rw [← hbd'] at z1
    rw [← hbd] at z2
    obtain ⟨r1, r2, r3, r4, r5⟩ := hRb
    obtain ⟨r1', r2', r3', r4', r5'⟩ := hRb'
    have hRb : yR m ht up Bk sr lo v b := ⟨r1, r2, r3, r4, r5⟩
    have hRb' : yR m ht up Bk sr lo v b' := ⟨r1', r2', r3', r4', r5'⟩
    have hpv := yTr_pe hT r1 r2 (j := ht v) (by omega) r3
    rw [r4] at hpv
    have hIv := (hpv.2.2.2 v).2 (Or.inl rfl)
    have hev := (yEv_iff m I _).1 (hE.1 (fun l => c b l && c b' l)) v
    rw [yDg_one m I _ v (pe v) hpv.1 hIv] at hev
    · dsimp only at hev
      rw [hpv.2.1, hc1 b _ r1 r2 hpv.1 hpv.2.1 ((yR_at hT hRb _ hIv).2 (Or.inl rfl)),
        hc1 b' _ r1' r2' hpv.1 hpv.2.1 ((yR_at hT hRb' _ hIv).2 (Or.inl rfl)), hsame] at hev
      revert hev
      cases c b' (s (pe v)) <;> simp
    · intro e he hI hev
      dsimp only
      cases hg : G e with
      | false => rfl
      | true =>
        cases h3 : yFc ht up pe sr lo b e with
        | true =>
          -- the edge of the branch of b
          have h4 : e = yBr ht up pe sr v b := by
            rcases (yR_at hT hRb e hI).1 h3 with h | h
            · exact absurd h hev
            · exact h
          have h5 : yFc ht up pe sr lo b' e = false := by
            cases h6 : yFc ht up pe sr lo b' e with
            | false => rfl
            | true =>
              rcases (yR_at hT hRb' e hI).1 h6 with h | h
              · exact absurd h hev
              · exact absurd (h4.symm.trans h) hbb
          have h7 := hc0 b' e r1' r2' he hg h5
          rw [← h4] at z2
          rw [z2] at h7
          rw [z2, ← h7]; simp
        | false =>
          have h8 := hc0 b e r1 r2 he hg h3
          cases h6 : yFc ht up pe sr lo b' e with
          | true =>
            have h4 : e = yBr ht up pe sr v b' := by
              rcases (yR_at hT hRb' e hI).1 h6 with h | h
              · exact absurd h hev
              · exact h
            rw [← h4] at z1
            rw [z1] at h8
            rw [z1, ← h8]; simp
          | false =>
            rw [h8, hc0 b' e r1' r2' he hg h6]; simp
end
theorem yMin (P : Nat → Prop) (h : ∃ n, P n) : ∃ n, P n ∧ ∀ k, P k → n ≤ k := by
  obtain ⟨n, hn⟩ := h
  have key : ∀ n, P n → ∃ n, P n ∧ ∀ k, P k → n ≤ k := by
    intro n
    induction n using Nat.strongRecOn with
    | ind n ih =>
      intro hn
      by_cases hc : ∃ k, k < n ∧ P k
      · obtain ⟨k, hk, hp⟩ := hc
        exact ih k hk hp
      · refine ⟨n, hn, fun k hk => ?_⟩
        by_cases hlt : k < n
        · exact absurd ⟨k, hlt, hk⟩ hc
        · omega
  exact key n hn

theorem yBound (f : Nat → Nat) (m : Nat) : ∃ H, ∀ b, b < m → f b < H := by
  induction m with
  | zero => exact ⟨0, fun b hb => by omega⟩
  | succ m ih =>
    obtain ⟨H, hH⟩ := ih
    refine ⟨H + f m + 1, fun b hb => ?_⟩
    by_cases h : b = m
    · rw [h]; omega
    · have := hH b (by omega); omega

theorem yLex {m x y e e' : Nat} (he' : e' < m) (h : x * m + e < y * m + e') : x ≤ y := by
  by_cases hc : x ≤ y
  · exact hc
  · exfalso
    have : (y + 1) * m ≤ x * m := Nat.mul_le_mul_right m (by omega)
    rw [Nat.add_mul] at this
    omega

section
variable {m : Nat} {I : Nat → Nat → Bool} {G : Nat → Bool} {V : Nat → Prop} {ht : Nat → Nat} {up : Nat → Nat → Nat} {pe : Nat → Nat}
  {Bk : Nat → Bool} {sr lo : Nat → Nat}

-- sides that fit, and returns to the lowest end on one side
theorem yLr_al (hT : yTr m I G V ht up pe Bk sr lo) (σ : Nat → Bool) (hL : yLr m V ht up pe Bk sr lo σ) :
    ∃ σ', yLr m V ht up pe Bk sr lo σ' ∧ ∀ v b b', V v → yR m ht up Bk sr lo v b → yR m ht up Bk sr lo v b' →
      (∀ d, yR m ht up Bk sr lo v d → lo b ≤ lo d) → (∀ d, yR m ht up Bk sr lo v d → lo b' ≤ lo d) → σ' b = σ' b' := by
  obtain ⟨C, hC⟩ : ∃ C : Nat → Prop, ∀ b, C b ↔ ∃ v c, V v ∧ yR m ht up Bk sr lo v b ∧ yR m ht up Bk sr lo v c ∧
      yBr ht up pe sr v b ≠ yBr ht up pe sr v c ∧ lo c < lo b := ⟨_, fun _ => Iff.rfl⟩
  have hself : ∀ b, C b → (yD (C b) && σ b) = σ b := by intro b h; rw [yD_pos h]; rfl
  refine ⟨fun b => yD (C b) && σ b, ⟨?_, ?_⟩, ?_⟩
  · intro v b b' c hv hb hb' hc h1 h2 h3 h4
    dsimp only
    rw [hself b ((hC b).2 ⟨v, c, hv, hb, hc, h2, h3⟩), hself b' ((hC b').2 ⟨v, c, hv, hb', hc, by rw [← h1]; exact h2, h4⟩)]
    exact hL.1 v b b' c hv hb hb' hc h1 h2 h3 h4
  · intro v b b' c c' hv hb hb' hc hc' h1 h2 h3 h4 h5
    dsimp only
    rw [hself b ((hC b).2 ⟨v, c', hv, hb, hc', by rw [← h2]; exact h3, h4⟩), hself b' ((hC b').2 ⟨v, c, hv, hb', hc, by rw [← h1]; exact Ne.symm h3, h5⟩)]
    exact hL.2 v b b' c c' hv hb hb' hc hc' h1 h2 h3 h4 h5
  · have key : ∀ v b b', V v → yR m ht up Bk sr lo v b → yR m ht up Bk sr lo v b' →
      (∀ d, yR m ht up Bk sr lo v d → lo b ≤ lo d) → (∀ d, yR m ht up Bk sr lo v d → lo b' ≤ lo d) → C b → C b' ∧ σ b = σ b' := by
      intro v b b' hv hb hb' h1 h2 hcb
      obtain ⟨v1, c, hv1, hb1, hc1, hbr, hlo⟩ := (hC b).1 hcb
      have hlob : lo b = lo b' := by have := h1 b' hb'; have := h2 b hb; omega
      have hub := fun j hj => yR_up hT hb j hj
      have hub' := fun j hj => yR_up hT hb' j hj
      have hub1 := fun j hj => yR_up hT hb1 j hj
      have huc1 := fun j hj => yR_up hT hc1 j hj
      by_cases hh : ht v ≤ ht v1
      · exfalso
        have h3 : up v1 (ht v) = v := by rw [← hub1 (ht v) hh]; exact hb.2.2.2.1
        have hcv : yR m ht up Bk sr lo v c := by
          refine ⟨hc1.1, hc1.2.1, Nat.le_trans hh hc1.2.2.1, ?_, ?_⟩
          · rw [huc1 (ht v) hh, h3]
          · have := hb.2.2.2.2; omega
        have := h1 c hcv
        omega
      · have h3 : up v (ht v1) = v1 := by rw [← hub (ht v1) (by omega)]; exact hb1.2.2.2.1
        have hb1' : yR m ht up Bk sr lo v1 b' := by
          refine ⟨hb'.1, hb'.2.1, by have := hb'.2.2.1; omega, ?_, ?_⟩
          · rw [hub' (ht v1) (by omega), h3]
          · rw [← hlob]; exact hb1.2.2.2.2
        have hbr' : yBr ht up pe sr v1 b = yBr ht up pe sr v1 b' := by
          unfold yBr
          have e1 := hb.2.2.1
          have e2 := hb'.2.2.1
          rw [if_neg (by omega), if_neg (by omega), hub _ (by omega), hub' _ (by omega)]
        refine ⟨(hC b').2 ⟨v1, c, hv1, hb1', hc1, by rw [← hbr']; exact hbr, by omega⟩, ?_⟩
        exact hL.1 v1 b b' c hv1 hb1 hb1' hc1 hbr' hbr hlo (by omega)
    intro v b b' hv hb hb' h1 h2
    dsimp only
    by_cases hcb : C b
    · have h3 := key v b b' hv hb hb' h1 h2 hcb
      rw [hself b hcb, hself b' h3.1, h3.2]
    · by_cases hcb' : C b'
      · exact absurd (key v b' b hv hb' hb h2 h1 hcb').1 hcb
      · rw [yD_neg hcb, yD_neg hcb']; rfl

theorem yBr_lt (hT : yTr m I G V ht up pe Bk sr lo) {v b : Nat} (hR : yR m ht up Bk sr lo v b) : yBr ht up pe sr v b < m := by
  unfold yBr
  by_cases h : ht v = ht (sr b)
  · rw [if_pos h]; exact hR.1
  · rw [if_neg h]; exact (yTr_pe hT hR.1 hR.2.1 (by omega) (by have := hR.2.2.1; omega)).1

-- an order in which back edges may be put in
theorem yOrd (hT : yTr m I G V ht up pe Bk sr lo) (kk : Nat → Nat) (hkk : ∀ e e', e < m → e' < m → kk e = kk e' → e = e') :
    ∃ ord : Nat → Nat, (∀ b b', b < m → b' < m → Bk b = true → Bk b' = true → ord b = ord b' → b = b') ∧
      (∀ b b', b < m → b' < m → Bk b = true → Bk b' = true → lo b < lo b' → ord b < ord b') ∧
      (∀ v b b', V v → yR m ht up Bk sr lo v b → yR m ht up Bk sr lo v b' → yBr ht up pe sr v b ≠ yBr ht up pe sr v b' → lo b = lo b' →
        kk (yBr ht up pe sr v b) < kk (yBr ht up pe sr v b') → ord b < ord b') := by
  obtain ⟨M, hM⟩ := yBound kk m
  obtain ⟨H, hH⟩ := yBound (fun b => ht (sr b) + 1) m
  -- digits
  obtain ⟨dg, hdg⟩ : ∃ dg : Nat → Nat → Nat, ∀ b n, dg b n = if n ≤ ht (sr b) then kk (pe (up (sr b) n)) else if n = ht (sr b) + 1 then kk b else 0 := ⟨_, fun _ _ => rfl⟩
  obtain ⟨P, hP0, hP1⟩ : ∃ P : Nat → Nat → Nat, (∀ b, P b 0 = 0) ∧ ∀ b n, P b (n+1) = P b n * M + dg b (n+1) := by
    refine ⟨fun b n => Nat.rec 0 (fun n r => r * M + dg b (n+1)) n, fun _ => rfl, fun _ _ => rfl⟩
  have hM0 : ∀ b, b < m → 0 < M := fun b hb => by have := hM b hb; omega
  have hdM : ∀ b n, b < m → Bk b = true → 0 < n → dg b n < M := by
    intro b n hb hB hn
    rw [hdg]
    by_cases h1 : n ≤ ht (sr b)
    · rw [if_pos h1]; exact hM _ (yTr_pe hT hb hB hn h1).1
    · rw [if_neg h1]
      by_cases h2 : n = ht (sr b) + 1
      · rw [if_pos h2]; exact hM b hb
      · rw [if_neg h2]; exact hM0 b hb
  have hPlt : ∀ b n, b < m → Bk b = true → P b n < M ^ n := by
    intro b n hb hB
    induction n with
    | zero => rw [hP0]; simp
    | succ n ih =>
      rw [hP1, Nat.pow_succ]
      have h1 := hdM b (n+1) hb hB (by omega)
      have h2 : (P b n + 1) * M ≤ M ^ n * M := Nat.mul_le_mul_right M ih
      rw [Nat.add_mul] at h2
      omega
  -- a smaller digit first
  have hstep : ∀ b b' n, b < m → b' < m → Bk b = true → Bk b' = true → P b n < P b' n → ∀ d, P b (n+d) < P b' (n+d) := by
    intro b b' n hb hb' hB hB' h d
    induction d with
    | zero => exact h
    | succ d ih =>
      rw [← Nat.add_assoc, hP1, hP1]
      have h1 := hdM b (n+d+1) hb hB (by omega)
      have h2 : (P b (n+d) + 1) * M ≤ P b' (n+d) * M := Nat.mul_le_mul_right M ih
      rw [Nat.add_mul] at h2
      omega
  have hPeq : ∀ b b' n, (∀ i, 0 < i → i ≤ n → dg b i = dg b' i) → P b n = P b' n := by
    intro b b' n
    induction n with
    | zero => intro _; rw [hP0, hP0]
    | succ n ih =>
      intro h
      rw [hP1, hP1, ih (fun i h1 h2 => h i h1 (by omega)), h (n+1) (by omega) (by omega)]
  have hfirst : ∀ b b' n, b < m → b' < m → Bk b = true → Bk b' = true → n < H → (∀ i, 0 < i → i ≤ n → dg b i = dg b' i) → dg b (n+1) < dg b' (n+1) →
      P b H < P b' H := by
    intro b b' n hb hb' hB hB' hn h1 h2
    have h3 : P b (n+1) < P b' (n+1) := by rw [hP1, hP1, hPeq b b' n h1]; omega
    have := hstep b b' (n+1) hb hb' hB hB' h3 (H - (n+1))
    have h4 : n + 1 + (H - (n+1)) = H := by omega
    rw [h4] at this; exact this
  refine ⟨fun b => lo b * M ^ H + P b H, ?_, ?_, ?_⟩
  · intro b b' hb hb' hB hB' h
    dsimp only at h
    have hl : P b H = P b' H := by
      have p1 := hPlt b H hb hB
      have p2 := hPlt b' H hb' hB'
      have q1 : lo b ≤ lo b' := by
        by_cases hc : lo b ≤ lo b'
        · exact hc
        · exfalso
          have : (lo b' + 1) * M ^ H ≤ lo b * M ^ H := Nat.mul_le_mul_right _ (by omega)
          rw [Nat.add_mul] at this; omega
      have q2 : lo b' ≤ lo b := by
        by_cases hc : lo b' ≤ lo b
        · exact hc
        · exfalso
          have : (lo b + 1) * M ^ H ≤ lo b' * M ^ H := Nat.mul_le_mul_right _ (by omega)
          rw [Nat.add_mul] at this; omega
      have q3 : lo b = lo b' := by omega
      rw [q3] at h; omega
    -- all digits are the same
    have hall : ∀ n, n < H → (∀ i, 0 < i → i ≤ n → dg b i = dg b' i) := by
      intro n
      induction n with
      | zero => intro _ i h1 h2; omega
      | succ n ih =>
        intro hn i h1 h2
        by_cases hi : i ≤ n
        · exact ih (by omega) i h1 hi
        · have hi' : i = n + 1 := by omega
          rw [hi']
          by_cases hlt : dg b (n+1) < dg b' (n+1)
          · have := hfirst b b' n hb hb' hB hB' (by omega) (ih (by omega)) hlt; omega
          · by_cases hgt : dg b' (n+1) < dg b (n+1)
            · have := hfirst b' b n hb' hb hB' hB (by omega) (fun i h1 h2 => (ih (by omega) i h1 h2).symm) hgt; omega
            · omega
    have hHb := hH b hb
    have hHb' := hH b' hb'
    have hmain : ∀ b b', b < m → b' < m → Bk b = true → Bk b' = true → ht (sr b) + 1 < H → ht (sr b) ≤ ht (sr b') →
        (∀ n, n < H → (∀ i, 0 < i → i ≤ n → dg b i = dg b' i)) → b = b' := by
      intro b b' hb hb' hB hB' h1 h2 h3
      have h4 := h3 (ht (sr b) + 1) h1 (ht (sr b) + 1) (by omega) (Nat.le_refl _)
      rw [hdg, hdg, if_neg (by omega), if_pos rfl] at h4
      by_cases h5 : ht (sr b) + 1 ≤ ht (sr b')
      · exfalso
        rw [if_pos h5] at h4
        have h6 := yTr_pe hT hb' hB' (j := ht (sr b) + 1) (by omega) h5
        have h7 := hkk _ _ hb h6.1 h4
        rw [← h7, hB] at h6
        cases h6.2.2.1
      · rw [if_neg h5, if_pos (by omega)] at h4
        exact hkk _ _ hb hb' h4
    by_cases hle : ht (sr b) ≤ ht (sr b')
    · exact hmain b b' hb hb' hB hB' hHb hle hall
    · exact (hmain b' b hb' hb hB' hB hHb' (by omega) (fun n hn i h1 h2 => (hall n hn i h1 h2).symm)).symm
  · intro b b' hb hb' hB hB' h
    dsimp only
    have p1 := hPlt b H hb hB
    have : (lo b + 1) * M ^ H ≤ lo b' * M ^ H := Nat.mul_le_mul_right _ (by omega)
    rw [Nat.add_mul] at this
    omega
  · intro v b b' hv hb hb' hbr hlo hk
    dsimp only
    rw [hlo]
    have hdbr : ∀ b, yR m ht up Bk sr lo v b → dg b (ht v + 1) = kk (yBr ht up pe sr v b) := by
      intro b hb
      rw [hdg]
      unfold yBr
      have := hb.2.2.1
      by_cases h1 : ht v = ht (sr b)
      · rw [if_neg (by omega), if_pos (by omega), if_pos h1]
      · rw [if_pos (by omega), if_neg h1]
    have := hfirst b b' (ht v) hb.1 hb'.1 hb.2.1 hb'.2.1 (by have := hH b hb.1; have := hb.2.2.1; omega) (by
      intro i h1 h2
      have := hb.2.2.1
      have := hb'.2.2.1
      rw [hdg, hdg, if_pos (by omega), if_pos (by omega), yR_up hT hb i h2, yR_up hT hb' i h2]) (by
      rw [hdbr b hb, hdbr b' hb']; exact hk)
    omega
end
section
variable {m : Nat} {I : Nat → Nat → Bool} {G : Nat → Bool} {V : Nat → Prop} {ht : Nat → Nat} {up : Nat → Nat → Nat} {pe : Nat → Nat}
  {Bk : Nat → Bool} {sr lo : Nat → Nat}

-- the node above v on the way to the beginning of b
theorem yR_above (hT : yTr m I G V ht up pe Bk sr lo) {v b : Nat} (hR : yR m ht up Bk sr lo v b) (h : ht v < ht (sr b)) :
    V (up (sr b) (ht v + 1)) ∧ ht (up (sr b) (ht v + 1)) = ht v + 1 ∧ up (up (sr b) (ht v + 1)) (ht v) = v ∧
    yR m ht up Bk sr lo (up (sr b) (ht v + 1)) b ∧ yBr ht up pe sr v b = pe (up (sr b) (ht v + 1)) := by
  have hV := (hT.2.2.2.2.2.1 b hR.1 hR.2.1).2.1
  have h1 := hT.1 (sr b) (ht v + 1) hV (by omega)
  have h2 := hT.2.2.1 (sr b) (ht v + 1) (ht v) hV (by omega) (by omega)
  refine ⟨h1.1, h1.2, by rw [h2]; exact hR.2.2.2.1, ⟨hR.1, hR.2.1, by rw [h1.2]; omega, by rw [h1.2], by rw [h1.2]; have := hR.2.2.2.2; omega⟩, ?_⟩
  unfold yBr; rw [if_neg (by omega)]

-- a branch leaves one node
theorem yBr_node (hT : yTr m I G V ht up pe Bk sr lo) {v u b d : Nat} (hb : yR m ht up Bk sr lo v b) (hd : yR m ht up Bk sr lo u d)
    (h : yBr ht up pe sr v b = yBr ht up pe sr u d) : v = u := by
  by_cases h1 : ht v < ht (sr b)
  · obtain ⟨a1, a2, a3, a4, a5⟩ := yR_above hT hb h1
    by_cases h2 : ht u < ht (sr d)
    · obtain ⟨c1, c2, c3, c4, c5⟩ := yR_above hT hd h2
      rw [a5, c5] at h
      have h3 := hT.2.2.2.2.1 _ _ a1 c1 (by omega) (by omega) h
      have h4 : ht v = ht u := by rw [h3] at a2; omega
      rw [← a3, ← c3, h3, h4]
    · exfalso
      have h3 : yBr ht up pe sr u d = d := by unfold yBr; rw [if_pos (by have := hd.2.2.1; omega)]
      rw [a5, h3] at h
      have h4 := (hT.2.2.2.1 _ a1 (by omega)).2.2.1
      rw [h, hd.2.1] at h4; cases h4
  · have h3 : yBr ht up pe sr v b = b := by unfold yBr; rw [if_pos (by have := hb.2.2.1; omega)]
    by_cases h2 : ht u < ht (sr d)
    · exfalso
      obtain ⟨c1, c2, c3, c4, c5⟩ := yR_above hT hd h2
      rw [c5, h3] at h
      have h4 := (hT.2.2.2.1 _ c1 (by omega)).2.2.1
      rw [← h, hb.2.1] at h4; cases h4
    · have h4 : yBr ht up pe sr u d = d := by unfold yBr; rw [if_pos (by have := hd.2.2.1; omega)]
      rw [h3, h4] at h
      have e1 : v = sr b := by
        have := hb.2.2.2.1
        have h5 : ht v = ht (sr b) := by have := hb.2.2.1; omega
        rw [h5, hT.2.1 _ (hT.2.2.2.2.2.1 b hb.1 hb.2.1).2.1] at this
        exact this.symm
      have e2 : u = sr d := by
        have := hd.2.2.2.1
        have h5 : ht u = ht (sr d) := by have := hd.2.2.1; omega
        rw [h5, hT.2.1 _ (hT.2.2.2.2.2.1 d hd.1 hd.2.1).2.1] at this
        exact this.symm
      rw [e1, e2, h]

theorem yOrd2 (hT : yTr m I G V ht up pe Bk sr lo) (σ : Nat → Bool) (hL : yLr m V ht up pe Bk sr lo σ)
    (hAl : ∀ v b b', V v → yR m ht up Bk sr lo v b → yR m ht up Bk sr lo v b' →
      (∀ d, yR m ht up Bk sr lo v d → lo b ≤ lo d) → (∀ d, yR m ht up Bk sr lo v d → lo b' ≤ lo d) → σ b = σ b') :
    ∃ ord : Nat → Nat, (∀ b b', b < m → b' < m → Bk b = true → Bk b' = true → ord b = ord b' → b = b') ∧
      (∀ b b', b < m → b' < m → Bk b = true → Bk b' = true → lo b < lo b' → ord b < ord b') ∧
      (∀ u b0 b c, V u → yR m ht up Bk sr lo u b0 → yR m ht up Bk sr lo u b → yR m ht up Bk sr lo u c →
        yBr ht up pe sr u b0 = yBr ht up pe sr u b → (∀ d, yR m ht up Bk sr lo u d → yBr ht up pe sr u d = yBr ht up pe sr u b0 → ord b0 ≤ ord d) →
        σ b0 ≠ σ b → ord b0 ≤ ord c) ∧
      (∀ u b0 b b', V u → yR m ht up Bk sr lo u b0 → yR m ht up Bk sr lo u b → yR m ht up Bk sr lo u b' →
        yBr ht up pe sr u b0 = yBr ht up pe sr u b → (∀ d, yR m ht up Bk sr lo u d → yBr ht up pe sr u d = yBr ht up pe sr u b0 → ord b0 ≤ ord d) →
        yBr ht up pe sr u b' ≠ yBr ht up pe sr u b → ord b0 < ord b' → ord b' < ord b → σ b' ≠ σ b) := by
  -- the lowest end over a branch
  have hlw : ∀ e, ∃ n, (∃ u b, V u ∧ yR m ht up Bk sr lo u b ∧ yBr ht up pe sr u b = e) →
      (∃ u b, V u ∧ yR m ht up Bk sr lo u b ∧ yBr ht up pe sr u b = e ∧ lo b = n) ∧ ∀ u b, V u → yR m ht up Bk sr lo u b → yBr ht up pe sr u b = e → n ≤ lo b := by
    intro e
    by_cases hex : ∃ u b, V u ∧ yR m ht up Bk sr lo u b ∧ yBr ht up pe sr u b = e
    · obtain ⟨n, hn1, hn2⟩ := yMin (fun n => ∃ u b, V u ∧ yR m ht up Bk sr lo u b ∧ yBr ht up pe sr u b = e ∧ lo b = n) (by
        obtain ⟨u, b, h1, h2, h3⟩ := hex
        exact ⟨lo b, u, b, h1, h2, h3, rfl⟩)
      exact ⟨n, fun _ => ⟨hn1, fun u b h1 h2 h3 => hn2 (lo b) ⟨u, b, h1, h2, h3, rfl⟩⟩⟩
    · exact ⟨0, fun h => absurd h hex⟩
  obtain ⟨lw, hlw⟩ := yChoice hlw
  have hlwE : ∀ u b, V u → yR m ht up Bk sr lo u b → ∃ d, yR m ht up Bk sr lo u d ∧ yBr ht up pe sr u d = yBr ht up pe sr u b ∧ lo d = lw (yBr ht up pe sr u b) := by
    intro u b hu hb
    obtain ⟨⟨u', d, h1, h2, h3, h4⟩, _⟩ := hlw (yBr ht up pe sr u b) ⟨u, b, hu, hb, rfl⟩
    have := yBr_node hT h2 hb h3
    rw [this] at h2 h3
    exact ⟨d, h2, h3, h4⟩
  have hlwL : ∀ u b d, V u → yR m ht up Bk sr lo u b → yR m ht up Bk sr lo u d → yBr ht up pe sr u d = yBr ht up pe sr u b → lw (yBr ht up pe sr u b) ≤ lo d := by
    intro u b d hu hb hd h
    exact (hlw (yBr ht up pe sr u b) ⟨u, b, hu, hb, rfl⟩).2 u d hu hd h
  -- one side for the lowest over a branch
  have hAb : ∀ u d d', V u → yR m ht up Bk sr lo u d → yR m ht up Bk sr lo u d' → yBr ht up pe sr u d = yBr ht up pe sr u d' →
      lo d = lw (yBr ht up pe sr u d) → lo d' = lw (yBr ht up pe sr u d) → σ d = σ d' := by
    intro u d d' hu hd hd' hbr h1 h2
    by_cases hh : ht u < ht (sr d)
    · obtain ⟨a1, a2, a3, a4, a5⟩ := yR_above hT hd hh
      by_cases hh' : ht u < ht (sr d')
      · obtain ⟨c1, c2, c3, c4, c5⟩ := yR_above hT hd' hh'
        have hw : up (sr d) (ht u + 1) = up (sr d') (ht u + 1) := by
          apply hT.2.2.2.2.1 _ _ a1 c1 (by omega) (by omega)
          rw [← a5, ← c5, hbr]
        rw [← hw] at c4
        have hmin : ∀ x, yR m ht up Bk sr lo (up (sr d) (ht u + 1)) x → lw (yBr ht up pe sr u d) ≤ lo x := by
          intro x hx
          by_cases hlx : lo x < ht u
          · have hux : yR m ht up Bk sr lo u x := by
              refine ⟨hx.1, hx.2.1, by have := hx.2.2.1; omega, ?_, hlx⟩
              rw [yR_up hT hx (ht u) (by omega)]; exact a3
            apply hlwL u d x hu hd hux
            rw [a5]
            unfold yBr
            have := hx.2.2.1
            rw [if_neg (by omega)]
            have h5 := hx.2.2.2.1
            rw [a2] at h5
            rw [h5]
          · have := hd.2.2.2.2
            omega
        exact hAl _ d d' a1 a4 c4 (fun x hx => by rw [h1]; exact hmin x hx) (fun x hx => by rw [h2]; exact hmin x hx)
      · exfalso
        have h4 : yBr ht up pe sr u d' = d' := by unfold yBr; rw [if_pos (by have := hd'.2.2.1; omega)]
        rw [a5, h4] at hbr
        have h5 := (hT.2.2.2.1 _ a1 (by omega)).2.2.1
        rw [hbr, hd'.2.1] at h5; cases h5
    · have h3 : yBr ht up pe sr u d = d := by unfold yBr; rw [if_pos (by have := hd.2.2.1; omega)]
      by_cases hh' : ht u < ht (sr d')
      · exfalso
        obtain ⟨c1, c2, c3, c4, c5⟩ := yR_above hT hd' hh'
        rw [c5, h3] at hbr
        have h5 := (hT.2.2.2.1 _ c1 (by omega)).2.2.1
        rw [← hbr, hd.2.1] at h5; cases h5
      · have h4 : yBr ht up pe sr u d' = d' := by unfold yBr; rw [if_pos (by have := hd'.2.2.1; omega)]
        rw [h3, h4] at hbr; rw [hbr]
  -- classes
  obtain ⟨C0, hC0⟩ : ∃ C0 : Nat → Prop, ∀ e, C0 e ↔ ∃ u d d0, V u ∧ yR m ht up Bk sr lo u d ∧ yR m ht up Bk sr lo u d0 ∧ yBr ht up pe sr u d = e ∧
      yBr ht up pe sr u d0 = e ∧ lo d0 = lw e ∧ lw e < lo d ∧ σ d ≠ σ d0 := ⟨_, fun _ => Iff.rfl⟩
  obtain ⟨C2, hC2⟩ : ∃ C2 : Nat → Prop, ∀ e, C2 e ↔ ∃ u d, V u ∧ yR m ht up Bk sr lo u d ∧ yBr ht up pe sr u d = e ∧ lw e < lo d := ⟨_, fun _ => Iff.rfl⟩
  obtain ⟨cl, hcl⟩ : ∃ cl : Nat → Nat, ∀ e, cl e = if yD (C0 e) then 0 else if yD (C2 e) then 2 else 1 := ⟨_, fun _ => rfl⟩
  have hcl0 : ∀ e, C0 e → cl e = 0 := fun e h => by rw [hcl, yD_pos h]; rfl
  have hcl2 : ∀ e, ¬ C0 e → C2 e → cl e = 2 := fun e h h2 => by rw [hcl, yD_neg h, yD_pos h2]; rfl
  have hcl1 : ∀ e, cl e = 0 → C0 e := fun e h => by
    by_cases h0 : C0 e
    · exact h0
    · exfalso
      rw [hcl, yD_neg h0] at h
      by_cases h2 : C2 e
      · rw [yD_pos h2] at h; cases h
      · rw [yD_neg h2] at h; cases h
  have hcl3 : ∀ e, 2 ≤ cl e → ¬ C0 e ∧ C2 e := fun e h => by
    by_cases h0 : C0 e
    · rw [hcl0 e h0] at h; omega
    · refine ⟨h0, ?_⟩
      by_cases h2 : C2 e
      · exact h2
      · rw [hcl, yD_neg h0, yD_neg h2] at h
        exfalso; simp at h
  have hcl4 : ∀ e, cl e ≤ 2 := fun e => by
    rw [hcl]
    cases yD (C0 e) <;> cases yD (C2 e) <;> simp
  obtain ⟨kk, hkk⟩ : ∃ kk : Nat → Nat, ∀ e, kk e = (lw e * 3 + cl e) * m + e := ⟨_, fun _ => rfl⟩
  have hk1 : ∀ e e', e < m → e' < m → kk e < kk e' → lw e ≤ lw e' ∧ (lw e = lw e' → cl e ≤ cl e') := by
    intro e e' he he' h
    rw [hkk, hkk] at h
    have h1 := yLex he' h
    have c1 := hcl4 e
    have c2 := hcl4 e'
    constructor
    · omega
    · intro h2; omega
  have hk3 : ∀ e e', e < m → e' < m → kk e = kk e' → e = e' := by
    intro e e' he he' h
    rw [hkk, hkk] at h
    have q1 : lw e * 3 + cl e ≤ lw e' * 3 + cl e' := by
      by_cases hc : lw e * 3 + cl e ≤ lw e' * 3 + cl e'
      · exact hc
      · exfalso
        have : (lw e' * 3 + cl e' + 1) * m ≤ (lw e * 3 + cl e) * m := Nat.mul_le_mul_right m (by omega)
        rw [Nat.add_mul] at this; omega
    have q2 : lw e' * 3 + cl e' ≤ lw e * 3 + cl e := by
      by_cases hc : lw e' * 3 + cl e' ≤ lw e * 3 + cl e
      · exact hc
      · exfalso
        have : (lw e * 3 + cl e + 1) * m ≤ (lw e' * 3 + cl e') * m := Nat.mul_le_mul_right m (by omega)
        rw [Nat.add_mul] at this; omega
    have q3 : lw e * 3 + cl e = lw e' * 3 + cl e' := by omega
    rw [q3] at h; omega
  obtain ⟨ord, o1, o2, o3⟩ := yOrd hT kk hk3
  have o2' : ∀ b b', b < m → b' < m → Bk b = true → Bk b' = true → ord b ≤ ord b' → lo b ≤ lo b' := by
    intro b b' h1 h2 h3 h4 h5
    by_cases h : lo b ≤ lo b'
    · exact h
    · have := o2 b' b h2 h1 h4 h3 (by omega); omega
  have o3' : ∀ u b b', V u → yR m ht up Bk sr lo u b → yR m ht up Bk sr lo u b' → yBr ht up pe sr u b ≠ yBr ht up pe sr u b' → lo b = lo b' → ord b < ord b' →
      kk (yBr ht up pe sr u b) < kk (yBr ht up pe sr u b') := by
    intro u b b' hu hb hb' hbr hlo ho
    by_cases h : kk (yBr ht up pe sr u b) < kk (yBr ht up pe sr u b')
    · exact h
    · exfalso
      have hne : kk (yBr ht up pe sr u b) ≠ kk (yBr ht up pe sr u b') := fun h1 => hbr (hk3 _ _ (yBr_lt hT hb) (yBr_lt hT hb') h1)
      have := o3 u b' b hu hb' hb (Ne.symm hbr) hlo.symm (by omega)
      omega
  have hfirst : ∀ u b0, V u → yR m ht up Bk sr lo u b0 → (∀ d, yR m ht up Bk sr lo u d → yBr ht up pe sr u d = yBr ht up pe sr u b0 → ord b0 ≤ ord d) →
      lo b0 = lw (yBr ht up pe sr u b0) := by
    intro u b0 hu hb0 hmin
    obtain ⟨d, hd1, hd2, hd3⟩ := hlwE u b0 hu hb0
    have h1 := o2' b0 d hb0.1 hd1.1 hb0.2.1 hd1.2.1 (hmin d hd1 hd2)
    have h2 := hlwL u b0 b0 hu hb0 hb0 rfl
    omega
  refine ⟨ord, o1, o2, ?_, ?_⟩
  · intro u b0 b c hu hb0 hb hc hbr hmin hσ
    by_cases hord : ord b0 ≤ ord c
    · exact hord
    · exfalso
      have hlo0 := hfirst u b0 hu hb0 hmin
      have hcbr : yBr ht up pe sr u c ≠ yBr ht up pe sr u b0 := fun h => hord (hmin c hc h)
      have hlob : lw (yBr ht up pe sr u b0) < lo b := by
        have h1 := hlwL u b0 b hu hb0 hb hbr.symm
        by_cases h2 : lo b = lw (yBr ht up pe sr u b0)
        · exact absurd (hAb u b0 b hu hb0 hb hbr hlo0 h2) hσ
        · omega
      -- nothing lower
      have hmin2 : ∀ d, yR m ht up Bk sr lo u d → lo b0 ≤ lo d := by
        intro d hd
        by_cases h1 : yBr ht up pe sr u d = yBr ht up pe sr u b0
        · rw [hlo0]; exact hlwL u b0 d hu hb0 hd h1
        · by_cases h2 : lo b0 ≤ lo d
          · exact h2
          · exact absurd (hL.1 u b0 b d hu hb0 hb hd hbr (Ne.symm h1) (by omega) (by omega)) hσ
      have hloc : lo c = lo b0 := by
        have h1 := hmin2 c hc
        have h2 := o2' c b0 hc.1 hb0.1 hc.2.1 hb0.2.1 (by omega)
        omega
      obtain ⟨d2, hd1, hd2, hd3⟩ := hlwE u c hu hc
      have hlwc : lw (yBr ht up pe sr u c) = lo b0 := by
        have h1 := hmin2 d2 hd1
        have h2 := hlwL u c c hu hc hc rfl
        omega
      have hkc := o3' u c b0 hu hc hb0 hcbr hloc (by omega)
      have hcl' := (hk1 _ _ (yBr_lt hT hc) (yBr_lt hT hb0) hkc).2 (by rw [hlwc, hlo0])
      rw [hcl0 (yBr ht up pe sr u b0) ((hC0 _).2 ⟨u, b, b0, hu, hb, hb0, hbr.symm, rfl, hlo0, hlob, Ne.symm hσ⟩)] at hcl'
      obtain ⟨u', d, d0, a1, a2, a3, a4, a5, a6, a7, a8⟩ := (hC0 _).1 (hcl1 _ (Nat.le_zero.1 hcl'))
      have hu' := yBr_node hT a2 hc a4
      rw [hu'] at a2 a3 a4 a5
      have hs0 : σ b0 = σ d0 := hAl u b0 d0 hu hb0 a3 hmin2 (fun x hx => by rw [a6, hlwc]; exact hmin2 x hx)
      have hO := hL.2 u b d b0 d0 hu hb a2 hb0 a3 hbr.symm (a4.trans a5.symm) (by rw [a4, ← hbr]; exact Ne.symm hcbr) (by omega) (by omega)
      revert hσ a8 hO hs0
      cases σ b <;> cases σ d <;> cases σ b0 <;> cases σ d0 <;> simp
  · intro u b0 b b' hu hb0 hb hb' hbr hmin hne ho1 ho2 hσ
    have hlo0 := hfirst u b0 hu hb0 hmin
    have hl1 := o2' b0 b' hb0.1 hb'.1 hb0.2.1 hb'.2.1 (by omega)
    have hl2 := o2' b' b hb'.1 hb.1 hb'.2.1 hb.2.1 (by omega)
    obtain ⟨d2, hd1, hd2, hd3⟩ := hlwE u b' hu hb'
    have hw' := hlwL u b' b' hu hb' hb' rfl
    have hne0 : yBr ht up pe sr u b0 ≠ yBr ht up pe sr u b' := by rw [hbr]; exact Ne.symm hne
    by_cases hA : lo b ≤ lw (yBr ht up pe sr u b')
    · -- A
      have hk := o3' u b' b hu hb' hb hne (by omega) ho2
      have h1 := (hk1 _ _ (yBr_lt hT hb') (yBr_lt hT hb) hk).1
      rw [← hbr] at h1
      have h2 := hlwL u b0 b hu hb0 hb hbr.symm
      have hk2 := o3' u b0 b' hu hb0 hb' hne0 (by omega) ho1
      rw [hbr] at hk2
      omega
    · by_cases hB : lo b' ≤ lw (yBr ht up pe sr u b0)
      · have hk := o3' u b0 b' hu hb0 hb' hne0 (by omega) ho1
        have h1 := hk1 _ _ (yBr_lt hT hb0) (yBr_lt hT hb') hk
        have hlw2 : lw (yBr ht up pe sr u b0) = lw (yBr ht up pe sr u b') := by have := h1.1; omega
        have hcl' := h1.2 hlw2
        have hlob : lw (yBr ht up pe sr u b0) < lo b := by
          by_cases h2 : lo b = lw (yBr ht up pe sr u b0)
          · exfalso
            have hk2 := o3' u b' b hu hb' hb hne (by omega) ho2
            rw [← hbr] at hk2
            omega
          · have := hlwL u b0 b hu hb0 hb hbr.symm; omega
        have hs0 : σ b0 = σ b := by
          by_cases hmin2 : ∃ c, yR m ht up Bk sr lo u c ∧ lo c < lo b0
          · obtain ⟨c, hc, hlc⟩ := hmin2
            refine hL.1 u b0 b c hu hb0 hb hc hbr ?_ hlc (by omega)
            intro h
            have := hlwL u b0 c hu hb0 hc h.symm
            omega
          · have hm : ∀ x, yR m ht up Bk sr lo u x → lo b0 ≤ lo x := by
              intro x hx
              by_cases h : lo b0 ≤ lo x
              · exact h
              · exact absurd ⟨x, hx, by omega⟩ hmin2
            rw [← hσ]
            exact hAl u b0 b' hu hb0 hb' hm (fun x hx => by have := hm x hx; omega)
        by_cases hc0 : C0 (yBr ht up pe sr u b0)
        · obtain ⟨u', d, d0, a1, a2, a3, a4, a5, a6, a7, a8⟩ := (hC0 _).1 hc0
          have hu' := yBr_node hT a2 hb0 a4
          rw [hu'] at a2 a3 a4 a5
          have hs1 := hAb u b0 d0 hu hb0 a3 a5.symm hlo0 a6
          have hs2 := hL.1 u b d b' hu hb a2 hb' (hbr.symm.trans a4.symm) (Ne.symm hne) (by omega) (by omega)
          revert hs0 hs1 hs2 a8
          cases σ b <;> cases σ d <;> cases σ b0 <;> cases σ d0 <;> simp
        · have h2 := hcl2 _ hc0 ((hC2 _).2 ⟨u, b, hu, hb, hbr.symm, hlob⟩)
          rw [h2] at hcl'
          obtain ⟨hn0, h3⟩ := hcl3 _ hcl'
          obtain ⟨u', d, a1, a2, a3, a4⟩ := (hC2 _).1 h3
          have hu' := yBr_node hT a2 hb' a3
          rw [hu'] at a2 a3
          have hs2 : σ d = σ b' := by
            by_cases h : σ d = σ b'
            · exact h
            · exact absurd ((hC0 _).2 ⟨u, d, b', hu, a2, hb', a3, rfl, by omega, a4, h⟩) hn0
          have hO := hL.2 u b d b0 b' hu hb a2 hb0 hb' hbr.symm a3 (by rw [a3]; exact Ne.symm hne) (by omega) (by omega)
          rw [hs2, hσ] at hO
          exact hO rfl
      · have hO := hL.2 u b b' b0 d2 hu hb hb' hb0 hd1 hbr.symm hd2.symm (Ne.symm hne) (by omega) (by omega)
        exact hO hσ.symm
end
theorem yLab_xor (c : Nat → Bool) (lab : Bool → Nat → Nat) (sd : Bool) (e : Nat) :
    Bool.xor (c (lab true e)) (!false && c (lab false e)) = Bool.xor (c (lab sd e)) (c (lab (!sd) e)) := by
  cases sd
  · show Bool.xor (c (lab true e)) (!false && c (lab false e)) = Bool.xor (c (lab false e)) (c (lab true e))
    cases c (lab true e) <;> cases c (lab false e) <;> rfl
  · show Bool.xor (c (lab true e)) (!false && c (lab false e)) = Bool.xor (c (lab true e)) (c (lab false e))
    cases c (lab true e) <;> cases c (lab false e) <;> rfl

-- one way more, into a face
theorem yInsert {m : Nat} {I : Nat → Nat → Bool} {X : Nat → Bool} (lab : Bool → Nat → Nat)
    (hE : yDs m I X (fun _ => false) (lab false) (lab true)) (sd : Bool) (n l : Nat) (A P : Nat → Bool)
    (hA : ∀ e, e < m → A e = true → X e = true ∧ lab sd e = l) (hP : ∀ e, e < m → P e = true → X e = false)
    (hn : ∀ e x, e < m → X e = true → lab x e ≠ n) (hln : l ≠ n)
    (hev : yEv m I (fun e => A e || P e))
    (hall : ∀ y : Nat → Bool, (∀ e, e < m → y e = true → (X e || P e) = true) → yEv m I y →
      (∀ e, e < m → P e = true → y e = false) ∨ (∀ e, e < m → P e = true → y e = true))
    (lab' : Bool → Nat → Nat) (h1 : ∀ e, e < m → A e = true → lab' sd e = n ∧ lab' (!sd) e = lab (!sd) e)
    (h2 : ∀ e, e < m → P e = true → lab' sd e = n ∧ lab' (!sd) e = l)
    (h3 : ∀ e, e < m → X e = true → A e = false → lab' sd e = lab sd e ∧ lab' (!sd) e = lab (!sd) e) :
    yDs m I (fun e => X e || P e) (fun _ => false) (lab' false) (lab' true) := by
  have hAP : ∀ e, e < m → P e = true → A e = false := by
    intro e he hp
    cases ha : A e with
    | false => rfl
    | true => have := (hA e he ha).1; rw [hP e he hp] at this; cases this
  constructor
  · intro c
    have e3 : yEv m I (fun e => Bool.xor (c n) (c l) && (A e || P e)) := by
      rw [yEv_iff]; intro v; rw [yDg_and, (yEv_iff m I _).1 hev v]; simp
    refine yEv_congr m I _ _ ?_ (yEv_xor m I _ _ (hE.1 c) e3)
    intro e he
    dsimp only
    rw [yLab_xor c lab sd e, yLab_xor c lab' sd e]
    cases hp : P e with
    | true =>
      rw [hP e he hp, hAP e he hp, (h2 e he hp).1, (h2 e he hp).2]
      simp
    | false =>
      cases hx : X e with
      | false =>
        cases ha : A e with
        | false => simp
        | true => rw [(hA e he ha).1] at hx; cases hx
      | true =>
        cases ha : A e with
        | true =>
          rw [(h1 e he ha).1, (h1 e he ha).2, (hA e he ha).2]
          cases c n <;> cases c l <;> cases c (lab (!sd) e) <;> rfl
        | false =>
          rw [(h3 e he hx ha).1, (h3 e he hx ha).2]; simp
  · intro y hy hyev
    rcases hall y hy hyev with hno | hyes
    · obtain ⟨c, hc⟩ := hE.2 y (fun e he h => by
        have := hy e he h
        simp only [Bool.or_eq_true] at this
        rcases this with h' | h'
        · exact h'
        · rw [hno e he h'] at h; cases h) hyev
      refine ⟨fun x => if x = n then c l else c x, ?_⟩
      intro e he hX
      rw [yLab_xor (fun x => if x = n then c l else c x) lab' sd e]
      cases hp : P e with
      | true => rw [hno e he hp, (h2 e he hp).1, (h2 e he hp).2, if_pos rfl, if_neg hln]; simp
      | false =>
        have hx : X e = true := by dsimp only at hX; rw [hp, Bool.or_false] at hX; exact hX
        rw [hc e he hx, yLab_xor c lab sd e]
        cases ha : A e with
        | true => rw [(h1 e he ha).1, (h1 e he ha).2, if_pos rfl, if_neg (hn e (!sd) he hx), (hA e he ha).2]
        | false => rw [(h3 e he hx ha).1, (h3 e he hx ha).2, if_neg (hn e sd he hx), if_neg (hn e (!sd) he hx)]
    · obtain ⟨c, hc⟩ := hE.2 (fun e => Bool.xor (y e) (A e || P e)) (fun e he h => by
        cases hp : P e with
        | true => rw [hyes e he hp, hp] at h; simp at h
        | false =>
          rw [hp, Bool.or_false] at h
          cases ha : A e with
          | true => exact (hA e he ha).1
          | false =>
            rw [ha, Bool.xor_false] at h
            have := hy e he h
            dsimp only at this
            rw [hp, Bool.or_false] at this; exact this) (yEv_xor m I _ _ hyev hev)
      refine ⟨fun x => if x = n then !c l else c x, ?_⟩
      intro e he hX
      rw [yLab_xor (fun x => if x = n then !c l else c x) lab' sd e]
      cases hp : P e with
      | true => rw [hyes e he hp, (h2 e he hp).1, (h2 e he hp).2, if_pos rfl, if_neg hln]; simp
      | false =>
        have hx : X e = true := by dsimp only at hX; rw [hp, Bool.or_false] at hX; exact hX
        have h4 := hc e he hx
        rw [yLab_xor c lab sd e, hp, Bool.or_false] at h4
        have h5 : y e = Bool.xor (A e) (Bool.xor (c (lab sd e)) (c (lab (!sd) e))) := by
          rw [← h4]; cases y e <;> cases A e <;> rfl
        rw [h5]
        cases ha : A e with
        | true =>
          rw [(h1 e he ha).1, (h1 e he ha).2, if_pos rfl, if_neg (hn e (!sd) he hx), (hA e he ha).2]
          cases c l <;> cases c (lab (!sd) e) <;> rfl
        | false =>
          rw [(h3 e he hx ha).1, (h3 e he hx ha).2, if_neg (hn e sd he hx), if_neg (hn e (!sd) he hx)]; simp

section
variable {m : Nat} {I : Nat → Nat → Bool} {G : Nat → Bool} {V : Nat → Prop} {ht : Nat → Nat} {up : Nat → Nat → Nat} {pe : Nat → Nat}
  {Bk : Nat → Bool} {sr lo : Nat → Nat}

theorem yFc_pe (hT : yTr m I G V ht up pe Bk sr lo) {b w : Nat} (hb : b < m) (hB : Bk b = true) (hV : V w) (hw : 0 < ht w) :
    yFc ht up pe sr lo b (pe w) = true ↔ yR m ht up Bk sr lo w b := by
  have hVb := (hT.2.2.2.2.2.1 b hb hB).2.1
  constructor
  · intro h
    rcases (yD_iff _).1 h with h1 | ⟨j, h1, h2, h3⟩
    · exfalso
      have := (hT.2.2.2.1 w hV hw).2.2.1
      rw [h1, hB] at this; cases this
    · have h4 := hT.1 (sr b) j hVb h2
      have h5 := hT.2.2.2.2.1 _ _ hV h4.1 hw (by omega) h3
      have h6 : ht w = j := by rw [h5]; exact h4.2
      exact ⟨hb, hB, by omega, by rw [h6]; exact h5.symm, by omega⟩
  · intro h
    have := yFc_t (ht := ht) (up := up) (pe := pe) (sr := sr) (lo := lo) (b := b) (j := ht w) h.2.2.2.2 h.2.2.1
    rw [h.2.2.2.1] at this
    exact this

-- edges of the tree over which no back edge leads lie on no round
theorem yBridge (hT : yTr m I G V ht up pe Bk sr lo) (N : Nat) (hN : ∀ n, V n → n < N) (y : Nat → Bool) (hy : ∀ e, e < m → y e = true → G e = true)
    (hev : yEv m I y) (w : Nat) (hV : V w) (hw : 0 < ht w) (hno : ∀ b, ¬ yR m ht up Bk sr lo w b) : y (pe w) = false := by
  obtain ⟨D, hD⟩ : ∃ D : Nat → Bool, ∀ n, D n = yD (V n ∧ ht w ≤ ht n ∧ up n (ht w) = w) := ⟨_, fun _ => rfl⟩
  have h0 : yX N (fun n => D n && yDg m I y n) = false := by
    apply yX_false
    intro n _
    rw [(yEv_iff m I y).1 hev n]; simp
  have h1 : yX N (fun n => D n && yDg m I y n) = yX m (fun e => y e && yX N (fun n => D n && I e n)) := by
    have e1 : yX N (fun n => D n && yDg m I y n) = yX N (fun n => yX m (fun e => y e && (D n && I e n))) := by
      apply yX_congr
      intro n _
      rw [← yDg_and]
      unfold yDg
      apply yX_congr
      intro e _
      dsimp only
      cases D n <;> cases y e <;> cases I e n <;> rfl
    rw [e1, yX_swap]
    apply yX_congr
    intro e _
    cases y e with
    | false => rw [yX_false]; rfl; intros; rfl
    | true => simp
  rw [h1] at h0
  rw [yX_one m _ (pe w) (hT.2.2.2.1 w hV hw).1] at h0
  · have hpw := hT.2.2.2.1 w hV hw
    have hVp := hT.1 w (ht w - 1) hV (by omega)
    have h2 : yX N (fun n => D n && I (pe w) n) = true := by
      rw [yX_one N _ w (hN w hV)]
      · rw [hD, yD_pos ⟨hV, Nat.le_refl _, hT.2.1 w hV⟩, (hpw.2.2.2 w).2 (Or.inl rfl)]; rfl
      · intro n _ hn
        cases hI : I (pe w) n with
        | false => simp
        | true =>
          rcases (hpw.2.2.2 n).1 hI with h3 | h3
          · exact absurd h3 hn
          · rw [hD, yD_neg]; rfl
            intro h4
            rw [h3, hVp.2] at h4
            omega
    rw [h2] at h0
    simpa using h0
  · intro e he hne
    cases hye : y e with
    | false => rfl
    | true =>
      simp only [Bool.true_and]
      rcases hT.2.2.2.2.2.2 e he (hy e he hye) with hB | ⟨x, hVx, hx, hex⟩
      · obtain ⟨g1, g2, g3, g4⟩ := hT.2.2.2.2.2.1 e he hB
        have hVl := hT.1 (sr e) (lo e) g2 (by omega)
        have hne2 : sr e ≠ up (sr e) (lo e) := by intro h; have := hVl.2; rw [← h] at this; omega
        rw [yX_two N _ (sr e) (up (sr e) (lo e)) (hN _ g2) (hN _ hVl.1) hne2]
        · rw [(g4 _).2 (Or.inl rfl), (g4 _).2 (Or.inr rfl)]
          have : D (sr e) = D (up (sr e) (lo e)) := by
            rw [hD, hD]
            by_cases hc : ht w ≤ lo e
            · have e1 := hT.2.2.1 (sr e) (lo e) (ht w) g2 (by omega) hc
              rw [e1, hVl.2]
              by_cases hq : up (sr e) (ht w) = w
              · rw [yD_pos ⟨g2, by omega, hq⟩, yD_pos ⟨hVl.1, hc, hq⟩]
              · rw [yD_neg (fun h => hq h.2.2), yD_neg (fun h => hq h.2.2)]
            · rw [yD_neg, yD_neg]
              · rw [hVl.2]; intro h; exact hc h.2.1
              · intro h; exact hno e ⟨he, hB, h.2.1, h.2.2, by omega⟩
          rw [this]; simp
        · intro n _ h3 h4
          cases hI : I e n with
          | false => simp
          | true => rcases (g4 n).1 hI with h5 | h5 <;> contradiction
      · have hpx := hT.2.2.2.1 x hVx hx
        have hVp := hT.1 x (ht x - 1) hVx (by omega)
        have hne2 : x ≠ up x (ht x - 1) := by intro h; have := hVp.2; rw [← h] at this; omega
        have hxw : x ≠ w := fun h => hne (by rw [hex, h])
        rw [hex]
        rw [yX_two N _ x (up x (ht x - 1)) (hN _ hVx) (hN _ hVp.1) hne2]
        · rw [(hpx.2.2.2 _).2 (Or.inl rfl), (hpx.2.2.2 _).2 (Or.inr rfl)]
          have : D x = D (up x (ht x - 1)) := by
            rw [hD, hD, hVp.2]
            by_cases hc : ht w ≤ ht x - 1
            · have e1 := hT.2.2.1 x (ht x - 1) (ht w) hVx (by omega) hc
              rw [e1]
              by_cases hq : up x (ht w) = w
              · rw [yD_pos ⟨hVx, by omega, hq⟩, yD_pos ⟨hVp.1, hc, hq⟩]
              · rw [yD_neg (fun h => hq h.2.2), yD_neg (fun h => hq h.2.2)]
            · rw [yD_neg, yD_neg]
              · intro h; exact hc h.2.1
              · intro h
                have h5 : ht w = ht x := by omega
                rw [h5, hT.2.1 x hVx] at h
                exact hxw h.2.2
          rw [this]; simp
        · intro n _ h3 h4
          cases hI : I (pe x) n with
          | false => simp
          | true => rcases (hpx.2.2.2 n).1 hI with h5 | h5 <;> contradiction
end
section
variable {m : Nat} {I : Nat → Nat → Bool} {G : Nat → Bool} {V : Nat → Prop} {ht : Nat → Nat} {up : Nat → Nat → Nat} {pe : Nat → Nat}
  {Bk : Nat → Bool} {sr lo : Nat → Nat}

-- edges that lie on the rounds of the first back edges
noncomputable def yPr (m : Nat) (ht : Nat → Nat) (up : Nat → Nat → Nat) (pe : Nat → Nat) (Bk : Nat → Bool) (sr lo ord : Nat → Nat) (k e : Nat) : Bool :=
  yD (∃ b, b < m ∧ Bk b = true ∧ ord b < k ∧ yFc ht up pe sr lo b e = true)

-- where the labels on one side agree
def yAg (m : Nat) (V : Nat → Prop) (ht : Nat → Nat) (up : Nat → Nat → Nat) (pe : Nat → Nat) (Bk : Nat → Bool) (sr lo : Nat → Nat) (σ : Nat → Bool)
    (ord : Nat → Nat) (k : Nat) (lab : Bool → Nat → Nat) : Prop :=
  ∀ u w b0, V u → V w → 0 < ht u → ht w = ht u + 1 → up w (ht u) = u → yR m ht up Bk sr lo w b0 → lo b0 < ht u → ord b0 < k →
    (∀ b, yR m ht up Bk sr lo w b → ord b0 ≤ ord b) → (∀ b, yR m ht up Bk sr lo w b → ord b < k → lo b < ht u) →
    ∀ x, (σ b0 = x ∨ ∀ b, yR m ht up Bk sr lo u b → ord b0 ≤ ord b) →
      (∀ b', yR m ht up Bk sr lo u b' → ¬ yR m ht up Bk sr lo w b' → ord b0 < ord b' → ord b' < k → σ b' ≠ x) →
      lab x (pe u) = lab x (pe w)

theorem yPr_pe (hT : yTr m I G V ht up pe Bk sr lo) (ord : Nat → Nat) (k w : Nat) (hV : V w) (hw : 0 < ht w) :
    yPr m ht up pe Bk sr lo ord k (pe w) = true ↔ ∃ b, yR m ht up Bk sr lo w b ∧ ord b < k := by
  unfold yPr
  rw [yD_iff]
  constructor
  · rintro ⟨b, h1, h2, h3, h4⟩
    exact ⟨b, (yFc_pe hT h1 h2 hV hw).1 h4, h3⟩
  · rintro ⟨b, h1, h2⟩
    exact ⟨b, h1.1, h1.2.1, h2, (yFc_pe hT h1.1 h1.2.1 hV hw).2 h1⟩

theorem yStep (hT : yTr m I G V ht up pe Bk sr lo) (σ : Nat → Bool) (ord : Nat → Nat)
    (o1 : ∀ b b', b < m → b' < m → Bk b = true → Bk b' = true → ord b = ord b' → b = b')
    (o2 : ∀ b b', b < m → b' < m → Bk b = true → Bk b' = true → lo b < lo b' → ord b < ord b')
    (o3 : ∀ u b0 b c, V u → yR m ht up Bk sr lo u b0 → yR m ht up Bk sr lo u b → yR m ht up Bk sr lo u c →
        yBr ht up pe sr u b0 = yBr ht up pe sr u b → (∀ d, yR m ht up Bk sr lo u d → yBr ht up pe sr u d = yBr ht up pe sr u b0 → ord b0 ≤ ord d) →
        σ b0 ≠ σ b → ord b0 ≤ ord c)
    (o4 : ∀ u b0 b b', V u → yR m ht up Bk sr lo u b0 → yR m ht up Bk sr lo u b → yR m ht up Bk sr lo u b' →
        yBr ht up pe sr u b0 = yBr ht up pe sr u b → (∀ d, yR m ht up Bk sr lo u d → yBr ht up pe sr u d = yBr ht up pe sr u b0 → ord b0 ≤ ord d) →
        yBr ht up pe sr u b' ≠ yBr ht up pe sr u b → ord b0 < ord b' → ord b' < ord b → σ b' ≠ σ b)
    (k : Nat) (lab : Bool → Nat → Nat)
    (hE : yDs m I (yPr m ht up pe Bk sr lo ord k) (fun _ => false) (lab false) (lab true))
    (hF : ∀ e x, e < m → yPr m ht up pe Bk sr lo ord k e = true → lab x e = 0 ∨ ∃ b, b < m ∧ Bk b = true ∧ ord b < k ∧ lab x e = b + 1)
    (hG : yAg m V ht up pe Bk sr lo σ ord k lab) :
    ∃ lab', yDs m I (yPr m ht up pe Bk sr lo ord (k+1)) (fun _ => false) (lab' false) (lab' true) ∧
      (∀ e x, e < m → yPr m ht up pe Bk sr lo ord (k+1) e = true → lab' x e = 0 ∨ ∃ b, b < m ∧ Bk b = true ∧ ord b < k+1 ∧ lab' x e = b + 1) ∧
      yAg m V ht up pe Bk sr lo σ ord (k+1) lab' := by
  have o2' : ∀ b b', b < m → b' < m → Bk b = true → Bk b' = true → ord b ≤ ord b' → lo b ≤ lo b' := by
    intro b b' h1 h2 h3 h4 h5
    by_cases h : lo b ≤ lo b'
    · exact h
    · have := o2 b' b h2 h1 h4 h3 (by omega); omega
  by_cases hex : ∃ b, b < m ∧ Bk b = true ∧ ord b = k
  · obtain ⟨b, hb, hB, hk⟩ := hex
    have hb6 := hT.2.2.2.2.2.1 b hb hB
    have hVq := hb6.2.1
    have hVu : ∀ j, j ≤ ht (sr b) → V (up (sr b) j) ∧ ht (up (sr b) j) = j := fun j hj => hT.1 (sr b) j hVq hj
    have hRj : ∀ j, lo b < j → j ≤ ht (sr b) → yR m ht up Bk sr lo (up (sr b) j) b := by
      intro j h1 h2
      refine ⟨hb, hB, ?_, ?_, ?_⟩
      · rw [(hVu j h2).2]; exact h2
      · rw [(hVu j h2).2]
      · rw [(hVu j h2).2]; exact h1
    -- present edges on the way are the lower ones
    have hdown : ∀ i j, lo b < i → i ≤ j → j ≤ ht (sr b) → yPr m ht up pe Bk sr lo ord k (pe (up (sr b) j)) = true →
        yPr m ht up pe Bk sr lo ord k (pe (up (sr b) i)) = true := by
      intro i j h1 h2 h3 h4
      rw [yPr_pe hT ord k _ (hVu j h3).1 (by rw [(hVu j h3).2]; omega)] at h4
      obtain ⟨b', h5, h6⟩ := h4
      rw [yPr_pe hT ord k _ (hVu i (by omega)).1 (by rw [(hVu i (by omega)).2]; omega)]
      have h7 := o2' b' b h5.1 hb h5.2.1 hB (by omega)
      have h8 := h5.2.2.1
      rw [(hVu j h3).2] at h8
      refine ⟨b', ⟨h5.1, h5.2.1, ?_, ?_, ?_⟩, h6⟩
      · rw [(hVu i (by omega)).2]; omega
      · rw [(hVu i (by omega)).2, yR_up hT h5 i (by rw [(hVu j h3).2]; omega), hT.2.2.1 (sr b) j i hVq h3 h2]
      · rw [(hVu i (by omega)).2]; omega
    have hbnot : yPr m ht up pe Bk sr lo ord k b = false := by
      unfold yPr
      rw [yD_iff0]
      rintro ⟨b', h1, h2, h3, h4⟩
      rcases (yD_iff _).1 h4 with h5 | ⟨j, h5, h6, h7⟩
      · rw [← h5, hk] at h3; omega
      · have := (yTr_pe hT h1 h2 (j := j) (by omega) h6).2.2.1
        rw [← h7, hB] at this; cases this
    obtain ⟨l, hl⟩ : ∃ l, l = if yPr m ht up pe Bk sr lo ord k (pe (up (sr b) (lo b + 1))) then lab (σ b) (pe (up (sr b) (lo b + 1))) else 0 := ⟨_, rfl⟩
    -- all present edges on the way have one label on the side of b
    have hone : ∀ j, lo b < j → j ≤ ht (sr b) → yPr m ht up pe Bk sr lo ord k (pe (up (sr b) j)) = true → lab (σ b) (pe (up (sr b) j)) = l := by
      intro j
      induction j with
      | zero => intro h; omega
      | succ j ih =>
        intro h1 h2 h3
        by_cases hj : j = lo b
        · rw [hj] at h3 ⊢
          rw [hl, h3]; rfl
        · have h4 := hdown j (j+1) (by omega) (by omega) h2 h3
          rw [← ih (by omega) (by omega) h4]
          have hu := hVu j (by omega)
          have hw := hVu (j+1) h2
          have hwu : up (up (sr b) (j+1)) (ht (up (sr b) j)) = up (sr b) j := by
            rw [hu.2, hT.2.2.1 (sr b) (j+1) j hVq h2 (by omega)]
          -- the first over w
          have h5 := (yPr_pe hT ord k _ hw.1 (by rw [hw.2]; omega)).1 h3
          obtain ⟨n, ⟨b0, hb0, hn0⟩, hmin⟩ := yMin (fun n => ∃ b', yR m ht up Bk sr lo (up (sr b) (j+1)) b' ∧ ord b' = n) (by
            obtain ⟨b', h6, _⟩ := h5
            exact ⟨ord b', b', h6, rfl⟩)
          have hmin0 : ∀ b', yR m ht up Bk sr lo (up (sr b) (j+1)) b' → ord b0 ≤ ord b' := by
            intro b' hb'
            rw [hn0]; exact hmin _ ⟨b', hb', rfl⟩
          have hb0k : ord b0 < k := by
            obtain ⟨b', h6, h7⟩ := h5
            have := hmin0 b' h6; omega
          have hlo0 : lo b0 < j := by
            have := o2' b0 b hb0.1 hb hb0.2.1 hB (by omega); omega
          -- over w and ending below u: over u by the branch w
          have htoU : ∀ d, yR m ht up Bk sr lo (up (sr b) (j+1)) d → lo d < j → yR m ht up Bk sr lo (up (sr b) j) d ∧ yBr ht up pe sr (up (sr b) j) d = pe (up (sr b) (j+1)) := by
            intro d hd hld
            have e1 := hd.2.2.1
            rw [hw.2] at e1
            have e2 := hd.2.2.2.1
            rw [hw.2] at e2
            refine ⟨⟨hd.1, hd.2.1, by rw [hu.2]; omega, ?_, by rw [hu.2]; exact hld⟩, ?_⟩
            · rw [hu.2, yR_up hT hd j (by rw [hw.2]; omega), hT.2.2.1 (sr b) (j+1) j hVq h2 (by omega)]
            · unfold yBr
              rw [if_neg (by rw [hu.2]; omega), hu.2, e2]
          have hofU : ∀ d, yR m ht up Bk sr lo (up (sr b) j) d → yBr ht up pe sr (up (sr b) j) d = pe (up (sr b) (j+1)) → yR m ht up Bk sr lo (up (sr b) (j+1)) d := by
            intro d hd hbr
            by_cases hh : ht (up (sr b) j) < ht (sr d)
            · obtain ⟨a1, a2, a3, a4, a5⟩ := yR_above hT hd hh
              rw [a5] at hbr
              have := hT.2.2.2.2.1 _ _ a1 hw.1 (by omega) (by rw [hw.2]; omega) hbr
              rw [this] at a4; exact a4
            · exfalso
              have h6 : yBr ht up pe sr (up (sr b) j) d = d := by unfold yBr; rw [if_pos (by have := hd.2.2.1; omega)]
              rw [h6] at hbr
              have h7 := (hT.2.2.2.1 _ hw.1 (by rw [hw.2]; omega)).2.2.1
              rw [← hbr, hd.2.1] at h7; cases h7
          obtain ⟨hUb0, hbr0⟩ := htoU b0 hb0 hlo0
          obtain ⟨hUb, hbrb⟩ := htoU b (hRj (j+1) h1 h2) (by omega)
          have hminbr : ∀ d, yR m ht up Bk sr lo (up (sr b) j) d → yBr ht up pe sr (up (sr b) j) d = yBr ht up pe sr (up (sr b) j) b0 → ord b0 ≤ ord d := by
            intro d hd hbr
            exact hmin0 d (hofU d hd (hbr.trans hbr0))
          symm
          refine hG (up (sr b) j) (up (sr b) (j+1)) b0 hu.1 hw.1 (by rw [hu.2]; omega) (by rw [hu.2, hw.2]) hwu hb0 (by rw [hu.2]; exact hlo0) hb0k hmin0 ?_ (σ b) ?_ ?_
          · intro b' hb' hb'k
            rw [hu.2]
            have := o2' b' b hb'.1 hb hb'.2.1 hB (by omega); omega
          · by_cases hs : σ b0 = σ b
            · exact Or.inl hs
            · right
              intro c hc
              exact o3 _ b0 b c hu.1 hUb0 hUb hc (hbr0.trans hbrb.symm) hminbr hs
          · intro b' hb' hnb' h6 h7
            refine o4 _ b0 b b' hu.1 hUb0 hUb hb' (hbr0.trans hbrb.symm) hminbr ?_ h6 (by omega)
            intro h8
            exact hnb' (hofU b' hb' (h8.trans hbrb))
    -- the new labels
    obtain ⟨lab', hlab⟩ : ∃ lab' : Bool → Nat → Nat, ∀ x e, lab' x e = if yFc ht up pe sr lo b e then (if x = σ b then b + 1 else if yPr m ht up pe Bk sr lo ord k e then lab x e else l) else lab x e := ⟨_, fun _ _ => rfl⟩
    have hPr1 : ∀ e, yPr m ht up pe Bk sr lo ord (k+1) e = (yPr m ht up pe Bk sr lo ord k e || (yFc ht up pe sr lo b e && !yPr m ht up pe Bk sr lo ord k e)) := by
      intro e
      cases hp : yPr m ht up pe Bk sr lo ord k e with
      | true =>
        simp only [Bool.true_or]
        unfold yPr at hp ⊢
        obtain ⟨b', h1, h2, h3, h4⟩ := (yD_iff _).1 hp
        exact yD_pos ⟨b', h1, h2, by omega, h4⟩
      | false =>
        cases hf : yFc ht up pe sr lo b e with
        | true =>
          simp only [Bool.false_or, Bool.not_false, Bool.and_self]
          unfold yPr
          exact yD_pos ⟨b, hb, hB, by omega, hf⟩
        | false =>
          simp only [Bool.false_or, Bool.false_and]
          unfold yPr at hp ⊢
          rw [yD_iff0] at hp ⊢
          rintro ⟨b', h1, h2, h3, h4⟩
          by_cases hbb : b' = b
          · rw [hbb, hf] at h4; cases h4
          · apply hp
            refine ⟨b', h1, h2, ?_, h4⟩
            have : ord b' ≠ k := fun h => hbb (o1 b' b h1 hb h2 hB (h.trans hk.symm))
            omega
    have hlb : ∀ e x, e < m → yPr m ht up pe Bk sr lo ord k e = true → lab x e ≠ b + 1 := by
      intro e x he hp
      rcases hF e x he hp with h | ⟨b', h1, h2, h3, h4⟩
      · rw [h]; omega
      · rw [h4]; intro h
        have : b' = b := by omega
        rw [this, hk] at h3; omega
    have hlo1 : pe (up (sr b) (lo b + 1)) < m := (yTr_pe hT hb hB (j := lo b + 1) (by omega) (by omega)).1
    have hln : l ≠ b + 1 := by
      rw [hl]
      cases hp : yPr m ht up pe Bk sr lo ord k (pe (up (sr b) (lo b + 1))) with
      | true => rw [if_pos rfl]; exact hlb _ _ hlo1 hp
      | false => simp
    -- nodes of the new part are new
    have hnew : ∀ j, lo b < j → j ≤ ht (sr b) → yPr m ht up pe Bk sr lo ord k (pe (up (sr b) j)) = false →
        ∀ e, I e (up (sr b) j) = true → yPr m ht up pe Bk sr lo ord k e = false := by
      intro j h1 h2 h3 e hI
      cases hp : yPr m ht up pe Bk sr lo ord k e with
      | false => rfl
      | true =>
        exfalso
        unfold yPr at hp
        obtain ⟨b', g1, g2, g3, g4⟩ := (yD_iff _).1 hp
        obtain ⟨i, i1, i2, i3, _⟩ := yFc_at hT g1 g2 e _ g4 hI
        have hVb' := (hT.2.2.2.2.2.1 b' g1 g2).2.1
        have hij : j = i := by
          have c1 := (hVu j h2).2
          have c2 := (hT.1 (sr b') i hVb' i2).2
          rw [← c1, i3, c2]
        have hlo' := o2' b' b g1 hb g2 hB (by omega)
        have : yPr m ht up pe Bk sr lo ord k (pe (up (sr b) j)) = true := by
          rw [yPr_pe hT ord k _ (hVu j h2).1 (by rw [(hVu j h2).2]; omega)]
          refine ⟨b', ⟨g1, g2, ?_, ?_, ?_⟩, g3⟩
          · rw [(hVu j h2).2, hij]; exact i2
          · rw [(hVu j h2).2]
            rw [i3, hij]
          · rw [(hVu j h2).2]; omega
        rw [this] at h3; cases h3
    have hins := yInsert (X := yPr m ht up pe Bk sr lo ord k) lab hE (σ b) (b+1) l
      (fun e => yFc ht up pe sr lo b e && yPr m ht up pe Bk sr lo ord k e) (fun e => yFc ht up pe sr lo b e && !yPr m ht up pe Bk sr lo ord k e)
      (by
        intro e he h
        simp only [Bool.and_eq_true] at h
        refine ⟨h.2, ?_⟩
        rcases (yD_iff _).1 h.1 with h1 | ⟨j, h1, h2, h3⟩
        · rw [h1, hbnot] at h; cases h.2
        · rw [h3] at h ⊢; exact hone j h1 h2 h.2)
      (by intro e _ h; simp only [Bool.and_eq_true, Bool.not_eq_true'] at h; exact h.2)
      (fun e x he hx => hlb e x he hx) hln
      (by
        refine yEv_congr m I _ _ ?_ (yFc_even hT hb hB)
        intro e _
        cases yFc ht up pe sr lo b e <;> cases yPr m ht up pe Bk sr lo ord k e <;> rfl)
      (by
        intro y hy hev
        -- all edges of the new part are taken alike
        have hsame : ∀ d j, ht (sr b) - j = d → lo b < j → j ≤ ht (sr b) → yPr m ht up pe Bk sr lo ord k (pe (up (sr b) j)) = false → y (pe (up (sr b) j)) = y b := by
          intro d
          induction d with
          | zero =>
            intro j hd h1 h2 h3
            have hj : j = ht (sr b) := by omega
            obtain ⟨e1, e2, a1, a2, a3, a4, a5, a6, a7, a9, a10, a8⟩ := yFc_two hT hb hB j (by omega) h2
            rw [if_neg (by omega)] at a9
            rw [if_pos hj] at a10
            have hd := (yEv_iff m I y).1 hev (up (sr b) j)
            rw [yDg_two m I y _ e1 e2 a2 a3 a1 a6 a7] at hd
            · rw [← a9, ← a10]
              revert hd; cases y e1 <;> cases y e2 <;> simp
            · intro e he hI h4 h5
              cases hye : y e with
              | false => rfl
              | true =>
                exfalso
                have h6 := hy e he hye
                rw [hnew j h1 h2 h3 e hI] at h6
                simp only [Bool.false_or, Bool.not_false, Bool.and_true] at h6
                rcases a8 e h6 hI with h7 | h7
                · exact h4 h7
                · exact h5 h7
          | succ d ih =>
            intro j hd h1 h2 h3
            obtain ⟨e1, e2, a1, a2, a3, a4, a5, a6, a7, a9, a10, a8⟩ := yFc_two hT hb hB j (by omega) h2
            rw [if_neg (by omega)] at a9
            rw [if_neg (by omega)] at a10
            have hnext : yPr m ht up pe Bk sr lo ord k (pe (up (sr b) (j+1))) = false := by
              cases hp : yPr m ht up pe Bk sr lo ord k (pe (up (sr b) (j+1))) with
              | false => rfl
              | true => rw [hdown j (j+1) h1 (by omega) (by omega) hp] at h3; cases h3
            rw [← ih (j+1) (by omega) (by omega) (by omega) hnext]
            have hd := (yEv_iff m I y).1 hev (up (sr b) j)
            rw [yDg_two m I y _ e1 e2 a2 a3 a1 a6 a7] at hd
            · rw [← a9, ← a10]
              revert hd; cases y e1 <;> cases y e2 <;> simp
            · intro e he hI h4 h5
              cases hye : y e with
              | false => rfl
              | true =>
                exfalso
                have h6 := hy e he hye
                rw [hnew j h1 h2 h3 e hI] at h6
                simp only [Bool.false_or, Bool.not_false, Bool.and_true] at h6
                rcases a8 e h6 hI with h7 | h7
                · exact h4 h7
                · exact h5 h7
        have hall : ∀ e, e < m → (yFc ht up pe sr lo b e && !yPr m ht up pe Bk sr lo ord k e) = true → y e = y b := by
          intro e he h
          simp only [Bool.and_eq_true, Bool.not_eq_true'] at h
          rcases (yD_iff _).1 h.1 with h1 | ⟨j, h1, h2, h3⟩
          · rw [h1]
          · rw [h3]; rw [h3] at h; exact hsame _ j rfl h1 h2 h.2
        cases hyb : y b with
        | false => exact Or.inl (fun e he h => by rw [hall e he h, hyb])
        | true => exact Or.inr (fun e he h => by rw [hall e he h, hyb]))
      lab'
      (by
        intro e he h
        simp only [Bool.and_eq_true] at h
        rw [hlab, hlab, h.1, h.2]
        cases σ b <;> simp)
      (by
        intro e he h
        simp only [Bool.and_eq_true, Bool.not_eq_true'] at h
        rw [hlab, hlab, h.1, h.2]
        cases σ b <;> simp)
      (by
        intro e he hx h
        rw [hx, Bool.and_true] at h
        rw [hlab, hlab, h]
        simp)
    refine ⟨lab', yDs_congr hins _ (fun e _ => (hPr1 e).symm), ?_, ?_⟩
    · intro e x he hp
      rw [hlab]
      cases hf : yFc ht up pe sr lo b e with
      | true =>
        rw [if_pos rfl]
        by_cases hx : x = σ b
        · rw [if_pos hx]; exact Or.inr ⟨b, hb, hB, by omega, rfl⟩
        · rw [if_neg hx]
          cases hp0 : yPr m ht up pe Bk sr lo ord k e with
          | true =>
            rw [if_pos rfl]
            rcases hF e x he hp0 with h | ⟨b', h1, h2, h3, h4⟩
            · exact Or.inl h
            · exact Or.inr ⟨b', h1, h2, by omega, h4⟩
          | false =>
            rw [if_neg (by simp), hl]
            cases hp1 : yPr m ht up pe Bk sr lo ord k (pe (up (sr b) (lo b + 1))) with
            | true =>
              rw [if_pos rfl]
              rcases hF _ (σ b) hlo1 hp1 with h | ⟨b', h1, h2, h3, h4⟩
              · exact Or.inl h
              · exact Or.inr ⟨b', h1, h2, by omega, h4⟩
            | false => simp
      | false =>
        rw [if_neg (by simp)]
        rw [hPr1 e, hf] at hp
        simp only [Bool.false_and, Bool.or_false] at hp
        rcases hF e x he hp with h | ⟨b', h1, h2, h3, h4⟩
        · exact Or.inl h
        · exact Or.inr ⟨b', h1, h2, by omega, h4⟩
    · intro u w b0 hVu' hVw hu0 hwu hup hb0 hlo0 hb0k hmin hlow x hx1 hx2
      have hUb0 : yR m ht up Bk sr lo u b0 := ⟨hb0.1, hb0.2.1, by have := hb0.2.2.1; omega, by rw [yR_up hT hb0 (ht u) (by omega)]; exact hup, hlo0⟩
      have hfw := yFc_pe hT hb hB hVw (by omega)
      have hfu := yFc_pe hT hb hB hVu' hu0
      by_cases hbb : b0 = b
      · rw [hbb] at hb0 hlo0 hUb0 hmin hx1
        rw [hlab, hlab, hfw.2 hb0, hfu.2 hUb0, if_pos rfl, if_pos rfl]
        by_cases hx : x = σ b
        · rw [if_pos hx, if_pos hx]
        · rw [if_neg hx, if_neg hx]
          have h1 : ∀ c, yR m ht up Bk sr lo u c → ord b ≤ ord c := by
            rcases hx1 with h | h
            · exact absurd h.symm hx
            · exact h
          have p1 : yPr m ht up pe Bk sr lo ord k (pe u) = false := by
            cases hp : yPr m ht up pe Bk sr lo ord k (pe u) with
            | false => rfl
            | true =>
              obtain ⟨c, hc1, hc2⟩ := (yPr_pe hT ord k u hVu' hu0).1 hp
              have := h1 c hc1; omega
          have p2 : yPr m ht up pe Bk sr lo ord k (pe w) = false := by
            cases hp : yPr m ht up pe Bk sr lo ord k (pe w) with
            | false => rfl
            | true =>
              obtain ⟨c, hc1, hc2⟩ := (yPr_pe hT ord k w hVw (by omega)).1 hp
              have := hmin c hc1; omega
          rw [p1, p2]; simp
      · have hb0k' : ord b0 < k := by
          have : ord b0 ≠ k := fun h => hbb (o1 b0 b hb0.1 hb hb0.2.1 hB (h.trans hk.symm))
          omega
        have p1 : yPr m ht up pe Bk sr lo ord k (pe u) = true := (yPr_pe hT ord k u hVu' hu0).2 ⟨b0, hUb0, hb0k'⟩
        have p2 : yPr m ht up pe Bk sr lo ord k (pe w) = true := (yPr_pe hT ord k w hVw (by omega)).2 ⟨b0, hb0, hb0k'⟩
        have hold : lab x (pe u) = lab x (pe w) :=
          hG u w b0 hVu' hVw hu0 hwu hup hb0 hlo0 hb0k' hmin (fun c hc1 hc2 => hlow c hc1 (by omega)) x hx1 (fun c hc1 hc2 hc3 hc4 => hx2 c hc1 hc2 hc3 (by omega))
        by_cases hwb : yR m ht up Bk sr lo w b
        · have hlb' := hlow b hwb (by omega)
          have hub : yR m ht up Bk sr lo u b := ⟨hb, hB, by have := hwb.2.2.1; omega, by rw [yR_up hT hwb (ht u) (by omega)]; exact hup, hlb'⟩
          rw [hlab, hlab, hfw.2 hwb, hfu.2 hub, if_pos rfl, if_pos rfl]
          by_cases hx : x = σ b
          · rw [if_pos hx, if_pos hx]
          · rw [if_neg hx, if_neg hx, p1, p2, if_pos rfl, if_pos rfl]; exact hold
        · have hfw' : yFc ht up pe sr lo b (pe w) = false := by
            cases h : yFc ht up pe sr lo b (pe w) with
            | false => rfl
            | true => exact absurd (hfw.1 h) hwb
          have hlw : lab' x (pe w) = lab x (pe w) := by rw [hlab, hfw']; simp
          by_cases hub : yR m ht up Bk sr lo u b
          · have hx : x ≠ σ b := by
              have := hx2 b hub hwb (by omega) (by omega)
              exact fun h => this h.symm
            rw [hlw, hlab, hfu.2 hub, if_pos rfl, if_neg hx, p1, if_pos rfl]; exact hold
          · have hfu' : yFc ht up pe sr lo b (pe u) = false := by
              cases h : yFc ht up pe sr lo b (pe u) with
              | false => rfl
              | true => exact absurd (hfu.1 h) hub
            rw [hlw, hlab, hfu']; simpa using hold
  · -- nothing new
    have hne : ∀ b, b < m → Bk b = true → ord b < k + 1 → ord b < k := by
      intro b hb hB h
      have : ord b ≠ k := fun h1 => hex ⟨b, hb, hB, h1⟩
      omega
    have hPr1 : ∀ e, yPr m ht up pe Bk sr lo ord (k+1) e = yPr m ht up pe Bk sr lo ord k e := by
      intro e
      unfold yPr
      rw [Bool.eq_iff_iff, yD_iff, yD_iff]
      constructor
      · rintro ⟨b, h1, h2, h3, h4⟩; exact ⟨b, h1, h2, hne b h1 h2 h3, h4⟩
      · rintro ⟨b, h1, h2, h3, h4⟩; exact ⟨b, h1, h2, by omega, h4⟩
    refine ⟨lab, yDs_congr hE _ (fun e _ => (hPr1 e).symm), ?_, ?_⟩
    · intro e x he hp
      rw [hPr1] at hp
      rcases hF e x he hp with h | ⟨b', h1, h2, h3, h4⟩
      · exact Or.inl h
      · exact Or.inr ⟨b', h1, h2, by omega, h4⟩
    · intro u w b0 hVu' hVw hu0 hwu hup hb0 hlo0 hb0k hmin hlow x hx1 hx2
      exact hG u w b0 hVu' hVw hu0 hwu hup hb0 hlo0 (hne b0 hb0.1 hb0.2.1 hb0k) hmin (fun c hc1 hc2 => hlow c hc1 (by omega)) x hx1
        (fun c hc1 hc2 hc3 hc4 => hx2 c hc1 hc2 hc3 (by omega))

-- from sides that fit: a labelling
theorem yDs_of_lr (hT : yTr m I G V ht up pe Bk sr lo) (N : Nat) (hN : ∀ n, V n → n < N) (σ0 : Nat → Bool) (hL0 : yLr m V ht up pe Bk sr lo σ0) :
    ∃ lab : Bool → Nat → Nat, yDs m I G (fun _ => false) (lab false) (lab true) := by
  obtain ⟨σ, hL, hAl⟩ := yLr_al hT σ0 hL0
  obtain ⟨ord, o1, o2, o3, o4⟩ := yOrd2 hT σ hL hAl
  have hall : ∀ k, ∃ lab : Bool → Nat → Nat, yDs m I (yPr m ht up pe Bk sr lo ord k) (fun _ => false) (lab false) (lab true) ∧
      (∀ e x, e < m → yPr m ht up pe Bk sr lo ord k e = true → lab x e = 0 ∨ ∃ b, b < m ∧ Bk b = true ∧ ord b < k ∧ lab x e = b + 1) ∧
      yAg m V ht up pe Bk sr lo σ ord k lab := by
    intro k
    induction k with
    | zero =>
      have hp0 : ∀ e, yPr m ht up pe Bk sr lo ord 0 e = false := by
        intro e; unfold yPr; rw [yD_iff0]; rintro ⟨b, _, _, h, _⟩; omega
      refine ⟨fun _ _ => 0, ⟨?_, ?_⟩, ?_, ?_⟩
      · intro c
        rw [yEv_iff]; intro v
        apply yDg_false; intro e _ _; rw [hp0]; rfl
      · intro y hy _
        refine ⟨fun _ => false, ?_⟩
        intro e he hp; rw [hp0] at hp; cases hp
      · intro e x _ hp; rw [hp0] at hp; cases hp
      · intro u w b0 _ _ _ _ _ _ _ h; omega
    | succ k ih =>
      obtain ⟨lab, h1, h2, h3⟩ := ih
      exact yStep hT σ ord o1 o2 o3 o4 k lab h1 h2 h3
  obtain ⟨K, hK⟩ := yBound ord m
  obtain ⟨lab, h1, _, _⟩ := hall K
  refine ⟨fun x e => if yPr m ht up pe Bk sr lo ord K e then lab x e else 0, ⟨?_, ?_⟩⟩
  · intro c
    refine yEv_congr m I _ _ ?_ (h1.1 c)
    intro e he
    cases hp : yPr m ht up pe Bk sr lo ord K e with
    | true =>
      unfold yPr at hp
      obtain ⟨b, g1, g2, g3, g4⟩ := (yD_iff _).1 hp
      rw [yFc_G hT g1 g2 e g4]
      have hp' : yPr m ht up pe Bk sr lo ord K e = true := yD_pos ⟨b, g1, g2, g3, g4⟩
      simp [hp']
    | false => simp [hp]
  · intro y hy hev
    obtain ⟨c, hc⟩ := h1.2 y (fun e he hye => by
      cases hp : yPr m ht up pe Bk sr lo ord K e with
      | true => rfl
      | false =>
        exfalso
        rcases hT.2.2.2.2.2.2 e he (hy e he hye) with hB | ⟨x, hVx, hx, hex⟩
        · unfold yPr at hp
          rw [yD_iff0] at hp
          exact hp ⟨e, he, hB, hK e he, yFc_b ..⟩
        · rw [hex] at hp hye
          have := yBridge hT N hN y hy hev x hVx hx (fun b hb => by
            have : yPr m ht up pe Bk sr lo ord K (pe x) = true := (yPr_pe hT ord K x hVx hx).2 ⟨b, hb, hK b hb.1⟩
            rw [this] at hp; cases hp)
          rw [this] at hye; cases hye) hev
    refine ⟨c, ?_⟩
    intro e he hg
    cases hp : yPr m ht up pe Bk sr lo ord K e with
    | true =>
      rw [hc e he hp]; simp [hp]
    | false =>
      have hye : y e = false := by
        cases hye : y e with
        | false => rfl
        | true =>
          exfalso
          rcases hT.2.2.2.2.2.2 e he hg with hB | ⟨x, hVx, hx, hex⟩
          · unfold yPr at hp
            rw [yD_iff0] at hp
            exact hp ⟨e, he, hB, hK e he, yFc_b ..⟩
          · rw [hex] at hp hye
            have := yBridge hT N hN y hy hev x hVx hx (fun b hb => by
              have : yPr m ht up pe Bk sr lo ord K (pe x) = true := (yPr_pe hT ord K x hVx hx).2 ⟨b, hb, hK b hb.1⟩
              rw [this] at hp; cases hp)
            rw [this] at hye; cases hye
      rw [hye]; simp [hp]
end

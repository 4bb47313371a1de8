
theorem ynar1 : vp_nar .boolean 1 = 1 := by rfl
theorem ynar0 : vp_nar .boolean 0 = 0 := by rfl

-- the walls in the array
def yWa (wall : Nat → Nat → Prop) (w : Nat → Int32) : Prop := ∀ x y, x < 20 → y < 20 → (w (21*x+y) = 0 ∨ w (21*x+y) = 1) ∧ (w (21*x+y) = 1 ↔ wall x y)

theorem w9_wall {wall : Nat → Nat → Prop} {w : Nat → Int32} (hw : yWa wall w) {p q : Nat} (hp : p < 20) (hq : q < 20) (K : (Nat → Int32) → Prop) (hK : ∀ w', yWa (fun x y => wall x y ∨ (x = p ∧ y = q) ∨ (x = q ∧ y = p)) w' → K w')
    (i0 i1 i2 i3 i4 i5 i6 i7 i8 i9 i10 i11 i12 i13 i14 i15 i16 i17 : Int32) : wX9_wall i0 i1 i2 i3 i4 i5 i6 i7 i8 i9 i10 i11 i12 i13 i14 i15 i16 i17 w (Int32.ofNat p) (Int32.ofNat q) K := by
  unfold wX9_wall
  rw [yn_21, yn_21, yn_nat (by omega), yn_nat (by omega), ynar1]
  refine ⟨yn_in (by omega) (by omega), fun g11 h11 => ⟨yn_in (by omega) (by omega), fun g23 h23 => hK g23 ?_⟩⟩
  intro x y hx hy
  by_cases c2 : x = q ∧ y = p
  · rw [h23, c2.1, c2.2, yupd_same]
    exact ⟨Or.inr rfl, fun _ => Or.inr (Or.inr ⟨rfl, rfl⟩), fun _ => rfl⟩
  · rw [h23, yupd_ne _ _ _ _ (by omega), h11]
    by_cases c1 : x = p ∧ y = q
    · rw [c1.1, c1.2, yupd_same]
      exact ⟨Or.inr rfl, fun _ => Or.inr (Or.inl ⟨rfl, rfl⟩), fun _ => rfl⟩
    · rw [yupd_ne _ _ _ _ (by omega)]
      obtain ⟨a1, a2⟩ := hw x y hx hy
      refine ⟨a1, fun hh => Or.inl (a2.1 hh), ?_⟩
      rintro (e | e | e)
      · exact a2.2 e
      · exact absurd e c1
      · exact absurd e c2

section
variable {n F : Nat} {g : Nat → Nat → Bool} {fo ρ : Nat → Nat → Nat}

-- the nodes of a face in the array
theorem yTa_fn (h : yTg n g F fo ρ) {fa fb : Nat → Int32} (ha : yTa g F fo ρ fa fb) : ∃ fn : Nat → Nat → Nat, ∀ f, f < F → (∀ k, k < 3 → fa (21*f+k) = Int32.ofNat (fn f k) ∧ fn f k < 20 ∧ g (fn f k) (fn f ((k+1)%3)) = true ∧ fo (fn f k) (fn f ((k+1)%3)) = f) ∧
    (∀ x y, g x y = true → fo x y = f → ∃ k, k < 3 ∧ x = fn f k ∧ y = fn f ((k+1)%3)) := by
  have hch : ∀ f, ∃ ab : Nat × Nat, f < F → g ab.1 ab.2 = true ∧ fo ab.1 ab.2 = f ∧ fa (21*f) = Int32.ofNat ab.1 ∧ fa (21*f+1) = Int32.ofNat ab.2 ∧ fa (21*f+2) = Int32.ofNat (ρ ab.1 ab.2) := by
    intro f
    by_cases hf : f < F
    · obtain ⟨a, b, h1, h2, h3, h4, h5, _⟩ := ha f hf
      exact ⟨(a, b), fun _ => ⟨h1, h2, h3, h4, h5⟩⟩
    · exact ⟨(0, 0), fun hh => absurd hh hf⟩
  obtain ⟨A, B, hAB⟩ : ∃ A B : Nat → Nat, ∀ f, f < F → g (A f) (B f) = true ∧ fo (A f) (B f) = f ∧ fa (21*f) = Int32.ofNat (A f) ∧ fa (21*f+1) = Int32.ofNat (B f) ∧ fa (21*f+2) = Int32.ofNat (ρ (A f) (B f)) :=
    ⟨fun f => (Classical.choose (hch f)).1, fun f => (Classical.choose (hch f)).2, fun f hf => Classical.choose_spec (hch f) hf⟩
  refine ⟨fun f k => if k = 0 then A f else if k = 1 then B f else ρ (A f) (B f), ?_⟩
  intro f hf
  obtain ⟨h1, h2, h3, h4, h5⟩ := hAB f hf
  have t := yTg_th h h1
  have g1 := yTg_gr h h1; have g2 := yTg_gr h t.2.1; have g3 := yTg_gr h t.2.2.1
  constructor
  · intro k hk
    rcases (by omega : k = 0 ∨ k = 1 ∨ k = 2) with e | e | e <;> subst e <;> simp
    · exact ⟨h3, g1.1, h1, h2⟩
    · exact ⟨h4, g1.2.1, t.2.1, by rw [t.2.2.2.2.2.1]; exact h2⟩
    · exact ⟨h5, g2.2.1, t.2.2.1, by rw [t.2.2.2.2.2.2]; exact h2⟩
  · intro x y hxy hfe
    rcases yTg_fo h h1 hxy (hfe.trans h2.symm) with e | e | e
    · exact ⟨0, by omega, by simp; exact e.1, by simp; exact e.2⟩
    · exact ⟨1, by omega, by simp; exact e.1, by simp; exact e.2⟩
    · exact ⟨2, by omega, by simp; exact e.1, by simp; exact e.2⟩

def yOpn (g : Nat → Nat → Bool) (fo : Nat → Nat → Nat) (wall : Nat → Nat → Prop) (f f' : Nat) : Prop := ∃ x y, g x y = true ∧ fo x y = f ∧ fo y x = f' ∧ ¬ wall x y

theorem w9_isOpen (h : yTg n g F fo ρ) {fa fb : Nat → Int32} (ha : yTa g F fo ρ fa fb) {wall : Nat → Nat → Prop} {w : Nat → Int32} (hw : yWa wall w) {f f' : Nat} (hf : f < F) (hf' : f' < F) (K : Int32 → Unit → Prop)
    (hK1 : yOpn g fo wall f f' → K 1 ()) (hK0 : ¬ yOpn g fo wall f f' → K 0 ())
    (i0 i1 i2 i3 i4 i5 i6 i7 i8 i9 i10 i11 i12 i13 i14 i15 i16 i17 : Int32) : wX9_isOpen i0 i1 i2 i3 i4 i5 i6 i7 i8 i9 i10 i11 i12 i13 i14 i15 i16 i17 fa w (Int32.ofNat f) (Int32.ofNat f') K := by
  have hgs := h.2.2.1.2
  have hF40 : F ≤ 40 := by have := h.2.1; have : F + 4 = 2 * n := h.2.2.2.2.2.2.2.2; omega
  obtain ⟨fn, hfn⟩ := yTa_fn h ha
  obtain ⟨A1, A2⟩ := hfn f hf
  obtain ⟨B1, B2⟩ := hfn f' hf'
  have h3eq : (3 : Int32) = Int32.ofNat 3 := rfl
  have h1eq : (1 : Int32) = Int32.ofNat 1 := rfl
  have h0eq : (0 : Int32) = Int32.ofNat 0 := rfl
  -- the inner loop
  have h40 : ∀ (k : Nat) (hk : k < 3) (B : Int32 → Prop) (_ : (∀ i, i < 3 → ¬ (fn f' i = fn f ((k+1)%3) ∧ fn f' ((i+1)%3) = fn f k ∧ ¬ wall (fn f k) (fn f ((k+1)%3)))) → B (Int32.ofNat (k+1))),
      ∀ d i, 3 - i = d → i ≤ 3 → (∀ i', i' < i → ¬ (fn f' i' = fn f ((k+1)%3) ∧ fn f' ((i'+1)%3) = fn f k ∧ ¬ wall (fn f k) (fn f ((k+1)%3)))) →
        wLX9_isOpen_40 fa w (Int32.ofNat f') (Int32.ofNat k) (Int32.ofNat (fn f k)) (Int32.ofNat (fn f ((k+1)%3))) K B (d+1) (Int32.ofNat i) := by
    intro k hk B hB d
    have ek : Int32.ofNat k + 1 = Int32.ofNat (k+1) := yn_add k 1
    have a1 := A1 k hk; have a2 := A1 ((k+1)%3) (by omega)
    induction d with
    | zero =>
      intro i hd hi hno
      unfold wLX9_isOpen_40
      rw [ek]
      refine ⟨fun _ => hB (fun i' hi' => hno i' (by omega)), fun hh => ?_⟩
      exfalso; apply hh; rw [h3eq, yn_le (by omega) (by omega)]; omega
    | succ d ih =>
      intro i hd hi hno
      have ei : Int32.ofNat i + 1 = Int32.ofNat (i+1) := yn_add i 1
      have b1 := B1 i (by omega); have b2 := B1 ((i+1)%3) (by omega)
      have em : Int32.ofNat (i+1) - Int32.ofNat (i+1) / 3 * 3 = Int32.ofNat ((i+1)%3) := by rw [h3eq]; exact yn_jmod (by omega) (by omega)
      have next : ¬ (fn f' i = fn f ((k+1)%3) ∧ fn f' ((i+1)%3) = fn f k ∧ ¬ wall (fn f k) (fn f ((k+1)%3))) → wLX9_isOpen_40 fa w (Int32.ofNat f') (Int32.ofNat k) (Int32.ofNat (fn f k)) (Int32.ofNat (fn f ((k+1)%3))) K B (d+1) (Int32.ofNat (i+1)) := by
        intro hn'
        refine ih (i+1) (by omega) (by omega) ?_
        intro i' hi'
        by_cases q : i' = i
        · rw [q]; exact hn'
        · exact hno i' (by omega)
      unfold wLX9_isOpen_40
      rw [ei, em, yn_21, yn_21, yn_21, yn_nat (by omega), yn_nat (by omega), yn_nat (by omega), b1.1, b2.1]
      refine ⟨fun hh => ?_, fun _ => ⟨yn_in (by omega) (by omega), fun hne => next ?_, fun he => ⟨yn_in (by omega) (by omega), fun hne => next ?_, fun he2 => ⟨yn_in (by omega) (by omega), fun hnz => next ?_, fun hz => ?_⟩⟩⟩⟩
      · exfalso; rw [h3eq, yn_le (by omega) (by omega)] at hh; omega
      · rintro ⟨q, _, _⟩; exact hne (by rw [q])
      · rintro ⟨_, q, _⟩; exact hne (by rw [q])
      · rintro ⟨_, _, q⟩
        obtain ⟨w1, w2⟩ := hw (fn f k) (fn f ((k+1)%3)) a1.2.1 a2.2.1
        rcases w1 with e | e
        · exact hnz e
        · exact q (w2.1 e)
      · have e1 : fn f' i = fn f ((k+1)%3) := (yn_inj (by omega) (by omega)).1 he
        have e2 : fn f' ((i+1)%3) = fn f k := (yn_inj (by omega) (by omega)).1 he2
        apply hK1
        refine ⟨fn f k, fn f ((k+1)%3), a1.2.2.1, a1.2.2.2, ?_, ?_⟩
        · rw [← e1, ← e2]; exact b1.2.2.2
        · intro hwl
          have := (hw (fn f k) (fn f ((k+1)%3)) a1.2.1 a2.2.1).2.2 hwl
          rw [hz] at this
          exact absurd this (by decide)
  have h2 : ∀ d k, 3 - k = d → k ≤ 3 → (∀ k', k' < k → ∀ i, i < 3 → ¬ (fn f' i = fn f ((k'+1)%3) ∧ fn f' ((i+1)%3) = fn f k' ∧ ¬ wall (fn f k') (fn f ((k'+1)%3)))) →
      wLX9_isOpen_2 fa w (Int32.ofNat f) (Int32.ofNat f') K (d+1) (Int32.ofNat k) := by
    intro d
    induction d with
    | zero =>
      intro k hd hk hno
      unfold wLX9_isOpen_2
      refine ⟨fun _ => hK0 ?_, fun hh => ?_⟩
      · rintro ⟨x, y, hxy, h1, h2, h3⟩
        obtain ⟨k', hk', ex, ey⟩ := A2 x y hxy h1
        obtain ⟨i', hi', ey', ex'⟩ := B2 y x (by rw [hgs]; exact hxy) h2
        refine hno k' (by omega) i' hi' ⟨by rw [← ey', ey], by rw [← ex', ex], by rw [← ex, ← ey]; exact h3⟩
      · exfalso; apply hh; rw [h3eq, yn_le (by omega) (by omega)]; omega
    | succ d ih =>
      intro k hd hk hno
      have ek : Int32.ofNat k + 1 = Int32.ofNat (k+1) := yn_add k 1
      have a1 := A1 k (by omega); have a2 := A1 ((k+1)%3) (by omega)
      have em : Int32.ofNat (k+1) - Int32.ofNat (k+1) / 3 * 3 = Int32.ofNat ((k+1)%3) := by rw [h3eq]; exact yn_jmod (by omega) (by omega)
      unfold wLX9_isOpen_2
      rw [ek, em, yn_21, yn_21, yn_nat (by omega), yn_nat (by omega), a1.1, a2.1]
      refine ⟨fun hh => ?_, fun _ => ⟨yn_in (by omega) (by omega), fun v18 h18 => ⟨yn_in (by omega) (by omega), fun v35 h35 => ?_⟩⟩⟩
      · exfalso; rw [h3eq, yn_le (by omega) (by omega)] at hh; omega
      · rw [h18, h35, h0eq]
        refine ⟨3 - 0 + 1, h40 k (by omega) _ ?_ (3-0) 0 rfl (by omega) (fun i' hi' => by omega)⟩
        intro hnone
        refine ih (k+1) (by omega) (by omega) ?_
        intro k' hk'
        by_cases q : k' = k
        · rw [q]; exact hnone
        · exact hno k' (by omega)
  unfold wX9_isOpen
  rw [h0eq]
  exact ⟨3 - 0 + 1, h2 (3-0) 0 rfl (by omega) (fun k' hk' => by omega)⟩
end


def yRea (g : Nat → Nat → Bool) (fo : Nat → Nat → Nat) (wall : Nat → Nat → Prop) (o f : Nat) : Prop := ∀ V : Nat → Prop, V o → (∀ f f', V f → yOpn g fo wall f f' → V f') → V f
def yBit01 (F : Nat) (o : Nat → Int32) : Prop := ∀ f, f < F → o f = 0 ∨ o f = 1

section
variable {n F : Nat} {g : Nat → Nat → Bool} {fo ρ : Nat → Nat → Nat}

theorem w9_btw239 (hF40 : F ≤ 40) (u96 o : Nat → Int32) (K : Int32 → ((Nat → Int32) × (Nat → Int32)) → Prop) (hK : K (Int32.ofNat (yNb F (fun f => decide (o f = 0)))) (u96, o)) :
    ∀ d f, F - f = d → f ≤ F → wLX9_between_239 (Int32.ofNat F) u96 o K (d+1) (Int32.ofNat (yNb f (fun f => decide (o f = 0)))) (Int32.ofNat f) := by
  have h1eq : (1 : Int32) = Int32.ofNat 1 := rfl
  have h0eq : (0 : Int32) = Int32.ofNat 0 := rfl
  intro d
  induction d with
  | zero =>
    intro f hd hf
    have : f = F := by omega
    subst this
    unfold wLX9_between_239
    refine ⟨fun _ => hK, fun hh => ?_⟩
    exfalso; apply hh; rw [yn_le (by omega) (by omega)]; omega
  | succ d ih =>
    intro f hd hf
    have e1 : Int32.ofNat f + 1 = Int32.ofNat (f+1) := yn_add f 1
    unfold wLX9_between_239
    rw [e1, yn_nat (by omega)]
    refine ⟨fun hh => ?_, fun _ => ⟨yn_in (by omega) (by omega), fun hz v266 h266 => ?_, fun hnz v266 h266 => ?_⟩⟩
    · exfalso; rw [yn_le (by omega) (by omega)] at hh; omega
    · have : v266 = Int32.ofNat (yNb (f+1) (fun f => decide (o f = 0))) := by
        rw [h266, h1eq, yn_add]; simp only [yNb]; rw [if_pos (decide_eq_true hz)]
      rw [this]; exact ih (f+1) (by omega) (by omega)
    · have : v266 = Int32.ofNat (yNb (f+1) (fun f => decide (o f = 0))) := by
        have e0 : Int32.ofNat (yNb f (fun f => decide (o f = 0))) + 0 = Int32.ofNat (yNb f (fun f => decide (o f = 0)) + 0) := yn_add _ 0
        rw [h266, e0]; simp only [yNb]
        rw [if_neg (by rw [decide_eq_true_iff]; exact hnz)]
      rw [this]; exact ih (f+1) (by omega) (by omega)

-- the state within a round over the faces
def yPs (g : Nat → Nat → Bool) (fo : Nat → Nat → Nat) (wall : Nat → Nat → Prop) (F of : Nat) (o0 o : Nat → Int32) (more : Int32) (f : Nat) : Prop :=
  yBit01 F o ∧ (∀ x, x < F → (o0 x = 0 ∨ o0 x = 1) ∧ (o0 x = 1 → o x = 1)) ∧ (∀ x, x < F → o x = 1 → yRea g fo wall of x) ∧ o of = 1 ∧
  ((more = 1 ∧ ∃ x, x < F ∧ o0 x = 0 ∧ o x = 1) ∨ (more = 0 ∧ ∀ x, x < f → o x = 1 → ∀ y, y < F → yOpn g fo wall x y → o y = 1))

theorem w9_btw152 (h : yTg n g F fo ρ) {fa fb : Nat → Int32} (ha : yTa g F fo ρ fa fb) {wall : Nat → Nat → Prop} {w : Nat → Int32} (hw : yWa wall w) {of : Nat} (hof : of < F)
    (i0 i1 i2 i3 i4 i5 i7 i8 i9 i10 i11 i12 i13 i14 i15 i16 i17 : Int32) (K : Int32 → ((Nat → Int32) × (Nat → Int32)) → Prop) (B : (Nat → Int32) → Int32 → Prop) (o0 : Nat → Int32)
    (hB : ∀ o more, yPs g fo wall F of o0 o more F → B o more) :
    ∀ d f o more, F - f = d → f ≤ F → yPs g fo wall F of o0 o more f →
      wLX9_between_152 i0 i1 i2 i3 i4 i5 (Int32.ofNat F) i7 i8 i9 i10 i11 i12 i13 i14 i15 i16 i17 fa w K B (d+1) o more (Int32.ofNat f) := by
  have hF40 : F ≤ 40 := by have := h.2.1; have : F + 4 = 2 * n := h.2.2.2.2.2.2.2.2; omega
  have h0eq : (0 : Int32) = Int32.ofNat 0 := rfl
  intro d
  induction d with
  | zero =>
    intro f o more hd hf hP
    have : f = F := by omega
    subst this
    unfold wLX9_between_152
    refine ⟨fun _ => hB o more hP, fun hh => ?_⟩
    exfalso; apply hh; rw [yn_le (by omega) (by omega)]; omega
  | succ d ih =>
    intro f o more hd hf hP
    have e1 : Int32.ofNat f + 1 = Int32.ofNat (f+1) := yn_add f 1
    have h177 : ∀ d2 y o more, F - y = d2 → y ≤ F → yPs g fo wall F of o0 o more f → o f = 1 → (more = 0 → ∀ y', y' < y → yOpn g fo wall f y' → o y' = 1) →
        wLX9_between_177 i0 i1 i2 i3 i4 i5 (Int32.ofNat F) i7 i8 i9 i10 i11 i12 i13 i14 i15 i16 i17 fa w (Int32.ofNat f) K (fun z0 z1 z2 => (wLX9_between_152 i0 i1 i2 i3 i4 i5 (Int32.ofNat F) i7 i8 i9 i10 i11 i12 i13 i14 i15 i16 i17 fa w K B (d+1)) z0 z1 z2) (d2+1) o more (Int32.ofNat y) := by
      intro d2
      induction d2 with
      | zero =>
        intro y o more hd2 hy hP hof1 hcl
        unfold wLX9_between_177
        rw [e1]
        refine ⟨fun _ => ?_, fun hh => ?_⟩
        · obtain ⟨p1, p2, p3, p4, p5⟩ := hP
          refine ih (f+1) o more (by clear p5; omega) (by clear p5; omega) ⟨p1, p2, p3, p4, ?_⟩
          rcases p5 with e | ⟨e, ee⟩
          · exact Or.inl e
          · right
            refine ⟨e, fun x hx hox z hz hop => ?_⟩
            by_cases q : x = f
            · rw [q] at hop; exact hcl e z (by omega) hop
            · exact ee x (by omega) hox z hz hop
        · exfalso; apply hh; rw [yn_le (by omega) (by omega)]; omega
      | succ d2 ih2 =>
        intro y o more hd2 hy hP hof1 hcl
        have e2 : Int32.ofNat y + 1 = Int32.ofNat (y+1) := yn_add y 1
        obtain ⟨p1, p2, p3, p4, p5⟩ := hP
        unfold wLX9_between_177
        rw [e2, yn_nat (by omega)]
        refine ⟨fun hh => ?_, fun _ => ⟨yn_in (by omega) (by omega), fun hnz => ?_, fun hz => ?_⟩⟩
        · exfalso; rw [yn_le (by omega) (by omega)] at hh; omega
        · have hy1 : o y = 1 := by
            rcases p1 y (by omega) with e | e
            · exact absurd e hnz
            · exact e
          refine ih2 (y+1) o more (by clear p5; omega) (by clear p5; omega) ⟨p1, p2, p3, p4, p5⟩ hof1 ?_
          intro hm y' hy' hop
          by_cases q : y' = y
          · rw [q]; exact hy1
          · exact hcl hm y' (by omega) hop
        · refine w9_isOpen h ha hw (by omega) (by omega) _ (fun hop => ?_) (fun hop => ?_) _ _ _ _ _ _ _ _ _ _ _ _ _ _ _ _ _ _
          · refine ⟨fun hh => absurd hh (by decide), fun _ => ⟨yn_in (by omega) (by omega), fun o' ho' => ?_⟩⟩
            rw [ynar1] at ho'
            have hval : ∀ x, o' x = if x = y then 1 else o x := by
              intro x
              rw [ho']
              by_cases q : x = y
              · rw [q, yupd_same, if_pos rfl]
              · rw [yupd_ne _ _ _ _ q, if_neg q]
            refine ih2 (y+1) o' 1 (by clear p5; omega) (by clear p5; omega) ⟨?_, ?_, ?_, ?_, ?_⟩ ?_ ?_
            · intro x hx
              rw [hval x]
              by_cases q : x = y
              · rw [if_pos q]; exact Or.inr rfl
              · rw [if_neg q]; exact p1 x hx
            · intro x hx
              refine ⟨(p2 x hx).1, fun hx0 => ?_⟩
              rw [hval x]
              by_cases q : x = y
              · rw [if_pos q]
              · rw [if_neg q]; exact (p2 x hx).2 hx0
            · intro x hx hx1
              rw [hval x] at hx1
              by_cases q : x = y
              · rw [q]
                intro V hV hc
                exact hc f y (p3 f (by omega) hof1 V hV hc) hop
              · rw [if_neg q] at hx1; exact p3 x hx hx1
            · rw [hval of]
              by_cases q : of = y
              · rw [if_pos q]
              · rw [if_neg q]; exact p4
            · left
              refine ⟨rfl, y, by omega, ?_, by rw [hval y, if_pos rfl]⟩
              -- it was not out at the beginning
              rcases (p2 y (by omega)).1 with q | q
              · exact q
              · have := (p2 y (by omega)).2 q
                rw [hz] at this; exact absurd this (by decide)
            · rw [hval f]
              by_cases q : f = y
              · rw [if_pos q]
              · rw [if_neg q]; exact hof1
            · intro hh; exact absurd hh (by decide)
          · refine ⟨fun _ => ih2 (y+1) o more (by clear p5; omega) (by clear p5; omega) ⟨p1, p2, p3, p4, p5⟩ hof1 ?_, fun hh => absurd rfl hh⟩
            intro hm y' hy' hop'
            by_cases q : y' = y
            · rw [q] at hop'; exact absurd hop' hop
            · exact hcl hm y' (by omega) hop'
    unfold wLX9_between_152
    rw [e1, yn_nat (by omega)]
    refine ⟨fun hh => ?_, fun _ => ⟨yn_in (by omega) (by omega), fun hnz => ?_, fun hz => ?_⟩⟩
    · exfalso; rw [yn_le (by omega) (by omega)] at hh; omega
    · have hf1 : o f = 1 := by
        rcases hP.1 f (by omega) with e | e
        · exact absurd e hnz
        · exact e
      rw [h0eq]
      exact ⟨F - 0 + 1, h177 (F-0) 0 o more rfl (by omega) hP hf1 (fun _ y' hy' => by omega)⟩
    · obtain ⟨p1, p2, p3, p4, p5⟩ := hP
      refine ih (f+1) o more (by clear p5; omega) (by clear p5; omega) ⟨p1, p2, p3, p4, ?_⟩
      rcases p5 with e | ⟨e, ee⟩
      · exact Or.inl e
      · right
        refine ⟨e, fun x hx hox z hz' hop => ?_⟩
        by_cases q : x = f
        · rw [q, hz] at hox; exact absurd hox (by decide)
        · exact ee x (by omega) hox z hz' hop

theorem w9_btw141 (h : yTg n g F fo ρ) {fa fb : Nat → Int32} (ha : yTa g F fo ρ fa fb) {wall : Nat → Nat → Prop} {w : Nat → Int32} (hw : yWa wall w) {of : Nat} (hof : of < F)
    (i0 i1 i2 i3 i4 i5 i7 i8 i9 i10 i11 i12 i13 i14 i15 i16 i17 : Int32) (K : Int32 → ((Nat → Int32) × (Nat → Int32)) → Prop)
    (hK : ∀ w' o', K (Int32.ofNat (yNb F (fun f => yD (¬ yRea g fo wall of f)))) (w', o')) :
    ∀ d o, yNb F (fun f => decide (o f = 0)) ≤ d → yBit01 F o → (∀ f, f < F → o f = 1 → yRea g fo wall of f) → o of = 1 →
      wLX9_between_141 i0 i1 i2 i3 i4 i5 (Int32.ofNat F) i7 i8 i9 i10 i11 i12 i13 i14 i15 i16 i17 fa w K (d+2) o 1 := by
  have hF40 : F ≤ 40 := by have := h.2.1; have : F + 4 = 2 * n := h.2.2.2.2.2.2.2.2; omega
  have h0eq : (0 : Int32) = Int32.ofNat 0 := rfl
  have hopn : ∀ f f', yOpn g fo wall f f' → f < F ∧ f' < F := by
    rintro f f' ⟨x, y, hxy, e1, e2, _⟩
    exact ⟨by rw [← e1]; exact (yTg_th h hxy).1, by rw [← e2]; exact (yTg_th h (show g y x = true by rw [h.2.2.1.2]; exact hxy)).1⟩
  have fin : ∀ o, yBit01 F o → (∀ f, f < F → o f = 1 → yRea g fo wall of f) → o of = 1 → (∀ f, f < F → o f = 1 → ∀ f', f' < F → yOpn g fo wall f f' → o f' = 1) → ∀ N, wLX9_between_141 i0 i1 i2 i3 i4 i5 (Int32.ofNat F) i7 i8 i9 i10 i11 i12 i13 i14 i15 i16 i17 fa w K (N+1) o 0 := by
    intro o o1 o2 o3 o4 N
    unfold wLX9_between_141
    refine ⟨fun _ => ⟨F - 0 + 1, ?_⟩, fun hh => absurd rfl hh⟩
    have hcnt : yNb F (fun f => yD (¬ yRea g fo wall of f)) = yNb F (fun f => decide (o f = 0)) := by
      apply yNb_congr
      intro f hf
      rw [Bool.eq_iff_iff, yD_iff, decide_eq_true_iff]
      constructor
      · intro hn
        rcases o1 f hf with e | e
        · exact e
        · exact absurd (o2 f hf e) hn
      · intro e hr
        have := hr (fun f => f < F ∧ o f = 1) ⟨hof, o3⟩ (by
          rintro f f' ⟨a1, a2⟩ hop
          exact ⟨(hopn f f' hop).2, o4 f a1 a2 f' (hopn f f' hop).2 hop⟩)
        rw [e] at this
        exact absurd this.2 (by decide)
    have := w9_btw239 hF40 w o K (by rw [← hcnt]; exact hK w o) (F-0) 0 rfl (by omega)
    exact this
  intro d
  induction d with
  | zero =>
    intro o hd o1 o2 o3
    unfold wLX9_between_141
    refine ⟨fun hh => absurd hh (by decide), fun _ => ⟨F - 0 + 1, ?_⟩⟩
    have := w9_btw152 h ha hw hof i0 i1 i2 i3 i4 i5 i7 i8 i9 i10 i11 i12 i13 i14 i15 i16 i17 K (fun z0 z1 => (wLX9_between_141 i0 i1 i2 i3 i4 i5 (Int32.ofNat F) i7 i8 i9 i10 i11 i12 i13 i14 i15 i16 i17 fa w K (0+1)) z0 z1) o (by
      rintro o' more ⟨p1, p2, p3, p4, p5⟩
      rcases p5 with ⟨_, x, hx, hx0, _⟩ | ⟨e, ee⟩
      · exfalso
        have := yNb_pos1 (m := F) (p := fun f => decide (o f = 0)) hx (decide_eq_true hx0)
        omega
      · rw [e]
        exact fin o' p1 p3 p4 (fun f hf h1 f' hf' hop => ee f hf h1 f' hf' hop) 0) (F-0) 0 o 0 rfl (by omega) ⟨o1, fun x hx => ⟨o1 x hx, fun hh => hh⟩, o2, o3, Or.inr ⟨rfl, fun x hx => by omega⟩⟩
    exact this
  | succ d ih =>
    intro o hd o1 o2 o3
    unfold wLX9_between_141
    refine ⟨fun hh => absurd hh (by decide), fun _ => ⟨F - 0 + 1, ?_⟩⟩
    have := w9_btw152 h ha hw hof i0 i1 i2 i3 i4 i5 i7 i8 i9 i10 i11 i12 i13 i14 i15 i16 i17 K (fun z0 z1 => (wLX9_between_141 i0 i1 i2 i3 i4 i5 (Int32.ofNat F) i7 i8 i9 i10 i11 i12 i13 i14 i15 i16 i17 fa w K (d+2)) z0 z1) o (by
      rintro o' more ⟨p1, p2, p3, p4, p5⟩
      rcases p5 with ⟨e, x, hx, hx0, hx1⟩ | ⟨e, ee⟩
      · rw [e]
        refine ih o' ?_ p1 p3 p4
        have := yNb_strict F (fun f => decide (o' f = 0)) (fun f => decide (o f = 0)) x hx (by rw [decide_eq_false_iff_not, hx1]; decide) (decide_eq_true hx0) (by
          intro f hf hh
          rw [decide_eq_true_iff] at hh ⊢
          rcases o1 f hf with q | q
          · exact q
          · have := (p2 f hf).2 q
            rw [hh] at this; exact absurd this (by decide))
        omega
      · rw [e]
        exact fin o' p1 p3 p4 (fun f hf h1 f' hf' hop => ee f hf h1 f' hf' hop) (d+1)) (F-0) 0 o 0 rfl (by omega) ⟨o1, fun x hx => ⟨o1 x hx, fun hh => hh⟩, o2, o3, Or.inr ⟨rfl, fun x hx => by omega⟩⟩
    exact this
theorem w9_btw239_1 (hF40 : F ≤ 40) (u96 o : Nat → Int32) (K : Int32 → ((Nat → Int32) × (Nat → Int32)) → Prop) (hK : K (Int32.ofNat (yNb F (fun f => decide (o f = 0)))) (u96, o)) :
    ∀ d f, F - f = d → f ≤ F → wLX9_between_1_239 (Int32.ofNat F) u96 o K (d+1) (Int32.ofNat (yNb f (fun f => decide (o f = 0)))) (Int32.ofNat f) := by
  have h1eq : (1 : Int32) = Int32.ofNat 1 := rfl
  have h0eq : (0 : Int32) = Int32.ofNat 0 := rfl
  intro d
  induction d with
  | zero =>
    intro f hd hf
    have : f = F := by omega
    subst this
    unfold wLX9_between_1_239
    refine ⟨fun _ => hK, fun hh => ?_⟩
    exfalso; apply hh; rw [yn_le (by omega) (by omega)]; omega
  | succ d ih =>
    intro f hd hf
    have e1 : Int32.ofNat f + 1 = Int32.ofNat (f+1) := yn_add f 1
    unfold wLX9_between_1_239
    rw [e1, yn_nat (by omega)]
    refine ⟨fun hh => ?_, fun _ => ⟨yn_in (by omega) (by omega), fun hz v266 h266 => ?_, fun hnz v266 h266 => ?_⟩⟩
    · exfalso; rw [yn_le (by omega) (by omega)] at hh; omega
    · have : v266 = Int32.ofNat (yNb (f+1) (fun f => decide (o f = 0))) := by
        rw [h266, h1eq, yn_add]; simp only [yNb]; rw [if_pos (decide_eq_true hz)]
      rw [this]; exact ih (f+1) (by omega) (by omega)
    · have : v266 = Int32.ofNat (yNb (f+1) (fun f => decide (o f = 0))) := by
        have e0 : Int32.ofNat (yNb f (fun f => decide (o f = 0))) + 0 = Int32.ofNat (yNb f (fun f => decide (o f = 0)) + 0) := yn_add _ 0
        rw [h266, e0]; simp only [yNb]
        rw [if_neg (by rw [decide_eq_true_iff]; exact hnz)]
      rw [this]; exact ih (f+1) (by omega) (by omega)

-- the state within a round over the faces
def yPs_1 (g : Nat → Nat → Bool) (fo : Nat → Nat → Nat) (wall : Nat → Nat → Prop) (F of : Nat) (o0 o : Nat → Int32) (more : Int32) (f : Nat) : Prop :=
  yBit01 F o ∧ (∀ x, x < F → (o0 x = 0 ∨ o0 x = 1) ∧ (o0 x = 1 → o x = 1)) ∧ (∀ x, x < F → o x = 1 → yRea g fo wall of x) ∧ o of = 1 ∧
  ((more = 1 ∧ ∃ x, x < F ∧ o0 x = 0 ∧ o x = 1) ∨ (more = 0 ∧ ∀ x, x < f → o x = 1 → ∀ y, y < F → yOpn g fo wall x y → o y = 1))

theorem w9_btw152_1 (h : yTg n g F fo ρ) {fa fb : Nat → Int32} (ha : yTa g F fo ρ fa fb) {wall : Nat → Nat → Prop} {w : Nat → Int32} (hw : yWa wall w) {of : Nat} (hof : of < F)
    (i0 i1 i2 i3 i4 i5 i7 i8 i9 i10 i11 i12 i13 i14 i15 i16 i17 : Int32) (K : Int32 → ((Nat → Int32) × (Nat → Int32)) → Prop) (B : (Nat → Int32) → Int32 → Prop) (o0 : Nat → Int32)
    (hB : ∀ o more, yPs_1 g fo wall F of o0 o more F → B o more) :
    ∀ d f o more, F - f = d → f ≤ F → yPs_1 g fo wall F of o0 o more f →
      wLX9_between_1_152 i0 i1 i2 i3 i4 i5 (Int32.ofNat F) i7 i8 i9 i10 i11 i12 i13 i14 i15 i16 i17 fa w K B (d+1) o more (Int32.ofNat f) := by
  have hF40 : F ≤ 40 := by have := h.2.1; have : F + 4 = 2 * n := h.2.2.2.2.2.2.2.2; omega
  have h0eq : (0 : Int32) = Int32.ofNat 0 := rfl
  intro d
  induction d with
  | zero =>
    intro f o more hd hf hP
    have : f = F := by omega
    subst this
    unfold wLX9_between_1_152
    refine ⟨fun _ => hB o more hP, fun hh => ?_⟩
    exfalso; apply hh; rw [yn_le (by omega) (by omega)]; omega
  | succ d ih =>
    intro f o more hd hf hP
    have e1 : Int32.ofNat f + 1 = Int32.ofNat (f+1) := yn_add f 1
    have h177 : ∀ d2 y o more, F - y = d2 → y ≤ F → yPs_1 g fo wall F of o0 o more f → o f = 1 → (more = 0 → ∀ y', y' < y → yOpn g fo wall f y' → o y' = 1) →
        wLX9_between_1_177 i0 i1 i2 i3 i4 i5 (Int32.ofNat F) i7 i8 i9 i10 i11 i12 i13 i14 i15 i16 i17 fa w (Int32.ofNat f) K (fun z0 z1 z2 => (wLX9_between_1_152 i0 i1 i2 i3 i4 i5 (Int32.ofNat F) i7 i8 i9 i10 i11 i12 i13 i14 i15 i16 i17 fa w K B (d+1)) z0 z1 z2) (d2+1) o more (Int32.ofNat y) := by
      intro d2
      induction d2 with
      | zero =>
        intro y o more hd2 hy hP hof1 hcl
        unfold wLX9_between_1_177
        rw [e1]
        refine ⟨fun _ => ?_, fun hh => ?_⟩
        · obtain ⟨p1, p2, p3, p4, p5⟩ := hP
          refine ih (f+1) o more (by clear p5; omega) (by clear p5; omega) ⟨p1, p2, p3, p4, ?_⟩
          rcases p5 with e | ⟨e, ee⟩
          · exact Or.inl e
          · right
            refine ⟨e, fun x hx hox z hz hop => ?_⟩
            by_cases q : x = f
            · rw [q] at hop; exact hcl e z (by omega) hop
            · exact ee x (by omega) hox z hz hop
        · exfalso; apply hh; rw [yn_le (by omega) (by omega)]; omega
      | succ d2 ih2 =>
        intro y o more hd2 hy hP hof1 hcl
        have e2 : Int32.ofNat y + 1 = Int32.ofNat (y+1) := yn_add y 1
        obtain ⟨p1, p2, p3, p4, p5⟩ := hP
        unfold wLX9_between_1_177
        rw [e2, yn_nat (by omega)]
        refine ⟨fun hh => ?_, fun _ => ⟨yn_in (by omega) (by omega), fun hnz => ?_, fun hz => ?_⟩⟩
        · exfalso; rw [yn_le (by omega) (by omega)] at hh; omega
        · have hy1 : o y = 1 := by
            rcases p1 y (by omega) with e | e
            · exact absurd e hnz
            · exact e
          refine ih2 (y+1) o more (by clear p5; omega) (by clear p5; omega) ⟨p1, p2, p3, p4, p5⟩ hof1 ?_
          intro hm y' hy' hop
          by_cases q : y' = y
          · rw [q]; exact hy1
          · exact hcl hm y' (by omega) hop
        · refine w9_isOpen h ha hw (by omega) (by omega) _ (fun hop => ?_) (fun hop => ?_) _ _ _ _ _ _ _ _ _ _ _ _ _ _ _ _ _ _
          · refine ⟨fun hh => absurd hh (by decide), fun _ => ⟨yn_in (by omega) (by omega), fun o' ho' => ?_⟩⟩
            rw [ynar1] at ho'
            have hval : ∀ x, o' x = if x = y then 1 else o x := by
              intro x
              rw [ho']
              by_cases q : x = y
              · rw [q, yupd_same, if_pos rfl]
              · rw [yupd_ne _ _ _ _ q, if_neg q]
            refine ih2 (y+1) o' 1 (by clear p5; omega) (by clear p5; omega) ⟨?_, ?_, ?_, ?_, ?_⟩ ?_ ?_
            · intro x hx
              rw [hval x]
              by_cases q : x = y
              · rw [if_pos q]; exact Or.inr rfl
              · rw [if_neg q]; exact p1 x hx
            · intro x hx
              refine ⟨(p2 x hx).1, fun hx0 => ?_⟩
              rw [hval x]
              by_cases q : x = y
              · rw [if_pos q]
              · rw [if_neg q]; exact (p2 x hx).2 hx0
            · intro x hx hx1
              rw [hval x] at hx1
              by_cases q : x = y
              · rw [q]
                intro V hV hc
                exact hc f y (p3 f (by omega) hof1 V hV hc) hop
              · rw [if_neg q] at hx1; exact p3 x hx hx1
            · rw [hval of]
              by_cases q : of = y
              · rw [if_pos q]
              · rw [if_neg q]; exact p4
            · left
              refine ⟨rfl, y, by omega, ?_, by rw [hval y, if_pos rfl]⟩
              -- it was not out at the beginning
              rcases (p2 y (by omega)).1 with q | q
              · exact q
              · have := (p2 y (by omega)).2 q
                rw [hz] at this; exact absurd this (by decide)
            · rw [hval f]
              by_cases q : f = y
              · rw [if_pos q]
              · rw [if_neg q]; exact hof1
            · intro hh; exact absurd hh (by decide)
          · refine ⟨fun _ => ih2 (y+1) o more (by clear p5; omega) (by clear p5; omega) ⟨p1, p2, p3, p4, p5⟩ hof1 ?_, fun hh => absurd rfl hh⟩
            intro hm y' hy' hop'
            by_cases q : y' = y
            · rw [q] at hop'; exact absurd hop' hop
            · exact hcl hm y' (by omega) hop'
    unfold wLX9_between_1_152
    rw [e1, yn_nat (by omega)]
    refine ⟨fun hh => ?_, fun _ => ⟨yn_in (by omega) (by omega), fun hnz => ?_, fun hz => ?_⟩⟩
    · exfalso; rw [yn_le (by omega) (by omega)] at hh; omega
    · have hf1 : o f = 1 := by
        rcases hP.1 f (by omega) with e | e
        · exact absurd e hnz
        · exact e
      rw [h0eq]
      exact ⟨F - 0 + 1, h177 (F-0) 0 o more rfl (by omega) hP hf1 (fun _ y' hy' => by omega)⟩
    · obtain ⟨p1, p2, p3, p4, p5⟩ := hP
      refine ih (f+1) o more (by clear p5; omega) (by clear p5; omega) ⟨p1, p2, p3, p4, ?_⟩
      rcases p5 with e | ⟨e, ee⟩
      · exact Or.inl e
      · right
        refine ⟨e, fun x hx hox z hz' hop => ?_⟩
        by_cases q : x = f
        · rw [q, hz] at hox; exact absurd hox (by decide)
        · exact ee x (by omega) hox z hz' hop

theorem w9_btw141_1 (h : yTg n g F fo ρ) {fa fb : Nat → Int32} (ha : yTa g F fo ρ fa fb) {wall : Nat → Nat → Prop} {w : Nat → Int32} (hw : yWa wall w) {of : Nat} (hof : of < F)
    (i0 i1 i2 i3 i4 i5 i7 i8 i9 i10 i11 i12 i13 i14 i15 i16 i17 : Int32) (K : Int32 → ((Nat → Int32) × (Nat → Int32)) → Prop)
    (hK : ∀ w' o', K (Int32.ofNat (yNb F (fun f => yD (¬ yRea g fo wall of f)))) (w', o')) :
    ∀ d o, yNb F (fun f => decide (o f = 0)) ≤ d → yBit01 F o → (∀ f, f < F → o f = 1 → yRea g fo wall of f) → o of = 1 →
      wLX9_between_1_141 i0 i1 i2 i3 i4 i5 (Int32.ofNat F) i7 i8 i9 i10 i11 i12 i13 i14 i15 i16 i17 fa w K (d+2) o 1 := by
  have hF40 : F ≤ 40 := by have := h.2.1; have : F + 4 = 2 * n := h.2.2.2.2.2.2.2.2; omega
  have h0eq : (0 : Int32) = Int32.ofNat 0 := rfl
  have hopn : ∀ f f', yOpn g fo wall f f' → f < F ∧ f' < F := by
    rintro f f' ⟨x, y, hxy, e1, e2, _⟩
    exact ⟨by rw [← e1]; exact (yTg_th h hxy).1, by rw [← e2]; exact (yTg_th h (show g y x = true by rw [h.2.2.1.2]; exact hxy)).1⟩
  have fin : ∀ o, yBit01 F o → (∀ f, f < F → o f = 1 → yRea g fo wall of f) → o of = 1 → (∀ f, f < F → o f = 1 → ∀ f', f' < F → yOpn g fo wall f f' → o f' = 1) → ∀ N, wLX9_between_1_141 i0 i1 i2 i3 i4 i5 (Int32.ofNat F) i7 i8 i9 i10 i11 i12 i13 i14 i15 i16 i17 fa w K (N+1) o 0 := by
    intro o o1 o2 o3 o4 N
    unfold wLX9_between_1_141
    refine ⟨fun _ => ⟨F - 0 + 1, ?_⟩, fun hh => absurd rfl hh⟩
    have hcnt : yNb F (fun f => yD (¬ yRea g fo wall of f)) = yNb F (fun f => decide (o f = 0)) := by
      apply yNb_congr
      intro f hf
      rw [Bool.eq_iff_iff, yD_iff, decide_eq_true_iff]
      constructor
      · intro hn
        rcases o1 f hf with e | e
        · exact e
        · exact absurd (o2 f hf e) hn
      · intro e hr
        have := hr (fun f => f < F ∧ o f = 1) ⟨hof, o3⟩ (by
          rintro f f' ⟨a1, a2⟩ hop
          exact ⟨(hopn f f' hop).2, o4 f a1 a2 f' (hopn f f' hop).2 hop⟩)
        rw [e] at this
        exact absurd this.2 (by decide)
    have := w9_btw239_1 hF40 w o K (by rw [← hcnt]; exact hK w o) (F-0) 0 rfl (by omega)
    exact this
  intro d
  induction d with
  | zero =>
    intro o hd o1 o2 o3
    unfold wLX9_between_1_141
    refine ⟨fun hh => absurd hh (by decide), fun _ => ⟨F - 0 + 1, ?_⟩⟩
    have := w9_btw152_1 h ha hw hof i0 i1 i2 i3 i4 i5 i7 i8 i9 i10 i11 i12 i13 i14 i15 i16 i17 K (fun z0 z1 => (wLX9_between_1_141 i0 i1 i2 i3 i4 i5 (Int32.ofNat F) i7 i8 i9 i10 i11 i12 i13 i14 i15 i16 i17 fa w K (0+1)) z0 z1) o (by
      rintro o' more ⟨p1, p2, p3, p4, p5⟩
      rcases p5 with ⟨_, x, hx, hx0, _⟩ | ⟨e, ee⟩
      · exfalso
        have := yNb_pos1 (m := F) (p := fun f => decide (o f = 0)) hx (decide_eq_true hx0)
        omega
      · rw [e]
        exact fin o' p1 p3 p4 (fun f hf h1 f' hf' hop => ee f hf h1 f' hf' hop) 0) (F-0) 0 o 0 rfl (by omega) ⟨o1, fun x hx => ⟨o1 x hx, fun hh => hh⟩, o2, o3, Or.inr ⟨rfl, fun x hx => by omega⟩⟩
    exact this
  | succ d ih =>
    intro o hd o1 o2 o3
    unfold wLX9_between_1_141
    refine ⟨fun hh => absurd hh (by decide), fun _ => ⟨F - 0 + 1, ?_⟩⟩
    have := w9_btw152_1 h ha hw hof i0 i1 i2 i3 i4 i5 i7 i8 i9 i10 i11 i12 i13 i14 i15 i16 i17 K (fun z0 z1 => (wLX9_between_1_141 i0 i1 i2 i3 i4 i5 (Int32.ofNat F) i7 i8 i9 i10 i11 i12 i13 i14 i15 i16 i17 fa w K (d+2)) z0 z1) o (by
      rintro o' more ⟨p1, p2, p3, p4, p5⟩
      rcases p5 with ⟨e, x, hx, hx0, hx1⟩ | ⟨e, ee⟩
      · rw [e]
        refine ih o' ?_ p1 p3 p4
        have := yNb_strict F (fun f => decide (o' f = 0)) (fun f => decide (o f = 0)) x hx (by rw [decide_eq_false_iff_not, hx1]; decide) (decide_eq_true hx0) (by
          intro f hf hh
          rw [decide_eq_true_iff] at hh ⊢
          rcases o1 f hf with q | q
          · exact q
          · have := (p2 f hf).2 q
            rw [hh] at this; exact absurd this (by decide))
        omega
      · rw [e]
        exact fin o' p1 p3 p4 (fun f hf h1 f' hf' hop => ee f hf h1 f' hf' hop) (d+1)) (F-0) 0 o 0 rfl (by omega) ⟨o1, fun x hx => ⟨o1 x hx, fun hh => hh⟩, o2, o3, Or.inr ⟨rfl, fun x hx => by omega⟩⟩
    exact this
end



-- the faces as masks
def yTm (g : Nat → Nat → Bool) (F : Nat) (fo ρ : Nat → Nat → Nat) (fb : Nat → Int32) : Prop :=
  ∀ f, f < F → ∃ x y, g x y = true ∧ fo x y = f ∧ ∀ w, w < 32 → (yM (fb f) w = true ↔ (w = x ∨ w = y ∨ w = ρ x y))
def yKy (fb : Nat → Int32) (f p q r : Nat) : Prop := p < q ∧ q < r ∧ r < 20 ∧ ∀ w, w < 32 → (yM (fb f) w = true ↔ (w = p ∨ w = q ∨ w = r))

theorem yTa_tm {g : Nat → Nat → Bool} {F : Nat} {fo ρ : Nat → Nat → Nat} {fa fb : Nat → Int32} (h : yTa g F fo ρ fa fb) : yTm g F fo ρ fb := by
  intro f hf
  obtain ⟨a, b, h1, h2, _, _, _, h6⟩ := h f hf
  exact ⟨a, b, h1, h2, h6⟩

theorem yTm_rev {n : Nat} {g : Nat → Nat → Bool} {F : Nat} {fo ρ : Nat → Nat → Nat} {fb : Nat → Int32} (h : yTg n g F fo ρ) (ht : yTm g F fo ρ fb) : yTm g F (fun x y => fo y x) (fun x y => ρ y x) fb := by
  intro f hf
  obtain ⟨x, y, h1, h2, h3⟩ := ht f hf
  refine ⟨y, x, by rw [h.2.2.1.2]; exact h1, h2, fun w hw => ?_⟩
  rw [h3 w hw]
  constructor
  · rintro (e | e | e)
    · exact Or.inr (Or.inl e)
    · exact Or.inl e
    · exact Or.inr (Or.inr e)
  · rintro (e | e | e)
    · exact Or.inr (Or.inl e)
    · exact Or.inl e
    · exact Or.inr (Or.inr e)

theorem ySort3 (x y z : Nat) (hx : x < 20) (hy : y < 20) (hz : z < 20) (hxy : x ≠ y) (hyz : y ≠ z) (hxz : x ≠ z) : ∃ p q r, p < q ∧ q < r ∧ r < 20 ∧ ∀ w, (w = x ∨ w = y ∨ w = z) ↔ (w = p ∨ w = q ∨ w = r) := by
  rcases Nat.lt_or_ge x y with a | a <;> rcases Nat.lt_or_ge y z with b | b <;> rcases Nat.lt_or_ge x z with c | c
  · exact ⟨x, y, z, a, b, hz, fun w => Iff.rfl⟩
  · omega
  · exact ⟨x, z, y, c, by omega, hy, fun w => by omega⟩
  · exact ⟨z, x, y, by omega, a, hy, fun w => by omega⟩
  · exact ⟨y, x, z, by omega, c, hz, fun w => by omega⟩
  · exact ⟨y, z, x, b, by omega, hx, fun w => by omega⟩
  · omega
  · exact ⟨z, y, x, by omega, by omega, hx, fun w => by omega⟩

section
variable {n F : Nat} {g : Nat → Nat → Bool} {fo ρ : Nat → Nat → Nat}

theorem yTm_ky (h : yTg n g F fo ρ) {fb : Nat → Int32} (ht : yTm g F fo ρ fb) {f : Nat} (hf : f < F) : ∃ p q r, yKy fb f p q r := by
  obtain ⟨x, y, h1, h2, h3⟩ := ht f hf
  have t := yTg_th h h1
  have g1 := yTg_gr h h1; have g2 := yTg_gr h t.2.1; have g3 := yTg_gr h t.2.2.1
  obtain ⟨p, q, r, s1, s2, s3, s4⟩ := ySort3 x y (ρ x y) g1.1 g1.2.1 g2.2.1 g1.2.2.1 g2.2.2.1 (Ne.symm g3.2.2.1)
  exact ⟨p, q, r, s1, s2, s3, fun w hw => (h3 w hw).trans (s4 w)⟩

-- the least face
theorem yKy_min (h : yTg n g F fo ρ) (hway : yWay g ρ) {fb : Nat → Int32} (ht : yTm g F fo ρ fb) {m : Nat} (hm : yLw g 0 m) {f p q r : Nat} (hf : f < F) (hk : yKy fb f p q r)
    (hmin : ∀ f' p' q' r', f' < F → yKy fb f' p' q' r' → 441 * p + 21 * q + r ≤ 441 * p' + 21 * q' + r') : p = 0 ∧ q = m ∧ r = ρ 0 m ∧ (4 ≤ n → f = fo 0 m) := by
  have hgs := h.2.2.1.2
  have gm := yTg_gr h hm.1
  have t := yTg_th h hm.1
  have hm0 : g m 0 = true := by rw [hgs]; exact hm.1
  have t' := yTg_th h hm0
  have g1 := yTg_gr h t.2.1; have g2 := yTg_gr h t.2.2.1
  have hge : ∀ x, g 0 x = true → m ≤ x := by
    intro x hx
    rcases Nat.lt_or_ge x m with e | e
    · have := hm.2 x e; rw [hx] at this; cases this
    · exact e
  have hmc : m < ρ 0 m := by
    have := hge (ρ 0 m) (by rw [hgs]; exact t.2.2.1)
    have := g1.2.2.1
    omega
  -- the face of 0 and m
  obtain ⟨x1, y1, k1, k2, k3⟩ := ht (fo 0 m) t.1
  have hset : ∀ w, (w = x1 ∨ w = y1 ∨ w = ρ x1 y1) ↔ (w = 0 ∨ w = m ∨ w = ρ 0 m) := by
    intro w
    rcases yTg_fo h hm.1 k1 k2 with e | e | e
    · rw [e.1, e.2]
    · rw [e.1, e.2, t.2.2.2.1]; omega
    · rw [e.1, e.2, t.2.2.2.2.1]; omega
  have hky : yKy fb (fo 0 m) 0 m (ρ 0 m) := ⟨by omega, hmc, by omega, fun w hw => (k3 w hw).trans (hset w)⟩
  have hle := hmin _ _ _ _ t.1 hky
  obtain ⟨s1, s2, s3, s4⟩ := hk
  have hp0 : p = 0 := by omega
  subst hp0
  -- the nodes of f
  obtain ⟨x, y, c1, c2, c3⟩ := ht f hf
  have tf := yTg_th h c1
  have hnb : ∀ w, w < 32 → w ≠ 0 → yM (fb f) w = true → g 0 w = true := by
    intro w hw hw0 hb
    have hb' := (c3 w hw).1 hb
    have h0' := (c3 0 (by omega)).1 ((s4 0 (by omega)).2 (Or.inl rfl))
    have a1 := c1; have a2 := tf.2.1; have a3 := tf.2.2.1
    have a1' : g y x = true := by rw [hgs]; exact a1
    have a2' : g (ρ x y) y = true := by rw [hgs]; exact a2
    have a3' : g x (ρ x y) = true := by rw [hgs]; exact a3
    rcases h0' with e | e | e <;> rcases hb' with e' | e' | e' <;> first | (exfalso; omega) | (rw [e, e']; assumption)
  have hq := hge q (hnb q (by omega) (by omega) ((s4 q (by omega)).2 (Or.inr (Or.inl rfl))))
  have hqm : q = m := by omega
  subst hqm
  -- the face has the step one way or the other
  have hstep : f = fo 0 q ∨ f = fo q 0 := by
    have hb0 := (c3 0 (by omega)).1 ((s4 0 (by omega)).2 (Or.inl rfl))
    have hbq := (c3 q (by omega)).1 ((s4 q (by omega)).2 (Or.inr (Or.inl rfl)))
    rcases hb0 with e | e | e <;> rcases hbq with e' | e' | e'
    · omega
    · left; rw [e, e', c2]
    · right; rw [e, e', tf.2.2.2.2.2.2, c2]
    · right; rw [e, e', c2]
    · omega
    · left; rw [e, e', tf.2.2.2.2.2.1, c2]
    · left; rw [e, e', tf.2.2.2.2.2.2, c2]
    · right; rw [e, e', tf.2.2.2.2.2.1, c2]
    · omega
  have hwayq := hway q hm
  have hmem : ∀ w, w < 32 → yM (fb f) w = true → (w = 0 ∨ w = q ∨ w = r) := fun w hw hb => (s4 w hw).1 hb
  have hthird : ∀ x' y', g x' y' = true → fo x' y' = f → yM (fb f) (ρ x' y') = true := by
    intro x' y' hxy hfe
    have g9 := yTg_gr h (yTg_th h hxy).2.1
    rw [c3 _ (by omega)]
    rcases yTg_fo h c1 hxy (hfe.trans c2.symm) with e | e | e
    · rw [e.1, e.2]; exact Or.inr (Or.inr rfl)
    · rw [e.1, e.2, tf.2.2.2.1]; exact Or.inl rfl
    · rw [e.1, e.2, tf.2.2.2.2.1]; exact Or.inr (Or.inl rfl)
  have g3 := yTg_gr h t'.2.1; have g4 := yTg_gr h t'.2.2.1
  rcases hstep with e | e
  · have hb := hmem _ (by omega) (hthird 0 q hm.1 e.symm)
    refine ⟨rfl, rfl, by omega, fun _ => e⟩
  · have hb := hmem _ (by omega) (hthird q 0 hm0 e.symm)
    have hr : r = ρ q 0 := by omega
    refine ⟨rfl, rfl, by omega, fun h4 => ?_⟩
    exfalso
    exact yTg_two h h4 hm.1 (by omega)

theorem w9_findOuter (h : yTg n g F fo ρ) (hway : yWay g ρ) {fb : Nat → Int32} (ht : yTm g F fo ρ fb) {m : Nat} (hm : yLw g 0 m)
    (i0 i1 i2 i3 i4 i5 i7 i8 i9 i10 i11 i12 i13 i14 i15 i16 i17 : Int32) (K : (Int32 × Int32 × Int32 × Int32) → Prop)
    (hK : ∀ f, f < F → (4 ≤ n → f = fo 0 m) → K (Int32.ofNat 0, Int32.ofNat m, Int32.ofNat (ρ 0 m), Int32.ofNat f)) :
    wX9_findOuter i0 i1 i2 i3 i4 i5 (Int32.ofNat F) i7 i8 i9 i10 i11 i12 i13 i14 i15 i16 i17 fb K := by
  have hn := h.2.1
  have hn3 := h.1
  have hF : F + 4 = 2 * n := h.2.2.2.2.2.2.2.2
  have key : ∀ d f t0 t1 t2 t3 best, F - f = d → f ≤ F → ((f = 0 ∧ best = 1000000) ∨ ∃ f' p q r, f' < f ∧ yKy fb f' p q r ∧ t0 = Int32.ofNat p ∧ t1 = Int32.ofNat q ∧ t2 = Int32.ofNat r ∧ t3 = Int32.ofNat f' ∧ best = Int32.ofNat (441*p+21*q+r) ∧
      ∀ f'' p' q' r', f'' < f → yKy fb f'' p' q' r' → 441*p+21*q+r ≤ 441*p'+21*q'+r') → wLX9_findOuter_5 (Int32.ofNat F) fb K (d+1) t0 t1 t2 t3 best (Int32.ofNat f) := by
    intro d
    induction d with
    | zero =>
      intro f t0 t1 t2 t3 best hd hf hI
      have : f = F := by omega
      subst this
      unfold wLX9_findOuter_5
      refine ⟨fun _ => ?_, fun hh => ?_⟩
      · rcases hI with ⟨e, _⟩ | ⟨f', p, q, r, a1, a2, a3, a4, a5, a6, a7, a8⟩
        · omega
        · obtain ⟨m1, m2, m3, m4⟩ := yKy_min h hway ht hm a1 a2 a8
          rw [a3, a4, a5, a6, m1, m2, m3]
          exact hK f' a1 m4
      · exfalso; apply hh; rw [yn_le (by omega) (by omega)]; omega
    | succ d ih =>
      intro f t0 t1 t2 t3 best hd hf hI
      obtain ⟨p, q, r, hky⟩ := yTm_ky h ht (show f < F by omega)
      obtain ⟨s1, s2, s3, s4⟩ := hky
      have e1 : Int32.ofNat f + 1 = Int32.ofNat (f+1) := yn_add f 1
      have m2 : ∀ w, w < 32 → (yM (fb f &&& (((1 : Int32) <<< (Int32.ofNat p &&& 31)) ^^^ (-1))) w = true ↔ (w = q ∨ w = r)) := by
        intro w hw
        rw [yM_and, Bool.and_eq_true, s4 w hw, yM_not _ w hw, yM_shl (by omega) w hw]
        simp only [Bool.not_eq_true', decide_eq_false_iff_not]
        omega
      have m3 : ∀ w, w < 32 → (yM ((fb f &&& (((1 : Int32) <<< (Int32.ofNat p &&& 31)) ^^^ (-1))) &&& (((1 : Int32) <<< (Int32.ofNat q &&& 31)) ^^^ (-1))) w = true ↔ w = r) := by
        intro w hw
        rw [yM_and, Bool.and_eq_true, m2 w hw, yM_not _ w hw, yM_shl (by omega) w hw]
        simp only [Bool.not_eq_true', decide_eq_false_iff_not]
        omega
      have fal : ∀ (x : Int32) (w : Nat), ¬ (yM x w = true) → yM x w = false := fun x w hh => by
        cases c : yM x w with
        | false => rfl
        | true => exact absurd c hh
      unfold wLX9_findOuter_5
      rw [e1, yn_nat (by omega)]
      refine ⟨fun hh => ?_, fun _ => ⟨yn_in (by omega) (by omega), ?_⟩⟩
      · exfalso; rw [yn_le (by omega) (by omega)] at hh; omega
      refine w9_least (k := p) (by omega) ((s4 p (by omega)).2 (Or.inl rfl)) (fun i hi => fal _ _ (fun hh => by have := (s4 i (by omega)).1 hh; omega)) _ ?_
      refine ⟨yn_in (by omega) (by omega), ?_⟩
      refine w9_least (k := q) (by omega) ((m2 q (by omega)).2 (Or.inl rfl)) (fun i hi => fal _ _ (fun hh => by have := (m2 i (by omega)).1 hh; omega)) _ ?_
      refine ⟨yn_in (by omega) (by omega), ?_⟩
      refine w9_least (k := r) (by omega) ((m3 r (by omega)).2 rfl) (fun i hi => fal _ _ (fun hh => by have := (m3 i (by omega)).1 hh; omega)) _ ?_
      intro v78 h78
      have e78 : v78 = Int32.ofNat (441*p+21*q+r) := by
        have a1 : (441 : Int32) = Int32.ofNat 441 := rfl
        have a2 : (21 : Int32) = Int32.ofNat 21 := rfl
        rw [h78, a1, a2, yn_mul, yn_mul, yn_add, yn_add]
        congr 1; omega
      have huniq : ∀ p' q' r', yKy fb f p' q' r' → p' = p ∧ q' = q ∧ r' = r := by
        rintro p' q' r' ⟨u1, u2, u3, u4⟩
        have b1 := (s4 p' (by omega)).1 ((u4 p' (by omega)).2 (Or.inl rfl))
        have b2 := (s4 q' (by omega)).1 ((u4 q' (by omega)).2 (Or.inr (Or.inl rfl)))
        have b3 := (s4 r' (by omega)).1 ((u4 r' (by omega)).2 (Or.inr (Or.inr rfl)))
        omega
      refine ⟨fun hle => ?_, fun hgt => ?_⟩
      · rcases hI with ⟨e, eb⟩ | ⟨f', p', q', r', a1, a2, a3, a4, a5, a6, a7, a8⟩
        · exfalso
          have em : (1000000 : Int32) = Int32.ofNat 1000000 := rfl
          rw [eb, e78, em, yn_le (by omega) (by omega)] at hle
          omega
        · refine ih (f+1) _ _ _ _ _ (by omega) (by omega) (Or.inr ⟨f', p', q', r', by omega, a2, a3, a4, a5, a6, a7, ?_⟩)
          have b3 := a2.2.2.1; have b2 := a2.2.1; have b1 := a2.1
          rw [a7, e78, yn_le (by omega) (by omega)] at hle
          intro f'' p2 q2 r2 hf'' hk2
          by_cases c : f'' = f
          · rw [c] at hk2
            obtain ⟨c1, c2, c3⟩ := huniq p2 q2 r2 hk2
            rw [c1, c2, c3]; exact hle
          · exact a8 f'' p2 q2 r2 (by omega) hk2
      · refine ih (f+1) _ _ _ _ _ (by clear hI; omega) (by clear hI; omega) (Or.inr ⟨f, p, q, r, by clear hI; omega, ⟨s1, s2, s3, s4⟩, rfl, rfl, rfl, rfl, e78, ?_⟩)
        intro f'' p2 q2 r2 hf'' hk2
        by_cases c : f'' = f
        · rw [c] at hk2
          obtain ⟨c1, c2, c3⟩ := huniq p2 q2 r2 hk2
          rw [c1, c2, c3]; exact Nat.le_refl _
        · rcases hI with ⟨e, eb⟩ | ⟨f', p', q', r', a1, a2, a3, a4, a5, a6, a7, a8⟩
          · omega
          · have b3 := a2.2.2.1; have b2 := a2.2.1; have b1 := a2.1
            rw [a7, e78, yn_le (by omega) (by omega)] at hgt
            have := a8 f'' p2 q2 r2 (by omega) hk2
            omega
  unfold wX9_findOuter
  have := key (F-0) 0 i13 i14 i15 i16 1000000 rfl (by omega) (Or.inl ⟨rfl, rfl⟩)
  exact ⟨_, this⟩
end


-- the places
def yXY (n : Nat) (g : Nat → Nat → Bool) (ρ : Nat → Nat → Nat) (a b c v x y : Nat) : Prop :=
  (v = a ∧ x = 2*n-5 ∧ y = 0) ∨ (v ≠ a ∧ v = b ∧ x = 0 ∧ y = 2*n-5) ∨ (v ≠ a ∧ v ≠ b ∧ v = c ∧ x = 0 ∧ y = 0) ∨ (v ≠ a ∧ v ≠ b ∧ v ≠ c ∧ yXr g ρ a b c v x ∧ yXr g (fun x y => ρ y x) b a c v y)

section
variable {n F : Nat} {g : Nat → Nat → Bool} {fo ρ : Nat → Nat → Nat}

theorem yXY_fun {a b c : Nat} (h : yTg n g F fo ρ) (hab : g a b = true) (hc : ρ a b = c) {v x y x' y' : Nat} (h1 : yXY n g ρ a b c v x y) (h2 : yXY n g ρ a b c v x' y') : x = x' ∧ y = y' := by
  have hba : g b a = true := by rw [h.2.2.1.2]; exact hab
  rcases h1 with e | e | e | e <;> rcases h2 with f | f | f | f
  · omega
  · exact absurd e.1 f.1
  · exact absurd e.1 f.1
  · exact absurd e.1 f.1
  · exact absurd f.1 e.1
  · omega
  · exact absurd e.2.1 f.2.1
  · exact absurd e.2.1 f.2.1
  · exact absurd f.1 e.1
  · exact absurd f.2.1 e.2.1
  · omega
  · exact absurd e.2.2.1 f.2.2.1
  · exact absurd f.1 e.1
  · exact absurd f.2.1 e.2.1
  · exact absurd f.2.2.1 e.2.2.1
  · exact ⟨yXr_fun h hab hc e.2.2.2.1 f.2.2.2.1, yXr_fun (yTg_rev h) hba hc e.2.2.2.2 f.2.2.2.2⟩

theorem yW2_sym (L : Nat) (x : Nat → Nat) (M : Nat) (z : Nat → Nat) (p q a b : Nat) : yW2 L x M z p q a b → yW2 L x M z p q b a := by
  rintro ((⟨i, hi, e⟩ | ⟨i, hi, e⟩) | e | e)
  · exact Or.inl (Or.inl ⟨i, hi, by rcases e with e | e; exact Or.inr ⟨e.2, e.1⟩; exact Or.inl ⟨e.2, e.1⟩⟩)
  · exact Or.inl (Or.inr ⟨i, hi, by rcases e with e | e; exact Or.inr ⟨e.2, e.1⟩; exact Or.inl ⟨e.2, e.1⟩⟩)
  · exact Or.inr (Or.inr ⟨e.2, e.1⟩)
  · exact Or.inr (Or.inl ⟨e.2, e.1⟩)

theorem yRea_rev (hgs : ∀ v w, g v w = g w v) {wall : Nat → Nat → Prop} (hw : ∀ x y, wall x y → wall y x) (o f : Nat) : yRea g (fun x y => fo y x) wall o f ↔ yRea g fo wall o f := by
  have key : ∀ f f', yOpn g (fun x y => fo y x) wall f f' ↔ yOpn g fo wall f f' := by
    intro f f'
    constructor
    · rintro ⟨x, y, h1, h2, h3, h4⟩
      exact ⟨y, x, by rw [hgs]; exact h1, h2, h3, fun hh => h4 (hw _ _ hh)⟩
    · rintro ⟨x, y, h1, h2, h3, h4⟩
      exact ⟨y, x, by rw [hgs]; exact h1, h2, h3, fun hh => h4 (hw _ _ hh)⟩
  unfold yRea
  constructor
  · intro hh V hV hc; exact hh V hV (fun f f' a b => hc f f' a ((key f f').1 b))
  · intro hh V hV hc; exact hh V hV (fun f f' a b => hc f f' a ((key f f').2 b))
end

-- the arrays go one way or the other
def yArr (g : Nat → Nat → Bool) (F : Nat) (fo ρ : Nat → Nat → Nat) (fa fb : Nat → Int32) : Prop := yTa g F fo ρ fa fb ∨ yTa g F (fun x y => fo y x) (fun x y => ρ y x) fa fb

section
variable {n F : Nat} {fl : Nat → Int32} {fo ρ : Nat → Nat → Nat}

theorem w9_draw125 (h : yTg n (yGm n fl) F fo ρ) {a b c of : Nat} (hab : yGm n fl a b = true) (hc : ρ a b = c) (hof : of < F) (hof4 : 4 ≤ n → of = fo a b) {fa fb : Nat → Int32} (hA : yArr (yGm n fl) F fo ρ fa fb)
    {T : Nat} {s : Nat → Nat} {rm : Nat → Nat → Nat} {kk pp : Nat → Nat} {lf rt up : Nat → Int32} (hD : yDw (yGm n fl) ρ a b c T s rm kk pp lf rt up) (hT : s T = 2)
    (i1 i2 i3 i4 i5 i7 i8 i9 i10 i11 i17 : Int32) (rim fresh : Nat → Int32)
    (K : (Int32 × Int32 × Int32 × Int32 × Int32 × (Nat → Int32) × (Nat → Int32) × (Nat → Int32) × (Nat → Int32) × (Nat → Int32) × (Nat → Int32) × (Nat → Int32) × (Nat → Int32) × (Nat → Int32)) → Prop)
    (hK : ∀ xs ys w o, (∀ v, v < n → ∃ x y, yXY n (yGm n fl) ρ a b c v x y ∧ xs v = Int32.ofNat x ∧ ys v = Int32.ofNat y) → K (Int32.ofNat 2, Int32.ofNat a, Int32.ofNat b, Int32.ofNat c, Int32.ofNat of, rim, lf, rt, fresh, up, xs, ys, w, o)) :
    ∀ d v ys w o xs, n - v = d → v ≤ n → (∀ u, u < v → ∃ x y, yXY n (yGm n fl) ρ a b c u x y ∧ xs u = Int32.ofNat x ∧ ys u = Int32.ofNat y) →
      wLX9_findDrawing_125 (Int32.ofNat n) i1 i2 i3 i4 i5 (Int32.ofNat F) i7 i8 i9 i10 i11 i17 fa (Int32.ofNat a, Int32.ofNat b, Int32.ofNat c, Int32.ofNat of) rim lf rt fresh up (Int32.ofNat 2) K (d+1) ys w o xs (Int32.ofNat v) := by
  have hn := h.2.1
  have hn3 := h.1
  have hgs := h.2.2.1.2
  have hba : yGm n fl b a = true := by rw [hgs]; exact hab
  have th := yTg_th h hab
  rw [hc] at th
  have gab := yTg_gr h hab; have gca := yTg_gr h th.2.2.1; have gbc := yTg_gr h th.2.1
  have h' := yTg_rev h
  have hD' := yDw_mir h hab hc hD
  have e5 : (2 : Int32) * Int32.ofNat n - 5 = Int32.ofNat (2*n-5) := by
    have a2 : (2 : Int32) = Int32.ofNat 2 := rfl
    have a5 : (5 : Int32) = Int32.ofNat 5 := rfl
    rw [a2, a5, yn_mul, yn_sub (by omega)]
  have h0eq : (0 : Int32) = Int32.ofNat 0 := rfl
  -- more than three nodes
  have h4 : ∀ v, v < n → v ≠ a → v ≠ b → v ≠ c → 4 ≤ n := by
    intro v hv h1 h2 h3
    have := yPig 4 n (fun i => if i = 0 then a else if i = 1 then b else if i = 2 then c else v) (fun i _ => by split <;> (try split) <;> (try split) <;> omega) (by
      intro i j hi hj he
      rcases (by omega : i = 0 ∨ i = 1 ∨ i = 2 ∨ i = 3) with e | e | e | e <;> rcases (by omega : j = 0 ∨ j = 1 ∨ j = 2 ∨ j = 3) with f | f | f | f <;> subst e <;> subst f <;> simp at he <;> first | rfl | (exfalso; omega))
    exact this
  -- what is counted to the right
  have hright : ∀ v, v < n → v ≠ a → v ≠ b → v ≠ c → ∀ w o K', (∀ x w' o', yXr (yGm n fl) ρ a b c v x → K' (Int32.ofNat x) (w', o')) →
      wX9_between_1 (Int32.ofNat n) i1 i2 i3 i4 i5 (Int32.ofNat F) i7 i8 i9 i10 i11 (Int32.ofNat 2) (Int32.ofNat a) (Int32.ofNat b) (Int32.ofNat c) (Int32.ofNat of) i17 w o fa up rt (Int32.ofNat v) (Int32.ofNat b) K' := by
    intro v hv h1 h2 h3 w o K' hK'
    obtain ⟨val, pos, L, x, M, z, k1, _, _, k2, k3, k4, k5, k6, k7, k8, _⟩ := yDw_val h hab hc hD hT hv h1 h2
    have hofe := hof4 (h4 v hv h1 h2 h3)
    rw [← hofe] at k8
    rcases hA with hA | hA
    · refine w9_between_1 h hA hof k2 k5 k3 k4 k6 k7 _ _ _ _ _ _ _ _ _ _ _ _ _ _ _ _ _ _ ?_
      intro w' o'
      rw [k8]; exact hK' val w' o' k1
    · refine w9_between_1 h' hA hof k2 k5 k3 k4 k6 k7 _ _ _ _ _ _ _ _ _ _ _ _ _ _ _ _ _ _ ?_
      intro w' o'
      have : yNb F (fun f => yD (¬ yRea (yGm n fl) (fun x y => fo y x) (yW2 L x M z b c) of f)) = val := by
        rw [← k8]
        apply yNb_congr
        intro f _
        rw [Bool.eq_iff_iff, yD_iff, yD_iff, yRea_rev hgs (yW2_sym L x M z b c)]
      rw [this]; exact hK' val w' o' k1
  -- what is counted to the left
  have hleft : ∀ v, v < n → v ≠ a → v ≠ b → v ≠ c → ∀ w o K', (∀ x w' o', yXr (yGm n fl) (fun x y => ρ y x) b a c v x → K' (Int32.ofNat x) (w', o')) →
      wX9_between (Int32.ofNat n) i1 i2 i3 i4 i5 (Int32.ofNat F) i7 i8 i9 i10 i11 (Int32.ofNat 2) (Int32.ofNat a) (Int32.ofNat b) (Int32.ofNat c) (Int32.ofNat of) i17 w o fa up lf (Int32.ofNat v) (Int32.ofNat a) K' := by
    intro v hv h1 h2 h3 w o K' hK'
    obtain ⟨val, pos, L, x, M, z, k1, _, _, k2, k3, k4, k5, k6, k7, k8, _⟩ := yDw_val h' hba hc hD' hT hv h2 h1
    have hofe := hof4 (h4 v hv h1 h2 h3)
    have k8' : yNb F (fun f => yD (¬ yRea (yGm n fl) (fun x y => fo y x) (yW2 L x M z a c) of f)) = val := by rw [hofe]; exact k8
    rcases hA with hA | hA
    · refine w9_between h hA hof k2 k5 k3 k4 k6 k7 _ _ _ _ _ _ _ _ _ _ _ _ _ _ _ _ _ _ ?_
      intro w' o'
      have : yNb F (fun f => yD (¬ yRea (yGm n fl) fo (yW2 L x M z a c) of f)) = val := by
        rw [← k8']
        apply yNb_congr
        intro f _
        rw [Bool.eq_iff_iff, yD_iff, yD_iff, yRea_rev hgs (yW2_sym L x M z a c)]
      rw [this]; exact hK' val w' o' k1
    · refine w9_between h' hA hof k2 k5 k3 k4 k6 k7 _ _ _ _ _ _ _ _ _ _ _ _ _ _ _ _ _ _ ?_
      intro w' o'
      rw [k8']; exact hK' val w' o' k1
  intro d
  induction d with
  | zero =>
    intro v ys w o xs hd hv hI
    have : v = n := by omega
    subst this
    unfold wLX9_findDrawing_125
    refine ⟨fun _ => hK xs ys w o hI, fun hh => ?_⟩
    exfalso; apply hh; rw [yn_le (by omega) (by omega)]; omega
  | succ d ih =>
    intro v ys w o xs hd hv hI
    have e1 : Int32.ofNat v + 1 = Int32.ofNat (v+1) := yn_add v 1
    have next : ∀ x y w' o', yXY n (yGm n fl) ρ a b c v x y → wLX9_findDrawing_125 (Int32.ofNat n) i1 i2 i3 i4 i5 (Int32.ofNat F) i7 i8 i9 i10 i11 i17 fa (Int32.ofNat a, Int32.ofNat b, Int32.ofNat c, Int32.ofNat of) rim lf rt fresh up (Int32.ofNat 2) K (d+1) (upd ys v (Int32.ofNat y)) w' o' (upd xs v (Int32.ofNat x)) (Int32.ofNat (v+1)) := by
      intro x y w' o' hxy
      refine ih (v+1) _ _ _ _ (by omega) (by omega) ?_
      intro u hu
      by_cases q : u = v
      · rw [q, yupd_same, yupd_same]; exact ⟨x, y, hxy, rfl, rfl⟩
      · rw [yupd_ne _ _ _ _ q, yupd_ne _ _ _ _ q]; exact hI u (by omega)
    have inv : ∀ {x y : Nat}, x < 100 → y < 100 → (Int32.ofNat x = Int32.ofNat y ↔ x = y) := fun hx hy => yn_inj (by omega) (by omega)
    unfold wLX9_findDrawing_125
    dsimp only
    rw [e1, e5, yn_nat (by omega), inv (by omega) (by omega), inv (by omega) (by omega), inv (by omega) (by omega)]
    refine ⟨fun hh => ?_, fun _ => ⟨fun ha => ⟨fun hb => ?_, fun hb => ⟨fun hc' => ?_, fun hc' => ?_⟩⟩, fun ha => ?_⟩⟩
    · exfalso; rw [yn_le (by omega) (by omega)] at hh; omega
    · -- the second corner
      refine ⟨yn_in (by omega) (by omega), fun g190 h190 => ⟨fun hh => absurd hb hh, fun _ => ⟨yn_in (by omega) (by omega), fun g248 h248 => ?_⟩⟩⟩
      rw [h190, h248]
      exact next 0 (2*n-5) w o (Or.inr (Or.inl ⟨ha, hb, rfl, rfl⟩))
    · -- a node within
      refine hright v (by omega) ha hb hc' w o _ ?_
      intro x w1 o1 hx
      refine ⟨yn_in (by omega) (by omega), fun g190 h190 => ⟨fun _ => ⟨fun hh => absurd hh ha, fun _ => ⟨fun _ => ?_, fun hh => absurd hh hc'⟩⟩, fun hh => absurd hh hb⟩⟩
      refine hleft v (by omega) ha hb hc' w1 o1 _ ?_
      intro y w2 o2 hy
      refine ⟨yn_in (by omega) (by omega), fun g248 h248 => ?_⟩
      rw [h190, h248]
      exact next x y w2 o2 (Or.inr (Or.inr (Or.inr ⟨ha, hb, hc', hx, hy⟩)))
    · -- the third corner
      refine ⟨yn_in (by omega) (by omega), fun g190 h190 => ⟨fun _ => ⟨fun hh => absurd hh ha, fun _ => ⟨fun hh => absurd hc' hh, fun _ => ⟨yn_in (by omega) (by omega), fun g248 h248 => ?_⟩⟩⟩, fun hh => absurd hh hb⟩⟩
      rw [h190, h248]
      exact next 0 0 w o (Or.inr (Or.inr (Or.inl ⟨ha, hb, hc', rfl, rfl⟩)))
    · -- the first corner
      have hvb : v ≠ b := by omega
      refine ⟨yn_in (by omega) (by omega), fun g190 h190 => ⟨fun _ => ⟨fun _ => ⟨yn_in (by omega) (by omega), fun g248 h248 => ?_⟩, fun hh => absurd ha hh⟩, fun hh => absurd hh hvb⟩⟩
      rw [h190, h248]
      exact next (2*n-5) 0 w o (Or.inl ⟨ha, rfl, rfl⟩)

theorem w9_findDrawing3 (h : yTg n (yGm n fl) F fo ρ) (hway : yWay (yGm n fl) ρ) {m : Nat} (hm : yLw (yGm n fl) 0 m) {fa fb : Nat → Int32} (hA : yArr (yGm n fl) F fo ρ fa fb) {ar as : Nat → Int32} (hR : yRnds n (yGm n fl) ρ ar as)
    (i1 i2 i3 i4 i5 i7 i8 i9 i10 i11 i12 i13 i14 i15 i16 i17 : Int32) (f19 f20 f21 f24 f25 f26 f27 f28 f29 : Nat → Int32)
    (K : (Int32 × Int32 × Int32 × Int32 × Int32 × (Nat → Int32) × (Nat → Int32) × (Nat → Int32) × (Nat → Int32) × (Nat → Int32) × (Nat → Int32) × (Nat → Int32) × (Nat → Int32) × (Nat → Int32)) → Prop)
    (hK : ∀ xs ys x0 x1 x2 x3 x4 x5 x6 x7 x8 x9 w o, (∀ v, v < n → ∃ x y, yXY n (yGm n fl) ρ 0 m (ρ 0 m) v x y ∧ xs v = Int32.ofNat x ∧ ys v = Int32.ofNat y) → K (x0, x1, x2, x3, x4, x5, x6, x7, x8, x9, xs, ys, w, o)) :
    wX9_findDrawing (Int32.ofNat n) i1 i2 i3 i4 i5 (Int32.ofNat F) i7 i8 i9 i10 i11 i12 i13 i14 i15 i16 i17 fb f19 f20 f21 ar as f24 f25 f26 f27 f28 f29 fa fl K := by
  have hn := h.2.1
  have hn3 := h.1
  have h3eq : (3 : Int32) = Int32.ofNat 3 := rfl
  have h0eq : (0 : Int32) = Int32.ofNat 0 := rfl
  have n0 : Int32.toNatClampNeg (0 : Int32) = 0 := yn_nat (by omega : (0 : Nat) < 2147483648)
  have n1 : Int32.toNatClampNeg (1 : Int32) = 1 := yn_nat (by omega : (1 : Nat) < 2147483648)
  have n2 : Int32.toNatClampNeg (2 : Int32) = 2 := yn_nat (by omega : (2 : Nat) < 2147483648)
  have htm : yTm (yGm n fl) F fo ρ fb := by
    rcases hA with hA | hA
    · exact yTa_tm hA
    · exact yTm_rev (yTg_rev h) (yTa_tm hA)
  unfold wX9_findDrawing
  refine ⟨fun _ => ?_, fun hh => ?_⟩
  · refine w9_findOuter h hway htm hm _ _ _ _ _ _ _ _ _ _ _ _ _ _ _ _ _ _ ?_
    intro of hof hof4
    intro g52 h52 g62 h62 g72 h72
    rw [n0] at h52; rw [n1] at h62; rw [n2] at h72
    have hrun : yDw (yGm n fl) ρ 0 m (ρ 0 m) 0 (fun _ => 3) (fun _ i => if i = 0 then 0 else if i = 1 then ρ 0 m else m) (fun _ => 0) (fun _ => 0) f20 f21 f25 :=
      ⟨⟨rfl, rfl, rfl, rfl, fun t ht => by omega⟩, fun τ hτ => by omega⟩
    have := w9_draw80 h hm.1 rfl hR i1 i2 i3 i4 i5 (Int32.ofNat F) i7 i8 i9 i10 i11 i17 f26 f27 f28 f29 fa (Int32.ofNat 0, Int32.ofNat m, Int32.ofNat (ρ 0 m), Int32.ofNat of) K (by
      intro T s rm kk pp lf rt up rim fresh hD hT
      have := w9_draw125 h hm.1 rfl hof hof4 hA hD hT i1 i2 i3 i4 i5 i7 i8 i9 i10 i11 i17 rim fresh K (by
        intro xs ys w o hI
        exact hK xs ys _ _ _ _ _ _ _ _ _ _ w o hI) (n-0) 0 f27 f28 f29 f26 rfl (by omega) (fun u hu => by omega)
      exact ⟨_, this⟩) n 0 (fun _ => 3) _ (fun _ => 0) (fun _ => 0) g72 f20 f21 f24 f25 0 (by omega) hrun (by
      intro i hi
      have hi' : i < 3 := hi
      rcases (by omega : i = 0 ∨ i = 1 ∨ i = 2) with e | e | e <;> subst e
      · rw [h72, yupd_ne _ _ _ _ (by omega), h62, yupd_ne _ _ _ _ (by omega), h52, yupd_same]; rfl
      · rw [h72, yupd_ne _ _ _ _ (by omega), h62, yupd_same]; rfl
      · rw [h72, yupd_same]; rfl) (by
      intro x _
      rw [yM_zero]
      constructor
      · intro hh; cases hh
      · rintro ⟨τ, hτ, _⟩; omega)
    exact ⟨_, this⟩
  · exfalso; apply hh; rw [h3eq, yn_le (by omega) (by omega)]; omega
end


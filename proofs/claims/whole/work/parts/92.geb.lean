
theorem yz_int {z : Int} (h1 : -10000 ≤ z) (h2 : z ≤ 10000) : (Int32.ofInt z).toInt = z := Int32.toInt_ofInt_of_le (by omega) (by omega)
theorem yz_le {z : Int} (h1 : -10000 ≤ z) (h2 : z ≤ 10000) : Int32.ofInt z ≤ 0 ↔ z ≤ 0 := by
  rw [Int32.le_iff_toInt_le, yz_int h1 h2]; exact Iff.rfl
theorem yz_ge {z : Int} (h1 : -10000 ≤ z) (h2 : z ≤ 10000) : 0 ≤ Int32.ofInt z ↔ 0 ≤ z := by
  rw [Int32.le_iff_toInt_le, yz_int h1 h2]; exact Iff.rfl
theorem yz_gt {z : Int} (h1 : -10000 ≤ z) (h2 : z ≤ 10000) : 0 < Int32.ofInt z ↔ 0 < z := by
  rw [Int32.lt_iff_toInt_lt, yz_int h1 h2]; exact Iff.rfl
theorem yz_eq {z : Int} (h1 : -10000 ≤ z) (h2 : z ≤ 10000) : Int32.ofInt z = 0 ↔ z = 0 := by
  rw [← Int32.toInt_inj, yz_int h1 h2]; exact Iff.rfl

theorem yz_mul {a b : Int} (a1 : -60 ≤ a) (a2 : a ≤ 60) (b1 : -60 ≤ b) (b2 : b ≤ 60) : -3600 ≤ a * b ∧ a * b ≤ 3600 := by
  have h : (a*b).natAbs ≤ 60 * 60 := by
    rw [Int.natAbs_mul]; exact Nat.mul_le_mul (by omega) (by omega)
  omega

-- places: X, Y
def yXs (N : Nat) (X Y : Nat → Nat) (xs ys : Nat → Int32) : Prop := ∀ v, v < N → xs v = Int32.ofNat (X v) ∧ ys v = Int32.ofNat (Y v) ∧ X v ≤ 60 ∧ Y v ≤ 60
def yCr3 (X Y : Nat → Nat) (p q r : Nat) : Int := yCrs (X p) (Y p) (X q) (Y q) (X r) (Y r)
def yDot (X Y : Nat → Nat) (p q r : Nat) : Int := ((X q : Int) - X p) * ((X r : Int) - X p) + ((Y q : Int) - Y p) * ((Y r : Int) - Y p)
def yOvl (X Y : Nat → Nat) (p q r : Nat) : Prop := yCr3 X Y p q r = 0 ∧ 0 < yDot X Y p q r
def yWth (X Y : Nat → Nat) (p q r : Nat) : Prop := yCr3 X Y p q r = 0 ∧ yBtw (X p) (X q) (X r) ∧ yBtw (Y p) (Y q) (Y r)

section
variable {N : Nat} {X Y : Nat → Nat} {xs ys : Nat → Int32}

theorem yCr3_b (h : yXs N X Y xs ys) {p q r : Nat} (hp : p < N) (hq : q < N) (hr : r < N) : -10000 ≤ yCr3 X Y p q r ∧ yCr3 X Y p q r ≤ 10000 := by
  have a := h p hp; have b := h q hq; have c := h r hr
  have h1 := yz_mul (a := (X q : Int) - X p) (b := (Y r : Int) - Y p) (by omega) (by omega) (by omega) (by omega)
  have h2 := yz_mul (a := (X r : Int) - X p) (b := (Y q : Int) - Y p) (by omega) (by omega) (by omega) (by omega)
  unfold yCr3 yCrs
  omega

theorem yDot_b (h : yXs N X Y xs ys) {p q r : Nat} (hp : p < N) (hq : q < N) (hr : r < N) : -10000 ≤ yDot X Y p q r ∧ yDot X Y p q r ≤ 10000 := by
  have a := h p hp; have b := h q hq; have c := h r hr
  have h1 := yz_mul (a := (X q : Int) - X p) (b := (X r : Int) - X p) (by omega) (by omega) (by omega) (by omega)
  have h2 := yz_mul (a := (Y q : Int) - Y p) (b := (Y r : Int) - Y p) (by omega) (by omega) (by omega) (by omega)
  unfold yDot
  omega

theorem yCr3_eq (h : yXs N X Y xs ys) {p q r : Nat} (hp : p < N) (hq : q < N) (hr : r < N) : ((xs q) - (xs p)) * ((ys r) - (ys p)) - ((xs r) - (xs p)) * ((ys q) - (ys p)) = Int32.ofInt (yCr3 X Y p q r) := by
  unfold yCr3 yCrs
  rw [Int32.ofInt_sub, Int32.ofInt_mul, Int32.ofInt_mul, Int32.ofInt_sub, Int32.ofInt_sub, Int32.ofInt_sub, Int32.ofInt_sub]
  simp only [Int32.ofInt_eq_ofNat]
  rw [(h p hp).1, (h p hp).2.1, (h q hq).1, (h q hq).2.1, (h r hr).1, (h r hr).2.1]

theorem yDot_eq (h : yXs N X Y xs ys) {p q r : Nat} (hp : p < N) (hq : q < N) (hr : r < N) : ((xs q) - (xs p)) * ((xs r) - (xs p)) + ((ys q) - (ys p)) * ((ys r) - (ys p)) = Int32.ofInt (yDot X Y p q r) := by
  unfold yDot
  rw [Int32.ofInt_add, Int32.ofInt_mul, Int32.ofInt_mul, Int32.ofInt_sub, Int32.ofInt_sub, Int32.ofInt_sub, Int32.ofInt_sub]
  simp only [Int32.ofInt_eq_ofNat]
  rw [(h p hp).1, (h p hp).2.1, (h q hq).1, (h q hq).2.1, (h r hr).1, (h r hr).2.1]


theorem w0_area (hN : N ≤ 20) (h : yXs N X Y xs ys) {p q r : Nat} (hp : p < N) (hq : q < N) (hr : r < N) (i0 i1 i2 i3 : Int32) (K : Int32 → Unit → Prop) (hK : K (Int32.ofInt (yCr3 X Y p q r)) ()) : wX0_area i0 i1 i2 i3 xs ys (Int32.ofNat p) (Int32.ofNat q) (Int32.ofNat r) K := by
  unfold wX0_area
  rw [yn_nat (by omega), yn_nat (by omega), yn_nat (by omega), yCr3_eq h hp hq hr]
  exact ⟨yn_in (by omega) (by omega), yn_in (by omega) (by omega), yn_in (by omega) (by omega), yn_in (by omega) (by omega), yn_in (by omega) (by omega), yn_in (by omega) (by omega), yn_in (by omega) (by omega), yn_in (by omega) (by omega), hK⟩

theorem w0_overlap (hN : N ≤ 20) (h : yXs N X Y xs ys) {p q r : Nat} (hp : p < N) (hq : q < N) (hr : r < N) (i0 i1 i2 i3 : Int32) (K : Int32 → Unit → Prop) (hK1 : yOvl X Y p q r → K 1 ()) (hK0 : ¬ yOvl X Y p q r → K 0 ()) : wX0_overlap i0 i1 i2 i3 xs ys (Int32.ofNat p) (Int32.ofNat q) (Int32.ofNat r) K := by
  unfold wX0_overlap
  have b1 := yCr3_b h hp hq hr
  have b2 := yDot_b h hp hq hr
  rw [yn_nat (by omega), yn_nat (by omega), yn_nat (by omega), yDot_eq h hp hq hr]
  refine ⟨yn_in (by omega) (by omega), yn_in (by omega) (by omega), yn_in (by omega) (by omega), yn_in (by omega) (by omega), yn_in (by omega) (by omega), yn_in (by omega) (by omega), yn_in (by omega) (by omega), yn_in (by omega) (by omega), fun v hv => w0_area hN h hp hq hr _ _ _ _ _ ?_⟩
  rw [hv, yz_eq b1.1 b1.2, yz_le b2.1 b2.2]
  unfold yOvl at hK1 hK0
  exact ⟨fun c => hK0 (fun hh => c hh.1), fun c => ⟨fun d => hK0 (fun hh => by omega), fun d => hK1 ⟨c, by omega⟩⟩⟩

theorem w0_onOneSide (hN : N ≤ 20) (h : yXs N X Y xs ys) {p q r s : Nat} (hp : p < N) (hq : q < N) (hr : r < N) (hs : s < N) (i0 i1 i2 i3 : Int32) (K : Int32 → Unit → Prop) (hK1 : yOne (yCr3 X Y p q r) (yCr3 X Y p q s) → K 1 ()) (hK0 : ¬ yOne (yCr3 X Y p q r) (yCr3 X Y p q s) → K 0 ()) : wX0_onOneSide i0 i1 i2 i3 xs ys (Int32.ofNat p) (Int32.ofNat q) (Int32.ofNat r) (Int32.ofNat s) K := by
  unfold wX0_onOneSide
  have b1 := yCr3_b h hp hq hr
  have b2 := yCr3_b h hp hq hs
  refine w0_area hN h hp hq hr _ _ _ _ _ (w0_area hN h hp hq hs _ _ _ _ _ ?_)
  rw [yz_le b1.1 b1.2, yz_ge b1.1 b1.2, yz_ge b2.1 b2.2, yz_gt b2.1 b2.2]
  unfold yOne at hK1 hK0
  refine ⟨fun c => ⟨fun d => hK0 (by omega), fun d => ⟨fun e => hK0 (by omega), fun e => hK1 (by omega)⟩⟩, fun c => ⟨fun d => hK1 (by omega), fun d => ⟨fun e => hK0 (by omega), fun e => ⟨fun f => hK0 (by omega), fun f => hK1 (by omega)⟩⟩⟩⟩

theorem yn_max {a b : Nat} (ha : a < 2147483648) (hb : b < 2147483648) : (if Int32.ofNat a < Int32.ofNat b then Int32.ofNat b else Int32.ofNat a) = Int32.ofNat (max a b) := by
  by_cases c : a < b
  · rw [if_pos ((yn_lt ha hb).2 c), Nat.max_eq_right (by omega)]
  · rw [if_neg (fun h => c ((yn_lt ha hb).1 h)), Nat.max_eq_left (by omega)]
theorem yn_min {a b : Nat} (ha : a < 2147483648) (hb : b < 2147483648) : (if Int32.ofNat b < Int32.ofNat a then Int32.ofNat b else Int32.ofNat a) = Int32.ofNat (min a b) := by
  by_cases c : b < a
  · rw [if_pos ((yn_lt hb ha).2 c), Nat.min_eq_right (by omega)]
  · rw [if_neg (fun h => c ((yn_lt hb ha).1 h)), Nat.min_eq_left (by omega)]

-- lines with no node in common
def yCut4 (X Y : Nat → Nat) (p q r s : Nat) : Prop :=
  yWth X Y p q r ∨ yWth X Y p q s ∨ yWth X Y r s p ∨ yWth X Y r s q ∨ (yOpp (yCr3 X Y p q r) (yCr3 X Y p q s) ∧ yOpp (yCr3 X Y r s p) (yCr3 X Y r s q))

theorem w0_meet (hN : N ≤ 20) (h : yXs N X Y xs ys) {p q r s : Nat} (hp : p < N) (hq : q < N) (hr : r < N) (hs : s < N) (i0 i1 i2 i3 : Int32) (K : Int32 → Unit → Prop) (hK1 : yCut4 X Y p q r s → K 1 ()) (hK0 : ¬ yCut4 X Y p q r s → K 0 ()) : wX0_meet i0 i1 i2 i3 xs ys (Int32.ofNat p) (Int32.ofNat q) (Int32.ofNat r) (Int32.ofNat s) K := by
  have hg := yGeo (X p) (Y p) (X q) (Y q) (X r) (Y r) (X s) (Y s)
  have a := h p hp; have b := h q hq; have c := h r hr; have d := h s hs
  have vp := yn_in (n := p) (N := 20) (by omega) (by omega)
  have vq := yn_in (n := q) (N := 20) (by omega) (by omega)
  have vr := yn_in (n := r) (N := 20) (by omega) (by omega)
  have vs := yn_in (n := s) (N := 20) (by omega) (by omega)
  unfold wX0_meet
  rw [yn_nat (by omega), yn_nat (by omega), yn_nat (by omega), yn_nat (by omega), a.1, a.2.1, b.1, b.2.1, c.1, c.2.1, d.1, d.2.1]
  rw [yn_max (a := X p) (b := X q) (by omega) (by omega), yn_min (a := X r) (b := X s) (by omega) (by omega), yn_max (a := X r) (b := X s) (by omega) (by omega), yn_min (a := X p) (b := X q) (by omega) (by omega),
    yn_max (a := Y p) (b := Y q) (by omega) (by omega), yn_min (a := Y r) (b := Y s) (by omega) (by omega), yn_max (a := Y r) (b := Y s) (by omega) (by omega), yn_min (a := Y p) (b := Y q) (by omega) (by omega)]
  rw [yn_lt (a := max (X p) (X q)) (by omega) (by omega), yn_lt (a := max (X r) (X s)) (by omega) (by omega), yn_lt (a := max (Y p) (Y q)) (by omega) (by omega), yn_le (a := min (Y p) (Y q)) (by omega) (by omega)]
  have hno : ¬ (yBox (X p) (X q) (X r) (X s) ∧ yBox (Y p) (Y q) (Y r) (Y s) ∧ ¬ yOne (yCr3 X Y p q r) (yCr3 X Y p q s) ∧ ¬ yOne (yCr3 X Y r s p) (yCr3 X Y r s q)) → K 0 () := fun hh => hK0 (fun hc => hh (hg.2 hc))
  refine ⟨vp, vq, vr, vs, fun e1 => hno (fun hh => ?_), fun e1 => ⟨vr, vs, vp, vq, fun e2 => hno (fun hh => ?_), fun e2 => ⟨vp, vq, vr, vs, fun e3 => hno (fun hh => ?_), fun e3 => ⟨vr, vs, vp, vq, fun e4 => ?_, fun e4 => hno (fun hh => ?_)⟩⟩⟩⟩
  · have := hh.1; unfold yBox at this; omega
  · have := hh.1; unfold yBox at this; omega
  · have := hh.2.1; unfold yBox at this; omega
  · refine w0_onOneSide hN h hp hq hr hs _ _ _ _ _ (fun o1 => ⟨fun _ => hno (fun hh => hh.2.2.1 o1), fun z => absurd z (by decide)⟩) (fun o1 => ⟨fun z => absurd rfl z, fun _ => ?_⟩)
    refine w0_onOneSide hN h hr hs hp hq _ _ _ _ _ (fun o2 => ⟨fun _ => hno (fun hh => hh.2.2.2 o2), fun z => absurd z (by decide)⟩) (fun o2 => ⟨fun z => absurd rfl z, fun _ => hK1 (hg.1 ⟨?_, ?_, o1, o2⟩)⟩)
    · unfold yBox; omega
    · unfold yBox; omega
  · have := hh.2.1; unfold yBox at this; omega

-- two arcs with more than a node in common
def yMor (X Y : Nat → Nat) (a b c d : Nat) : Prop :=
  if a = c then yOvl X Y a b d else if a = d then yOvl X Y a b c else if b = c then yOvl X Y b a d else if b = d then yOvl X Y b a c else yCut4 X Y a b c d

theorem yOvl_sym (X Y : Nat → Nat) (p q r : Nat) : yOvl X Y p q r ↔ yOvl X Y p r q := by
  have e1 : yCr3 X Y p r q = - yCr3 X Y p q r := by unfold yCr3 yCrs; grind
  have e2 : yDot X Y p r q = yDot X Y p q r := by unfold yDot; grind
  unfold yOvl; rw [e1, e2]; omega

theorem yMor_sym {X Y : Nat → Nat} {a b c d : Nat} (hab : a ≠ b) (hcd : c ≠ d) (hal : ¬ ((a = c ∧ b = d) ∨ (a = d ∧ b = c))) : yMor X Y a b c d ↔ yMor X Y c d a b := by
  unfold yMor
  by_cases h1 : a = c
  · subst h1
    rw [if_pos rfl, if_pos rfl]; exact yOvl_sym X Y a b d
  · by_cases h2 : a = d
    · subst h2
      rw [if_neg h1, if_pos rfl, if_neg (by omega), if_neg (by omega), if_pos rfl]; exact yOvl_sym X Y a b c
    · by_cases h3 : b = c
      · subst h3
        rw [if_neg h1, if_neg h2, if_pos rfl, if_neg (by omega), if_pos rfl]; exact yOvl_sym X Y b a d
      · by_cases h4 : b = d
        · subst h4
          rw [if_neg h1, if_neg h2, if_neg h3, if_pos rfl, if_neg (by omega), if_neg (by omega), if_neg (by omega), if_pos rfl]; exact yOvl_sym X Y b a c
        · rw [if_neg h1, if_neg h2, if_neg h3, if_neg h4, if_neg (by omega), if_neg (by omega), if_neg (by omega), if_neg (by omega)]
          unfold yCut4
          constructor
          · rintro (g | g | g | g | ⟨g1, g2⟩)
            · exact Or.inr (Or.inr (Or.inl g))
            · exact Or.inr (Or.inr (Or.inr (Or.inl g)))
            · exact Or.inl g
            · exact Or.inr (Or.inl g)
            · exact Or.inr (Or.inr (Or.inr (Or.inr ⟨g2, g1⟩)))
          · rintro (g | g | g | g | ⟨g1, g2⟩)
            · exact Or.inr (Or.inr (Or.inl g))
            · exact Or.inr (Or.inr (Or.inr (Or.inl g)))
            · exact Or.inl g
            · exact Or.inr (Or.inl g)
            · exact Or.inr (Or.inr (Or.inr (Or.inr ⟨g2, g1⟩)))

theorem w9_side (hN : N ≤ 20) (h : yXs N X Y xs ys) {p q r : Nat} (hp : p < N) (hq : q < N) (hr : r < N) (i0 i1 i2 i3 i4 i5 i6 i7 i8 i9 i10 i11 i12 i13 i14 i15 i16 i17 : Int32) (K : Int32 → Unit → Prop) (h1 : 0 < yCr3 X Y p q r → K 1 ()) (h2 : yCr3 X Y p q r < 0 → K (-1) ()) (h3 : yCr3 X Y p q r = 0 → K 0 ()) :
    wX9_side i0 i1 i2 i3 i4 i5 i6 i7 i8 i9 i10 i11 i12 i13 i14 i15 i16 i17 xs ys (Int32.ofNat p) (Int32.ofNat q) (Int32.ofNat r) K := by
  unfold wX9_side
  have b := yCr3_b h hp hq hr
  have e := yCr3_eq h hp hq hr
  have e' : ((xs q) - (xs p)) * ((ys r) - (ys p)) - ((ys q) - (ys p)) * ((xs r) - (xs p)) = Int32.ofInt (yCr3 X Y p q r) := by
    rw [← e, Int32.mul_comm (ys q - ys p)]
  rw [yn_nat (by omega), yn_nat (by omega), yn_nat (by omega), e']
  refine ⟨yn_in (by omega) (by omega), yn_in (by omega) (by omega), yn_in (by omega) (by omega), yn_in (by omega) (by omega), yn_in (by omega) (by omega), yn_in (by omega) (by omega), yn_in (by omega) (by omega), yn_in (by omega) (by omega), fun v hv => ?_⟩
  rw [hv, yz_le b.1 b.2, yz_ge b.1 b.2]
  exact ⟨fun c => ⟨fun d => h3 (by omega), fun d => h2 (by omega)⟩, fun c => h1 (by omega)⟩

set_option maxHeartbeats 4000000 in
theorem w9_isWithin (hN : N ≤ 20) (h : yXs N X Y xs ys) {p q r : Nat} (hp : p < N) (hq : q < N) (hr : r < N) (i0 i1 i2 i3 i4 i5 i6 i7 i8 i9 i10 i11 i12 i13 i14 i15 i16 i17 : Int32) (K : Int32 → Unit → Prop) (hK1 : yWth X Y p q r → K 1 ()) (hK0 : ¬ yWth X Y p q r → K 0 ()) :
    wX9_isWithin i0 i1 i2 i3 i4 i5 i6 i7 i8 i9 i10 i11 i12 i13 i14 i15 i16 i17 xs ys (Int32.ofNat p) (Int32.ofNat q) (Int32.ofNat r) K := by
  have a := h p hp; have b := h q hq; have c := h r hr
  have vp := yn_in (n := p) (N := 20) (by omega) (by omega)
  have vq := yn_in (n := q) (N := 20) (by omega) (by omega)
  have vr := yn_in (n := r) (N := 20) (by omega) (by omega)
  have leaf0 : ¬ (((X p ≤ X r ∧ X r ≤ X q) ∨ (X q ≤ X r ∧ X r ≤ X p)) ∧ ((Y p ≤ Y r ∧ Y r ≤ Y q) ∨ (Y q ≤ Y r ∧ Y r ≤ Y p))) → wX9_side i0 i1 i2 i3 i4 i5 i6 i7 i8 i9 i10 i11 i12 i13 i14 i15 i16 i17 xs ys (Int32.ofNat p) (Int32.ofNat q) (Int32.ofNat r) (fun r184 _ => ((¬ r184 = 0 → K (0 : Int32) ()) ∧ (r184 = 0 → K (0 : Int32) ()))) := by
    intro hn
    have hk : K 0 () := hK0 (fun hw => hn (by have h2 := hw.2; unfold yBtw at h2; omega))
    exact w9_side hN h hp hq hr _ _ _ _ _ _ _ _ _ _ _ _ _ _ _ _ _ _ _ (fun _ => ⟨fun _ => hk, fun _ => hk⟩) (fun _ => ⟨fun _ => hk, fun _ => hk⟩) (fun _ => ⟨fun _ => hk, fun _ => hk⟩)
  have leaf1 : (((X p ≤ X r ∧ X r ≤ X q) ∨ (X q ≤ X r ∧ X r ≤ X p)) ∧ ((Y p ≤ Y r ∧ Y r ≤ Y q) ∨ (Y q ≤ Y r ∧ Y r ≤ Y p))) → wX9_side i0 i1 i2 i3 i4 i5 i6 i7 i8 i9 i10 i11 i12 i13 i14 i15 i16 i17 xs ys (Int32.ofNat p) (Int32.ofNat q) (Int32.ofNat r) (fun r184 _ => ((¬ r184 = 0 → K (0 : Int32) ()) ∧ (r184 = 0 → K (1 : Int32) ()))) := by
    intro hy
    have hy' : yBtw (X p) (X q) (X r) ∧ yBtw (Y p) (Y q) (Y r) := by unfold yBtw; omega
    refine w9_side hN h hp hq hr _ _ _ _ _ _ _ _ _ _ _ _ _ _ _ _ _ _ _ (fun z => ⟨fun _ => hK0 (fun hw => by have := hw.1; omega), fun z => absurd z (by decide)⟩) (fun z => ⟨fun _ => hK0 (fun hw => by have := hw.1; omega), fun z => absurd z (by decide)⟩) (fun z => ⟨fun z => absurd rfl z, fun _ => hK1 ⟨z, hy'⟩⟩)
  unfold wX9_isWithin
  rw [yn_nat (by omega), yn_nat (by omega), yn_nat (by omega), a.1, a.2.1, b.1, b.2.1, c.1, c.2.1]
  rw [yn_le (a := X q) (b := X p) (by omega) (by omega), yn_lt (a := X r) (b := X q) (by omega) (by omega), yn_lt (a := X p) (b := X r) (by omega) (by omega), yn_lt (a := X r) (b := X p) (by omega) (by omega), yn_lt (a := X q) (b := X r) (by omega) (by omega),
    yn_le (a := Y q) (b := Y p) (by omega) (by omega), yn_lt (a := Y r) (b := Y q) (by omega) (by omega), yn_lt (a := Y p) (b := Y r) (by omega) (by omega), yn_lt (a := Y r) (b := Y p) (by omega) (by omega), yn_lt (a := Y q) (b := Y r) (by omega) (by omega)]
  clear hK1 hK0
  repeat' (first | exact vp | exact vq | exact vr | exact leaf0 (by omega) | exact leaf1 (by omega) | apply And.intro | intro _)
end


section
variable {N M : Nat} {F T : Nat → Nat} {al : Nat → Bool} {X Y : Nat → Nat} {xs ys : Nat → Int32}

theorem w8_more (hN : N ≤ 20) (hM : M ≤ 80) (hF : ∀ k, k < M → F k < N ∧ T k < N) {at' : Nat → Int32} (hA : yAt M F T at') (h : yXs N X Y xs ys) {k m : Nat} (hk : k < M) (hm : m < M) (i0 i1 i2 i3 i4 i5 i6 i7 i9 i10 i11 i12 : Int32) (K : Int32 → Unit → Prop)
    (hK1 : yMor X Y (F k) (T k) (F m) (T m) → K 1 ()) (hK0 : ¬ yMor X Y (F k) (T k) (F m) (T m) → K 0 ()) : wX8_haveMorePoints i0 i1 i2 i3 i4 i5 i6 i7 at' i9 i10 i11 i12 xs ys (Int32.ofNat k) (Int32.ofNat m) K := by
  have a := hF k hk; have b := hF m hm
  unfold wX8_haveMorePoints
  rw [yn_21', yn_21', yn_2, yn_2, yn_nat (by omega), yn_nat (by omega), yn_nat (by omega), yn_nat (by omega), (hA k hk).1, (hA k hk).2, (hA m hm).1, (hA m hm).2]
  refine ⟨yn_in (by omega) (by omega), fun v11 h11 => ⟨yn_in (by omega) (by omega), fun v25 h25 => ⟨yn_in (by omega) (by omega), fun v38 h38 => ⟨yn_in (by omega) (by omega), fun v53 h53 => ?_⟩⟩⟩⟩
  rw [h11, h25, h38, h53, yn_inj (a := F k) (b := F m) (by omega) (by omega), yn_inj (a := F k) (b := T m) (by omega) (by omega), yn_inj (a := T k) (b := F m) (by omega) (by omega), yn_inj (a := T k) (b := T m) (by omega) (by omega)]
  unfold yMor at hK1 hK0
  refine ⟨fun c1 => ⟨fun c2 => ⟨fun c3 => ⟨fun c4 => ?_, fun c4 => ?_⟩, fun c3 => ?_⟩, fun c2 => ?_⟩, fun c1 => ?_⟩
  · rw [if_neg c1, if_neg c2, if_neg c3, if_neg c4] at hK1 hK0
    exact w0_meet hN h a.1 a.2 b.1 b.2 _ _ _ _ _ (fun q => ⟨rfl, hK1 q⟩) (fun q => ⟨rfl, hK0 q⟩)
  · rw [if_neg c1, if_neg c2, if_neg c3, if_pos c4] at hK1 hK0
    exact w0_overlap hN h a.2 a.1 b.1 _ _ _ _ _ (fun q => ⟨rfl, hK1 q⟩) (fun q => ⟨rfl, hK0 q⟩)
  · rw [if_neg c1, if_neg c2, if_pos c3] at hK1 hK0
    exact w0_overlap hN h a.2 a.1 b.2 _ _ _ _ _ (fun q => ⟨rfl, hK1 q⟩) (fun q => ⟨rfl, hK0 q⟩)
  · rw [if_neg c1, if_pos c2] at hK1 hK0
    exact w0_overlap hN h a.1 a.2 b.1 _ _ _ _ _ (fun q => ⟨rfl, hK1 q⟩) (fun q => ⟨rfl, hK0 q⟩)
  · rw [if_pos c1] at hK1 hK0
    exact w0_overlap hN h a.1 a.2 b.2 _ _ _ _ _ (fun q => ⟨rfl, hK1 q⟩) (fun q => ⟨rfl, hK0 q⟩)

-- both arcs are there, no loops, not alike
def yApt (F T : Nat → Nat) (al : Nat → Bool) (k m : Nat) : Prop :=
  al k = true ∧ al m = true ∧ F k ≠ T k ∧ F m ≠ T m ∧ ¬ ((F k = F m ∧ T k = T m) ∨ (F k = T m ∧ T k = F m))

theorem w8_areApart (hN : N ≤ 20) (hM : M ≤ 80) (hF : ∀ k, k < M → F k < N ∧ T k < N) {there at' : Nat → Int32} (hA : yAt M F T at') (hB : yBo M al there) {k m : Nat} (hk : k < M) (hm : m < M) (i0 i1 i2 i3 i4 i5 i7 : Int32) (K : Int32 → Unit → Prop)
    (hK1 : yApt F T al k m → K 1 ()) (hK0 : ¬ yApt F T al k m → K 0 ()) : wX8_areApart i0 i1 i2 i3 i4 i5 (Int32.ofNat M) i7 there at' (Int32.ofNat k) (Int32.ofNat m) K := by
  have hF20 : ∀ k, k < M → F k < 20 ∧ T k < 20 := fun k hk => by have := hF k hk; omega
  have a := hF20 k hk; have b := hF20 m hm
  unfold wX8_areApart
  refine w3_hasArc hM hB _ _ _ _ (fun k' k1 k2 k3 => ⟨fun z => absurd z (by decide), fun _ => ?_⟩) (fun hno => ⟨fun _ => hK0 (fun hh => hno ⟨k, hk, hh.1, rfl⟩), fun z => absurd rfl z⟩)
  have ek : k = k' := (yn_inj (by omega) (by omega)).1 k3
  rw [← ek] at k2
  refine w3_hasArc hM hB _ _ _ _ (fun m' m1 m2 m3 => ⟨fun z => absurd z (by decide), fun _ => ?_⟩) (fun hno => ⟨fun _ => hK0 (fun hh => hno ⟨m, hm, hh.2.1, rfl⟩), fun z => absurd rfl z⟩)
  have em : m = m' := (yn_inj (by omega) (by omega)).1 m3
  rw [← em] at m2
  refine w3_isLoop hA hM hF20 hk _ _ _ _ (fun l => ⟨fun _ => hK0 (fun hh => hh.2.2.1 l), fun z => absurd z (by decide)⟩) (fun l1 => ⟨fun z => absurd rfl z, fun _ => ?_⟩)
  refine w3_isLoop hA hM hF20 hm _ _ _ _ (fun l => ⟨fun z => absurd z (by decide), fun _ => hK0 (fun hh => hh.2.2.2.1 l)⟩) (fun l2 => ⟨fun _ => ?_, fun z => absurd rfl z⟩)
  rw [yn_21', yn_2, yn_nat (by omega), yn_nat (by omega), (hA k hk).1, (hA k hk).2]
  refine ⟨yn_in (by omega) (by omega), yn_in (by omega) (by omega), w3_endAt hM hA hB hF20 a.1 a.2 hm _ _ _ _ (fun e he h160 => ⟨fun _ => hK0 (fun hh => ?_), fun z => absurd (yn_ge (by omega)) z⟩) (fun he => ⟨fun z => absurd z yn_ge1, fun _ => hK1 ⟨k2, m2, l1, l2, fun hh => ?_⟩⟩)⟩
  · apply hh.2.2.2.2
    unfold yEnl at he
    split at he
    · rename_i c; omega
    · split at he
      · rename_i c; omega
      · cases he
  · unfold yEnl at he
    split at he
    · cases he
    · split at he
      · cases he
      · rename_i c1 c2
        rcases hh with hh | hh
        · exact c1 ⟨m2, hh.1.symm, hh.2.symm⟩
        · exact c2 ⟨m2, hh.2.symm, hh.1.symm⟩

set_option maxHeartbeats 4000000 in
theorem w9_meet (hN : N ≤ 20) (hM : M ≤ 80) (hF : ∀ k, k < M → F k < N ∧ T k < N) {frm too : Nat → Int32} (hfr : ∀ k, k < M → frm k = Int32.ofNat (F k)) (hto : ∀ k, k < M → too k = Int32.ofNat (T k)) (h : yXs N X Y xs ys) {m k : Nat} (hm : m < M) (hk : k < M) (hap : yApt F T al m k) (i0 i1 i2 i3 i4 i5 i6 i7 i8 i9 i10 i11 i12 i13 i14 i15 i16 i17 : Int32) (K : Int32 → Unit → Prop)
    (hK1 : yMor X Y (F m) (T m) (F k) (T k) → K 1 ()) (hK0 : ¬ yMor X Y (F m) (T m) (F k) (T k) → K 0 ()) : wX9_meet i0 i1 i2 i3 i4 i5 i6 i7 i8 i9 i10 i11 i12 i13 i14 i15 i16 i17 frm too xs ys (Int32.ofNat m) (Int32.ofNat k) K := by
  have ha := hF m hm; have hb := hF k hk
  obtain ⟨_, _, l1, l2, l3⟩ := hap
  have v1 := yn_in (n := m) (N := 80) (by omega) (by omega)
  have v2 := yn_in (n := k) (N := 80) (by omega) (by omega)
  unfold wX9_meet
  rw [yn_nat (by omega), yn_nat (by omega), hfr m hm, hto m hm, hfr k hk, hto k hk]
  refine ⟨v1, fun v6 h6 => ⟨v1, fun v13 h13 => ⟨v2, fun v21 h21 => ⟨v2, fun v29 h29 => ?_⟩⟩⟩⟩
  subst h6 h13 h21 h29
  generalize F m = a at *
  generalize T m = b at *
  generalize F k = c at *
  generalize T k = d at *
  have leafA : ∀ o, (a = c ∧ o = d) ∨ (a = d ∧ o = c) → (yOvl X Y a b o → K 1 ()) → (¬ yOvl X Y a b o → K 0 ()) → (∀ v84 : Int32, v84 = (((Int32.ofNat a) + (Int32.ofNat b)) - (Int32.ofNat a)) → (∀ v94 : Int32, v94 = (((Int32.ofNat c) + (Int32.ofNat d)) - (Int32.ofNat a)) → (vp_in v84 20 ∧ (vp_in (Int32.ofNat a) 20 ∧ (vp_in v94 20 ∧ (vp_in (Int32.ofNat a) 20 ∧ (vp_in v84 20 ∧ (vp_in (Int32.ofNat a) 20 ∧ (vp_in v94 20 ∧ (vp_in (Int32.ofNat a) 20 ∧ (∀ v159 : Int32, v159 = ((((xs (Int32.toNatClampNeg v84)) - (xs (Int32.toNatClampNeg (Int32.ofNat a)))) * ((xs (Int32.toNatClampNeg v94)) - (xs (Int32.toNatClampNeg (Int32.ofNat a))))) + (((ys (Int32.toNatClampNeg v84)) - (ys (Int32.toNatClampNeg (Int32.ofNat a)))) * ((ys (Int32.toNatClampNeg v94)) - (ys (Int32.toNatClampNeg (Int32.ofNat a)))))) → (wX9_side i0 i1 i2 i3 i4 i5 i6 i7 i8 i9 i10 i11 i12 i13 i14 i15 i16 i17 xs ys (Int32.ofNat a) v84 v94 (fun r168 _ => ((¬ r168 = 0 → K (0 : Int32) ()) ∧ (r168 = 0 → ((v159 ≤ 0 → K (0 : Int32) ()) ∧ (¬ v159 ≤ 0 → K (1 : Int32) ()))))))))))))))))) := by
    intro o ho k1 k0 v84 h84 v94 h94
    have e84 : v84 = Int32.ofNat b := by rw [h84, yn_add, yn_sub (by omega)]; congr 1; omega
    have e94 : v94 = Int32.ofNat o := by rw [h94, yn_add, yn_sub (by omega)]; congr 1; omega
    have hoN : o < N := by omega
    rw [e84, e94, yn_nat (by omega), yn_nat (by omega), yn_nat (by omega), yDot_eq h ha.1 ha.2 hoN]
    have bd := yDot_b h ha.1 ha.2 hoN
    refine ⟨yn_in (by omega) (by omega), yn_in (by omega) (by omega), yn_in (by omega) (by omega), yn_in (by omega) (by omega), yn_in (by omega) (by omega), yn_in (by omega) (by omega), yn_in (by omega) (by omega), yn_in (by omega) (by omega), fun v159 h159 => ?_⟩
    rw [h159, yz_le bd.1 bd.2]
    unfold yOvl at k1 k0
    exact w9_side hN h ha.1 ha.2 hoN _ _ _ _ _ _ _ _ _ _ _ _ _ _ _ _ _ _ _ (fun z => ⟨fun _ => k0 (fun hh => by omega), fun z => absurd z (by decide)⟩) (fun z => ⟨fun _ => k0 (fun hh => by omega), fun z => absurd z (by decide)⟩) (fun z => ⟨fun z => absurd rfl z, fun _ => ⟨fun w => k0 (fun hh => by omega), fun w => k1 ⟨z, by omega⟩⟩⟩)
  have leafB : ∀ o, (b = c ∧ o = d) ∨ (b = d ∧ o = c) → (yOvl X Y b a o → K 1 ()) → (¬ yOvl X Y b a o → K 0 ()) → (∀ v84 : Int32, v84 = (((Int32.ofNat a) + (Int32.ofNat b)) - (Int32.ofNat b)) → (∀ v94 : Int32, v94 = (((Int32.ofNat c) + (Int32.ofNat d)) - (Int32.ofNat b)) → (vp_in v84 20 ∧ (vp_in (Int32.ofNat b) 20 ∧ (vp_in v94 20 ∧ (vp_in (Int32.ofNat b) 20 ∧ (vp_in v84 20 ∧ (vp_in (Int32.ofNat b) 20 ∧ (vp_in v94 20 ∧ (vp_in (Int32.ofNat b) 20 ∧ (∀ v159 : Int32, v159 = ((((xs (Int32.toNatClampNeg v84)) - (xs (Int32.toNatClampNeg (Int32.ofNat b)))) * ((xs (Int32.toNatClampNeg v94)) - (xs (Int32.toNatClampNeg (Int32.ofNat b))))) + (((ys (Int32.toNatClampNeg v84)) - (ys (Int32.toNatClampNeg (Int32.ofNat b)))) * ((ys (Int32.toNatClampNeg v94)) - (ys (Int32.toNatClampNeg (Int32.ofNat b)))))) → (wX9_side i0 i1 i2 i3 i4 i5 i6 i7 i8 i9 i10 i11 i12 i13 i14 i15 i16 i17 xs ys (Int32.ofNat b) v84 v94 (fun r168 _ => ((¬ r168 = 0 → K (0 : Int32) ()) ∧ (r168 = 0 → ((v159 ≤ 0 → K (0 : Int32) ()) ∧ (¬ v159 ≤ 0 → K (1 : Int32) ()))))))))))))))))) := by
    intro o ho k1 k0 v84 h84 v94 h94
    have e84 : v84 = Int32.ofNat a := by rw [h84, yn_add, yn_sub (by omega)]; congr 1; omega
    have e94 : v94 = Int32.ofNat o := by rw [h94, yn_add, yn_sub (by omega)]; congr 1; omega
    have hoN : o < N := by omega
    rw [e84, e94, yn_nat (by omega), yn_nat (by omega), yn_nat (by omega), yDot_eq h ha.2 ha.1 hoN]
    have bd := yDot_b h ha.2 ha.1 hoN
    refine ⟨yn_in (by omega) (by omega), yn_in (by omega) (by omega), yn_in (by omega) (by omega), yn_in (by omega) (by omega), yn_in (by omega) (by omega), yn_in (by omega) (by omega), yn_in (by omega) (by omega), yn_in (by omega) (by omega), fun v159 h159 => ?_⟩
    rw [h159, yz_le bd.1 bd.2]
    unfold yOvl at k1 k0
    exact w9_side hN h ha.2 ha.1 hoN _ _ _ _ _ _ _ _ _ _ _ _ _ _ _ _ _ _ _ (fun z => ⟨fun _ => k0 (fun hh => by omega), fun z => absurd z (by decide)⟩) (fun z => ⟨fun _ => k0 (fun hh => by omega), fun z => absurd z (by decide)⟩) (fun z => ⟨fun z => absurd rfl z, fun _ => ⟨fun w => k0 (fun hh => by omega), fun w => k1 ⟨z, by omega⟩⟩⟩)
  rw [yn_inj (a := a) (b := c) (by omega) (by omega), yn_inj (a := a) (b := d) (by omega) (by omega), yn_inj (a := b) (b := c) (by omega) (by omega), yn_inj (a := b) (b := d) (by omega) (by omega)]
  unfold yMor at hK1 hK0
  refine ⟨fun c1 => ?_, fun c1 => ⟨fun c2 => ?_, fun c2 => ⟨fun c3 => ?_, fun c3 => ⟨fun c4 => ?_, fun c4 => ?_⟩⟩⟩⟩
  · rw [if_pos c1] at hK1 hK0
    exact ⟨fun _ => leafA d (Or.inl ⟨c1, rfl⟩) hK1 hK0, fun z => absurd c1 z⟩
  · rw [if_neg c1, if_pos c2] at hK1 hK0
    exact ⟨fun z => absurd z c1, fun _ => ⟨fun z => absurd c2 z, fun _ => leafA c (Or.inr ⟨c2, rfl⟩) hK1 hK0⟩⟩
  · rw [if_neg c1, if_neg c2, if_pos c3] at hK1 hK0
    exact ⟨fun z => absurd z c1, fun _ => ⟨fun _ => leafB d (Or.inl ⟨c3, rfl⟩) hK1 hK0, fun z => absurd z c2⟩⟩
  · rw [if_neg c1, if_neg c2, if_neg c3, if_neg c4] at hK1 hK0
    clear leafA leafB
    unfold yCut4 at hK1 hK0
    refine w9_isWithin hN h ha.1 ha.2 hb.1 _ _ _ _ _ _ _ _ _ _ _ _ _ _ _ _ _ _ _ (fun w1 => ⟨fun _ => hK1 (Or.inl w1), fun z => absurd z (by decide)⟩) (fun w1 => ⟨fun z => absurd rfl z, fun _ => ?_⟩)
    refine w9_isWithin hN h ha.1 ha.2 hb.2 _ _ _ _ _ _ _ _ _ _ _ _ _ _ _ _ _ _ _ (fun w2 => ⟨fun _ => hK1 (Or.inr (Or.inl w2)), fun z => absurd z (by decide)⟩) (fun w2 => ⟨fun z => absurd rfl z, fun _ => ?_⟩)
    refine w9_isWithin hN h hb.1 hb.2 ha.1 _ _ _ _ _ _ _ _ _ _ _ _ _ _ _ _ _ _ _ (fun w3 => ⟨fun _ => hK1 (Or.inr (Or.inr (Or.inl w3))), fun z => absurd z (by decide)⟩) (fun w3 => ⟨fun z => absurd rfl z, fun _ => ?_⟩)
    refine w9_isWithin hN h hb.1 hb.2 ha.2 _ _ _ _ _ _ _ _ _ _ _ _ _ _ _ _ _ _ _ (fun w4 => ⟨fun z => absurd z (by decide), fun _ => hK1 (Or.inr (Or.inr (Or.inr (Or.inl w4))))⟩) (fun w4 => ⟨fun _ => ?_, fun z => absurd rfl z⟩)
    have no : ¬ (yOpp (yCr3 X Y a b c) (yCr3 X Y a b d) ∧ yOpp (yCr3 X Y c d a) (yCr3 X Y c d b)) → K 0 () := by
      intro hn
      apply hK0
      rintro (g | g | g | g | g)
      · exact w1 g
      · exact w2 g
      · exact w3 g
      · exact w4 g
      · exact hn g
    have yes : (yOpp (yCr3 X Y a b c) (yCr3 X Y a b d) ∧ yOpp (yCr3 X Y c d a) (yCr3 X Y c d b)) → K 1 () := fun g => hK1 (Or.inr (Or.inr (Or.inr (Or.inr g))))
    unfold yOpp at no yes
    clear hK1 hK0 w1 w2 w3 w4
    have mn : ∀ s t : Int32, (s = 1 ∨ s = -1 ∨ s = 0) → (t = 1 ∨ t = -1 ∨ t = 0) → ((0 ≤ s * t) ↔ ¬ ((s = 1 ∧ t = -1) ∨ (s = -1 ∧ t = 1))) := by
      intro s t hs ht
      rcases hs with hs | hs | hs <;> rcases ht with ht | ht | ht <;> subst hs <;> subst ht <;> decide
    -- the signs
    have second : ∀ (g1 : yOpp (yCr3 X Y a b c) (yCr3 X Y a b d)), wX9_side i0 i1 i2 i3 i4 i5 i6 i7 i8 i9 i10 i11 i12 i13 i14 i15 i16 i17 xs ys (Int32.ofNat c) (Int32.ofNat d) (Int32.ofNat a) (fun r264 _ => (wX9_side i0 i1 i2 i3 i4 i5 i6 i7 i8 i9 i10 i11 i12 i13 i14 i15 i16 i17 xs ys (Int32.ofNat c) (Int32.ofNat d) (Int32.ofNat b) (fun r274 _ => ((0 ≤ (r264 * r274) → K (0 : Int32) ()) ∧ (¬ 0 ≤ (r264 * r274) → K (1 : Int32) ()))))) := by
      intro g1
      unfold yOpp at g1
      refine w9_side hN h hb.1 hb.2 ha.1 _ _ _ _ _ _ _ _ _ _ _ _ _ _ _ _ _ _ _ (fun s1 => ?_) (fun s1 => ?_) (fun s1 => ?_)
      all_goals refine w9_side hN h hb.1 hb.2 ha.2 _ _ _ _ _ _ _ _ _ _ _ _ _ _ _ _ _ _ _ (fun s2 => ?_) (fun s2 => ?_) (fun s2 => ?_)
      all_goals first
        | exact ⟨fun _ => no (by omega), fun z => absurd (by decide) z⟩
        | exact ⟨fun z => absurd z (by decide), fun _ => yes (by omega)⟩
    refine w9_side hN h ha.1 ha.2 hb.1 _ _ _ _ _ _ _ _ _ _ _ _ _ _ _ _ _ _ _ (fun s1 => ?_) (fun s1 => ?_) (fun s1 => ?_)
    all_goals refine w9_side hN h ha.1 ha.2 hb.2 _ _ _ _ _ _ _ _ _ _ _ _ _ _ _ _ _ _ _ (fun s2 => ?_) (fun s2 => ?_) (fun s2 => ?_)
    all_goals first
      | exact ⟨fun _ => no (by omega), fun z => absurd (by decide) z⟩
      | exact ⟨fun z => absurd z (by decide), fun _ => second (by unfold yOpp; omega)⟩
  · rw [if_neg c1, if_neg c2, if_neg c3, if_pos c4] at hK1 hK0
    exact ⟨fun z => absurd z c1, fun _ => ⟨fun _ => leafB c (Or.inr ⟨c4, rfl⟩) hK1 hK0, fun z => absurd z c2⟩⟩
end


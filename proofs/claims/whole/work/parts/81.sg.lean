
theorem yst_if {c X Y P : Prop} (h : (c → X) ∧ (¬ c → Y)) (f : X → P) (g : Y → P) : P := (Classical.em c).elim (fun q => f (h.1 q)) (fun q => g (h.2 q))
theorem yst_if2 {c X Y P : Prop} (h : (¬ c → X) ∧ (c → Y)) (f : X → P) (g : Y → P) : P := (Classical.em c).elim (fun q => g (h.2 q)) (fun q => f (h.1 q))

theorem sLX9_reached_19 {P : Prop} {i3 : Int32} {f18 : Nat → Int32} {p1 : Int32} {t7_0 : Int32} {K : Int32 → Unit → Prop} {B7_1 : Int32 → Int32 → Prop} (hK : ∀ x0 x1, K x0 x1 → P) (hB : ∀ x0 x1, B7_1 x0 x1 → P) : ∀ (n : Nat) {t19_0 : Int32} {t19_1 : Int32}, wLX9_reached_19 i3 f18 p1 t7_0 K B7_1 n t19_0 t19_1 → P := by
  intro n
  induction n with
  | zero => intros; rename_i h; exact h.elim
  | succ n ih =>
    intros; rename_i h
    unfold wLX9_reached_19 at h
    exact (yst_if h (fun h => (hB _ _ h)) (fun h => (yst_if2 h (fun h => (ih h)) (fun h => (ih ((And.right h) _ rfl))))))
theorem tLX9_reached_19 {P : Prop} {i3 : Int32} {f18 : Nat → Int32} {p1 : Int32} {t7_0 : Int32} {K : Int32 → Unit → Prop} {B7_1 : Int32 → Int32 → Prop} {n : Nat} {t19_0 : Int32} {t19_1 : Int32} (h : wLX9_reached_19 i3 f18 p1 t7_0 K B7_1 n t19_0 t19_1) (hK : ∀ x0 x1, K x0 x1 → P) (hB : ∀ x0 x1, B7_1 x0 x1 → P) : P := sLX9_reached_19 hK hB n h

theorem sLX9_reached_7 {P : Prop} {i3 : Int32} {f18 : Nat → Int32} {p1 : Int32} {K : Int32 → Unit → Prop} (hK : ∀ x0 x1, K x0 x1 → P) : ∀ (n : Nat) {t7_0 : Int32} {t7_1 : Int32}, wLX9_reached_7 i3 f18 p1 K n t7_0 t7_1 → P := by
  intro n
  induction n with
  | zero => intros; rename_i h; exact h.elim
  | succ n ih =>
    intros; rename_i h
    unfold wLX9_reached_7 at h
    exact (yst_if h (fun h => (hK _ _ h)) (fun h => (Exists.elim h (fun n h => (tLX9_reached_19 h hK (fun _ _ h => (ih h)))))))
theorem tLX9_reached_7 {P : Prop} {i3 : Int32} {f18 : Nat → Int32} {p1 : Int32} {K : Int32 → Unit → Prop} {n : Nat} {t7_0 : Int32} {t7_1 : Int32} (h : wLX9_reached_7 i3 f18 p1 K n t7_0 t7_1) (hK : ∀ x0 x1, K x0 x1 → P) : P := sLX9_reached_7 hK n h

theorem sX9_reached {P : Prop} {i0 : Int32} {i1 : Int32} {i2 : Int32} {i3 : Int32} {i4 : Int32} {i5 : Int32} {i6 : Int32} {i7 : Int32} {i8 : Int32} {i9 : Int32} {i10 : Int32} {i11 : Int32} {i12 : Int32} {i13 : Int32} {i14 : Int32} {i15 : Int32} {i16 : Int32} {i17 : Int32} {f18 : Nat → Int32} {p0 : Int32} {p1 : Int32} {K : Int32 → Unit → Prop} (h : wX9_reached i0 i1 i2 i3 i4 i5 i6 i7 i8 i9 i10 i11 i12 i13 i14 i15 i16 i17 f18 p0 p1 K) (hK : ∀ x0 x1, K x0 x1 → P) : P := by
  unfold wX9_reached at h
  exact (Exists.elim (h _ rfl) (fun n h => (tLX9_reached_7 h hK)))

theorem sLX9_edgeAt_2 {P : Prop} {f18 : Nat → Int32} {f19 : Nat → Int32} {p0 : Int32} {p1 : Int32} {K : Int32 → Unit → Prop} (hK : ∀ x0 x1, K x0 x1 → P) : ∀ (n : Nat) {t2_0 : Int32}, wLX9_edgeAt_2 f18 f19 p0 p1 K n t2_0 → P := by
  intro n
  induction n with
  | zero => intros; rename_i h; exact h.elim
  | succ n ih =>
    intros; rename_i h
    unfold wLX9_edgeAt_2 at h
    exact (yst_if2 (And.right h) (fun h => (yst_if2 (And.right h) (fun h => (ih h)) (fun h => (yst_if (And.right h) (fun h => (hK _ _ h)) (fun h => (ih h)))))) (fun h => (yst_if (And.right h) (fun h => (hK _ _ h)) (fun h => (yst_if2 (And.right h) (fun h => (ih h)) (fun h => (yst_if (And.right h) (fun h => (hK _ _ h)) (fun h => (ih h)))))))))
theorem tLX9_edgeAt_2 {P : Prop} {f18 : Nat → Int32} {f19 : Nat → Int32} {p0 : Int32} {p1 : Int32} {K : Int32 → Unit → Prop} {n : Nat} {t2_0 : Int32} (h : wLX9_edgeAt_2 f18 f19 p0 p1 K n t2_0) (hK : ∀ x0 x1, K x0 x1 → P) : P := sLX9_edgeAt_2 hK n h

theorem sX9_edgeAt {P : Prop} {i0 : Int32} {i1 : Int32} {i2 : Int32} {i3 : Int32} {i4 : Int32} {i5 : Int32} {i6 : Int32} {i7 : Int32} {i8 : Int32} {i9 : Int32} {i10 : Int32} {i11 : Int32} {i12 : Int32} {i13 : Int32} {i14 : Int32} {i15 : Int32} {i16 : Int32} {i17 : Int32} {f18 : Nat → Int32} {f19 : Nat → Int32} {p0 : Int32} {p1 : Int32} {K : Int32 → Unit → Prop} (h : wX9_edgeAt i0 i1 i2 i3 i4 i5 i6 i7 i8 i9 i10 i11 i12 i13 i14 i15 i16 i17 f18 f19 p0 p1 K) (hK : ∀ x0 x1, K x0 x1 → P) : P := by
  unfold wX9_edgeAt at h
  exact (Exists.elim h (fun n h => (tLX9_edgeAt_2 h hK)))

theorem sLX9_rootOf_2 {P : Prop} {f18 : Nat → Int32} {K : Int32 → Unit → Prop} (hK : ∀ x0 x1, K x0 x1 → P) : ∀ (n : Nat) {t2_0 : Int32}, wLX9_rootOf_2 f18 K n t2_0 → P := by
  intro n
  induction n with
  | zero => intros; rename_i h; exact h.elim
  | succ n ih =>
    intros; rename_i h
    unfold wLX9_rootOf_2 at h
    exact (yst_if (And.right h) (fun h => (hK _ _ h)) (fun h => (ih ((And.right h) _ rfl))))
theorem tLX9_rootOf_2 {P : Prop} {f18 : Nat → Int32} {K : Int32 → Unit → Prop} {n : Nat} {t2_0 : Int32} (h : wLX9_rootOf_2 f18 K n t2_0) (hK : ∀ x0 x1, K x0 x1 → P) : P := sLX9_rootOf_2 hK n h

theorem sX9_rootOf {P : Prop} {i0 : Int32} {i1 : Int32} {i2 : Int32} {i3 : Int32} {i4 : Int32} {i5 : Int32} {i6 : Int32} {i7 : Int32} {i8 : Int32} {i9 : Int32} {i10 : Int32} {i11 : Int32} {i12 : Int32} {i13 : Int32} {i14 : Int32} {i15 : Int32} {i16 : Int32} {i17 : Int32} {f18 : Nat → Int32} {p0 : Int32} {K : Int32 → Unit → Prop} (h : wX9_rootOf i0 i1 i2 i3 i4 i5 i6 i7 i8 i9 i10 i11 i12 i13 i14 i15 i16 i17 f18 p0 K) (hK : ∀ x0 x1, K x0 x1 → P) : P := by
  unfold wX9_rootOf at h
  exact (Exists.elim h (fun n h => (tLX9_rootOf_2 h hK)))

theorem sLX9_findBlocks_172 {P : Prop} {i0 : Int32} {i1 : Int32} {i2 : Int32} {i3 : Int32} {i5 : Int32} {i6 : Int32} {i7 : Int32} {i8 : Int32} {i9 : Int32} {i10 : Int32} {i11 : Int32} {i12 : Int32} {i13 : Int32} {i14 : Int32} {i15 : Int32} {i16 : Int32} {i17 : Int32} {t7_0 : Nat → Int32} {t7_1 : Nat → Int32} {t7_3 : Int32} {t98_1 : Int32} {v148 : Int32} {v156 : Int32} {r164 : Int32} {K : (Int32 × (Nat → Int32) × (Nat → Int32) × (Nat → Int32)) → Prop} {B113_3 : (Nat → Int32) → Int32 → Prop} (hK : ∀ x0, K x0 → P) (hB : ∀ x0 x1, B113_3 x0 x1 → P) : ∀ (n : Nat) {t172_0 : Nat → Int32} {t172_1 : Int32}, wLX9_findBlocks_172 i0 i1 i2 i3 i5 i6 i7 i8 i9 i10 i11 i12 i13 i14 i15 i16 i17 t7_0 t7_1 t7_3 t98_1 v148 v156 r164 K B113_3 n t172_0 t172_1 → P := by
  intro n
  induction n with
  | zero => intros; rename_i h; exact h.elim
  | succ n ih =>
    intros; rename_i h
    unfold wLX9_findBlocks_172 at h
    exact (yst_if h (fun h => (hB _ _ h)) (fun h => (yst_if2 h (fun h => (ih h)) (fun h => (sX9_edgeAt h (fun _ _ h => (sX9_rootOf h (fun _ _ h => (ih ((And.right h) _ rfl))))))))))
theorem tLX9_findBlocks_172 {P : Prop} {i0 : Int32} {i1 : Int32} {i2 : Int32} {i3 : Int32} {i5 : Int32} {i6 : Int32} {i7 : Int32} {i8 : Int32} {i9 : Int32} {i10 : Int32} {i11 : Int32} {i12 : Int32} {i13 : Int32} {i14 : Int32} {i15 : Int32} {i16 : Int32} {i17 : Int32} {t7_0 : Nat → Int32} {t7_1 : Nat → Int32} {t7_3 : Int32} {t98_1 : Int32} {v148 : Int32} {v156 : Int32} {r164 : Int32} {K : (Int32 × (Nat → Int32) × (Nat → Int32) × (Nat → Int32)) → Prop} {B113_3 : (Nat → Int32) → Int32 → Prop} {n : Nat} {t172_0 : Nat → Int32} {t172_1 : Int32} (h : wLX9_findBlocks_172 i0 i1 i2 i3 i5 i6 i7 i8 i9 i10 i11 i12 i13 i14 i15 i16 i17 t7_0 t7_1 t7_3 t98_1 v148 v156 r164 K B113_3 n t172_0 t172_1) (hK : ∀ x0, K x0 → P) (hB : ∀ x0 x1, B113_3 x0 x1 → P) : P := sLX9_findBlocks_172 hK hB n h

theorem sLX9_findBlocks_119 {P : Prop} {i0 : Int32} {i1 : Int32} {i2 : Int32} {i3 : Int32} {i5 : Int32} {i6 : Int32} {i7 : Int32} {i8 : Int32} {i9 : Int32} {i10 : Int32} {i11 : Int32} {i12 : Int32} {i13 : Int32} {i14 : Int32} {i15 : Int32} {i16 : Int32} {i17 : Int32} {f18 : Nat → Int32} {t7_0 : Nat → Int32} {t7_1 : Nat → Int32} {t7_3 : Int32} {t98_1 : Int32} {t113_0 : Nat → Int32} {t113_1 : Int32} {K : (Int32 × (Nat → Int32) × (Nat → Int32) × (Nat → Int32)) → Prop} {B113_3 : (Nat → Int32) → Int32 → Prop} (hK : ∀ x0, K x0 → P) (hB : ∀ x0 x1, B113_3 x0 x1 → P) : ∀ (n : Nat) {t119_0 : Int32}, wLX9_findBlocks_119 i0 i1 i2 i3 i5 i6 i7 i8 i9 i10 i11 i12 i13 i14 i15 i16 i17 f18 t7_0 t7_1 t7_3 t98_1 t113_0 t113_1 K B113_3 n t119_0 → P := by
  intro n
  induction n with
  | zero => intros; rename_i h; exact h.elim
  | succ n ih =>
    intros; rename_i h
    unfold wLX9_findBlocks_119 at h
    exact (yst_if2 h (fun h => (sX9_reached h (fun _ _ h => (sX9_edgeAt (((And.right h) _ rfl) _ rfl) (fun _ _ h => (sX9_rootOf h (fun _ _ h => (Exists.elim h (fun n h => (tLX9_findBlocks_172 h hK (fun _ _ h => (hB _ _ h)))))))))))) (fun h => (ih h)))
theorem tLX9_findBlocks_119 {P : Prop} {i0 : Int32} {i1 : Int32} {i2 : Int32} {i3 : Int32} {i5 : Int32} {i6 : Int32} {i7 : Int32} {i8 : Int32} {i9 : Int32} {i10 : Int32} {i11 : Int32} {i12 : Int32} {i13 : Int32} {i14 : Int32} {i15 : Int32} {i16 : Int32} {i17 : Int32} {f18 : Nat → Int32} {t7_0 : Nat → Int32} {t7_1 : Nat → Int32} {t7_3 : Int32} {t98_1 : Int32} {t113_0 : Nat → Int32} {t113_1 : Int32} {K : (Int32 × (Nat → Int32) × (Nat → Int32) × (Nat → Int32)) → Prop} {B113_3 : (Nat → Int32) → Int32 → Prop} {n : Nat} {t119_0 : Int32} (h : wLX9_findBlocks_119 i0 i1 i2 i3 i5 i6 i7 i8 i9 i10 i11 i12 i13 i14 i15 i16 i17 f18 t7_0 t7_1 t7_3 t98_1 t113_0 t113_1 K B113_3 n t119_0) (hK : ∀ x0, K x0 → P) (hB : ∀ x0 x1, B113_3 x0 x1 → P) : P := sLX9_findBlocks_119 hK hB n h

theorem sLX9_findBlocks_113 {P : Prop} {i0 : Int32} {i1 : Int32} {i2 : Int32} {i3 : Int32} {i5 : Int32} {i6 : Int32} {i7 : Int32} {i8 : Int32} {i9 : Int32} {i10 : Int32} {i11 : Int32} {i12 : Int32} {i13 : Int32} {i14 : Int32} {i15 : Int32} {i16 : Int32} {i17 : Int32} {f18 : Nat → Int32} {t7_0 : Nat → Int32} {t7_1 : Nat → Int32} {t7_3 : Int32} {t98_1 : Int32} {K : (Int32 × (Nat → Int32) × (Nat → Int32) × (Nat → Int32)) → Prop} {B98_2 : (Nat → Int32) → Int32 → Prop} (hK : ∀ x0, K x0 → P) (hB : ∀ x0 x1, B98_2 x0 x1 → P) : ∀ (n : Nat) {t113_0 : Nat → Int32} {t113_1 : Int32}, wLX9_findBlocks_113 i0 i1 i2 i3 i5 i6 i7 i8 i9 i10 i11 i12 i13 i14 i15 i16 i17 f18 t7_0 t7_1 t7_3 t98_1 K B98_2 n t113_0 t113_1 → P := by
  intro n
  induction n with
  | zero => intros; rename_i h; exact h.elim
  | succ n ih =>
    intros; rename_i h
    unfold wLX9_findBlocks_113 at h
    exact (yst_if h (fun h => (hB _ _ h)) (fun h => (Exists.elim h (fun n h => (tLX9_findBlocks_119 h hK (fun _ _ h => (ih h)))))))
theorem tLX9_findBlocks_113 {P : Prop} {i0 : Int32} {i1 : Int32} {i2 : Int32} {i3 : Int32} {i5 : Int32} {i6 : Int32} {i7 : Int32} {i8 : Int32} {i9 : Int32} {i10 : Int32} {i11 : Int32} {i12 : Int32} {i13 : Int32} {i14 : Int32} {i15 : Int32} {i16 : Int32} {i17 : Int32} {f18 : Nat → Int32} {t7_0 : Nat → Int32} {t7_1 : Nat → Int32} {t7_3 : Int32} {t98_1 : Int32} {K : (Int32 × (Nat → Int32) × (Nat → Int32) × (Nat → Int32)) → Prop} {B98_2 : (Nat → Int32) → Int32 → Prop} {n : Nat} {t113_0 : Nat → Int32} {t113_1 : Int32} (h : wLX9_findBlocks_113 i0 i1 i2 i3 i5 i6 i7 i8 i9 i10 i11 i12 i13 i14 i15 i16 i17 f18 t7_0 t7_1 t7_3 t98_1 K B98_2 n t113_0 t113_1) (hK : ∀ x0, K x0 → P) (hB : ∀ x0 x1, B98_2 x0 x1 → P) : P := sLX9_findBlocks_113 hK hB n h

theorem sLX9_findBlocks_98 {P : Prop} {i0 : Int32} {i1 : Int32} {i2 : Int32} {i3 : Int32} {i5 : Int32} {i6 : Int32} {i7 : Int32} {i8 : Int32} {i9 : Int32} {i10 : Int32} {i11 : Int32} {i12 : Int32} {i13 : Int32} {i14 : Int32} {i15 : Int32} {i16 : Int32} {i17 : Int32} {f18 : Nat → Int32} {t7_0 : Nat → Int32} {t7_1 : Nat → Int32} {t7_3 : Int32} {K : (Int32 × (Nat → Int32) × (Nat → Int32) × (Nat → Int32)) → Prop} (hK : ∀ x0, K x0 → P) : ∀ (n : Nat) {t98_0 : Nat → Int32} {t98_1 : Int32}, wLX9_findBlocks_98 i0 i1 i2 i3 i5 i6 i7 i8 i9 i10 i11 i12 i13 i14 i15 i16 i17 f18 t7_0 t7_1 t7_3 K n t98_0 t98_1 → P := by
  intro n
  induction n with
  | zero => intros; rename_i h; exact h.elim
  | succ n ih =>
    intros; rename_i h
    unfold wLX9_findBlocks_98 at h
    exact (yst_if h (fun h => (hK _ h)) (fun h => (Exists.elim ((And.right h) _ rfl) (fun n h => (tLX9_findBlocks_113 h hK (fun _ _ h => (ih h)))))))
theorem tLX9_findBlocks_98 {P : Prop} {i0 : Int32} {i1 : Int32} {i2 : Int32} {i3 : Int32} {i5 : Int32} {i6 : Int32} {i7 : Int32} {i8 : Int32} {i9 : Int32} {i10 : Int32} {i11 : Int32} {i12 : Int32} {i13 : Int32} {i14 : Int32} {i15 : Int32} {i16 : Int32} {i17 : Int32} {f18 : Nat → Int32} {t7_0 : Nat → Int32} {t7_1 : Nat → Int32} {t7_3 : Int32} {K : (Int32 × (Nat → Int32) × (Nat → Int32) × (Nat → Int32)) → Prop} {n : Nat} {t98_0 : Nat → Int32} {t98_1 : Int32} (h : wLX9_findBlocks_98 i0 i1 i2 i3 i5 i6 i7 i8 i9 i10 i11 i12 i13 i14 i15 i16 i17 f18 t7_0 t7_1 t7_3 K n t98_0 t98_1) (hK : ∀ x0, K x0 → P) : P := sLX9_findBlocks_98 hK n h

theorem sLX9_findBlocks_19 {P : Prop} {i3 : Int32} {f18 : Nat → Int32} {t7_4 : Int32} {K : (Int32 × (Nat → Int32) × (Nat → Int32) × (Nat → Int32)) → Prop} {B7_1 : (Nat → Int32) → (Nat → Int32) → (Nat → Int32) → Int32 → Int32 → Prop} (hK : ∀ x0, K x0 → P) (hB : ∀ x0 x1 x2 x3 x4, B7_1 x0 x1 x2 x3 x4 → P) : ∀ (n : Nat) {t19_0 : Nat → Int32} {t19_1 : Nat → Int32} {t19_2 : Nat → Int32} {t19_3 : Int32} {t19_4 : Int32}, wLX9_findBlocks_19 i3 f18 t7_4 K B7_1 n t19_0 t19_1 t19_2 t19_3 t19_4 → P := by
  intro n
  induction n with
  | zero => intros; rename_i h; exact h.elim
  | succ n ih =>
    intros; rename_i h
    unfold wLX9_findBlocks_19 at h
    exact (yst_if h (fun h => (hB _ _ _ _ _ h)) (fun h => (yst_if2 (And.right h) (fun h => (ih h)) (fun h => (ih (((And.right ((And.right ((And.right h) _ rfl)) _ rfl)) _ rfl) _ rfl))))))
theorem tLX9_findBlocks_19 {P : Prop} {i3 : Int32} {f18 : Nat → Int32} {t7_4 : Int32} {K : (Int32 × (Nat → Int32) × (Nat → Int32) × (Nat → Int32)) → Prop} {B7_1 : (Nat → Int32) → (Nat → Int32) → (Nat → Int32) → Int32 → Int32 → Prop} {n : Nat} {t19_0 : Nat → Int32} {t19_1 : Nat → Int32} {t19_2 : Nat → Int32} {t19_3 : Int32} {t19_4 : Int32} (h : wLX9_findBlocks_19 i3 f18 t7_4 K B7_1 n t19_0 t19_1 t19_2 t19_3 t19_4) (hK : ∀ x0, K x0 → P) (hB : ∀ x0 x1 x2 x3 x4, B7_1 x0 x1 x2 x3 x4 → P) : P := sLX9_findBlocks_19 hK hB n h

theorem sLX9_findBlocks_7 {P : Prop} {i0 : Int32} {i1 : Int32} {i2 : Int32} {i3 : Int32} {i5 : Int32} {i6 : Int32} {i7 : Int32} {i8 : Int32} {i9 : Int32} {i10 : Int32} {i11 : Int32} {i12 : Int32} {i13 : Int32} {i14 : Int32} {i15 : Int32} {i16 : Int32} {i17 : Int32} {f18 : Nat → Int32} {K : (Int32 × (Nat → Int32) × (Nat → Int32) × (Nat → Int32)) → Prop} (hK : ∀ x0, K x0 → P) : ∀ (n : Nat) {t7_0 : Nat → Int32} {t7_1 : Nat → Int32} {t7_2 : Nat → Int32} {t7_3 : Int32} {t7_4 : Int32}, wLX9_findBlocks_7 i0 i1 i2 i3 i5 i6 i7 i8 i9 i10 i11 i12 i13 i14 i15 i16 i17 f18 K n t7_0 t7_1 t7_2 t7_3 t7_4 → P := by
  intro n
  induction n with
  | zero => intros; rename_i h; exact h.elim
  | succ n ih =>
    intros; rename_i h
    unfold wLX9_findBlocks_7 at h
    exact (yst_if h (fun h => (Exists.elim h (fun n h => (tLX9_findBlocks_98 h hK)))) (fun h => (Exists.elim (h _ rfl) (fun n h => (tLX9_findBlocks_19 h hK (fun _ _ _ _ _ h => (ih h)))))))
theorem tLX9_findBlocks_7 {P : Prop} {i0 : Int32} {i1 : Int32} {i2 : Int32} {i3 : Int32} {i5 : Int32} {i6 : Int32} {i7 : Int32} {i8 : Int32} {i9 : Int32} {i10 : Int32} {i11 : Int32} {i12 : Int32} {i13 : Int32} {i14 : Int32} {i15 : Int32} {i16 : Int32} {i17 : Int32} {f18 : Nat → Int32} {K : (Int32 × (Nat → Int32) × (Nat → Int32) × (Nat → Int32)) → Prop} {n : Nat} {t7_0 : Nat → Int32} {t7_1 : Nat → Int32} {t7_2 : Nat → Int32} {t7_3 : Int32} {t7_4 : Int32} (h : wLX9_findBlocks_7 i0 i1 i2 i3 i5 i6 i7 i8 i9 i10 i11 i12 i13 i14 i15 i16 i17 f18 K n t7_0 t7_1 t7_2 t7_3 t7_4) (hK : ∀ x0, K x0 → P) : P := sLX9_findBlocks_7 hK n h

theorem sX9_findBlocks {P : Prop} {i0 : Int32} {i1 : Int32} {i2 : Int32} {i3 : Int32} {i4 : Int32} {i5 : Int32} {i6 : Int32} {i7 : Int32} {i8 : Int32} {i9 : Int32} {i10 : Int32} {i11 : Int32} {i12 : Int32} {i13 : Int32} {i14 : Int32} {i15 : Int32} {i16 : Int32} {i17 : Int32} {f18 : Nat → Int32} {f19 : Nat → Int32} {f20 : Nat → Int32} {f21 : Nat → Int32} {K : (Int32 × (Nat → Int32) × (Nat → Int32) × (Nat → Int32)) → Prop} (h : wX9_findBlocks i0 i1 i2 i3 i4 i5 i6 i7 i8 i9 i10 i11 i12 i13 i14 i15 i16 i17 f18 f19 f20 f21 K) (hK : ∀ x0, K x0 → P) : P := by
  unfold wX9_findBlocks at h
  exact (Exists.elim h (fun n h => (tLX9_findBlocks_7 h hK)))

theorem sLX9_back_39 {P : Prop} {f19 : Nat → Int32} {t5_0 : Int32} {K : Int32 → (Int32 × (Nat → Int32)) → Prop} (hK : ∀ x0 x1, K x0 x1 → P) : ∀ (n : Nat) {t39_0 : Nat → Int32} {t39_1 : Int32} {t39_2 : Int32}, wLX9_back_39 f19 t5_0 K n t39_0 t39_1 t39_2 → P := by
  intro n
  induction n with
  | zero => intros; rename_i h; exact h.elim
  | succ n ih =>
    intros; rename_i h
    unfold wLX9_back_39 at h
    exact (yst_if h (fun h => (hK _ _ h)) (fun h => (ih ((And.right ((And.right h) _ rfl)) _ rfl))))
theorem tLX9_back_39 {P : Prop} {f19 : Nat → Int32} {t5_0 : Int32} {K : Int32 → (Int32 × (Nat → Int32)) → Prop} {n : Nat} {t39_0 : Nat → Int32} {t39_1 : Int32} {t39_2 : Int32} (h : wLX9_back_39 f19 t5_0 K n t39_0 t39_1 t39_2) (hK : ∀ x0 x1, K x0 x1 → P) : P := sLX9_back_39 hK n h

theorem sLX9_back_5 {P : Prop} {f18 : Nat → Int32} {f19 : Nat → Int32} {p0 : Int32} {p1 : Int32} {K : Int32 → (Int32 × (Nat → Int32)) → Prop} (hK : ∀ x0 x1, K x0 x1 → P) : ∀ (n : Nat) {t5_0 : Int32} {t5_1 : Int32}, wLX9_back_5 f18 f19 p0 p1 K n t5_0 t5_1 → P := by
  intro n
  induction n with
  | zero => intros; rename_i h; exact h.elim
  | succ n ih =>
    intros; rename_i h
    unfold wLX9_back_5 at h
    exact (yst_if h (fun h => (Exists.elim (h _ rfl) (fun n h => (tLX9_back_39 h hK)))) (fun h => (ih ((And.right h) _ rfl))))
theorem tLX9_back_5 {P : Prop} {f18 : Nat → Int32} {f19 : Nat → Int32} {p0 : Int32} {p1 : Int32} {K : Int32 → (Int32 × (Nat → Int32)) → Prop} {n : Nat} {t5_0 : Int32} {t5_1 : Int32} (h : wLX9_back_5 f18 f19 p0 p1 K n t5_0 t5_1) (hK : ∀ x0 x1, K x0 x1 → P) : P := sLX9_back_5 hK n h

theorem sX9_back {P : Prop} {i0 : Int32} {i1 : Int32} {i2 : Int32} {i3 : Int32} {i4 : Int32} {i5 : Int32} {i6 : Int32} {i7 : Int32} {i8 : Int32} {i9 : Int32} {i10 : Int32} {i11 : Int32} {i12 : Int32} {i13 : Int32} {i14 : Int32} {i15 : Int32} {i16 : Int32} {i17 : Int32} {f18 : Nat → Int32} {f19 : Nat → Int32} {p0 : Int32} {p1 : Int32} {K : Int32 → (Int32 × (Nat → Int32)) → Prop} (h : wX9_back i0 i1 i2 i3 i4 i5 i6 i7 i8 i9 i10 i11 i12 i13 i14 i15 i16 i17 f18 f19 p0 p1 K) (hK : ∀ x0 x1, K x0 x1 → P) : P := by
  unfold wX9_back at h
  exact (Exists.elim h (fun n h => (tLX9_back_5 h hK)))

theorem sLX9_findPath_68 {P : Prop} {i0 : Int32} {i1 : Int32} {i2 : Int32} {i3 : Int32} {i4 : Int32} {i5 : Int32} {i6 : Int32} {i7 : Int32} {i8 : Int32} {i9 : Int32} {i10 : Int32} {i11 : Int32} {i12 : Int32} {i13 : Int32} {i14 : Int32} {i15 : Int32} {i16 : Int32} {i17 : Int32} {f20 : Nat → Int32} {f21 : Nat → Int32} {p0 : Int32} {p1 : Int32} {p2 : Int32} {p3 : Int32} {t46_2 : Int32} {v60 : Int32} {K : Int32 → (Int32 × (Nat → Int32) × (Nat → Int32) × (Nat → Int32)) → Prop} {B46_2 : (Nat → Int32) → (Nat → Int32) → Int32 → Int32 → Prop} (hK : ∀ x0 x1, K x0 x1 → P) (hB : ∀ x0 x1 x2 x3, B46_2 x0 x1 x2 x3 → P) : ∀ (n : Nat) {t68_0 : Nat → Int32} {t68_1 : Nat → Int32} {t68_2 : Int32} {t68_3 : Int32}, wLX9_findPath_68 i0 i1 i2 i3 i4 i5 i6 i7 i8 i9 i10 i11 i12 i13 i14 i15 i16 i17 f20 f21 p0 p1 p2 p3 t46_2 v60 K B46_2 n t68_0 t68_1 t68_2 t68_3 → P := by
  intro n
  induction n with
  | zero => intros; rename_i h; exact h.elim
  | succ n ih =>
    intros; rename_i h
    unfold wLX9_findPath_68 at h
    exact (yst_if h (fun h => (hB _ _ _ _ h)) (fun h => (yst_if (And.right h) (fun h => (ih h)) (fun h => (yst_if (And.right h) (fun h => (ih h)) (fun h => (yst_if2 h (fun h => (yst_if2 h (fun h => (yst_if2 h (fun h => (ih ((And.right ((And.right h) _ rfl)) _ rfl))) (fun h => (ih h)))) (fun h => (sX9_back ((And.right h) _ rfl) (fun _ _ h => (hK _ _ (And.right h))))))) (fun h => (yst_if2 h (fun h => (yst_if2 h (fun h => (yst_if2 h (fun h => (ih ((And.right ((And.right h) _ rfl)) _ rfl))) (fun h => (ih h)))) (fun h => (sX9_back ((And.right h) _ rfl) (fun _ _ h => (hK _ _ (And.right h))))))) (fun h => (ih h)))))))))))
theorem tLX9_findPath_68 {P : Prop} {i0 : Int32} {i1 : Int32} {i2 : Int32} {i3 : Int32} {i4 : Int32} {i5 : Int32} {i6 : Int32} {i7 : Int32} {i8 : Int32} {i9 : Int32} {i10 : Int32} {i11 : Int32} {i12 : Int32} {i13 : Int32} {i14 : Int32} {i15 : Int32} {i16 : Int32} {i17 : Int32} {f20 : Nat → Int32} {f21 : Nat → Int32} {p0 : Int32} {p1 : Int32} {p2 : Int32} {p3 : Int32} {t46_2 : Int32} {v60 : Int32} {K : Int32 → (Int32 × (Nat → Int32) × (Nat → Int32) × (Nat → Int32)) → Prop} {B46_2 : (Nat → Int32) → (Nat → Int32) → Int32 → Int32 → Prop} {n : Nat} {t68_0 : Nat → Int32} {t68_1 : Nat → Int32} {t68_2 : Int32} {t68_3 : Int32} (h : wLX9_findPath_68 i0 i1 i2 i3 i4 i5 i6 i7 i8 i9 i10 i11 i12 i13 i14 i15 i16 i17 f20 f21 p0 p1 p2 p3 t46_2 v60 K B46_2 n t68_0 t68_1 t68_2 t68_3) (hK : ∀ x0 x1, K x0 x1 → P) (hB : ∀ x0 x1 x2 x3, B46_2 x0 x1 x2 x3 → P) : P := sLX9_findPath_68 hK hB n h

theorem sLX9_findPath_46 {P : Prop} {i0 : Int32} {i1 : Int32} {i2 : Int32} {i3 : Int32} {i4 : Int32} {i5 : Int32} {i6 : Int32} {i7 : Int32} {i8 : Int32} {i9 : Int32} {i10 : Int32} {i11 : Int32} {i12 : Int32} {i13 : Int32} {i14 : Int32} {i15 : Int32} {i16 : Int32} {i17 : Int32} {f20 : Nat → Int32} {f21 : Nat → Int32} {p0 : Int32} {p1 : Int32} {p2 : Int32} {p3 : Int32} {K : Int32 → (Int32 × (Nat → Int32) × (Nat → Int32) × (Nat → Int32)) → Prop} (hK : ∀ x0 x1, K x0 x1 → P) : ∀ (n : Nat) {t46_0 : Nat → Int32} {t46_1 : Nat → Int32} {t46_2 : Int32} {t46_3 : Int32}, wLX9_findPath_46 i0 i1 i2 i3 i4 i5 i6 i7 i8 i9 i10 i11 i12 i13 i14 i15 i16 i17 f20 f21 p0 p1 p2 p3 K n t46_0 t46_1 t46_2 t46_3 → P := by
  intro n
  induction n with
  | zero => intros; rename_i h; exact h.elim
  | succ n ih =>
    intros; rename_i h
    unfold wLX9_findPath_46 at h
    exact (yst_if h (fun h => (hK _ _ h)) (fun h => (Exists.elim ((And.right h) _ rfl) (fun n h => (tLX9_findPath_68 h hK (fun _ _ _ _ h => (ih h)))))))
theorem tLX9_findPath_46 {P : Prop} {i0 : Int32} {i1 : Int32} {i2 : Int32} {i3 : Int32} {i4 : Int32} {i5 : Int32} {i6 : Int32} {i7 : Int32} {i8 : Int32} {i9 : Int32} {i10 : Int32} {i11 : Int32} {i12 : Int32} {i13 : Int32} {i14 : Int32} {i15 : Int32} {i16 : Int32} {i17 : Int32} {f20 : Nat → Int32} {f21 : Nat → Int32} {p0 : Int32} {p1 : Int32} {p2 : Int32} {p3 : Int32} {K : Int32 → (Int32 × (Nat → Int32) × (Nat → Int32) × (Nat → Int32)) → Prop} {n : Nat} {t46_0 : Nat → Int32} {t46_1 : Nat → Int32} {t46_2 : Int32} {t46_3 : Int32} (h : wLX9_findPath_46 i0 i1 i2 i3 i4 i5 i6 i7 i8 i9 i10 i11 i12 i13 i14 i15 i16 i17 f20 f21 p0 p1 p2 p3 K n t46_0 t46_1 t46_2 t46_3) (hK : ∀ x0 x1, K x0 x1 → P) : P := sLX9_findPath_46 hK n h

theorem sLX9_findPath_3 {P : Prop} {i0 : Int32} {i1 : Int32} {i2 : Int32} {i3 : Int32} {i4 : Int32} {i5 : Int32} {i6 : Int32} {i7 : Int32} {i8 : Int32} {i9 : Int32} {i10 : Int32} {i11 : Int32} {i12 : Int32} {i13 : Int32} {i14 : Int32} {i15 : Int32} {i16 : Int32} {i17 : Int32} {f18 : Nat → Int32} {f20 : Nat → Int32} {f21 : Nat → Int32} {p0 : Int32} {p1 : Int32} {p2 : Int32} {p3 : Int32} {K : Int32 → (Int32 × (Nat → Int32) × (Nat → Int32) × (Nat → Int32)) → Prop} (hK : ∀ x0 x1, K x0 x1 → P) : ∀ (n : Nat) {t3_0 : Nat → Int32} {t3_1 : Int32}, wLX9_findPath_3 i0 i1 i2 i3 i4 i5 i6 i7 i8 i9 i10 i11 i12 i13 i14 i15 i16 i17 f18 f20 f21 p0 p1 p2 p3 K n t3_0 t3_1 → P := by
  intro n
  induction n with
  | zero => intros; rename_i h; exact h.elim
  | succ n ih =>
    intros; rename_i h
    unfold wLX9_findPath_3 at h
    exact (yst_if h (fun h => (Exists.elim ((And.right (h _ rfl)) _ rfl) (fun n h => (tLX9_findPath_46 h hK)))) (fun h => (ih ((And.right h) _ rfl))))
theorem tLX9_findPath_3 {P : Prop} {i0 : Int32} {i1 : Int32} {i2 : Int32} {i3 : Int32} {i4 : Int32} {i5 : Int32} {i6 : Int32} {i7 : Int32} {i8 : Int32} {i9 : Int32} {i10 : Int32} {i11 : Int32} {i12 : Int32} {i13 : Int32} {i14 : Int32} {i15 : Int32} {i16 : Int32} {i17 : Int32} {f18 : Nat → Int32} {f20 : Nat → Int32} {f21 : Nat → Int32} {p0 : Int32} {p1 : Int32} {p2 : Int32} {p3 : Int32} {K : Int32 → (Int32 × (Nat → Int32) × (Nat → Int32) × (Nat → Int32)) → Prop} {n : Nat} {t3_0 : Nat → Int32} {t3_1 : Int32} (h : wLX9_findPath_3 i0 i1 i2 i3 i4 i5 i6 i7 i8 i9 i10 i11 i12 i13 i14 i15 i16 i17 f18 f20 f21 p0 p1 p2 p3 K n t3_0 t3_1) (hK : ∀ x0 x1, K x0 x1 → P) : P := sLX9_findPath_3 hK n h

theorem sX9_findPath {P : Prop} {i0 : Int32} {i1 : Int32} {i2 : Int32} {i3 : Int32} {i4 : Int32} {i5 : Int32} {i6 : Int32} {i7 : Int32} {i8 : Int32} {i9 : Int32} {i10 : Int32} {i11 : Int32} {i12 : Int32} {i13 : Int32} {i14 : Int32} {i15 : Int32} {i16 : Int32} {i17 : Int32} {f18 : Nat → Int32} {f19 : Nat → Int32} {f20 : Nat → Int32} {f21 : Nat → Int32} {p0 : Int32} {p1 : Int32} {p2 : Int32} {p3 : Int32} {K : Int32 → (Int32 × (Nat → Int32) × (Nat → Int32) × (Nat → Int32)) → Prop} (h : wX9_findPath i0 i1 i2 i3 i4 i5 i6 i7 i8 i9 i10 i11 i12 i13 i14 i15 i16 i17 f18 f19 f20 f21 p0 p1 p2 p3 K) (hK : ∀ x0 x1, K x0 x1 → P) : P := by
  unfold wX9_findPath at h
  exact (Exists.elim h (fun n h => (tLX9_findPath_3 h hK)))

theorem sLX9_joinPath_2 {P : Prop} {i7 : Int32} {f18 : Nat → Int32} {p0 : Int32} {K : (Int32 × (Nat → Int32)) → Prop} (hK : ∀ x0, K x0 → P) : ∀ (n : Nat) {t2_0 : Nat → Int32} {t2_1 : Int32} {t2_2 : Int32}, wLX9_joinPath_2 i7 f18 p0 K n t2_0 t2_1 t2_2 → P := by
  intro n
  induction n with
  | zero => intros; rename_i h; exact h.elim
  | succ n ih =>
    intros; rename_i h
    unfold wLX9_joinPath_2 at h
    exact (yst_if h (fun h => (ih (((And.right (And.right ((And.right (And.right ((And.right (And.right ((And.right h) _ rfl))) _ rfl))) _ rfl))) _ rfl) _ rfl))) (fun h => (yst_if h (fun h => (hK _ h)) (fun h => (yst_if h (fun h => (hK _ h)) (fun h => (ih (((And.right (And.right ((And.right (And.right ((And.right (And.right ((And.right h) _ rfl))) _ rfl))) _ rfl))) _ rfl) _ rfl))))))))
theorem tLX9_joinPath_2 {P : Prop} {i7 : Int32} {f18 : Nat → Int32} {p0 : Int32} {K : (Int32 × (Nat → Int32)) → Prop} {n : Nat} {t2_0 : Nat → Int32} {t2_1 : Int32} {t2_2 : Int32} (h : wLX9_joinPath_2 i7 f18 p0 K n t2_0 t2_1 t2_2) (hK : ∀ x0, K x0 → P) : P := sLX9_joinPath_2 hK n h

theorem sX9_joinPath {P : Prop} {i0 : Int32} {i1 : Int32} {i2 : Int32} {i3 : Int32} {i4 : Int32} {i5 : Int32} {i6 : Int32} {i7 : Int32} {i8 : Int32} {i9 : Int32} {i10 : Int32} {i11 : Int32} {i12 : Int32} {i13 : Int32} {i14 : Int32} {i15 : Int32} {i16 : Int32} {i17 : Int32} {f18 : Nat → Int32} {f19 : Nat → Int32} {p0 : Int32} {K : (Int32 × (Nat → Int32)) → Prop} (h : wX9_joinPath i0 i1 i2 i3 i4 i5 i6 i7 i8 i9 i10 i11 i12 i13 i14 i15 i16 i17 f18 f19 p0 K) (hK : ∀ x0, K x0 → P) : P := by
  unfold wX9_joinPath at h
  exact (Exists.elim h (fun n h => (tLX9_joinPath_2 h hK)))

theorem sX9_putFace {P : Prop} {i0 : Int32} {i1 : Int32} {i2 : Int32} {i3 : Int32} {i4 : Int32} {i5 : Int32} {i6 : Int32} {i7 : Int32} {i8 : Int32} {i9 : Int32} {i10 : Int32} {i11 : Int32} {i12 : Int32} {i13 : Int32} {i14 : Int32} {i15 : Int32} {i16 : Int32} {i17 : Int32} {f18 : Nat → Int32} {f19 : Nat → Int32} {f20 : Nat → Int32} {p0 : Int32} {p1 : Int32} {p2 : Int32} {K : ((Nat → Int32) × (Nat → Int32) × (Nat → Int32)) → Prop} (h : wX9_putFace i0 i1 i2 i3 i4 i5 i6 i7 i8 i9 i10 i11 i12 i13 i14 i15 i16 i17 f18 f19 f20 p0 p1 p2 K) (hK : ∀ x0, K x0 → P) : P := by
  unfold wX9_putFace at h
  exact (hK _ ((And.right (And.right ((And.right ((And.right h) _ rfl)) _ rfl))) _ rfl))

theorem sLX9_begin_104 {P : Prop} {i0 : Int32} {i1 : Int32} {i2 : Int32} {i3 : Int32} {i4 : Int32} {i8 : Int32} {i9 : Int32} {i10 : Int32} {i11 : Int32} {i12 : Int32} {i13 : Int32} {i14 : Int32} {i15 : Int32} {i16 : Int32} {i17 : Int32} {r73 : Int32} {u73 : Int32 × (Nat → Int32) × (Nat → Int32) × (Nat → Int32)} {u79 : Int32 × (Nat → Int32)} {K : Int32 → (Int32 × Int32 × Int32 × (Nat → Int32) × (Nat → Int32) × (Nat → Int32) × (Nat → Int32) × (Nat → Int32) × (Nat → Int32) × (Nat → Int32)) → Prop} (hK : ∀ x0 x1, K x0 x1 → P) : ∀ (n : Nat) {t104_0 : Nat → Int32} {t104_1 : Nat → Int32} {t104_2 : Nat → Int32} {t104_3 : Int32}, wLX9_begin_104 i0 i1 i2 i3 i4 i8 i9 i10 i11 i12 i13 i14 i15 i16 i17 r73 u73 u79 K n t104_0 t104_1 t104_2 t104_3 → P := by
  intro n
  induction n with
  | zero => intros; rename_i h; exact h.elim
  | succ n ih =>
    intros; rename_i h
    unfold wLX9_begin_104 at h
    exact (yst_if h (fun h => (hK _ _ (And.right h))) (fun h => (sX9_putFace (And.right h) (fun _ h => (sX9_putFace (And.right h) (fun _ h => (ih h)))))))
theorem tLX9_begin_104 {P : Prop} {i0 : Int32} {i1 : Int32} {i2 : Int32} {i3 : Int32} {i4 : Int32} {i8 : Int32} {i9 : Int32} {i10 : Int32} {i11 : Int32} {i12 : Int32} {i13 : Int32} {i14 : Int32} {i15 : Int32} {i16 : Int32} {i17 : Int32} {r73 : Int32} {u73 : Int32 × (Nat → Int32) × (Nat → Int32) × (Nat → Int32)} {u79 : Int32 × (Nat → Int32)} {K : Int32 → (Int32 × Int32 × Int32 × (Nat → Int32) × (Nat → Int32) × (Nat → Int32) × (Nat → Int32) × (Nat → Int32) × (Nat → Int32) × (Nat → Int32)) → Prop} {n : Nat} {t104_0 : Nat → Int32} {t104_1 : Nat → Int32} {t104_2 : Nat → Int32} {t104_3 : Int32} (h : wLX9_begin_104 i0 i1 i2 i3 i4 i8 i9 i10 i11 i12 i13 i14 i15 i16 i17 r73 u73 u79 K n t104_0 t104_1 t104_2 t104_3) (hK : ∀ x0 x1, K x0 x1 → P) : P := sLX9_begin_104 hK n h

theorem sLX9_begin_45 {P : Prop} {i0 : Int32} {i1 : Int32} {i2 : Int32} {i3 : Int32} {i4 : Int32} {i6 : Int32} {i7 : Int32} {i8 : Int32} {i9 : Int32} {i10 : Int32} {i11 : Int32} {i12 : Int32} {i13 : Int32} {i14 : Int32} {i15 : Int32} {i16 : Int32} {i17 : Int32} {f18 : Nat → Int32} {f19 : Nat → Int32} {f20 : Nat → Int32} {f21 : Nat → Int32} {f23 : Nat → Int32} {f24 : Nat → Int32} {f25 : Nat → Int32} {t2_0 : Int32} {t19_0 : Int32} {K : Int32 → (Int32 × Int32 × Int32 × (Nat → Int32) × (Nat → Int32) × (Nat → Int32) × (Nat → Int32) × (Nat → Int32) × (Nat → Int32) × (Nat → Int32)) → Prop} (hK : ∀ x0 x1, K x0 x1 → P) : ∀ (n : Nat) {t45_0 : Nat → Int32} {t45_1 : Int32}, wLX9_begin_45 i0 i1 i2 i3 i4 i6 i7 i8 i9 i10 i11 i12 i13 i14 i15 i16 i17 f18 f19 f20 f21 f23 f24 f25 t2_0 t19_0 K n t45_0 t45_1 → P := by
  intro n
  induction n with
  | zero => intros; rename_i h; exact h.elim
  | succ n ih =>
    intros; rename_i h
    unfold wLX9_begin_45 at h
    exact (yst_if h (fun h => (sX9_findPath h (fun _ _ h => (sX9_joinPath h (fun _ h => (Exists.elim ((h _ rfl) _ rfl) (fun n h => (tLX9_begin_104 h hK)))))))) (fun h => (ih ((And.right h) _ rfl))))
theorem tLX9_begin_45 {P : Prop} {i0 : Int32} {i1 : Int32} {i2 : Int32} {i3 : Int32} {i4 : Int32} {i6 : Int32} {i7 : Int32} {i8 : Int32} {i9 : Int32} {i10 : Int32} {i11 : Int32} {i12 : Int32} {i13 : Int32} {i14 : Int32} {i15 : Int32} {i16 : Int32} {i17 : Int32} {f18 : Nat → Int32} {f19 : Nat → Int32} {f20 : Nat → Int32} {f21 : Nat → Int32} {f23 : Nat → Int32} {f24 : Nat → Int32} {f25 : Nat → Int32} {t2_0 : Int32} {t19_0 : Int32} {K : Int32 → (Int32 × Int32 × Int32 × (Nat → Int32) × (Nat → Int32) × (Nat → Int32) × (Nat → Int32) × (Nat → Int32) × (Nat → Int32) × (Nat → Int32)) → Prop} {n : Nat} {t45_0 : Nat → Int32} {t45_1 : Int32} (h : wLX9_begin_45 i0 i1 i2 i3 i4 i6 i7 i8 i9 i10 i11 i12 i13 i14 i15 i16 i17 f18 f19 f20 f21 f23 f24 f25 t2_0 t19_0 K n t45_0 t45_1) (hK : ∀ x0 x1, K x0 x1 → P) : P := sLX9_begin_45 hK n h

theorem sLX9_begin_19 {P : Prop} {i0 : Int32} {i1 : Int32} {i2 : Int32} {i3 : Int32} {i4 : Int32} {i6 : Int32} {i7 : Int32} {i8 : Int32} {i9 : Int32} {i10 : Int32} {i11 : Int32} {i12 : Int32} {i13 : Int32} {i14 : Int32} {i15 : Int32} {i16 : Int32} {i17 : Int32} {f18 : Nat → Int32} {f19 : Nat → Int32} {f20 : Nat → Int32} {f21 : Nat → Int32} {f22 : Nat → Int32} {f23 : Nat → Int32} {f24 : Nat → Int32} {f25 : Nat → Int32} {t2_0 : Int32} {K : Int32 → (Int32 × Int32 × Int32 × (Nat → Int32) × (Nat → Int32) × (Nat → Int32) × (Nat → Int32) × (Nat → Int32) × (Nat → Int32) × (Nat → Int32)) → Prop} (hK : ∀ x0 x1, K x0 x1 → P) : ∀ (n : Nat) {t19_0 : Int32}, wLX9_begin_19 i0 i1 i2 i3 i4 i6 i7 i8 i9 i10 i11 i12 i13 i14 i15 i16 i17 f18 f19 f20 f21 f22 f23 f24 f25 t2_0 K n t19_0 → P := by
  intro n
  induction n with
  | zero => intros; rename_i h; exact h.elim
  | succ n ih =>
    intros; rename_i h
    unfold wLX9_begin_19 at h
    exact (yst_if2 (And.right h) (fun h => (Exists.elim h (fun n h => (tLX9_begin_45 h hK)))) (fun h => (ih h)))
theorem tLX9_begin_19 {P : Prop} {i0 : Int32} {i1 : Int32} {i2 : Int32} {i3 : Int32} {i4 : Int32} {i6 : Int32} {i7 : Int32} {i8 : Int32} {i9 : Int32} {i10 : Int32} {i11 : Int32} {i12 : Int32} {i13 : Int32} {i14 : Int32} {i15 : Int32} {i16 : Int32} {i17 : Int32} {f18 : Nat → Int32} {f19 : Nat → Int32} {f20 : Nat → Int32} {f21 : Nat → Int32} {f22 : Nat → Int32} {f23 : Nat → Int32} {f24 : Nat → Int32} {f25 : Nat → Int32} {t2_0 : Int32} {K : Int32 → (Int32 × Int32 × Int32 × (Nat → Int32) × (Nat → Int32) × (Nat → Int32) × (Nat → Int32) × (Nat → Int32) × (Nat → Int32) × (Nat → Int32)) → Prop} {n : Nat} {t19_0 : Int32} (h : wLX9_begin_19 i0 i1 i2 i3 i4 i6 i7 i8 i9 i10 i11 i12 i13 i14 i15 i16 i17 f18 f19 f20 f21 f22 f23 f24 f25 t2_0 K n t19_0) (hK : ∀ x0 x1, K x0 x1 → P) : P := sLX9_begin_19 hK n h

theorem sLX9_begin_2 {P : Prop} {i0 : Int32} {i1 : Int32} {i2 : Int32} {i3 : Int32} {i4 : Int32} {i6 : Int32} {i7 : Int32} {i8 : Int32} {i9 : Int32} {i10 : Int32} {i11 : Int32} {i12 : Int32} {i13 : Int32} {i14 : Int32} {i15 : Int32} {i16 : Int32} {i17 : Int32} {f18 : Nat → Int32} {f19 : Nat → Int32} {f20 : Nat → Int32} {f21 : Nat → Int32} {f22 : Nat → Int32} {f23 : Nat → Int32} {f24 : Nat → Int32} {f25 : Nat → Int32} {K : Int32 → (Int32 × Int32 × Int32 × (Nat → Int32) × (Nat → Int32) × (Nat → Int32) × (Nat → Int32) × (Nat → Int32) × (Nat → Int32) × (Nat → Int32)) → Prop} (hK : ∀ x0 x1, K x0 x1 → P) : ∀ (n : Nat) {t2_0 : Int32}, wLX9_begin_2 i0 i1 i2 i3 i4 i6 i7 i8 i9 i10 i11 i12 i13 i14 i15 i16 i17 f18 f19 f20 f21 f22 f23 f24 f25 K n t2_0 → P := by
  intro n
  induction n with
  | zero => intros; rename_i h; exact h.elim
  | succ n ih =>
    intros; rename_i h
    unfold wLX9_begin_2 at h
    exact (yst_if2 (And.right h) (fun h => (Exists.elim h (fun n h => (tLX9_begin_19 h hK)))) (fun h => (ih h)))
theorem tLX9_begin_2 {P : Prop} {i0 : Int32} {i1 : Int32} {i2 : Int32} {i3 : Int32} {i4 : Int32} {i6 : Int32} {i7 : Int32} {i8 : Int32} {i9 : Int32} {i10 : Int32} {i11 : Int32} {i12 : Int32} {i13 : Int32} {i14 : Int32} {i15 : Int32} {i16 : Int32} {i17 : Int32} {f18 : Nat → Int32} {f19 : Nat → Int32} {f20 : Nat → Int32} {f21 : Nat → Int32} {f22 : Nat → Int32} {f23 : Nat → Int32} {f24 : Nat → Int32} {f25 : Nat → Int32} {K : Int32 → (Int32 × Int32 × Int32 × (Nat → Int32) × (Nat → Int32) × (Nat → Int32) × (Nat → Int32) × (Nat → Int32) × (Nat → Int32) × (Nat → Int32)) → Prop} {n : Nat} {t2_0 : Int32} (h : wLX9_begin_2 i0 i1 i2 i3 i4 i6 i7 i8 i9 i10 i11 i12 i13 i14 i15 i16 i17 f18 f19 f20 f21 f22 f23 f24 f25 K n t2_0) (hK : ∀ x0 x1, K x0 x1 → P) : P := sLX9_begin_2 hK n h

theorem sX9_begin {P : Prop} {i0 : Int32} {i1 : Int32} {i2 : Int32} {i3 : Int32} {i4 : Int32} {i5 : Int32} {i6 : Int32} {i7 : Int32} {i8 : Int32} {i9 : Int32} {i10 : Int32} {i11 : Int32} {i12 : Int32} {i13 : Int32} {i14 : Int32} {i15 : Int32} {i16 : Int32} {i17 : Int32} {f18 : Nat → Int32} {f19 : Nat → Int32} {f20 : Nat → Int32} {f21 : Nat → Int32} {f22 : Nat → Int32} {f23 : Nat → Int32} {f24 : Nat → Int32} {f25 : Nat → Int32} {K : Int32 → (Int32 × Int32 × Int32 × (Nat → Int32) × (Nat → Int32) × (Nat → Int32) × (Nat → Int32) × (Nat → Int32) × (Nat → Int32) × (Nat → Int32)) → Prop} (h : wX9_begin i0 i1 i2 i3 i4 i5 i6 i7 i8 i9 i10 i11 i12 i13 i14 i15 i16 i17 f18 f19 f20 f21 f22 f23 f24 f25 K) (hK : ∀ x0 x1, K x0 x1 → P) : P := by
  unfold wX9_begin at h
  exact (Exists.elim h (fun n h => (tLX9_begin_2 h hK)))

theorem sLX9_isWhole_4 {P : Prop} {i3 : Int32} {f18 : Nat → Int32} {f19 : Nat → Int32} {K : Int32 → Unit → Prop} (hK : ∀ x0 x1, K x0 x1 → P) : ∀ (n : Nat) {t4_0 : Int32} {t4_1 : Int32}, wLX9_isWhole_4 i3 f18 f19 K n t4_0 t4_1 → P := by
  intro n
  induction n with
  | zero => intros; rename_i h; exact h.elim
  | succ n ih =>
    intros; rename_i h
    unfold wLX9_isWhole_4 at h
    exact (yst_if h (fun h => (hK _ _ (And.right h))) (fun h => (yst_if h (fun h => (ih h)) (fun h => (yst_if2 (And.right (And.right h)) (fun h => (ih h)) (fun h => (ih h)))))))
theorem tLX9_isWhole_4 {P : Prop} {i3 : Int32} {f18 : Nat → Int32} {f19 : Nat → Int32} {K : Int32 → Unit → Prop} {n : Nat} {t4_0 : Int32} {t4_1 : Int32} (h : wLX9_isWhole_4 i3 f18 f19 K n t4_0 t4_1) (hK : ∀ x0 x1, K x0 x1 → P) : P := sLX9_isWhole_4 hK n h

theorem sX9_isWhole {P : Prop} {i0 : Int32} {i1 : Int32} {i2 : Int32} {i3 : Int32} {i4 : Int32} {i5 : Int32} {i6 : Int32} {i7 : Int32} {i8 : Int32} {i9 : Int32} {i10 : Int32} {i11 : Int32} {i12 : Int32} {i13 : Int32} {i14 : Int32} {i15 : Int32} {i16 : Int32} {i17 : Int32} {f18 : Nat → Int32} {f19 : Nat → Int32} {K : Int32 → Unit → Prop} (h : wX9_isWhole i0 i1 i2 i3 i4 i5 i6 i7 i8 i9 i10 i11 i12 i13 i14 i15 i16 i17 f18 f19 K) (hK : ∀ x0 x1, K x0 x1 → P) : P := by
  unfold wX9_isWhole at h
  exact (Exists.elim h (fun n h => (tLX9_isWhole_4 h hK)))

theorem sLX9_offer_5 {P : Prop} {i6 : Int32} {i8 : Int32} {i9 : Int32} {i10 : Int32} {f18 : Nat → Int32} {p0 : Int32} {p1 : Int32} {K : (Int32 × Int32 × Int32) → Prop} (hK : ∀ x0, K x0 → P) : ∀ (n : Nat) {t5_0 : Int32} {t5_1 : Int32}, wLX9_offer_5 i6 i8 i9 i10 f18 p0 p1 K n t5_0 t5_1 → P := by
  intro n
  induction n with
  | zero => intros; rename_i h; exact h.elim
  | succ n ih =>
    intros; rename_i h
    unfold wLX9_offer_5 at h
    exact (yst_if h (fun h => (yst_if h (fun h => (hK _ h)) (fun h => (hK _ h)))) (fun h => (yst_if2 (And.right h) (fun h => (ih (h _ rfl))) (fun h => (ih (h _ rfl))))))
theorem tLX9_offer_5 {P : Prop} {i6 : Int32} {i8 : Int32} {i9 : Int32} {i10 : Int32} {f18 : Nat → Int32} {p0 : Int32} {p1 : Int32} {K : (Int32 × Int32 × Int32) → Prop} {n : Nat} {t5_0 : Int32} {t5_1 : Int32} (h : wLX9_offer_5 i6 i8 i9 i10 f18 p0 p1 K n t5_0 t5_1) (hK : ∀ x0, K x0 → P) : P := sLX9_offer_5 hK n h

theorem sX9_offer {P : Prop} {i0 : Int32} {i1 : Int32} {i2 : Int32} {i3 : Int32} {i4 : Int32} {i5 : Int32} {i6 : Int32} {i7 : Int32} {i8 : Int32} {i9 : Int32} {i10 : Int32} {i11 : Int32} {i12 : Int32} {i13 : Int32} {i14 : Int32} {i15 : Int32} {i16 : Int32} {i17 : Int32} {f18 : Nat → Int32} {p0 : Int32} {p1 : Int32} {K : (Int32 × Int32 × Int32) → Prop} (h : wX9_offer i0 i1 i2 i3 i4 i5 i6 i7 i8 i9 i10 i11 i12 i13 i14 i15 i16 i17 f18 p0 p1 K) (hK : ∀ x0, K x0 → P) : P := by
  unfold wX9_offer at h
  exact (Exists.elim h (fun n h => (tLX9_offer_5 h hK)))

theorem sLX9_findPiece_162 {P : Prop} {i3 : Int32} {i5 : Int32} {f18 : Nat → Int32} {t150_0 : Int32} {K : (Int32 × Int32 × Int32) → Prop} {B150_3 : Int32 → Int32 → Int32 → Prop} (hK : ∀ x0, K x0 → P) (hB : ∀ x0 x1 x2, B150_3 x0 x1 x2 → P) : ∀ (n : Nat) {t162_0 : Int32} {t162_1 : Int32} {t162_2 : Int32}, wLX9_findPiece_162 i3 i5 f18 t150_0 K B150_3 n t162_0 t162_1 t162_2 → P := by
  intro n
  induction n with
  | zero => intros; rename_i h; exact h.elim
  | succ n ih =>
    intros; rename_i h
    unfold wLX9_findPiece_162 at h
    exact (yst_if h (fun h => (hB _ _ _ h)) (fun h => (yst_if2 h (fun h => (ih h)) (fun h => (ih ((And.right ((And.right h) _ rfl)) _ rfl))))))
theorem tLX9_findPiece_162 {P : Prop} {i3 : Int32} {i5 : Int32} {f18 : Nat → Int32} {t150_0 : Int32} {K : (Int32 × Int32 × Int32) → Prop} {B150_3 : Int32 → Int32 → Int32 → Prop} {n : Nat} {t162_0 : Int32} {t162_1 : Int32} {t162_2 : Int32} (h : wLX9_findPiece_162 i3 i5 f18 t150_0 K B150_3 n t162_0 t162_1 t162_2) (hK : ∀ x0, K x0 → P) (hB : ∀ x0 x1 x2, B150_3 x0 x1 x2 → P) : P := sLX9_findPiece_162 hK hB n h

theorem sLX9_findPiece_150 {P : Prop} {i0 : Int32} {i1 : Int32} {i2 : Int32} {i3 : Int32} {i4 : Int32} {i5 : Int32} {i6 : Int32} {i7 : Int32} {i11 : Int32} {i12 : Int32} {i13 : Int32} {i14 : Int32} {i15 : Int32} {i16 : Int32} {i17 : Int32} {f18 : Nat → Int32} {f19 : Nat → Int32} {t111_0 : Int32} {t111_1 : Int32} {t111_2 : Int32} {t111_3 : Int32} {t111_4 : Int32} {K : (Int32 × Int32 × Int32) → Prop} {B111_2 : Int32 → Int32 → Int32 → Int32 → Int32 → Prop} (hK : ∀ x0, K x0 → P) (hB : ∀ x0 x1 x2 x3 x4, B111_2 x0 x1 x2 x3 x4 → P) : ∀ (n : Nat) {t150_0 : Int32} {t150_1 : Int32} {t150_2 : Int32}, wLX9_findPiece_150 i0 i1 i2 i3 i4 i5 i6 i7 i11 i12 i13 i14 i15 i16 i17 f18 f19 t111_0 t111_1 t111_2 t111_3 t111_4 K B111_2 n t150_0 t150_1 t150_2 → P := by
  intro n
  induction n with
  | zero => intros; rename_i h; exact h.elim
  | succ n ih =>
    intros; rename_i h
    unfold wLX9_findPiece_150 at h
    exact (yst_if h (fun h => (sX9_offer (h _ rfl) (fun _ h => (hB _ _ _ _ _ h)))) (fun h => (Exists.elim h (fun n h => (tLX9_findPiece_162 h hK (fun _ _ _ h => (ih h)))))))
theorem tLX9_findPiece_150 {P : Prop} {i0 : Int32} {i1 : Int32} {i2 : Int32} {i3 : Int32} {i4 : Int32} {i5 : Int32} {i6 : Int32} {i7 : Int32} {i11 : Int32} {i12 : Int32} {i13 : Int32} {i14 : Int32} {i15 : Int32} {i16 : Int32} {i17 : Int32} {f18 : Nat → Int32} {f19 : Nat → Int32} {t111_0 : Int32} {t111_1 : Int32} {t111_2 : Int32} {t111_3 : Int32} {t111_4 : Int32} {K : (Int32 × Int32 × Int32) → Prop} {B111_2 : Int32 → Int32 → Int32 → Int32 → Int32 → Prop} {n : Nat} {t150_0 : Int32} {t150_1 : Int32} {t150_2 : Int32} (h : wLX9_findPiece_150 i0 i1 i2 i3 i4 i5 i6 i7 i11 i12 i13 i14 i15 i16 i17 f18 f19 t111_0 t111_1 t111_2 t111_3 t111_4 K B111_2 n t150_0 t150_1 t150_2) (hK : ∀ x0, K x0 → P) (hB : ∀ x0 x1 x2 x3 x4, B111_2 x0 x1 x2 x3 x4 → P) : P := sLX9_findPiece_150 hK hB n h

theorem sLX9_findPiece_111 {P : Prop} {i0 : Int32} {i1 : Int32} {i2 : Int32} {i3 : Int32} {i4 : Int32} {i5 : Int32} {i6 : Int32} {i7 : Int32} {i11 : Int32} {i12 : Int32} {i13 : Int32} {i14 : Int32} {i15 : Int32} {i16 : Int32} {i17 : Int32} {f18 : Nat → Int32} {f19 : Nat → Int32} {K : (Int32 × Int32 × Int32) → Prop} (hK : ∀ x0, K x0 → P) : ∀ (n : Nat) {t111_0 : Int32} {t111_1 : Int32} {t111_2 : Int32} {t111_3 : Int32} {t111_4 : Int32}, wLX9_findPiece_111 i0 i1 i2 i3 i4 i5 i6 i7 i11 i12 i13 i14 i15 i16 i17 f18 f19 K n t111_0 t111_1 t111_2 t111_3 t111_4 → P := by
  intro n
  induction n with
  | zero => intros; rename_i h; exact h.elim
  | succ n ih =>
    intros; rename_i h
    unfold wLX9_findPiece_111 at h
    exact (yst_if h (fun h => (hK _ h)) (fun h => (yst_if (And.right h) (fun h => (ih h)) (fun h => (yst_if2 h (fun h => (Exists.elim (h _ rfl) (fun n h => (tLX9_findPiece_150 h hK (fun _ _ _ _ _ h => (ih h)))))) (fun h => (ih h)))))))
theorem tLX9_findPiece_111 {P : Prop} {i0 : Int32} {i1 : Int32} {i2 : Int32} {i3 : Int32} {i4 : Int32} {i5 : Int32} {i6 : Int32} {i7 : Int32} {i11 : Int32} {i12 : Int32} {i13 : Int32} {i14 : Int32} {i15 : Int32} {i16 : Int32} {i17 : Int32} {f18 : Nat → Int32} {f19 : Nat → Int32} {K : (Int32 × Int32 × Int32) → Prop} {n : Nat} {t111_0 : Int32} {t111_1 : Int32} {t111_2 : Int32} {t111_3 : Int32} {t111_4 : Int32} (h : wLX9_findPiece_111 i0 i1 i2 i3 i4 i5 i6 i7 i11 i12 i13 i14 i15 i16 i17 f18 f19 K n t111_0 t111_1 t111_2 t111_3 t111_4) (hK : ∀ x0, K x0 → P) : P := sLX9_findPiece_111 hK n h

theorem sLX9_findPiece_21 {P : Prop} {i0 : Int32} {i1 : Int32} {i2 : Int32} {i3 : Int32} {i4 : Int32} {i5 : Int32} {i6 : Int32} {i7 : Int32} {i11 : Int32} {i12 : Int32} {i13 : Int32} {i14 : Int32} {i15 : Int32} {i16 : Int32} {i17 : Int32} {f18 : Nat → Int32} {f19 : Nat → Int32} {f20 : Nat → Int32} {t9_3 : Int32} {K : (Int32 × Int32 × Int32) → Prop} {B9_1 : Int32 → Int32 → Int32 → Int32 → Prop} (hK : ∀ x0, K x0 → P) (hB : ∀ x0 x1 x2 x3, B9_1 x0 x1 x2 x3 → P) : ∀ (n : Nat) {t21_0 : Int32} {t21_1 : Int32} {t21_2 : Int32} {t21_3 : Int32}, wLX9_findPiece_21 i0 i1 i2 i3 i4 i5 i6 i7 i11 i12 i13 i14 i15 i16 i17 f18 f19 f20 t9_3 K B9_1 n t21_0 t21_1 t21_2 t21_3 → P := by
  intro n
  induction n with
  | zero => intros; rename_i h; exact h.elim
  | succ n ih =>
    intros; rename_i h
    unfold wLX9_findPiece_21 at h
    exact (yst_if h (fun h => (hB _ _ _ _ h)) (fun h => (yst_if2 h (fun h => (ih h)) (fun h => (yst_if2 h (fun h => (ih h)) (fun h => (yst_if2 (And.right h) (fun h => (ih h)) (fun h => (yst_if2 (And.right h) (fun h => (ih h)) (fun h => (sX9_offer h (fun _ h => (ih h)))))))))))))
theorem tLX9_findPiece_21 {P : Prop} {i0 : Int32} {i1 : Int32} {i2 : Int32} {i3 : Int32} {i4 : Int32} {i5 : Int32} {i6 : Int32} {i7 : Int32} {i11 : Int32} {i12 : Int32} {i13 : Int32} {i14 : Int32} {i15 : Int32} {i16 : Int32} {i17 : Int32} {f18 : Nat → Int32} {f19 : Nat → Int32} {f20 : Nat → Int32} {t9_3 : Int32} {K : (Int32 × Int32 × Int32) → Prop} {B9_1 : Int32 → Int32 → Int32 → Int32 → Prop} {n : Nat} {t21_0 : Int32} {t21_1 : Int32} {t21_2 : Int32} {t21_3 : Int32} (h : wLX9_findPiece_21 i0 i1 i2 i3 i4 i5 i6 i7 i11 i12 i13 i14 i15 i16 i17 f18 f19 f20 t9_3 K B9_1 n t21_0 t21_1 t21_2 t21_3) (hK : ∀ x0, K x0 → P) (hB : ∀ x0 x1 x2 x3, B9_1 x0 x1 x2 x3 → P) : P := sLX9_findPiece_21 hK hB n h

theorem sLX9_findPiece_9 {P : Prop} {i0 : Int32} {i1 : Int32} {i2 : Int32} {i3 : Int32} {i4 : Int32} {i5 : Int32} {i6 : Int32} {i7 : Int32} {i11 : Int32} {i12 : Int32} {i13 : Int32} {i14 : Int32} {i15 : Int32} {i16 : Int32} {i17 : Int32} {f18 : Nat → Int32} {f19 : Nat → Int32} {f20 : Nat → Int32} {K : (Int32 × Int32 × Int32) → Prop} (hK : ∀ x0, K x0 → P) : ∀ (n : Nat) {t9_0 : Int32} {t9_1 : Int32} {t9_2 : Int32} {t9_3 : Int32}, wLX9_findPiece_9 i0 i1 i2 i3 i4 i5 i6 i7 i11 i12 i13 i14 i15 i16 i17 f18 f19 f20 K n t9_0 t9_1 t9_2 t9_3 → P := by
  intro n
  induction n with
  | zero => intros; rename_i h; exact h.elim
  | succ n ih =>
    intros; rename_i h
    unfold wLX9_findPiece_9 at h
    exact (yst_if h (fun h => (Exists.elim h (fun n h => (tLX9_findPiece_111 h hK)))) (fun h => (Exists.elim (h _ rfl) (fun n h => (tLX9_findPiece_21 h hK (fun _ _ _ _ h => (ih h)))))))
theorem tLX9_findPiece_9 {P : Prop} {i0 : Int32} {i1 : Int32} {i2 : Int32} {i3 : Int32} {i4 : Int32} {i5 : Int32} {i6 : Int32} {i7 : Int32} {i11 : Int32} {i12 : Int32} {i13 : Int32} {i14 : Int32} {i15 : Int32} {i16 : Int32} {i17 : Int32} {f18 : Nat → Int32} {f19 : Nat → Int32} {f20 : Nat → Int32} {K : (Int32 × Int32 × Int32) → Prop} {n : Nat} {t9_0 : Int32} {t9_1 : Int32} {t9_2 : Int32} {t9_3 : Int32} (h : wLX9_findPiece_9 i0 i1 i2 i3 i4 i5 i6 i7 i11 i12 i13 i14 i15 i16 i17 f18 f19 f20 K n t9_0 t9_1 t9_2 t9_3) (hK : ∀ x0, K x0 → P) : P := sLX9_findPiece_9 hK n h

theorem sX9_findPiece {P : Prop} {i0 : Int32} {i1 : Int32} {i2 : Int32} {i3 : Int32} {i4 : Int32} {i5 : Int32} {i6 : Int32} {i7 : Int32} {i8 : Int32} {i9 : Int32} {i10 : Int32} {i11 : Int32} {i12 : Int32} {i13 : Int32} {i14 : Int32} {i15 : Int32} {i16 : Int32} {i17 : Int32} {f18 : Nat → Int32} {f19 : Nat → Int32} {f20 : Nat → Int32} {K : (Int32 × Int32 × Int32) → Prop} (h : wX9_findPiece i0 i1 i2 i3 i4 i5 i6 i7 i8 i9 i10 i11 i12 i13 i14 i15 i16 i17 f18 f19 f20 K) (hK : ∀ x0, K x0 → P) : P := by
  unfold wX9_findPiece at h
  exact (Exists.elim h (fun n h => (tLX9_findPiece_9 h hK)))

theorem sLX9_overPart_113 {P : Prop} {i0 : Int32} {i1 : Int32} {i2 : Int32} {i3 : Int32} {i4 : Int32} {i5 : Int32} {i6 : Int32} {i7 : Int32} {i8 : Int32} {i9 : Int32} {i10 : Int32} {i11 : Int32} {i12 : Int32} {i13 : Int32} {i14 : Int32} {i15 : Int32} {i16 : Int32} {i17 : Int32} {f19 : Nat → Int32} {f21 : Nat → Int32} {p0 : Int32} {p1 : Int32} {t93_2 : Int32} {v105 : Int32} {K : Int32 → (Int32 × (Nat → Int32) × (Nat → Int32) × (Nat → Int32)) → Prop} {B93_3 : (Nat → Int32) → (Nat → Int32) → Int32 → Int32 → Prop} (hK : ∀ x0 x1, K x0 x1 → P) (hB : ∀ x0 x1 x2 x3, B93_3 x0 x1 x2 x3 → P) : ∀ (n : Nat) {t113_0 : Nat → Int32} {t113_1 : Nat → Int32} {t113_2 : Int32} {t113_3 : Int32}, wLX9_overPart_113 i0 i1 i2 i3 i4 i5 i6 i7 i8 i9 i10 i11 i12 i13 i14 i15 i16 i17 f19 f21 p0 p1 t93_2 v105 K B93_3 n t113_0 t113_1 t113_2 t113_3 → P := by
  intro n
  induction n with
  | zero => intros; rename_i h; exact h.elim
  | succ n ih =>
    intros; rename_i h
    unfold wLX9_overPart_113 at h
    exact (yst_if h (fun h => (hB _ _ _ _ h)) (fun h => (yst_if (And.right h) (fun h => (ih h)) (fun h => (yst_if (And.right h) (fun h => (yst_if2 h (fun h => (yst_if2 h (fun h => (ih h)) (fun h => (ih ((And.right ((And.right h) _ rfl)) _ rfl))))) (fun h => (sX9_back ((And.right h) _ rfl) (fun _ _ h => (hK _ _ (And.right h))))))) (fun h => (ih h)))))))
theorem tLX9_overPart_113 {P : Prop} {i0 : Int32} {i1 : Int32} {i2 : Int32} {i3 : Int32} {i4 : Int32} {i5 : Int32} {i6 : Int32} {i7 : Int32} {i8 : Int32} {i9 : Int32} {i10 : Int32} {i11 : Int32} {i12 : Int32} {i13 : Int32} {i14 : Int32} {i15 : Int32} {i16 : Int32} {i17 : Int32} {f19 : Nat → Int32} {f21 : Nat → Int32} {p0 : Int32} {p1 : Int32} {t93_2 : Int32} {v105 : Int32} {K : Int32 → (Int32 × (Nat → Int32) × (Nat → Int32) × (Nat → Int32)) → Prop} {B93_3 : (Nat → Int32) → (Nat → Int32) → Int32 → Int32 → Prop} {n : Nat} {t113_0 : Nat → Int32} {t113_1 : Nat → Int32} {t113_2 : Int32} {t113_3 : Int32} (h : wLX9_overPart_113 i0 i1 i2 i3 i4 i5 i6 i7 i8 i9 i10 i11 i12 i13 i14 i15 i16 i17 f19 f21 p0 p1 t93_2 v105 K B93_3 n t113_0 t113_1 t113_2 t113_3) (hK : ∀ x0 x1, K x0 x1 → P) (hB : ∀ x0 x1 x2 x3, B93_3 x0 x1 x2 x3 → P) : P := sLX9_overPart_113 hK hB n h

theorem sLX9_overPart_93 {P : Prop} {i0 : Int32} {i1 : Int32} {i2 : Int32} {i3 : Int32} {i4 : Int32} {i5 : Int32} {i6 : Int32} {i7 : Int32} {i8 : Int32} {i9 : Int32} {i10 : Int32} {i11 : Int32} {i12 : Int32} {i13 : Int32} {i14 : Int32} {i15 : Int32} {i16 : Int32} {i17 : Int32} {f19 : Nat → Int32} {f21 : Nat → Int32} {p0 : Int32} {p1 : Int32} {K : Int32 → (Int32 × (Nat → Int32) × (Nat → Int32) × (Nat → Int32)) → Prop} (hK : ∀ x0 x1, K x0 x1 → P) : ∀ (n : Nat) {t93_0 : Nat → Int32} {t93_1 : Nat → Int32} {t93_2 : Int32} {t93_3 : Int32}, wLX9_overPart_93 i0 i1 i2 i3 i4 i5 i6 i7 i8 i9 i10 i11 i12 i13 i14 i15 i16 i17 f19 f21 p0 p1 K n t93_0 t93_1 t93_2 t93_3 → P := by
  intro n
  induction n with
  | zero => intros; rename_i h; exact h.elim
  | succ n ih =>
    intros; rename_i h
    unfold wLX9_overPart_93 at h
    exact (yst_if h (fun h => (hK _ _ h)) (fun h => (Exists.elim ((And.right h) _ rfl) (fun n h => (tLX9_overPart_113 h hK (fun _ _ _ _ h => (ih h)))))))
theorem tLX9_overPart_93 {P : Prop} {i0 : Int32} {i1 : Int32} {i2 : Int32} {i3 : Int32} {i4 : Int32} {i5 : Int32} {i6 : Int32} {i7 : Int32} {i8 : Int32} {i9 : Int32} {i10 : Int32} {i11 : Int32} {i12 : Int32} {i13 : Int32} {i14 : Int32} {i15 : Int32} {i16 : Int32} {i17 : Int32} {f19 : Nat → Int32} {f21 : Nat → Int32} {p0 : Int32} {p1 : Int32} {K : Int32 → (Int32 × (Nat → Int32) × (Nat → Int32) × (Nat → Int32)) → Prop} {n : Nat} {t93_0 : Nat → Int32} {t93_1 : Nat → Int32} {t93_2 : Int32} {t93_3 : Int32} (h : wLX9_overPart_93 i0 i1 i2 i3 i4 i5 i6 i7 i8 i9 i10 i11 i12 i13 i14 i15 i16 i17 f19 f21 p0 p1 K n t93_0 t93_1 t93_2 t93_3) (hK : ∀ x0 x1, K x0 x1 → P) : P := sLX9_overPart_93 hK n h

theorem sLX9_overPart_38 {P : Prop} {i0 : Int32} {i1 : Int32} {i2 : Int32} {i3 : Int32} {i4 : Int32} {i5 : Int32} {i6 : Int32} {i7 : Int32} {i8 : Int32} {i9 : Int32} {i10 : Int32} {i11 : Int32} {i12 : Int32} {i13 : Int32} {i14 : Int32} {i15 : Int32} {i16 : Int32} {i17 : Int32} {f19 : Nat → Int32} {f21 : Nat → Int32} {p0 : Int32} {p1 : Int32} {K : Int32 → (Int32 × (Nat → Int32) × (Nat → Int32) × (Nat → Int32)) → Prop} (hK : ∀ x0 x1, K x0 x1 → P) : ∀ (n : Nat) {t38_0 : Nat → Int32} {t38_1 : Nat → Int32} {t38_2 : Int32} {t38_3 : Int32}, wLX9_overPart_38 i0 i1 i2 i3 i4 i5 i6 i7 i8 i9 i10 i11 i12 i13 i14 i15 i16 i17 f19 f21 p0 p1 K n t38_0 t38_1 t38_2 t38_3 → P := by
  intro n
  induction n with
  | zero => intros; rename_i h; exact h.elim
  | succ n ih =>
    intros; rename_i h
    unfold wLX9_overPart_38 at h
    exact (yst_if h (fun h => (Exists.elim h (fun n h => (tLX9_overPart_93 h hK)))) (fun h => (yst_if2 (And.right h) (fun h => (ih h)) (fun h => (ih ((And.right ((And.right h) _ rfl)) _ rfl))))))
theorem tLX9_overPart_38 {P : Prop} {i0 : Int32} {i1 : Int32} {i2 : Int32} {i3 : Int32} {i4 : Int32} {i5 : Int32} {i6 : Int32} {i7 : Int32} {i8 : Int32} {i9 : Int32} {i10 : Int32} {i11 : Int32} {i12 : Int32} {i13 : Int32} {i14 : Int32} {i15 : Int32} {i16 : Int32} {i17 : Int32} {f19 : Nat → Int32} {f21 : Nat → Int32} {p0 : Int32} {p1 : Int32} {K : Int32 → (Int32 × (Nat → Int32) × (Nat → Int32) × (Nat → Int32)) → Prop} {n : Nat} {t38_0 : Nat → Int32} {t38_1 : Nat → Int32} {t38_2 : Int32} {t38_3 : Int32} (h : wLX9_overPart_38 i0 i1 i2 i3 i4 i5 i6 i7 i8 i9 i10 i11 i12 i13 i14 i15 i16 i17 f19 f21 p0 p1 K n t38_0 t38_1 t38_2 t38_3) (hK : ∀ x0 x1, K x0 x1 → P) : P := sLX9_overPart_38 hK n h

theorem sLX9_overPart_2 {P : Prop} {i0 : Int32} {i1 : Int32} {i2 : Int32} {i3 : Int32} {i4 : Int32} {i5 : Int32} {i6 : Int32} {i7 : Int32} {i8 : Int32} {i9 : Int32} {i10 : Int32} {i11 : Int32} {i12 : Int32} {i13 : Int32} {i14 : Int32} {i15 : Int32} {i16 : Int32} {i17 : Int32} {f19 : Nat → Int32} {f20 : Nat → Int32} {f21 : Nat → Int32} {p0 : Int32} {p1 : Int32} {K : Int32 → (Int32 × (Nat → Int32) × (Nat → Int32) × (Nat → Int32)) → Prop} (hK : ∀ x0 x1, K x0 x1 → P) : ∀ (n : Nat) {t2_0 : Nat → Int32} {t2_1 : Int32}, wLX9_overPart_2 i0 i1 i2 i3 i4 i5 i6 i7 i8 i9 i10 i11 i12 i13 i14 i15 i16 i17 f19 f20 f21 p0 p1 K n t2_0 t2_1 → P := by
  intro n
  induction n with
  | zero => intros; rename_i h; exact h.elim
  | succ n ih =>
    intros; rename_i h
    unfold wLX9_overPart_2 at h
    exact (yst_if h (fun h => (Exists.elim ((And.right h) _ rfl) (fun n h => (tLX9_overPart_38 h hK)))) (fun h => (ih ((And.right h) _ rfl))))
theorem tLX9_overPart_2 {P : Prop} {i0 : Int32} {i1 : Int32} {i2 : Int32} {i3 : Int32} {i4 : Int32} {i5 : Int32} {i6 : Int32} {i7 : Int32} {i8 : Int32} {i9 : Int32} {i10 : Int32} {i11 : Int32} {i12 : Int32} {i13 : Int32} {i14 : Int32} {i15 : Int32} {i16 : Int32} {i17 : Int32} {f19 : Nat → Int32} {f20 : Nat → Int32} {f21 : Nat → Int32} {p0 : Int32} {p1 : Int32} {K : Int32 → (Int32 × (Nat → Int32) × (Nat → Int32) × (Nat → Int32)) → Prop} {n : Nat} {t2_0 : Nat → Int32} {t2_1 : Int32} (h : wLX9_overPart_2 i0 i1 i2 i3 i4 i5 i6 i7 i8 i9 i10 i11 i12 i13 i14 i15 i16 i17 f19 f20 f21 p0 p1 K n t2_0 t2_1) (hK : ∀ x0 x1, K x0 x1 → P) : P := sLX9_overPart_2 hK n h

theorem sX9_overPart {P : Prop} {i0 : Int32} {i1 : Int32} {i2 : Int32} {i3 : Int32} {i4 : Int32} {i5 : Int32} {i6 : Int32} {i7 : Int32} {i8 : Int32} {i9 : Int32} {i10 : Int32} {i11 : Int32} {i12 : Int32} {i13 : Int32} {i14 : Int32} {i15 : Int32} {i16 : Int32} {i17 : Int32} {f18 : Nat → Int32} {f19 : Nat → Int32} {f20 : Nat → Int32} {f21 : Nat → Int32} {p0 : Int32} {p1 : Int32} {K : Int32 → (Int32 × (Nat → Int32) × (Nat → Int32) × (Nat → Int32)) → Prop} (h : wX9_overPart i0 i1 i2 i3 i4 i5 i6 i7 i8 i9 i10 i11 i12 i13 i14 i15 i16 i17 f18 f19 f20 f21 p0 p1 K) (hK : ∀ x0 x1, K x0 x1 → P) : P := by
  unfold wX9_overPart at h
  exact (Exists.elim h (fun n h => (tLX9_overPart_2 h hK)))

theorem sLX9_split_253 {P : Prop} {i0 : Int32} {i1 : Int32} {i2 : Int32} {i3 : Int32} {i4 : Int32} {i5 : Int32} {i6 : Int32} {i7 : Int32} {i8 : Int32} {i9 : Int32} {i10 : Int32} {i11 : Int32} {i12 : Int32} {i13 : Int32} {i14 : Int32} {i15 : Int32} {i16 : Int32} {i17 : Int32} {f19 : Nat → Int32} {t9_0 : Nat → Int32} {v196 : Int32} {K : (Int32 × (Nat → Int32) × (Nat → Int32) × (Nat → Int32) × (Nat → Int32)) → Prop} (hK : ∀ x0, K x0 → P) : ∀ (n : Nat) {t253_0 : Nat → Int32} {t253_1 : Nat → Int32} {t253_2 : Nat → Int32} {t253_3 : Int32} {t253_4 : Int32}, wLX9_split_253 i0 i1 i2 i3 i4 i5 i6 i7 i8 i9 i10 i11 i12 i13 i14 i15 i16 i17 f19 t9_0 v196 K n t253_0 t253_1 t253_2 t253_3 t253_4 → P := by
  intro n
  induction n with
  | zero => intros; rename_i h; exact h.elim
  | succ n ih =>
    intros; rename_i h
    unfold wLX9_split_253 at h
    exact (yst_if h (fun h => (hK _ h)) (fun h => (sX9_putFace (And.right h) (fun _ h => (ih h)))))
theorem tLX9_split_253 {P : Prop} {i0 : Int32} {i1 : Int32} {i2 : Int32} {i3 : Int32} {i4 : Int32} {i5 : Int32} {i6 : Int32} {i7 : Int32} {i8 : Int32} {i9 : Int32} {i10 : Int32} {i11 : Int32} {i12 : Int32} {i13 : Int32} {i14 : Int32} {i15 : Int32} {i16 : Int32} {i17 : Int32} {f19 : Nat → Int32} {t9_0 : Nat → Int32} {v196 : Int32} {K : (Int32 × (Nat → Int32) × (Nat → Int32) × (Nat → Int32) × (Nat → Int32)) → Prop} {n : Nat} {t253_0 : Nat → Int32} {t253_1 : Nat → Int32} {t253_2 : Nat → Int32} {t253_3 : Int32} {t253_4 : Int32} (h : wLX9_split_253 i0 i1 i2 i3 i4 i5 i6 i7 i8 i9 i10 i11 i12 i13 i14 i15 i16 i17 f19 t9_0 v196 K n t253_0 t253_1 t253_2 t253_3 t253_4) (hK : ∀ x0, K x0 → P) : P := sLX9_split_253 hK n h

theorem sLX9_split_214 {P : Prop} {i0 : Int32} {i1 : Int32} {i2 : Int32} {i3 : Int32} {i4 : Int32} {i5 : Int32} {i6 : Int32} {i7 : Int32} {i8 : Int32} {i9 : Int32} {i10 : Int32} {i11 : Int32} {i12 : Int32} {i13 : Int32} {i14 : Int32} {i15 : Int32} {i16 : Int32} {i17 : Int32} {f19 : Nat → Int32} {v6 : Int32} {t9_0 : Nat → Int32} {t60_0 : Int32} {v196 : Int32} {K : (Int32 × (Nat → Int32) × (Nat → Int32) × (Nat → Int32) × (Nat → Int32)) → Prop} (hK : ∀ x0, K x0 → P) : ∀ (n : Nat) {t214_0 : Nat → Int32} {t214_1 : Nat → Int32} {t214_2 : Nat → Int32} {t214_3 : Int32} {t214_4 : Int32}, wLX9_split_214 i0 i1 i2 i3 i4 i5 i6 i7 i8 i9 i10 i11 i12 i13 i14 i15 i16 i17 f19 v6 t9_0 t60_0 v196 K n t214_0 t214_1 t214_2 t214_3 t214_4 → P := by
  intro n
  induction n with
  | zero => intros; rename_i h; exact h.elim
  | succ n ih =>
    intros; rename_i h
    unfold wLX9_split_214 at h
    exact (yst_if h (fun h => (Exists.elim h (fun n h => (tLX9_split_253 h hK)))) (fun h => (sX9_putFace (And.right h) (fun _ h => (ih ((And.right h) _ rfl))))))
theorem tLX9_split_214 {P : Prop} {i0 : Int32} {i1 : Int32} {i2 : Int32} {i3 : Int32} {i4 : Int32} {i5 : Int32} {i6 : Int32} {i7 : Int32} {i8 : Int32} {i9 : Int32} {i10 : Int32} {i11 : Int32} {i12 : Int32} {i13 : Int32} {i14 : Int32} {i15 : Int32} {i16 : Int32} {i17 : Int32} {f19 : Nat → Int32} {v6 : Int32} {t9_0 : Nat → Int32} {t60_0 : Int32} {v196 : Int32} {K : (Int32 × (Nat → Int32) × (Nat → Int32) × (Nat → Int32) × (Nat → Int32)) → Prop} {n : Nat} {t214_0 : Nat → Int32} {t214_1 : Nat → Int32} {t214_2 : Nat → Int32} {t214_3 : Int32} {t214_4 : Int32} (h : wLX9_split_214 i0 i1 i2 i3 i4 i5 i6 i7 i8 i9 i10 i11 i12 i13 i14 i15 i16 i17 f19 v6 t9_0 t60_0 v196 K n t214_0 t214_1 t214_2 t214_3 t214_4) (hK : ∀ x0, K x0 → P) : P := sLX9_split_214 hK n h

theorem sLX9_split_155 {P : Prop} {i0 : Int32} {i1 : Int32} {i2 : Int32} {i3 : Int32} {i4 : Int32} {i5 : Int32} {i6 : Int32} {i7 : Int32} {i8 : Int32} {i9 : Int32} {i10 : Int32} {i11 : Int32} {i12 : Int32} {i13 : Int32} {i14 : Int32} {i15 : Int32} {i16 : Int32} {i17 : Int32} {f19 : Nat → Int32} {p0 : Int32} {v6 : Int32} {t9_0 : Nat → Int32} {t60_0 : Int32} {t80_0 : Int32} {K : (Int32 × (Nat → Int32) × (Nat → Int32) × (Nat → Int32) × (Nat → Int32)) → Prop} (hK : ∀ x0, K x0 → P) : ∀ (n : Nat) {t155_0 : Nat → Int32} {t155_1 : Nat → Int32} {t155_2 : Nat → Int32} {t155_3 : Int32} {t155_4 : Int32}, wLX9_split_155 i0 i1 i2 i3 i4 i5 i6 i7 i8 i9 i10 i11 i12 i13 i14 i15 i16 i17 f19 p0 v6 t9_0 t60_0 t80_0 K n t155_0 t155_1 t155_2 t155_3 t155_4 → P := by
  intro n
  induction n with
  | zero => intros; rename_i h; exact h.elim
  | succ n ih =>
    intros; rename_i h
    unfold wLX9_split_155 at h
    exact (yst_if h (fun h => (Exists.elim ((And.right (h _ rfl)) _ rfl) (fun n h => (tLX9_split_214 h hK)))) (fun h => (sX9_putFace (And.right h) (fun _ h => (ih h)))))
theorem tLX9_split_155 {P : Prop} {i0 : Int32} {i1 : Int32} {i2 : Int32} {i3 : Int32} {i4 : Int32} {i5 : Int32} {i6 : Int32} {i7 : Int32} {i8 : Int32} {i9 : Int32} {i10 : Int32} {i11 : Int32} {i12 : Int32} {i13 : Int32} {i14 : Int32} {i15 : Int32} {i16 : Int32} {i17 : Int32} {f19 : Nat → Int32} {p0 : Int32} {v6 : Int32} {t9_0 : Nat → Int32} {t60_0 : Int32} {t80_0 : Int32} {K : (Int32 × (Nat → Int32) × (Nat → Int32) × (Nat → Int32) × (Nat → Int32)) → Prop} {n : Nat} {t155_0 : Nat → Int32} {t155_1 : Nat → Int32} {t155_2 : Nat → Int32} {t155_3 : Int32} {t155_4 : Int32} (h : wLX9_split_155 i0 i1 i2 i3 i4 i5 i6 i7 i8 i9 i10 i11 i12 i13 i14 i15 i16 i17 f19 p0 v6 t9_0 t60_0 t80_0 K n t155_0 t155_1 t155_2 t155_3 t155_4) (hK : ∀ x0, K x0 → P) : P := sLX9_split_155 hK n h

theorem sLX9_split_112 {P : Prop} {i0 : Int32} {i1 : Int32} {i2 : Int32} {i3 : Int32} {i4 : Int32} {i5 : Int32} {i6 : Int32} {i7 : Int32} {i8 : Int32} {i9 : Int32} {i10 : Int32} {i11 : Int32} {i12 : Int32} {i13 : Int32} {i14 : Int32} {i15 : Int32} {i16 : Int32} {i17 : Int32} {f19 : Nat → Int32} {p0 : Int32} {v6 : Int32} {t9_0 : Nat → Int32} {t60_0 : Int32} {t80_0 : Int32} {K : (Int32 × (Nat → Int32) × (Nat → Int32) × (Nat → Int32) × (Nat → Int32)) → Prop} (hK : ∀ x0, K x0 → P) : ∀ (n : Nat) {t112_0 : Nat → Int32} {t112_1 : Nat → Int32} {t112_2 : Nat → Int32} {t112_3 : Int32} {t112_4 : Int32}, wLX9_split_112 i0 i1 i2 i3 i4 i5 i6 i7 i8 i9 i10 i11 i12 i13 i14 i15 i16 i17 f19 p0 v6 t9_0 t60_0 t80_0 K n t112_0 t112_1 t112_2 t112_3 t112_4 → P := by
  intro n
  induction n with
  | zero => intros; rename_i h; exact h.elim
  | succ n ih =>
    intros; rename_i h
    unfold wLX9_split_112 at h
    exact (yst_if h (fun h => (Exists.elim (h _ rfl) (fun n h => (tLX9_split_155 h hK)))) (fun h => (sX9_putFace (And.right h) (fun _ h => (ih ((And.right h) _ rfl))))))
theorem tLX9_split_112 {P : Prop} {i0 : Int32} {i1 : Int32} {i2 : Int32} {i3 : Int32} {i4 : Int32} {i5 : Int32} {i6 : Int32} {i7 : Int32} {i8 : Int32} {i9 : Int32} {i10 : Int32} {i11 : Int32} {i12 : Int32} {i13 : Int32} {i14 : Int32} {i15 : Int32} {i16 : Int32} {i17 : Int32} {f19 : Nat → Int32} {p0 : Int32} {v6 : Int32} {t9_0 : Nat → Int32} {t60_0 : Int32} {t80_0 : Int32} {K : (Int32 × (Nat → Int32) × (Nat → Int32) × (Nat → Int32) × (Nat → Int32)) → Prop} {n : Nat} {t112_0 : Nat → Int32} {t112_1 : Nat → Int32} {t112_2 : Nat → Int32} {t112_3 : Int32} {t112_4 : Int32} (h : wLX9_split_112 i0 i1 i2 i3 i4 i5 i6 i7 i8 i9 i10 i11 i12 i13 i14 i15 i16 i17 f19 p0 v6 t9_0 t60_0 t80_0 K n t112_0 t112_1 t112_2 t112_3 t112_4) (hK : ∀ x0, K x0 → P) : P := sLX9_split_112 hK n h

theorem sLX9_split_80 {P : Prop} {i0 : Int32} {i1 : Int32} {i2 : Int32} {i3 : Int32} {i4 : Int32} {i5 : Int32} {i6 : Int32} {i7 : Int32} {i8 : Int32} {i9 : Int32} {i10 : Int32} {i11 : Int32} {i12 : Int32} {i13 : Int32} {i14 : Int32} {i15 : Int32} {i16 : Int32} {i17 : Int32} {f18 : Nat → Int32} {f19 : Nat → Int32} {f21 : Nat → Int32} {f22 : Nat → Int32} {p0 : Int32} {v6 : Int32} {t9_0 : Nat → Int32} {v55 : Int32} {t60_0 : Int32} {K : (Int32 × (Nat → Int32) × (Nat → Int32) × (Nat → Int32) × (Nat → Int32)) → Prop} (hK : ∀ x0, K x0 → P) : ∀ (n : Nat) {t80_0 : Int32}, wLX9_split_80 i0 i1 i2 i3 i4 i5 i6 i7 i8 i9 i10 i11 i12 i13 i14 i15 i16 i17 f18 f19 f21 f22 p0 v6 t9_0 v55 t60_0 K n t80_0 → P := by
  intro n
  induction n with
  | zero => intros; rename_i h; exact h.elim
  | succ n ih =>
    intros; rename_i h
    unfold wLX9_split_80 at h
    exact (yst_if (And.right h) (fun h => (Exists.elim ((And.right h) _ rfl) (fun n h => (tLX9_split_112 h hK)))) (fun h => (ih h)))
theorem tLX9_split_80 {P : Prop} {i0 : Int32} {i1 : Int32} {i2 : Int32} {i3 : Int32} {i4 : Int32} {i5 : Int32} {i6 : Int32} {i7 : Int32} {i8 : Int32} {i9 : Int32} {i10 : Int32} {i11 : Int32} {i12 : Int32} {i13 : Int32} {i14 : Int32} {i15 : Int32} {i16 : Int32} {i17 : Int32} {f18 : Nat → Int32} {f19 : Nat → Int32} {f21 : Nat → Int32} {f22 : Nat → Int32} {p0 : Int32} {v6 : Int32} {t9_0 : Nat → Int32} {v55 : Int32} {t60_0 : Int32} {K : (Int32 × (Nat → Int32) × (Nat → Int32) × (Nat → Int32) × (Nat → Int32)) → Prop} {n : Nat} {t80_0 : Int32} (h : wLX9_split_80 i0 i1 i2 i3 i4 i5 i6 i7 i8 i9 i10 i11 i12 i13 i14 i15 i16 i17 f18 f19 f21 f22 p0 v6 t9_0 v55 t60_0 K n t80_0) (hK : ∀ x0, K x0 → P) : P := sLX9_split_80 hK n h

theorem sLX9_split_60 {P : Prop} {i0 : Int32} {i1 : Int32} {i2 : Int32} {i3 : Int32} {i4 : Int32} {i5 : Int32} {i6 : Int32} {i7 : Int32} {i8 : Int32} {i9 : Int32} {i10 : Int32} {i11 : Int32} {i12 : Int32} {i13 : Int32} {i14 : Int32} {i15 : Int32} {i16 : Int32} {i17 : Int32} {f18 : Nat → Int32} {f19 : Nat → Int32} {f21 : Nat → Int32} {f22 : Nat → Int32} {p0 : Int32} {v6 : Int32} {t9_0 : Nat → Int32} {v43 : Int32} {v55 : Int32} {K : (Int32 × (Nat → Int32) × (Nat → Int32) × (Nat → Int32) × (Nat → Int32)) → Prop} (hK : ∀ x0, K x0 → P) : ∀ (n : Nat) {t60_0 : Int32}, wLX9_split_60 i0 i1 i2 i3 i4 i5 i6 i7 i8 i9 i10 i11 i12 i13 i14 i15 i16 i17 f18 f19 f21 f22 p0 v6 t9_0 v43 v55 K n t60_0 → P := by
  intro n
  induction n with
  | zero => intros; rename_i h; exact h.elim
  | succ n ih =>
    intros; rename_i h
    unfold wLX9_split_60 at h
    exact (yst_if (And.right h) (fun h => (Exists.elim h (fun n h => (tLX9_split_80 h hK)))) (fun h => (ih h)))
theorem tLX9_split_60 {P : Prop} {i0 : Int32} {i1 : Int32} {i2 : Int32} {i3 : Int32} {i4 : Int32} {i5 : Int32} {i6 : Int32} {i7 : Int32} {i8 : Int32} {i9 : Int32} {i10 : Int32} {i11 : Int32} {i12 : Int32} {i13 : Int32} {i14 : Int32} {i15 : Int32} {i16 : Int32} {i17 : Int32} {f18 : Nat → Int32} {f19 : Nat → Int32} {f21 : Nat → Int32} {f22 : Nat → Int32} {p0 : Int32} {v6 : Int32} {t9_0 : Nat → Int32} {v43 : Int32} {v55 : Int32} {K : (Int32 × (Nat → Int32) × (Nat → Int32) × (Nat → Int32) × (Nat → Int32)) → Prop} {n : Nat} {t60_0 : Int32} (h : wLX9_split_60 i0 i1 i2 i3 i4 i5 i6 i7 i8 i9 i10 i11 i12 i13 i14 i15 i16 i17 f18 f19 f21 f22 p0 v6 t9_0 v43 v55 K n t60_0) (hK : ∀ x0, K x0 → P) : P := sLX9_split_60 hK n h

theorem sLX9_split_9 {P : Prop} {i0 : Int32} {i1 : Int32} {i2 : Int32} {i3 : Int32} {i4 : Int32} {i5 : Int32} {i6 : Int32} {i7 : Int32} {i8 : Int32} {i9 : Int32} {i10 : Int32} {i11 : Int32} {i12 : Int32} {i13 : Int32} {i14 : Int32} {i15 : Int32} {i16 : Int32} {i17 : Int32} {f18 : Nat → Int32} {f19 : Nat → Int32} {f21 : Nat → Int32} {f22 : Nat → Int32} {p0 : Int32} {v6 : Int32} {K : (Int32 × (Nat → Int32) × (Nat → Int32) × (Nat → Int32) × (Nat → Int32)) → Prop} (hK : ∀ x0, K x0 → P) : ∀ (n : Nat) {t9_0 : Nat → Int32} {t9_1 : Int32}, wLX9_split_9 i0 i1 i2 i3 i4 i5 i6 i7 i8 i9 i10 i11 i12 i13 i14 i15 i16 i17 f18 f19 f21 f22 p0 v6 K n t9_0 t9_1 → P := by
  intro n
  induction n with
  | zero => intros; rename_i h; exact h.elim
  | succ n ih =>
    intros; rename_i h
    unfold wLX9_split_9 at h
    exact (yst_if h (fun h => (Exists.elim ((And.right (h _ rfl)) _ rfl) (fun n h => (tLX9_split_60 h hK)))) (fun h => (ih ((And.right (And.right h)) _ rfl))))
theorem tLX9_split_9 {P : Prop} {i0 : Int32} {i1 : Int32} {i2 : Int32} {i3 : Int32} {i4 : Int32} {i5 : Int32} {i6 : Int32} {i7 : Int32} {i8 : Int32} {i9 : Int32} {i10 : Int32} {i11 : Int32} {i12 : Int32} {i13 : Int32} {i14 : Int32} {i15 : Int32} {i16 : Int32} {i17 : Int32} {f18 : Nat → Int32} {f19 : Nat → Int32} {f21 : Nat → Int32} {f22 : Nat → Int32} {p0 : Int32} {v6 : Int32} {K : (Int32 × (Nat → Int32) × (Nat → Int32) × (Nat → Int32) × (Nat → Int32)) → Prop} {n : Nat} {t9_0 : Nat → Int32} {t9_1 : Int32} (h : wLX9_split_9 i0 i1 i2 i3 i4 i5 i6 i7 i8 i9 i10 i11 i12 i13 i14 i15 i16 i17 f18 f19 f21 f22 p0 v6 K n t9_0 t9_1) (hK : ∀ x0, K x0 → P) : P := sLX9_split_9 hK n h

theorem sX9_split {P : Prop} {i0 : Int32} {i1 : Int32} {i2 : Int32} {i3 : Int32} {i4 : Int32} {i5 : Int32} {i6 : Int32} {i7 : Int32} {i8 : Int32} {i9 : Int32} {i10 : Int32} {i11 : Int32} {i12 : Int32} {i13 : Int32} {i14 : Int32} {i15 : Int32} {i16 : Int32} {i17 : Int32} {f18 : Nat → Int32} {f19 : Nat → Int32} {f20 : Nat → Int32} {f21 : Nat → Int32} {f22 : Nat → Int32} {p0 : Int32} {K : (Int32 × (Nat → Int32) × (Nat → Int32) × (Nat → Int32) × (Nat → Int32)) → Prop} (h : wX9_split i0 i1 i2 i3 i4 i5 i6 i7 i8 i9 i10 i11 i12 i13 i14 i15 i16 i17 f18 f19 f20 f21 f22 p0 K) (hK : ∀ x0, K x0 → P) : P := by
  unfold wX9_split at h
  exact (Exists.elim ((And.right h) _ rfl) (fun n h => (tLX9_split_9 h hK)))

theorem sLX9_embed_113 {P : Prop} {i0 : Int32} {i1 : Int32} {i2 : Int32} {i3 : Int32} {i4 : Int32} {i11 : Int32} {i12 : Int32} {i13 : Int32} {i14 : Int32} {i15 : Int32} {i16 : Int32} {i17 : Int32} {t5_3 : Nat → Int32} {t5_4 : Nat → Int32} {t5_5 : Nat → Int32} {t5_6 : Nat → Int32} {t5_7 : Nat → Int32} {t5_8 : Int32} {t5_9 : Int32} {u13 : Int32 × Int32 × Int32} {u106 : Int32 × (Nat → Int32) × (Nat → Int32) × (Nat → Int32)} {K : Int32 → (Int32 × Int32 × Int32 × Int32 × Int32 × Int32 × (Nat → Int32) × (Nat → Int32) × (Nat → Int32) × (Nat → Int32) × (Nat → Int32) × (Nat → Int32) × (Nat → Int32) × (Nat → Int32)) → Prop} {B5_1 : (Nat → Int32) → (Nat → Int32) → (Nat → Int32) → (Nat → Int32) → (Nat → Int32) → (Nat → Int32) → (Nat → Int32) → (Nat → Int32) → Int32 → Int32 → Int32 → Int32 → Int32 → Int32 → Prop} (hK : ∀ x0 x1, K x0 x1 → P) (hB : ∀ x0 x1 x2 x3 x4 x5 x6 x7 x8 x9 x10 x11 x12 x13, B5_1 x0 x1 x2 x3 x4 x5 x6 x7 x8 x9 x10 x11 x12 x13 → P) : ∀ (n : Nat) {t113_0 : Int32}, wLX9_embed_113 i0 i1 i2 i3 i4 i11 i12 i13 i14 i15 i16 i17 t5_3 t5_4 t5_5 t5_6 t5_7 t5_8 t5_9 u13 u106 K B5_1 n t113_0 → P := by
  intro n
  induction n with
  | zero => intros; rename_i h; exact h.elim
  | succ n ih =>
    intros; rename_i h
    unfold wLX9_embed_113 at h
    exact (yst_if (And.right h) (fun h => (sX9_split h (fun _ h => (sX9_joinPath h (fun _ h => (hB _ _ _ _ _ _ _ _ _ _ _ _ _ _ h)))))) (fun h => (ih h)))
theorem tLX9_embed_113 {P : Prop} {i0 : Int32} {i1 : Int32} {i2 : Int32} {i3 : Int32} {i4 : Int32} {i11 : Int32} {i12 : Int32} {i13 : Int32} {i14 : Int32} {i15 : Int32} {i16 : Int32} {i17 : Int32} {t5_3 : Nat → Int32} {t5_4 : Nat → Int32} {t5_5 : Nat → Int32} {t5_6 : Nat → Int32} {t5_7 : Nat → Int32} {t5_8 : Int32} {t5_9 : Int32} {u13 : Int32 × Int32 × Int32} {u106 : Int32 × (Nat → Int32) × (Nat → Int32) × (Nat → Int32)} {K : Int32 → (Int32 × Int32 × Int32 × Int32 × Int32 × Int32 × (Nat → Int32) × (Nat → Int32) × (Nat → Int32) × (Nat → Int32) × (Nat → Int32) × (Nat → Int32) × (Nat → Int32) × (Nat → Int32)) → Prop} {B5_1 : (Nat → Int32) → (Nat → Int32) → (Nat → Int32) → (Nat → Int32) → (Nat → Int32) → (Nat → Int32) → (Nat → Int32) → (Nat → Int32) → Int32 → Int32 → Int32 → Int32 → Int32 → Int32 → Prop} {n : Nat} {t113_0 : Int32} (h : wLX9_embed_113 i0 i1 i2 i3 i4 i11 i12 i13 i14 i15 i16 i17 t5_3 t5_4 t5_5 t5_6 t5_7 t5_8 t5_9 u13 u106 K B5_1 n t113_0) (hK : ∀ x0 x1, K x0 x1 → P) (hB : ∀ x0 x1 x2 x3 x4 x5 x6 x7 x8 x9 x10 x11 x12 x13, B5_1 x0 x1 x2 x3 x4 x5 x6 x7 x8 x9 x10 x11 x12 x13 → P) : P := sLX9_embed_113 hK hB n h

theorem sLX9_embed_113_1 {P : Prop} {i0 : Int32} {i1 : Int32} {i2 : Int32} {i3 : Int32} {i4 : Int32} {i11 : Int32} {i12 : Int32} {i13 : Int32} {i14 : Int32} {i15 : Int32} {i16 : Int32} {i17 : Int32} {t5_0 : Nat → Int32} {t5_1 : Nat → Int32} {t5_3 : Nat → Int32} {t5_4 : Nat → Int32} {t5_5 : Nat → Int32} {t5_6 : Nat → Int32} {t5_7 : Nat → Int32} {t5_8 : Int32} {t5_9 : Int32} {u13 : Int32 × Int32 × Int32} {g94 : Nat → Int32} {K : Int32 → (Int32 × Int32 × Int32 × Int32 × Int32 × Int32 × (Nat → Int32) × (Nat → Int32) × (Nat → Int32) × (Nat → Int32) × (Nat → Int32) × (Nat → Int32) × (Nat → Int32) × (Nat → Int32)) → Prop} {B5_1 : (Nat → Int32) → (Nat → Int32) → (Nat → Int32) → (Nat → Int32) → (Nat → Int32) → (Nat → Int32) → (Nat → Int32) → (Nat → Int32) → Int32 → Int32 → Int32 → Int32 → Int32 → Int32 → Prop} (hK : ∀ x0 x1, K x0 x1 → P) (hB : ∀ x0 x1 x2 x3 x4 x5 x6 x7 x8 x9 x10 x11 x12 x13, B5_1 x0 x1 x2 x3 x4 x5 x6 x7 x8 x9 x10 x11 x12 x13 → P) : ∀ (n : Nat) {t113_0 : Int32}, wLX9_embed_113_1 i0 i1 i2 i3 i4 i11 i12 i13 i14 i15 i16 i17 t5_0 t5_1 t5_3 t5_4 t5_5 t5_6 t5_7 t5_8 t5_9 u13 g94 K B5_1 n t113_0 → P := by
  intro n
  induction n with
  | zero => intros; rename_i h; exact h.elim
  | succ n ih =>
    intros; rename_i h
    unfold wLX9_embed_113_1 at h
    exact (yst_if (And.right h) (fun h => (sX9_split h (fun _ h => (sX9_joinPath h (fun _ h => (hB _ _ _ _ _ _ _ _ _ _ _ _ _ _ h)))))) (fun h => (ih h)))
theorem tLX9_embed_113_1 {P : Prop} {i0 : Int32} {i1 : Int32} {i2 : Int32} {i3 : Int32} {i4 : Int32} {i11 : Int32} {i12 : Int32} {i13 : Int32} {i14 : Int32} {i15 : Int32} {i16 : Int32} {i17 : Int32} {t5_0 : Nat → Int32} {t5_1 : Nat → Int32} {t5_3 : Nat → Int32} {t5_4 : Nat → Int32} {t5_5 : Nat → Int32} {t5_6 : Nat → Int32} {t5_7 : Nat → Int32} {t5_8 : Int32} {t5_9 : Int32} {u13 : Int32 × Int32 × Int32} {g94 : Nat → Int32} {K : Int32 → (Int32 × Int32 × Int32 × Int32 × Int32 × Int32 × (Nat → Int32) × (Nat → Int32) × (Nat → Int32) × (Nat → Int32) × (Nat → Int32) × (Nat → Int32) × (Nat → Int32) × (Nat → Int32)) → Prop} {B5_1 : (Nat → Int32) → (Nat → Int32) → (Nat → Int32) → (Nat → Int32) → (Nat → Int32) → (Nat → Int32) → (Nat → Int32) → (Nat → Int32) → Int32 → Int32 → Int32 → Int32 → Int32 → Int32 → Prop} {n : Nat} {t113_0 : Int32} (h : wLX9_embed_113_1 i0 i1 i2 i3 i4 i11 i12 i13 i14 i15 i16 i17 t5_0 t5_1 t5_3 t5_4 t5_5 t5_6 t5_7 t5_8 t5_9 u13 g94 K B5_1 n t113_0) (hK : ∀ x0 x1, K x0 x1 → P) (hB : ∀ x0 x1 x2 x3 x4 x5 x6 x7 x8 x9 x10 x11 x12 x13, B5_1 x0 x1 x2 x3 x4 x5 x6 x7 x8 x9 x10 x11 x12 x13 → P) : P := sLX9_embed_113_1 hK hB n h

theorem sLX9_embed_65 {P : Prop} {i0 : Int32} {i1 : Int32} {i2 : Int32} {i3 : Int32} {i4 : Int32} {i11 : Int32} {i12 : Int32} {i13 : Int32} {i14 : Int32} {i15 : Int32} {i16 : Int32} {i17 : Int32} {t5_0 : Nat → Int32} {t5_1 : Nat → Int32} {t5_2 : Nat → Int32} {t5_3 : Nat → Int32} {t5_4 : Nat → Int32} {t5_5 : Nat → Int32} {t5_6 : Nat → Int32} {t5_7 : Nat → Int32} {t5_8 : Int32} {t5_9 : Int32} {u13 : Int32 × Int32 × Int32} {t27_0 : Int32} {v54 : Int32} {K : Int32 → (Int32 × Int32 × Int32 × Int32 × Int32 × Int32 × (Nat → Int32) × (Nat → Int32) × (Nat → Int32) × (Nat → Int32) × (Nat → Int32) × (Nat → Int32) × (Nat → Int32) × (Nat → Int32)) → Prop} {B5_1 : (Nat → Int32) → (Nat → Int32) → (Nat → Int32) → (Nat → Int32) → (Nat → Int32) → (Nat → Int32) → (Nat → Int32) → (Nat → Int32) → Int32 → Int32 → Int32 → Int32 → Int32 → Int32 → Prop} (hK : ∀ x0 x1, K x0 x1 → P) (hB : ∀ x0 x1 x2 x3 x4 x5 x6 x7 x8 x9 x10 x11 x12 x13, B5_1 x0 x1 x2 x3 x4 x5 x6 x7 x8 x9 x10 x11 x12 x13 → P) : ∀ (n : Nat) {t65_0 : Int32}, wLX9_embed_65 i0 i1 i2 i3 i4 i11 i12 i13 i14 i15 i16 i17 t5_0 t5_1 t5_2 t5_3 t5_4 t5_5 t5_6 t5_7 t5_8 t5_9 u13 t27_0 v54 K B5_1 n t65_0 → P := by
  intro n
  induction n with
  | zero => intros; rename_i h; exact h.elim
  | succ n ih =>
    intros; rename_i h
    unfold wLX9_embed_65 at h
    exact (yst_if2 h (fun h => (Exists.elim ((h _ rfl) _ rfl) (fun n h => (tLX9_embed_113_1 h hK (fun _ _ _ _ _ _ _ _ _ _ _ _ _ _ h => (hB _ _ _ _ _ _ _ _ _ _ _ _ _ _ h)))))) (fun h => (ih h)))
theorem tLX9_embed_65 {P : Prop} {i0 : Int32} {i1 : Int32} {i2 : Int32} {i3 : Int32} {i4 : Int32} {i11 : Int32} {i12 : Int32} {i13 : Int32} {i14 : Int32} {i15 : Int32} {i16 : Int32} {i17 : Int32} {t5_0 : Nat → Int32} {t5_1 : Nat → Int32} {t5_2 : Nat → Int32} {t5_3 : Nat → Int32} {t5_4 : Nat → Int32} {t5_5 : Nat → Int32} {t5_6 : Nat → Int32} {t5_7 : Nat → Int32} {t5_8 : Int32} {t5_9 : Int32} {u13 : Int32 × Int32 × Int32} {t27_0 : Int32} {v54 : Int32} {K : Int32 → (Int32 × Int32 × Int32 × Int32 × Int32 × Int32 × (Nat → Int32) × (Nat → Int32) × (Nat → Int32) × (Nat → Int32) × (Nat → Int32) × (Nat → Int32) × (Nat → Int32) × (Nat → Int32)) → Prop} {B5_1 : (Nat → Int32) → (Nat → Int32) → (Nat → Int32) → (Nat → Int32) → (Nat → Int32) → (Nat → Int32) → (Nat → Int32) → (Nat → Int32) → Int32 → Int32 → Int32 → Int32 → Int32 → Int32 → Prop} {n : Nat} {t65_0 : Int32} (h : wLX9_embed_65 i0 i1 i2 i3 i4 i11 i12 i13 i14 i15 i16 i17 t5_0 t5_1 t5_2 t5_3 t5_4 t5_5 t5_6 t5_7 t5_8 t5_9 u13 t27_0 v54 K B5_1 n t65_0) (hK : ∀ x0 x1, K x0 x1 → P) (hB : ∀ x0 x1 x2 x3 x4 x5 x6 x7 x8 x9 x10 x11 x12 x13, B5_1 x0 x1 x2 x3 x4 x5 x6 x7 x8 x9 x10 x11 x12 x13 → P) : P := sLX9_embed_65 hK hB n h

theorem sLX9_embed_27 {P : Prop} {i0 : Int32} {i1 : Int32} {i2 : Int32} {i3 : Int32} {i4 : Int32} {i11 : Int32} {i12 : Int32} {i13 : Int32} {i14 : Int32} {i15 : Int32} {i16 : Int32} {i17 : Int32} {f18 : Nat → Int32} {t5_0 : Nat → Int32} {t5_1 : Nat → Int32} {t5_2 : Nat → Int32} {t5_3 : Nat → Int32} {t5_4 : Nat → Int32} {t5_5 : Nat → Int32} {t5_6 : Nat → Int32} {t5_7 : Nat → Int32} {t5_8 : Int32} {t5_9 : Int32} {t5_10 : Int32} {u13 : Int32 × Int32 × Int32} {K : Int32 → (Int32 × Int32 × Int32 × Int32 × Int32 × Int32 × (Nat → Int32) × (Nat → Int32) × (Nat → Int32) × (Nat → Int32) × (Nat → Int32) × (Nat → Int32) × (Nat → Int32) × (Nat → Int32)) → Prop} {B5_1 : (Nat → Int32) → (Nat → Int32) → (Nat → Int32) → (Nat → Int32) → (Nat → Int32) → (Nat → Int32) → (Nat → Int32) → (Nat → Int32) → Int32 → Int32 → Int32 → Int32 → Int32 → Int32 → Prop} (hK : ∀ x0 x1, K x0 x1 → P) (hB : ∀ x0 x1 x2 x3 x4 x5 x6 x7 x8 x9 x10 x11 x12 x13, B5_1 x0 x1 x2 x3 x4 x5 x6 x7 x8 x9 x10 x11 x12 x13 → P) : ∀ (n : Nat) {t27_0 : Int32}, wLX9_embed_27 i0 i1 i2 i3 i4 i11 i12 i13 i14 i15 i16 i17 f18 t5_0 t5_1 t5_2 t5_3 t5_4 t5_5 t5_6 t5_7 t5_8 t5_9 t5_10 u13 K B5_1 n t27_0 → P := by
  intro n
  induction n with
  | zero => intros; rename_i h; exact h.elim
  | succ n ih =>
    intros; rename_i h
    unfold wLX9_embed_27 at h
    exact (yst_if2 h (fun h => (yst_if2 (h _ rfl) (fun h => (sX9_overPart h (fun _ _ h => (Exists.elim h (fun n h => (tLX9_embed_113 h hK (fun _ _ _ _ _ _ _ _ _ _ _ _ _ _ h => (hB _ _ _ _ _ _ _ _ _ _ _ _ _ _ h)))))))) (fun h => (Exists.elim h (fun n h => (tLX9_embed_65 h hK (fun _ _ _ _ _ _ _ _ _ _ _ _ _ _ h => (hB _ _ _ _ _ _ _ _ _ _ _ _ _ _ h)))))))) (fun h => (ih h)))
theorem tLX9_embed_27 {P : Prop} {i0 : Int32} {i1 : Int32} {i2 : Int32} {i3 : Int32} {i4 : Int32} {i11 : Int32} {i12 : Int32} {i13 : Int32} {i14 : Int32} {i15 : Int32} {i16 : Int32} {i17 : Int32} {f18 : Nat → Int32} {t5_0 : Nat → Int32} {t5_1 : Nat → Int32} {t5_2 : Nat → Int32} {t5_3 : Nat → Int32} {t5_4 : Nat → Int32} {t5_5 : Nat → Int32} {t5_6 : Nat → Int32} {t5_7 : Nat → Int32} {t5_8 : Int32} {t5_9 : Int32} {t5_10 : Int32} {u13 : Int32 × Int32 × Int32} {K : Int32 → (Int32 × Int32 × Int32 × Int32 × Int32 × Int32 × (Nat → Int32) × (Nat → Int32) × (Nat → Int32) × (Nat → Int32) × (Nat → Int32) × (Nat → Int32) × (Nat → Int32) × (Nat → Int32)) → Prop} {B5_1 : (Nat → Int32) → (Nat → Int32) → (Nat → Int32) → (Nat → Int32) → (Nat → Int32) → (Nat → Int32) → (Nat → Int32) → (Nat → Int32) → Int32 → Int32 → Int32 → Int32 → Int32 → Int32 → Prop} {n : Nat} {t27_0 : Int32} (h : wLX9_embed_27 i0 i1 i2 i3 i4 i11 i12 i13 i14 i15 i16 i17 f18 t5_0 t5_1 t5_2 t5_3 t5_4 t5_5 t5_6 t5_7 t5_8 t5_9 t5_10 u13 K B5_1 n t27_0) (hK : ∀ x0 x1, K x0 x1 → P) (hB : ∀ x0 x1 x2 x3 x4 x5 x6 x7 x8 x9 x10 x11 x12 x13, B5_1 x0 x1 x2 x3 x4 x5 x6 x7 x8 x9 x10 x11 x12 x13 → P) : P := sLX9_embed_27 hK hB n h

theorem sLX9_embed_5 {P : Prop} {i0 : Int32} {i1 : Int32} {i2 : Int32} {i3 : Int32} {i4 : Int32} {i11 : Int32} {i12 : Int32} {i13 : Int32} {i14 : Int32} {i15 : Int32} {i16 : Int32} {i17 : Int32} {f18 : Nat → Int32} {K : Int32 → (Int32 × Int32 × Int32 × Int32 × Int32 × Int32 × (Nat → Int32) × (Nat → Int32) × (Nat → Int32) × (Nat → Int32) × (Nat → Int32) × (Nat → Int32) × (Nat → Int32) × (Nat → Int32)) → Prop} (hK : ∀ x0 x1, K x0 x1 → P) : ∀ (n : Nat) {t5_0 : Nat → Int32} {t5_1 : Nat → Int32} {t5_2 : Nat → Int32} {t5_3 : Nat → Int32} {t5_4 : Nat → Int32} {t5_5 : Nat → Int32} {t5_6 : Nat → Int32} {t5_7 : Nat → Int32} {t5_8 : Int32} {t5_9 : Int32} {t5_10 : Int32} {t5_11 : Int32} {t5_12 : Int32} {t5_13 : Int32}, wLX9_embed_5 i0 i1 i2 i3 i4 i11 i12 i13 i14 i15 i16 i17 f18 K n t5_0 t5_1 t5_2 t5_3 t5_4 t5_5 t5_6 t5_7 t5_8 t5_9 t5_10 t5_11 t5_12 t5_13 → P := by
  intro n
  induction n with
  | zero => intros; rename_i h; exact h.elim
  | succ n ih =>
    intros; rename_i h
    unfold wLX9_embed_5 at h
    exact (sX9_isWhole h (fun _ _ h => (yst_if2 h (fun h => (hK _ _ h)) (fun h => (sX9_findPiece h (fun _ h => (yst_if2 h (fun h => (Exists.elim h (fun n h => (tLX9_embed_27 h hK (fun _ _ _ _ _ _ _ _ _ _ _ _ _ _ h => (ih h)))))) (fun h => (hK _ _ h)))))))))
theorem tLX9_embed_5 {P : Prop} {i0 : Int32} {i1 : Int32} {i2 : Int32} {i3 : Int32} {i4 : Int32} {i11 : Int32} {i12 : Int32} {i13 : Int32} {i14 : Int32} {i15 : Int32} {i16 : Int32} {i17 : Int32} {f18 : Nat → Int32} {K : Int32 → (Int32 × Int32 × Int32 × Int32 × Int32 × Int32 × (Nat → Int32) × (Nat → Int32) × (Nat → Int32) × (Nat → Int32) × (Nat → Int32) × (Nat → Int32) × (Nat → Int32) × (Nat → Int32)) → Prop} {n : Nat} {t5_0 : Nat → Int32} {t5_1 : Nat → Int32} {t5_2 : Nat → Int32} {t5_3 : Nat → Int32} {t5_4 : Nat → Int32} {t5_5 : Nat → Int32} {t5_6 : Nat → Int32} {t5_7 : Nat → Int32} {t5_8 : Int32} {t5_9 : Int32} {t5_10 : Int32} {t5_11 : Int32} {t5_12 : Int32} {t5_13 : Int32} (h : wLX9_embed_5 i0 i1 i2 i3 i4 i11 i12 i13 i14 i15 i16 i17 f18 K n t5_0 t5_1 t5_2 t5_3 t5_4 t5_5 t5_6 t5_7 t5_8 t5_9 t5_10 t5_11 t5_12 t5_13) (hK : ∀ x0 x1, K x0 x1 → P) : P := sLX9_embed_5 hK n h

theorem sX9_embed {P : Prop} {i0 : Int32} {i1 : Int32} {i2 : Int32} {i3 : Int32} {i4 : Int32} {i5 : Int32} {i6 : Int32} {i7 : Int32} {i8 : Int32} {i9 : Int32} {i10 : Int32} {i11 : Int32} {i12 : Int32} {i13 : Int32} {i14 : Int32} {i15 : Int32} {i16 : Int32} {i17 : Int32} {f18 : Nat → Int32} {f19 : Nat → Int32} {f20 : Nat → Int32} {f21 : Nat → Int32} {f22 : Nat → Int32} {f23 : Nat → Int32} {f24 : Nat → Int32} {f25 : Nat → Int32} {f26 : Nat → Int32} {K : Int32 → (Int32 × Int32 × Int32 × Int32 × Int32 × Int32 × (Nat → Int32) × (Nat → Int32) × (Nat → Int32) × (Nat → Int32) × (Nat → Int32) × (Nat → Int32) × (Nat → Int32) × (Nat → Int32)) → Prop} (h : wX9_embed i0 i1 i2 i3 i4 i5 i6 i7 i8 i9 i10 i11 i12 i13 i14 i15 i16 i17 f18 f19 f20 f21 f22 f23 f24 f25 f26 K) (hK : ∀ x0 x1, K x0 x1 → P) : P := by
  unfold wX9_embed at h
  exact (sX9_begin h (fun _ _ h => (Exists.elim h (fun n h => (tLX9_embed_5 h hK)))))

theorem sLX9_isPlane_129 {P : Prop} {i0 : Int32} {i1 : Int32} {i2 : Int32} {i3 : Int32} {i11 : Int32} {i12 : Int32} {i13 : Int32} {i14 : Int32} {i15 : Int32} {i16 : Int32} {i17 : Int32} {u73 : Int32 × (Nat → Int32) × (Nat → Int32) × (Nat → Int32)} {t78_0 : Nat → Int32} {t78_1 : Nat → Int32} {t78_2 : Nat → Int32} {t78_3 : Nat → Int32} {t78_5 : Nat → Int32} {t78_6 : Nat → Int32} {t78_7 : Nat → Int32} {t78_8 : Nat → Int32} {t78_9 : Int32} {t78_10 : Int32} {t78_11 : Int32} {t78_12 : Int32} {t78_13 : Int32} {t78_14 : Int32} {t78_15 : Int32} {K : Int32 → (Int32 × Int32 × Int32 × Int32 × Int32 × Int32 × Int32 × (Nat → Int32) × (Nat → Int32) × (Nat → Int32) × (Nat → Int32) × (Nat → Int32) × (Nat → Int32) × (Nat → Int32) × (Nat → Int32) × (Nat → Int32) × (Nat → Int32) × (Nat → Int32) × (Nat → Int32)) → Prop} {B78_2 : (Nat → Int32) → (Nat → Int32) → (Nat → Int32) → (Nat → Int32) → (Nat → Int32) → (Nat → Int32) → (Nat → Int32) → (Nat → Int32) → (Nat → Int32) → Int32 → Int32 → Int32 → Int32 → Int32 → Int32 → Int32 → Prop} (hK : ∀ x0 x1, K x0 x1 → P) (hB : ∀ x0 x1 x2 x3 x4 x5 x6 x7 x8 x9 x10 x11 x12 x13 x14 x15, B78_2 x0 x1 x2 x3 x4 x5 x6 x7 x8 x9 x10 x11 x12 x13 x14 x15 → P) : ∀ (n : Nat) {t129_0 : Nat → Int32} {t129_1 : Int32} {t129_2 : Int32}, wLX9_isPlane_129 i0 i1 i2 i3 i11 i12 i13 i14 i15 i16 i17 u73 t78_0 t78_1 t78_2 t78_3 t78_5 t78_6 t78_7 t78_8 t78_9 t78_10 t78_11 t78_12 t78_13 t78_14 t78_15 K B78_2 n t129_0 t129_1 t129_2 → P := by
  intro n
  induction n with
  | zero => intros; rename_i h; exact h.elim
  | succ n ih =>
    intros; rename_i h
    unfold wLX9_isPlane_129 at h
    exact (yst_if h (fun h => (yst_if h (fun h => (hB _ _ _ _ _ _ _ _ _ _ _ _ _ _ _ _ h)) (fun h => (sX9_embed h (fun _ _ h => (yst_if2 h (fun h => (hB _ _ _ _ _ _ _ _ _ _ _ _ _ _ _ _ h)) (fun h => (hK _ _ h)))))))) (fun h => (sX9_rootOf h (fun _ _ h => (yst_if2 h (fun h => (ih h)) (fun h => (ih ((And.right (And.right (And.right (And.right ((And.right (And.right (And.right (And.right h)))) _ rfl))))) _ rfl))))))))
theorem tLX9_isPlane_129 {P : Prop} {i0 : Int32} {i1 : Int32} {i2 : Int32} {i3 : Int32} {i11 : Int32} {i12 : Int32} {i13 : Int32} {i14 : Int32} {i15 : Int32} {i16 : Int32} {i17 : Int32} {u73 : Int32 × (Nat → Int32) × (Nat → Int32) × (Nat → Int32)} {t78_0 : Nat → Int32} {t78_1 : Nat → Int32} {t78_2 : Nat → Int32} {t78_3 : Nat → Int32} {t78_5 : Nat → Int32} {t78_6 : Nat → Int32} {t78_7 : Nat → Int32} {t78_8 : Nat → Int32} {t78_9 : Int32} {t78_10 : Int32} {t78_11 : Int32} {t78_12 : Int32} {t78_13 : Int32} {t78_14 : Int32} {t78_15 : Int32} {K : Int32 → (Int32 × Int32 × Int32 × Int32 × Int32 × Int32 × Int32 × (Nat → Int32) × (Nat → Int32) × (Nat → Int32) × (Nat → Int32) × (Nat → Int32) × (Nat → Int32) × (Nat → Int32) × (Nat → Int32) × (Nat → Int32) × (Nat → Int32) × (Nat → Int32) × (Nat → Int32)) → Prop} {B78_2 : (Nat → Int32) → (Nat → Int32) → (Nat → Int32) → (Nat → Int32) → (Nat → Int32) → (Nat → Int32) → (Nat → Int32) → (Nat → Int32) → (Nat → Int32) → Int32 → Int32 → Int32 → Int32 → Int32 → Int32 → Int32 → Prop} {n : Nat} {t129_0 : Nat → Int32} {t129_1 : Int32} {t129_2 : Int32} (h : wLX9_isPlane_129 i0 i1 i2 i3 i11 i12 i13 i14 i15 i16 i17 u73 t78_0 t78_1 t78_2 t78_3 t78_5 t78_6 t78_7 t78_8 t78_9 t78_10 t78_11 t78_12 t78_13 t78_14 t78_15 K B78_2 n t129_0 t129_1 t129_2) (hK : ∀ x0 x1, K x0 x1 → P) (hB : ∀ x0 x1 x2 x3 x4 x5 x6 x7 x8 x9 x10 x11 x12 x13 x14 x15, B78_2 x0 x1 x2 x3 x4 x5 x6 x7 x8 x9 x10 x11 x12 x13 x14 x15 → P) : P := sLX9_isPlane_129 hK hB n h

theorem sLX9_isPlane_103 {P : Prop} {i0 : Int32} {i1 : Int32} {i2 : Int32} {i3 : Int32} {i11 : Int32} {i12 : Int32} {i13 : Int32} {i14 : Int32} {i15 : Int32} {i16 : Int32} {i17 : Int32} {u73 : Int32 × (Nat → Int32) × (Nat → Int32) × (Nat → Int32)} {t78_0 : Nat → Int32} {t78_1 : Nat → Int32} {t78_2 : Nat → Int32} {t78_3 : Nat → Int32} {t78_5 : Nat → Int32} {t78_6 : Nat → Int32} {t78_7 : Nat → Int32} {t78_8 : Nat → Int32} {t78_9 : Int32} {t78_10 : Int32} {t78_11 : Int32} {t78_12 : Int32} {t78_13 : Int32} {t78_14 : Int32} {t78_15 : Int32} {K : Int32 → (Int32 × Int32 × Int32 × Int32 × Int32 × Int32 × Int32 × (Nat → Int32) × (Nat → Int32) × (Nat → Int32) × (Nat → Int32) × (Nat → Int32) × (Nat → Int32) × (Nat → Int32) × (Nat → Int32) × (Nat → Int32) × (Nat → Int32) × (Nat → Int32) × (Nat → Int32)) → Prop} {B78_2 : (Nat → Int32) → (Nat → Int32) → (Nat → Int32) → (Nat → Int32) → (Nat → Int32) → (Nat → Int32) → (Nat → Int32) → (Nat → Int32) → (Nat → Int32) → Int32 → Int32 → Int32 → Int32 → Int32 → Int32 → Int32 → Prop} (hK : ∀ x0 x1, K x0 x1 → P) (hB : ∀ x0 x1 x2 x3 x4 x5 x6 x7 x8 x9 x10 x11 x12 x13 x14 x15, B78_2 x0 x1 x2 x3 x4 x5 x6 x7 x8 x9 x10 x11 x12 x13 x14 x15 → P) : ∀ (n : Nat) {t103_0 : Nat → Int32} {t103_1 : Int32}, wLX9_isPlane_103 i0 i1 i2 i3 i11 i12 i13 i14 i15 i16 i17 u73 t78_0 t78_1 t78_2 t78_3 t78_5 t78_6 t78_7 t78_8 t78_9 t78_10 t78_11 t78_12 t78_13 t78_14 t78_15 K B78_2 n t103_0 t103_1 → P := by
  intro n
  induction n with
  | zero => intros; rename_i h; exact h.elim
  | succ n ih =>
    intros; rename_i h
    unfold wLX9_isPlane_103 at h
    exact (yst_if h (fun h => (Exists.elim h (fun n h => (tLX9_isPlane_129 h hK (fun _ _ _ _ _ _ _ _ _ _ _ _ _ _ _ _ h => (hB _ _ _ _ _ _ _ _ _ _ _ _ _ _ _ _ h)))))) (fun h => (ih ((And.right h) _ rfl))))
theorem tLX9_isPlane_103 {P : Prop} {i0 : Int32} {i1 : Int32} {i2 : Int32} {i3 : Int32} {i11 : Int32} {i12 : Int32} {i13 : Int32} {i14 : Int32} {i15 : Int32} {i16 : Int32} {i17 : Int32} {u73 : Int32 × (Nat → Int32) × (Nat → Int32) × (Nat → Int32)} {t78_0 : Nat → Int32} {t78_1 : Nat → Int32} {t78_2 : Nat → Int32} {t78_3 : Nat → Int32} {t78_5 : Nat → Int32} {t78_6 : Nat → Int32} {t78_7 : Nat → Int32} {t78_8 : Nat → Int32} {t78_9 : Int32} {t78_10 : Int32} {t78_11 : Int32} {t78_12 : Int32} {t78_13 : Int32} {t78_14 : Int32} {t78_15 : Int32} {K : Int32 → (Int32 × Int32 × Int32 × Int32 × Int32 × Int32 × Int32 × (Nat → Int32) × (Nat → Int32) × (Nat → Int32) × (Nat → Int32) × (Nat → Int32) × (Nat → Int32) × (Nat → Int32) × (Nat → Int32) × (Nat → Int32) × (Nat → Int32) × (Nat → Int32) × (Nat → Int32)) → Prop} {B78_2 : (Nat → Int32) → (Nat → Int32) → (Nat → Int32) → (Nat → Int32) → (Nat → Int32) → (Nat → Int32) → (Nat → Int32) → (Nat → Int32) → (Nat → Int32) → Int32 → Int32 → Int32 → Int32 → Int32 → Int32 → Int32 → Prop} {n : Nat} {t103_0 : Nat → Int32} {t103_1 : Int32} (h : wLX9_isPlane_103 i0 i1 i2 i3 i11 i12 i13 i14 i15 i16 i17 u73 t78_0 t78_1 t78_2 t78_3 t78_5 t78_6 t78_7 t78_8 t78_9 t78_10 t78_11 t78_12 t78_13 t78_14 t78_15 K B78_2 n t103_0 t103_1) (hK : ∀ x0 x1, K x0 x1 → P) (hB : ∀ x0 x1 x2 x3 x4 x5 x6 x7 x8 x9 x10 x11 x12 x13 x14 x15, B78_2 x0 x1 x2 x3 x4 x5 x6 x7 x8 x9 x10 x11 x12 x13 x14 x15 → P) : P := sLX9_isPlane_103 hK hB n h

theorem sLX9_isPlane_78 {P : Prop} {i0 : Int32} {i1 : Int32} {i2 : Int32} {i3 : Int32} {i11 : Int32} {i12 : Int32} {i13 : Int32} {i14 : Int32} {i15 : Int32} {i16 : Int32} {i17 : Int32} {u73 : Int32 × (Nat → Int32) × (Nat → Int32) × (Nat → Int32)} {K : Int32 → (Int32 × Int32 × Int32 × Int32 × Int32 × Int32 × Int32 × (Nat → Int32) × (Nat → Int32) × (Nat → Int32) × (Nat → Int32) × (Nat → Int32) × (Nat → Int32) × (Nat → Int32) × (Nat → Int32) × (Nat → Int32) × (Nat → Int32) × (Nat → Int32) × (Nat → Int32)) → Prop} (hK : ∀ x0 x1, K x0 x1 → P) : ∀ (n : Nat) {t78_0 : Nat → Int32} {t78_1 : Nat → Int32} {t78_2 : Nat → Int32} {t78_3 : Nat → Int32} {t78_4 : Nat → Int32} {t78_5 : Nat → Int32} {t78_6 : Nat → Int32} {t78_7 : Nat → Int32} {t78_8 : Nat → Int32} {t78_9 : Int32} {t78_10 : Int32} {t78_11 : Int32} {t78_12 : Int32} {t78_13 : Int32} {t78_14 : Int32} {t78_15 : Int32}, wLX9_isPlane_78 i0 i1 i2 i3 i11 i12 i13 i14 i15 i16 i17 u73 K n t78_0 t78_1 t78_2 t78_3 t78_4 t78_5 t78_6 t78_7 t78_8 t78_9 t78_10 t78_11 t78_12 t78_13 t78_14 t78_15 → P := by
  intro n
  induction n with
  | zero => intros; rename_i h; exact h.elim
  | succ n ih =>
    intros; rename_i h
    unfold wLX9_isPlane_78 at h
    exact (yst_if h (fun h => (hK _ _ h)) (fun h => (sX9_rootOf h (fun _ _ h => (yst_if h (fun h => (Exists.elim h (fun n h => (tLX9_isPlane_103 h hK (fun _ _ _ _ _ _ _ _ _ _ _ _ _ _ _ _ h => (ih h)))))) (fun h => (ih h)))))))
theorem tLX9_isPlane_78 {P : Prop} {i0 : Int32} {i1 : Int32} {i2 : Int32} {i3 : Int32} {i11 : Int32} {i12 : Int32} {i13 : Int32} {i14 : Int32} {i15 : Int32} {i16 : Int32} {i17 : Int32} {u73 : Int32 × (Nat → Int32) × (Nat → Int32) × (Nat → Int32)} {K : Int32 → (Int32 × Int32 × Int32 × Int32 × Int32 × Int32 × Int32 × (Nat → Int32) × (Nat → Int32) × (Nat → Int32) × (Nat → Int32) × (Nat → Int32) × (Nat → Int32) × (Nat → Int32) × (Nat → Int32) × (Nat → Int32) × (Nat → Int32) × (Nat → Int32) × (Nat → Int32)) → Prop} {n : Nat} {t78_0 : Nat → Int32} {t78_1 : Nat → Int32} {t78_2 : Nat → Int32} {t78_3 : Nat → Int32} {t78_4 : Nat → Int32} {t78_5 : Nat → Int32} {t78_6 : Nat → Int32} {t78_7 : Nat → Int32} {t78_8 : Nat → Int32} {t78_9 : Int32} {t78_10 : Int32} {t78_11 : Int32} {t78_12 : Int32} {t78_13 : Int32} {t78_14 : Int32} {t78_15 : Int32} (h : wLX9_isPlane_78 i0 i1 i2 i3 i11 i12 i13 i14 i15 i16 i17 u73 K n t78_0 t78_1 t78_2 t78_3 t78_4 t78_5 t78_6 t78_7 t78_8 t78_9 t78_10 t78_11 t78_12 t78_13 t78_14 t78_15) (hK : ∀ x0 x1, K x0 x1 → P) : P := sLX9_isPlane_78 hK n h

theorem sLX9_isPlane_129_1 {P : Prop} {i0 : Int32} {i1 : Int32} {i2 : Int32} {i3 : Int32} {i11 : Int32} {i12 : Int32} {i13 : Int32} {i14 : Int32} {i15 : Int32} {i16 : Int32} {i17 : Int32} {u73 : Int32 × (Nat → Int32) × (Nat → Int32) × (Nat → Int32)} {t78_0 : Nat → Int32} {t78_1 : Nat → Int32} {t78_2 : Nat → Int32} {t78_3 : Nat → Int32} {t78_5 : Nat → Int32} {t78_6 : Nat → Int32} {t78_7 : Nat → Int32} {t78_8 : Nat → Int32} {t78_9 : Int32} {t78_10 : Int32} {t78_11 : Int32} {t78_12 : Int32} {t78_13 : Int32} {t78_14 : Int32} {t78_15 : Int32} {K : Int32 → (Int32 × Int32 × Int32 × Int32 × Int32 × Int32 × Int32 × (Nat → Int32) × (Nat → Int32) × (Nat → Int32) × (Nat → Int32) × (Nat → Int32) × (Nat → Int32) × (Nat → Int32) × (Nat → Int32) × (Nat → Int32) × (Nat → Int32) × (Nat → Int32) × (Nat → Int32)) → Prop} {B78_5 : (Nat → Int32) → (Nat → Int32) → (Nat → Int32) → (Nat → Int32) → (Nat → Int32) → (Nat → Int32) → (Nat → Int32) → (Nat → Int32) → (Nat → Int32) → Int32 → Int32 → Int32 → Int32 → Int32 → Int32 → Int32 → Prop} (hK : ∀ x0 x1, K x0 x1 → P) (hB : ∀ x0 x1 x2 x3 x4 x5 x6 x7 x8 x9 x10 x11 x12 x13 x14 x15, B78_5 x0 x1 x2 x3 x4 x5 x6 x7 x8 x9 x10 x11 x12 x13 x14 x15 → P) : ∀ (n : Nat) {t129_0 : Nat → Int32} {t129_1 : Int32} {t129_2 : Int32}, wLX9_isPlane_129_1 i0 i1 i2 i3 i11 i12 i13 i14 i15 i16 i17 u73 t78_0 t78_1 t78_2 t78_3 t78_5 t78_6 t78_7 t78_8 t78_9 t78_10 t78_11 t78_12 t78_13 t78_14 t78_15 K B78_5 n t129_0 t129_1 t129_2 → P := by
  intro n
  induction n with
  | zero => intros; rename_i h; exact h.elim
  | succ n ih =>
    intros; rename_i h
    unfold wLX9_isPlane_129_1 at h
    exact (yst_if h (fun h => (yst_if h (fun h => (hB _ _ _ _ _ _ _ _ _ _ _ _ _ _ _ _ h)) (fun h => (sX9_embed h (fun _ _ h => (yst_if2 h (fun h => (hB _ _ _ _ _ _ _ _ _ _ _ _ _ _ _ _ h)) (fun h => (hK _ _ h)))))))) (fun h => (sX9_rootOf h (fun _ _ h => (yst_if2 h (fun h => (ih h)) (fun h => (ih ((And.right (And.right (And.right (And.right ((And.right (And.right (And.right (And.right h)))) _ rfl))))) _ rfl))))))))
theorem tLX9_isPlane_129_1 {P : Prop} {i0 : Int32} {i1 : Int32} {i2 : Int32} {i3 : Int32} {i11 : Int32} {i12 : Int32} {i13 : Int32} {i14 : Int32} {i15 : Int32} {i16 : Int32} {i17 : Int32} {u73 : Int32 × (Nat → Int32) × (Nat → Int32) × (Nat → Int32)} {t78_0 : Nat → Int32} {t78_1 : Nat → Int32} {t78_2 : Nat → Int32} {t78_3 : Nat → Int32} {t78_5 : Nat → Int32} {t78_6 : Nat → Int32} {t78_7 : Nat → Int32} {t78_8 : Nat → Int32} {t78_9 : Int32} {t78_10 : Int32} {t78_11 : Int32} {t78_12 : Int32} {t78_13 : Int32} {t78_14 : Int32} {t78_15 : Int32} {K : Int32 → (Int32 × Int32 × Int32 × Int32 × Int32 × Int32 × Int32 × (Nat → Int32) × (Nat → Int32) × (Nat → Int32) × (Nat → Int32) × (Nat → Int32) × (Nat → Int32) × (Nat → Int32) × (Nat → Int32) × (Nat → Int32) × (Nat → Int32) × (Nat → Int32) × (Nat → Int32)) → Prop} {B78_5 : (Nat → Int32) → (Nat → Int32) → (Nat → Int32) → (Nat → Int32) → (Nat → Int32) → (Nat → Int32) → (Nat → Int32) → (Nat → Int32) → (Nat → Int32) → Int32 → Int32 → Int32 → Int32 → Int32 → Int32 → Int32 → Prop} {n : Nat} {t129_0 : Nat → Int32} {t129_1 : Int32} {t129_2 : Int32} (h : wLX9_isPlane_129_1 i0 i1 i2 i3 i11 i12 i13 i14 i15 i16 i17 u73 t78_0 t78_1 t78_2 t78_3 t78_5 t78_6 t78_7 t78_8 t78_9 t78_10 t78_11 t78_12 t78_13 t78_14 t78_15 K B78_5 n t129_0 t129_1 t129_2) (hK : ∀ x0 x1, K x0 x1 → P) (hB : ∀ x0 x1 x2 x3 x4 x5 x6 x7 x8 x9 x10 x11 x12 x13 x14 x15, B78_5 x0 x1 x2 x3 x4 x5 x6 x7 x8 x9 x10 x11 x12 x13 x14 x15 → P) : P := sLX9_isPlane_129_1 hK hB n h

theorem sLX9_isPlane_103_1 {P : Prop} {i0 : Int32} {i1 : Int32} {i2 : Int32} {i3 : Int32} {i11 : Int32} {i12 : Int32} {i13 : Int32} {i14 : Int32} {i15 : Int32} {i16 : Int32} {i17 : Int32} {u73 : Int32 × (Nat → Int32) × (Nat → Int32) × (Nat → Int32)} {t78_0 : Nat → Int32} {t78_1 : Nat → Int32} {t78_2 : Nat → Int32} {t78_3 : Nat → Int32} {t78_5 : Nat → Int32} {t78_6 : Nat → Int32} {t78_7 : Nat → Int32} {t78_8 : Nat → Int32} {t78_9 : Int32} {t78_10 : Int32} {t78_11 : Int32} {t78_12 : Int32} {t78_13 : Int32} {t78_14 : Int32} {t78_15 : Int32} {K : Int32 → (Int32 × Int32 × Int32 × Int32 × Int32 × Int32 × Int32 × (Nat → Int32) × (Nat → Int32) × (Nat → Int32) × (Nat → Int32) × (Nat → Int32) × (Nat → Int32) × (Nat → Int32) × (Nat → Int32) × (Nat → Int32) × (Nat → Int32) × (Nat → Int32) × (Nat → Int32)) → Prop} {B78_5 : (Nat → Int32) → (Nat → Int32) → (Nat → Int32) → (Nat → Int32) → (Nat → Int32) → (Nat → Int32) → (Nat → Int32) → (Nat → Int32) → (Nat → Int32) → Int32 → Int32 → Int32 → Int32 → Int32 → Int32 → Int32 → Prop} (hK : ∀ x0 x1, K x0 x1 → P) (hB : ∀ x0 x1 x2 x3 x4 x5 x6 x7 x8 x9 x10 x11 x12 x13 x14 x15, B78_5 x0 x1 x2 x3 x4 x5 x6 x7 x8 x9 x10 x11 x12 x13 x14 x15 → P) : ∀ (n : Nat) {t103_0 : Nat → Int32} {t103_1 : Int32}, wLX9_isPlane_103_1 i0 i1 i2 i3 i11 i12 i13 i14 i15 i16 i17 u73 t78_0 t78_1 t78_2 t78_3 t78_5 t78_6 t78_7 t78_8 t78_9 t78_10 t78_11 t78_12 t78_13 t78_14 t78_15 K B78_5 n t103_0 t103_1 → P := by
  intro n
  induction n with
  | zero => intros; rename_i h; exact h.elim
  | succ n ih =>
    intros; rename_i h
    unfold wLX9_isPlane_103_1 at h
    exact (yst_if h (fun h => (Exists.elim h (fun n h => (tLX9_isPlane_129_1 h hK (fun _ _ _ _ _ _ _ _ _ _ _ _ _ _ _ _ h => (hB _ _ _ _ _ _ _ _ _ _ _ _ _ _ _ _ h)))))) (fun h => (ih ((And.right h) _ rfl))))
theorem tLX9_isPlane_103_1 {P : Prop} {i0 : Int32} {i1 : Int32} {i2 : Int32} {i3 : Int32} {i11 : Int32} {i12 : Int32} {i13 : Int32} {i14 : Int32} {i15 : Int32} {i16 : Int32} {i17 : Int32} {u73 : Int32 × (Nat → Int32) × (Nat → Int32) × (Nat → Int32)} {t78_0 : Nat → Int32} {t78_1 : Nat → Int32} {t78_2 : Nat → Int32} {t78_3 : Nat → Int32} {t78_5 : Nat → Int32} {t78_6 : Nat → Int32} {t78_7 : Nat → Int32} {t78_8 : Nat → Int32} {t78_9 : Int32} {t78_10 : Int32} {t78_11 : Int32} {t78_12 : Int32} {t78_13 : Int32} {t78_14 : Int32} {t78_15 : Int32} {K : Int32 → (Int32 × Int32 × Int32 × Int32 × Int32 × Int32 × Int32 × (Nat → Int32) × (Nat → Int32) × (Nat → Int32) × (Nat → Int32) × (Nat → Int32) × (Nat → Int32) × (Nat → Int32) × (Nat → Int32) × (Nat → Int32) × (Nat → Int32) × (Nat → Int32) × (Nat → Int32)) → Prop} {B78_5 : (Nat → Int32) → (Nat → Int32) → (Nat → Int32) → (Nat → Int32) → (Nat → Int32) → (Nat → Int32) → (Nat → Int32) → (Nat → Int32) → (Nat → Int32) → Int32 → Int32 → Int32 → Int32 → Int32 → Int32 → Int32 → Prop} {n : Nat} {t103_0 : Nat → Int32} {t103_1 : Int32} (h : wLX9_isPlane_103_1 i0 i1 i2 i3 i11 i12 i13 i14 i15 i16 i17 u73 t78_0 t78_1 t78_2 t78_3 t78_5 t78_6 t78_7 t78_8 t78_9 t78_10 t78_11 t78_12 t78_13 t78_14 t78_15 K B78_5 n t103_0 t103_1) (hK : ∀ x0 x1, K x0 x1 → P) (hB : ∀ x0 x1 x2 x3 x4 x5 x6 x7 x8 x9 x10 x11 x12 x13 x14 x15, B78_5 x0 x1 x2 x3 x4 x5 x6 x7 x8 x9 x10 x11 x12 x13 x14 x15 → P) : P := sLX9_isPlane_103_1 hK hB n h

theorem sLX9_isPlane_78_1 {P : Prop} {i0 : Int32} {i1 : Int32} {i2 : Int32} {i3 : Int32} {i11 : Int32} {i12 : Int32} {i13 : Int32} {i14 : Int32} {i15 : Int32} {i16 : Int32} {i17 : Int32} {u73 : Int32 × (Nat → Int32) × (Nat → Int32) × (Nat → Int32)} {K : Int32 → (Int32 × Int32 × Int32 × Int32 × Int32 × Int32 × Int32 × (Nat → Int32) × (Nat → Int32) × (Nat → Int32) × (Nat → Int32) × (Nat → Int32) × (Nat → Int32) × (Nat → Int32) × (Nat → Int32) × (Nat → Int32) × (Nat → Int32) × (Nat → Int32) × (Nat → Int32)) → Prop} (hK : ∀ x0 x1, K x0 x1 → P) : ∀ (n : Nat) {t78_0 : Nat → Int32} {t78_1 : Nat → Int32} {t78_2 : Nat → Int32} {t78_3 : Nat → Int32} {t78_4 : Nat → Int32} {t78_5 : Nat → Int32} {t78_6 : Nat → Int32} {t78_7 : Nat → Int32} {t78_8 : Nat → Int32} {t78_9 : Int32} {t78_10 : Int32} {t78_11 : Int32} {t78_12 : Int32} {t78_13 : Int32} {t78_14 : Int32} {t78_15 : Int32}, wLX9_isPlane_78_1 i0 i1 i2 i3 i11 i12 i13 i14 i15 i16 i17 u73 K n t78_0 t78_1 t78_2 t78_3 t78_4 t78_5 t78_6 t78_7 t78_8 t78_9 t78_10 t78_11 t78_12 t78_13 t78_14 t78_15 → P := by
  intro n
  induction n with
  | zero => intros; rename_i h; exact h.elim
  | succ n ih =>
    intros; rename_i h
    unfold wLX9_isPlane_78_1 at h
    exact (yst_if h (fun h => (hK _ _ h)) (fun h => (sX9_rootOf h (fun _ _ h => (yst_if h (fun h => (Exists.elim h (fun n h => (tLX9_isPlane_103_1 h hK (fun _ _ _ _ _ _ _ _ _ _ _ _ _ _ _ _ h => (ih h)))))) (fun h => (ih h)))))))
theorem tLX9_isPlane_78_1 {P : Prop} {i0 : Int32} {i1 : Int32} {i2 : Int32} {i3 : Int32} {i11 : Int32} {i12 : Int32} {i13 : Int32} {i14 : Int32} {i15 : Int32} {i16 : Int32} {i17 : Int32} {u73 : Int32 × (Nat → Int32) × (Nat → Int32) × (Nat → Int32)} {K : Int32 → (Int32 × Int32 × Int32 × Int32 × Int32 × Int32 × Int32 × (Nat → Int32) × (Nat → Int32) × (Nat → Int32) × (Nat → Int32) × (Nat → Int32) × (Nat → Int32) × (Nat → Int32) × (Nat → Int32) × (Nat → Int32) × (Nat → Int32) × (Nat → Int32) × (Nat → Int32)) → Prop} {n : Nat} {t78_0 : Nat → Int32} {t78_1 : Nat → Int32} {t78_2 : Nat → Int32} {t78_3 : Nat → Int32} {t78_4 : Nat → Int32} {t78_5 : Nat → Int32} {t78_6 : Nat → Int32} {t78_7 : Nat → Int32} {t78_8 : Nat → Int32} {t78_9 : Int32} {t78_10 : Int32} {t78_11 : Int32} {t78_12 : Int32} {t78_13 : Int32} {t78_14 : Int32} {t78_15 : Int32} (h : wLX9_isPlane_78_1 i0 i1 i2 i3 i11 i12 i13 i14 i15 i16 i17 u73 K n t78_0 t78_1 t78_2 t78_3 t78_4 t78_5 t78_6 t78_7 t78_8 t78_9 t78_10 t78_11 t78_12 t78_13 t78_14 t78_15) (hK : ∀ x0 x1, K x0 x1 → P) : P := sLX9_isPlane_78_1 hK n h

theorem sLX9_isPlane_16 {P : Prop} {i3 : Int32} {f18 : Nat → Int32} {t4_1 : Int32} {K : Int32 → (Int32 × Int32 × Int32 × Int32 × Int32 × Int32 × Int32 × (Nat → Int32) × (Nat → Int32) × (Nat → Int32) × (Nat → Int32) × (Nat → Int32) × (Nat → Int32) × (Nat → Int32) × (Nat → Int32) × (Nat → Int32) × (Nat → Int32) × (Nat → Int32) × (Nat → Int32)) → Prop} {B4_1 : Int32 → Int32 → Prop} (hK : ∀ x0 x1, K x0 x1 → P) (hB : ∀ x0 x1, B4_1 x0 x1 → P) : ∀ (n : Nat) {t16_0 : Int32} {t16_1 : Int32}, wLX9_isPlane_16 i3 f18 t4_1 K B4_1 n t16_0 t16_1 → P := by
  intro n
  induction n with
  | zero => intros; rename_i h; exact h.elim
  | succ n ih =>
    intros; rename_i h
    unfold wLX9_isPlane_16 at h
    exact (yst_if h (fun h => (hB _ _ h)) (fun h => (ih ((And.right h) _ rfl))))
theorem tLX9_isPlane_16 {P : Prop} {i3 : Int32} {f18 : Nat → Int32} {t4_1 : Int32} {K : Int32 → (Int32 × Int32 × Int32 × Int32 × Int32 × Int32 × Int32 × (Nat → Int32) × (Nat → Int32) × (Nat → Int32) × (Nat → Int32) × (Nat → Int32) × (Nat → Int32) × (Nat → Int32) × (Nat → Int32) × (Nat → Int32) × (Nat → Int32) × (Nat → Int32) × (Nat → Int32)) → Prop} {B4_1 : Int32 → Int32 → Prop} {n : Nat} {t16_0 : Int32} {t16_1 : Int32} (h : wLX9_isPlane_16 i3 f18 t4_1 K B4_1 n t16_0 t16_1) (hK : ∀ x0 x1, K x0 x1 → P) (hB : ∀ x0 x1, B4_1 x0 x1 → P) : P := sLX9_isPlane_16 hK hB n h

theorem sLX9_isPlane_4 {P : Prop} {i0 : Int32} {i1 : Int32} {i2 : Int32} {i3 : Int32} {i4 : Int32} {i5 : Int32} {i6 : Int32} {i7 : Int32} {i8 : Int32} {i9 : Int32} {i10 : Int32} {i11 : Int32} {i12 : Int32} {i13 : Int32} {i14 : Int32} {i15 : Int32} {i16 : Int32} {i17 : Int32} {f18 : Nat → Int32} {f19 : Nat → Int32} {f20 : Nat → Int32} {f21 : Nat → Int32} {f22 : Nat → Int32} {f23 : Nat → Int32} {f24 : Nat → Int32} {f25 : Nat → Int32} {f26 : Nat → Int32} {f27 : Nat → Int32} {f28 : Nat → Int32} {f29 : Nat → Int32} {f30 : Nat → Int32} {K : Int32 → (Int32 × Int32 × Int32 × Int32 × Int32 × Int32 × Int32 × (Nat → Int32) × (Nat → Int32) × (Nat → Int32) × (Nat → Int32) × (Nat → Int32) × (Nat → Int32) × (Nat → Int32) × (Nat → Int32) × (Nat → Int32) × (Nat → Int32) × (Nat → Int32) × (Nat → Int32)) → Prop} (hK : ∀ x0 x1, K x0 x1 → P) : ∀ (n : Nat) {t4_0 : Int32} {t4_1 : Int32}, wLX9_isPlane_4 i0 i1 i2 i3 i4 i5 i6 i7 i8 i9 i10 i11 i12 i13 i14 i15 i16 i17 f18 f19 f20 f21 f22 f23 f24 f25 f26 f27 f28 f29 f30 K n t4_0 t4_1 → P := by
  intro n
  induction n with
  | zero => intros; rename_i h; exact h.elim
  | succ n ih =>
    intros; rename_i h
    unfold wLX9_isPlane_4 at h
    exact (yst_if h (fun h => (yst_if h (fun h => (sX9_findBlocks h (fun _ h => (Exists.elim h (fun n h => (tLX9_isPlane_78 h hK)))))) (fun h => (yst_if h (fun h => (sX9_findBlocks h (fun _ h => (Exists.elim h (fun n h => (tLX9_isPlane_78_1 h hK)))))) (fun h => (hK _ _ h)))))) (fun h => (Exists.elim (h _ rfl) (fun n h => (tLX9_isPlane_16 h hK (fun _ _ h => (ih h)))))))
theorem tLX9_isPlane_4 {P : Prop} {i0 : Int32} {i1 : Int32} {i2 : Int32} {i3 : Int32} {i4 : Int32} {i5 : Int32} {i6 : Int32} {i7 : Int32} {i8 : Int32} {i9 : Int32} {i10 : Int32} {i11 : Int32} {i12 : Int32} {i13 : Int32} {i14 : Int32} {i15 : Int32} {i16 : Int32} {i17 : Int32} {f18 : Nat → Int32} {f19 : Nat → Int32} {f20 : Nat → Int32} {f21 : Nat → Int32} {f22 : Nat → Int32} {f23 : Nat → Int32} {f24 : Nat → Int32} {f25 : Nat → Int32} {f26 : Nat → Int32} {f27 : Nat → Int32} {f28 : Nat → Int32} {f29 : Nat → Int32} {f30 : Nat → Int32} {K : Int32 → (Int32 × Int32 × Int32 × Int32 × Int32 × Int32 × Int32 × (Nat → Int32) × (Nat → Int32) × (Nat → Int32) × (Nat → Int32) × (Nat → Int32) × (Nat → Int32) × (Nat → Int32) × (Nat → Int32) × (Nat → Int32) × (Nat → Int32) × (Nat → Int32) × (Nat → Int32)) → Prop} {n : Nat} {t4_0 : Int32} {t4_1 : Int32} (h : wLX9_isPlane_4 i0 i1 i2 i3 i4 i5 i6 i7 i8 i9 i10 i11 i12 i13 i14 i15 i16 i17 f18 f19 f20 f21 f22 f23 f24 f25 f26 f27 f28 f29 f30 K n t4_0 t4_1) (hK : ∀ x0 x1, K x0 x1 → P) : P := sLX9_isPlane_4 hK n h

theorem sX9_isPlane {P : Prop} {i0 : Int32} {i1 : Int32} {i2 : Int32} {i3 : Int32} {i4 : Int32} {i5 : Int32} {i6 : Int32} {i7 : Int32} {i8 : Int32} {i9 : Int32} {i10 : Int32} {i11 : Int32} {i12 : Int32} {i13 : Int32} {i14 : Int32} {i15 : Int32} {i16 : Int32} {i17 : Int32} {f18 : Nat → Int32} {f19 : Nat → Int32} {f20 : Nat → Int32} {f21 : Nat → Int32} {f22 : Nat → Int32} {f23 : Nat → Int32} {f24 : Nat → Int32} {f25 : Nat → Int32} {f26 : Nat → Int32} {f27 : Nat → Int32} {f28 : Nat → Int32} {f29 : Nat → Int32} {f30 : Nat → Int32} {K : Int32 → (Int32 × Int32 × Int32 × Int32 × Int32 × Int32 × Int32 × (Nat → Int32) × (Nat → Int32) × (Nat → Int32) × (Nat → Int32) × (Nat → Int32) × (Nat → Int32) × (Nat → Int32) × (Nat → Int32) × (Nat → Int32) × (Nat → Int32) × (Nat → Int32) × (Nat → Int32)) → Prop} (h : wX9_isPlane i0 i1 i2 i3 i4 i5 i6 i7 i8 i9 i10 i11 i12 i13 i14 i15 i16 i17 f18 f19 f20 f21 f22 f23 f24 f25 f26 f27 f28 f29 f30 K) (hK : ∀ x0 x1, K x0 x1 → P) : P := by
  unfold wX9_isPlane at h
  exact (Exists.elim h (fun n h => (tLX9_isPlane_4 h hK)))


-- FILLED has its faces
theorem yTg_ex {n : Nat} (h3 : 3 ≤ n) (hn : n ≤ 20) {sm fl : Nat → Int32} (hs : ySg n (yGm n sm)) (hp : yPln n (yGm n sm)) (hF : yFl n (yGm n sm) (yGm n fl)) : ∃ F fo ρ, yTg n (yGm n fl) F fo ρ ∧ yWay (yGm n fl) ρ := by
  have hpl := yFl_pln (by omega) hs hF hp
  have hw := w9_isPlane (n := n) (by omega) fl hF.1.1 hF.1.2 0 0 0 0 0 0 0 0 0 0 0 0 0 0 0 0 0 (fun _ => 0) (fun _ => 0) (fun _ => 0) (fun _ => 0) (fun _ => 0) (fun _ => 0) (fun _ => 0) (fun _ => 0) (fun _ => 0) (fun _ => 0) (fun _ => 0) (fun _ => 0)
    (fun _ _ => ∃ F fo ρ, yTg n (yGm n fl) F fo ρ) (by
      intro _ u hu
      obtain ⟨F, fo, ρ, h1, _, _⟩ := yAfter_tg h3 hn hs hp hF (g := fl) (fun v _ => rfl) (x0 := u.1) (x1 := u.2.1) (x2 := u.2.2.1) (x3 := u.2.2.2.1) (x4 := u.2.2.2.2.1) (x5 := u.2.2.2.2.2.1) (x6 := u.2.2.2.2.2.2.1) (x7 := u.2.2.2.2.2.2.2.1) (x8 := u.2.2.2.2.2.2.2.2.1) (x9 := u.2.2.2.2.2.2.2.2.2.1) (x10 := u.2.2.2.2.2.2.2.2.2.2.1) (x11 := u.2.2.2.2.2.2.2.2.2.2.2.1) (x12 := u.2.2.2.2.2.2.2.2.2.2.2.2.1) (x13 := u.2.2.2.2.2.2.2.2.2.2.2.2.2.1) (x14 := u.2.2.2.2.2.2.2.2.2.2.2.2.2.2.1) (x15 := u.2.2.2.2.2.2.2.2.2.2.2.2.2.2.2.1) (x16 := u.2.2.2.2.2.2.2.2.2.2.2.2.2.2.2.2.1) (x17 := u.2.2.2.2.2.2.2.2.2.2.2.2.2.2.2.2.2.1) (x18 := u.2.2.2.2.2.2.2.2.2.2.2.2.2.2.2.2.2.2) hu
      exact ⟨F, fo, ρ, h1⟩) (fun hh => absurd hpl hh)
  obtain ⟨F, fo, ρ, hT⟩ := sX9_isPlane hw (fun _ _ h => h)
  obtain ⟨m, hm, _⟩ := yTg_nb hT (by omega : 0 < n)
  by_cases c : ρ 0 m ≤ ρ m 0
  · exact ⟨F, fo, ρ, hT, fun m' hm' => by rw [yLw_uniq hm' hm]; exact c⟩
  · refine ⟨F, _, _, yTg_rev hT, fun m' hm' => ?_⟩
    rw [yLw_uniq hm' hm]
    show ρ m 0 ≤ ρ 0 m
    omega



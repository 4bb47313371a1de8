
theorem yNorm_idem (g : Nat → Nat → Bool) (ρ : Nat → Nat → Nat) : yNorm g (yNorm g ρ) = yNorm g ρ := by
  funext v w
  cases h : g v w <;> simp [yNorm, h]

-- FACES in the arrays, by ROUND
def yFar (n : Nat) (G : Nat → Nat → Bool) (F : Nat) (fa fb : Nat → Int32) : Prop :=
  ∃ fo, yTg n G F fo (yNu n G) ∧ yWay G (yNu n G) ∧ yArr G F fo (yNu n G) fa fb

theorem w9_rounds {n : Nat} (hn : n ≤ 20) {sm fl g : Nat → Int32} (hs : ySg n (yGm n sm)) (hp : yPln n (yGm n sm)) (hF : yFl n (yGm n sm) (yGm n fl)) (hg : ∀ v, v < n → g v = fl v)
    {x0 x1 x2 x3 x4 x5 x6 : Int32} {x7 x8 x9 x10 x11 x12 x13 x14 x15 x16 x17 x18 : Nat → Int32}
    (hA : yAfter n g (x0, x1, x2, x3, x4, x5, x6, x7, x8, x9, x10, x11, x12, x13, x14, x15, x16, x17, x18))
    (i1 i2 i3 i4 i5 i7 i8 i9 i10 i11 i12 i13 i14 i15 i16 i17 : Int32) (f19 f20 f21 : Nat → Int32)
    (K : ((Nat → Int32) × (Nat → Int32) × (Nat → Int32)) → Prop)
    (hK : ∀ t ar as, (3 ≤ n → ∃ F, x2 = Int32.ofNat F ∧ yFar n (yGm n fl) F x16 x15) → yRnds n (yGm n fl) (yNu n (yGm n fl)) ar as → K (t, ar, as)) :
    wX9_findRounds (Int32.ofNat n) i1 i2 i3 i4 i5 x2 i7 i8 i9 i10 i11 i12 i13 i14 i15 i16 i17 fl f19 f20 f21 x16 K := by
  by_cases h3 : 3 ≤ n
  · obtain ⟨F, fo, ρ, hT, e2, ha⟩ := yAfter_tg h3 hn hs hp hF hg hA
    have hT' := yTg_norm hT
    have ha' := yTa_norm ha
    subst e2
    refine w9_findRounds3 hT' ha' _ _ _ _ _ _ _ _ _ _ _ _ _ _ _ _ _ _ _ K (fun hw t ar as hr => ?_) (fun hw t ar as hr => ?_)
    · have e := yNu_eq hT' hw
      rw [yNorm_idem] at e
      refine hK t ar as (fun _ => ⟨F, rfl, fo, ?_⟩) (by rw [e]; exact hr)
      rw [e]; exact ⟨hT', hw, Or.inl ha'⟩
    · have hTr := yTg_rev hT'
      have e := yNu_eq hTr hw
      have e' : yNorm (yGm n fl) (fun a b => yNorm (yGm n fl) ρ b a) = fun a b => yNorm (yGm n fl) ρ b a := by
        rw [yNorm_rev hF.1.2, yNorm_idem]
      rw [e'] at e
      refine hK t ar as (fun _ => ⟨F, rfl, fun a b => fo b a, ?_⟩) (by rw [e]; exact hr)
      rw [e]
      exact ⟨hTr, hw, Or.inr ha'⟩
  · have h2 := yFl_two (by omega) hs hF
    have h3eq : (3 : Int32) = Int32.ofNat 3 := rfl
    have h2eq : (2 : Int32) = Int32.ofNat 2 := rfl
    have h1eq : (1 : Int32) = Int32.ofNat 1 := rfl
    have hnu : yNu n (yGm n fl) = fun _ w => w := by unfold yNu; rw [if_pos (by omega)]
    have h33 : ∀ d v ar as, n - v = d → v ≤ n → (n ≠ 2 → v = 0) → (∀ u, v ≤ u → u < n → as u = 0) → (n = 2 → ∀ u, u < v → as u = 1 ∧ ar (20*u) = Int32.ofNat (1-u)) → wLX9_findRounds_33 (Int32.ofNat n) f19 K (d+1) ar as (Int32.ofNat v) := by
      intro d
      have fin : ∀ ar as, (∀ u, u < n → n ≠ 2 → as u = 0) → (n = 2 → ∀ u, u < n → as u = 1 ∧ ar (20*u) = Int32.ofNat (1-u)) → K (f19, ar, as) := by
        intro ar as q1 q2
        refine hK f19 ar as (fun hh => absurd hh h3) (fun v hv => ?_)
        by_cases c : n = 2
        · subst c
          have hG : ∀ w, yGm 2 fl v w = true ↔ w = 1 - v := by
            intro w; rw [h2 v w]; omega
          have hone : yNb 32 (yGm 2 fl v) = 1 := by
            have e1 : yNb 32 (yGm 2 fl v) = yNb 32 (fun w => decide (w = 1 - v)) := by
              apply yNb_congr
              intro i _
              rw [Bool.eq_iff_iff, hG i, decide_eq_true_eq]
            rw [e1]
            rcases (by omega : v = 0 ∨ v = 1) with c | c <;> subst c <;> decide
          obtain ⟨b1, b2⟩ := q2 rfl v hv
          refine ⟨by rw [b1, hone]; rfl, fun w0 hw0 i hi => ?_⟩
          rw [hone] at hi
          have : i = 0 := by omega
          subst this
          have hw : w0 = 1 - v := (hG w0).1 hw0.1
          rw [Nat.add_zero, b2, hw]; rfl
        · have hno : ∀ w, yGm n fl v w = false := by
            intro w
            cases e : yGm n fl v w with
            | false => rfl
            | true => have := (h2 v w).1 e; omega
          have h0 : yNb 32 (yGm n fl v) = 0 := by
            have e1 : yNb 32 (yGm n fl v) = yNb 32 (fun _ => false) := by
              apply yNb_congr; intro i _; exact hno i
            rw [e1]; decide
          rw [h0]
          exact ⟨by rw [q1 v hv c]; rfl, fun w0 hw0 i hi => absurd hi (Nat.not_lt_zero _)⟩
      induction d with
      | zero =>
        intro v ar as hd hv qz q1 q2
        have : v = n := by omega
        subst this
        unfold wLX9_findRounds_33
        refine ⟨fun _ => fin ar as (fun u hu c => by have := qz c; omega) q2, fun hh => ?_⟩
        exfalso; apply hh; rw [yn_le (by omega) (by omega)]; omega
      | succ d ih =>
        intro v ar as hd hv qz q1 q2
        have ev : Int32.ofNat v + 1 = Int32.ofNat (v+1) := yn_add v 1
        unfold wLX9_findRounds_33
        rw [ev, h2eq, yn_inj (by omega) (by omega)]
        refine ⟨fun hh => ?_, fun _ => ⟨fun c => fin ar as (fun u hu _ => q1 u (by omega) hu) (fun c' => absurd c' c), fun c => ?_⟩⟩
        · exfalso; rw [yn_le (by omega) (by omega)] at hh; omega
        · rw [yn_20', yn_nat (by omega), yn_nat (by omega), h1eq, yn_sub (by omega)]
          refine ⟨yn_in (by omega) (by omega), fun g60 h60 => ⟨yn_in (by omega) (by omega), fun g67 h67 => ih (v+1) g60 g67 (by omega) (by omega) (fun hh => absurd c hh) (fun u hu1 hu2 => ?_) (fun _ u hu => ?_)⟩⟩
          · rw [h67, yupd_ne _ _ _ _ (by omega)]; exact q1 u (by omega) hu2
          · rw [h60, h67]
            by_cases e : u = v
            · rw [e, yupd_same, yupd_same]; exact ⟨rfl, rfl⟩
            · rw [yupd_ne _ _ _ _ e, yupd_ne _ _ _ _ (by omega)]; exact q2 c u (by omega)
    have h2l : ∀ d v as, n - v = d → v ≤ n → (∀ u, u < v → as u = 0) → wLX9_findRounds_2 (Int32.ofNat n) i1 i2 i3 i4 i5 x2 i7 i8 i9 i10 i11 i12 i13 i14 i15 i16 i17 fl f19 f20 x16 K (d+1) as (Int32.ofNat v) := by
      intro d
      induction d with
      | zero =>
        intro v as hd hv q
        unfold wLX9_findRounds_2
        refine ⟨fun _ => ⟨fun hh => ?_, fun _ => ⟨_, h33 (n-0) 0 f20 as rfl (by omega) (fun _ => rfl) (fun u _ hu => q u (by omega)) (fun _ u hu => absurd hu (Nat.not_lt_zero _))⟩⟩, fun hh => ?_⟩
        · exfalso; rw [h3eq, yn_le (by omega) (by omega)] at hh; omega
        · exfalso; apply hh; rw [yn_le (by omega) (by omega)]; omega
      | succ d ih =>
        intro v as hd hv q
        have ev : Int32.ofNat v + 1 = Int32.ofNat (v+1) := yn_add v 1
        unfold wLX9_findRounds_2
        rw [ev, yn_nat (by omega)]
        refine ⟨fun hh => ?_, fun _ => ⟨yn_in (by omega) (by omega), fun g hg => ih (v+1) g (by omega) (by omega) (fun u hu => ?_)⟩⟩
        · exfalso; rw [yn_le (by omega) (by omega)] at hh; omega
        · rw [hg]
          by_cases c : u = v
          · rw [c, yupd_same]
          · rw [yupd_ne _ _ _ _ c]; exact q u (by omega)
    unfold wX9_findRounds
    exact ⟨_, h2l (n-0) 0 f21 rfl (by omega) (fun u hu => absurd hu (Nat.not_lt_zero _))⟩

-- places
noncomputable def yPos (n : Nat) (G : Nat → Nat → Bool) (v : Nat) : Nat × Nat :=
  if n < 3 then (v, 0) else Classical.epsilon (fun p : Nat × Nat => yXY n G (yNu n G) 0 (yLst G 0) (yNu n G 0 (yLst G 0)) v p.1 p.2)

def yPlc (n : Nat) (G : Nat → Nat → Bool) (xs ys : Nat → Int32) : Prop :=
  ∀ v, v < n → (xs v = Int32.ofNat (yPos n G v).1 ∧ ys v = Int32.ofNat (yPos n G v).2) ∧ (yPos n G v).1 ≤ 60 ∧ (yPos n G v).2 ≤ 60

theorem yXr_le {n F : Nat} {g : Nat → Nat → Bool} {fo ρ : Nat → Nat → Nat} {a b c v x : Nat} (h : yTg n g F fo ρ) (hab : g a b = true) (hc : ρ a b = c) (hx : yXr g ρ a b c v x) : x ≤ 60 := by
  obtain ⟨T, s, rm, kk, pp, ts, pos, hr, hT, h1, h2, h3, h4⟩ := hx
  have h5 := yRun_size h hab hc hr (Nat.le_refl T)
  have hn := h.2.1
  have hle : ∀ (p : Nat → Bool) m, yNb m p ≤ m := by
    intro p m
    induction m with
    | zero => exact Nat.le_refl _
    | succ m ih => simp only [yNb]; split <;> omega
  have a1 := hle (fun t => decide (pos t < kk t)) T
  have a2 := hle (fun t => decide (kk t = pos t)) T
  omega

theorem yXY_le {n F : Nat} {g : Nat → Nat → Bool} {fo ρ : Nat → Nat → Nat} {a b c v x y : Nat} (h : yTg n g F fo ρ) (hab : g a b = true) (hc : ρ a b = c) (hx : yXY n g ρ a b c v x y) : x ≤ 60 ∧ y ≤ 60 := by
  have hn := h.2.1
  rcases hx with ⟨_, h1, h2⟩ | ⟨_, _, h1, h2⟩ | ⟨_, _, _, h1, h2⟩ | ⟨_, _, _, h1, h2⟩
  · omega
  · omega
  · omega
  · exact ⟨yXr_le h hab hc h1, yXr_le (yTg_rev h) (by rw [h.2.2.1.2]; exact hab) hc h2⟩

theorem yPlc_of {n F : Nat} {G : Nat → Nat → Bool} {fo : Nat → Nat → Nat} (hT : yTg n G F fo (yNu n G)) {m : Nat} (hm : yLw G 0 m) {xs ys : Nat → Int32} (h : ∀ v, v < n → ∃ x y, yXY n G (yNu n G) 0 m (yNu n G 0 m) v x y ∧ xs v = Int32.ofNat x ∧ ys v = Int32.ofNat y) : yPlc n G xs ys := by
  intro v hv
  obtain ⟨x, y, a1, a2, a3⟩ := h v hv
  have hn3 := hT.1
  have hsp := Classical.epsilon_spec (p := fun p : Nat × Nat => yXY n G (yNu n G) 0 (yLst G 0) (yNu n G 0 (yLst G 0)) v p.1 p.2) ⟨(x, y), by rw [yLst_eq hm]; exact a1⟩
  have e : yPos n G v = Classical.epsilon (fun p : Nat × Nat => yXY n G (yNu n G) 0 (yLst G 0) (yNu n G 0 (yLst G 0)) v p.1 p.2) := by
    unfold yPos; rw [if_neg (by omega)]
  rw [← e] at hsp
  rw [yLst_eq hm] at hsp
  obtain ⟨b1, b2⟩ := yXY_fun hT hm.1 rfl a1 hsp
  have hb := yXY_le hT hm.1 rfl hsp
  rw [a2, a3, b1, b2]
  exact ⟨⟨rfl, rfl⟩, hb⟩

theorem w9_drawing {n : Nat} (hn : n ≤ 20) {fl fa fb : Nat → Int32} {x2 : Int32} (hF : 3 ≤ n → ∃ F, x2 = Int32.ofNat F ∧ yFar n (yGm n fl) F fa fb) {ar as : Nat → Int32} (hR : yRnds n (yGm n fl) (yNu n (yGm n fl)) ar as)
    (i1 i2 i3 i4 i5 i7 i8 i9 i10 i11 i12 i13 i14 i15 i16 i17 : Int32) (f19 f20 f21 f24 f25 f26 f27 f28 f29 : Nat → Int32)
    (K : (Int32 × Int32 × Int32 × Int32 × Int32 × (Nat → Int32) × (Nat → Int32) × (Nat → Int32) × (Nat → Int32) × (Nat → Int32) × (Nat → Int32) × (Nat → Int32) × (Nat → Int32) × (Nat → Int32)) → Prop)
    (hK : ∀ xs ys x0 x1 x2 x3 x4 x5 x6 x7 x8 x9 w o, yPlc n (yGm n fl) xs ys → K (x0, x1, x2, x3, x4, x5, x6, x7, x8, x9, xs, ys, w, o)) :
    wX9_findDrawing (Int32.ofNat n) i1 i2 i3 i4 i5 x2 i7 i8 i9 i10 i11 i12 i13 i14 i15 i16 i17 fb f19 f20 f21 ar as f24 f25 f26 f27 f28 f29 fa fl K := by
  by_cases h3 : 3 ≤ n
  · obtain ⟨F, e2, fo, hT, hW, hA⟩ := hF h3
    obtain ⟨m, hm, _⟩ := yTg_nb hT (by omega : 0 < n)
    subst e2
    exact w9_findDrawing3 hT hW hm hA hR _ _ _ _ _ _ _ _ _ _ _ _ _ _ _ _ _ _ _ _ _ _ _ _ _ K (fun xs ys x0 x1 x2 x3 x4 x5 x6 x7 x8 x9 w o h => hK xs ys x0 x1 x2 x3 x4 x5 x6 x7 x8 x9 w o (yPlc_of hT hm h))
  · have h3eq : (3 : Int32) = Int32.ofNat 3 := rfl
    have key : ∀ d v ys xs, n - v = d → v ≤ n → (∀ u, u < v → xs u = Int32.ofNat u ∧ ys u = 0) → wLX9_findDrawing_10 (Int32.ofNat n) i12 i13 i14 i15 i16 f19 f20 f21 f24 f25 f28 f29 K (d+1) ys xs (Int32.ofNat v) := by
      intro d
      induction d with
      | zero =>
        intro v ys xs hd hv q
        unfold wLX9_findDrawing_10
        refine ⟨fun _ => hK xs ys _ _ _ _ _ _ _ _ _ _ _ _ (fun u hu => ?_), fun hh => ?_⟩
        · have e : yPos n (yGm n fl) u = (u, 0) := by unfold yPos; rw [if_pos (by omega)]
          rw [e]; exact ⟨q u (by omega), by show u ≤ 60; omega, by show 0 ≤ 60; omega⟩
        · exfalso; apply hh; rw [yn_le (by omega) (by omega)]; omega
      | succ d ih =>
        intro v ys xs hd hv q
        have ev : Int32.ofNat v + 1 = Int32.ofNat (v+1) := yn_add v 1
        unfold wLX9_findDrawing_10
        rw [ev, yn_nat (by omega)]
        refine ⟨fun hh => ?_, fun _ => ⟨yn_in (by omega) (by omega), fun g hg => ⟨yn_in (by omega) (by omega), fun g2 hg2 => ih (v+1) g2 g (by omega) (by omega) (fun u hu => ?_)⟩⟩⟩
        · exfalso; rw [yn_le (by omega) (by omega)] at hh; omega
        · rw [hg, hg2]
          by_cases c : u = v
          · rw [c, yupd_same, yupd_same]; exact ⟨rfl, rfl⟩
          · rw [yupd_ne _ _ _ _ c, yupd_ne _ _ _ _ c]; exact q u (by omega)
    unfold wX9_findDrawing
    refine ⟨fun hh => ?_, fun _ => ⟨_, key (n-0) 0 f27 f26 rfl (by omega) (fun u hu => absurd hu (Nat.not_lt_zero _))⟩⟩
    exfalso; rw [h3eq, yn_le (by omega) (by omega)] at hh; omega

-- the class's drawing
theorem w0_lay {n : Nat} (hn : n ≤ 20) {sm fl o : Nat → Int32} (hs : ySg n (yGm n sm)) (hp : yPln n (yGm n sm)) (hF : yFl n (yGm n sm) (yGm n fl)) (ho : ∀ v w, yGm n fl v w = true → o (20*v+w) = Int32.ofNat (yNu n (yGm n fl) v w))
    (i0 i1 i2 i3 : Int32) (f4 f5 f9 f10 f11 f12 f13 f14 f15 : Nat → Int32)
    (K : (Int32 × Int32 × Int32 × Int32 × (Nat → Int32) × (Nat → Int32) × (Nat → Int32) × (Nat → Int32) × (Nat → Int32) × (Nat → Int32) × (Nat → Int32) × (Nat → Int32) × (Nat → Int32)) → Prop)
    (hK : ∀ xs ys, yPlc n (yGm n fl) xs ys → ∀ x0 x1 x2 x3 x6 x7 x8 x9 x10 x11 x12, K (x0, x1, x2, x3, xs, ys, x6, x7, x8, x9, x10, x11, x12)) :
    wX0_lay i0 i1 i2 i3 f4 f5 (Int32.ofNat n) fl o f9 f10 f11 f12 f13 f14 f15 K := by
  by_cases h3 : 3 ≤ n
  · obtain ⟨F, fo, ρ, hT, hW⟩ := yTg_ex h3 hn hs hp hF
    have e := yNu_eq hT hW
    have hT' := yTg_norm hT
    rw [← e] at hT'
    obtain ⟨m, hm, _⟩ := yTg_nb hT (by omega : 0 < n)
    exact w0_lay3 hT' hm ho _ _ _ _ _ _ _ _ _ _ _ _ _ K (fun xs ys h => hK xs ys (yPlc_of hT' hm h))
  · have h3eq : (3 : Int32) = Int32.ofNat 3 := rfl
    have h2eq : (2 : Int32) = Int32.ofNat 2 := rfl
    have hpos : ∀ u, yPos n (yGm n fl) u = (u, 0) := fun u => by unfold yPos; rw [if_pos (by omega)]
    unfold wX0_lay
    refine w_fill20 0 f4 _ (fun u5 h5 => w_fill20 0 f5 _ (fun u13 h13 => ?_))
    rw [h2eq, h3eq, yn_inj (by omega) (by omega), yn_lt (by omega) (by omega)]
    refine ⟨fun c => ⟨fun _ => hK u5 u13 (fun v hv => ?_) _ _ _ _ _ _ _ _ _ _ _, fun hh => absurd hh (by omega)⟩, fun c g hg => ⟨fun _ => hK g u13 (fun v hv => ?_) _ _ _ _ _ _ _ _ _ _ _, fun hh => absurd hh (by omega)⟩⟩
    · rw [hpos, h5 v (by omega), h13 v (by omega)]
      have : v = 0 := by omega
      subst this; exact ⟨⟨rfl, rfl⟩, by show 0 ≤ 60; omega, by show 0 ≤ 60; omega⟩
    · rw [hpos, h13 v (by omega), hg]
      have n1 : Int32.toNatClampNeg (1 : Int32) = 1 := yn_nat (by omega : (1 : Nat) < 2147483648)
      rw [n1]
      refine ⟨⟨?_, rfl⟩, by show v ≤ 60; omega, by show 0 ≤ 60; omega⟩
      by_cases e : v = 1
      · rw [e, yupd_same]; rfl
      · rw [yupd_ne _ _ _ _ e, h5 v (by omega)]
        have : v = 0 := by omega
        subst this; rfl


-- an edge that stands in no even set
theorem yLab_pend {X X' : Nat → Bool} {d : Nat} (h : yLab X') (hs : ∀ e, e < 1024 → X e = true → e ≠ d → X' e = true) (hn : ∀ y : Nat → Bool, (∀ e, e < 1024 → y e = true → X e = true) → yEv 1024 yI y → y d = false) (hd : d < 1024) : yLab X := by
  have h0 : yLab (fun e => X e && decide (e ≠ d)) := yLab_sub h (fun e he hh => by
    rw [Bool.and_eq_true, decide_eq_true_eq] at hh; exact hs e he hh.1 hh.2)
  obtain ⟨lab, hA, hB⟩ := h0
  refine ⟨fun b e => if e = d then 0 else lab b e, fun c => ?_, fun y hy hev => ?_⟩
  · refine yEv_congr 1024 yI _ _ (fun e he => ?_) (hA c)
    by_cases q : e = d
    · simp [q]
    · simp [q]
  · have hyd := hn y hy hev
    obtain ⟨c, hc⟩ := hB y (fun e he hh => by
      rw [Bool.and_eq_true, decide_eq_true_eq]
      refine ⟨hy e he hh, fun q => ?_⟩
      rw [q, hyd] at hh; cases hh) hev
    refine ⟨c, fun e he hx => ?_⟩
    by_cases q : e = d
    · rw [q, hyd]; simp
    · have := hc e he (by rw [Bool.and_eq_true, decide_eq_true_eq]; exact ⟨hx, q⟩)
      rw [this]; simp [q]

-- a round that stands apart
theorem yLab_apart {X X' D : Nat → Bool} (h : yLab X') (hs : ∀ e, e < 1024 → X e = true → D e = false → X' e = true) (hDX : ∀ e, e < 1024 → D e = true → X e = true) (hDe : yEv 1024 yI D)
    (hn : ∀ y : Nat → Bool, (∀ e, e < 1024 → y e = true → X e = true) → yEv 1024 yI y → ∃ b : Bool, ∀ e, e < 1024 → D e = true → y e = b) : yLab X := by
  have h0 : yLab (fun e => X e && !D e) := yLab_sub h (fun e he hh => by
    rw [Bool.and_eq_true] at hh; exact hs e he hh.1 (by have := hh.2; revert this; cases D e <;> simp))
  obtain ⟨lab, hA, hB⟩ := h0
  refine ⟨fun b e => if D e = true then (if b = true then 1 else 0) else lab b e + 1, fun c => ?_, fun y hy hev => ?_⟩
  · have h1 := hA (fun l => c (l+1))
    have h2 : yEv 1024 yI (fun e => D e && Bool.xor (c 1) (c 0)) := by
      intro v
      have := hDe v
      cases q : Bool.xor (c 1) (c 0) with
      | false => apply yX_false; intro i _; simp
      | true => rw [← this]; apply yX_congr; intro i _; simp
    intro v
    have e1 := h1 v
    have e2 := h2 v
    have := yX_xor 1024 (fun e => (X e && !D e && Bool.xor (c (lab true e + 1)) (!false && c (lab false e + 1))) && yI e v) (fun e => (D e && Bool.xor (c 1) (c 0)) && yI e v)
    rw [e2] at this
    have e1' : yX 1024 (fun e => (X e && !D e && Bool.xor (c (lab true e + 1)) (!false && c (lab false e + 1))) && yI e v) = false := e1
    rw [e1'] at this
    refine Eq.trans (yX_congr 1024 _ _ (fun e he => ?_)) this
    dsimp only
    cases hD : D e with
    | false => simp
    | true => rw [hDX e he hD]; simp
  · obtain ⟨b, hb⟩ := hn y hy hev
    have hy0 : yEv 1024 yI (fun e => Bool.xor (y e) (b && D e)) := by
      intro v
      have e1 := hev v
      have e2 := hDe v
      cases b with
      | false =>
        refine Eq.trans (yX_congr 1024 _ _ (fun e he => ?_)) e1
        dsimp only; simp
      | true =>
        have := yX_xor 1024 (fun e => y e && yI e v) (fun e => D e && yI e v)
        rw [e1, e2] at this
        refine Eq.trans (yX_congr 1024 _ _ (fun e he => ?_)) this
        dsimp only
        cases y e <;> cases D e <;> cases yI e v <;> rfl
    obtain ⟨c, hc⟩ := hB (fun e => Bool.xor (y e) (b && D e)) (fun e he hh => by
      rw [Bool.and_eq_true]
      cases hD : D e with
      | true => have := hb e he hD; rw [this, hD] at hh; cases b <;> simp at hh
      | false =>
        rw [hD] at hh
        refine ⟨hy e he ?_, by simp⟩
        revert hh; cases y e <;> cases b <;> simp) hy0
    refine ⟨fun l => if l = 0 then Bool.xor b (c 0) else c (l-1), fun e he hx => ?_⟩
    cases hD : D e with
    | true =>
      rw [hb e he hD]
      have e1 : (fun b e => if D e = true then (if b = true then 1 else 0) else lab b e + 1) true e = 1 := by simp [hD]
      have e0 : (fun b e => if D e = true then (if b = true then 1 else 0) else lab b e + 1) false e = 0 := by simp [hD]
      rw [e1, e0]
      show b = Bool.xor (c 0) (Bool.xor b (c 0))
      cases b <;> cases c 0 <;> rfl
    | false =>
      have hxd : (X e && !D e) = true := by rw [hx, hD]; rfl
      have := hc e he hxd
      simp only [hD] at this ⊢
      simp at this
      rw [this]; simp


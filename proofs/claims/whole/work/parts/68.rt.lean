
section
variable {n F : Nat} {fl : Nat → Int32} {fo ρ : Nat → Nat → Nat}

-- which of the two ways round
def yWay (g : Nat → Nat → Bool) (ρ : Nat → Nat → Nat) : Prop := ∀ m, yLw g 0 m → ρ 0 m ≤ ρ m 0

theorem yLw_mask {v : Nat} (hv : v < n) {m : Nat} (h : yLw (yGm n fl) v m) (hm : m < 32) : yM (fl v) m = true ∧ ∀ i, i < m → yM (fl v) i = false := by
  have e : ∀ i, yGm n fl v i = yM (fl v) i := fun i => by unfold yGm; rw [decide_eq_true hv, Bool.true_and]
  exact ⟨by rw [← e]; exact h.1, fun i hi => by rw [← e]; exact h.2 i hi⟩

theorem w9_rounds205 (h : yTg n (yGm n fl) F fo ρ) {t77 : Nat → Int32} (ht : yFol (yGm n fl) ρ t77)
    (K : ((Nat → Int32) × (Nat → Int32) × (Nat → Int32)) → Prop) (hK : ∀ ar as, yRnds n (yGm n fl) ρ ar as → K (t77, ar, as)) :
    ∀ d v ar as, n - v = d → v ≤ n → yRnds v (yGm n fl) ρ ar as → wLX9_findRounds_205 (Int32.ofNat n) fl t77 K (d+1) ar as (Int32.ofNat v) := by
  have hn := h.2.1
  intro d
  induction d with
  | zero =>
    intro v ar as hd hv hR
    have : v = n := by omega
    subst this
    unfold wLX9_findRounds_205
    refine ⟨fun _ => hK ar as hR, fun hh => ?_⟩
    exfalso; apply hh; rw [yn_le (by omega) (by omega)]; omega
  | succ d ih =>
    intro v ar as hd hv hR
    obtain ⟨m, hm, hmn⟩ := yTg_nb h (by omega : v < n)
    have hmask := yLw_mask (by omega) hm (by omega)
    unfold wLX9_findRounds_205
    rw [yn_nat (by omega)]
    refine ⟨fun hh => ?_, fun _ => ⟨yn_in (by omega) (by omega), ?_⟩⟩
    · exfalso; rw [yn_le (by omega) (by omega)] at hh; omega
    · refine w9_least (by omega) hmask.1 hmask.2 _ ?_
      obtain ⟨c1, _⟩ := yTg_cyc h hm.1
      refine ⟨_, w9_rounds229 h ht hm as K _ ar ?_ (yNb 32 (yGm n fl v) - 1 - 0) 0 ar rfl (by omega) (fun i hi => by omega) (fun _ _ _ _ => rfl)⟩
      intro ar' h1 h2
      refine ih (v+1) ar' _ (by omega) (by omega) ?_
      intro u hu
      by_cases c : u = v
      · subst c
        refine ⟨yupd_same _ _ _, ?_⟩
        intro w0 hw0 i hi
        rw [yLw_uniq hw0 hm]; exact h1 i hi
      · obtain ⟨r1, r2⟩ := hR u (by omega)
        refine ⟨by rw [yupd_ne _ _ _ _ c]; exact r1, ?_⟩
        intro w0 hw0 i hi
        have := yTg_deg h u
        rw [h2 u i (by omega) (by omega)]
        exact r2 w0 hw0 i hi

theorem w9_rounds205_1 (h : yTg n (yGm n fl) F fo ρ) {t77 : Nat → Int32} (ht : yFol (yGm n fl) ρ t77)
    (i1 i2 i3 i4 i5 i6 i7 i8 i9 i10 i11 i12 i13 i14 i15 i16 i17 : Int32)
    (K : ((Nat → Int32) × (Nat → Int32) × (Nat → Int32)) → Prop) (hK : ∀ ar as, yRnds n (yGm n fl) (fun a b => ρ b a) ar as → K (t77, ar, as)) :
    ∀ d v ar as, n - v = d → v ≤ n → yRnds v (yGm n fl) (fun a b => ρ b a) ar as → wLX9_findRounds_205_1 (Int32.ofNat n) i1 i2 i3 i4 i5 i6 i7 i8 i9 i10 i11 i12 i13 i14 i15 i16 i17 fl t77 K (d+1) ar as (Int32.ofNat v) := by
  have hn := h.2.1
  have h' := yTg_rev h
  intro d
  induction d with
  | zero =>
    intro v ar as hd hv hR
    have : v = n := by omega
    subst this
    unfold wLX9_findRounds_205_1
    refine ⟨fun _ => hK ar as hR, fun hh => ?_⟩
    exfalso; apply hh; rw [yn_le (by omega) (by omega)]; omega
  | succ d ih =>
    intro v ar as hd hv hR
    obtain ⟨m, hm, hmn⟩ := yTg_nb h (by omega : v < n)
    have hmask := yLw_mask (by omega) hm (by omega)
    unfold wLX9_findRounds_205_1
    rw [yn_nat (by omega)]
    refine ⟨fun hh => ?_, fun _ => ⟨yn_in (by omega) (by omega), ?_⟩⟩
    · exfalso; rw [yn_le (by omega) (by omega)] at hh; omega
    · refine w9_least (by omega) hmask.1 hmask.2 _ ?_
      obtain ⟨c1, _⟩ := yTg_cyc h' hm.1
      refine ⟨_, w9_rounds229_1 h ht hm as _ i1 i2 i3 i4 i5 i6 i7 i8 i9 i10 i11 i12 i13 i14 i15 i16 i17 K _ ar ?_ (yNb 32 (yGm n fl v) - 1 - 0) 0 ar rfl (by omega) (fun i hi => by omega) (fun _ _ _ _ => rfl)⟩
      intro ar' h1 h2
      refine ih (v+1) ar' _ (by omega) (by omega) ?_
      intro u hu
      by_cases c : u = v
      · subst c
        refine ⟨yupd_same _ _ _, ?_⟩
        intro w0 hw0 i hi
        rw [yLw_uniq hw0 hm]; exact h1 i hi
      · obtain ⟨r1, r2⟩ := hR u (by omega)
        refine ⟨by rw [yupd_ne _ _ _ _ c]; exact r1, ?_⟩
        intro w0 hw0 i hi
        have := yTg_deg h u
        rw [h2 u i (by omega) (by omega)]
        exact r2 w0 hw0 i hi

theorem w9_findRounds3 (h : yTg n (yGm n fl) F fo ρ) {fa fb : Nat → Int32} (ha : yTa (yGm n fl) F fo ρ fa fb)
    (i1 i2 i3 i4 i5 i7 i8 i9 i10 i11 i12 i13 i14 i15 i16 i17 : Int32) (f19 f20 f21 : Nat → Int32)
    (K : ((Nat → Int32) × (Nat → Int32) × (Nat → Int32)) → Prop)
    (hK1 : yWay (yGm n fl) ρ → ∀ t ar as, yRnds n (yGm n fl) ρ ar as → K (t, ar, as))
    (hK2 : yWay (yGm n fl) (fun a b => ρ b a) → ∀ t ar as, yRnds n (yGm n fl) (fun a b => ρ b a) ar as → K (t, ar, as)) :
    wX9_findRounds (Int32.ofNat n) i1 i2 i3 i4 i5 (Int32.ofNat F) i7 i8 i9 i10 i11 i12 i13 i14 i15 i16 i17 fl f19 f20 f21 fa K := by
  have hn := h.2.1
  have hn3 := h.1
  have hF : F + 4 = 2 * n := h.2.2.2.2.2.2.2.2
  have h0eq : (0 : Int32) = Int32.ofNat 0 := rfl
  have n0 : Int32.toNatClampNeg (0 : Int32) = 0 := yn_nat (by omega : (0 : Nat) < 2147483648)
  obtain ⟨m, hm, hmn⟩ := yTg_nb h (by omega : 0 < n)
  have hmask := yLw_mask (by omega) hm (by omega)
  -- the last loop of the first node
  have h166 : ∀ t77, yFol (yGm n fl) ρ t77 → ∀ as0, ∀ d i, yNb 32 (yGm n fl 0) - 1 - i = d → i ≤ yNb 32 (yGm n fl 0) - 1 →
      wLX9_findRounds_166 (Int32.ofNat n) i1 i2 i3 i4 i5 (Int32.ofNat F) i7 i8 i9 i10 i11 i12 i13 i14 i15 i16 i17 fl f20 as0 t77 (Int32.ofNat m) K (d+1) (Int32.ofNat (yIt ρ 0 m i)) := by
    intro t77 ht as0
    obtain ⟨c1, c2, c3, c4, c5⟩ := yTg_cyc h hm.1
    have hdg := yTg_deg h 0
    have hti : ∀ x, yGm n fl 0 x = true → t77 x = Int32.ofNat (ρ 0 x) := by
      intro x hx
      have := ht 0 x hx
      rw [show 21 * 0 + x = x by omega] at this; exact this
    intro d
    induction d with
    | zero =>
      intro i hd hi
      have hi' : i + 1 = yNb 32 (yGm n fl 0) := by omega
      have gi := yTg_gr h (c2 i)
      have gm := yTg_gr h hm.1
      have hback : ρ 0 (yIt ρ 0 m i) = m := by
        have : yIt ρ 0 m (i+1) = m := by rw [hi']; exact c3
        exact this
      have hlast : yIt ρ 0 m i = ρ m 0 := by
        have h2 := (yTg_th h (c2 i)).2.2.2.2.1
        rw [hback] at h2; exact h2.symm
      have hth := yTg_th h hm.1
      have g2 := yTg_gr h hth.2.1
      have g3 := yTg_gr h (yTg_th h (show yGm n fl m 0 = true by rw [h.2.2.1.2]; exact hm.1)).2.1
      unfold wLX9_findRounds_166
      rw [yn_nat (by omega), yn_nat (by omega), hti _ (c2 i), hback, hti m hm.1, hlast]
      refine ⟨yn_in (by omega) (by omega), fun _ => ⟨yn_in (by omega) (by omega), fun hle => ?_, fun hgt => ?_⟩, fun hh => absurd rfl hh⟩
      · rw [yn_le (by omega) (by omega)] at hle
        refine ⟨n - 0 + 1, w9_rounds205 h ht K ?_ (n-0) 0 f20 as0 rfl (by omega) (fun v hv => by omega)⟩
        intro ar as hR
        refine hK1 ?_ _ _ _ hR
        intro m' hm'
        rw [yLw_uniq hm' hm]; exact hle
      · rw [yn_le (by omega) (by omega)] at hgt
        refine ⟨n - 0 + 1, w9_rounds205_1 h ht i1 i2 i3 i4 i5 (Int32.ofNat F) i7 i8 i9 i10 i11 i12 i13 i14 i15 i16 i17 K ?_ (n-0) 0 f20 as0 rfl (by omega) (fun v hv => by omega)⟩
        intro ar as hR
        refine hK2 ?_ _ _ _ hR
        intro m' hm'
        rw [yLw_uniq hm' hm]; show ρ m 0 ≤ ρ 0 m; omega
    | succ d ih =>
      intro i hd hi
      have gi := yTg_gr h (c2 i)
      have gi1 := yTg_gr h (c2 (i+1))
      have gm := yTg_gr h hm.1
      unfold wLX9_findRounds_166
      rw [yn_nat (by omega), hti _ (c2 i)]
      refine ⟨yn_in (by omega) (by omega), fun hh => ?_, fun _ => ⟨yn_in (by omega) (by omega), fun v182 h182 => ?_⟩⟩
      · exfalso
        have he : yIt ρ 0 m (i+1) = m := (yn_inj (by omega) (by omega)).1 hh
        have := c4 (i+1) 0 (by omega) (by omega) he
        omega
      · rw [h182]; exact ih (i+1) (by omega) (by omega)
  -- the faces
  have h77 : ∀ as0, ∀ d f t, F - f = d → f ≤ F → (∀ a b, yGm n fl a b = true → fo a b < f → t (21*a+b) = Int32.ofNat (ρ a b)) →
      wLX9_findRounds_77 (Int32.ofNat n) i1 i2 i3 i4 i5 (Int32.ofNat F) i7 i8 i9 i10 i11 i12 i13 i14 i15 i16 i17 fl f20 fa as0 K (d+1) t (Int32.ofNat f) := by
    intro as0 d
    induction d with
    | zero =>
      intro f t hd hf ht
      have : f = F := by omega
      subst this
      unfold wLX9_findRounds_77
      rw [n0]
      refine ⟨fun _ => ?_, fun hh => ?_⟩
      · refine w9_least (by omega) hmask.1 hmask.2 _ ?_
        refine ⟨_, h166 t (fun a b hab => ht a b hab (yTg_th h hab).1) as0 (yNb 32 (yGm n fl 0) - 1 - 0) 0 rfl (by omega)⟩
      · exfalso; apply hh; rw [yn_le (by omega) (by omega)]; omega
    | succ d ih =>
      intro f t hd hf ht
      obtain ⟨a, b, hab, hfo, a0, a1, a2, _⟩ := ha f (by omega)
      have th := yTg_th h hab
      have g1 := yTg_gr h hab; have g2 := yTg_gr h th.2.1; have g3 := yTg_gr h th.2.2.1
      have ef : Int32.ofNat f + 1 = Int32.ofNat (f+1) := yn_add f 1
      unfold wLX9_findRounds_77
      refine ⟨fun hh => ?_, fun _ => ⟨4, ?_⟩⟩
      · exfalso; rw [yn_le (by omega) (by omega)] at hh; omega
      -- three steps
      have q1 : ((0 : Int32) + 1) - ((0 : Int32) + 1) / 3 * 3 = Int32.ofNat 1 := by decide
      have q2 : ((0 : Int32) + 2) - ((0 : Int32) + 2) / 3 * 3 = Int32.ofNat 2 := by decide
      have q3 : (((0 : Int32) + 1) + 1) - (((0 : Int32) + 1) + 1) / 3 * 3 = Int32.ofNat 2 := by decide
      have q4 : (((0 : Int32) + 1) + 2) - (((0 : Int32) + 1) + 2) / 3 * 3 = Int32.ofNat 0 := by decide
      have q5 : ((((0 : Int32) + 1) + 1) + 1) - ((((0 : Int32) + 1) + 1) + 1) / 3 * 3 = Int32.ofNat 0 := by decide
      have q6 : ((((0 : Int32) + 1) + 1) + 2) - ((((0 : Int32) + 1) + 1) + 2) / 3 * 3 = Int32.ofNat 1 := by decide
      have z0 : (21 : Int32) * Int32.ofNat f + 0 = Int32.ofNat (21*f) := by
        have := yn_21 f 0; simpa using this
      have z1 : (21 : Int32) * Int32.ofNat f + (0 + 1) = Int32.ofNat (21*f+1) := yn_21 f 1
      have z2 : (21 : Int32) * Int32.ofNat f + (0 + 1 + 1) = Int32.ofNat (21*f+2) := yn_21 f 2
      have w0 : (21 : Int32) * Int32.ofNat f + Int32.ofNat 0 = Int32.ofNat (21*f) := by
        have := yn_21 f 0; simpa using this
      have no3 : ∀ x : Nat, x < 3 → ¬ (3 : Int32) ≤ Int32.ofNat x := by
        intro x hx hh
        have e3 : (3 : Int32) = Int32.ofNat 3 := rfl
        rw [e3, yn_le (by omega) (by omega)] at hh; omega
      unfold wLX9_findRounds_87
      rw [q1, q2, z0, yn_21 f 1, yn_21 f 2, yn_nat (by omega), yn_nat (by omega), yn_nat (by omega), a0, a1, a2, yn_21 a b, yn_nat (by omega)]
      refine ⟨fun hh => absurd hh (no3 0 (by omega)), fun _ => ⟨yn_in (by omega) (by omega), yn_in (by omega) (by omega), yn_in (by omega) (by omega), yn_in (by omega) (by omega), fun t1 ht1 => ?_⟩⟩
      unfold wLX9_findRounds_87
      rw [q3, q4, z1, yn_21 f 2, w0, yn_nat (by omega), yn_nat (by omega), yn_nat (by omega), a0, a1, a2, yn_21 b (ρ a b), yn_nat (by omega)]
      refine ⟨fun hh => absurd hh (no3 1 (by omega)), fun _ => ⟨yn_in (by omega) (by omega), yn_in (by omega) (by omega), yn_in (by omega) (by omega), yn_in (by omega) (by omega), fun t2 ht2 => ?_⟩⟩
      unfold wLX9_findRounds_87
      rw [q5, q6, z2, yn_21 f 1, w0, yn_nat (by omega), yn_nat (by omega), yn_nat (by omega), a0, a1, a2, yn_21 (ρ a b) a, yn_nat (by omega)]
      refine ⟨fun hh => absurd hh (no3 2 (by omega)), fun _ => ⟨yn_in (by omega) (by omega), yn_in (by omega) (by omega), yn_in (by omega) (by omega), yn_in (by omega) (by omega), fun t3 ht3 => ?_⟩⟩
      unfold wLX9_findRounds_87
      refine ⟨fun _ => ?_, fun hh => absurd (by decide) hh⟩
      rw [ef]
      refine ih (f+1) t3 (by omega) (by omega) ?_
      intro x y hxy hlt
      have gx := yTg_gr h hxy
      by_cases c3 : x = ρ a b ∧ y = a
      · rw [ht3, c3.1, c3.2, yupd_same, th.2.2.2.2.1]
      · rw [ht3, yupd_ne _ _ _ _ (by omega), ht2]
        by_cases c2 : x = b ∧ y = ρ a b
        · rw [c2.1, c2.2, yupd_same, th.2.2.2.1]
        · rw [yupd_ne _ _ _ _ (by omega), ht1]
          by_cases c1 : x = a ∧ y = b
          · rw [c1.1, c1.2, yupd_same]
          · rw [yupd_ne _ _ _ _ (by omega)]
            apply ht x y hxy
            by_cases cf : fo x y = f
            · exfalso
              rcases yTg_fo h hab hxy (cf.trans hfo.symm) with d | d | d
              · exact c1 d
              · exact c2 d
              · exact c3 d
            · omega
  have h2 : ∀ d v t, n - v = d → v ≤ n → wLX9_findRounds_2 (Int32.ofNat n) i1 i2 i3 i4 i5 (Int32.ofNat F) i7 i8 i9 i10 i11 i12 i13 i14 i15 i16 i17 fl f19 f20 fa K (d+1) t (Int32.ofNat v) := by
    intro d
    induction d with
    | zero =>
      intro v t hd hv
      unfold wLX9_findRounds_2
      refine ⟨fun _ => ⟨fun _ => ?_, fun hh => ?_⟩, fun hh => ?_⟩
      · rw [h0eq]
        exact ⟨F - 0 + 1, h77 t (F-0) 0 f19 rfl (by omega) (fun a b _ hh => by omega)⟩
      · exfalso; apply hh
        have e3 : (3 : Int32) = Int32.ofNat 3 := rfl
        rw [e3, yn_le (by omega) (by omega)]; omega
      · exfalso; apply hh; rw [yn_le (by omega) (by omega)]; omega
    | succ d ih =>
      intro v t hd hv
      have e1 : Int32.ofNat v + 1 = Int32.ofNat (v+1) := yn_add v 1
      unfold wLX9_findRounds_2
      rw [e1, yn_nat (by omega)]
      refine ⟨fun hh => ?_, fun _ => ⟨yn_in (by omega) (by omega), fun g16 _ => ih (v+1) g16 (by omega) (by omega)⟩⟩
      exfalso; rw [yn_le (by omega) (by omega)] at hh; omega
  unfold wX9_findRounds
  exact ⟨n - 0 + 1, h2 (n-0) 0 f21 rfl (by omega)⟩
end


-- what is reached from s over nodes of w
def yRch (f : Nat → Int32) (w : Int32) (s x : Nat) : Prop :=
  ∀ U : Nat → Prop, U s → (∀ p q, U p → p < 20 → yM (f p) q = true → yM w q = true → U q) → U x

theorem w_reached {f : Nat → Int32} {w : Int32} {s : Nat} (hs : s < 20) (hw : ∀ q, yM w q = true → q < 20) (K : Int32 → Unit → Prop)
    (hK : ∀ R, (∀ x, x < 32 → (yM R x = true ↔ yRch f w s x)) → K R ()) : wX8_reached f (Int32.ofNat s) w K := by
  have key : ∀ d t seen opn, 21 - t = d → (∀ x, x < 32 → yM opn x = true → yM seen x = true) → (∀ x, x < 32 → yM seen x = true → x < 20 ∧ yRch f w s x) → yM seen s = true →
      (∀ p q, p < 20 → yM seen p = true → yM opn p = false → yM (f p) q = true → yM w q = true → yM seen q = true) →
      yNb 32 (fun x => yM seen x && !yM opn x) = t → wLX8_reached_10 f w K (d+1) seen opn (Int32.ofNat t) := by
    intro d
    induction d with
    | zero =>
      intro t seen opn hd h1 h2 h3 h4 h5
      exfalso
      have : yNb 32 (fun x => yM seen x && !yM opn x) ≤ 20 := by
        have := yNb_sub 32 (fun x => yM seen x && !yM opn x) (fun x => decide (x < 20)) (by
          intro x hx hh
          rw [Bool.and_eq_true] at hh
          exact decide_eq_true (h2 x hx hh.1).1)
        rw [yNb_ext 32 20 (by omega) (fun x => decide (x < 20)) (fun i _ => rfl)] at this
        exact this
      omega
    | succ d ih =>
      intro t seen opn hd h1 h2 h3 h4 h5
      have e1 : Int32.ofNat t + 1 = Int32.ofNat (t+1) := yn_add t 1
      have e21 : (21 : Int32) = Int32.ofNat 21 := rfl
      unfold wLX8_reached_10
      rw [e1]
      refine ⟨fun hh => ?_, fun _ => ⟨fun hz => ?_, fun hnz => ?_⟩⟩
      · exfalso; rw [e21, yn_le (by omega) (by omega)] at hh; omega
      · apply hK
        intro x hx
        constructor
        · intro hh; exact (h2 x hx hh).2
        · intro hr
          have := hr (fun y => yM seen y = true) h3 (by
            intro p q hp hp20 hf hwq
            exact h4 p q hp20 hp (by rw [hz, yM_zero]) hf hwq)
          exact this
      · obtain ⟨v, hv, hvo, hvl⟩ := yM_least hnz
        have hvs := h1 v hv hvo
        have hv20 := (h2 v hv hvs).1
        refine w_lowest hv hvo hvl _ ?_
        rw [yn_nat (by omega)]
        refine ⟨yn_in (by omega) (by omega), fun v39 h39 v45 h45 v58 h58 => ?_⟩
        have b39 : ∀ x, x < 32 → yM v39 x = (yM (f v) x && yM w x && !yM seen x) := by
          intro x hx; rw [h39, yM_and, yM_and, yM_not _ x hx]
        have b45 : ∀ x, x < 32 → yM v45 x = (yM seen x || (yM (f v) x && yM w x && !yM seen x)) := by
          intro x hx; rw [h45, yM_or, b39 x hx]
        have b58 : ∀ x, x < 32 → yM v58 x = ((yM opn x && !decide (x = v)) || (yM (f v) x && yM w x && !yM seen x)) := by
          intro x hx; rw [h58, yM_or, yM_and, yM_not _ x hx, yM_shl hv x hx, b39 x hx]
        refine ih (t+1) v45 v58 (by omega) ?_ ?_ ?_ ?_ ?_
        · intro x hx hh
          rw [b58 x hx, Bool.or_eq_true] at hh
          rw [b45 x hx, Bool.or_eq_true]
          rcases hh with c | c
          · rw [Bool.and_eq_true] at c; exact Or.inl (h1 x hx c.1)
          · exact Or.inr c
        · intro x hx hh
          rw [b45 x hx, Bool.or_eq_true] at hh
          rcases hh with c | c
          · exact h2 x hx c
          · rw [Bool.and_eq_true, Bool.and_eq_true] at c
            refine ⟨hw x c.1.2, ?_⟩
            intro U hU hc
            exact hc v x ((h2 v hv hvs).2 U hU hc) hv20 c.1.1 c.1.2
        · have hs32 : s < 32 := by omega
          rw [b45 s hs32, h3]; rfl
        · intro p q hp20 hps hpo hfq hwq
          have hq20 := hw q hwq
          rw [b45 p (by omega), Bool.or_eq_true] at hps
          rw [b58 p (by omega), Bool.or_eq_false_iff] at hpo
          rw [b45 q (by omega)]
          by_cases c : p = v
          · rw [c] at hfq
            rw [hfq, hwq]
            cases yM seen q <;> rfl
          · rcases hps with hps | hps
            · have hpo1 : yM opn p = false := by
                have := hpo.1
                rw [decide_eq_false c] at this
                simpa using this
              rw [h4 p q hp20 hps hpo1 hfq hwq]; rfl
            · rw [hpo.2] at hps; cases hps
        · rw [← h5]
          refine yNb_add1 32 _ _ v hv ?_ ?_ ?_
          · rw [hvo]; simp
          · rw [b45 v hv, b58 v hv, hvs]; simp
          · intro x hx hne
            rw [b45 x hx, b58 x hx]
            cases c1 : yM seen x with
            | true => simp [hne]
            | false =>
              have : yM opn x = false := by
                cases c2 : yM opn x with
                | false => rfl
                | true => rw [h1 x hx c2] at c1; cases c1
              rw [this]; simp
  unfold wX8_reached
  intro v3 h3
  have b3 : ∀ x, x < 32 → yM v3 x = decide (x = s) := fun x hx => by rw [h3, yM_shl (by omega) x hx]
  refine ⟨21 - 0 + 1, key (21-0) 0 v3 v3 rfl (fun x _ h => h) ?_ ?_ ?_ ?_⟩
  · intro x hx hh
    rw [b3 x hx, decide_eq_true_iff] at hh
    refine ⟨by omega, fun U hU _ => by rw [hh]; exact hU⟩
  · rw [b3 s (by omega)]; simp
  · intro p q hp hps hpo
    rw [hps] at hpo; cases hpo
  · have h0 : yNb 32 (fun _ => false) = 0 := by decide +kernel
    rw [← h0]
    apply yNb_congr
    intro x _
    cases yM v3 x <;> rfl

-- all nodes as a mask
theorem yM_all {n : Nat} (hn : n ≤ 20) (x : Nat) (hx : x < 32) : yM (((1 : Int32) <<< (Int32.ofNat n &&& 31)) - 1) x = decide (x < n) := by
  have h : ∀ n : Fin 21, ∀ x : Fin 32, yM (((1 : Int32) <<< (Int32.ofNat n.1 &&& 31)) - 1) x.1 = decide (x.1 < n.1) := by decide +kernel
  exact h ⟨n, by omega⟩ ⟨x, hx⟩


section
variable {n F : Nat} {fl : Nat → Int32} {fo ρ : Nat → Nat → Nat}

def yFt (g : Nat → Nat → Bool) (ρ : Nat → Nat → Nat) (x y z : Nat) : Prop := g x y = true ∧ g y z = true ∧ g z x = true ∧ (z = ρ x y ∨ z = ρ y x)

theorem yFt_rot {g : Nat → Nat → Bool} (h : yTg n g F fo ρ) {x y z : Nat} (hf : yFt g ρ x y z) : yFt g ρ y z x := by
  obtain ⟨h1, h2, h3, h4⟩ := hf
  refine ⟨h2, h3, h1, ?_⟩
  rcases h4 with c | c
  · left; rw [c]; exact (yTg_th h h1).2.2.2.1.symm
  · right; rw [c]; exact (yTg_th h (show g y x = true by rw [h.2.2.1.2]; exact h1)).2.2.2.2.1.symm
theorem yFt_flip {g : Nat → Nat → Bool} (h : yTg n g F fo ρ) {x y z : Nat} (hf : yFt g ρ x y z) : yFt g ρ y x z := by
  obtain ⟨h1, h2, h3, h4⟩ := hf
  have hs := h.2.2.1.2
  exact ⟨by rw [hs]; exact h1, by rw [hs]; exact h3, by rw [hs]; exact h2, Or.symm h4⟩

theorem w_isFace (h : yTg n (yGm n fl) F fo ρ) (h4 : 4 ≤ n) {a b c : Nat} (hab : yGm n fl a b = true) (hbc : yGm n fl b c = true) (hca : yGm n fl c a = true) (K : Int32 → Unit → Prop)
    (hK1 : (c = ρ a b ∨ c = ρ b a) → K 1 ()) (hK0 : ¬ (c = ρ a b ∨ c = ρ b a) → K 0 ()) : wX6_isFace (Int32.ofNat n) fl (Int32.ofNat a) (Int32.ofNat b) (Int32.ofNat c) K := by
  have hn := h.2.1
  have g1 := yTg_gr h hab; have g2 := yTg_gr h hbc; have g3 := yTg_gr h hca
  unfold wX6_isFace
  intro oth hoth
  have bo : ∀ x, x < 32 → yM oth x = (decide (x < n) && !(decide (x = a) || decide (x = b) || decide (x = c))) := by
    intro x hx
    rw [hoth, yM_and, yM_all hn x hx, yM_not _ x hx, yM_or, yM_or, yM_shl (by omega) x hx, yM_shl (by omega) x hx, yM_shl (by omega) x hx]
  have bo' : ∀ x, yM oth x = true ↔ (x < n ∧ ¬ (x = a ∨ x = b ∨ x = c)) := by
    intro x
    by_cases hx : x < 32
    · rw [bo x hx]
      by_cases c1 : x = a <;> by_cases c2 : x = b <;> by_cases c3 : x = c <;> simp [c1, c2, c3]
    · rw [yM_big _ _ (by omega)]
      constructor
      · intro hh; cases hh
      · rintro ⟨hh, _⟩; omega
  have hex : ∃ z, z < n ∧ ¬ (z = a ∨ z = b ∨ z = c) := by
    by_cases d : ∃ z, z < n ∧ ¬ (z = a ∨ z = b ∨ z = c)
    · exact d
    · exfalso
      have := yPig 4 3 (fun z => if z = a then 0 else if z = b then 1 else 2) (fun i _ => by split <;> (try split) <;> omega) (by
        intro i j hi hj hij
        have i1 : i = a ∨ i = b ∨ i = c := by
          by_cases e : i = a ∨ i = b ∨ i = c
          · exact e
          · exact absurd ⟨i, by omega, e⟩ d
        have j1 : j = a ∨ j = b ∨ j = c := by
          by_cases e : j = a ∨ j = b ∨ j = c
          · exact e
          · exact absurd ⟨j, by omega, e⟩ d
        split at hij <;> split at hij <;> (try split at hij) <;> (try split at hij) <;> omega)
      omega
  obtain ⟨z, hz, hzn⟩ := hex
  have hne : ¬ oth = 0 := by
    intro hh
    have := (bo' z).2 ⟨hz, hzn⟩
    rw [hh, yM_zero] at this; cases this
  refine ⟨fun hh => absurd hh hne, fun _ => ?_⟩
  obtain ⟨x0, hx32, hx0, hxl⟩ := yM_least hne
  have hx0' := (bo' x0).1 hx0
  refine w_lowest hx32 hx0 hxl _ ?_
  refine w_reached (by omega) (fun q hq => by have := (bo' q).1 hq; omega) _ ?_
  intro R hR
  have hgm : ∀ p q, p < n → yGm n fl p q = yM (fl p) q := fun p q hp => by unfold yGm; rw [decide_eq_true hp, Bool.true_and]
  have hsub : ∀ x, yRch fl oth x0 x → yM oth x = true := by
    intro x hx
    exact hx (fun y => yM oth y = true) hx0 (fun p q _ _ _ hq => hq)
  have hface := yTg_face h hab hbc hca hx0'.1 hx0'.2
  have hiff : R = oth ↔ (c = ρ a b ∨ c = ρ b a) := by
    rw [← hface]
    constructor
    · intro hRo W hW0 hWc x hx hxn
      have hrx : yRch fl oth x0 x := (hR x (by omega)).1 (by rw [hRo]; exact (bo' x).2 ⟨hx, hxn⟩)
      have := hrx (fun y => yM oth y = true ∧ W y) ⟨hx0, hW0⟩ (by
        rintro p q ⟨hp, hWp⟩ _ hfq hwq
        have hp' := (bo' p).1 hp
        have hq' := (bo' q).1 hwq
        exact ⟨hwq, hWc p q (by rw [hgm p q hp'.1]; exact hfq) hWp hp'.2 hq'.2⟩)
      exact this.2
    · intro hW
      apply yM_ext
      intro x hx
      rw [Bool.eq_iff_iff, hR x hx]
      constructor
      · exact hsub x
      · intro hox
        have hx' := (bo' x).1 hox
        refine hW (fun y => yRch fl oth x0 y) (fun U hU _ => hU) ?_ x hx'.1 hx'.2
        intro p q hpq hp hpn hqn U hU hc
        have gp := yTg_gr h hpq
        exact hc p q (hp U hU hc) gp.1 (by rw [← hgm p q gp.2.2.2.1]; exact hpq) ((bo' q).2 ⟨gp.2.2.2.2.1, hqn⟩)
  refine ⟨fun hh => hK0 (fun hc => hh (hiff.2 hc)), fun hh => hK1 (hiff.1 hh)⟩

theorem yn_m20 (a b : Nat) : Int32.ofNat a * 20 + Int32.ofNat b = Int32.ofNat (20*a+b) := by
  have : (20 : Int32) = Int32.ofNat 20 := rfl
  rw [this, yn_mul, yn_add, Nat.mul_comm]

theorem w_addFace {v w t : Nat} (hv : v < 20) (hw : w < 20) (ht : t < 32) (hvw : v ≠ w) (th : Nat → Int32) (K : (Nat → Int32) → Prop)
    (hK : ∀ th', (∀ x y z, x < 20 → y < 20 → z < 32 → yM (th' (20*x+y)) z = (yM (th (20*x+y)) z || decide (((x = v ∧ y = w) ∨ (x = w ∧ y = v)) ∧ z = t))) → K th') :
    wX6_addFace th (Int32.ofNat v) (Int32.ofNat w) (Int32.ofNat t) K := by
  unfold wX6_addFace
  rw [yn_m20, yn_m20, yn_nat (by omega), yn_nat (by omega)]
  refine ⟨yn_in (by omega) (by omega), yn_in (by omega) (by omega), fun g1 h1 => ⟨yn_in (by omega) (by omega), yn_in (by omega) (by omega), fun g2 h2 => ?_⟩⟩
  apply hK
  intro x y z hx hy hz
  by_cases c2 : x = w ∧ y = v
  · rw [h2, c2.1, c2.2, yupd_same, h1, yupd_ne _ _ _ _ (by omega), yM_or, yM_shl ht z hz]
    congr 1
    rw [decide_eq_decide]; omega
  · rw [h2, yupd_ne _ _ _ _ (by omega), h1]
    by_cases c1 : x = v ∧ y = w
    · rw [c1.1, c1.2, yupd_same, yM_or, yM_shl ht z hz]
      congr 1
      rw [decide_eq_decide]; omega
    · rw [yupd_ne _ _ _ _ (by omega), decide_eq_false (by omega : ¬ (((x = v ∧ y = w) ∨ (x = w ∧ y = v)) ∧ z = t)), Bool.or_false]

def yS3 (x y z : Nat) : Nat :=
  if x < y then (if y < z then 1024*x+32*y+z else if x < z then 1024*x+32*z+y else 1024*z+32*x+y)
  else (if x < z then 1024*y+32*x+z else if y < z then 1024*y+32*z+x else 1024*z+32*y+x)

def yTh (n : Nat) (g : Nat → Nat → Bool) (ρ : Nat → Nat → Nat) (c : Nat) (th : Nat → Int32) : Prop :=
  ∀ x y z, x < n → y < n → z < n → x ≠ y → y ≠ z → x ≠ z → (yM (th (20*x+y)) z = true ↔ (yS3 x y z < c ∧ yFt g ρ x y z))

theorem yTh_move {g : Nat → Nat → Bool} {c c' : Nat} {th : Nat → Int32} (hn : n ≤ 20) (h : yTg n g F fo ρ) (hT : yTh n g ρ c th) (hc : c ≤ c')
    (hno : ∀ p q r, p < q → q < r → r < n → c ≤ 1024*p+32*q+r → 1024*p+32*q+r < c' → ¬ yFt g ρ p q r) : yTh n g ρ c' th := by
  intro x y z hx hy hz hxy hyz hxz
  rw [hT x y z hx hy hz hxy hyz hxz]
  constructor
  · rintro ⟨h1, h2⟩; exact ⟨by omega, h2⟩
  · rintro ⟨h1, h2⟩
    refine ⟨?_, h2⟩
    rcases Nat.lt_or_ge (yS3 x y z) c with d | d
    · exact d
    · exfalso
      unfold yS3 at h1 d
      have r1 := yFt_rot h h2
      have r2 := yFt_rot h r1
      have f0 := yFt_flip h h2
      have f1 := yFt_flip h r1
      have f2 := yFt_flip h r2
      split at d
      · rename_i a1
        rw [if_pos a1] at h1
        split at d
        · rename_i a2; rw [if_pos a2] at h1; exact hno x y z a1 a2 hz d h1 h2
        · rename_i a2; rw [if_neg a2] at h1
          split at d
          · rename_i a3; rw [if_pos a3] at h1; exact hno x z y a3 (by omega) hy d h1 f2
          · rename_i a3; rw [if_neg a3] at h1; exact hno z x y (by omega) a1 hy d h1 r2
      · rename_i a1
        rw [if_neg a1] at h1
        split at d
        · rename_i a2; rw [if_pos a2] at h1; exact hno y x z (by omega) a2 hz d h1 f0
        · rename_i a2; rw [if_neg a2] at h1
          split at d
          · rename_i a3; rw [if_pos a3] at h1; exact hno y z x a3 (by omega) hx d h1 r1
          · rename_i a3; rw [if_neg a3] at h1; exact hno z y x (by omega) (by omega) hx d h1 f1

theorem yTh_add {g : Nat → Nat → Bool} {a b c : Nat} {th th' : Nat → Int32} (hn : n ≤ 20) (h : yTg n g F fo ρ) (hab : a < b) (hbc : b < c) (hc : c < n) (hT : yTh n g ρ (1024*a+32*b+c) th) (hf : yFt g ρ a b c)
    (hth : ∀ x y z, x < 20 → y < 20 → z < 32 → (yM (th' (20*x+y)) z = true ↔ (yM (th (20*x+y)) z = true ∨ (((x = a ∧ y = b) ∨ (x = b ∧ y = a)) ∧ z = c) ∨ (((x = b ∧ y = c) ∨ (x = c ∧ y = b)) ∧ z = a) ∨ (((x = c ∧ y = a) ∨ (x = a ∧ y = c)) ∧ z = b)))) :
    yTh n g ρ (1024*a+32*b+c+1) th' := by
  intro x y z hx hy hz hxy hyz hxz
  rw [hth x y z (by omega) (by omega) (by omega), hT x y z hx hy hz hxy hyz hxz]
  have r1 := yFt_rot h hf
  have r2 := yFt_rot h r1
  have f0 := yFt_flip h hf
  have f1 := yFt_flip h r1
  have f2 := yFt_flip h r2
  have hcode : yS3 x y z = 1024*a+32*b+c ↔ ((((x = a ∧ y = b) ∨ (x = b ∧ y = a)) ∧ z = c) ∨ (((x = b ∧ y = c) ∨ (x = c ∧ y = b)) ∧ z = a) ∨ (((x = c ∧ y = a) ∨ (x = a ∧ y = c)) ∧ z = b)) := by
    unfold yS3
    split
    · split
      · omega
      · split <;> omega
    · split
      · omega
      · split <;> omega
  constructor
  · rintro (⟨d1, d2⟩ | d)
    · exact ⟨by omega, d2⟩
    · refine ⟨by have := hcode.2 d; omega, ?_⟩
      rcases d with ⟨d | d, e⟩ | ⟨d | d, e⟩ | ⟨d | d, e⟩ <;> rw [d.1, d.2, e] <;> assumption
  · rintro ⟨d1, d2⟩
    rcases Nat.lt_or_ge (yS3 x y z) (1024*a+32*b+c) with e | e
    · exact Or.inl ⟨e, d2⟩
    · exact Or.inr (hcode.1 (by omega))
end


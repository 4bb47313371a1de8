
theorem yBo_upd {M k : Nat} {c : Nat → Bool} {f : Nat → Int32} (h : yBo M c f) {b : Bool} {x : Int32} (hx : x = if b = true then 1 else 0) : yBo M (fun j => if j = k then b else c j) (upd f k x) := by
  intro j hj
  by_cases e : j = k
  · rw [e, yupd_same, hx]; simp
  · rw [yupd_ne _ _ _ _ e]; simp only [if_neg e]; exact h j hj

theorem yBo_congr {M : Nat} {c d : Nat → Bool} {f : Nat → Int32} (h : yBo M c f) (hcd : ∀ k, k < M → c k = d k) : yBo M d f := by
  intro k hk; rw [← hcd k hk]; exact h k hk

theorem yEcnt_le (m : Nat) (p : Nat → Bool) : yNb m p ≤ m := by
  induction m with
  | zero => exact Nat.le_refl _
  | succ m ih => simp only [yNb]; split <;> omega

theorem yn_less (r : Nat) : Int32.ofNat r + (-1) = Int32.ofNat r - 1 := by
  rw [Int32.sub_eq_add_neg]

theorem yn_one (r : Nat) : Int32.ofNat (r+1) - 1 = Int32.ofNat r := by
  have h1 : (1 : Int32) = Int32.ofNat 1 := rfl
  rw [h1, yn_sub (by omega)]; rfl

theorem yn_zm : (Int32.ofNat 0 - 1 : Int32) < 0 := by decide

section
variable {N M : Nat} {F T : Nat → Nat} {al : Nat → Bool}

theorem w3_hasArc (hM : M ≤ 80) {there : Nat → Int32} (hB : yBo M al there) (p i0 i2 : Int32) (K : Int32 → Unit → Prop) (h1 : ∀ k, k < M → al k = true → p = Int32.ofNat k → K 1 ()) (h0 : (¬ ∃ k, k < M ∧ al k = true ∧ p = Int32.ofNat k) → K 0 ()) : wX3_hasArc i0 (Int32.ofNat M) i2 there p K := by
  unfold wX3_hasArc
  refine ⟨fun hp => h0 ?_, fun hp => ?_⟩
  · rintro ⟨k, a1, a2, a3⟩
    rw [a3] at hp; exact yn_neg (by omega) hp
  obtain ⟨k, hk, rfl⟩ := yn_of hp
  refine ⟨fun hle => h0 ?_, fun hlt => ?_⟩
  · rw [yn_le (by omega) (by omega)] at hle
    rintro ⟨k', a1, a2, a3⟩
    have := (yn_inj (by omega) (by omega)).1 a3; omega
  rw [yn_le (by omega) (by omega)] at hlt
  rw [yn_nat (by omega)]
  refine ⟨yn_in (by omega) (by omega), fun hz => h0 ?_, fun hnz => h1 k (by omega) ?_ rfl⟩
  · rintro ⟨k', a1, a2, a3⟩
    have := (yn_inj (by omega) (by omega)).1 a3
    rw [← this, (yBo_iff hB (by omega)).1 hz] at a2; cases a2
  · cases e : al k with
    | true => rfl
    | false => exact absurd ((yBo_iff hB (by omega)).2 e) hnz

theorem w4_find (hN : N ≤ 20) (hM : M ≤ 80) (hF : ∀ k, k < M → F k < N ∧ T k < N) {there at' : Nat → Int32} (hA : yAt M F T at') (hB : yBo M al there)
    (i2 : Int32) (f4 f5 f7 : Nat → Int32) (i8 i9 : Int32) (f10 : Nat → Int64) (f11 f12 : Nat → Int32) (f13 f14 : Nat → Int64) (f15 : Nat → Int32) (f16 : Nat → Int64) (f17 : Nat → Int32) (f18 f19 : Nat → Int64)
    (K : ((Nat → Int32) × (Nat → Int32) × (Nat → Int32) × Int32 × Int32 × (Nat → Int64) × (Nat → Int32) × (Nat → Int32) × (Nat → Int64) × (Nat → Int64) × (Nat → Int32) × (Nat → Int64) × (Nat → Int32) × (Nat → Int64) × (Nat → Int64)) → Prop)
    (hK : ∀ kp ec, yBo M (yKp N M F T M al) kp → (∀ v, v < 20 → ec v = Int32.ofNat (yEc M F T (yKp N M F T M al) v)) → ∀ x2 x3 x4 x5 x6 x7 x8 x9 x10 x11 x12 x13 x14, K (kp, ec, x2, x3, x4, x5, x6, x7, x8, x9, x10, x11, x12, x13, x14)) :
    wX4_find (Int32.ofNat N) (Int32.ofNat M) i2 there f4 f5 at' f7 i8 i9 f10 f11 f12 f13 f14 f15 f16 f17 f18 f19 K := by
  have hF20 : ∀ k, k < M → F k < 20 ∧ T k < 20 := fun k hk => by have := hF k hk; omega
  have e80 : (80 : Int32) = Int32.ofNat 80 := rfl
  have e2 : (2 : Int32) = Int32.ofNat 2 := rfl
  have h1eq : (1 : Int32) = Int32.ofNat 1 := rfl
  -- the ends
  have h104 : ∀ c kp, yBo M c kp → (∀ ec, (∀ v, v < 20 → ec v = Int32.ofNat (yEc M F T c v)) → ∀ x2 x3 x4 x5 x6 x7 x8 x9 x10 x11 x12 x13 x14, K (kp, ec, x2, x3, x4, x5, x6, x7, x8, x9, x10, x11, x12, x13, x14)) →
      ∀ (t0 : Nat → Int32) (t1 t2 : Nat → Int64) (t3 : Nat → Int32) (t4 : Nat → Int64) (t5 : Nat → Int32) (t6 t7 : Nat → Int64) (t9 : Nat → Int32) (t10 : Nat → Int64) (t11 : Nat → Int32) (t12 t13 : Int32), ∀ d e ec, 2*M - e = d → e ≤ 2*M → (∀ v, v < 20 → ec v = Int32.ofNat (yNb e (fun e => c (e/2) && decide (yNd F T e = v)))) →
      wLX4_find_104 (Int32.ofNat M) at' t0 t1 t2 t3 t4 t5 t6 t7 kp t9 t10 t11 t12 t13 K (d+1) ec (Int32.ofNat e) := by
    intro c kp hkp hK' t0 t1 t2 t3 t4 t5 t6 t7 t9 t10 t11 t12 t13 d
    induction d with
    | zero =>
      intro e ec hd he hec
      have : e = 2*M := by omega
      subst this
      unfold wLX4_find_104
      rw [yn_2]
      refine ⟨fun _ => hK' ec hec _ _ _ _ _ _ _ _ _ _ _ _ _, fun hh => ?_⟩
      exfalso; apply hh; rw [yn_le (by omega) (by omega)]; omega
    | succ d ih =>
      intro e ec hd he hec
      have ee : Int32.ofNat e + 1 = Int32.ofNat (e+1) := yn_add e 1
      have hat : at' e = Int32.ofNat (yNd F T e) := by
        have := hA (e/2) (by omega)
        unfold yNd
        by_cases q : e % 2 = 0
        · rw [if_pos q, ← this.1]; congr 1; omega
        · rw [if_neg q, ← this.2]; congr 1; omega
      have hnd : yNd F T e < 20 := by
        have := hF20 (e/2) (by omega)
        unfold yNd; split <;> omega
      unfold wLX4_find_104
      rw [yn_2, ee, e2, yn_div (by omega) (by omega), yn_nat (by omega : e/2 < 2147483648), yn_nat (by omega : e < 2147483648), hat, yn_nat (by omega : yNd F T e < 2147483648), hec _ hnd]
      refine ⟨fun hh => ?_, fun _ => ⟨yn_in (by omega) (by omega), fun hz => ih (e+1) ec (by omega) (by omega) (fun v hv => ?_), fun hnz => ⟨yn_in (by omega) (by omega), yn_in (by omega) hnd, yn_in (by omega) hnd, fun g hg => ih (e+1) g (by omega) (by omega) (fun v hv => ?_)⟩⟩⟩
      · exfalso; rw [yn_le (by omega) (by omega)] at hh; omega
      · rw [hec v hv]; simp only [yNb]
        rw [if_neg (by rw [(yBo_iff hkp (by omega)).1 hz]; simp), Nat.add_zero]
      · have hc : c (e/2) = true := by
          cases q : c (e/2) with
          | true => rfl
          | false => exact absurd ((yBo_iff hkp (by omega)).2 q) hnz
        rw [hg]
        by_cases q : v = yNd F T e
        · rw [q, yupd_same, h1eq, yn_add]; simp only [yNb]
          rw [if_pos (by rw [hc]; simp)]
        · rw [yupd_ne _ _ _ _ q, hec v hv]; simp only [yNb]
          rw [if_neg (by rw [hc]; simp; exact fun h => q h.symm), Nat.add_zero]
  -- arc by arc
  have h38 : ∀ r, r ≤ M → ∀ c kp, yBo M c kp → (∀ kp' ec, yBo M (yKp N M F T r c) kp' → (∀ v, v < 20 → ec v = Int32.ofNat (yEc M F T (yKp N M F T r c) v)) → ∀ x2 x3 x4 x5 x6 x7 x8 x9 x10 x11 x12 x13 x14, K (kp', ec, x2, x3, x4, x5, x6, x7, x8, x9, x10, x11, x12, x13, x14)) →
      ∀ (t0 : Nat → Int32) (t1 t2 : Nat → Int64) (t3 : Nat → Int32) (t4 : Nat → Int64) (t5 : Nat → Int32) (t6 t7 : Nat → Int64) (t9 : Nat → Int32) (t10 : Nat → Int64) (t11 : Nat → Int32) (t12 t13 : Int32), wLX4_find_38 (Int32.ofNat N) (Int32.ofNat M) i2 f5 at' K (r+1) t0 t1 t2 t3 t4 t5 t6 t7 kp t9 t10 t11 t12 t13 (Int32.ofNat r - 1) := by
    intro r
    induction r with
    | zero =>
      intro _ c kp hkp hK' t0 t1 t2 t3 t4 t5 t6 t7 t9 t10 t11 t12 t13
      unfold wLX4_find_38
      refine ⟨fun _ => w_fill20 0 f5 _ (fun f hf => ⟨_, h104 c kp hkp (fun ec hec => hK' kp ec hkp hec) t0 t1 t2 t3 t4 t5 t6 t7 t9 t10 t11 t12 t13 (2*M-0) 0 f rfl (by omega) (fun v hv => ?_)⟩), fun hh => absurd yn_zm hh⟩
      rw [hf v hv]; rfl
    | succ r ih =>
      intro hr c kp hkp hK' t0 t1 t2 t3 t4 t5 t6 t7 t9 t10 t11 t12 t13
      unfold wLX4_find_38
      rw [yn_one, yn_less, yn_nat (by omega)]
      refine ⟨fun hh => absurd hh (yn_neg (by omega)), fun _ => ⟨yn_in (by omega) (by omega), fun hz => ?_, fun hnz => ⟨yn_in (by omega) (by omega), fun g hg => ?_⟩⟩⟩
      · have hc : c r = false := (yBo_iff hkp (by omega)).1 hz
        have e1 : yKp N M F T (r+1) c = yKp N M F T r c := by
          show yKp N M F T r (yKs N M F T c r) = _
          rw [yKs_neg (by rw [hc]; simp)]
        rw [e1] at hK'
        exact ih (by omega) c kp hkp hK' _ _ _ _ _ _ _ _ _ _ _ _ _
      · have hc : c r = true := by
          cases q : c r with
          | true => rfl
          | false => exact absurd ((yBo_iff hkp (by omega)).2 q) hnz
        have hg' : yBo M (yCm c r) g := by
          rw [hg]
          refine yBo_congr (yBo_upd (b := false) hkp (by rw [ynar0]; rfl)) (fun k hk => ?_)
          unfold yCm
          by_cases q : k = r
          · simp [q]
          · simp [q]
        refine w3_findNeighbours_1 hA hM hN hF hg' t9 _ _ _ (fun t ht => ?_)
        have htN : yGm N t = yGk M F T (yCm c r) := yGm_less (by omega) (fun v w h => ((yGk_sg hF).1 v w h).1) ht
        have hsg : ySg N (yGk M F T (yCm c r)) := yGk_sg hF
        refine (w_accepts (n := N) (by omega) t (by rw [htN]; exact hsg.1) (by rw [htN]; exact hsg.2) _ _ _ _ _ _ _ _ _ _ _ _ _ (fun hp u => ?_) (fun hp u => ?_)).2
        · rw [htN] at hp
          have e1 : yKp N M F T (r+1) c = yKp N M F T r c := by
            show yKp N M F T r (yKs N M F T c r) = _
            rw [yKs_neg (fun h => h.2 hp)]
          rw [e1] at hK'
          refine ⟨yn_in (by omega) (by omega), fun g2 hg2 => ih (by omega) c g2 ?_ hK' _ _ _ _ _ _ _ _ _ _ _ _ _⟩
          rw [hg2]
          refine yBo_congr (yBo_upd (b := true) hg' (by rw [ynar1]; rfl)) (fun k hk => ?_)
          unfold yCm
          by_cases q : k = r
          · simp [q, hc]
          · simp [q]
        · rw [htN] at hp
          have e1 : yKp N M F T (r+1) c = yKp N M F T r (yCm c r) := by
            show yKp N M F T r (yKs N M F T c r) = _
            rw [yKs_pos ⟨hc, hp⟩]
          rw [e1] at hK'
          refine ⟨yn_in (by omega) (by omega), fun g2 hg2 => ih (by omega) (yCm c r) g2 ?_ hK' _ _ _ _ _ _ _ _ _ _ _ _ _⟩
          rw [hg2]
          refine yBo_congr (yBo_upd (b := false) hg' (by rw [ynar0]; rfl)) (fun k hk => ?_)
          unfold yCm
          by_cases q : k = r
          · simp [q]
          · simp [q]
  have h2 : ∀ d k kp, 80 - k = d → k ≤ 80 → (∀ j, j < k → kp j = if j < M ∧ al j = true then 1 else 0) → wLX4_find_2 (Int32.ofNat N) (Int32.ofNat M) i2 there f5 at' f7 i8 i9 f10 f11 f12 f13 f14 f15 f16 f17 f18 f19 K (d+1) kp (Int32.ofNat k) := by
    intro d
    induction d with
    | zero =>
      intro k kp hd hk hkp
      unfold wLX4_find_2
      refine ⟨fun _ v37 h37 => ⟨M+1, ?_⟩, fun hh => ?_⟩
      · rw [h37]
        refine h38 M (Nat.le_refl _) al kp (fun j hj => ?_) hK _ _ _ _ _ _ _ _ _ _ _ _ _
        rw [hkp j (by omega)]
        cases al j <;> simp [hj]
      · exfalso; apply hh; rw [e80, yn_le (by omega) (by omega)]; omega
    | succ d ih =>
      intro k kp hd hk hkp
      have ek : Int32.ofNat k + 1 = Int32.ofNat (k+1) := yn_add k 1
      unfold wLX4_find_2
      rw [ek, yn_nat (by omega)]
      refine ⟨fun hh => ?_, fun _ => w3_hasArc hM hB _ _ _ _ (fun k' k1 k2 k3 => ⟨yn_in (by omega) (by omega), fun g hg => ih (k+1) g (by omega) (by omega) (fun j hj => ?_)⟩) (fun hno => ⟨yn_in (by omega) (by omega), fun g hg => ih (k+1) g (by omega) (by omega) (fun j hj => ?_)⟩)⟩
      · exfalso; rw [e80, yn_le (by omega) (by omega)] at hh; omega
      · have hkk := (yn_inj (by omega) (by omega)).1 k3
        rw [hg, ynar1]
        by_cases q : j = k
        · rw [q, yupd_same, if_pos ⟨by omega, by rw [hkk]; exact k2⟩]
        · rw [yupd_ne _ _ _ _ q]; exact hkp j (by omega)
      · rw [hg, ynar0]
        by_cases q : j = k
        · rw [q, yupd_same, if_neg (fun hh => hno ⟨k, hh.1, hh.2, rfl⟩)]
        · rw [yupd_ne _ _ _ _ q]; exact hkp j (by omega)
  unfold wX4_find
  exact ⟨_, h2 (80-0) 0 f4 rfl (by omega) (fun j hj => absurd hj (Nat.not_lt_zero _))⟩

-- the reference
theorem w9_piece (hN : N ≤ 20) (hM : M ≤ 80) (hF : ∀ k, k < M → F k < N ∧ T k < N) {alv frm too : Nat → Int32} (hfr : ∀ k, k < M → frm k = Int32.ofNat (F k)) (hto : ∀ k, k < M → too k = Int32.ofNat (T k)) (hB : yBo M al alv)
    (i2 i3 i4 i5 i6 i7 i8 i9 i10 i11 i12 i13 i14 i15 i16 i17 : Int32) (f18 f20 f23 f24 f25 f26 f27 f28 f29 f30 f31 f32 f33 f34 f35 : Nat → Int32)
    (K : (Int32 × Int32 × Int32 × Int32 × Int32 × Int32 × Int32 × Int32 × (Nat → Int32) × (Nat → Int32) × (Nat → Int32) × (Nat → Int32) × (Nat → Int32) × (Nat → Int32) × (Nat → Int32) × (Nat → Int32) × (Nat → Int32) × (Nat → Int32) × (Nat → Int32) × (Nat → Int32) × (Nat → Int32) × (Nat → Int32) × (Nat → Int32)) → Prop)
    (hK : ∀ ip pe, yBo M (yKp N M F T M al) ip → (∀ v, v < N → pe v = Int32.ofNat (yEc M F T (yKp N M F T M al) v)) → ∀ x0 x1 x2 x3 x4 x5 x6 x7 x10 x11 x12 x13 x14 x15 x16 x17 x18 x19 x20 x21 x22, K (x0, x1, x2, x3, x4, x5, x6, x7, ip, pe, x10, x11, x12, x13, x14, x15, x16, x17, x18, x19, x20, x21, x22)) :
    wX9_findPieceOfAll (Int32.ofNat N) (Int32.ofNat M) i2 i3 i4 i5 i6 i7 i8 i9 i10 i11 i12 i13 i14 i15 i16 i17 f18 frm f20 too alv f23 f24 f25 f26 f27 f28 f29 f30 f31 f32 f33 f34 f35 K := by
  have h1eq : (1 : Int32) = Int32.ofNat 1 := rfl
  have h102 : ∀ c ip, yBo M c ip → (∀ pe, (∀ v, v < N → pe v = Int32.ofNat (yEc M F T c v)) → ∀ x0 x1 x2 x3 x4 x5 x6 x7 x10 x11 x12 x13 x14 x15 x16 x17 x18 x19 x20 x21 x22, K (x0, x1, x2, x3, x4, x5, x6, x7, ip, pe, x10, x11, x12, x13, x14, x15, x16, x17, x18, x19, x20, x21, x22)) →
      ∀ (t1 t2 t3 t4 t5 t6 t7 t8 t9 t10 t11 t12 t13 : Nat → Int32) (t14 t15 t16 t17 t18 t19 t20 t21 : Int32), ∀ d k pe, M - k = d → k ≤ M → (∀ v, v < N → pe v = Int32.ofNat (yNb (2*k) (fun e => c (e/2) && decide (yNd F T e = v)))) →
      wLX9_findPieceOfAll_102 (Int32.ofNat M) frm too ip t1 t2 t3 t4 t5 t6 t7 t8 t9 t10 t11 t12 t13 t14 t15 t16 t17 t18 t19 t20 t21 K (d+1) pe (Int32.ofNat k) := by
    intro c ip hip hK' t1 t2 t3 t4 t5 t6 t7 t8 t9 t10 t11 t12 t13 t14 t15 t16 t17 t18 t19 t20 t21 d
    induction d with
    | zero =>
      intro k pe hd hk hpe
      have : k = M := by omega
      subst this
      unfold wLX9_findPieceOfAll_102
      refine ⟨fun _ => hK' pe hpe _ _ _ _ _ _ _ _ _ _ _ _ _ _ _ _ _ _ _ _ _, fun hh => ?_⟩
      exfalso; apply hh; rw [yn_le (by omega) (by omega)]; omega
    | succ d ih =>
      intro k pe hd hk hpe
      have ek : Int32.ofNat k + 1 = Int32.ofNat (k+1) := yn_add k 1
      have hb := hF k (by omega)
      have hA : yNd F T (2*k) = F k := by unfold yNd; rw [if_pos (by omega), show 2*k/2 = k by omega]
      have hB' : yNd F T (2*k+1) = T k := by unfold yNd; rw [if_neg (by omega), show (2*k+1)/2 = k by omega]
      have hsum : ∀ v, yNb (2*(k+1)) (fun e => c (e/2) && decide (yNd F T e = v)) = yNb (2*k) (fun e => c (e/2) && decide (yNd F T e = v)) + (if (c k && decide (F k = v)) = true then 1 else 0) + (if (c k && decide (T k = v)) = true then 1 else 0) := by
        intro v
        show yNb (2*k+1+1) _ = _
        have q1 : 2*k/2 = k := by omega
        have q2 : (2*k+1)/2 = k := by omega
        simp only [yNb, hA, hB', q1, q2]
      unfold wLX9_findPieceOfAll_102
      rw [ek, yn_nat (by omega), hfr k (by omega), hto k (by omega), yn_nat (by omega), yn_nat (by omega)]
      refine ⟨fun hh => ?_, fun _ => ⟨yn_in (by omega) (by omega), fun hz => ih (k+1) pe (by omega) (by omega) (fun v hv => ?_), fun hnz => ⟨yn_in (by omega) (by omega), yn_in (by omega) (by omega), yn_in (by omega) (by omega), fun g hg => ⟨yn_in (by omega) (by omega), yn_in (by omega) (by omega), yn_in (by omega) (by omega), fun g2 hg2 => ih (k+1) g2 (by omega) (by omega) (fun v hv => ?_)⟩⟩⟩⟩
      · exfalso; rw [yn_le (by omega) (by omega)] at hh; omega
      · have hc := (yBo_iff hip (by omega)).1 hz
        rw [hsum v, hpe v hv, hc]; simp
      · have hc : c k = true := by
          cases q : c k with
          | true => rfl
          | false => exact absurd ((yBo_iff hip (by omega)).2 q) hnz
        have hg' : ∀ u, u < N → g u = Int32.ofNat (yNb (2*k) (fun e => c (e/2) && decide (yNd F T e = u)) + (if (c k && decide (F k = u)) = true then 1 else 0)) := by
          intro u hu
          rw [hg]
          by_cases q : u = F k
          · rw [q, yupd_same, hpe _ hb.1, h1eq, yn_add, if_pos (by rw [hc]; simp)]
          · rw [yupd_ne _ _ _ _ q, hpe u hu, if_neg (by rw [hc]; simp; exact fun h => q h.symm), Nat.add_zero]
        rw [hsum v, hg2]
        by_cases q : v = T k
        · rw [q, yupd_same, hg' _ hb.2, h1eq, yn_add, if_pos (by rw [hc]; simp : (c k && decide (T k = T k)) = true)]
        · rw [yupd_ne _ _ _ _ q, hg' v hv, if_neg (by rw [hc]; simp; exact fun h => q h.symm : ¬ (c k && decide (T k = v)) = true), Nat.add_zero]
  have h79 : ∀ c ip, yBo M c ip → (∀ pe, (∀ v, v < N → pe v = Int32.ofNat (yEc M F T c v)) → ∀ x0 x1 x2 x3 x4 x5 x6 x7 x10 x11 x12 x13 x14 x15 x16 x17 x18 x19 x20 x21 x22, K (x0, x1, x2, x3, x4, x5, x6, x7, ip, pe, x10, x11, x12, x13, x14, x15, x16, x17, x18, x19, x20, x21, x22)) →
      ∀ (t1 t2 t3 t4 t5 t6 t7 t8 t9 t10 t11 t12 t13 : Nat → Int32) (t14 t15 t16 t17 t18 t19 t20 t21 : Int32), ∀ d v pe, N - v = d → v ≤ N → (∀ u, u < v → pe u = 0) →
      wLX9_findPieceOfAll_79 (Int32.ofNat N) (Int32.ofNat M) frm too ip t1 t2 t3 t4 t5 t6 t7 t8 t9 t10 t11 t12 t13 t14 t15 t16 t17 t18 t19 t20 t21 K (d+1) pe (Int32.ofNat v) := by
    intro c ip hip hK' t1 t2 t3 t4 t5 t6 t7 t8 t9 t10 t11 t12 t13 t14 t15 t16 t17 t18 t19 t20 t21 d
    induction d with
    | zero =>
      intro v pe hd hv hpe
      unfold wLX9_findPieceOfAll_79
      refine ⟨fun _ => ⟨_, h102 c ip hip hK' _ _ _ _ _ _ _ _ _ _ _ _ _ _ _ _ _ _ _ _ _ (M-0) 0 pe rfl (by omega) (fun u hu => ?_)⟩, fun hh => ?_⟩
      · rw [hpe u (by omega)]; rfl
      · exfalso; apply hh; rw [yn_le (by omega) (by omega)]; omega
    | succ d ih =>
      intro v pe hd hv hpe
      have ev : Int32.ofNat v + 1 = Int32.ofNat (v+1) := yn_add v 1
      unfold wLX9_findPieceOfAll_79
      rw [ev, yn_nat (by omega)]
      refine ⟨fun hh => ?_, fun _ => ⟨yn_in (by omega) (by omega), fun g hg => ih (v+1) g (by omega) (by omega) (fun u hu => ?_)⟩⟩
      · exfalso; rw [yn_le (by omega) (by omega)] at hh; omega
      · rw [hg]
        by_cases q : u = v
        · rw [q, yupd_same]
        · rw [yupd_ne _ _ _ _ q]; exact hpe u (by omega)
  have h35 : ∀ r, r ≤ M → ∀ c ip, yBo M c ip → (∀ j, j < M → c j = true → al j = true) → (∀ j, j < r → c j = al j) → (∀ ip' pe, yBo M (yKp N M F T r c) ip' → (∀ v, v < N → pe v = Int32.ofNat (yEc M F T (yKp N M F T r c) v)) → ∀ x0 x1 x2 x3 x4 x5 x6 x7 x10 x11 x12 x13 x14 x15 x16 x17 x18 x19 x20 x21 x22, K (x0, x1, x2, x3, x4, x5, x6, x7, ip', pe, x10, x11, x12, x13, x14, x15, x16, x17, x18, x19, x20, x21, x22)) →
      ∀ (t1 t2 t3 t4 t5 t6 t7 t8 t9 t10 t11 t12 t13 : Nat → Int32) (t14 t15 t16 t17 t18 t19 t20 t21 : Int32), wLX9_findPieceOfAll_35 (Int32.ofNat N) (Int32.ofNat M) i2 i11 i12 i13 i14 i15 i16 i17 frm f20 too alv K (r+1) ip t1 t2 t3 t4 t5 t6 t7 t8 t9 t10 t11 t12 t13 t14 t15 t16 t17 t18 t19 t20 t21 (Int32.ofNat r - 1) := by
    intro r
    induction r with
    | zero =>
      intro _ c ip hip _ _ hK' t1 t2 t3 t4 t5 t6 t7 t8 t9 t10 t11 t12 t13 t14 t15 t16 t17 t18 t19 t20 t21
      unfold wLX9_findPieceOfAll_35
      exact ⟨fun _ => ⟨_, h79 c ip hip (fun pe hpe => hK' ip pe hip hpe) _ _ _ _ _ _ _ _ _ _ _ _ _ _ _ _ _ _ _ _ _ (N-0) 0 f20 rfl (by omega) (fun u hu => absurd hu (Nat.not_lt_zero _))⟩, fun hh => absurd yn_zm hh⟩
    | succ r ih =>
      intro hr c ip hip hsub hlow hK' t1 t2 t3 t4 t5 t6 t7 t8 t9 t10 t11 t12 t13 t14 t15 t16 t17 t18 t19 t20 t21
      unfold wLX9_findPieceOfAll_35
      rw [yn_one, yn_less, yn_nat (by omega)]
      refine ⟨fun hh => absurd hh (yn_neg (by omega)), fun _ => ⟨yn_in (by omega) (by omega), fun hnz => ?_, fun hz => ?_⟩⟩
      · have hal : al r = true := by
          cases q : al r with
          | true => rfl
          | false => exact absurd ((yBo_iff hB (by omega)).2 q) hnz
        have hc : c r = true := by rw [hlow r (by omega)]; exact hal
        refine w9_takeSimple (c := yCm c r) (ip := c) hM hN hF hfr hto hB 1 (Int32.ofNat r) (fun _ => hip) (fun k hk => ?_) _ _ _ _ _ _ _ _ _ _ _ _ _ _ _ _ _ _ (fun t ht => ?_)
        · unfold yCm
          have hkr : (¬ Int32.ofNat k = Int32.ofNat r) ↔ k ≠ r := not_congr (yn_inj (by omega) (by omega))
          by_cases q : k = r
          · subst q; simp
          · rw [decide_eq_true q, decide_eq_true (hkr.2 q)]
            cases hck : c k with
            | false => simp
            | true => rw [hsub k hk hck]; simp
        · have htN : yGm N t = yGk M F T (yCm c r) := yGm_less (by omega) (fun v w h => ((yGk_sg hF).1 v w h).1) ht
          have hsg : ySg N (yGk M F T (yCm c r)) := yGk_sg hF
          refine w9_isPlane (n := N) (by omega) t (by rw [htN]; exact hsg.1) (by rw [htN]; exact hsg.2) _ _ _ _ _ _ _ _ _ _ _ _ _ _ _ _ _ _ _ _ _ _ _ _ _ _ _ _ _ _ (fun hp u _ => ⟨fun _ => ?_, fun hh => absurd hh (by decide)⟩) (fun hp u => ⟨fun hh => absurd rfl hh, fun _ => ⟨yn_in (by omega) (by omega), fun g hg => ?_⟩⟩)
          · rw [htN] at hp
            have e1 : yKp N M F T (r+1) c = yKp N M F T r c := by
              show yKp N M F T r (yKs N M F T c r) = _
              rw [yKs_neg (fun h => h.2 hp)]
            rw [e1] at hK'
            exact ih (by omega) c ip hip hsub (fun j hj => hlow j (by omega)) hK' _ _ _ _ _ _ _ _ _ _ _ _ _ _ _ _ _ _ _ _ _
          · rw [htN] at hp
            have e1 : yKp N M F T (r+1) c = yKp N M F T r (yCm c r) := by
              show yKp N M F T r (yKs N M F T c r) = _
              rw [yKs_pos ⟨hc, hp⟩]
            rw [e1] at hK'
            refine ih (by omega) (yCm c r) g ?_ (fun j hj hh => hsub j hj (yCm_iff.1 hh).1) (fun j hj => ?_) hK' _ _ _ _ _ _ _ _ _ _ _ _ _ _ _ _ _ _ _ _ _
            · rw [hg]
              refine yBo_congr (yBo_upd (b := false) hip (by rw [ynar0]; rfl)) (fun k hk => ?_)
              unfold yCm
              by_cases q : k = r
              · simp [q]
              · simp [q]
            · unfold yCm
              rw [decide_eq_true (by omega), Bool.and_true]; exact hlow j (by omega)
      · have hal := (yBo_iff hB (by omega)).1 hz
        have hc : c r = false := by rw [hlow r (by omega)]; exact hal
        have e1 : yKp N M F T (r+1) c = yKp N M F T r c := by
          show yKp N M F T r (yKs N M F T c r) = _
          rw [yKs_neg (by rw [hc]; simp)]
        rw [e1] at hK'
        exact ih (by omega) c ip hip hsub (fun j hj => hlow j (by omega)) hK' _ _ _ _ _ _ _ _ _ _ _ _ _ _ _ _ _ _ _ _ _
  have h2 : ∀ d k ip, M - k = d → k ≤ M → (∀ j, j < k → ip j = if al j = true then 1 else 0) → wLX9_findPieceOfAll_2 (Int32.ofNat N) (Int32.ofNat M) i2 i3 i4 i5 i6 i7 i8 i9 i10 i11 i12 i13 i14 i15 i16 i17 frm f20 too alv f23 f24 f25 f26 f27 f28 f29 f30 f31 f32 f33 f34 f35 K (d+1) ip (Int32.ofNat k) := by
    intro d
    induction d with
    | zero =>
      intro k ip hd hk hip
      unfold wLX9_findPieceOfAll_2
      refine ⟨fun _ v h => ⟨M+1, ?_⟩, fun hh => ?_⟩
      · rw [h]
        exact h35 M (Nat.le_refl _) al ip (fun j hj => hip j (by omega)) (fun j _ hh => hh) (fun j _ => rfl) hK _ _ _ _ _ _ _ _ _ _ _ _ _ _ _ _ _ _ _ _ _
      · exfalso; apply hh; rw [yn_le (by omega) (by omega)]; omega
    | succ d ih =>
      intro k ip hd hk hip
      have ek : Int32.ofNat k + 1 = Int32.ofNat (k+1) := yn_add k 1
      unfold wLX9_findPieceOfAll_2
      rw [ek, yn_nat (by omega)]
      refine ⟨fun hh => ?_, fun _ => ⟨yn_in (by omega) (by omega), yn_in (by omega) (by omega), fun g hg => ih (k+1) g (by omega) (by omega) (fun j hj => ?_)⟩⟩
      · exfalso; rw [yn_le (by omega) (by omega)] at hh; omega
      · rw [hg]
        by_cases q : j = k
        · rw [q, yupd_same, hB k (by omega)]
          cases al k
          · exact ynar0
          · exact ynar1
        · rw [yupd_ne _ _ _ _ q]; exact hip j (by omega)
  unfold wX9_findPieceOfAll
  exact ⟨_, h2 (M-0) 0 f18 rfl (by omega) (fun j hj => absurd hj (Nat.not_lt_zero _))⟩
end



-- the reference: its calls
section
variable {N M : Nat} {F T : Nat → Nat} {al : Nat → Bool} {rs : Nat → Nat} {rw' : Nat → Nat → Nat}
variable {t0 t1 t2 t7 t10 t11 t12 t13 t14 t15 t16 t17 t18 t19 t20 t21 t22 t23 t24 t25 t26 t27 t28 t29 t30 t31 t32 t33 t34 t35 t36 t37 t38 t39 t40 t41 t42 t43 t44 t45 t46 t47 t48 t49 t50 t51 t52 t53 t54 t55 t56 t57 t58 t59 t60 t61 t62 t63 t64 t65 t66 t67 t68 t69 t70 t71 t72 t73 t74 t75 t76 t77 t78 t79 t80 : Nat → Int32} {t3 t4 t5 t6 t8 t9 : Nat → Int64} {t81 t82 t83 t84 t85 t86 t87 t88 t89 t90 t91 t92 t93 t94 t95 t96 t97 t98 t99 t100 t101 t102 t103 t104 t105 t106 t107 t108 t109 t110 t111 t112 t113 t114 t115 t116 t117 : Int32}

theorem w9_isNode (hN : N ≤ 180) (p i1 i2 i3 i4 i5 i6 i7 i8 i9 i10 i11 i12 i13 i14 i15 i16 i17 : Int32) (K : Int32 → Unit → Prop) (h1 : ∀ v, v < N → p = Int32.ofNat v → K 1 ()) (h0 : ¬ yHn N p → K 0 ()) : wX9_isNode (Int32.ofNat N) i1 i2 i3 i4 i5 i6 i7 i8 i9 i10 i11 i12 i13 i14 i15 i16 i17 p K := by
  unfold wX9_isNode
  refine ⟨fun hp => h0 ?_, fun hp => ?_⟩
  · rintro ⟨v, a1, a2⟩
    rw [a2] at hp; exact yn_neg (by omega) hp
  obtain ⟨v, hv, rfl⟩ := yn_of hp
  refine ⟨fun hle => h0 ?_, fun hlt => h1 v ?_ rfl⟩
  · rw [yn_le (by omega) (by omega)] at hle
    rintro ⟨v', a1, a2⟩
    have := (yn_inj (by omega) (by omega)).1 a2; omega
  · rw [yn_le (by omega) (by omega)] at hlt; omega

theorem w9_isArc (hM : M ≤ 80) {there : Nat → Int32} (hB : yBo M al there) (p i0 i2 i3 i4 i5 i6 i7 i8 i9 i10 i11 i12 i13 i14 i15 i16 i17 : Int32) (K : Int32 → Unit → Prop) (h1 : ∀ k, k < M → al k = true → p = Int32.ofNat k → K 1 ()) (h0 : ¬ yHa M al p → K 0 ()) : wX9_isArc i0 (Int32.ofNat M) i2 i3 i4 i5 i6 i7 i8 i9 i10 i11 i12 i13 i14 i15 i16 i17 there p K := by
  unfold wX9_isArc
  refine ⟨fun hp => h0 ?_, fun hp => ?_⟩
  · rintro ⟨k, a1, a2, a3⟩
    rw [a3] at hp; exact yn_neg (by omega) hp
  obtain ⟨k, hk, rfl⟩ := yn_of hp
  refine ⟨fun hle => h0 ?_, fun hlt => ?_⟩
  · rw [yn_le (by omega) (by omega)] at hle
    rintro ⟨k', a1, a2, a3⟩
    have := (yn_inj (by omega) (by omega)).1 a3; omega
  rw [yn_le (by omega) (by omega)] at hlt
  rw [yn_nat (by omega)]
  refine ⟨yn_in (by omega) (by omega), fun hz => h0 ?_, fun hnz => h1 k (by omega) ?_ rfl⟩
  · rintro ⟨k', a1, a2, a3⟩
    have := (yn_inj (by omega) (by omega)).1 a3
    rw [← this, (yBo_iff hB (by omega)).1 hz] at a2; cases a2
  · cases e : al k with
    | true => rfl
    | false => exact absurd ((yBo_iff hB (by omega)).2 e) hnz

theorem yRr_get {rz ro : Nat → Int32} (h : yRr N rs rw' rz ro) (hN : N ≤ 20) {v : Nat} (hv : v < N) (p1 : Int32) (P : Int32 → Prop) (h1 : ∀ i, i < rs v → p1 = Int32.ofNat i → P (Int32.ofNat (rw' v i))) (h0 : ¬ yHn (rs v) p1 → P (-1)) :
    (p1 < 0 → P (-1)) ∧ (¬ p1 < 0 → (vp_in (Int32.ofNat v) 20 ∧ ((rz (Int32.toNatClampNeg (Int32.ofNat v)) ≤ p1 → P (-1)) ∧ (¬ rz (Int32.toNatClampNeg (Int32.ofNat v)) ≤ p1 → (vp_in (((160 : Int32) * Int32.ofNat v) + p1) 3200 ∧ P (ro (Int32.toNatClampNeg (((160 : Int32) * Int32.ofNat v) + p1)))))))) := by
  have h160 := h.2.2.1 v hv
  refine ⟨fun hp => h0 ?_, fun hp => ⟨yn_in (by omega) (by omega), ?_⟩⟩
  · rintro ⟨k, a1, a2⟩
    rw [a2] at hp; exact yn_neg (by omega) hp
  obtain ⟨i, hi, rfl⟩ := yn_of hp
  rw [yn_nat (by omega), h.1 v hv, yn_le (by omega) (by omega), yn_160]
  refine ⟨fun hle => h0 ?_, fun hlt => ?_⟩
  · rintro ⟨k, a1, a2⟩
    have := (yn_inj (by omega) (by omega)).1 a2; omega
  rw [yn_nat (by omega), h.2.1 v i hv (by omega)]
  exact ⟨yn_in (by omega) (by omega), h1 i (by omega) rfl⟩

theorem yKnR_p {pl : Int32} {ip pe ar as tz tn xs ys : Nat → Int32} (h : yKnR N M F T al pl ip pe ar as tz tn xs ys) (hp : yPln N (yGk M F T al)) :
    yRnds N (yGf N (yGk M F T al)) (yNu N (yGf N (yGk M F T al))) ar as ∧ yRr N (fun v => (yTn N M F T al v).length) (fun v i => (yTn N M F T al v).getD i 0) tz tn ∧ yPlc N (yGf N (yGk M F T al)) xs ys ∧ ySg N (yGf N (yGk M F T al)) ∧ yEr N (yNd F T) (fun e => yLv M al e = true) (fun v => (yTn N M F T al v).length) (fun v i => (yTn N M F T al v).getD i 0) := by
  rcases h with h | h
  · exact h.2.2
  · exact absurd hp h.2.1

theorem yKnR_n {pl : Int32} {ip pe ar as tz tn xs ys : Nat → Int32} (h : yKnR N M F T al pl ip pe ar as tz tn xs ys) (hp : ¬ yPln N (yGk M F T al)) :
    yBo M (yKp N M F T M al) ip ∧ ∀ v, v < N → pe v = Int32.ofNat (yEc M F T (yKp N M F T M al) v) := by
  rcases h with h | h
  · exact absurd h.2.1 hp
  · exact h.2.2

theorem yDeg20 {g : Nat → Nat → Bool} (hN : N ≤ 20) (h : ySg N g) (v : Nat) : yNb 32 (g v) ≤ 20 := by
  have : ∀ m, yNb m (g v) ≤ 20 := by
    intro m
    by_cases q : m ≤ 20
    · exact Nat.le_trans (yEcnt_le m _) q
    · have e : yNb m (g v) = yNb 20 (g v) := by
        induction m with
        | zero => omega
        | succ m ih =>
          have hf : g v m = false := by
            cases w : g v m with
            | false => rfl
            | true => have := (h.1 v m w).2.1; omega
          rw [yNb_f hf]
          by_cases q' : m = 20
          · rw [q']
          · exact ih (by omega)
      rw [e]; exact yEcnt_le 20 _
  exact this 32

theorem yLw_ex9 {g : Nat → Nat → Bool} {v i : Nat} (h : i < yNb 32 (g v)) : ∃ w, yLw g v w := by
  have : ∀ m, (∃ w, yLw g v w) ∨ ∀ j, j < m → g v j = false := by
    intro m
    induction m with
    | zero => right; intro j hj; omega
    | succ m ih =>
      rcases ih with ih | ih
      · exact Or.inl ih
      · cases w : g v m with
        | true => exact Or.inl ⟨m, w, ih⟩
        | false =>
          right
          intro j hj
          by_cases q : j = m
          · rw [q]; exact w
          · exact ih j (by omega)
  rcases this 32 with h1 | h1
  · exact h1
  · exfalso
    have h0 : ∀ m, m ≤ 32 → yNb m (g v) = 0 := by
      intro m
      induction m with
      | zero => intro _; rfl
      | succ m ih => intro hm; rw [yNb_f (h1 m (by omega))]; exact ih (by omega)
    have := h0 32 (by omega); omega

theorem w9_piece14 (hM : M ≤ 80) {c : Nat → Bool} (p : Int32) (u : (Int32 × Int32 × Int32 × Int32 × Int32 × Int32 × Int32 × Int32 × Int32 × Int32 × Int32 × Int32 × Int32 × Int32 × Int32 × (Nat → Int32) × (Nat → Int32) × (Nat → Int32) × (Nat → Int32) × (Nat → Int32) × (Nat → Int32) × (Nat → Int32) × (Nat → Int32) × (Nat → Int32) × (Nat → Int32) × (Nat → Int32) × (Nat → Int32) × (Nat → Int32) × (Nat → Int32) × (Nat → Int32) × (Nat → Int32) × (Nat → Int32) × (Nat → Int32) × (Nat → Int32) × (Nat → Int32) × (Nat → Int32) × (Nat → Int32) × (Nat → Int32) × (Nat → Int32) × (Nat → Int32) × (Nat → Int32) × (Nat → Int32) × (Nat → Int32) × (Nat → Int32) × (Nat → Int32) × (Nat → Int32))) (hB : yBo M c (u.2.2.2.2.2.2.2.2.2.2.2.2.2.2.2.2.1)) (K : Int32 → (Int32 × Int32 × Int32 × Int32 × Int32 × Int32 × Int32 × Int32 × Int32 × Int32 × Int32 × Int32 × Int32 × Int32 × Int32 × (Nat → Int32) × (Nat → Int32) × (Nat → Int32) × (Nat → Int32) × (Nat → Int32) × (Nat → Int32) × (Nat → Int32) × (Nat → Int32) × (Nat → Int32) × (Nat → Int32) × (Nat → Int32) × (Nat → Int32) × (Nat → Int32) × (Nat → Int32) × (Nat → Int32) × (Nat → Int32) × (Nat → Int32) × (Nat → Int32) × (Nat → Int32) × (Nat → Int32) × (Nat → Int32) × (Nat → Int32) × (Nat → Int32) × (Nat → Int32) × (Nat → Int32) × (Nat → Int32) × (Nat → Int32) × (Nat → Int32) × (Nat → Int32) × (Nat → Int32) × (Nat → Int32)) → Prop) (hK : K (yNth c p M 0 0) (u.1, u.2.1, u.2.2.1, u.2.2.2.1, u.2.2.2.2.1, u.2.2.2.2.2.1, u.2.2.2.2.2.2.1, u.2.2.2.2.2.2.2.1, u.2.2.2.2.2.2.2.2.1, u.2.2.2.2.2.2.2.2.2.1, u.2.2.2.2.2.2.2.2.2.2.1, u.2.2.2.2.2.2.2.2.2.2.2.1, u.2.2.2.2.2.2.2.2.2.2.2.2.1, u.2.2.2.2.2.2.2.2.2.2.2.2.2.1, u.2.2.2.2.2.2.2.2.2.2.2.2.2.2.1, u.2.2.2.2.2.2.2.2.2.2.2.2.2.2.2.1, u.2.2.2.2.2.2.2.2.2.2.2.2.2.2.2.2.1, u.2.2.2.2.2.2.2.2.2.2.2.2.2.2.2.2.2.1, u.2.2.2.2.2.2.2.2.2.2.2.2.2.2.2.2.2.2.1, u.2.2.2.2.2.2.2.2.2.2.2.2.2.2.2.2.2.2.2.1, u.2.2.2.2.2.2.2.2.2.2.2.2.2.2.2.2.2.2.2.2.1, u.2.2.2.2.2.2.2.2.2.2.2.2.2.2.2.2.2.2.2.2.2.1, u.2.2.2.2.2.2.2.2.2.2.2.2.2.2.2.2.2.2.2.2.2.2.1, u.2.2.2.2.2.2.2.2.2.2.2.2.2.2.2.2.2.2.2.2.2.2.2.1, u.2.2.2.2.2.2.2.2.2.2.2.2.2.2.2.2.2.2.2.2.2.2.2.2.1, u.2.2.2.2.2.2.2.2.2.2.2.2.2.2.2.2.2.2.2.2.2.2.2.2.2.1, u.2.2.2.2.2.2.2.2.2.2.2.2.2.2.2.2.2.2.2.2.2.2.2.2.2.2.1, u.2.2.2.2.2.2.2.2.2.2.2.2.2.2.2.2.2.2.2.2.2.2.2.2.2.2.2.1, u.2.2.2.2.2.2.2.2.2.2.2.2.2.2.2.2.2.2.2.2.2.2.2.2.2.2.2.2.1, u.2.2.2.2.2.2.2.2.2.2.2.2.2.2.2.2.2.2.2.2.2.2.2.2.2.2.2.2.2.1, u.2.2.2.2.2.2.2.2.2.2.2.2.2.2.2.2.2.2.2.2.2.2.2.2.2.2.2.2.2.2.1, u.2.2.2.2.2.2.2.2.2.2.2.2.2.2.2.2.2.2.2.2.2.2.2.2.2.2.2.2.2.2.2.1, u.2.2.2.2.2.2.2.2.2.2.2.2.2.2.2.2.2.2.2.2.2.2.2.2.2.2.2.2.2.2.2.2.1, u.2.2.2.2.2.2.2.2.2.2.2.2.2.2.2.2.2.2.2.2.2.2.2.2.2.2.2.2.2.2.2.2.2.1, u.2.2.2.2.2.2.2.2.2.2.2.2.2.2.2.2.2.2.2.2.2.2.2.2.2.2.2.2.2.2.2.2.2.2.1, u.2.2.2.2.2.2.2.2.2.2.2.2.2.2.2.2.2.2.2.2.2.2.2.2.2.2.2.2.2.2.2.2.2.2.2.1, u.2.2.2.2.2.2.2.2.2.2.2.2.2.2.2.2.2.2.2.2.2.2.2.2.2.2.2.2.2.2.2.2.2.2.2.2.1, u.2.2.2.2.2.2.2.2.2.2.2.2.2.2.2.2.2.2.2.2.2.2.2.2.2.2.2.2.2.2.2.2.2.2.2.2.2.1, u.2.2.2.2.2.2.2.2.2.2.2.2.2.2.2.2.2.2.2.2.2.2.2.2.2.2.2.2.2.2.2.2.2.2.2.2.2.2.1, u.2.2.2.2.2.2.2.2.2.2.2.2.2.2.2.2.2.2.2.2.2.2.2.2.2.2.2.2.2.2.2.2.2.2.2.2.2.2.2.1, u.2.2.2.2.2.2.2.2.2.2.2.2.2.2.2.2.2.2.2.2.2.2.2.2.2.2.2.2.2.2.2.2.2.2.2.2.2.2.2.2.1, u.2.2.2.2.2.2.2.2.2.2.2.2.2.2.2.2.2.2.2.2.2.2.2.2.2.2.2.2.2.2.2.2.2.2.2.2.2.2.2.2.2.1, u.2.2.2.2.2.2.2.2.2.2.2.2.2.2.2.2.2.2.2.2.2.2.2.2.2.2.2.2.2.2.2.2.2.2.2.2.2.2.2.2.2.2.1, u.2.2.2.2.2.2.2.2.2.2.2.2.2.2.2.2.2.2.2.2.2.2.2.2.2.2.2.2.2.2.2.2.2.2.2.2.2.2.2.2.2.2.2.1, u.2.2.2.2.2.2.2.2.2.2.2.2.2.2.2.2.2.2.2.2.2.2.2.2.2.2.2.2.2.2.2.2.2.2.2.2.2.2.2.2.2.2.2.2.1, u.2.2.2.2.2.2.2.2.2.2.2.2.2.2.2.2.2.2.2.2.2.2.2.2.2.2.2.2.2.2.2.2.2.2.2.2.2.2.2.2.2.2.2.2.2)) : ∃ n, wLX9_piece_14 (Int32.ofNat M) p u K n 0 0 := by
  have key : ∀ d i n, M - i = d → i ≤ M → n ≤ i → K (yNth c p d i n) (u.1, u.2.1, u.2.2.1, u.2.2.2.1, u.2.2.2.2.1, u.2.2.2.2.2.1, u.2.2.2.2.2.2.1, u.2.2.2.2.2.2.2.1, u.2.2.2.2.2.2.2.2.1, u.2.2.2.2.2.2.2.2.2.1, u.2.2.2.2.2.2.2.2.2.2.1, u.2.2.2.2.2.2.2.2.2.2.2.1, u.2.2.2.2.2.2.2.2.2.2.2.2.1, u.2.2.2.2.2.2.2.2.2.2.2.2.2.1, u.2.2.2.2.2.2.2.2.2.2.2.2.2.2.1, u.2.2.2.2.2.2.2.2.2.2.2.2.2.2.2.1, u.2.2.2.2.2.2.2.2.2.2.2.2.2.2.2.2.1, u.2.2.2.2.2.2.2.2.2.2.2.2.2.2.2.2.2.1, u.2.2.2.2.2.2.2.2.2.2.2.2.2.2.2.2.2.2.1, u.2.2.2.2.2.2.2.2.2.2.2.2.2.2.2.2.2.2.2.1, u.2.2.2.2.2.2.2.2.2.2.2.2.2.2.2.2.2.2.2.2.1, u.2.2.2.2.2.2.2.2.2.2.2.2.2.2.2.2.2.2.2.2.2.1, u.2.2.2.2.2.2.2.2.2.2.2.2.2.2.2.2.2.2.2.2.2.2.1, u.2.2.2.2.2.2.2.2.2.2.2.2.2.2.2.2.2.2.2.2.2.2.2.1, u.2.2.2.2.2.2.2.2.2.2.2.2.2.2.2.2.2.2.2.2.2.2.2.2.1, u.2.2.2.2.2.2.2.2.2.2.2.2.2.2.2.2.2.2.2.2.2.2.2.2.2.1, u.2.2.2.2.2.2.2.2.2.2.2.2.2.2.2.2.2.2.2.2.2.2.2.2.2.2.1, u.2.2.2.2.2.2.2.2.2.2.2.2.2.2.2.2.2.2.2.2.2.2.2.2.2.2.2.1, u.2.2.2.2.2.2.2.2.2.2.2.2.2.2.2.2.2.2.2.2.2.2.2.2.2.2.2.2.1, u.2.2.2.2.2.2.2.2.2.2.2.2.2.2.2.2.2.2.2.2.2.2.2.2.2.2.2.2.2.1, u.2.2.2.2.2.2.2.2.2.2.2.2.2.2.2.2.2.2.2.2.2.2.2.2.2.2.2.2.2.2.1, u.2.2.2.2.2.2.2.2.2.2.2.2.2.2.2.2.2.2.2.2.2.2.2.2.2.2.2.2.2.2.2.1, u.2.2.2.2.2.2.2.2.2.2.2.2.2.2.2.2.2.2.2.2.2.2.2.2.2.2.2.2.2.2.2.2.1, u.2.2.2.2.2.2.2.2.2.2.2.2.2.2.2.2.2.2.2.2.2.2.2.2.2.2.2.2.2.2.2.2.2.1, u.2.2.2.2.2.2.2.2.2.2.2.2.2.2.2.2.2.2.2.2.2.2.2.2.2.2.2.2.2.2.2.2.2.2.1, u.2.2.2.2.2.2.2.2.2.2.2.2.2.2.2.2.2.2.2.2.2.2.2.2.2.2.2.2.2.2.2.2.2.2.2.1, u.2.2.2.2.2.2.2.2.2.2.2.2.2.2.2.2.2.2.2.2.2.2.2.2.2.2.2.2.2.2.2.2.2.2.2.2.1, u.2.2.2.2.2.2.2.2.2.2.2.2.2.2.2.2.2.2.2.2.2.2.2.2.2.2.2.2.2.2.2.2.2.2.2.2.2.1, u.2.2.2.2.2.2.2.2.2.2.2.2.2.2.2.2.2.2.2.2.2.2.2.2.2.2.2.2.2.2.2.2.2.2.2.2.2.2.1, u.2.2.2.2.2.2.2.2.2.2.2.2.2.2.2.2.2.2.2.2.2.2.2.2.2.2.2.2.2.2.2.2.2.2.2.2.2.2.2.1, u.2.2.2.2.2.2.2.2.2.2.2.2.2.2.2.2.2.2.2.2.2.2.2.2.2.2.2.2.2.2.2.2.2.2.2.2.2.2.2.2.1, u.2.2.2.2.2.2.2.2.2.2.2.2.2.2.2.2.2.2.2.2.2.2.2.2.2.2.2.2.2.2.2.2.2.2.2.2.2.2.2.2.2.1, u.2.2.2.2.2.2.2.2.2.2.2.2.2.2.2.2.2.2.2.2.2.2.2.2.2.2.2.2.2.2.2.2.2.2.2.2.2.2.2.2.2.2.1, u.2.2.2.2.2.2.2.2.2.2.2.2.2.2.2.2.2.2.2.2.2.2.2.2.2.2.2.2.2.2.2.2.2.2.2.2.2.2.2.2.2.2.2.1, u.2.2.2.2.2.2.2.2.2.2.2.2.2.2.2.2.2.2.2.2.2.2.2.2.2.2.2.2.2.2.2.2.2.2.2.2.2.2.2.2.2.2.2.2.1, u.2.2.2.2.2.2.2.2.2.2.2.2.2.2.2.2.2.2.2.2.2.2.2.2.2.2.2.2.2.2.2.2.2.2.2.2.2.2.2.2.2.2.2.2.2) → wLX9_piece_14 (Int32.ofNat M) p u K (d+1) (Int32.ofNat n) (Int32.ofNat i) := by
    intro d
    induction d with
    | zero =>
      intro i n hd hi hn hk
      unfold wLX9_piece_14
      refine ⟨fun _ => hk, fun hh => ?_⟩
      exfalso; apply hh; rw [yn_le (by omega) (by omega)]; omega
    | succ d ih =>
      intro i n hd hi hn hk
      have ei : Int32.ofNat i + 1 = Int32.ofNat (i+1) := yn_add i 1
      have en : Int32.ofNat n + 1 = Int32.ofNat (n+1) := yn_add n 1
      unfold yNth at hk
      unfold wLX9_piece_14
      rw [ei, en, yn_nat (by omega)]
      refine ⟨fun hh => ?_, fun _ => ⟨yn_in (by omega) (by omega), fun hz => ?_, fun hnz => ⟨fun hp => ?_, fun hp => ?_⟩⟩⟩
      · exfalso; rw [yn_le (by omega) (by omega)] at hh; omega
      · rw [if_neg (by rw [(yBo_iff hB (by omega)).1 hz]; simp)] at hk
        exact ih (i+1) n (by omega) (by omega) (by omega) hk
      all_goals
        have hc : c i = true := by
          cases q : c i with
          | true => rfl
          | false => exact absurd ((yBo_iff hB (by omega)).2 q) hnz
        rw [if_pos hc] at hk
      · rw [if_neg hp] at hk
        exact ih (i+1) (n+1) (by omega) (by omega) (by omega) hk
      · rw [if_pos hp] at hk; exact hk
  exact ⟨_, key (M-0) 0 0 rfl (by omega) (by omega) hK⟩

theorem w9_branch14 (hN : N ≤ 20) (hM : M ≤ 80) {c : Nat → Bool} (p : Int32) (u : (Int32 × Int32 × Int32 × Int32 × Int32 × Int32 × Int32 × Int32 × Int32 × Int32 × Int32 × Int32 × Int32 × Int32 × Int32 × (Nat → Int32) × (Nat → Int32) × (Nat → Int32) × (Nat → Int32) × (Nat → Int32) × (Nat → Int32) × (Nat → Int32) × (Nat → Int32) × (Nat → Int32) × (Nat → Int32) × (Nat → Int32) × (Nat → Int32) × (Nat → Int32) × (Nat → Int32) × (Nat → Int32) × (Nat → Int32) × (Nat → Int32) × (Nat → Int32) × (Nat → Int32) × (Nat → Int32) × (Nat → Int32) × (Nat → Int32) × (Nat → Int32) × (Nat → Int32) × (Nat → Int32) × (Nat → Int32) × (Nat → Int32) × (Nat → Int32) × (Nat → Int32) × (Nat → Int32) × (Nat → Int32))) (hE : ∀ v, v < N → (u.2.2.2.2.2.2.2.2.2.2.2.2.2.2.2.2.2.2.2.2.2.2.2.2.2.2.2.2.2.1) v = Int32.ofNat (yEc M F T c v)) (K : Int32 → (Int32 × Int32 × Int32 × Int32 × Int32 × Int32 × Int32 × Int32 × Int32 × Int32 × Int32 × Int32 × Int32 × Int32 × Int32 × (Nat → Int32) × (Nat → Int32) × (Nat → Int32) × (Nat → Int32) × (Nat → Int32) × (Nat → Int32) × (Nat → Int32) × (Nat → Int32) × (Nat → Int32) × (Nat → Int32) × (Nat → Int32) × (Nat → Int32) × (Nat → Int32) × (Nat → Int32) × (Nat → Int32) × (Nat → Int32) × (Nat → Int32) × (Nat → Int32) × (Nat → Int32) × (Nat → Int32) × (Nat → Int32) × (Nat → Int32) × (Nat → Int32) × (Nat → Int32) × (Nat → Int32) × (Nat → Int32) × (Nat → Int32) × (Nat → Int32) × (Nat → Int32) × (Nat → Int32) × (Nat → Int32)) → Prop) (hK : K (yNth (fun v => decide (3 ≤ yEc M F T c v)) p N 0 0) (u.1, u.2.1, u.2.2.1, u.2.2.2.1, u.2.2.2.2.1, u.2.2.2.2.2.1, u.2.2.2.2.2.2.1, u.2.2.2.2.2.2.2.1, u.2.2.2.2.2.2.2.2.1, u.2.2.2.2.2.2.2.2.2.1, u.2.2.2.2.2.2.2.2.2.2.1, u.2.2.2.2.2.2.2.2.2.2.2.1, u.2.2.2.2.2.2.2.2.2.2.2.2.1, u.2.2.2.2.2.2.2.2.2.2.2.2.2.1, u.2.2.2.2.2.2.2.2.2.2.2.2.2.2.1, u.2.2.2.2.2.2.2.2.2.2.2.2.2.2.2.1, u.2.2.2.2.2.2.2.2.2.2.2.2.2.2.2.2.1, u.2.2.2.2.2.2.2.2.2.2.2.2.2.2.2.2.2.1, u.2.2.2.2.2.2.2.2.2.2.2.2.2.2.2.2.2.2.1, u.2.2.2.2.2.2.2.2.2.2.2.2.2.2.2.2.2.2.2.1, u.2.2.2.2.2.2.2.2.2.2.2.2.2.2.2.2.2.2.2.2.1, u.2.2.2.2.2.2.2.2.2.2.2.2.2.2.2.2.2.2.2.2.2.1, u.2.2.2.2.2.2.2.2.2.2.2.2.2.2.2.2.2.2.2.2.2.2.1, u.2.2.2.2.2.2.2.2.2.2.2.2.2.2.2.2.2.2.2.2.2.2.2.1, u.2.2.2.2.2.2.2.2.2.2.2.2.2.2.2.2.2.2.2.2.2.2.2.2.1, u.2.2.2.2.2.2.2.2.2.2.2.2.2.2.2.2.2.2.2.2.2.2.2.2.2.1, u.2.2.2.2.2.2.2.2.2.2.2.2.2.2.2.2.2.2.2.2.2.2.2.2.2.2.1, u.2.2.2.2.2.2.2.2.2.2.2.2.2.2.2.2.2.2.2.2.2.2.2.2.2.2.2.1, u.2.2.2.2.2.2.2.2.2.2.2.2.2.2.2.2.2.2.2.2.2.2.2.2.2.2.2.2.1, u.2.2.2.2.2.2.2.2.2.2.2.2.2.2.2.2.2.2.2.2.2.2.2.2.2.2.2.2.2.1, u.2.2.2.2.2.2.2.2.2.2.2.2.2.2.2.2.2.2.2.2.2.2.2.2.2.2.2.2.2.2.1, u.2.2.2.2.2.2.2.2.2.2.2.2.2.2.2.2.2.2.2.2.2.2.2.2.2.2.2.2.2.2.2.1, u.2.2.2.2.2.2.2.2.2.2.2.2.2.2.2.2.2.2.2.2.2.2.2.2.2.2.2.2.2.2.2.2.1, u.2.2.2.2.2.2.2.2.2.2.2.2.2.2.2.2.2.2.2.2.2.2.2.2.2.2.2.2.2.2.2.2.2.1, u.2.2.2.2.2.2.2.2.2.2.2.2.2.2.2.2.2.2.2.2.2.2.2.2.2.2.2.2.2.2.2.2.2.2.1, u.2.2.2.2.2.2.2.2.2.2.2.2.2.2.2.2.2.2.2.2.2.2.2.2.2.2.2.2.2.2.2.2.2.2.2.1, u.2.2.2.2.2.2.2.2.2.2.2.2.2.2.2.2.2.2.2.2.2.2.2.2.2.2.2.2.2.2.2.2.2.2.2.2.1, u.2.2.2.2.2.2.2.2.2.2.2.2.2.2.2.2.2.2.2.2.2.2.2.2.2.2.2.2.2.2.2.2.2.2.2.2.2.1, u.2.2.2.2.2.2.2.2.2.2.2.2.2.2.2.2.2.2.2.2.2.2.2.2.2.2.2.2.2.2.2.2.2.2.2.2.2.2.1, u.2.2.2.2.2.2.2.2.2.2.2.2.2.2.2.2.2.2.2.2.2.2.2.2.2.2.2.2.2.2.2.2.2.2.2.2.2.2.2.1, u.2.2.2.2.2.2.2.2.2.2.2.2.2.2.2.2.2.2.2.2.2.2.2.2.2.2.2.2.2.2.2.2.2.2.2.2.2.2.2.2.1, u.2.2.2.2.2.2.2.2.2.2.2.2.2.2.2.2.2.2.2.2.2.2.2.2.2.2.2.2.2.2.2.2.2.2.2.2.2.2.2.2.2.1, u.2.2.2.2.2.2.2.2.2.2.2.2.2.2.2.2.2.2.2.2.2.2.2.2.2.2.2.2.2.2.2.2.2.2.2.2.2.2.2.2.2.2.1, u.2.2.2.2.2.2.2.2.2.2.2.2.2.2.2.2.2.2.2.2.2.2.2.2.2.2.2.2.2.2.2.2.2.2.2.2.2.2.2.2.2.2.2.1, u.2.2.2.2.2.2.2.2.2.2.2.2.2.2.2.2.2.2.2.2.2.2.2.2.2.2.2.2.2.2.2.2.2.2.2.2.2.2.2.2.2.2.2.2.1, u.2.2.2.2.2.2.2.2.2.2.2.2.2.2.2.2.2.2.2.2.2.2.2.2.2.2.2.2.2.2.2.2.2.2.2.2.2.2.2.2.2.2.2.2.2)) : ∃ n, wLX9_branch_14 (Int32.ofNat N) p u K n 0 0 := by
  have e2 : (2 : Int32) = Int32.ofNat 2 := rfl
  have key : ∀ d i n, N - i = d → i ≤ N → n ≤ i → K (yNth (fun v => decide (3 ≤ yEc M F T c v)) p d i n) (u.1, u.2.1, u.2.2.1, u.2.2.2.1, u.2.2.2.2.1, u.2.2.2.2.2.1, u.2.2.2.2.2.2.1, u.2.2.2.2.2.2.2.1, u.2.2.2.2.2.2.2.2.1, u.2.2.2.2.2.2.2.2.2.1, u.2.2.2.2.2.2.2.2.2.2.1, u.2.2.2.2.2.2.2.2.2.2.2.1, u.2.2.2.2.2.2.2.2.2.2.2.2.1, u.2.2.2.2.2.2.2.2.2.2.2.2.2.1, u.2.2.2.2.2.2.2.2.2.2.2.2.2.2.1, u.2.2.2.2.2.2.2.2.2.2.2.2.2.2.2.1, u.2.2.2.2.2.2.2.2.2.2.2.2.2.2.2.2.1, u.2.2.2.2.2.2.2.2.2.2.2.2.2.2.2.2.2.1, u.2.2.2.2.2.2.2.2.2.2.2.2.2.2.2.2.2.2.1, u.2.2.2.2.2.2.2.2.2.2.2.2.2.2.2.2.2.2.2.1, u.2.2.2.2.2.2.2.2.2.2.2.2.2.2.2.2.2.2.2.2.1, u.2.2.2.2.2.2.2.2.2.2.2.2.2.2.2.2.2.2.2.2.2.1, u.2.2.2.2.2.2.2.2.2.2.2.2.2.2.2.2.2.2.2.2.2.2.1, u.2.2.2.2.2.2.2.2.2.2.2.2.2.2.2.2.2.2.2.2.2.2.2.1, u.2.2.2.2.2.2.2.2.2.2.2.2.2.2.2.2.2.2.2.2.2.2.2.2.1, u.2.2.2.2.2.2.2.2.2.2.2.2.2.2.2.2.2.2.2.2.2.2.2.2.2.1, u.2.2.2.2.2.2.2.2.2.2.2.2.2.2.2.2.2.2.2.2.2.2.2.2.2.2.1, u.2.2.2.2.2.2.2.2.2.2.2.2.2.2.2.2.2.2.2.2.2.2.2.2.2.2.2.1, u.2.2.2.2.2.2.2.2.2.2.2.2.2.2.2.2.2.2.2.2.2.2.2.2.2.2.2.2.1, u.2.2.2.2.2.2.2.2.2.2.2.2.2.2.2.2.2.2.2.2.2.2.2.2.2.2.2.2.2.1, u.2.2.2.2.2.2.2.2.2.2.2.2.2.2.2.2.2.2.2.2.2.2.2.2.2.2.2.2.2.2.1, u.2.2.2.2.2.2.2.2.2.2.2.2.2.2.2.2.2.2.2.2.2.2.2.2.2.2.2.2.2.2.2.1, u.2.2.2.2.2.2.2.2.2.2.2.2.2.2.2.2.2.2.2.2.2.2.2.2.2.2.2.2.2.2.2.2.1, u.2.2.2.2.2.2.2.2.2.2.2.2.2.2.2.2.2.2.2.2.2.2.2.2.2.2.2.2.2.2.2.2.2.1, u.2.2.2.2.2.2.2.2.2.2.2.2.2.2.2.2.2.2.2.2.2.2.2.2.2.2.2.2.2.2.2.2.2.2.1, u.2.2.2.2.2.2.2.2.2.2.2.2.2.2.2.2.2.2.2.2.2.2.2.2.2.2.2.2.2.2.2.2.2.2.2.1, u.2.2.2.2.2.2.2.2.2.2.2.2.2.2.2.2.2.2.2.2.2.2.2.2.2.2.2.2.2.2.2.2.2.2.2.2.1, u.2.2.2.2.2.2.2.2.2.2.2.2.2.2.2.2.2.2.2.2.2.2.2.2.2.2.2.2.2.2.2.2.2.2.2.2.2.1, u.2.2.2.2.2.2.2.2.2.2.2.2.2.2.2.2.2.2.2.2.2.2.2.2.2.2.2.2.2.2.2.2.2.2.2.2.2.2.1, u.2.2.2.2.2.2.2.2.2.2.2.2.2.2.2.2.2.2.2.2.2.2.2.2.2.2.2.2.2.2.2.2.2.2.2.2.2.2.2.1, u.2.2.2.2.2.2.2.2.2.2.2.2.2.2.2.2.2.2.2.2.2.2.2.2.2.2.2.2.2.2.2.2.2.2.2.2.2.2.2.2.1, u.2.2.2.2.2.2.2.2.2.2.2.2.2.2.2.2.2.2.2.2.2.2.2.2.2.2.2.2.2.2.2.2.2.2.2.2.2.2.2.2.2.1, u.2.2.2.2.2.2.2.2.2.2.2.2.2.2.2.2.2.2.2.2.2.2.2.2.2.2.2.2.2.2.2.2.2.2.2.2.2.2.2.2.2.2.1, u.2.2.2.2.2.2.2.2.2.2.2.2.2.2.2.2.2.2.2.2.2.2.2.2.2.2.2.2.2.2.2.2.2.2.2.2.2.2.2.2.2.2.2.1, u.2.2.2.2.2.2.2.2.2.2.2.2.2.2.2.2.2.2.2.2.2.2.2.2.2.2.2.2.2.2.2.2.2.2.2.2.2.2.2.2.2.2.2.2.1, u.2.2.2.2.2.2.2.2.2.2.2.2.2.2.2.2.2.2.2.2.2.2.2.2.2.2.2.2.2.2.2.2.2.2.2.2.2.2.2.2.2.2.2.2.2) → wLX9_branch_14 (Int32.ofNat N) p u K (d+1) (Int32.ofNat n) (Int32.ofNat i) := by
    intro d
    induction d with
    | zero =>
      intro i n hd hi hn hk
      unfold wLX9_branch_14
      refine ⟨fun _ => hk, fun hh => ?_⟩
      exfalso; apply hh; rw [yn_le (by omega) (by omega)]; omega
    | succ d ih =>
      intro i n hd hi hn hk
      have ei : Int32.ofNat i + 1 = Int32.ofNat (i+1) := yn_add i 1
      have en : Int32.ofNat n + 1 = Int32.ofNat (n+1) := yn_add n 1
      have hl := yEc_lt (F := F) (T := T) (c := c) hM i
      unfold yNth at hk
      unfold wLX9_branch_14
      rw [ei, en, yn_nat (by omega), hE i (by omega), e2, yn_le (by omega : yEc M F T c i < _) (by omega)]
      refine ⟨fun hh => ?_, fun _ => ⟨yn_in (by omega) (by omega), fun hz => ?_, fun hnz => ⟨fun hp => ?_, fun hp => ?_⟩⟩⟩
      · exfalso; rw [yn_le (by omega) (by omega)] at hh; omega
      · rw [if_neg (by rw [decide_eq_true_eq]; omega)] at hk
        exact ih (i+1) n (by omega) (by omega) (by omega) hk
      · rw [if_pos (by rw [decide_eq_true_eq]; omega), if_neg hp] at hk
        exact ih (i+1) (n+1) (by omega) (by omega) (by omega) hk
      · rw [if_pos (by rw [decide_eq_true_eq]; omega), if_pos hp] at hk; exact hk
  exact ⟨_, key (N-0) 0 0 rfl (by omega) (by omega) hK⟩

theorem w9_barred13 (hN : N ≤ 20) (hM : M ≤ 80) {c : Nat → Bool} (u : (Int32 × Int32 × Int32 × Int32 × Int32 × Int32 × Int32 × Int32 × Int32 × Int32 × Int32 × Int32 × Int32 × Int32 × Int32 × (Nat → Int32) × (Nat → Int32) × (Nat → Int32) × (Nat → Int32) × (Nat → Int32) × (Nat → Int32) × (Nat → Int32) × (Nat → Int32) × (Nat → Int32) × (Nat → Int32) × (Nat → Int32) × (Nat → Int32) × (Nat → Int32) × (Nat → Int32) × (Nat → Int32) × (Nat → Int32) × (Nat → Int32) × (Nat → Int32) × (Nat → Int32) × (Nat → Int32) × (Nat → Int32) × (Nat → Int32) × (Nat → Int32) × (Nat → Int32) × (Nat → Int32) × (Nat → Int32) × (Nat → Int32) × (Nat → Int32) × (Nat → Int32) × (Nat → Int32) × (Nat → Int32))) (hE : ∀ v, v < N → (u.2.2.2.2.2.2.2.2.2.2.2.2.2.2.2.2.2.2.2.2.2.2.2.2.2.2.2.2.2.1) v = Int32.ofNat (yEc M F T c v)) (K : Int32 → (Int32 × Int32 × Int32 × Int32 × Int32 × Int32 × Int32 × Int32 × Int32 × Int32 × Int32 × Int32 × Int32 × Int32 × Int32 × (Nat → Int32) × (Nat → Int32) × (Nat → Int32) × (Nat → Int32) × (Nat → Int32) × (Nat → Int32) × (Nat → Int32) × (Nat → Int32) × (Nat → Int32) × (Nat → Int32) × (Nat → Int32) × (Nat → Int32) × (Nat → Int32) × (Nat → Int32) × (Nat → Int32) × (Nat → Int32) × (Nat → Int32) × (Nat → Int32) × (Nat → Int32) × (Nat → Int32) × (Nat → Int32) × (Nat → Int32) × (Nat → Int32) × (Nat → Int32) × (Nat → Int32) × (Nat → Int32) × (Nat → Int32) × (Nat → Int32) × (Nat → Int32) × (Nat → Int32) × (Nat → Int32)) → Prop) (hK : K (if yNb N (fun v => decide (yEc M F T c v = 4)) = 5 then 5 else 6) (u.1, u.2.1, u.2.2.1, u.2.2.2.1, u.2.2.2.2.1, u.2.2.2.2.2.1, u.2.2.2.2.2.2.1, u.2.2.2.2.2.2.2.1, u.2.2.2.2.2.2.2.2.1, u.2.2.2.2.2.2.2.2.2.1, u.2.2.2.2.2.2.2.2.2.2.1, u.2.2.2.2.2.2.2.2.2.2.2.1, u.2.2.2.2.2.2.2.2.2.2.2.2.1, u.2.2.2.2.2.2.2.2.2.2.2.2.2.1, u.2.2.2.2.2.2.2.2.2.2.2.2.2.2.1, u.2.2.2.2.2.2.2.2.2.2.2.2.2.2.2.1, u.2.2.2.2.2.2.2.2.2.2.2.2.2.2.2.2.1, u.2.2.2.2.2.2.2.2.2.2.2.2.2.2.2.2.2.1, u.2.2.2.2.2.2.2.2.2.2.2.2.2.2.2.2.2.2.1, u.2.2.2.2.2.2.2.2.2.2.2.2.2.2.2.2.2.2.2.1, u.2.2.2.2.2.2.2.2.2.2.2.2.2.2.2.2.2.2.2.2.1, u.2.2.2.2.2.2.2.2.2.2.2.2.2.2.2.2.2.2.2.2.2.1, u.2.2.2.2.2.2.2.2.2.2.2.2.2.2.2.2.2.2.2.2.2.2.1, u.2.2.2.2.2.2.2.2.2.2.2.2.2.2.2.2.2.2.2.2.2.2.2.1, u.2.2.2.2.2.2.2.2.2.2.2.2.2.2.2.2.2.2.2.2.2.2.2.2.1, u.2.2.2.2.2.2.2.2.2.2.2.2.2.2.2.2.2.2.2.2.2.2.2.2.2.1, u.2.2.2.2.2.2.2.2.2.2.2.2.2.2.2.2.2.2.2.2.2.2.2.2.2.2.1, u.2.2.2.2.2.2.2.2.2.2.2.2.2.2.2.2.2.2.2.2.2.2.2.2.2.2.2.1, u.2.2.2.2.2.2.2.2.2.2.2.2.2.2.2.2.2.2.2.2.2.2.2.2.2.2.2.2.1, u.2.2.2.2.2.2.2.2.2.2.2.2.2.2.2.2.2.2.2.2.2.2.2.2.2.2.2.2.2.1, u.2.2.2.2.2.2.2.2.2.2.2.2.2.2.2.2.2.2.2.2.2.2.2.2.2.2.2.2.2.2.1, u.2.2.2.2.2.2.2.2.2.2.2.2.2.2.2.2.2.2.2.2.2.2.2.2.2.2.2.2.2.2.2.1, u.2.2.2.2.2.2.2.2.2.2.2.2.2.2.2.2.2.2.2.2.2.2.2.2.2.2.2.2.2.2.2.2.1, u.2.2.2.2.2.2.2.2.2.2.2.2.2.2.2.2.2.2.2.2.2.2.2.2.2.2.2.2.2.2.2.2.2.1, u.2.2.2.2.2.2.2.2.2.2.2.2.2.2.2.2.2.2.2.2.2.2.2.2.2.2.2.2.2.2.2.2.2.2.1, u.2.2.2.2.2.2.2.2.2.2.2.2.2.2.2.2.2.2.2.2.2.2.2.2.2.2.2.2.2.2.2.2.2.2.2.1, u.2.2.2.2.2.2.2.2.2.2.2.2.2.2.2.2.2.2.2.2.2.2.2.2.2.2.2.2.2.2.2.2.2.2.2.2.1, u.2.2.2.2.2.2.2.2.2.2.2.2.2.2.2.2.2.2.2.2.2.2.2.2.2.2.2.2.2.2.2.2.2.2.2.2.2.1, u.2.2.2.2.2.2.2.2.2.2.2.2.2.2.2.2.2.2.2.2.2.2.2.2.2.2.2.2.2.2.2.2.2.2.2.2.2.2.1, u.2.2.2.2.2.2.2.2.2.2.2.2.2.2.2.2.2.2.2.2.2.2.2.2.2.2.2.2.2.2.2.2.2.2.2.2.2.2.2.1, u.2.2.2.2.2.2.2.2.2.2.2.2.2.2.2.2.2.2.2.2.2.2.2.2.2.2.2.2.2.2.2.2.2.2.2.2.2.2.2.2.1, u.2.2.2.2.2.2.2.2.2.2.2.2.2.2.2.2.2.2.2.2.2.2.2.2.2.2.2.2.2.2.2.2.2.2.2.2.2.2.2.2.2.1, u.2.2.2.2.2.2.2.2.2.2.2.2.2.2.2.2.2.2.2.2.2.2.2.2.2.2.2.2.2.2.2.2.2.2.2.2.2.2.2.2.2.2.1, u.2.2.2.2.2.2.2.2.2.2.2.2.2.2.2.2.2.2.2.2.2.2.2.2.2.2.2.2.2.2.2.2.2.2.2.2.2.2.2.2.2.2.2.1, u.2.2.2.2.2.2.2.2.2.2.2.2.2.2.2.2.2.2.2.2.2.2.2.2.2.2.2.2.2.2.2.2.2.2.2.2.2.2.2.2.2.2.2.2.1, u.2.2.2.2.2.2.2.2.2.2.2.2.2.2.2.2.2.2.2.2.2.2.2.2.2.2.2.2.2.2.2.2.2.2.2.2.2.2.2.2.2.2.2.2.2)) : ∃ n, wLX9_barred_13 (Int32.ofNat N) u K n 0 0 := by
  have e4 : (4 : Int32) = Int32.ofNat 4 := rfl
  have e5 : (5 : Int32) = Int32.ofNat 5 := rfl
  have key : ∀ d i, N - i = d → i ≤ N → wLX9_barred_13 (Int32.ofNat N) u K (d+1) (Int32.ofNat (yNb i (fun v => decide (yEc M F T c v = 4)))) (Int32.ofNat i) := by
    intro d
    induction d with
    | zero =>
      intro i hd hi
      have : i = N := by omega
      subst this
      have hl := yEcnt_le i (fun v => decide (yEc M F T c v = 4))
      unfold wLX9_barred_13
      refine ⟨fun _ => ⟨fun q => ?_, fun q => ?_⟩, fun hh => ?_⟩
      · rw [e5, yn_inj (by omega) (by omega)] at q; rw [if_neg q] at hK; exact hK
      · rw [e5, yn_inj (by omega) (by omega)] at q; rw [if_pos q] at hK; exact hK
      · exfalso; apply hh; rw [yn_le (by omega) (by omega)]; omega
    | succ d ih =>
      intro i hd hi
      have ei : Int32.ofNat i + 1 = Int32.ofNat (i+1) := yn_add i 1
      have en : Int32.ofNat (yNb i (fun v => decide (yEc M F T c v = 4))) + 1 = Int32.ofNat (yNb i (fun v => decide (yEc M F T c v = 4)) + 1) := yn_add _ 1
      have en0 : Int32.ofNat (yNb i (fun v => decide (yEc M F T c v = 4))) + 0 = Int32.ofNat (yNb i (fun v => decide (yEc M F T c v = 4))) := yn_add _ 0
      have hl := yEc_lt (F := F) (T := T) (c := c) hM i
      have hi1 := ih (i+1) (by omega) (by omega)
      unfold wLX9_barred_13
      rw [ei, en, en0, yn_nat (by omega), hE i (by omega), e4, yn_inj (by omega) (by omega)]
      refine ⟨fun hh => ?_, fun _ => ⟨yn_in (by omega) (by omega), fun q => ?_, fun q => ?_⟩⟩
      · exfalso; rw [yn_le (by omega) (by omega)] at hh; omega
      · intro v38 h38
        rw [yNb_f (decide_eq_false q)] at hi1
        rw [h38]; exact hi1
      · intro v38 h38
        rw [yNb_t (decide_eq_true q)] at hi1
        rw [h38]; exact hi1
  exact ⟨_, key (N-0) 0 rfl (by omega)⟩

theorem r_degree (h : yRS N M F T al rs rw' t86 t87 t102 t95 t41 t42 t53 t75 t64 t61 t62 t55 t56 t58 t57 t59 t60) (p0 : Int32) (K : Int32 → Unit → Prop)
    (hK : yRS N M F T al rs rw' t86 t87 t102 t95 t41 t42 t53 t75 t64 t61 t62 t55 t56 t58 t57 t59 t60 → K (yADeg N rs p0) ())
    : wX9_degree t86 t87 t102 t103 t88 t89 t90 t91 t92 t93 t94 t95 t96 t97 t98 t99 t100 t101 t75 p0 K := by
  obtain ⟨hab, e86, e87, hfr, hto, hB, hrr, hk⟩ := h
  subst e86 e87
  have hN := hab.1
  have hM := hab.2.1
  have hF := hab.2.2.1
  have hE := hab.2.2.2
  unfold wX9_degree
  unfold yADeg at hK
  refine w9_isNode (by omega) _ _ _ _ _ _ _ _ _ _ _ _ _ _ _ _ _ _ _ (fun v hv ev => ⟨fun z => absurd z (by decide), fun _ => ?_⟩) (fun hno => ⟨fun _ => ?_, fun z => absurd rfl z⟩)
  · subst ev
    rw [yIf_pos ⟨v, hv, rfl⟩, yn_nat (by omega)] at hK
    rw [yn_nat (by omega), hrr.1 v hv]
    exact ⟨yn_in (by omega) (by omega), hK ⟨hab, rfl, rfl, hfr, hto, hB, hrr, hk⟩⟩
  · rw [yIf_neg hno] at hK
    exact hK ⟨hab, rfl, rfl, hfr, hto, hB, hrr, hk⟩

theorem r_told (h : yRS N M F T al rs rw' t86 t87 t102 t95 t41 t42 t53 t75 t64 t61 t62 t55 t56 t58 t57 t59 t60) (p0 p1 : Int32) (K : Int32 → Unit → Prop)
    (hK : yRS N M F T al rs rw' t86 t87 t102 t95 t41 t42 t53 t75 t64 t61 t62 t55 t56 t58 t57 t59 t60 → K (yATold N rs rw' p0 p1) ())
    : wX9_told t86 t87 t102 t103 t88 t89 t90 t91 t92 t93 t94 t95 t96 t97 t98 t99 t100 t101 t75 t64 p0 p1 K := by
  obtain ⟨hab, e86, e87, hfr, hto, hB, hrr, hk⟩ := h
  subst e86 e87
  have hN := hab.1
  have hM := hab.2.1
  have hF := hab.2.2.1
  have hE := hab.2.2.2
  unfold wX9_told
  unfold yATold at hK
  refine w9_isNode (by omega) _ _ _ _ _ _ _ _ _ _ _ _ _ _ _ _ _ _ _ (fun v hv ev => ⟨fun z => absurd z (by decide), fun _ => ?_⟩) (fun hno => ⟨fun _ => ?_, fun z => absurd rfl z⟩)
  · subst ev
    rw [yIf_pos ⟨v, hv, rfl⟩, yn_nat (by omega)] at hK
    refine yRr_get hrr hN hv p1 (fun x => K x _) (fun i hi e => ?_) (fun hno => ?_)
    · have := hrr.2.2.1 v hv
      rw [yIf_pos ⟨i, hi, e⟩, e, yn_nat (by omega)] at hK
      exact hK ⟨hab, rfl, rfl, hfr, hto, hB, hrr, hk⟩
    · rw [yIf_neg hno] at hK
      exact hK ⟨hab, rfl, rfl, hfr, hto, hB, hrr, hk⟩
  · rw [yIf_neg hno] at hK
    exact hK ⟨hab, rfl, rfl, hfr, hto, hB, hrr, hk⟩

theorem r_test (h : yRS N M F T al rs rw' t86 t87 t102 t95 t41 t42 t53 t75 t64 t61 t62 t55 t56 t58 t57 t59 t60) (K : Int32 → (Int32 × Int32 × Int32 × Int32 × Int32 × Int32 × Int32 × Int32 × Int32 × Int32 × Int32 × Int32 × Int32 × Int32 × Int32 × (Nat → Int32) × (Nat → Int32) × (Nat → Int32) × (Nat → Int32) × (Nat → Int32) × (Nat → Int32) × (Nat → Int32) × (Nat → Int32) × (Nat → Int32) × (Nat → Int32) × (Nat → Int32) × (Nat → Int32) × (Nat → Int32) × (Nat → Int32) × (Nat → Int32) × (Nat → Int32) × (Nat → Int32) × (Nat → Int32) × (Nat → Int32) × (Nat → Int32) × (Nat → Int32) × (Nat → Int32) × (Nat → Int32) × (Nat → Int32) × (Nat → Int32) × (Nat → Int32) × (Nat → Int32) × (Nat → Int32) × (Nat → Int32) × (Nat → Int32) × (Nat → Int32)) → Prop)
    (hK : ∀ (n102 : Int32) (n103 : Int32) (n88 : Int32) (n89 : Int32) (n90 : Int32) (n91 : Int32) (n92 : Int32) (n93 : Int32) (n94 : Int32) (n95 : Int32) (n96 : Int32) (n97 : Int32) (n98 : Int32) (n99 : Int32) (n100 : Int32) (n76 : Nat → Int32) (n61 : Nat → Int32) (n77 : Nat → Int32) (n78 : Nat → Int32) (n79 : Nat → Int32) (n80 : Nat → Int32) (n49 : Nat → Int32) (n48 : Nat → Int32) (n47 : Nat → Int32) (n43 : Nat → Int32) (n46 : Nat → Int32) (n44 : Nat → Int32) (n45 : Nat → Int32) (n50 : Nat → Int32) (n62 : Nat → Int32) (n52 : Nat → Int32) (n51 : Nat → Int32) (n54 : Nat → Int32) (n55 : Nat → Int32) (n56 : Nat → Int32) (n58 : Nat → Int32) (n57 : Nat → Int32) (n67 : Nat → Int32) (n63 : Nat → Int32) (n65 : Nat → Int32) (n68 : Nat → Int32) (n66 : Nat → Int32) (n59 : Nat → Int32) (n60 : Nat → Int32) (n69 : Nat → Int32) (n70 : Nat → Int32), yRS N M F T al rs rw' t86 t87 n102 n95 t41 t42 t53 t75 t64 n61 n62 n55 n56 n58 n57 n59 n60 → K (yATest N M F T al) (n102, n103, n88, n89, n90, n91, n92, n93, n94, n95, n96, n97, n98, n99, n100, n76, n61, n77, n78, n79, n80, n49, n48, n47, n43, n46, n44, n45, n50, n62, n52, n51, n54, n55, n56, n58, n57, n67, n63, n65, n68, n66, n59, n60, n69, n70))
    : wX9_test t86 t87 t102 t103 t88 t89 t90 t91 t92 t93 t94 t95 t96 t97 t98 t99 t100 t101 t76 t53 t41 t42 t61 t77 t78 t79 t80 t49 t48 t47 t43 t46 t44 t45 t50 t62 t52 t51 t54 t55 t56 t58 t57 t67 t63 t65 t68 t66 t59 t60 t69 t70 K := by
  obtain ⟨hab, e86, e87, hfr, hto, hB, hrr, hk⟩ := h
  subst e86 e87
  have hN := hab.1
  have hM := hab.2.1
  have hF := hab.2.2.1
  have hE := hab.2.2.2
  unfold wX9_test
  unfold yATest at hK
  refine w9_isPlaneNow hN hM hF hfr hto hB _ _ _ _ _ _ _ _ _ _ _ _ _ _ _ _ _ _ _ _ _ _ _ _ _ _ _ _ _ _ _ _ _ _ _ _ _ _ _ _ _ _ _ _ _ _ _ hk _ (fun hp u h1 h2 => ⟨fun z => absurd z (by decide), fun _ => ?_⟩) (fun hp u h1 h2 => ⟨fun _ => ?_, fun z => absurd rfl z⟩)
  · rw [yIf_pos hp] at hK
    exact hK _ _ _ _ _ _ _ _ _ _ _ _ _ _ _ _ _ _ _ _ _ _ _ _ _ _ _ _ _ _ _ _ _ _ _ _ _ _ _ _ _ _ _ _ _ _ ⟨hab, rfl, rfl, hfr, hto, hB, hrr, fun _ => h2⟩
  · rw [yIf_neg hp] at hK
    exact hK _ _ _ _ _ _ _ _ _ _ _ _ _ _ _ _ _ _ _ _ _ _ _ _ _ _ _ _ _ _ _ _ _ _ _ _ _ _ _ _ _ _ _ _ _ _ ⟨hab, rfl, rfl, hfr, hto, hB, hrr, fun _ => h2⟩

theorem r_turn (h : yRS N M F T al rs rw' t86 t87 t102 t95 t41 t42 t53 t75 t64 t61 t62 t55 t56 t58 t57 t59 t60) (p0 p1 : Int32) (K : Int32 → (Int32 × Int32 × Int32 × Int32 × Int32 × Int32 × Int32 × Int32 × Int32 × Int32 × Int32 × Int32 × Int32 × Int32 × Int32 × (Nat → Int32) × (Nat → Int32) × (Nat → Int32) × (Nat → Int32) × (Nat → Int32) × (Nat → Int32) × (Nat → Int32) × (Nat → Int32) × (Nat → Int32) × (Nat → Int32) × (Nat → Int32) × (Nat → Int32) × (Nat → Int32) × (Nat → Int32) × (Nat → Int32) × (Nat → Int32) × (Nat → Int32) × (Nat → Int32) × (Nat → Int32) × (Nat → Int32) × (Nat → Int32) × (Nat → Int32) × (Nat → Int32) × (Nat → Int32) × (Nat → Int32) × (Nat → Int32) × (Nat → Int32) × (Nat → Int32) × (Nat → Int32) × (Nat → Int32) × (Nat → Int32)) → Prop)
    (hK : ∀ (n102 : Int32) (n103 : Int32) (n88 : Int32) (n89 : Int32) (n90 : Int32) (n91 : Int32) (n92 : Int32) (n93 : Int32) (n94 : Int32) (n95 : Int32) (n96 : Int32) (n97 : Int32) (n98 : Int32) (n99 : Int32) (n100 : Int32) (n76 : Nat → Int32) (n61 : Nat → Int32) (n77 : Nat → Int32) (n78 : Nat → Int32) (n79 : Nat → Int32) (n80 : Nat → Int32) (n49 : Nat → Int32) (n48 : Nat → Int32) (n47 : Nat → Int32) (n43 : Nat → Int32) (n46 : Nat → Int32) (n44 : Nat → Int32) (n45 : Nat → Int32) (n50 : Nat → Int32) (n62 : Nat → Int32) (n52 : Nat → Int32) (n51 : Nat → Int32) (n54 : Nat → Int32) (n55 : Nat → Int32) (n56 : Nat → Int32) (n58 : Nat → Int32) (n57 : Nat → Int32) (n67 : Nat → Int32) (n63 : Nat → Int32) (n65 : Nat → Int32) (n68 : Nat → Int32) (n66 : Nat → Int32) (n59 : Nat → Int32) (n60 : Nat → Int32) (n69 : Nat → Int32) (n70 : Nat → Int32), yRS N M F T al rs rw' t86 t87 n102 n95 t41 t42 t53 t75 t64 n61 n62 n55 n56 n58 n57 n59 n60 → K (yATurn N M F T al p0 p1) (n102, n103, n88, n89, n90, n91, n92, n93, n94, n95, n96, n97, n98, n99, n100, n76, n61, n77, n78, n79, n80, n49, n48, n47, n43, n46, n44, n45, n50, n62, n52, n51, n54, n55, n56, n58, n57, n67, n63, n65, n68, n66, n59, n60, n69, n70))
    : wX9_turn t86 t87 t102 t103 t88 t89 t90 t91 t92 t93 t94 t95 t96 t97 t98 t99 t100 t101 t76 t53 t41 t42 t61 t77 t78 t79 t80 t49 t48 t47 t43 t46 t44 t45 t50 t62 t52 t51 t54 t55 t56 t58 t57 t67 t63 t65 t68 t66 t59 t60 t69 t70 p0 p1 K := by
  obtain ⟨hab, e86, e87, hfr, hto, hB, hrr, hk⟩ := h
  subst e86 e87
  have hN := hab.1
  have hM := hab.2.1
  have hF := hab.2.2.1
  have hE := hab.2.2.2
  unfold wX9_turn
  unfold yATurn at hK
  refine w9_isNode (by omega) _ _ _ _ _ _ _ _ _ _ _ _ _ _ _ _ _ _ _ (fun v hv ev => ⟨fun _ => ?_, fun z => absurd z (by decide)⟩) (fun hno => ⟨fun z => absurd rfl z, fun _ => ?_⟩)
  · subst ev
    rw [yIf_pos ⟨v, hv, rfl⟩, yn_nat (by omega)] at hK
    refine w9_isPlaneNow hN hM hF hfr hto hB _ _ _ _ _ _ _ _ _ _ _ _ _ _ _ _ _ _ _ _ _ _ _ _ _ _ _ _ _ _ _ _ _ _ _ _ _ _ _ _ _ _ _ _ _ _ _ hk _ (fun hp u h1 h2 => ⟨fun _ => ?_, fun z => absurd z (by decide)⟩) (fun hp u h1 h2 => ⟨fun z => absurd rfl z, fun _ => ?_⟩)
    · rw [yIf_pos hp] at hK
      obtain ⟨hR, hT, _, _, _⟩ := yKnR_p h2 hp
      refine yRr_get hT hN hv p1 (fun x => K x _) (fun i hi e => ?_) (fun hno => ?_)
      · have : (yTn N M F T al v).length ≤ 160 := hT.2.2.1 v hv
        have hi : i < (yTn N M F T al v).length := hi
        rw [yIf_pos ⟨i, hi, e⟩, e, yn_nat (by omega)] at hK
        exact hK _ _ _ _ _ _ _ _ _ _ _ _ _ _ _ _ _ _ _ _ _ _ _ _ _ _ _ _ _ _ _ _ _ _ _ _ _ _ _ _ _ _ _ _ _ _ ⟨hab, rfl, rfl, hfr, hto, hB, hrr, fun _ => h2⟩
      · rw [yIf_neg hno] at hK
        exact hK _ _ _ _ _ _ _ _ _ _ _ _ _ _ _ _ _ _ _ _ _ _ _ _ _ _ _ _ _ _ _ _ _ _ _ _ _ _ _ _ _ _ _ _ _ _ ⟨hab, rfl, rfl, hfr, hto, hB, hrr, fun _ => h2⟩
    · rw [yIf_neg hp] at hK
      exact hK _ _ _ _ _ _ _ _ _ _ _ _ _ _ _ _ _ _ _ _ _ _ _ _ _ _ _ _ _ _ _ _ _ _ _ _ _ _ _ _ _ _ _ _ _ _ ⟨hab, rfl, rfl, hfr, hto, hB, hrr, fun _ => h2⟩
  · rw [yIf_neg hno] at hK
    exact hK _ _ _ _ _ _ _ _ _ _ _ _ _ _ _ _ _ _ _ _ _ _ _ _ _ _ _ _ _ _ _ _ _ _ _ _ _ _ _ _ _ _ _ _ _ _ ⟨hab, rfl, rfl, hfr, hto, hB, hrr, hk⟩

theorem r_round (h : yRS N M F T al rs rw' t86 t87 t102 t95 t41 t42 t53 t75 t64 t61 t62 t55 t56 t58 t57 t59 t60) (p0 p1 : Int32) (K : Int32 → (Int32 × Int32 × Int32 × Int32 × Int32 × Int32 × Int32 × Int32 × Int32 × Int32 × Int32 × Int32 × Int32 × Int32 × Int32 × (Nat → Int32) × (Nat → Int32) × (Nat → Int32) × (Nat → Int32) × (Nat → Int32) × (Nat → Int32) × (Nat → Int32) × (Nat → Int32) × (Nat → Int32) × (Nat → Int32) × (Nat → Int32) × (Nat → Int32) × (Nat → Int32) × (Nat → Int32) × (Nat → Int32) × (Nat → Int32) × (Nat → Int32) × (Nat → Int32) × (Nat → Int32) × (Nat → Int32) × (Nat → Int32) × (Nat → Int32) × (Nat → Int32) × (Nat → Int32) × (Nat → Int32) × (Nat → Int32) × (Nat → Int32) × (Nat → Int32) × (Nat → Int32) × (Nat → Int32) × (Nat → Int32)) → Prop)
    (hK : ∀ (n102 : Int32) (n103 : Int32) (n88 : Int32) (n89 : Int32) (n90 : Int32) (n91 : Int32) (n92 : Int32) (n93 : Int32) (n94 : Int32) (n95 : Int32) (n96 : Int32) (n97 : Int32) (n98 : Int32) (n99 : Int32) (n100 : Int32) (n76 : Nat → Int32) (n61 : Nat → Int32) (n77 : Nat → Int32) (n78 : Nat → Int32) (n79 : Nat → Int32) (n80 : Nat → Int32) (n49 : Nat → Int32) (n48 : Nat → Int32) (n47 : Nat → Int32) (n43 : Nat → Int32) (n46 : Nat → Int32) (n44 : Nat → Int32) (n45 : Nat → Int32) (n50 : Nat → Int32) (n62 : Nat → Int32) (n52 : Nat → Int32) (n51 : Nat → Int32) (n54 : Nat → Int32) (n55 : Nat → Int32) (n56 : Nat → Int32) (n58 : Nat → Int32) (n57 : Nat → Int32) (n67 : Nat → Int32) (n63 : Nat → Int32) (n65 : Nat → Int32) (n68 : Nat → Int32) (n66 : Nat → Int32) (n59 : Nat → Int32) (n60 : Nat → Int32) (n69 : Nat → Int32) (n70 : Nat → Int32), yRS N M F T al rs rw' t86 t87 n102 n95 t41 t42 t53 t75 t64 n61 n62 n55 n56 n58 n57 n59 n60 → K (yARound N M F T al p0 p1) (n102, n103, n88, n89, n90, n91, n92, n93, n94, n95, n96, n97, n98, n99, n100, n76, n61, n77, n78, n79, n80, n49, n48, n47, n43, n46, n44, n45, n50, n62, n52, n51, n54, n55, n56, n58, n57, n67, n63, n65, n68, n66, n59, n60, n69, n70))
    : wX9_round t86 t87 t102 t103 t88 t89 t90 t91 t92 t93 t94 t95 t96 t97 t98 t99 t100 t101 t76 t53 t41 t42 t61 t77 t78 t79 t80 t49 t48 t47 t43 t46 t44 t45 t50 t62 t52 t51 t54 t55 t56 t58 t57 t67 t63 t65 t68 t66 t59 t60 t69 t70 p0 p1 K := by
  obtain ⟨hab, e86, e87, hfr, hto, hB, hrr, hk⟩ := h
  subst e86 e87
  have hN := hab.1
  have hM := hab.2.1
  have hF := hab.2.2.1
  have hE := hab.2.2.2
  unfold wX9_round
  unfold yARound at hK
  refine w9_isNode (by omega) _ _ _ _ _ _ _ _ _ _ _ _ _ _ _ _ _ _ _ (fun v hv ev => ⟨fun _ => ?_, fun z => absurd z (by decide)⟩) (fun hno => ⟨fun z => absurd rfl z, fun _ => ?_⟩)
  · subst ev
    rw [yIf_pos ⟨v, hv, rfl⟩, yn_nat (by omega)] at hK
    refine w9_isPlaneNow hN hM hF hfr hto hB _ _ _ _ _ _ _ _ _ _ _ _ _ _ _ _ _ _ _ _ _ _ _ _ _ _ _ _ _ _ _ _ _ _ _ _ _ _ _ _ _ _ _ _ _ _ _ hk _ (fun hp u h1 h2 => ⟨fun _ => ?_, fun z => absurd z (by decide)⟩) (fun hp u h1 h2 => ⟨fun z => absurd rfl z, fun _ => ?_⟩)
    · rw [yIf_pos hp] at hK
      obtain ⟨hR, _, _, hsg, _⟩ := yKnR_p h2 hp
      obtain ⟨has, har⟩ := hR v hv
      have hdg : yNb 32 (yGf N (yGk M F T al) v) ≤ 20 := yDeg20 hN hsg v
      refine ⟨fun hq => ?_, fun hq => ⟨yn_in (by omega) (by omega), ?_⟩⟩
      · rw [yIf_neg (fun ⟨i, a1, a2⟩ => by rw [a2] at hq; exact yn_neg (by omega) hq)] at hK
        exact hK _ _ _ _ _ _ _ _ _ _ _ _ _ _ _ _ _ _ _ _ _ _ _ _ _ _ _ _ _ _ _ _ _ _ _ _ _ _ _ _ _ _ _ _ _ _ ⟨hab, rfl, rfl, hfr, hto, hB, hrr, fun _ => h2⟩
      · obtain ⟨i, hi, rfl⟩ := yn_of hq
        have e20 : (20 : Int32) = Int32.ofNat 20 := rfl
        rw [yn_nat (by omega), has, yn_le (by omega) (by omega), e20, yn_mul, yn_add]
        refine ⟨fun hle => ?_, fun hlt => ?_⟩
        · rw [yIf_neg (fun ⟨i', a1, a2⟩ => by have := (yn_inj (by omega) (by omega)).1 a2; omega)] at hK
          exact hK _ _ _ _ _ _ _ _ _ _ _ _ _ _ _ _ _ _ _ _ _ _ _ _ _ _ _ _ _ _ _ _ _ _ _ _ _ _ _ _ _ _ _ _ _ _ ⟨hab, rfl, rfl, hfr, hto, hB, hrr, fun _ => h2⟩
        · have hil : i < yNb 32 (yGf N (yGk M F T al) v) := by omega
          obtain ⟨w0, hw0⟩ := yLw_ex9 hil
          rw [yIf_pos ⟨i, hil, rfl⟩, yn_nat (by omega), yLst_eq hw0] at hK
          rw [yn_nat (by omega), har w0 hw0 i hil]
          exact ⟨yn_in (by omega) (by omega), hK _ _ _ _ _ _ _ _ _ _ _ _ _ _ _ _ _ _ _ _ _ _ _ _ _ _ _ _ _ _ _ _ _ _ _ _ _ _ _ _ _ _ _ _ _ _ ⟨hab, rfl, rfl, hfr, hto, hB, hrr, fun _ => h2⟩⟩
    · rw [yIf_neg hp] at hK
      exact hK _ _ _ _ _ _ _ _ _ _ _ _ _ _ _ _ _ _ _ _ _ _ _ _ _ _ _ _ _ _ _ _ _ _ _ _ _ _ _ _ _ _ _ _ _ _ ⟨hab, rfl, rfl, hfr, hto, hB, hrr, fun _ => h2⟩
  · rw [yIf_neg hno] at hK
    exact hK _ _ _ _ _ _ _ _ _ _ _ _ _ _ _ _ _ _ _ _ _ _ _ _ _ _ _ _ _ _ _ _ _ _ _ _ _ _ _ _ _ _ _ _ _ _ ⟨hab, rfl, rfl, hfr, hto, hB, hrr, hk⟩

theorem r_place (h : yRS N M F T al rs rw' t86 t87 t102 t95 t41 t42 t53 t75 t64 t61 t62 t55 t56 t58 t57 t59 t60) (p0 p1 : Int32) (K : Int32 → (Int32 × Int32 × Int32 × Int32 × Int32 × Int32 × Int32 × Int32 × Int32 × Int32 × Int32 × Int32 × Int32 × Int32 × Int32 × (Nat → Int32) × (Nat → Int32) × (Nat → Int32) × (Nat → Int32) × (Nat → Int32) × (Nat → Int32) × (Nat → Int32) × (Nat → Int32) × (Nat → Int32) × (Nat → Int32) × (Nat → Int32) × (Nat → Int32) × (Nat → Int32) × (Nat → Int32) × (Nat → Int32) × (Nat → Int32) × (Nat → Int32) × (Nat → Int32) × (Nat → Int32) × (Nat → Int32) × (Nat → Int32) × (Nat → Int32) × (Nat → Int32) × (Nat → Int32) × (Nat → Int32) × (Nat → Int32) × (Nat → Int32) × (Nat → Int32) × (Nat → Int32) × (Nat → Int32) × (Nat → Int32)) → Prop)
    (hK : ∀ (n102 : Int32) (n103 : Int32) (n88 : Int32) (n89 : Int32) (n90 : Int32) (n91 : Int32) (n92 : Int32) (n93 : Int32) (n94 : Int32) (n95 : Int32) (n96 : Int32) (n97 : Int32) (n98 : Int32) (n99 : Int32) (n100 : Int32) (n76 : Nat → Int32) (n61 : Nat → Int32) (n77 : Nat → Int32) (n78 : Nat → Int32) (n79 : Nat → Int32) (n80 : Nat → Int32) (n49 : Nat → Int32) (n48 : Nat → Int32) (n47 : Nat → Int32) (n43 : Nat → Int32) (n46 : Nat → Int32) (n44 : Nat → Int32) (n45 : Nat → Int32) (n50 : Nat → Int32) (n62 : Nat → Int32) (n52 : Nat → Int32) (n51 : Nat → Int32) (n54 : Nat → Int32) (n55 : Nat → Int32) (n56 : Nat → Int32) (n58 : Nat → Int32) (n57 : Nat → Int32) (n67 : Nat → Int32) (n63 : Nat → Int32) (n65 : Nat → Int32) (n68 : Nat → Int32) (n66 : Nat → Int32) (n59 : Nat → Int32) (n60 : Nat → Int32) (n69 : Nat → Int32) (n70 : Nat → Int32), yRS N M F T al rs rw' t86 t87 n102 n95 t41 t42 t53 t75 t64 n61 n62 n55 n56 n58 n57 n59 n60 → K (yAPlace N M F T al p0 p1) (n102, n103, n88, n89, n90, n91, n92, n93, n94, n95, n96, n97, n98, n99, n100, n76, n61, n77, n78, n79, n80, n49, n48, n47, n43, n46, n44, n45, n50, n62, n52, n51, n54, n55, n56, n58, n57, n67, n63, n65, n68, n66, n59, n60, n69, n70))
    : wX9_place t86 t87 t102 t103 t88 t89 t90 t91 t92 t93 t94 t95 t96 t97 t98 t99 t100 t101 t76 t53 t41 t42 t61 t77 t78 t79 t80 t49 t48 t47 t43 t46 t44 t45 t50 t62 t52 t51 t54 t55 t56 t58 t57 t67 t63 t65 t68 t66 t59 t60 t69 t70 p0 p1 K := by
  obtain ⟨hab, e86, e87, hfr, hto, hB, hrr, hk⟩ := h
  subst e86 e87
  have hN := hab.1
  have hM := hab.2.1
  have hF := hab.2.2.1
  have hE := hab.2.2.2
  unfold wX9_place
  unfold yAPlace at hK
  refine w9_isNode (by omega) _ _ _ _ _ _ _ _ _ _ _ _ _ _ _ _ _ _ _ (fun v hv ev => ⟨fun _ => ?_, fun z => absurd z (by decide)⟩) (fun hno => ⟨fun z => absurd rfl z, fun _ => ?_⟩)
  · subst ev
    rw [yIf_pos ⟨v, hv, rfl⟩, yn_nat (by omega)] at hK
    have e1 : (1 : Int32) = Int32.ofNat 1 := rfl
    refine ⟨fun hq => ?_, fun hq => ⟨fun hq1 => ?_, fun hq1 => ?_⟩⟩
    · rw [yIf_neg (by rintro (q | q) <;> subst q <;> revert hq <;> decide)] at hK
      exact hK _ _ _ _ _ _ _ _ _ _ _ _ _ _ _ _ _ _ _ _ _ _ _ _ _ _ _ _ _ _ _ _ _ _ _ _ _ _ _ _ _ _ _ _ _ _ ⟨hab, rfl, rfl, hfr, hto, hB, hrr, hk⟩
    · rw [yIf_pos (yn_01 hq hq1)] at hK
      refine w9_isPlaneNow hN hM hF hfr hto hB _ _ _ _ _ _ _ _ _ _ _ _ _ _ _ _ _ _ _ _ _ _ _ _ _ _ _ _ _ _ _ _ _ _ _ _ _ _ _ _ _ _ _ _ _ _ _ hk _ (fun hp u h1 h2 => ⟨fun _ => ?_, fun z => absurd z (by decide)⟩) (fun hp u h1 h2 => ⟨fun z => absurd rfl z, fun _ => ?_⟩)
      · rw [yIf_pos hp] at hK
        obtain ⟨_, _, hP, _, _⟩ := yKnR_p h2 hp
        have hPv := (hP v hv).1
        rw [yn_nat (by omega)]
        refine ⟨fun q => ⟨yn_in (by omega) (by omega), ?_⟩, fun q => ⟨yn_in (by omega) (by omega), ?_⟩⟩
        · rw [yIf_neg q] at hK
          rw [hPv.2]
          exact hK _ _ _ _ _ _ _ _ _ _ _ _ _ _ _ _ _ _ _ _ _ _ _ _ _ _ _ _ _ _ _ _ _ _ _ _ _ _ _ _ _ _ _ _ _ _ ⟨hab, rfl, rfl, hfr, hto, hB, hrr, fun _ => h2⟩
        · rw [yIf_pos q] at hK
          rw [hPv.1]
          exact hK _ _ _ _ _ _ _ _ _ _ _ _ _ _ _ _ _ _ _ _ _ _ _ _ _ _ _ _ _ _ _ _ _ _ _ _ _ _ _ _ _ _ _ _ _ _ ⟨hab, rfl, rfl, hfr, hto, hB, hrr, fun _ => h2⟩
      · rw [yIf_neg hp] at hK
        exact hK _ _ _ _ _ _ _ _ _ _ _ _ _ _ _ _ _ _ _ _ _ _ _ _ _ _ _ _ _ _ _ _ _ _ _ _ _ _ _ _ _ _ _ _ _ _ ⟨hab, rfl, rfl, hfr, hto, hB, hrr, fun _ => h2⟩
    · rw [yIf_neg (by rintro (q | q) <;> subst q <;> revert hq1 <;> decide)] at hK
      exact hK _ _ _ _ _ _ _ _ _ _ _ _ _ _ _ _ _ _ _ _ _ _ _ _ _ _ _ _ _ _ _ _ _ _ _ _ _ _ _ _ _ _ _ _ _ _ ⟨hab, rfl, rfl, hfr, hto, hB, hrr, hk⟩
  · rw [yIf_neg hno] at hK
    exact hK _ _ _ _ _ _ _ _ _ _ _ _ _ _ _ _ _ _ _ _ _ _ _ _ _ _ _ _ _ _ _ _ _ _ _ _ _ _ _ _ _ _ _ _ _ _ ⟨hab, rfl, rfl, hfr, hto, hB, hrr, hk⟩

theorem r_piece (h : yRS N M F T al rs rw' t86 t87 t102 t95 t41 t42 t53 t75 t64 t61 t62 t55 t56 t58 t57 t59 t60) (p0 : Int32) (K : Int32 → (Int32 × Int32 × Int32 × Int32 × Int32 × Int32 × Int32 × Int32 × Int32 × Int32 × Int32 × Int32 × Int32 × Int32 × Int32 × (Nat → Int32) × (Nat → Int32) × (Nat → Int32) × (Nat → Int32) × (Nat → Int32) × (Nat → Int32) × (Nat → Int32) × (Nat → Int32) × (Nat → Int32) × (Nat → Int32) × (Nat → Int32) × (Nat → Int32) × (Nat → Int32) × (Nat → Int32) × (Nat → Int32) × (Nat → Int32) × (Nat → Int32) × (Nat → Int32) × (Nat → Int32) × (Nat → Int32) × (Nat → Int32) × (Nat → Int32) × (Nat → Int32) × (Nat → Int32) × (Nat → Int32) × (Nat → Int32) × (Nat → Int32) × (Nat → Int32) × (Nat → Int32) × (Nat → Int32) × (Nat → Int32)) → Prop)
    (hK : ∀ (n102 : Int32) (n103 : Int32) (n88 : Int32) (n89 : Int32) (n90 : Int32) (n91 : Int32) (n92 : Int32) (n93 : Int32) (n94 : Int32) (n95 : Int32) (n96 : Int32) (n97 : Int32) (n98 : Int32) (n99 : Int32) (n100 : Int32) (n76 : Nat → Int32) (n61 : Nat → Int32) (n77 : Nat → Int32) (n78 : Nat → Int32) (n79 : Nat → Int32) (n80 : Nat → Int32) (n49 : Nat → Int32) (n48 : Nat → Int32) (n47 : Nat → Int32) (n43 : Nat → Int32) (n46 : Nat → Int32) (n44 : Nat → Int32) (n45 : Nat → Int32) (n50 : Nat → Int32) (n62 : Nat → Int32) (n52 : Nat → Int32) (n51 : Nat → Int32) (n54 : Nat → Int32) (n55 : Nat → Int32) (n56 : Nat → Int32) (n58 : Nat → Int32) (n57 : Nat → Int32) (n67 : Nat → Int32) (n63 : Nat → Int32) (n65 : Nat → Int32) (n68 : Nat → Int32) (n66 : Nat → Int32) (n59 : Nat → Int32) (n60 : Nat → Int32) (n69 : Nat → Int32) (n70 : Nat → Int32), yRS N M F T al rs rw' t86 t87 n102 n95 t41 t42 t53 t75 t64 n61 n62 n55 n56 n58 n57 n59 n60 → K (yAPiece N M F T al p0) (n102, n103, n88, n89, n90, n91, n92, n93, n94, n95, n96, n97, n98, n99, n100, n76, n61, n77, n78, n79, n80, n49, n48, n47, n43, n46, n44, n45, n50, n62, n52, n51, n54, n55, n56, n58, n57, n67, n63, n65, n68, n66, n59, n60, n69, n70))
    : wX9_piece t86 t87 t102 t103 t88 t89 t90 t91 t92 t93 t94 t95 t96 t97 t98 t99 t100 t101 t76 t53 t41 t42 t61 t77 t78 t79 t80 t49 t48 t47 t43 t46 t44 t45 t50 t62 t52 t51 t54 t55 t56 t58 t57 t67 t63 t65 t68 t66 t59 t60 t69 t70 p0 K := by
  obtain ⟨hab, e86, e87, hfr, hto, hB, hrr, hk⟩ := h
  subst e86 e87
  have hN := hab.1
  have hM := hab.2.1
  have hF := hab.2.2.1
  have hE := hab.2.2.2
  unfold wX9_piece
  unfold yAPiece at hK
  refine w9_isPlaneNow hN hM hF hfr hto hB _ _ _ _ _ _ _ _ _ _ _ _ _ _ _ _ _ _ _ _ _ _ _ _ _ _ _ _ _ _ _ _ _ _ _ _ _ _ _ _ _ _ _ _ _ _ _ hk _ (fun hp u h1 h2 => ⟨fun z => absurd z (by decide), fun _ => ?_⟩) (fun hp u h1 h2 => ⟨fun _ => ?_, fun z => absurd rfl z⟩)
  · rw [yIf_pos hp] at hK
    exact hK _ _ _ _ _ _ _ _ _ _ _ _ _ _ _ _ _ _ _ _ _ _ _ _ _ _ _ _ _ _ _ _ _ _ _ _ _ _ _ _ _ _ _ _ _ _ ⟨hab, rfl, rfl, hfr, hto, hB, hrr, fun _ => h2⟩
  · rw [yIf_neg hp] at hK
    exact w9_piece14 hM _ _ (yKnR_n h2 hp).1 _ (hK _ _ _ _ _ _ _ _ _ _ _ _ _ _ _ _ _ _ _ _ _ _ _ _ _ _ _ _ _ _ _ _ _ _ _ _ _ _ _ _ _ _ _ _ _ _ ⟨hab, rfl, rfl, hfr, hto, hB, hrr, fun _ => h2⟩)

theorem r_branch (h : yRS N M F T al rs rw' t86 t87 t102 t95 t41 t42 t53 t75 t64 t61 t62 t55 t56 t58 t57 t59 t60) (p0 : Int32) (K : Int32 → (Int32 × Int32 × Int32 × Int32 × Int32 × Int32 × Int32 × Int32 × Int32 × Int32 × Int32 × Int32 × Int32 × Int32 × Int32 × (Nat → Int32) × (Nat → Int32) × (Nat → Int32) × (Nat → Int32) × (Nat → Int32) × (Nat → Int32) × (Nat → Int32) × (Nat → Int32) × (Nat → Int32) × (Nat → Int32) × (Nat → Int32) × (Nat → Int32) × (Nat → Int32) × (Nat → Int32) × (Nat → Int32) × (Nat → Int32) × (Nat → Int32) × (Nat → Int32) × (Nat → Int32) × (Nat → Int32) × (Nat → Int32) × (Nat → Int32) × (Nat → Int32) × (Nat → Int32) × (Nat → Int32) × (Nat → Int32) × (Nat → Int32) × (Nat → Int32) × (Nat → Int32) × (Nat → Int32) × (Nat → Int32)) → Prop)
    (hK : ∀ (n102 : Int32) (n103 : Int32) (n88 : Int32) (n89 : Int32) (n90 : Int32) (n91 : Int32) (n92 : Int32) (n93 : Int32) (n94 : Int32) (n95 : Int32) (n96 : Int32) (n97 : Int32) (n98 : Int32) (n99 : Int32) (n100 : Int32) (n76 : Nat → Int32) (n61 : Nat → Int32) (n77 : Nat → Int32) (n78 : Nat → Int32) (n79 : Nat → Int32) (n80 : Nat → Int32) (n49 : Nat → Int32) (n48 : Nat → Int32) (n47 : Nat → Int32) (n43 : Nat → Int32) (n46 : Nat → Int32) (n44 : Nat → Int32) (n45 : Nat → Int32) (n50 : Nat → Int32) (n62 : Nat → Int32) (n52 : Nat → Int32) (n51 : Nat → Int32) (n54 : Nat → Int32) (n55 : Nat → Int32) (n56 : Nat → Int32) (n58 : Nat → Int32) (n57 : Nat → Int32) (n67 : Nat → Int32) (n63 : Nat → Int32) (n65 : Nat → Int32) (n68 : Nat → Int32) (n66 : Nat → Int32) (n59 : Nat → Int32) (n60 : Nat → Int32) (n69 : Nat → Int32) (n70 : Nat → Int32), yRS N M F T al rs rw' t86 t87 n102 n95 t41 t42 t53 t75 t64 n61 n62 n55 n56 n58 n57 n59 n60 → K (yABranch N M F T al p0) (n102, n103, n88, n89, n90, n91, n92, n93, n94, n95, n96, n97, n98, n99, n100, n76, n61, n77, n78, n79, n80, n49, n48, n47, n43, n46, n44, n45, n50, n62, n52, n51, n54, n55, n56, n58, n57, n67, n63, n65, n68, n66, n59, n60, n69, n70))
    : wX9_branch t86 t87 t102 t103 t88 t89 t90 t91 t92 t93 t94 t95 t96 t97 t98 t99 t100 t101 t76 t53 t41 t42 t61 t77 t78 t79 t80 t49 t48 t47 t43 t46 t44 t45 t50 t62 t52 t51 t54 t55 t56 t58 t57 t67 t63 t65 t68 t66 t59 t60 t69 t70 p0 K := by
  obtain ⟨hab, e86, e87, hfr, hto, hB, hrr, hk⟩ := h
  subst e86 e87
  have hN := hab.1
  have hM := hab.2.1
  have hF := hab.2.2.1
  have hE := hab.2.2.2
  unfold wX9_branch
  unfold yABranch at hK
  refine w9_isPlaneNow hN hM hF hfr hto hB _ _ _ _ _ _ _ _ _ _ _ _ _ _ _ _ _ _ _ _ _ _ _ _ _ _ _ _ _ _ _ _ _ _ _ _ _ _ _ _ _ _ _ _ _ _ _ hk _ (fun hp u h1 h2 => ⟨fun z => absurd z (by decide), fun _ => ?_⟩) (fun hp u h1 h2 => ⟨fun _ => ?_, fun z => absurd rfl z⟩)
  · rw [yIf_pos hp] at hK
    exact hK _ _ _ _ _ _ _ _ _ _ _ _ _ _ _ _ _ _ _ _ _ _ _ _ _ _ _ _ _ _ _ _ _ _ _ _ _ _ _ _ _ _ _ _ _ _ ⟨hab, rfl, rfl, hfr, hto, hB, hrr, fun _ => h2⟩
  · rw [yIf_neg hp] at hK
    exact w9_branch14 hN hM _ _ (yKnR_n h2 hp).2 _ (hK _ _ _ _ _ _ _ _ _ _ _ _ _ _ _ _ _ _ _ _ _ _ _ _ _ _ _ _ _ _ _ _ _ _ _ _ _ _ _ _ _ _ _ _ _ _ ⟨hab, rfl, rfl, hfr, hto, hB, hrr, fun _ => h2⟩)

theorem r_barred (h : yRS N M F T al rs rw' t86 t87 t102 t95 t41 t42 t53 t75 t64 t61 t62 t55 t56 t58 t57 t59 t60) (K : Int32 → (Int32 × Int32 × Int32 × Int32 × Int32 × Int32 × Int32 × Int32 × Int32 × Int32 × Int32 × Int32 × Int32 × Int32 × Int32 × (Nat → Int32) × (Nat → Int32) × (Nat → Int32) × (Nat → Int32) × (Nat → Int32) × (Nat → Int32) × (Nat → Int32) × (Nat → Int32) × (Nat → Int32) × (Nat → Int32) × (Nat → Int32) × (Nat → Int32) × (Nat → Int32) × (Nat → Int32) × (Nat → Int32) × (Nat → Int32) × (Nat → Int32) × (Nat → Int32) × (Nat → Int32) × (Nat → Int32) × (Nat → Int32) × (Nat → Int32) × (Nat → Int32) × (Nat → Int32) × (Nat → Int32) × (Nat → Int32) × (Nat → Int32) × (Nat → Int32) × (Nat → Int32) × (Nat → Int32) × (Nat → Int32)) → Prop)
    (hK : ∀ (n102 : Int32) (n103 : Int32) (n88 : Int32) (n89 : Int32) (n90 : Int32) (n91 : Int32) (n92 : Int32) (n93 : Int32) (n94 : Int32) (n95 : Int32) (n96 : Int32) (n97 : Int32) (n98 : Int32) (n99 : Int32) (n100 : Int32) (n76 : Nat → Int32) (n61 : Nat → Int32) (n77 : Nat → Int32) (n78 : Nat → Int32) (n79 : Nat → Int32) (n80 : Nat → Int32) (n49 : Nat → Int32) (n48 : Nat → Int32) (n47 : Nat → Int32) (n43 : Nat → Int32) (n46 : Nat → Int32) (n44 : Nat → Int32) (n45 : Nat → Int32) (n50 : Nat → Int32) (n62 : Nat → Int32) (n52 : Nat → Int32) (n51 : Nat → Int32) (n54 : Nat → Int32) (n55 : Nat → Int32) (n56 : Nat → Int32) (n58 : Nat → Int32) (n57 : Nat → Int32) (n67 : Nat → Int32) (n63 : Nat → Int32) (n65 : Nat → Int32) (n68 : Nat → Int32) (n66 : Nat → Int32) (n59 : Nat → Int32) (n60 : Nat → Int32) (n69 : Nat → Int32) (n70 : Nat → Int32), yRS N M F T al rs rw' t86 t87 n102 n95 t41 t42 t53 t75 t64 n61 n62 n55 n56 n58 n57 n59 n60 → K (yABarred N M F T al) (n102, n103, n88, n89, n90, n91, n92, n93, n94, n95, n96, n97, n98, n99, n100, n76, n61, n77, n78, n79, n80, n49, n48, n47, n43, n46, n44, n45, n50, n62, n52, n51, n54, n55, n56, n58, n57, n67, n63, n65, n68, n66, n59, n60, n69, n70))
    : wX9_barred t86 t87 t102 t103 t88 t89 t90 t91 t92 t93 t94 t95 t96 t97 t98 t99 t100 t101 t76 t53 t41 t42 t61 t77 t78 t79 t80 t49 t48 t47 t43 t46 t44 t45 t50 t62 t52 t51 t54 t55 t56 t58 t57 t67 t63 t65 t68 t66 t59 t60 t69 t70 K := by
  obtain ⟨hab, e86, e87, hfr, hto, hB, hrr, hk⟩ := h
  subst e86 e87
  have hN := hab.1
  have hM := hab.2.1
  have hF := hab.2.2.1
  have hE := hab.2.2.2
  unfold wX9_barred
  unfold yABarred at hK
  refine w9_isPlaneNow hN hM hF hfr hto hB _ _ _ _ _ _ _ _ _ _ _ _ _ _ _ _ _ _ _ _ _ _ _ _ _ _ _ _ _ _ _ _ _ _ _ _ _ _ _ _ _ _ _ _ _ _ _ hk _ (fun hp u h1 h2 => ⟨fun z => absurd z (by decide), fun _ => ?_⟩) (fun hp u h1 h2 => ⟨fun _ => ?_, fun z => absurd rfl z⟩)
  · rw [yIf_pos hp] at hK
    exact hK _ _ _ _ _ _ _ _ _ _ _ _ _ _ _ _ _ _ _ _ _ _ _ _ _ _ _ _ _ _ _ _ _ _ _ _ _ _ _ _ _ _ _ _ _ _ ⟨hab, rfl, rfl, hfr, hto, hB, hrr, fun _ => h2⟩
  · rw [yIf_neg hp] at hK
    exact w9_barred13 hN hM _ (yKnR_n h2 hp).2 _ (hK _ _ _ _ _ _ _ _ _ _ _ _ _ _ _ _ _ _ _ _ _ _ _ _ _ _ _ _ _ _ _ _ _ _ _ _ _ _ _ _ _ _ _ _ _ _ ⟨hab, rfl, rfl, hfr, hto, hB, hrr, fun _ => h2⟩)

end


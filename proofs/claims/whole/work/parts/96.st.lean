
-- the class's state
def yCS (N M : Nat) (F T : Nat → Nat) (al : Nat → Bool) (rs : Nat → Nat) (rw : Nat → Nat → Nat) (t81 : Int32) (t82 : Int32) (t83 : Int32) (t84 : Int32) (t85 : Int32) (t104 : Int32) (t105 : Int32) (t106 : Int32) (t0 : Nat → Int32) (t10 : Nat → Int32) (t17 : Nat → Int32) (t111 : Int32) (t38 : Nat → Int32) (t35 : Nat → Int32) (t107 : Int32) (t11 : Nat → Int32) (t12 : Nat → Int32) (t14 : Nat → Int32) (t108 : Int32) (t16 : Nat → Int32) (t15 : Nat → Int32) (t20 : Nat → Int32) (t109 : Int32) (t19 : Nat → Int32) (t18 : Nat → Int32) (t23 : Nat → Int32) (t26 : Nat → Int32) (t27 : Nat → Int32) (t36 : Nat → Int32) (t37 : Nat → Int32) : Prop :=
  yAbs N M F T al rs rw ∧ yCG N M F T al t104 t105 t106 t0 t10 t17 ∧ yCT N rs rw t111 t38 t35 ∧ yCP N M F T al t81 t82 ∧ yCF t107 t11 t12 t14 ∧ yCU N M F T al t83 t108 t16 t15 t20 t109 t19 t18 ∧ t23 0 = 0 ∧ yCD N M F T al t84 t26 t27 ∧ yCE N M F T al t85 t36 t37

-- the reference's state
def yRS (N M : Nat) (F T : Nat → Nat) (al : Nat → Bool) (rs : Nat → Nat) (rw : Nat → Nat → Nat) (t86 : Int32) (t87 : Int32) (t102 : Int32) (t95 : Int32) (t41 : Nat → Int32) (t42 : Nat → Int32) (t53 : Nat → Int32) (t75 : Nat → Int32) (t64 : Nat → Int32) (t61 : Nat → Int32) (t62 : Nat → Int32) (t55 : Nat → Int32) (t56 : Nat → Int32) (t58 : Nat → Int32) (t57 : Nat → Int32) (t59 : Nat → Int32) (t60 : Nat → Int32) : Prop :=
  yAbs N M F T al rs rw ∧ t86 = Int32.ofNat N ∧ t87 = Int32.ofNat M ∧ (∀ k, k < M → t41 k = Int32.ofNat (F k)) ∧ (∀ k, k < M → t42 k = Int32.ofNat (T k)) ∧ yBo M al t53 ∧ yRr N rs rw t75 t64 ∧ (t102 ≠ 0 → yKnR N M F T al t95 t61 t62 t55 t56 t58 t57 t59 t60)

-- the answers
noncomputable def yATold (N : Nat) (rs : Nat → Nat) (rw : Nat → Nat → Nat) (p k : Int32) : Int32 :=
  yIf (yHn N p) (yIf (yHn (rs (Int32.toNatClampNeg p)) k) (Int32.ofNat (rw (Int32.toNatClampNeg p) (Int32.toNatClampNeg k))) (-1)) (-1)
noncomputable def yADeg (N : Nat) (rs : Nat → Nat) (p : Int32) : Int32 := yIf (yHn N p) (Int32.ofNat (rs (Int32.toNatClampNeg p))) (-1)
noncomputable def yATest (N M : Nat) (F T : Nat → Nat) (al : Nat → Bool) : Int32 := yIf (yPln N (yGk M F T al)) 1 0
noncomputable def yATurn (N M : Nat) (F T : Nat → Nat) (al : Nat → Bool) (p k : Int32) : Int32 :=
  yIf (yHn N p) (yIf (yPln N (yGk M F T al)) (yIf (yHn (yTn N M F T al (Int32.toNatClampNeg p)).length k) (Int32.ofNat ((yTn N M F T al (Int32.toNatClampNeg p)).getD (Int32.toNatClampNeg k) 0)) (-1)) (-3)) (-1)
noncomputable def yAFaces (N M : Nat) (F T : Nat → Nat) (al : Nat → Bool) : Int32 :=
  yIf (yPln N (yGk M F T al)) (Int32.ofNat ((yTf N M F T al).1 + yNb N (fun v => decide ((yTn N M F T al v).length = 0)))) (-3)
noncomputable def yAFace (N M : Nat) (F T : Nat → Nat) (al : Nat → Bool) (p k : Int32) : Int32 :=
  yIf (yPln N (yGk M F T al)) (yIf (∃ r i, r < (yTf N M F T al).1 ∧ i < (yTf N M F T al).2.1 r ∧ p = Int32.ofNat r ∧ k = Int32.ofNat i) (Int32.ofNat ((yTf N M F T al).2.2.1 (Int32.toNatClampNeg p) (Int32.toNatClampNeg k))) (-1)) (-3)
noncomputable def yARound (N M : Nat) (F T : Nat → Nat) (al : Nat → Bool) (p k : Int32) : Int32 :=
  yIf (yHn N p) (yIf (yPln N (yGk M F T al)) (yIf (yHn (yNb 32 (yGf N (yGk M F T al) (Int32.toNatClampNeg p))) k) (Int32.ofNat (yIt (yNu N (yGf N (yGk M F T al))) (Int32.toNatClampNeg p) (yLst (yGf N (yGk M F T al)) (Int32.toNatClampNeg p)) (Int32.toNatClampNeg k))) (-1)) (-3)) (-1)
noncomputable def yADual (N M : Nat) (F T : Nat → Nat) (al : Nat → Bool) (p k : Int32) : Int32 :=
  yIf (yHa M al p) (yIf (k = 0 ∨ k = 1) (yIf (yHd N M F T al) (Int32.ofNat ((yTf N M F T al).2.2.2 (2 * Int32.toNatClampNeg p + Int32.toNatClampNeg k) - 1)) (-3)) (-2)) (-1)
-- the faces of the faces
noncomputable def yTf2 (N M : Nat) (F T : Nat → Nat) (al : Nat → Bool) : yTS := yTc (yBt (yTf N M F T al).1 (yTf N M F T al).2.1 (yTf N M F T al).2.2.1) (yLv M al) 160
noncomputable def yADb (N M : Nat) (F T : Nat → Nat) (al : Nat → Bool) (rs : Nat → Nat) : Int32 :=
  yIf (yHd N M F T al) (yIf ((yTf2 N M F T al).1 = N ∧ ∀ r, r < (yTf2 N M F T al).1 → yRok (yNd F T) rs (yTf2 N M F T al).2.1 (yTf2 N M F T al).2.2.1 r) 1 0) (-3)
noncomputable def yAPlace (N M : Nat) (F T : Nat → Nat) (al : Nat → Bool) (p k : Int32) : Int32 :=
  yIf (yHn N p) (yIf (k = 0 ∨ k = 1) (yIf (yPln N (yGk M F T al)) (yIf (k = 0) (Int32.ofNat (yPos N (yGf N (yGk M F T al)) (Int32.toNatClampNeg p)).1) (Int32.ofNat (yPos N (yGf N (yGk M F T al)) (Int32.toNatClampNeg p)).2)) (-3)) (-2)) (-1)
noncomputable def yACross (N M : Nat) (F T : Nat → Nat) (al : Nat → Bool) : Int32 :=
  yIf (yPln N (yGk M F T al)) (yIf (yCx M F T al (fun v => (yPos N (yGf N (yGk M F T al)) v).1) (fun v => (yPos N (yGf N (yGk M F T al)) v).2)) 1 0) (-3)
noncomputable def yAPiece (N M : Nat) (F T : Nat → Nat) (al : Nat → Bool) (p : Int32) : Int32 := yIf (yPln N (yGk M F T al)) (-3) (yNth (yKp N M F T M al) p M 0 0)
noncomputable def yABarred (N M : Nat) (F T : Nat → Nat) (al : Nat → Bool) : Int32 := yIf (yPln N (yGk M F T al)) 0 (if yNb N (fun v => decide (yEc M F T (yKp N M F T M al) v = 4)) = 5 then 5 else 6)
noncomputable def yABranch (N M : Nat) (F T : Nat → Nat) (al : Nat → Bool) (p : Int32) : Int32 := yIf (yPln N (yGk M F T al)) (-3) (yNth (fun v => decide (3 ≤ yEc M F T (yKp N M F T M al) v)) p N 0 0)
-- the branch behind an end
noncomputable def yBrn (M : Nat) (F T : Nat → Nat) (c : Nat → Bool) (e : Nat) : Nat :=
  yNd F T (yWlk M F T c e (Classical.epsilon (fun t => t < 20 ∧ (∀ i, i < t → yEc M F T c (yNd F T (yWlk M F T c e i)) = 2) ∧ 3 ≤ yEc M F T c (yNd F T (yWlk M F T c e t)))))
noncomputable def yAStrand (N M : Nat) (F T : Nat → Nat) (al : Nat → Bool) (p : Int32) : Int32 :=
  yIf (yHa M al p) (yIf (yPln N (yGk M F T al)) (-3) (yIf (yKp N M F T M al (Int32.toNatClampNeg p) = true) (Int32.ofNat (32 * min (yBrn M F T (yKp N M F T M al) (2 * Int32.toNatClampNeg p)) (yBrn M F T (yKp N M F T M al) (2 * Int32.toNatClampNeg p + 1)) + max (yBrn M F T (yKp N M F T M al) (2 * Int32.toNatClampNeg p)) (yBrn M F T (yKp N M F T M al) (2 * Int32.toNatClampNeg p + 1)))) (-3))) (-1)
-- FACES of what is told
noncomputable def yTt (N M : Nat) (al : Nat → Bool) (rs : Nat → Nat) (rw : Nat → Nat → Nat) : yTS := yTc (yBt N rs rw) (yLv M al) 160
noncomputable def yATf (N M : Nat) (al : Nat → Bool) (rs : Nat → Nat) (rw : Nat → Nat → Nat) : Int32 := Int32.ofNat ((yTt N M al rs rw).1 + yNb N (fun v => decide (rs v = 0)))
noncomputable def yAGenus (N M : Nat) (F T : Nat → Nat) (al : Nat → Bool) (rs : Nat → Nat) (rw : Nat → Nat → Nat) : Int32 :=
  (((((2 : Int32) * Int32.ofNat (yParts N (yGk M F T al))) - Int32.ofNat N) + Int32.ofNat (yNb M al)) - yATf N M al rs rw) / 2

theorem yHn_nat {n : Nat} (hn : n < 2147483648) {v : Nat} (hv : v < n) : Int32.toNatClampNeg (Int32.ofNat v) = v := yn_nat (by omega)

section
variable {N M : Nat} {F T : Nat → Nat} {al : Nat → Bool} {rs : Nat → Nat} {rw' : Nat → Nat → Nat}
variable {t0 t1 t2 t7 t10 t11 t12 t13 t14 t15 t16 t17 t18 t19 t20 t21 t22 t23 t24 t25 t26 t27 t28 t29 t30 t31 t32 t33 t34 t35 t36 t37 t38 t39 t40 t41 t42 t43 t44 t45 t46 t47 t48 t49 t50 t51 t52 t53 t54 t55 t56 t57 t58 t59 t60 t61 t62 t63 t64 t65 t66 t67 t68 t69 t70 t71 t72 t73 t74 t75 t76 t77 t78 t79 t80 : Nat → Int32} {t3 t4 t5 t6 t8 t9 : Nat → Int64} {t81 t82 t83 t84 t85 t86 t87 t88 t89 t90 t91 t92 t93 t94 t95 t96 t97 t98 t99 t100 t101 t102 t103 t104 t105 t106 t107 t108 t109 t110 t111 t112 t113 t114 t115 t116 t117 : Int32}

theorem w3_hasNode (hN : N ≤ 180) (p i1 i2 : Int32) (K : Int32 → Unit → Prop) (h1 : ∀ v, v < N → p = Int32.ofNat v → K 1 ()) (h0 : ¬ yHn N p → K 0 ()) : wX3_hasNode (Int32.ofNat N) i1 i2 p K := by
  unfold wX3_hasNode
  refine ⟨fun hp => h0 ?_, fun hp => ?_⟩
  · rintro ⟨v, a1, a2⟩
    rw [a2] at hp; exact yn_neg (by omega) hp
  obtain ⟨v, hv, rfl⟩ := yn_of hp
  refine ⟨fun hle => h0 ?_, fun hlt => h1 v ?_ rfl⟩
  · rw [yn_le (by omega) (by omega)] at hle
    rintro ⟨v', a1, a2⟩
    have := (yn_inj (by omega) (by omega)).1 a2; omega
  · rw [yn_le (by omega) (by omega)] at hlt; omega

theorem w8_turns2 (hN : N ≤ 20) (hM : M ≤ 80) (hF : ∀ k, k < M → F k < N ∧ T k < N) {left : Int32} {at' there joined : Nat → Int32} (hg : yCG N M F T al (Int32.ofNat N) (Int32.ofNat M) left at' there joined) (hp : yPln N (yGk M F T al)) {fl o : Nat → Int32} (hFl : yFl N (yGm N joined) (yGm N fl)) (hord : ∀ v w, yGm N fl v w = true → o (20*v+w) = Int32.ofNat (yNu N (yGm N fl) v w))
    {tk uc : Int32} {us ue ffo : Nat → Int32} {fc : Int32} {fst fen : Nat → Int32} (hu : yCU N M F T al tk uc us ue ffo fc fst fen) (i0 i1 i3 i4 i8 : Int32) (f9 : Nat → Int32) (i16 : Int32)
    (K : (Int32 × Int32 × (Nat → Int32) × (Nat → Int32) × (Nat → Int32) × (Nat → Int32) × Int32 × (Nat → Int32) × (Nat → Int32)) → Prop)
    (hK : ∀ tk' uc' b' us' ue' ffo' fc' fst' fen', tk' ≠ 0 → yCU N M F T al tk' uc' us' ue' ffo' fc' fst' fen' → K (tk', uc', b', us', ue', ffo', fc', fst', fen')) :
    wX8_makeTurns i0 i1 tk i3 i4 uc (Int32.ofNat N) (Int32.ofNat M) i8 f9 us ue ffo fc fst fen i16 fl joined o there at' K := by
  obtain ⟨_, _, _, hA, hB, hj⟩ := hg
  refine w8_makeTurns hN hM hF hA hB hj hp hFl hord _ _ _ _ _ _ _ _ _ _ _ _ _ _ _ hu.1 hu.2.1 _ (fun c => hK _ _ _ _ _ _ _ _ _ c hu) (fun b st en fo st' en' a1 a2 a3 => hK 1 _ b st en fo _ st' en' (by decide) ⟨?_, ?_, fun _ => ⟨hp, rfl, a1, a2, rfl, a3⟩⟩)
  · have := a1.2.2.1 0 (by omega); rw [this]; rfl
  · have := a3.2.2.1 0 (by omega); rw [this]; rfl

theorem c_degree (h : yCS N M F T al rs rw' t81 t82 t83 t84 t85 t104 t105 t106 t0 t10 t17 t111 t38 t35 t107 t11 t12 t14 t108 t16 t15 t20 t109 t19 t18 t23 t26 t27 t36 t37) (p0 : Int32) (K : Int32 → Unit → Prop)
    (hK : yCS N M F T al rs rw' t81 t82 t83 t84 t85 t104 t105 t106 t0 t10 t17 t111 t38 t35 t107 t11 t12 t14 t108 t16 t15 t20 t109 t19 t18 t23 t26 t27 t36 t37 → K (yADeg N rs p0) ())
    : wX8_degree t81 t82 t83 t84 t85 t104 t105 t106 t111 t38 p0 K := by
  obtain ⟨⟨hN, hM, hF, hE⟩, hg, ht, hp, hf, hu, ho, hd, he⟩ := h
  have e104 := hg.1
  have e105 := hg.2.1
  have e111 := ht.1
  subst e104 e105 e111
  unfold wX8_degree
  unfold yADeg at hK
  refine w3_hasNode (by omega) _ _ _ _ (fun v hv ev => ⟨fun z => absurd z (by decide), fun _ => ?_⟩) (fun hno => ⟨fun _ => ?_, fun z => absurd rfl z⟩)
  · subst ev
    rw [yIf_pos ⟨v, hv, rfl⟩, yn_nat (by omega)] at hK
    exact w7_size ht.2 hv _ _ (hK ⟨⟨hN, hM, hF, hE⟩, hg, ht, hp, hf, hu, ho, hd, he⟩)
  · rw [yIf_neg hno] at hK
    exact hK ⟨⟨hN, hM, hF, hE⟩, hg, ht, hp, hf, hu, ho, hd, he⟩

theorem c_told (h : yCS N M F T al rs rw' t81 t82 t83 t84 t85 t104 t105 t106 t0 t10 t17 t111 t38 t35 t107 t11 t12 t14 t108 t16 t15 t20 t109 t19 t18 t23 t26 t27 t36 t37) (p0 p1 : Int32) (K : Int32 → Unit → Prop)
    (hK : yCS N M F T al rs rw' t81 t82 t83 t84 t85 t104 t105 t106 t0 t10 t17 t111 t38 t35 t107 t11 t12 t14 t108 t16 t15 t20 t109 t19 t18 t23 t26 t27 t36 t37 → K (yATold N rs rw' p0 p1) ())
    : wX8_told t81 t82 t83 t84 t85 t104 t105 t106 t111 t38 t35 p0 p1 K := by
  obtain ⟨⟨hN, hM, hF, hE⟩, hg, ht, hp, hf, hu, ho, hd, he⟩ := h
  have e104 := hg.1
  have e105 := hg.2.1
  have e111 := ht.1
  subst e104 e105 e111
  have h180 := ht.2.1
  have h160 := ht.2.2.1
  unfold wX8_told
  unfold yATold at hK
  refine w3_hasNode (by omega) _ _ _ _ (fun v hv ev => ⟨fun z => absurd z (by decide), fun _ => ?_⟩) (fun hno => ⟨fun _ => ?_, fun z => absurd rfl z⟩)
  · subst ev
    have hsz := yS_at rs hv
    rw [yIf_pos ⟨v, hv, rfl⟩, yn_nat (by omega)] at hK
    refine w7_has ht.2 _ _ _ (fun v' i a1 a2 a3 a4 => ⟨fun _ => ?_, fun z => absurd z (by decide)⟩) (fun hno => ⟨fun z => absurd rfl z, fun _ => ?_⟩)
    · have hvv : v = v' := (yn_inj (by omega) (by omega)).1 a3
      subst hvv a4
      rw [yIf_pos ⟨i, a2, rfl⟩, yn_nat (by omega)] at hK
      exact w7_get ht.2 hv a2 _ _ (hK ⟨⟨hN, hM, hF, hE⟩, hg, ht, hp, hf, hu, ho, hd, he⟩)
    · rw [yIf_neg (fun ⟨i, a1, a2⟩ => hno ⟨v, i, hv, a1, rfl, a2⟩)] at hK
      exact hK ⟨⟨hN, hM, hF, hE⟩, hg, ht, hp, hf, hu, ho, hd, he⟩
  · rw [yIf_neg hno] at hK
    exact hK ⟨⟨hN, hM, hF, hE⟩, hg, ht, hp, hf, hu, ho, hd, he⟩

theorem c_test (h : yCS N M F T al rs rw' t81 t82 t83 t84 t85 t104 t105 t106 t0 t10 t17 t111 t38 t35 t107 t11 t12 t14 t108 t16 t15 t20 t109 t19 t18 t23 t26 t27 t36 t37) (K : Int32 → (Int32 × Int32 × Int32 × Int32 × (Nat → Int64) × (Nat → Int32) × (Nat → Int32) × (Nat → Int64) × (Nat → Int64) × (Nat → Int32) × (Nat → Int64) × (Nat → Int32) × (Nat → Int64) × (Nat → Int64)) → Prop)
    (hK : ∀ (n81 : Int32) (n82 : Int32) (n116 : Int32) (n117 : Int32) (n5 : Nat → Int64) (n40 : Nat → Int32) (n2 : Nat → Int32) (n3 : Nat → Int64) (n4 : Nat → Int64) (n1 : Nat → Int32) (n6 : Nat → Int64) (n7 : Nat → Int32) (n8 : Nat → Int64) (n9 : Nat → Int64), yCS N M F T al rs rw' n81 n82 t83 t84 t85 t104 t105 t106 t0 t10 t17 t111 t38 t35 t107 t11 t12 t14 t108 t16 t15 t20 t109 t19 t18 t23 t26 t27 t36 t37 → K (yATest N M F T al) (n81, n82, n116, n117, n5, n40, n2, n3, n4, n1, n6, n7, n8, n9))
    : wX8_test t81 t82 t83 t84 t85 t104 t105 t106 t107 t11 t17 t12 t116 t117 t5 t40 t2 t3 t4 t1 t6 t7 t8 t9 K := by
  obtain ⟨⟨hN, hM, hF, hE⟩, hg, ht, hp, hf, hu, ho, hd, he⟩ := h
  have e104 := hg.1
  have e105 := hg.2.1
  have e111 := ht.1
  subst e104 e105 e111
  unfold wX8_test
  unfold yATest at hK
  refine w8_isPlane hN hF hg hp hf _ _ _ _ _ _ _ _ _ _ _ _ _ _ _ _ _ _ (fun q pk' pl' u hc => ⟨fun z => absurd z (by decide), fun _ => ?_⟩) (fun q pk' pl' u hc => ⟨fun _ => ?_, fun z => absurd rfl z⟩)
  · rw [yIf_pos q] at hK
    exact hK _ _ _ _ _ _ _ _ _ _ _ _ _ _ ⟨⟨hN, hM, hF, hE⟩, hg, ht, hc, hf, hu, ho, hd, he⟩
  · rw [yIf_neg q] at hK
    exact hK _ _ _ _ _ _ _ _ _ _ _ _ _ _ ⟨⟨hN, hM, hF, hE⟩, hg, ht, hc, hf, hu, ho, hd, he⟩

theorem c_turn (h : yCS N M F T al rs rw' t81 t82 t83 t84 t85 t104 t105 t106 t0 t10 t17 t111 t38 t35 t107 t11 t12 t14 t108 t16 t15 t20 t109 t19 t18 t23 t26 t27 t36 t37) (p0 p1 : Int32) (K : Int32 → (Int32 × Int32 × Int32 × Int32 × (Nat → Int32) × (Nat → Int32) × Int32 × Int32 × (Nat → Int64) × (Nat → Int32) × (Nat → Int32) × (Nat → Int64) × (Nat → Int64) × (Nat → Int32) × (Nat → Int64) × (Nat → Int32) × (Nat → Int64) × (Nat → Int64) × (Nat → Int32) × (Nat → Int32) × Int32 × (Nat → Int32) × (Nat → Int32) × (Nat → Int32) × (Nat → Int32) × Int32 × (Nat → Int32) × (Nat → Int32)) → Prop)
    (hK : ∀ (n81 : Int32) (n82 : Int32) (n83 : Int32) (n107 : Int32) (n11 : Nat → Int32) (n12 : Nat → Int32) (n116 : Int32) (n117 : Int32) (n5 : Nat → Int64) (n40 : Nat → Int32) (n2 : Nat → Int32) (n3 : Nat → Int64) (n4 : Nat → Int64) (n1 : Nat → Int32) (n6 : Nat → Int64) (n7 : Nat → Int32) (n8 : Nat → Int64) (n9 : Nat → Int64) (n13 : Nat → Int32) (n14 : Nat → Int32) (n108 : Int32) (n21 : Nat → Int32) (n16 : Nat → Int32) (n15 : Nat → Int32) (n20 : Nat → Int32) (n109 : Int32) (n19 : Nat → Int32) (n18 : Nat → Int32), yCS N M F T al rs rw' n81 n82 n83 t84 t85 t104 t105 t106 t0 t10 t17 t111 t38 t35 n107 n11 n12 n14 n108 n16 n15 n20 n109 n19 n18 t23 t26 t27 t36 t37 → K (yATurn N M F T al p0 p1) (n81, n82, n83, n107, n11, n12, n116, n117, n5, n40, n2, n3, n4, n1, n6, n7, n8, n9, n13, n14, n108, n21, n16, n15, n20, n109, n19, n18))
    : wX8_turn t81 t82 t83 t84 t85 t104 t105 t106 t107 t11 t17 t12 t116 t117 t5 t40 t2 t3 t4 t1 t6 t7 t8 t9 t13 t14 t108 t21 t16 t15 t20 t109 t19 t18 t10 t0 p0 p1 K := by
  obtain ⟨⟨hN, hM, hF, hE⟩, hg, ht, hp, hf, hu, ho, hd, he⟩ := h
  have e104 := hg.1
  have e105 := hg.2.1
  have e111 := ht.1
  subst e104 e105 e111
  unfold wX8_turn
  unfold yATurn at hK
  refine w3_hasNode (by omega) _ _ _ _ (fun v hv ev => ⟨fun _ => ?_, fun z => absurd z (by decide)⟩) (fun hno => ⟨fun z => absurd rfl z, fun _ => ?_⟩)
  · subst ev
    rw [yIf_pos ⟨v, hv, rfl⟩, yn_nat (by omega)] at hK
    refine w8_isPlane hN hF hg hp hf _ _ _ _ _ _ _ _ _ _ _ _ _ _ _ _ _ _ (fun q pk' pl' u hc => ⟨fun _ => ?_, fun z => absurd z (by decide)⟩) (fun q pk' pl' u hc => ⟨fun z => absurd rfl z, fun _ => ?_⟩)
    · rw [yIf_pos q] at hK
      refine w8_makeFilled hN hF hg q hf _ _ _ _ _ _ _ _ _ _ _ _ _ _ _ _ _ _ _ _ _ (fun fn' fb' fj' x3 x4 x5 x6 x7 x8 x9 x10 x11 x12 x13 x14 th ord' hf' hfn hfl hord => ?_)
      refine w8_turns2 hN hM hF hg q hfl hord hu _ _ _ _ _ _ _ _ (fun tk' uc' b' us' ue' ffo' fc' fst' fen' htk hu' => ?_)
      obtain ⟨_, _, hu3⟩ := id hu'
      obtain ⟨_, euc, hrw, _⟩ := hu3 htk
      subst euc
      have hsz := yS_at (fun v => (yTn N M F T al v).length) hv
      have h160 := hrw.2.1
      refine w7_has hrw _ _ _ (fun v' i a1 a2 a3 a4 => ⟨fun z => absurd z (by decide), fun _ => ?_⟩) (fun hno => ⟨fun _ => ?_, fun z => absurd rfl z⟩)
      · have hvv : v = v' := (yn_inj (by omega) (by omega)).1 a3
        subst hvv a4
        have a2' : i < (yTn N M F T al v).length := a2
        rw [yIf_pos ⟨i, a2', rfl⟩, yn_nat (by omega)] at hK
        exact w7_get hrw hv a2 _ _ (hK _ _ _ _ _ _ _ _ _ _ _ _ _ _ _ _ _ _ _ _ _ _ _ _ _ _ _ _ ⟨⟨hN, hM, hF, hE⟩, hg, ht, hc, hf', hu', ho, hd, he⟩)
      · rw [yIf_neg (fun ⟨i, a1, a2⟩ => hno ⟨v, i, hv, a1, rfl, a2⟩)] at hK
        exact hK _ _ _ _ _ _ _ _ _ _ _ _ _ _ _ _ _ _ _ _ _ _ _ _ _ _ _ _ ⟨⟨hN, hM, hF, hE⟩, hg, ht, hc, hf', hu', ho, hd, he⟩
    · rw [yIf_neg q] at hK
      exact hK _ _ _ _ _ _ _ _ _ _ _ _ _ _ _ _ _ _ _ _ _ _ _ _ _ _ _ _ ⟨⟨hN, hM, hF, hE⟩, hg, ht, hc, hf, hu, ho, hd, he⟩
  · rw [yIf_neg hno] at hK
    exact hK _ _ _ _ _ _ _ _ _ _ _ _ _ _ _ _ _ _ _ _ _ _ _ _ _ _ _ _ ⟨⟨hN, hM, hF, hE⟩, hg, ht, hp, hf, hu, ho, hd, he⟩

theorem c_faces (h : yCS N M F T al rs rw' t81 t82 t83 t84 t85 t104 t105 t106 t0 t10 t17 t111 t38 t35 t107 t11 t12 t14 t108 t16 t15 t20 t109 t19 t18 t23 t26 t27 t36 t37) (K : Int32 → (Int32 × Int32 × Int32 × Int32 × (Nat → Int32) × (Nat → Int32) × Int32 × Int32 × (Nat → Int64) × (Nat → Int32) × (Nat → Int32) × (Nat → Int64) × (Nat → Int64) × (Nat → Int32) × (Nat → Int64) × (Nat → Int32) × (Nat → Int64) × (Nat → Int64) × (Nat → Int32) × (Nat → Int32) × Int32 × (Nat → Int32) × (Nat → Int32) × (Nat → Int32) × (Nat → Int32) × Int32 × (Nat → Int32) × (Nat → Int32)) → Prop)
    (hK : ∀ (n81 : Int32) (n82 : Int32) (n83 : Int32) (n107 : Int32) (n11 : Nat → Int32) (n12 : Nat → Int32) (n116 : Int32) (n117 : Int32) (n5 : Nat → Int64) (n40 : Nat → Int32) (n2 : Nat → Int32) (n3 : Nat → Int64) (n4 : Nat → Int64) (n1 : Nat → Int32) (n6 : Nat → Int64) (n7 : Nat → Int32) (n8 : Nat → Int64) (n9 : Nat → Int64) (n13 : Nat → Int32) (n14 : Nat → Int32) (n108 : Int32) (n21 : Nat → Int32) (n16 : Nat → Int32) (n15 : Nat → Int32) (n20 : Nat → Int32) (n109 : Int32) (n19 : Nat → Int32) (n18 : Nat → Int32), yCS N M F T al rs rw' n81 n82 n83 t84 t85 t104 t105 t106 t0 t10 t17 t111 t38 t35 n107 n11 n12 n14 n108 n16 n15 n20 n109 n19 n18 t23 t26 t27 t36 t37 → K (yAFaces N M F T al) (n81, n82, n83, n107, n11, n12, n116, n117, n5, n40, n2, n3, n4, n1, n6, n7, n8, n9, n13, n14, n108, n21, n16, n15, n20, n109, n19, n18))
    : wX8_faces t81 t82 t83 t84 t85 t104 t105 t106 t107 t11 t17 t12 t116 t117 t5 t40 t2 t3 t4 t1 t6 t7 t8 t9 t13 t14 t108 t21 t16 t15 t20 t109 t19 t18 t10 t0 K := by
  obtain ⟨⟨hN, hM, hF, hE⟩, hg, ht, hp, hf, hu, ho, hd, he⟩ := h
  have e104 := hg.1
  have e105 := hg.2.1
  have e111 := ht.1
  subst e104 e105 e111
  unfold wX8_faces
  unfold yAFaces at hK
  refine w8_isPlane hN hF hg hp hf _ _ _ _ _ _ _ _ _ _ _ _ _ _ _ _ _ _ (fun q pk' pl' u hc => ⟨fun _ => ?_, fun z => absurd z (by decide)⟩) (fun q pk' pl' u hc => ⟨fun z => absurd rfl z, fun _ => ?_⟩)
  · rw [yIf_pos q] at hK
    refine w8_makeFilled hN hF hg q hf _ _ _ _ _ _ _ _ _ _ _ _ _ _ _ _ _ _ _ _ _ (fun fn' fb' fj' x3 x4 x5 x6 x7 x8 x9 x10 x11 x12 x13 x14 th ord' hf' hfn hfl hord => ?_)
    refine w8_turns2 hN hM hF hg q hfl hord hu _ _ _ _ _ _ _ _ (fun tk' uc' b' us' ue' ffo' fc' fst' fen' htk hu' => ?_)
    obtain ⟨_, _, hu3⟩ := id hu'
    obtain ⟨_, euc, _, _, efc, _⟩ := hu3 htk
    subst efc
    exact hK _ _ _ _ _ _ _ _ _ _ _ _ _ _ _ _ _ _ _ _ _ _ _ _ _ _ _ _ ⟨⟨hN, hM, hF, hE⟩, hg, ht, hc, hf', hu', ho, hd, he⟩
  · rw [yIf_neg q] at hK
    exact hK _ _ _ _ _ _ _ _ _ _ _ _ _ _ _ _ _ _ _ _ _ _ _ _ _ _ _ _ ⟨⟨hN, hM, hF, hE⟩, hg, ht, hc, hf, hu, ho, hd, he⟩

theorem c_face (h : yCS N M F T al rs rw' t81 t82 t83 t84 t85 t104 t105 t106 t0 t10 t17 t111 t38 t35 t107 t11 t12 t14 t108 t16 t15 t20 t109 t19 t18 t23 t26 t27 t36 t37) (p0 p1 : Int32) (K : Int32 → (Int32 × Int32 × Int32 × Int32 × (Nat → Int32) × (Nat → Int32) × Int32 × Int32 × (Nat → Int64) × (Nat → Int32) × (Nat → Int32) × (Nat → Int64) × (Nat → Int64) × (Nat → Int32) × (Nat → Int64) × (Nat → Int32) × (Nat → Int64) × (Nat → Int64) × (Nat → Int32) × (Nat → Int32) × Int32 × (Nat → Int32) × (Nat → Int32) × (Nat → Int32) × (Nat → Int32) × Int32 × (Nat → Int32) × (Nat → Int32)) → Prop)
    (hK : ∀ (n81 : Int32) (n82 : Int32) (n83 : Int32) (n107 : Int32) (n11 : Nat → Int32) (n12 : Nat → Int32) (n116 : Int32) (n117 : Int32) (n5 : Nat → Int64) (n40 : Nat → Int32) (n2 : Nat → Int32) (n3 : Nat → Int64) (n4 : Nat → Int64) (n1 : Nat → Int32) (n6 : Nat → Int64) (n7 : Nat → Int32) (n8 : Nat → Int64) (n9 : Nat → Int64) (n13 : Nat → Int32) (n14 : Nat → Int32) (n108 : Int32) (n21 : Nat → Int32) (n16 : Nat → Int32) (n15 : Nat → Int32) (n20 : Nat → Int32) (n109 : Int32) (n19 : Nat → Int32) (n18 : Nat → Int32), yCS N M F T al rs rw' n81 n82 n83 t84 t85 t104 t105 t106 t0 t10 t17 t111 t38 t35 n107 n11 n12 n14 n108 n16 n15 n20 n109 n19 n18 t23 t26 t27 t36 t37 → K (yAFace N M F T al p0 p1) (n81, n82, n83, n107, n11, n12, n116, n117, n5, n40, n2, n3, n4, n1, n6, n7, n8, n9, n13, n14, n108, n21, n16, n15, n20, n109, n19, n18))
    : wX8_face t81 t82 t83 t84 t85 t104 t105 t106 t107 t11 t17 t12 t116 t117 t5 t40 t2 t3 t4 t1 t6 t7 t8 t9 t13 t14 t108 t21 t16 t15 t20 t109 t19 t18 t10 t0 p0 p1 K := by
  obtain ⟨⟨hN, hM, hF, hE⟩, hg, ht, hp, hf, hu, ho, hd, he⟩ := h
  have e104 := hg.1
  have e105 := hg.2.1
  have e111 := ht.1
  subst e104 e105 e111
  unfold wX8_face
  unfold yAFace at hK
  refine w8_isPlane hN hF hg hp hf _ _ _ _ _ _ _ _ _ _ _ _ _ _ _ _ _ _ (fun q pk' pl' u hc => ⟨fun _ => ?_, fun z => absurd z (by decide)⟩) (fun q pk' pl' u hc => ⟨fun z => absurd rfl z, fun _ => ?_⟩)
  · rw [yIf_pos q] at hK
    refine w8_makeFilled hN hF hg q hf _ _ _ _ _ _ _ _ _ _ _ _ _ _ _ _ _ _ _ _ _ (fun fn' fb' fj' x3 x4 x5 x6 x7 x8 x9 x10 x11 x12 x13 x14 th ord' hf' hfn hfl hord => ?_)
    refine w8_turns2 hN hM hF hg q hfl hord hu _ _ _ _ _ _ _ _ (fun tk' uc' b' us' ue' ffo' fc' fst' fen' htk hu' => ?_)
    obtain ⟨_, _, hu3⟩ := id hu'
    obtain ⟨_, euc, _, _, efc, hrw⟩ := hu3 htk
    subst efc
    have h180 := hrw.1
    have h160 := hrw.2.1
    refine w7_has hrw _ _ _ (fun r i a1 a2 a3 a4 => ⟨fun z => absurd z (by decide), fun _ => ?_⟩) (fun hno => ⟨fun _ => ?_, fun z => absurd rfl z⟩)
    · subst a3 a4
      have hsz := yS_at (fun r => if r < (yTf N M F T al).1 then (yTf N M F T al).2.1 r else 0) a1
      have a2' := a2
      try dsimp only at a2' hsz
      have hr : r < (yTf N M F T al).1 := by
        apply Classical.byContradiction
        intro hn; rw [if_neg hn] at a2'; omega
      rw [if_pos hr] at a2' hsz
      rw [yIf_pos ⟨r, i, hr, a2', rfl, rfl⟩, yn_nat (by omega), yn_nat (by omega)] at hK
      exact w7_get hrw a1 a2 _ _ (hK _ _ _ _ _ _ _ _ _ _ _ _ _ _ _ _ _ _ _ _ _ _ _ _ _ _ _ _ ⟨⟨hN, hM, hF, hE⟩, hg, ht, hc, hf', hu', ho, hd, he⟩)
    · rw [yIf_neg (fun ⟨r, i, a1, a2, a3, a4⟩ => hno ⟨r, i, by omega, by rw [if_pos a1]; exact a2, a3, a4⟩)] at hK
      exact hK _ _ _ _ _ _ _ _ _ _ _ _ _ _ _ _ _ _ _ _ _ _ _ _ _ _ _ _ ⟨⟨hN, hM, hF, hE⟩, hg, ht, hc, hf', hu', ho, hd, he⟩
  · rw [yIf_neg q] at hK
    exact hK _ _ _ _ _ _ _ _ _ _ _ _ _ _ _ _ _ _ _ _ _ _ _ _ _ _ _ _ ⟨⟨hN, hM, hF, hE⟩, hg, ht, hc, hf, hu, ho, hd, he⟩

end


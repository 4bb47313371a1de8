
-- where there is a dual, no node is bare
theorem yHd_bare {N M : Nat} {F T : Nat → Nat} {al : Nat → Bool} (hF : ∀ k, k < M → F k < N ∧ T k < N) (h : yHd N M F T al) {v : Nat} (hv : v < N) : ∃ e, yLv M al e = true ∧ yNd F T e = v := by
  apply Classical.byContradiction
  intro hno
  obtain ⟨_, h1, h2⟩ := h
  have hsg := yGk_sg (c := al) hF
  obtain ⟨k, hk, hak⟩ := yNb_ex M h1
  have hA : yNd F T (2*k) = F k := by unfold yNd; rw [if_pos (by omega), show 2*k/2 = k by omega]
  have hlk : yLv M al (2*k) = true := yLv_iff.2 ⟨by omega, by rw [show 2*k/2 = k by omega]; exact hak⟩
  have hne : F k ≠ v := fun q => hno ⟨2*k, hlk, by rw [hA]; exact q⟩
  have hFk := (hF k hk).1
  -- v has no neighbour
  have hvn : ∀ p, yGk M F T al v p = false := by
    intro p
    cases q : yGk M F T al v p with
    | false => rfl
    | true => obtain ⟨e, a1, a2, _⟩ := yGk_end q; exact absurd ⟨e, a1, a2⟩ hno
  have hfrom : ∀ x, yRcg (yGk M F T al) v x → x = v := by
    intro x hx
    refine hx (fun y => y = v) rfl (fun p q hp hpq => ?_)
    rw [hp, hvn] at hpq; cases hpq
  have hto : ∀ x, yRcg (yGk M F T al) x v → x = v := by
    intro x hx
    apply Classical.byContradiction
    intro hxv
    exact absurd rfl (hx (fun y => y ≠ v) hxv (fun p q hp hpq hq => by rw [hsg.2, hq, hvn] at hpq; cases hpq))
  -- the least node that leads to F k
  have hleast : ∃ w, w ≤ F k ∧ yD (yRcg (yGk M F T al) w (F k)) = true ∧ ∀ i, i < w → yD (yRcg (yGk M F T al) i (F k)) = false := yLw_ex (p := fun w => yD (yRcg (yGk M F T al) w (F k))) (w := F k) (yD_pos (yRcg_refl _ _))
  obtain ⟨w, w1, w2, w3⟩ := hleast
  rw [yD_iff] at w2
  have hwv : w ≠ v := fun q => hne (hfrom _ (by rw [← q]; exact w2))
  have := yPigC 2 N (fun v => yD (¬ ∃ u, u < v ∧ yRcg (yGk M F T al) u v)) (fun i => if i = 0 then v else w) (fun i hi => by
    try dsimp only
    split
    · exact ⟨hv, yD_pos (fun ⟨u, a1, a2⟩ => by have := hto u a2; omega)⟩
    · refine ⟨by omega, yD_pos (fun ⟨u, a1, a2⟩ => ?_)⟩
      have := (yD_iff0 _).1 (w3 u a1)
      exact this (yRcg_trans a2 w2)) (fun i j hi hj hij => by
    try dsimp only at hij
    split at hij <;> split at hij <;> omega)
  unfold yParts at h2
  omega

section
variable {N M : Nat} {F T : Nat → Nat} {al : Nat → Bool} {rs : Nat → Nat} {rw' : Nat → Nat → Nat}
variable {t0 t1 t2 t7 t10 t11 t12 t13 t14 t15 t16 t17 t18 t19 t20 t21 t22 t23 t24 t25 t26 t27 t28 t29 t30 t31 t32 t33 t34 t35 t36 t37 t38 t39 t40 t41 t42 t43 t44 t45 t46 t47 t48 t49 t50 t51 t52 t53 t54 t55 t56 t57 t58 t59 t60 t61 t62 t63 t64 t65 t66 t67 t68 t69 t70 t71 t72 t73 t74 t75 t76 t77 t78 t79 t80 : Nat → Int32} {t3 t4 t5 t6 t8 t9 : Nat → Int64} {t81 t82 t83 t84 t85 t86 t87 t88 t89 t90 t91 t92 t93 t94 t95 t96 t97 t98 t99 t100 t101 t102 t103 t104 t105 t106 t107 t108 t109 t110 t111 t112 t113 t114 t115 t116 t117 : Int32}

theorem w6_neighbour {G : Nat → Nat → Bool} {ν : Nat → Nat → Nat} (hN : N ≤ 20) {fl o : Nat → Int32} (hG : yGm N fl = G) (hSg : ySg N G) (ho : ∀ v w, G v w = true → o (20*v+w) = Int32.ofNat (ν v w)) {v k : Nat} (hv : v < N) (hC : yCyc G ν v) (hk : k < yNb 32 (G v)) (i0 : Int32) (K : Int32 → Unit → Prop)
    (hK : K (Int32.ofNat (yIt ν v (yLst G v) k)) ()) : wX6_neighbour i0 fl o (Int32.ofNat v) (Int32.ofNat k) K := by
  have hGv : ∀ w, G v w = yM (fl v) w := fun w => by rw [← hG]; unfold yGm; rw [decide_eq_true hv, Bool.true_and]
  have hGlt : ∀ w, G v w = true → w < 20 := fun w hw => by have := (hSg.1 v w hw).2.1; omega
  have hd32 := yEcnt_le 32 (G v)
  have key : ∀ d i, k - i = d → i ≤ k → wLX6_neighbour_16 o (Int32.ofNat v) (Int32.ofNat k) K (d+1) (Int32.ofNat (yIt ν v (yLst G v) i)) (Int32.ofNat i) := by
    intro d
    induction d with
    | zero =>
      intro i hd hi
      have : i = k := by omega
      subst this
      unfold wLX6_neighbour_16
      refine ⟨fun _ => hK, fun hh => ?_⟩
      exfalso; apply hh; rw [yn_le (by omega) (by omega)]; omega
    | succ d ih =>
      intro i hd hi
      have ei : Int32.ofNat i + 1 = Int32.ofNat (i+1) := yn_add i 1
      have hgw := hC.1 i (by omega)
      unfold wLX6_neighbour_16
      rw [ei]
      refine ⟨fun hh => ?_, fun _ => w_behind (by omega) (hGlt _ hgw) o _ ?_⟩
      · exfalso; rw [yn_le (by omega) (by omega)] at hh; omega
      · rw [ho v _ hgw]; exact ih (i+1) (by omega) (by omega)
  unfold wX6_neighbour
  rw [yn_nat (by omega)]
  obtain ⟨w, w1, w2⟩ := yNb_ex 32 (show 0 < yNb 32 (G v) by omega)
  obtain ⟨m, m1, m2, m3⟩ := yLw_ex w2
  have hlw : yLw G v m := ⟨m2, m3⟩
  refine ⟨yn_in (by omega) (by omega), w_lowest (k := m) (by omega) (by rw [← hGv]; exact m2) (fun i hi => by rw [← hGv]; exact m3 i hi) _ ?_⟩
  have := key (k-0) 0 rfl (by omega)
  rw [yLst_eq hlw] at this
  exact ⟨_, this⟩

theorem c_round (h : yCS N M F T al rs rw' t81 t82 t83 t84 t85 t104 t105 t106 t0 t10 t17 t111 t38 t35 t107 t11 t12 t14 t108 t16 t15 t20 t109 t19 t18 t23 t26 t27 t36 t37) (p0 p1 : Int32) (K : Int32 → (Int32 × Int32 × Int32 × (Nat → Int32) × (Nat → Int32) × Int32 × Int32 × (Nat → Int64) × (Nat → Int32) × (Nat → Int32) × (Nat → Int64) × (Nat → Int64) × (Nat → Int32) × (Nat → Int64) × (Nat → Int32) × (Nat → Int64) × (Nat → Int64) × (Nat → Int32) × (Nat → Int32)) → Prop)
    (hK : ∀ (n81 : Int32) (n82 : Int32) (n107 : Int32) (n11 : Nat → Int32) (n12 : Nat → Int32) (n116 : Int32) (n117 : Int32) (n5 : Nat → Int64) (n40 : Nat → Int32) (n2 : Nat → Int32) (n3 : Nat → Int64) (n4 : Nat → Int64) (n1 : Nat → Int32) (n6 : Nat → Int64) (n7 : Nat → Int32) (n8 : Nat → Int64) (n9 : Nat → Int64) (n13 : Nat → Int32) (n14 : Nat → Int32), yCS N M F T al rs rw' n81 n82 t83 t84 t85 t104 t105 t106 t0 t10 t17 t111 t38 t35 n107 n11 n12 n14 t108 t16 t15 t20 t109 t19 t18 t23 t26 t27 t36 t37 → K (yARound N M F T al p0 p1) (n81, n82, n107, n11, n12, n116, n117, n5, n40, n2, n3, n4, n1, n6, n7, n8, n9, n13, n14))
    : wX8_round t81 t82 t83 t84 t85 t104 t105 t106 t107 t11 t17 t12 t116 t117 t5 t40 t2 t3 t4 t1 t6 t7 t8 t9 t13 t14 p0 p1 K := by
  obtain ⟨⟨hN, hM, hF, hE⟩, hg, ht, hp, hf, hu, ho, hd, he⟩ := h
  have e104 := hg.1
  have e105 := hg.2.1
  have e111 := ht.1
  subst e104 e105 e111
  unfold wX8_round
  unfold yARound at hK
  refine w3_hasNode (by omega) _ _ _ _ (fun v hv ev => ⟨fun _ => ?_, fun z => absurd z (by decide)⟩) (fun hno => ⟨fun z => absurd rfl z, fun _ => ?_⟩)
  · subst ev
    rw [yIf_pos ⟨v, hv, rfl⟩, yn_nat (by omega)] at hK
    refine w8_isPlane hN hF hg hp hf _ _ _ _ _ _ _ _ _ _ _ _ _ _ _ _ _ _ (fun q pk' pl' u hc => ⟨fun _ => ?_, fun z => absurd z (by decide)⟩) (fun q pk' pl' u hc => ⟨fun z => absurd rfl z, fun _ => ?_⟩)
    · rw [yIf_pos q] at hK
      refine w8_makeFilled hN hF hg q hf _ _ _ _ _ _ _ _ _ _ _ _ _ _ _ _ _ _ _ _ _ (fun fn' fb' fj' x3 x4 x5 x6 x7 x8 x9 x10 x11 x12 x13 x14 th ord' hf' hfn hfl hord => ?_)
      have hjN := yCG_N hN hF hg
      obtain ⟨hC, hG, _, _, _⟩ := yTn_ok hN hM hF hjN q hfl
      rw [hG] at hK
      have hGv : ∀ w, yGm N fj' v w = yM (fj' v) w := fun w => by unfold yGm; rw [decide_eq_true hv, Bool.true_and]
      have hdeg : yNb 32 (yM (fj' v)) = yNb 32 (yGm N fj' v) := by apply yNb_congr; intro i _; exact (hGv i).symm
      have hd32 := yEcnt_le 32 (yGm N fj' v)
      refine ⟨fun hneg => ?_, fun hpos => ?_⟩
      · rw [yIf_neg (fun ⟨i, a1, a2⟩ => by rw [a2] at hneg; exact yn_neg (by omega) hneg)] at hK
        exact hK _ _ _ _ _ _ _ _ _ _ _ _ _ _ _ _ _ _ _ ⟨⟨hN, hM, hF, hE⟩, hg, ht, hc, hf', hu, ho, hd, he⟩
      · obtain ⟨k, hk, rfl⟩ := yn_of hpos
        rw [yn_nat (by omega : v < 2147483648)]
        refine ⟨yn_in (by omega) (by omega), w_bitCount _ _ ?_⟩
        rw [hdeg, yn_lt (by omega) (by omega)]
        refine ⟨fun hlt => ?_, fun hge => ?_⟩
        · rw [yIf_pos ⟨k, hlt, rfl⟩, yn_nat (by omega)] at hK
          exact w6_neighbour hN rfl hfl.1 hord hv (hC v hv) hlt _ _ (hK _ _ _ _ _ _ _ _ _ _ _ _ _ _ _ _ _ _ _ ⟨⟨hN, hM, hF, hE⟩, hg, ht, hc, hf', hu, ho, hd, he⟩)
        · rw [yIf_neg (fun ⟨i, a1, a2⟩ => hge (by have := (yn_inj (by omega) (by omega)).1 a2; omega))] at hK
          exact hK _ _ _ _ _ _ _ _ _ _ _ _ _ _ _ _ _ _ _ ⟨⟨hN, hM, hF, hE⟩, hg, ht, hc, hf', hu, ho, hd, he⟩
    · rw [yIf_neg q] at hK
      exact hK _ _ _ _ _ _ _ _ _ _ _ _ _ _ _ _ _ _ _ ⟨⟨hN, hM, hF, hE⟩, hg, ht, hc, hf, hu, ho, hd, he⟩
  · rw [yIf_neg hno] at hK
    exact hK _ _ _ _ _ _ _ _ _ _ _ _ _ _ _ _ _ _ _ ⟨⟨hN, hM, hF, hE⟩, hg, ht, hp, hf, hu, ho, hd, he⟩

theorem yn_01 {p : Int32} (h0 : ¬ p < 0) (h1 : p ≤ 1) : p = 0 ∨ p = 1 := by
  obtain ⟨k, hk, rfl⟩ := yn_of h0
  have e1 : (1 : Int32) = Int32.ofNat 1 := rfl
  have e0 : (0 : Int32) = Int32.ofNat 0 := rfl
  rw [e1, yn_le hk (by omega)] at h1
  rcases (by omega : k = 0 ∨ k = 1) with q | q
  · left; rw [q]; rfl
  · right; rw [q]; rfl

theorem yLv_tf (hN : N ≤ 20) (hM : M ≤ 80) (hE : yEr N (yNd F T) (fun e => yLv M al e = true) rs rw') {e : Nat} (he : yLv M al e = true) : (yTt N M al rs rw').2.2.2 e ≠ 0 := by
  have := yTc_keeps (yBt_closed hE (fun e he => yLv_pt he)) 160
  have hl := yLv_iff.1 he
  exact this.2.2.2 e (by omega) he


theorem c_dual (h : yCS N M F T al rs rw' t81 t82 t83 t84 t85 t104 t105 t106 t0 t10 t17 t111 t38 t35 t107 t11 t12 t14 t108 t16 t15 t20 t109 t19 t18 t23 t26 t27 t36 t37) (p0 p1 : Int32) (K : Int32 → (Int32 × Int32 × Int32 × Int32 × (Nat → Int32) × (Nat → Int32) × Int32 × Int32 × (Nat → Int64) × (Nat → Int32) × (Nat → Int32) × (Nat → Int64) × (Nat → Int64) × (Nat → Int32) × (Nat → Int64) × (Nat → Int32) × (Nat → Int64) × (Nat → Int64) × (Nat → Int32) × (Nat → Int32) × Int32 × (Nat → Int32) × (Nat → Int32) × (Nat → Int32) × (Nat → Int32) × Int32 × (Nat → Int32) × (Nat → Int32)) → Prop)
    (hK : ∀ (n81 : Int32) (n82 : Int32) (n83 : Int32) (n107 : Int32) (n11 : Nat → Int32) (n12 : Nat → Int32) (n116 : Int32) (n117 : Int32) (n5 : Nat → Int64) (n40 : Nat → Int32) (n2 : Nat → Int32) (n3 : Nat → Int64) (n4 : Nat → Int64) (n1 : Nat → Int32) (n6 : Nat → Int64) (n7 : Nat → Int32) (n8 : Nat → Int64) (n9 : Nat → Int64) (n13 : Nat → Int32) (n14 : Nat → Int32) (n108 : Int32) (n21 : Nat → Int32) (n16 : Nat → Int32) (n15 : Nat → Int32) (n20 : Nat → Int32) (n109 : Int32) (n19 : Nat → Int32) (n18 : Nat → Int32), yCS N M F T al rs rw' n81 n82 n83 t84 t85 t104 t105 t106 t0 t10 t17 t111 t38 t35 n107 n11 n12 n14 n108 n16 n15 n20 n109 n19 n18 t23 t26 t27 t36 t37 → K (yADual N M F T al p0 p1) (n81, n82, n83, n107, n11, n12, n116, n117, n5, n40, n2, n3, n4, n1, n6, n7, n8, n9, n13, n14, n108, n21, n16, n15, n20, n109, n19, n18))
    : wX8_dual t81 t82 t83 t84 t85 t104 t105 t106 t10 t107 t11 t17 t12 t116 t117 t5 t40 t2 t3 t4 t1 t6 t7 t8 t9 t13 t14 t108 t21 t16 t15 t20 t109 t19 t18 t0 p0 p1 K := by
  obtain ⟨⟨hN, hM, hF, hE⟩, hg, ht, hp, hf, hu, ho, hd, he⟩ := h
  have e104 := hg.1
  have e105 := hg.2.1
  have e111 := ht.1
  subst e104 e105 e111
  unfold wX8_dual
  unfold yADual at hK
  refine w3_hasArc hM hg.2.2.2.2.1 _ _ _ _ (fun k hk hak ek => ⟨fun _ => ?_, fun z => absurd z (by decide)⟩) (fun hno => ⟨fun z => absurd rfl z, fun _ => ?_⟩)
  · subst ek
    rw [yIf_pos ⟨k, hk, hak, rfl⟩, yn_nat (by omega)] at hK
    refine ⟨fun hneg => ?_, fun hpos => ⟨fun hle => ?_, fun hgt => ?_⟩⟩
    · rw [yIf_neg (by rintro (q | q) <;> (rw [q] at hneg; exact absurd hneg (by decide)))] at hK
      exact hK _ _ _ _ _ _ _ _ _ _ _ _ _ _ _ _ _ _ _ _ _ _ _ _ _ _ _ _ ⟨⟨hN, hM, hF, hE⟩, hg, ht, hp, hf, hu, ho, hd, he⟩
    · have h01 := yn_01 hpos hle
      rw [yIf_pos h01] at hK
      refine w8_hasDual hN hM hF hg hp hf _ _ _ _ _ _ _ _ _ _ _ _ _ _ _ _ _ (fun qd pk' pl' u hc => ⟨fun _ => ?_, fun z => absurd z (by decide)⟩) (fun qd pk' pl' u hc => ⟨fun z => absurd rfl z, fun _ => ?_⟩)
      · rw [yIf_pos qd] at hK
        have q := qd.1
        refine w8_makeFilled hN hF hg q hf _ _ _ _ _ _ _ _ _ _ _ _ _ _ _ _ _ _ _ _ _ (fun fn' fb' fj' x3 x4 x5 x6 x7 x8 x9 x10 x11 x12 x13 x14 th ord' hf' hfn hfl hord => ?_)
        refine w8_turns2 hN hM hF hg q hfl hord hu _ _ _ _ _ _ _ _ (fun tk' uc' b' us' ue' ffo' fc' fst' fen' htk hu' => ?_)
        obtain ⟨_, _, hu3⟩ := id hu'
        obtain ⟨_, euc, _, hfo, efc, hrw⟩ := hu3 htk
        have hjN := yCG_N hN hF hg
        obtain ⟨_, _, _, _, hEt⟩ := yTn_ok hN hM hF hjN q hfl
        obtain ⟨w, hw, hwe⟩ : ∃ w, w < 2 ∧ p1 = Int32.ofNat w := by
          rcases h01 with q | q
          · exact ⟨0, by omega, q⟩
          · exact ⟨1, by omega, q⟩
        subst hwe
        rw [yn_2, yn_add, yn_nat (by omega)]
        rw [yn_nat (by omega)] at hK
        refine ⟨yn_in (by omega) (by omega), ?_⟩
        have hl : yLv M al (2*k+w) = true := yLv_iff.2 ⟨by omega, by rw [show (2*k+w)/2 = k by omega]; exact hak⟩
        have hne : (yTf N M F T al).2.2.2 (2*k+w) ≠ 0 := yLv_tf (rs := fun v => (yTn N M F T al v).length) (rw' := fun v i => (yTn N M F T al v).getD i 0) hN hM hEt hl
        have hval := hfo (2*k+w) (by omega)
        rw [if_neg hne] at hval
        show K (ffo' (2*k+w)) _
        rw [hval]
        exact hK _ _ _ _ _ _ _ _ _ _ _ _ _ _ _ _ _ _ _ _ _ _ _ _ _ _ _ _ ⟨⟨hN, hM, hF, hE⟩, hg, ht, hc, hf', hu', ho, hd, he⟩
      · rw [yIf_neg qd] at hK
        exact hK _ _ _ _ _ _ _ _ _ _ _ _ _ _ _ _ _ _ _ _ _ _ _ _ _ _ _ _ ⟨⟨hN, hM, hF, hE⟩, hg, ht, hc, hf, hu, ho, hd, he⟩
    · rw [yIf_neg (by rintro (q | q) <;> (rw [q] at hgt; exact absurd (by decide) hgt))] at hK
      exact hK _ _ _ _ _ _ _ _ _ _ _ _ _ _ _ _ _ _ _ _ _ _ _ _ _ _ _ _ ⟨⟨hN, hM, hF, hE⟩, hg, ht, hp, hf, hu, ho, hd, he⟩
  · rw [yIf_neg (show ¬ yHa M al p0 from hno)] at hK
    exact hK _ _ _ _ _ _ _ _ _ _ _ _ _ _ _ _ _ _ _ _ _ _ _ _ _ _ _ _ ⟨⟨hN, hM, hF, hE⟩, hg, ht, hp, hf, hu, ho, hd, he⟩

theorem c_place (h : yCS N M F T al rs rw' t81 t82 t83 t84 t85 t104 t105 t106 t0 t10 t17 t111 t38 t35 t107 t11 t12 t14 t108 t16 t15 t20 t109 t19 t18 t23 t26 t27 t36 t37) (p0 p1 : Int32) (K : Int32 → (Int32 × Int32 × Int32 × Int32 × (Nat → Int32) × (Nat → Int32) × Int32 × Int32 × (Nat → Int64) × (Nat → Int32) × (Nat → Int32) × (Nat → Int64) × (Nat → Int64) × (Nat → Int32) × (Nat → Int64) × (Nat → Int32) × (Nat → Int64) × (Nat → Int64) × (Nat → Int32) × (Nat → Int32) × Int32 × Int32 × Int32 × Int32 × (Nat → Int32) × (Nat → Int32) × (Nat → Int32) × (Nat → Int32) × (Nat → Int32) × (Nat → Int32) × (Nat → Int32) × (Nat → Int32) × (Nat → Int32)) → Prop)
    (hK : ∀ (n81 : Int32) (n82 : Int32) (n84 : Int32) (n107 : Int32) (n11 : Nat → Int32) (n12 : Nat → Int32) (n116 : Int32) (n117 : Int32) (n5 : Nat → Int64) (n40 : Nat → Int32) (n2 : Nat → Int32) (n3 : Nat → Int64) (n4 : Nat → Int64) (n1 : Nat → Int32) (n6 : Nat → Int64) (n7 : Nat → Int32) (n8 : Nat → Int64) (n9 : Nat → Int64) (n13 : Nat → Int32) (n14 : Nat → Int32) (n112 : Int32) (n113 : Int32) (n114 : Int32) (n115 : Int32) (n26 : Nat → Int32) (n27 : Nat → Int32) (n28 : Nat → Int32) (n29 : Nat → Int32) (n30 : Nat → Int32) (n31 : Nat → Int32) (n32 : Nat → Int32) (n33 : Nat → Int32) (n34 : Nat → Int32), yCS N M F T al rs rw' n81 n82 t83 n84 t85 t104 t105 t106 t0 t10 t17 t111 t38 t35 n107 n11 n12 n14 t108 t16 t15 t20 t109 t19 t18 t23 n26 n27 t36 t37 → K (yAPlace N M F T al p0 p1) (n81, n82, n84, n107, n11, n12, n116, n117, n5, n40, n2, n3, n4, n1, n6, n7, n8, n9, n13, n14, n112, n113, n114, n115, n26, n27, n28, n29, n30, n31, n32, n33, n34))
    : wX8_place t81 t82 t83 t84 t85 t104 t105 t106 t107 t11 t17 t12 t116 t117 t5 t40 t2 t3 t4 t1 t6 t7 t8 t9 t13 t14 t112 t113 t114 t115 t26 t27 t28 t29 t30 t31 t32 t33 t34 p0 p1 K := by
  obtain ⟨⟨hN, hM, hF, hE⟩, hg, ht, hp, hf, hu, ho, hd, he⟩ := h
  have e104 := hg.1
  have e105 := hg.2.1
  have e111 := ht.1
  subst e104 e105 e111
  unfold wX8_place
  unfold yAPlace at hK
  refine w3_hasNode (by omega) _ _ _ _ (fun v hv ev => ⟨fun _ => ?_, fun z => absurd z (by decide)⟩) (fun hno => ⟨fun z => absurd rfl z, fun _ => ?_⟩)
  · subst ev
    rw [yIf_pos ⟨v, hv, rfl⟩, yn_nat (by omega)] at hK
    refine ⟨fun hneg => ?_, fun hpos => ⟨fun hle => ?_, fun hgt => ?_⟩⟩
    · rw [yIf_neg (by rintro (q | q) <;> (rw [q] at hneg; exact absurd hneg (by decide)))] at hK
      exact hK _ _ _ _ _ _ _ _ _ _ _ _ _ _ _ _ _ _ _ _ _ _ _ _ _ _ _ _ _ _ _ _ _ ⟨⟨hN, hM, hF, hE⟩, hg, ht, hp, hf, hu, ho, hd, he⟩
    · have h01 := yn_01 hpos hle
      rw [yIf_pos h01] at hK
      refine w8_isPlane hN hF hg hp hf _ _ _ _ _ _ _ _ _ _ _ _ _ _ _ _ _ _ (fun q pk' pl' u hc => ⟨fun _ => ?_, fun z => absurd z (by decide)⟩) (fun q pk' pl' u hc => ⟨fun z => absurd rfl z, fun _ => ?_⟩)
      · rw [yIf_pos q] at hK
        refine w8_makeFilled hN hF hg q hf _ _ _ _ _ _ _ _ _ _ _ _ _ _ _ _ _ _ _ _ _ (fun fn' fb' fj' x3 x4 x5 x6 x7 x8 x9 x10 x11 x12 x13 x14 th ord' hf' hfn hfl hord => ?_)
        subst hfn
        refine w8_makeDrawing hN hF hg q hd hfl hord _ _ _ _ _ _ _ _ _ _ _ _ _ _ _ _ (fun dk' x1 x2 x3 x4 x' y' x7 x8 x9 x10 x11 x12 x13 hd' hdk => ?_)
        have hpl := (hd' hdk).2 v hv
        rw [yn_nat (by omega)]
        refine ⟨fun z => ⟨yn_in (by omega) (by omega), ?_⟩, fun z => ⟨yn_in (by omega) (by omega), ?_⟩⟩
        · rw [yIf_neg z] at hK
          show K (y' v) _
          rw [hpl.1.2]
          exact hK _ _ _ _ _ _ _ _ _ _ _ _ _ _ _ _ _ _ _ _ _ _ _ _ _ _ _ _ _ _ _ _ _ ⟨⟨hN, hM, hF, hE⟩, hg, ht, hc, hf', hu, ho, hd', he⟩
        · rw [yIf_pos z] at hK
          show K (x' v) _
          rw [hpl.1.1]
          exact hK _ _ _ _ _ _ _ _ _ _ _ _ _ _ _ _ _ _ _ _ _ _ _ _ _ _ _ _ _ _ _ _ _ ⟨⟨hN, hM, hF, hE⟩, hg, ht, hc, hf', hu, ho, hd', he⟩
      · rw [yIf_neg q] at hK
        exact hK _ _ _ _ _ _ _ _ _ _ _ _ _ _ _ _ _ _ _ _ _ _ _ _ _ _ _ _ _ _ _ _ _ ⟨⟨hN, hM, hF, hE⟩, hg, ht, hc, hf, hu, ho, hd, he⟩
    · rw [yIf_neg (by rintro (q | q) <;> (rw [q] at hgt; exact absurd (by decide) hgt))] at hK
      exact hK _ _ _ _ _ _ _ _ _ _ _ _ _ _ _ _ _ _ _ _ _ _ _ _ _ _ _ _ _ _ _ _ _ ⟨⟨hN, hM, hF, hE⟩, hg, ht, hp, hf, hu, ho, hd, he⟩
  · rw [yIf_neg hno] at hK
    exact hK _ _ _ _ _ _ _ _ _ _ _ _ _ _ _ _ _ _ _ _ _ _ _ _ _ _ _ _ _ _ _ _ _ ⟨⟨hN, hM, hF, hE⟩, hg, ht, hp, hf, hu, ho, hd, he⟩

theorem c_crossing (h : yCS N M F T al rs rw' t81 t82 t83 t84 t85 t104 t105 t106 t0 t10 t17 t111 t38 t35 t107 t11 t12 t14 t108 t16 t15 t20 t109 t19 t18 t23 t26 t27 t36 t37) (K : Int32 → (Int32 × Int32 × Int32 × Int32 × (Nat → Int32) × (Nat → Int32) × Int32 × Int32 × (Nat → Int64) × (Nat → Int32) × (Nat → Int32) × (Nat → Int64) × (Nat → Int64) × (Nat → Int32) × (Nat → Int64) × (Nat → Int32) × (Nat → Int64) × (Nat → Int64) × (Nat → Int32) × (Nat → Int32) × Int32 × Int32 × Int32 × Int32 × (Nat → Int32) × (Nat → Int32) × (Nat → Int32) × (Nat → Int32) × (Nat → Int32) × (Nat → Int32) × (Nat → Int32) × (Nat → Int32) × (Nat → Int32)) → Prop)
    (hK : ∀ (n81 : Int32) (n82 : Int32) (n84 : Int32) (n107 : Int32) (n11 : Nat → Int32) (n12 : Nat → Int32) (n116 : Int32) (n117 : Int32) (n5 : Nat → Int64) (n40 : Nat → Int32) (n2 : Nat → Int32) (n3 : Nat → Int64) (n4 : Nat → Int64) (n1 : Nat → Int32) (n6 : Nat → Int64) (n7 : Nat → Int32) (n8 : Nat → Int64) (n9 : Nat → Int64) (n13 : Nat → Int32) (n14 : Nat → Int32) (n112 : Int32) (n113 : Int32) (n114 : Int32) (n115 : Int32) (n26 : Nat → Int32) (n27 : Nat → Int32) (n28 : Nat → Int32) (n29 : Nat → Int32) (n30 : Nat → Int32) (n31 : Nat → Int32) (n32 : Nat → Int32) (n33 : Nat → Int32) (n34 : Nat → Int32), yCS N M F T al rs rw' n81 n82 t83 n84 t85 t104 t105 t106 t0 t10 t17 t111 t38 t35 n107 n11 n12 n14 t108 t16 t15 t20 t109 t19 t18 t23 n26 n27 t36 t37 → K (yACross N M F T al) (n81, n82, n84, n107, n11, n12, n116, n117, n5, n40, n2, n3, n4, n1, n6, n7, n8, n9, n13, n14, n112, n113, n114, n115, n26, n27, n28, n29, n30, n31, n32, n33, n34))
    : wX8_crossing t81 t82 t83 t84 t85 t104 t105 t106 t107 t11 t17 t12 t116 t117 t5 t40 t2 t3 t4 t1 t6 t7 t8 t9 t13 t14 t112 t113 t114 t115 t26 t27 t28 t29 t30 t31 t32 t33 t34 t10 t0 K := by
  obtain ⟨⟨hN, hM, hF, hE⟩, hg, ht, hp, hf, hu, ho, hd, he⟩ := h
  have e104 := hg.1
  have e105 := hg.2.1
  have e111 := ht.1
  subst e104 e105 e111
  unfold wX8_crossing
  unfold yACross at hK
  refine w8_isPlane hN hF hg hp hf _ _ _ _ _ _ _ _ _ _ _ _ _ _ _ _ _ _ (fun q pk' pl' u hc => ⟨fun _ => ?_, fun z => absurd z (by decide)⟩) (fun q pk' pl' u hc => ⟨fun z => absurd rfl z, fun _ => ?_⟩)
  · rw [yIf_pos q] at hK
    refine w8_makeFilled hN hF hg q hf _ _ _ _ _ _ _ _ _ _ _ _ _ _ _ _ _ _ _ _ _ (fun fn' fb' fj' x3 x4 x5 x6 x7 x8 x9 x10 x11 x12 x13 x14 th ord' hf' hfn hfl hord => ?_)
    subst hfn
    refine w8_makeDrawing hN hF hg q hd hfl hord _ _ _ _ _ _ _ _ _ _ _ _ _ _ _ _ (fun dk' x1 x2 x3 x4 x' y' x7 x8 x9 x10 x11 x12 x13 hd' hdk => ?_)
    have hpl := (hd' hdk).2
    refine w8_cross20 hN hM hF hg.2.2.2.1 hg.2.2.2.2.1 _ _ _ _ _ _ _ _ (X := fun v => (yPos N (yGf N (yGk M F T al)) v).1) (Y := fun v => (yPos N (yGf N (yGk M F T al)) v).2) (fun v hv => ⟨(hpl v hv).1.1, (hpl v hv).1.2, (hpl v hv).2.1, (hpl v hv).2.2⟩) (fun c => ?_) (fun c => ?_)
    · rw [yIf_pos c] at hK
      exact hK _ _ _ _ _ _ _ _ _ _ _ _ _ _ _ _ _ _ _ _ _ _ _ _ _ _ _ _ _ _ _ _ _ ⟨⟨hN, hM, hF, hE⟩, hg, ht, hc, hf', hu, ho, hd', he⟩
    · rw [yIf_neg c] at hK
      exact hK _ _ _ _ _ _ _ _ _ _ _ _ _ _ _ _ _ _ _ _ _ _ _ _ _ _ _ _ _ _ _ _ _ ⟨⟨hN, hM, hF, hE⟩, hg, ht, hc, hf', hu, ho, hd', he⟩
  · rw [yIf_neg q] at hK
    exact hK _ _ _ _ _ _ _ _ _ _ _ _ _ _ _ _ _ _ _ _ _ _ _ _ _ _ _ _ _ _ _ _ _ ⟨⟨hN, hM, hF, hE⟩, hg, ht, hc, hf, hu, ho, hd, he⟩

theorem c_piece (h : yCS N M F T al rs rw' t81 t82 t83 t84 t85 t104 t105 t106 t0 t10 t17 t111 t38 t35 t107 t11 t12 t14 t108 t16 t15 t20 t109 t19 t18 t23 t26 t27 t36 t37) (p0 : Int32) (K : Int32 → (Int32 × Int32 × Int32 × Int32 × Int32 × (Nat → Int64) × (Nat → Int32) × (Nat → Int32) × (Nat → Int64) × (Nat → Int64) × (Nat → Int32) × (Nat → Int64) × (Nat → Int32) × (Nat → Int64) × (Nat → Int64) × (Nat → Int32) × (Nat → Int32) × (Nat → Int32)) → Prop)
    (hK : ∀ (n81 : Int32) (n82 : Int32) (n85 : Int32) (n116 : Int32) (n117 : Int32) (n5 : Nat → Int64) (n40 : Nat → Int32) (n2 : Nat → Int32) (n3 : Nat → Int64) (n4 : Nat → Int64) (n1 : Nat → Int32) (n6 : Nat → Int64) (n7 : Nat → Int32) (n8 : Nat → Int64) (n9 : Nat → Int64) (n36 : Nat → Int32) (n37 : Nat → Int32) (n39 : Nat → Int32), yCS N M F T al rs rw' n81 n82 t83 t84 n85 t104 t105 t106 t0 t10 t17 t111 t38 t35 t107 t11 t12 t14 t108 t16 t15 t20 t109 t19 t18 t23 t26 t27 n36 n37 → K (yAPiece N M F T al p0) (n81, n82, n85, n116, n117, n5, n40, n2, n3, n4, n1, n6, n7, n8, n9, n36, n37, n39))
    : wX8_piece t81 t82 t83 t84 t85 t104 t105 t106 t107 t11 t17 t12 t116 t117 t5 t40 t2 t3 t4 t1 t6 t7 t8 t9 t10 t36 t37 t0 t39 p0 K := by
  obtain ⟨⟨hN, hM, hF, hE⟩, hg, ht, hp, hf, hu, ho, hd, he⟩ := h
  have e104 := hg.1
  have e105 := hg.2.1
  have e111 := ht.1
  subst e104 e105 e111
  unfold wX8_piece
  unfold yAPiece at hK
  refine w8_isPlane hN hF hg hp hf _ _ _ _ _ _ _ _ _ _ _ _ _ _ _ _ _ _ (fun q pk' pl' u hc => ⟨fun z => absurd z (by decide), fun _ => ?_⟩) (fun q pk' pl' u hc => ⟨fun _ => ?_, fun z => absurd rfl z⟩)
  · rw [yIf_pos q] at hK
    exact hK _ _ _ _ _ _ _ _ _ _ _ _ _ _ _ _ _ _ ⟨⟨hN, hM, hF, hE⟩, hg, ht, hc, hf, hu, ho, hd, he⟩
  · rw [yIf_neg q] at hK
    refine w8_makePiece hN hM hF hg q he _ _ _ _ _ _ _ _ _ _ _ _ _ _ _ _ _ _ _ (fun ek' kp' ec' u' he' hkp hec => ?_)
    exact w4_arcAt hM hkp _ _ _ _ (hK _ _ _ _ _ _ _ _ _ _ _ _ _ _ _ _ _ _ ⟨⟨hN, hM, hF, hE⟩, hg, ht, hc, hf, hu, ho, hd, he'⟩)

theorem c_barred (h : yCS N M F T al rs rw' t81 t82 t83 t84 t85 t104 t105 t106 t0 t10 t17 t111 t38 t35 t107 t11 t12 t14 t108 t16 t15 t20 t109 t19 t18 t23 t26 t27 t36 t37) (K : Int32 → (Int32 × Int32 × Int32 × Int32 × Int32 × (Nat → Int64) × (Nat → Int32) × (Nat → Int32) × (Nat → Int64) × (Nat → Int64) × (Nat → Int32) × (Nat → Int64) × (Nat → Int32) × (Nat → Int64) × (Nat → Int64) × (Nat → Int32) × (Nat → Int32) × (Nat → Int32)) → Prop)
    (hK : ∀ (n81 : Int32) (n82 : Int32) (n85 : Int32) (n116 : Int32) (n117 : Int32) (n5 : Nat → Int64) (n40 : Nat → Int32) (n2 : Nat → Int32) (n3 : Nat → Int64) (n4 : Nat → Int64) (n1 : Nat → Int32) (n6 : Nat → Int64) (n7 : Nat → Int32) (n8 : Nat → Int64) (n9 : Nat → Int64) (n36 : Nat → Int32) (n37 : Nat → Int32) (n39 : Nat → Int32), yCS N M F T al rs rw' n81 n82 t83 t84 n85 t104 t105 t106 t0 t10 t17 t111 t38 t35 t107 t11 t12 t14 t108 t16 t15 t20 t109 t19 t18 t23 t26 t27 n36 n37 → K (yABarred N M F T al) (n81, n82, n85, n116, n117, n5, n40, n2, n3, n4, n1, n6, n7, n8, n9, n36, n37, n39))
    : wX8_barred t81 t82 t83 t84 t85 t104 t105 t106 t107 t11 t17 t12 t116 t117 t5 t40 t2 t3 t4 t1 t6 t7 t8 t9 t10 t36 t37 t0 t39 K := by
  obtain ⟨⟨hN, hM, hF, hE⟩, hg, ht, hp, hf, hu, ho, hd, he⟩ := h
  have e104 := hg.1
  have e105 := hg.2.1
  have e111 := ht.1
  subst e104 e105 e111
  unfold wX8_barred
  unfold yABarred at hK
  refine w8_isPlane hN hF hg hp hf _ _ _ _ _ _ _ _ _ _ _ _ _ _ _ _ _ _ (fun q pk' pl' u hc => ⟨fun z => absurd z (by decide), fun _ => ?_⟩) (fun q pk' pl' u hc => ⟨fun _ => ?_, fun z => absurd rfl z⟩)
  · rw [yIf_pos q] at hK
    exact hK _ _ _ _ _ _ _ _ _ _ _ _ _ _ _ _ _ _ ⟨⟨hN, hM, hF, hE⟩, hg, ht, hc, hf, hu, ho, hd, he⟩
  · rw [yIf_neg q] at hK
    refine w8_makePiece hN hM hF hg q he _ _ _ _ _ _ _ _ _ _ _ _ _ _ _ _ _ _ _ (fun ek' kp' ec' u' he' hkp hec => ?_)
    exact w4_kind hN hM hec _ _ _ (hK _ _ _ _ _ _ _ _ _ _ _ _ _ _ _ _ _ _ ⟨⟨hN, hM, hF, hE⟩, hg, ht, hc, hf, hu, ho, hd, he'⟩)

theorem c_branch (h : yCS N M F T al rs rw' t81 t82 t83 t84 t85 t104 t105 t106 t0 t10 t17 t111 t38 t35 t107 t11 t12 t14 t108 t16 t15 t20 t109 t19 t18 t23 t26 t27 t36 t37) (p0 : Int32) (K : Int32 → (Int32 × Int32 × Int32 × Int32 × Int32 × (Nat → Int64) × (Nat → Int32) × (Nat → Int32) × (Nat → Int64) × (Nat → Int64) × (Nat → Int32) × (Nat → Int64) × (Nat → Int32) × (Nat → Int64) × (Nat → Int64) × (Nat → Int32) × (Nat → Int32) × (Nat → Int32)) → Prop)
    (hK : ∀ (n81 : Int32) (n82 : Int32) (n85 : Int32) (n116 : Int32) (n117 : Int32) (n5 : Nat → Int64) (n40 : Nat → Int32) (n2 : Nat → Int32) (n3 : Nat → Int64) (n4 : Nat → Int64) (n1 : Nat → Int32) (n6 : Nat → Int64) (n7 : Nat → Int32) (n8 : Nat → Int64) (n9 : Nat → Int64) (n36 : Nat → Int32) (n37 : Nat → Int32) (n39 : Nat → Int32), yCS N M F T al rs rw' n81 n82 t83 t84 n85 t104 t105 t106 t0 t10 t17 t111 t38 t35 t107 t11 t12 t14 t108 t16 t15 t20 t109 t19 t18 t23 t26 t27 n36 n37 → K (yABranch N M F T al p0) (n81, n82, n85, n116, n117, n5, n40, n2, n3, n4, n1, n6, n7, n8, n9, n36, n37, n39))
    : wX8_branch t81 t82 t83 t84 t85 t104 t105 t106 t107 t11 t17 t12 t116 t117 t5 t40 t2 t3 t4 t1 t6 t7 t8 t9 t10 t36 t37 t0 t39 p0 K := by
  obtain ⟨⟨hN, hM, hF, hE⟩, hg, ht, hp, hf, hu, ho, hd, he⟩ := h
  have e104 := hg.1
  have e105 := hg.2.1
  have e111 := ht.1
  subst e104 e105 e111
  unfold wX8_branch
  unfold yABranch at hK
  refine w8_isPlane hN hF hg hp hf _ _ _ _ _ _ _ _ _ _ _ _ _ _ _ _ _ _ (fun q pk' pl' u hc => ⟨fun z => absurd z (by decide), fun _ => ?_⟩) (fun q pk' pl' u hc => ⟨fun _ => ?_, fun z => absurd rfl z⟩)
  · rw [yIf_pos q] at hK
    exact hK _ _ _ _ _ _ _ _ _ _ _ _ _ _ _ _ _ _ ⟨⟨hN, hM, hF, hE⟩, hg, ht, hc, hf, hu, ho, hd, he⟩
  · rw [yIf_neg q] at hK
    refine w8_makePiece hN hM hF hg q he _ _ _ _ _ _ _ _ _ _ _ _ _ _ _ _ _ _ _ (fun ek' kp' ec' u' he' hkp hec => ?_)
    exact w4_branchAt hN hM hec _ _ _ _ (hK _ _ _ _ _ _ _ _ _ _ _ _ _ _ _ _ _ _ ⟨⟨hN, hM, hF, hE⟩, hg, ht, hc, hf, hu, ho, hd, he'⟩)

theorem yPc_bp (hN : N ≤ 20) (hM : M ≤ 80) (hF : ∀ k, k < M → F k < N ∧ T k < N) (h : ¬ yPln N (yGk M F T al)) : yBpc N M F T (yKp N M F T M al) :=
  ⟨hN, hM, hF, yKp_np M al h, fun k hk hc => yKp_min hN hF M al k hk hc⟩

theorem yBrn_spec {c : Nat → Bool} (h : yBpc N M F T c) {e : Nat} (he : yLv M c e = true) : ∃ t, t < 20 ∧ (∀ i, i < t → yEc M F T c (yNd F T (yWlk M F T c e i)) = 2) ∧ 3 ≤ yEc M F T c (yNd F T (yWlk M F T c e t)) ∧ yBrn M F T c e = yNd F T (yWlk M F T c e t) ∧ yBrn M F T c e < 20 := by
  have hsp := Classical.epsilon_spec (p := fun t => t < 20 ∧ (∀ i, i < t → yEc M F T c (yNd F T (yWlk M F T c e i)) = 2) ∧ 3 ≤ yEc M F T c (yNd F T (yWlk M F T c e t))) (yBpc_ends h he)
  have hkept : ∀ i, i ≤ (Classical.epsilon (fun t => t < 20 ∧ (∀ i, i < t → yEc M F T c (yNd F T (yWlk M F T c e i)) = 2) ∧ 3 ≤ yEc M F T c (yNd F T (yWlk M F T c e t)))) → yLv M c (yWlk M F T c e i) = true := by
    intro i
    induction i with
    | zero => intro _; exact he
    | succ i ih => intro hi; exact yLv_pt (yOe_spec (ih (by omega)) (hsp.2.1 i (by omega))).1
  have hnd := yBpc_nd h (hkept _ (Nat.le_refl _))
  have hN := h.1
  refine ⟨_, hsp.1, hsp.2.1, hsp.2.2, rfl, ?_⟩
  unfold yBrn; omega


theorem c_strand (h : yCS N M F T al rs rw' t81 t82 t83 t84 t85 t104 t105 t106 t0 t10 t17 t111 t38 t35 t107 t11 t12 t14 t108 t16 t15 t20 t109 t19 t18 t23 t26 t27 t36 t37) (p0 : Int32) (K : Int32 → (Int32 × Int32 × Int32 × Int32 × Int32 × (Nat → Int64) × (Nat → Int32) × (Nat → Int32) × (Nat → Int64) × (Nat → Int64) × (Nat → Int32) × (Nat → Int64) × (Nat → Int32) × (Nat → Int64) × (Nat → Int64) × (Nat → Int32) × (Nat → Int32) × (Nat → Int32)) → Prop)
    (hK : ∀ (n81 : Int32) (n82 : Int32) (n85 : Int32) (n116 : Int32) (n117 : Int32) (n5 : Nat → Int64) (n40 : Nat → Int32) (n2 : Nat → Int32) (n3 : Nat → Int64) (n4 : Nat → Int64) (n1 : Nat → Int32) (n6 : Nat → Int64) (n7 : Nat → Int32) (n8 : Nat → Int64) (n9 : Nat → Int64) (n36 : Nat → Int32) (n37 : Nat → Int32) (n39 : Nat → Int32), yCS N M F T al rs rw' n81 n82 t83 t84 n85 t104 t105 t106 t0 t10 t17 t111 t38 t35 t107 t11 t12 t14 t108 t16 t15 t20 t109 t19 t18 t23 t26 t27 n36 n37 → K (yAStrand N M F T al p0) (n81, n82, n85, n116, n117, n5, n40, n2, n3, n4, n1, n6, n7, n8, n9, n36, n37, n39))
    : wX8_strand t81 t82 t83 t84 t85 t104 t105 t106 t10 t107 t11 t17 t12 t116 t117 t5 t40 t2 t3 t4 t1 t6 t7 t8 t9 t36 t37 t0 t39 p0 K := by
  obtain ⟨⟨hN, hM, hF, hE⟩, hg, ht, hp, hf, hu, ho, hd, he⟩ := h
  have e104 := hg.1
  have e105 := hg.2.1
  have e111 := ht.1
  subst e104 e105 e111
  unfold wX8_strand
  unfold yAStrand at hK
  refine w3_hasArc hM hg.2.2.2.2.1 _ _ _ _ (fun k hk hak ek => ⟨fun _ => ?_, fun z => absurd z (by decide)⟩) (fun hno => ⟨fun z => absurd rfl z, fun _ => ?_⟩)
  · subst ek
    rw [yIf_pos ⟨k, hk, hak, rfl⟩, yn_nat (by omega)] at hK
    refine w8_isPlane hN hF hg hp hf _ _ _ _ _ _ _ _ _ _ _ _ _ _ _ _ _ _ (fun q pk' pl' u hc => ⟨fun z => absurd z (by decide), fun _ => ?_⟩) (fun q pk' pl' u hc => ⟨fun _ => ?_, fun z => absurd rfl z⟩)
    · rw [yIf_pos q] at hK
      exact hK _ _ _ _ _ _ _ _ _ _ _ _ _ _ _ _ _ _ ⟨⟨hN, hM, hF, hE⟩, hg, ht, hc, hf, hu, ho, hd, he⟩
    · rw [yIf_neg q] at hK
      refine w8_makePiece hN hM hF hg q he _ _ _ _ _ _ _ _ _ _ _ _ _ _ _ _ _ _ _ (fun ek' kp' ec' u' he' hkp hec => ?_)
      rw [yn_nat (by omega)]
      refine ⟨yn_in (by omega) (by omega), fun hnz => ?_, fun hz => ?_⟩
      · have hck : yKp N M F T M al k = true := by
          cases w : yKp N M F T M al k with
          | true => rfl
          | false => exact absurd ((yBo_iff hkp hk).2 w) hnz
        rw [yIf_pos hck] at hK
        have hbp := yPc_bp hN hM hF q
        have l1 : yLv M (yKp N M F T M al) (2*k) = true := yLv_iff.2 ⟨by omega, by rw [show 2*k/2 = k by omega]; exact hck⟩
        have l2 : yLv M (yKp N M F T M al) (2*k+1) = true := yLv_iff.2 ⟨by omega, by rw [show (2*k+1)/2 = k by omega]; exact hck⟩
        obtain ⟨s1, a1, a2, a3, a4, a5⟩ := yBrn_spec hbp l1
        obtain ⟨s2, b1, b2, b3, b4, b5⟩ := yBrn_spec hbp l2
        rw [yn_21', yn_2]
        refine w4_branchFrom hbp hkp hg.2.2.2.1 hec l1 a1 a2 a3 _ _ _ (w4_branchFrom hbp hkp hg.2.2.2.1 hec l2 b1 b2 b3 _ _ _ ?_)
        rw [← a4, ← b4]
        have e32 : (32 : Int32) = Int32.ofNat 32 := rfl
        have emin : (if Int32.ofNat (yBrn M F T (yKp N M F T M al) (2*k+1)) < Int32.ofNat (yBrn M F T (yKp N M F T M al) (2*k)) then Int32.ofNat (yBrn M F T (yKp N M F T M al) (2*k+1)) else Int32.ofNat (yBrn M F T (yKp N M F T M al) (2*k))) = Int32.ofNat (min (yBrn M F T (yKp N M F T M al) (2*k)) (yBrn M F T (yKp N M F T M al) (2*k+1))) := yn_min (by omega) (by omega)
        have emax : (if Int32.ofNat (yBrn M F T (yKp N M F T M al) (2*k)) < Int32.ofNat (yBrn M F T (yKp N M F T M al) (2*k+1)) then Int32.ofNat (yBrn M F T (yKp N M F T M al) (2*k+1)) else Int32.ofNat (yBrn M F T (yKp N M F T M al) (2*k))) = Int32.ofNat (max (yBrn M F T (yKp N M F T M al) (2*k)) (yBrn M F T (yKp N M F T M al) (2*k+1))) := yn_max (by omega) (by omega)
        rw [emin, emax, e32, yn_mul, yn_add]
        exact hK _ _ _ _ _ _ _ _ _ _ _ _ _ _ _ _ _ _ ⟨⟨hN, hM, hF, hE⟩, hg, ht, hc, hf, hu, ho, hd, he'⟩
      · have hck := (yBo_iff hkp hk).1 hz
        rw [yIf_neg (by rw [hck]; simp)] at hK
        exact hK _ _ _ _ _ _ _ _ _ _ _ _ _ _ _ _ _ _ ⟨⟨hN, hM, hF, hE⟩, hg, ht, hc, hf, hu, ho, hd, he'⟩
  · rw [yIf_neg (show ¬ yHa M al p0 from hno)] at hK
    exact hK _ _ _ _ _ _ _ _ _ _ _ _ _ _ _ _ _ _ ⟨⟨hN, hM, hF, hE⟩, hg, ht, hp, hf, hu, ho, hd, he⟩

theorem c_toldFaces (h : yCS N M F T al rs rw' t81 t82 t83 t84 t85 t104 t105 t106 t0 t10 t17 t111 t38 t35 t107 t11 t12 t14 t108 t16 t15 t20 t109 t19 t18 t23 t26 t27 t36 t37) (K : Int32 → ((Nat → Int32) × (Nat → Int32) × Int32 × (Nat → Int32) × (Nat → Int32)) → Prop)
    (hK : ∀ (n25 : Nat → Int32) (n24 : Nat → Int32) (n110 : Int32) (n23 : Nat → Int32) (n22 : Nat → Int32), yCS N M F T al rs rw' t81 t82 t83 t84 t85 t104 t105 t106 t0 t10 t17 t111 t38 t35 t107 t11 t12 t14 t108 t16 t15 t20 t109 t19 t18 n23 t26 t27 t36 t37 → K (yATf N M al rs rw') (n25, n24, n110, n23, n22))
    : wX8_toldFaces t81 t82 t83 t84 t85 t25 t111 t38 t35 t24 t110 t23 t22 K := by
  obtain ⟨⟨hN, hM, hF, hE⟩, hg, ht, hp, hf, hu, ho, hd, he⟩ := h
  have e104 := hg.1
  have e105 := hg.2.1
  have e111 := ht.1
  subst e104 e105 e111
  unfold wX8_toldFaces
  unfold yATf at hK
  have hb20 : yNb N (fun v => decide (rs v = 0)) ≤ 20 := Nat.le_trans (yEcnt_le N _) hN
  refine w1_trace ht.2 hE (fun e he => yLv_pt he) hb20 _ _ _ _ _ ho _ (fun b fo' st' en' a1 a2 => ?_)
  have h0 : st' 0 = 0 := by rw [a2.2.2.1 0 (by omega)]; rfl
  exact hK _ _ _ _ _ ⟨⟨hN, hM, hF, hE⟩, hg, ht, hp, hf, hu, h0, hd, he⟩

theorem c_genus (h : yCS N M F T al rs rw' t81 t82 t83 t84 t85 t104 t105 t106 t0 t10 t17 t111 t38 t35 t107 t11 t12 t14 t108 t16 t15 t20 t109 t19 t18 t23 t26 t27 t36 t37) (K : Int32 → ((Nat → Int32) × (Nat → Int32) × Int32 × (Nat → Int32) × (Nat → Int32)) → Prop)
    (hK : ∀ (n25 : Nat → Int32) (n24 : Nat → Int32) (n110 : Int32) (n23 : Nat → Int32) (n22 : Nat → Int32), yCS N M F T al rs rw' t81 t82 t83 t84 t85 t104 t105 t106 t0 t10 t17 t111 t38 t35 t107 t11 t12 t14 t108 t16 t15 t20 t109 t19 t18 n23 t26 t27 t36 t37 → K (yAGenus N M F T al rs rw') (n25, n24, n110, n23, n22))
    : wX8_genus t81 t82 t83 t84 t85 t25 t111 t38 t35 t24 t110 t23 t22 t104 t105 t106 t17 K := by
  obtain ⟨⟨hN, hM, hF, hE⟩, hg, ht, hp, hf, hu, ho, hd, he⟩ := h
  have e104 := hg.1
  have e105 := hg.2.1
  have e111 := ht.1
  subst e104 e105 e111
  have e106 := hg.2.2.1
  subst e106
  unfold wX8_genus
  unfold yAGenus yATf at hK
  have hb20 : yNb N (fun v => decide (rs v = 0)) ≤ 20 := Nat.le_trans (yEcnt_le N _) hN
  refine w1_trace ht.2 hE (fun e he => yLv_pt he) hb20 _ _ _ _ _ ho _ (fun b fo' st' en' a1 a2 => ?_)
  have h0 : st' 0 = 0 := by rw [a2.2.2.1 0 (by omega)]; rfl
  intro v21 h21
  refine w8_countParts hN (yGk_sg hF) hg.2.2.2.2.2 _ _ _ _ _ _ _ _ ?_
  rw [h21]
  exact hK _ _ _ _ _ ⟨⟨hN, hM, hF, hE⟩, hg, ht, hp, hf, hu, h0, hd, he⟩

end



-- the law's loop holds
theorem law_ok {xs : Nat → Int32} {L : Nat} (hL : L ≤ 2048) : ∀ (n k : Nat) (i : Int32), i = Int32.ofNat k → L - k < n → k ≤ 3000 → ∀ {N M : Nat} {F T : Nat → Nat} {al : Nat → Bool} {rs : Nat → Nat} {rw' : Nat → Nat → Nat} {t0 : Nat → Int32} {t1 : Nat → Int32} {t2 : Nat → Int32} {t3 : Nat → Int64} {t4 : Nat → Int64} {t5 : Nat → Int64} {t6 : Nat → Int64} {t7 : Nat → Int32} {t8 : Nat → Int64} {t9 : Nat → Int64} {t10 : Nat → Int32} {t11 : Nat → Int32} {t12 : Nat → Int32} {t13 : Nat → Int32} {t14 : Nat → Int32} {t15 : Nat → Int32} {t16 : Nat → Int32} {t17 : Nat → Int32} {t18 : Nat → Int32} {t19 : Nat → Int32} {t20 : Nat → Int32} {t21 : Nat → Int32} {t22 : Nat → Int32} {t23 : Nat → Int32} {t24 : Nat → Int32} {t25 : Nat → Int32} {t26 : Nat → Int32} {t27 : Nat → Int32} {t28 : Nat → Int32} {t29 : Nat → Int32} {t30 : Nat → Int32} {t31 : Nat → Int32} {t32 : Nat → Int32} {t33 : Nat → Int32} {t34 : Nat → Int32} {t35 : Nat → Int32} {t36 : Nat → Int32} {t37 : Nat → Int32} {t38 : Nat → Int32} {t39 : Nat → Int32} {t40 : Nat → Int32} {t41 : Nat → Int32} {t42 : Nat → Int32} {t43 : Nat → Int32} {t44 : Nat → Int32} {t45 : Nat → Int32} {t46 : Nat → Int32} {t47 : Nat → Int32} {t48 : Nat → Int32} {t49 : Nat → Int32} {t50 : Nat → Int32} {t51 : Nat → Int32} {t52 : Nat → Int32} {t53 : Nat → Int32} {t54 : Nat → Int32} {t55 : Nat → Int32} {t56 : Nat → Int32} {t57 : Nat → Int32} {t58 : Nat → Int32} {t59 : Nat → Int32} {t60 : Nat → Int32} {t61 : Nat → Int32} {t62 : Nat → Int32} {t63 : Nat → Int32} {t64 : Nat → Int32} {t65 : Nat → Int32} {t66 : Nat → Int32} {t67 : Nat → Int32} {t68 : Nat → Int32} {t69 : Nat → Int32} {t70 : Nat → Int32} {t71 : Nat → Int32} {t72 : Nat → Int32} {t73 : Nat → Int32} {t74 : Nat → Int32} {t75 : Nat → Int32} {t76 : Nat → Int32} {t77 : Nat → Int32} {t78 : Nat → Int32} {t79 : Nat → Int32} {t80 : Nat → Int32} {t81 : Int32} {t82 : Int32} {t83 : Int32} {t84 : Int32} {t85 : Int32} {t86 : Int32} {t87 : Int32} {t88 : Int32} {t89 : Int32} {t90 : Int32} {t91 : Int32} {t92 : Int32} {t93 : Int32} {t94 : Int32} {t95 : Int32} {t96 : Int32} {t97 : Int32} {t98 : Int32} {t99 : Int32} {t100 : Int32} {t101 : Int32} {t102 : Int32} {t103 : Int32} {t104 : Int32} {t105 : Int32} {t106 : Int32} {t107 : Int32} {t108 : Int32} {t109 : Int32} {t110 : Int32} {t111 : Int32} {t112 : Int32} {t113 : Int32} {t114 : Int32} {t115 : Int32} {t116 : Int32} {t117 : Int32},
    yCS N M F T al rs rw' t81 t82 t83 t84 t85 t104 t105 t106 t0 t10 t17 t111 t38 t35 t107 t11 t12 t14 t108 t16 t15 t20 t109 t19 t18 t23 t26 t27 t36 t37 → yRS N M F T al rs rw' t86 t87 t102 t95 t41 t42 t53 t75 t64 t61 t62 t55 t56 t58 t57 t59 t60 → wLL_18 xs L () n t0 t1 t2 t3 t4 t5 t6 t7 t8 t9 t10 t11 t12 t13 t14 t15 t16 t17 t18 t19 t20 t21 t22 t23 t24 t25 t26 t27 t28 t29 t30 t31 t32 t33 t34 t35 t36 t37 t38 t39 t40 t41 t42 t43 t44 t45 t46 t47 t48 t49 t50 t51 t52 t53 t54 t55 t56 t57 t58 t59 t60 t61 t62 t63 t64 t65 t66 t67 t68 t69 t70 t71 t72 t73 t74 t75 t76 t77 t78 t79 t80 t81 t82 t83 t84 t85 t86 t87 t88 t89 t90 t91 t92 t93 t94 t95 t96 t97 t98 t99 t100 t101 t102 t103 t104 t105 t106 t107 t108 t109 t110 t111 t112 t113 t114 t115 t116 t117 i := by
  intro n
  induction n with
  | zero => intro k i hi hn; exact absurd hn (Nat.not_lt_zero _)
  | succ n ih =>
  intro k i hi hn hk N M F T al rs rw' t0 t1 t2 t3 t4 t5 t6 t7 t8 t9 t10 t11 t12 t13 t14 t15 t16 t17 t18 t19 t20 t21 t22 t23 t24 t25 t26 t27 t28 t29 t30 t31 t32 t33 t34 t35 t36 t37 t38 t39 t40 t41 t42 t43 t44 t45 t46 t47 t48 t49 t50 t51 t52 t53 t54 t55 t56 t57 t58 t59 t60 t61 t62 t63 t64 t65 t66 t67 t68 t69 t70 t71 t72 t73 t74 t75 t76 t77 t78 t79 t80 t81 t82 t83 t84 t85 t86 t87 t88 t89 t90 t91 t92 t93 t94 t95 t96 t97 t98 t99 t100 t101 t102 t103 t104 t105 t106 t107 t108 t109 t110 t111 t112 t113 t114 t115 t116 t117 hC hR
  unfold wLL_18
  refine ⟨fun _ => rfl, fun hlt => ?_⟩
  have e4' : (4 : Int32) = Int32.ofNat 4 := rfl
  have h4 : k + 4 ≤ L := by
    by_cases q : 4 ≤ L
    · rw [hi, e4', yn_sub q, yn_lt (by omega) (by omega)] at hlt; omega
    · exfalso; apply hlt
      have hneg : Int32.ofNat L - 4 < 0 := by
        have : L = 0 ∨ L = 1 ∨ L = 2 ∨ L = 3 := by omega
        rcases this with q | q | q | q <;> subst q <;> decide
      have hpos := yn_neg (n := k) (by omega)
      rw [hi, Int32.lt_iff_toInt_lt]
      rw [Int32.lt_iff_toInt_lt] at hneg hpos
      omega
  have e4 : i + 4 = Int32.ofNat (k+4) := by rw [hi]; exact yn_add k 4
  have I0 : vp_in i L := by rw [hi]; exact yn_in (by omega) (by omega)
  have I1 : vp_in (i+1) L := by rw [hi, show Int32.ofNat k + 1 = Int32.ofNat (k+1) from yn_add k 1]; exact yn_in (by omega) (by omega)
  have I2 : vp_in (i+2) L := by rw [hi, show Int32.ofNat k + 2 = Int32.ofNat (k+2) from yn_add k 2]; exact yn_in (by omega) (by omega)
  have I3 : vp_in (i+3) L := by rw [hi, show Int32.ofNat k + 3 = Int32.ofNat (k+3) from yn_add k 3]; exact yn_in (by omega) (by omega)
  have hN := hC.1.1
  have hM := hC.1.2.1
  refine ⟨I0, fun v32 _ => ⟨fun _ => ?_, fun _ => ?_, fun _ => ?_, fun _ => ?_, fun _ => ?_, fun _ => ?_, fun _ => ?_, fun _ => ?_, fun _ => ?_, fun _ => ?_, fun _ => ?_, fun _ => ?_, fun _ => ?_, fun _ => ?_, fun _ => ?_, fun _ => ?_, fun _ => ?_, fun _ => ?_, fun _ => ?_, fun _ => ?_, fun _ => ?_, fun _ => ?_, fun _ => ?_, fun _ => ?_, ?_⟩⟩
  · refine c_node hC _ (fun hm _ _ _ _ _ _ _ hC2 => r_node hR _ (fun _ _ _ _ hR2 => ⟨fun _ => ih (k+4) (i+4) e4 (by omega) (by omega) hC2 hR2, fun hne => absurd rfl hne⟩) (fun h => absurd hm h)) (fun hm _ _ _ _ _ _ _ hC2 => r_node hR _ (fun h => absurd h hm) (fun _ _ _ _ hR2 => ⟨fun _ => ih (k+4) (i+4) e4 (by omega) (by omega) hC2 hR2, fun hne => absurd rfl hne⟩))
  · refine ⟨I1, I2, c_arc hC _ _ _ (fun a b ha hb ea eb hm _ _ _ _ _ _ _ _ _ _ _ hC2 => ⟨I1, I2, ?_⟩) (fun h1 h2 hm _ _ _ _ _ _ _ _ _ _ _ hC2 => ⟨I1, I2, ?_⟩) (fun h1 _ _ _ _ _ _ _ _ _ _ _ hC2 => ⟨I1, I2, ?_⟩)⟩
    · refine r_arc hR _ _ _ (fun a' b' ha' hb' ea' eb' hm' _ _ _ _ _ _ _ hR2 => ?_) (fun _ _ h => absurd hm h) (fun h => absurd ⟨⟨a, ha, ea⟩, ⟨b, hb, eb⟩⟩ h)
      have q1 : a = a' := (yn_inj (by omega) (by omega)).1 (ea.symm.trans ea')
      have q2 : b = b' := (yn_inj (by omega) (by omega)).1 (eb.symm.trans eb')
      subst q1 q2
      exact ⟨fun _ => ih (k+4) (i+4) e4 (by omega) (by omega) hC2 hR2, fun hne => absurd rfl hne⟩
    · exact r_arc hR _ _ _ (fun _ _ _ _ _ _ h => absurd h hm) (fun _ _ _ _ _ _ _ _ _ _ hR2 => ⟨fun _ => ih (k+4) (i+4) e4 (by omega) (by omega) hC2 hR2, fun hne => absurd rfl hne⟩) (fun h => absurd ⟨h1, h2⟩ h)
    · exact r_arc hR _ _ _ (fun a b ha hb ea eb _ => absurd ⟨⟨a, ha, ea⟩, ⟨b, hb, eb⟩⟩ h1) (fun h2 h3 => absurd ⟨h2, h3⟩ h1) (fun _ _ _ _ _ _ _ _ hR2 => ⟨fun _ => ih (k+4) (i+4) e4 (by omega) (by omega) hC2 hR2, fun hne => absurd rfl hne⟩)
  · refine ⟨I1, c_cut hC _ _ (fun e he ha ee _ _ _ _ _ _ _ _ _ hC2 => ⟨I1, ?_⟩) (fun h1 _ _ _ _ _ _ _ _ _ hC2 => ⟨I1, ?_⟩)⟩
    · refine r_cut hR _ _ (fun e' he' ha' ee' _ _ _ _ hR2 => ?_) (fun h => absurd ⟨e, he, ha, ee⟩ h)
      have q1 : e = e' := (yn_inj (by omega) (by omega)).1 (ee.symm.trans ee')
      subst q1
      exact ⟨fun _ => ih (k+4) (i+4) e4 (by omega) (by omega) hC2 hR2, fun hne => absurd rfl hne⟩
    · exact r_cut hR _ _ (fun e he ha ee => absurd ⟨e, he, ha, ee⟩ h1) (fun _ _ _ _ _ hR2 => ⟨fun _ => ih (k+4) (i+4) e4 (by omega) (by omega) hC2 hR2, fun hne => absurd rfl hne⟩)
  · exact c_clear hC _ (fun _ _ _ _ _ _ _ _ _ hC2 => r_clear hR _ (fun _ _ _ hR2 => ⟨fun _ => ih (k+4) (i+4) e4 (by omega) (by omega) hC2 hR2, fun hne => absurd rfl hne⟩))
  · exact c_test hC _ (fun _ _ _ _ _ _ _ _ _ _ _ _ _ _ hC2 => r_test hR _ (fun _ _ _ _ _ _ _ _ _ _ _ _ _ _ _ _ _ _ _ _ _ _ _ _ _ _ _ _ _ _ _ _ _ _ _ _ _ _ _ _ _ _ _ _ _ _ hR2 => ⟨fun _ => ih (k+4) (i+4) e4 (by omega) (by omega) hC2 hR2, fun hne => absurd rfl hne⟩))
  · exact c_outer hC _ (fun _ _ _ _ _ _ _ _ _ _ _ _ _ hC2 => r_outer hR _ (fun _ _ _ _ _ _ _ _ _ _ _ _ _ _ _ _ _ _ _ _ _ hR2 => ⟨fun _ => ih (k+4) (i+4) e4 (by omega) (by omega) hC2 hR2, fun hne => absurd rfl hne⟩))
  · exact ⟨I1, c_degree hC _ _ (fun hC2 => ⟨I1, r_degree hR _ _ (fun hR2 => ⟨fun _ => ih (k+4) (i+4) e4 (by omega) (by omega) hC2 hR2, fun hne => absurd rfl hne⟩)⟩)⟩
  · exact ⟨I1, I2, c_turn hC _ _ _ (fun _ _ _ _ _ _ _ _ _ _ _ _ _ _ _ _ _ _ _ _ _ _ _ _ _ _ _ _ hC2 => ⟨I1, I2, r_turn hR _ _ _ (fun _ _ _ _ _ _ _ _ _ _ _ _ _ _ _ _ _ _ _ _ _ _ _ _ _ _ _ _ _ _ _ _ _ _ _ _ _ _ _ _ _ _ _ _ _ _ hR2 => ⟨fun _ => ih (k+4) (i+4) e4 (by omega) (by omega) hC2 hR2, fun hne => absurd rfl hne⟩)⟩)⟩
  · exact c_faces hC _ (fun _ _ _ _ _ _ _ _ _ _ _ _ _ _ _ _ _ _ _ _ _ _ _ _ _ _ _ _ hC2 => r_faces hR _ (fun _ _ _ _ _ _ _ _ _ _ _ _ _ _ _ _ _ _ _ _ _ _ _ _ _ _ _ _ _ _ _ _ _ _ _ _ _ _ _ _ _ _ _ _ _ _ _ _ _ _ hR2 => ⟨fun _ => ih (k+4) (i+4) e4 (by omega) (by omega) hC2 hR2, fun hne => absurd rfl hne⟩))
  · exact ⟨I1, I2, c_face hC _ _ _ (fun _ _ _ _ _ _ _ _ _ _ _ _ _ _ _ _ _ _ _ _ _ _ _ _ _ _ _ _ hC2 => ⟨I1, I2, r_face hR _ _ _ (fun _ _ _ _ _ _ _ _ _ _ _ _ _ _ _ _ _ _ _ _ _ _ _ _ _ _ _ _ _ _ _ _ _ _ _ _ _ _ _ _ _ _ _ _ _ _ _ _ _ _ hR2 => ⟨fun _ => ih (k+4) (i+4) e4 (by omega) (by omega) hC2 hR2, fun hne => absurd rfl hne⟩)⟩)⟩
  · exact ⟨I1, I2, c_round hC _ _ _ (fun _ _ _ _ _ _ _ _ _ _ _ _ _ _ _ _ _ _ _ hC2 => ⟨I1, I2, r_round hR _ _ _ (fun _ _ _ _ _ _ _ _ _ _ _ _ _ _ _ _ _ _ _ _ _ _ _ _ _ _ _ _ _ _ _ _ _ _ _ _ _ _ _ _ _ _ _ _ _ _ hR2 => ⟨fun _ => ih (k+4) (i+4) e4 (by omega) (by omega) hC2 hR2, fun hne => absurd rfl hne⟩)⟩)⟩
  · exact ⟨I1, I2, c_dual hC _ _ _ (fun _ _ _ _ _ _ _ _ _ _ _ _ _ _ _ _ _ _ _ _ _ _ _ _ _ _ _ _ hC2 => ⟨I1, I2, r_dual hR _ _ _ (fun _ _ _ _ _ _ _ _ _ _ _ _ _ _ _ _ _ _ _ _ _ _ _ _ _ _ _ _ _ _ _ _ _ _ _ _ _ _ _ _ _ _ _ _ _ _ _ _ _ _ hR2 => ⟨fun _ => ih (k+4) (i+4) e4 (by omega) (by omega) hC2 hR2, fun hne => absurd rfl hne⟩)⟩)⟩
  · exact c_dualBack hC _ (fun _ _ _ _ _ _ _ _ _ _ _ _ _ _ _ _ _ _ _ _ _ _ _ _ _ _ _ _ _ _ _ _ _ hC2 => r_dualBack hR _ (fun _ _ _ _ _ _ _ _ _ _ _ _ _ _ _ _ _ _ _ _ _ _ _ _ _ _ _ _ _ _ _ _ _ _ _ _ _ _ _ _ _ _ _ _ _ _ _ _ _ _ _ hR2 => ⟨fun _ => ih (k+4) (i+4) e4 (by omega) (by omega) hC2 hR2, fun hne => absurd rfl hne⟩))
  · exact ⟨I1, I2, c_place hC _ _ _ (fun _ _ _ _ _ _ _ _ _ _ _ _ _ _ _ _ _ _ _ _ _ _ _ _ _ _ _ _ _ _ _ _ _ hC2 => ⟨I1, I2, r_place hR _ _ _ (fun _ _ _ _ _ _ _ _ _ _ _ _ _ _ _ _ _ _ _ _ _ _ _ _ _ _ _ _ _ _ _ _ _ _ _ _ _ _ _ _ _ _ _ _ _ _ hR2 => ⟨fun _ => ih (k+4) (i+4) e4 (by omega) (by omega) hC2 hR2, fun hne => absurd rfl hne⟩)⟩)⟩
  · exact c_crossing hC _ (fun _ _ _ _ _ _ _ _ _ _ _ _ _ _ _ _ _ _ _ _ _ _ _ _ _ _ _ _ _ _ _ _ _ hC2 => r_crossing hR _ (fun _ _ _ _ _ _ _ _ _ _ _ _ _ _ _ _ _ _ _ _ _ _ _ _ _ _ _ _ _ _ _ _ _ _ _ _ _ _ _ _ _ _ _ _ _ _ hR2 => ⟨fun _ => ih (k+4) (i+4) e4 (by omega) (by omega) hC2 hR2, fun hne => absurd rfl hne⟩))
  · exact ⟨I1, c_piece hC _ _ (fun _ _ _ _ _ _ _ _ _ _ _ _ _ _ _ _ _ _ hC2 => ⟨I1, r_piece hR _ _ (fun _ _ _ _ _ _ _ _ _ _ _ _ _ _ _ _ _ _ _ _ _ _ _ _ _ _ _ _ _ _ _ _ _ _ _ _ _ _ _ _ _ _ _ _ _ _ hR2 => ⟨fun _ => ih (k+4) (i+4) e4 (by omega) (by omega) hC2 hR2, fun hne => absurd rfl hne⟩)⟩)⟩
  · exact c_barred hC _ (fun _ _ _ _ _ _ _ _ _ _ _ _ _ _ _ _ _ _ hC2 => r_barred hR _ (fun _ _ _ _ _ _ _ _ _ _ _ _ _ _ _ _ _ _ _ _ _ _ _ _ _ _ _ _ _ _ _ _ _ _ _ _ _ _ _ _ _ _ _ _ _ _ hR2 => ⟨fun _ => ih (k+4) (i+4) e4 (by omega) (by omega) hC2 hR2, fun hne => absurd rfl hne⟩))
  · exact ⟨I1, c_branch hC _ _ (fun _ _ _ _ _ _ _ _ _ _ _ _ _ _ _ _ _ _ hC2 => ⟨I1, r_branch hR _ _ (fun _ _ _ _ _ _ _ _ _ _ _ _ _ _ _ _ _ _ _ _ _ _ _ _ _ _ _ _ _ _ _ _ _ _ _ _ _ _ _ _ _ _ _ _ _ _ hR2 => ⟨fun _ => ih (k+4) (i+4) e4 (by omega) (by omega) hC2 hR2, fun hne => absurd rfl hne⟩)⟩)⟩
  · exact ⟨I1, c_strand hC _ _ (fun _ _ _ _ _ _ _ _ _ _ _ _ _ _ _ _ _ _ hC2 => ⟨I1, r_strand hR _ _ (fun _ _ _ _ _ _ _ _ _ _ _ _ _ _ _ _ _ _ _ _ _ _ _ _ _ _ _ _ _ _ _ _ _ _ _ _ _ _ _ _ _ _ _ _ _ _ hR2 => ⟨fun _ => ih (k+4) (i+4) e4 (by omega) (by omega) hC2 hR2, fun hne => absurd rfl hne⟩)⟩)⟩
  · exact ⟨I1, I2, c_told hC _ _ _ (fun hC2 => ⟨I1, I2, r_told hR _ _ _ (fun hR2 => ⟨fun _ => ih (k+4) (i+4) e4 (by omega) (by omega) hC2 hR2, fun hne => absurd rfl hne⟩)⟩)⟩
  · refine ⟨I1, I2, I3, c_swap hC _ _ _ _ (fun v p q hv hp hq ev ep eq _ hC2 => ⟨I1, I2, I3, ?_⟩) (fun h1 _ hC2 => ⟨I1, I2, I3, ?_⟩)⟩
    · refine r_swap hR _ _ _ _ (fun v' p' q' hv' hp' hq' ev' ep' eq' _ hR2 => ?_) (fun h => absurd ⟨v, p, q, hv, hp, hq, ev, ep, eq⟩ h)
      have q1 : v = v' := (yn_inj (by omega) (by omega)).1 (ev.symm.trans ev')
      subst q1
      have hz := hR.2.2.2.2.2.2.1.2.2.1 v hv
      have q2 : p = p' := (yn_inj (by omega) (by omega)).1 (ep.symm.trans ep')
      have q3 : q = q' := (yn_inj (by omega) (by omega)).1 (eq.symm.trans eq')
      subst q2 q3
      exact ⟨fun _ => ih (k+4) (i+4) e4 (by omega) (by omega) hC2 hR2, fun hne => absurd rfl hne⟩
    · exact r_swap hR _ _ _ _ (fun v p q hv hp hq ev ep eq => absurd ⟨v, p, q, hv, hp, hq, ev, ep, eq⟩ h1) (fun _ _ hR2 => ⟨fun _ => ih (k+4) (i+4) e4 (by omega) (by omega) hC2 hR2, fun hne => absurd rfl hne⟩)
  · exact c_take hC _ (fun hm _ _ _ _ _ _ _ _ _ _ _ _ _ _ _ _ _ _ _ _ _ _ _ _ _ _ _ _ _ _ _ hC2 => r_take hR _ (fun _ _ _ _ _ _ _ _ _ _ _ _ _ _ _ _ _ _ _ _ _ _ _ _ _ _ _ _ _ _ _ _ _ _ _ _ _ _ _ _ _ _ _ _ _ _ _ _ hR2 => ⟨fun _ => ih (k+4) (i+4) e4 (by omega) (by omega) hC2 hR2, fun hne => absurd rfl hne⟩) (fun h => absurd hm h)) (fun hm _ _ _ _ _ _ _ _ _ _ _ _ _ _ _ _ _ _ _ _ _ _ _ _ _ _ _ _ _ _ _ hC2 => r_take hR _ (fun h => absurd h hm) (fun _ _ _ _ _ _ _ _ _ _ _ _ _ _ _ _ _ _ _ _ _ _ _ _ _ _ _ _ _ _ _ _ _ _ _ _ _ _ _ _ _ _ _ _ _ _ _ _ hR2 => ⟨fun _ => ih (k+4) (i+4) e4 (by omega) (by omega) hC2 hR2, fun hne => absurd rfl hne⟩))
  · exact c_genus hC _ (fun _ _ _ _ _ hC2 => r_genus hR _ (fun _ _ _ _ _ _ hR2 => ⟨fun _ => ih (k+4) (i+4) e4 (by omega) (by omega) hC2 hR2, fun hne => absurd rfl hne⟩))
  · exact c_toldFaces hC _ (fun _ _ _ _ _ hC2 => r_toldFaces hR _ (fun _ _ _ _ hR2 => ⟨fun _ => ih (k+4) (i+4) e4 (by omega) (by omega) hC2 hR2, fun hne => absurd rfl hne⟩))
  · exact ih (k+4) (i+4) e4 (by omega) (by omega) hC hR


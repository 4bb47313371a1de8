
section
variable {N M : Nat} {F T : Nat → Nat} {al : Nat → Bool} {rs : Nat → Nat} {rw' : Nat → Nat → Nat}
variable {t0 t1 t2 t7 t10 t11 t12 t13 t14 t15 t16 t17 t18 t19 t20 t21 t22 t23 t24 t25 t26 t27 t28 t29 t30 t31 t32 t33 t34 t35 t36 t37 t38 t39 t40 t41 t42 t43 t44 t45 t46 t47 t48 t49 t50 t51 t52 t53 t54 t55 t56 t57 t58 t59 t60 t61 t62 t63 t64 t65 t66 t67 t68 t69 t70 t71 t72 t73 t74 t75 t76 t77 t78 t79 t80 : Nat → Int32} {t3 t4 t5 t6 t8 t9 : Nat → Int64} {t81 t82 t83 t84 t85 t86 t87 t88 t89 t90 t91 t92 t93 t94 t95 t96 t97 t98 t99 t100 t101 t102 t103 t104 t105 t106 t107 t108 t109 t110 t111 t112 t113 t114 t115 t116 t117 : Int32}

theorem yEr_same {nd : Nat → Nat} {L : Nat → Prop} {rs1 rs2 : Nat → Nat} {rw1 rw2 : Nat → Nat → Nat} (h : yEr N nd L rs1 rw1) (h' : yEr N nd L rs2 rw2) {v : Nat} (hv : v < N) : rs1 v = rs2 v := by
  have key : ∀ {ra rb : Nat → Nat} {wa wb : Nat → Nat → Nat}, yEr N nd L ra wa → yEr N nd L rb wb → ra v ≤ rb v := by
    intro ra rb wa wb ha hb
    have hsp : ∀ i, i < ra v → ∃ j, j < rb v ∧ wb v j = wa v i := by
      intro i hi
      obtain ⟨l1, l2⟩ := ha.1 v i hv hi
      obtain ⟨_, _, j, j1, j2⟩ := hb.2.2 _ l1
      rw [l2] at j1 j2
      exact ⟨j, j1, j2⟩
    refine yPig _ _ (fun i => Classical.epsilon (fun j => j < rb v ∧ wb v j = wa v i)) (fun i hi => (Classical.epsilon_spec (hsp i hi)).1) (fun i j hi hj e => ?_)
    have e1 := (Classical.epsilon_spec (hsp i hi)).2
    have e2 := (Classical.epsilon_spec (hsp j hj)).2
    have e' : Classical.epsilon (fun j => j < rb v ∧ wb v j = wa v i) = Classical.epsilon (fun k => k < rb v ∧ wb v k = wa v j) := e
    rw [e', e2] at e1
    exact ha.2.1 v i j hv hi hj e1.symm
  exact Nat.le_antisymm (key h h') (key h' h)

theorem w9_hasDual (hN : N ≤ 20) (hM : M ≤ 80) (hF : ∀ k, k < M → F k < N ∧ T k < N) {alv frm too : Nat → Int32} (hfr : ∀ k, k < M → frm k = Int32.ofNat (F k)) (hto : ∀ k, k < M → too k = Int32.ofNat (T k)) (hB : yBo M al alv)
    (i2 i3 i4 i5 i6 i7 i8 i9 i10 i11 i12 i13 i14 i15 i16 i17 : Int32) (f18 f22 f23 f24 f25 f26 f27 f28 f29 f30 f31 f32 f33 f34 f35 f36 f37 f38 f39 f40 f41 f42 f43 f44 f45 f46 f47 f48 f49 f50 f51 : Nat → Int32) (hk : i2 ≠ 0 → yKnR N M F T al i11 f22 f35 f39 f40 f41 f42 f48 f49) (K : Int32 → (Int32 × Int32 × Int32 × Int32 × Int32 × Int32 × Int32 × Int32 × Int32 × Int32 × Int32 × Int32 × Int32 × Int32 × Int32 × (Nat → Int32) × (Nat → Int32) × (Nat → Int32) × (Nat → Int32) × (Nat → Int32) × (Nat → Int32) × (Nat → Int32) × (Nat → Int32) × (Nat → Int32) × (Nat → Int32) × (Nat → Int32) × (Nat → Int32) × (Nat → Int32) × (Nat → Int32) × (Nat → Int32) × (Nat → Int32) × (Nat → Int32) × (Nat → Int32) × (Nat → Int32) × (Nat → Int32) × (Nat → Int32) × (Nat → Int32) × (Nat → Int32) × (Nat → Int32) × (Nat → Int32) × (Nat → Int32) × (Nat → Int32) × (Nat → Int32) × (Nat → Int32) × (Nat → Int32) × (Nat → Int32)) → Prop)
    (hK1 : yHd N M F T al → ∀ u, u.1 ≠ 0 → yKnR N M F T al (u.2.2.2.2.2.2.2.2.2.1) (u.2.2.2.2.2.2.2.2.2.2.2.2.2.2.2.2.1) (u.2.2.2.2.2.2.2.2.2.2.2.2.2.2.2.2.2.2.2.2.2.2.2.2.2.2.2.2.2.1) (u.2.2.2.2.2.2.2.2.2.2.2.2.2.2.2.2.2.2.2.2.2.2.2.2.2.2.2.2.2.2.2.2.2.1) (u.2.2.2.2.2.2.2.2.2.2.2.2.2.2.2.2.2.2.2.2.2.2.2.2.2.2.2.2.2.2.2.2.2.2.1) (u.2.2.2.2.2.2.2.2.2.2.2.2.2.2.2.2.2.2.2.2.2.2.2.2.2.2.2.2.2.2.2.2.2.2.2.1) (u.2.2.2.2.2.2.2.2.2.2.2.2.2.2.2.2.2.2.2.2.2.2.2.2.2.2.2.2.2.2.2.2.2.2.2.2.1) (u.2.2.2.2.2.2.2.2.2.2.2.2.2.2.2.2.2.2.2.2.2.2.2.2.2.2.2.2.2.2.2.2.2.2.2.2.2.2.2.2.2.2.1) (u.2.2.2.2.2.2.2.2.2.2.2.2.2.2.2.2.2.2.2.2.2.2.2.2.2.2.2.2.2.2.2.2.2.2.2.2.2.2.2.2.2.2.2.1) → K 1 u) (hK0 : ¬ yHd N M F T al → ∀ u, u.1 ≠ 0 → yKnR N M F T al (u.2.2.2.2.2.2.2.2.2.1) (u.2.2.2.2.2.2.2.2.2.2.2.2.2.2.2.2.1) (u.2.2.2.2.2.2.2.2.2.2.2.2.2.2.2.2.2.2.2.2.2.2.2.2.2.2.2.2.2.1) (u.2.2.2.2.2.2.2.2.2.2.2.2.2.2.2.2.2.2.2.2.2.2.2.2.2.2.2.2.2.2.2.2.2.1) (u.2.2.2.2.2.2.2.2.2.2.2.2.2.2.2.2.2.2.2.2.2.2.2.2.2.2.2.2.2.2.2.2.2.2.1) (u.2.2.2.2.2.2.2.2.2.2.2.2.2.2.2.2.2.2.2.2.2.2.2.2.2.2.2.2.2.2.2.2.2.2.2.1) (u.2.2.2.2.2.2.2.2.2.2.2.2.2.2.2.2.2.2.2.2.2.2.2.2.2.2.2.2.2.2.2.2.2.2.2.2.1) (u.2.2.2.2.2.2.2.2.2.2.2.2.2.2.2.2.2.2.2.2.2.2.2.2.2.2.2.2.2.2.2.2.2.2.2.2.2.2.2.2.2.2.1) (u.2.2.2.2.2.2.2.2.2.2.2.2.2.2.2.2.2.2.2.2.2.2.2.2.2.2.2.2.2.2.2.2.2.2.2.2.2.2.2.2.2.2.2.1) → K 0 u) :
    wX9_hasDual (Int32.ofNat N) (Int32.ofNat M) i2 i3 i4 i5 i6 i7 i8 i9 i10 i11 i12 i13 i14 i15 i16 i17 f18 alv frm too f22 f23 f24 f25 f26 f27 f28 f29 f30 f31 f32 f33 f34 f35 f36 f37 f38 f39 f40 f41 f42 f43 f44 f45 f46 f47 f48 f49 f50 f51 K := by
  have hle := yEcnt_le M al
  have hlp : yParts N (yGk M F T al) ≤ N := yEcnt_le N _
  have h0 : (0 : Int32) = Int32.ofNat 0 := rfl
  have h1 : (1 : Int32) = Int32.ofNat 1 := rfl
  unfold wX9_hasDual
  refine w9_isPlaneNow hN hM hF hfr hto hB _ _ _ _ _ _ _ _ _ _ _ _ _ _ _ _ _ _ _ _ _ _ _ _ _ _ _ _ _ _ _ _ _ _ _ _ _ _ _ _ _ _ _ _ _ _ _  hk _ (fun hp u g1 g2 => ⟨fun z => absurd z (by decide), fun _ => ?_⟩) (fun hp u g1 g2 => ⟨fun _ => ?_, fun z => absurd rfl z⟩)
  · refine w9_arcs hM hB _ _ _ _ _ _ _ _ _ _ _ _ _ _ _ _ _ _ ⟨fun z => ?_, fun z => ?_⟩
    · rw [h0, yn_le (by omega) (by omega)] at z
      exact hK0 (fun hh => by have := hh.2.1; omega) _ g1 g2
    · rw [h0, yn_le (by omega) (by omega)] at z
      refine w9_parts hN hM hF hfr hto hB _ _ _ _ _ _ _ _ _ _ _ _ _ _ _ _ _ _ _ (fun u15 => ?_)
      rw [h1, yn_inj (by omega) (by omega)]
      exact ⟨fun w => hK0 (fun hh => w hh.2.2) _ g1 g2, fun w => hK1 ⟨hp, by omega, w⟩ _ g1 g2⟩
  · exact hK0 (fun hh => hp hh.1) _ g1 g2

theorem yTf_rows (hN : N ≤ 20) (hM : M ≤ 80) (hEt : yEr N (yNd F T) (fun e => yLv M al e = true) (fun v => (yTn N M F T al v).length) (fun v i => (yTn N M F T al v).getD i 0)) :
    yEr (yTf N M F T al).1 (fun e => (yTf N M F T al).2.2.2 e - 1) (fun e => yLv M al e = true) (yTf N M F T al).2.1 (yTf N M F T al).2.2.1 ∧ (yTf N M F T al).1 ≤ 160 ∧ (∀ r, r < (yTf N M F T al).1 → 1 ≤ (yTf N M F T al).2.1 r) ∧ (∀ e, yLv M al e = true → (yTf N M F T al).2.2.2 e ≠ 0) := by
  have hcl := yBt_closed hEt (fun e he' => yLv_pt he')
  obtain ⟨kI, kR, kL, kA⟩ := yTc_keeps hcl 160
  have k160 := yTI_few kI kR
  have hE2 : yEr (yTf N M F T al).1 (fun e => (yTf N M F T al).2.2.2 e - 1) (fun e => yLv M al e = true) (yTf N M F T al).2.1 (yTf N M F T al).2.2.1 :=
    yEr_congr kI (fun e => ⟨fun h => kL e h, fun h => kA e (by have := (yLv_iff.1 h).1; omega) h⟩) (fun e _ => rfl)
  exact ⟨hE2, k160, kR, fun e h => kA e (by have := (yLv_iff.1 h).1; omega) h⟩

theorem r_faces (h : yRS N M F T al rs rw' t86 t87 t102 t95 t41 t42 t53 t75 t64 t61 t62 t55 t56 t58 t57 t59 t60) (K : Int32 → (Int32 × Int32 × Int32 × Int32 × Int32 × Int32 × Int32 × Int32 × Int32 × Int32 × Int32 × Int32 × Int32 × Int32 × Int32 × Int32 × (Nat → Int32) × (Nat → Int32) × (Nat → Int32) × (Nat → Int32) × (Nat → Int32) × (Nat → Int32) × (Nat → Int32) × (Nat → Int32) × (Nat → Int32) × (Nat → Int32) × (Nat → Int32) × (Nat → Int32) × (Nat → Int32) × (Nat → Int32) × (Nat → Int32) × (Nat → Int32) × (Nat → Int32) × (Nat → Int32) × (Nat → Int32) × (Nat → Int32) × (Nat → Int32) × (Nat → Int32) × (Nat → Int32) × (Nat → Int32) × (Nat → Int32) × (Nat → Int32) × (Nat → Int32) × (Nat → Int32) × (Nat → Int32) × (Nat → Int32) × (Nat → Int32) × (Nat → Int32) × (Nat → Int32) × (Nat → Int32)) → Prop)
    (hK : ∀ (n102 : Int32) (n103 : Int32) (n88 : Int32) (n89 : Int32) (n90 : Int32) (n91 : Int32) (n92 : Int32) (n93 : Int32) (n94 : Int32) (n95 : Int32) (n96 : Int32) (n97 : Int32) (n98 : Int32) (n99 : Int32) (n100 : Int32) (n101 : Int32) (n76 : Nat → Int32) (n61 : Nat → Int32) (n77 : Nat → Int32) (n78 : Nat → Int32) (n79 : Nat → Int32) (n80 : Nat → Int32) (n49 : Nat → Int32) (n48 : Nat → Int32) (n47 : Nat → Int32) (n43 : Nat → Int32) (n46 : Nat → Int32) (n44 : Nat → Int32) (n45 : Nat → Int32) (n50 : Nat → Int32) (n62 : Nat → Int32) (n52 : Nat → Int32) (n51 : Nat → Int32) (n54 : Nat → Int32) (n55 : Nat → Int32) (n56 : Nat → Int32) (n58 : Nat → Int32) (n57 : Nat → Int32) (n67 : Nat → Int32) (n63 : Nat → Int32) (n65 : Nat → Int32) (n68 : Nat → Int32) (n66 : Nat → Int32) (n59 : Nat → Int32) (n60 : Nat → Int32) (n69 : Nat → Int32) (n70 : Nat → Int32) (n73 : Nat → Int32) (n72 : Nat → Int32) (n71 : Nat → Int32), yRS N M F T al rs rw' t86 t87 n102 n95 t41 t42 t53 t75 t64 n61 n62 n55 n56 n58 n57 n59 n60 → K (yAFaces N M F T al) (n102, n103, n88, n89, n90, n91, n92, n93, n94, n95, n96, n97, n98, n99, n100, n101, n76, n61, n77, n78, n79, n80, n49, n48, n47, n43, n46, n44, n45, n50, n62, n52, n51, n54, n55, n56, n58, n57, n67, n63, n65, n68, n66, n59, n60, n69, n70, n73, n72, n71))
    : wX9_faces t86 t87 t102 t103 t88 t89 t90 t91 t92 t93 t94 t95 t96 t97 t98 t99 t100 t101 t76 t53 t41 t42 t61 t77 t78 t79 t80 t49 t48 t47 t43 t46 t44 t45 t50 t62 t52 t51 t54 t55 t56 t58 t57 t67 t63 t65 t68 t66 t59 t60 t69 t70 t73 t72 t71 t75 t64 K := by
  obtain ⟨hab, e86, e87, hfr, hto, hB, hrr, hk⟩ := h
  subst e86 e87
  have hN := hab.1
  have hM := hab.2.1
  have hF := hab.2.2.1
  have hE := hab.2.2.2
  unfold wX9_faces
  unfold yAFaces at hK
  refine w9_isPlaneNow hN hM hF hfr hto hB _ _ _ _ _ _ _ _ _ _ _ _ _ _ _ _ _ _ _ _ _ _ _ _ _ _ _ _ _ _ _ _ _ _ _ _ _ _ _ _ _ _ _ _ _ _ _ hk _ (fun hp u h1 h2 => ⟨fun _ => ?_, fun z => absurd z (by decide)⟩) (fun hp u h1 h2 => ⟨fun z => absurd rfl z, fun _ => ?_⟩)
  · rw [yIf_pos hp] at hK
    obtain ⟨_, hT, _, _, hEt⟩ := yKnR_p h2 hp
    refine w9_trace hB hM hN hfr hto hEt (fun _ => hT) (fun z => absurd rfl z) _ _ _ _ _ _ _ _ _ _ _ _ _ _ _ _ _ _ _ _ _ _ rfl (fun fo' st' en' a1 a2 => ?_)
    refine w9_bare (rs := rs) hN (fun v hv => ⟨hrr.1 v hv, hrr.2.2.1 v hv⟩) _ _ _ _ _ _ _ _ _ _ _ _ _ _ _ _ _ _ ?_
    have hb : yNb N (fun v => decide (rs v = 0)) = yNb N (fun v => decide ((yTn N M F T al v).length = 0)) := by
      apply yNb_congr
      intro i hi
      rw [yEr_same hE hEt hi]
    rw [hb, yn_add]
    exact hK _ _ _ _ _ _ _ _ _ _ _ _ _ _ _ _ _ _ _ _ _ _ _ _ _ _ _ _ _ _ _ _ _ _ _ _ _ _ _ _ _ _ _ _ _ _ _ _ _ _ ⟨hab, rfl, rfl, hfr, hto, hB, hrr, fun _ => h2⟩
  · rw [yIf_neg hp] at hK
    exact hK _ _ _ _ _ _ _ _ _ _ _ _ _ _ _ _ _ _ _ _ _ _ _ _ _ _ _ _ _ _ _ _ _ _ _ _ _ _ _ _ _ _ _ _ _ _ _ _ _ _ ⟨hab, rfl, rfl, hfr, hto, hB, hrr, fun _ => h2⟩

theorem r_face (h : yRS N M F T al rs rw' t86 t87 t102 t95 t41 t42 t53 t75 t64 t61 t62 t55 t56 t58 t57 t59 t60) (p0 p1 : Int32) (K : Int32 → (Int32 × Int32 × Int32 × Int32 × Int32 × Int32 × Int32 × Int32 × Int32 × Int32 × Int32 × Int32 × Int32 × Int32 × Int32 × Int32 × (Nat → Int32) × (Nat → Int32) × (Nat → Int32) × (Nat → Int32) × (Nat → Int32) × (Nat → Int32) × (Nat → Int32) × (Nat → Int32) × (Nat → Int32) × (Nat → Int32) × (Nat → Int32) × (Nat → Int32) × (Nat → Int32) × (Nat → Int32) × (Nat → Int32) × (Nat → Int32) × (Nat → Int32) × (Nat → Int32) × (Nat → Int32) × (Nat → Int32) × (Nat → Int32) × (Nat → Int32) × (Nat → Int32) × (Nat → Int32) × (Nat → Int32) × (Nat → Int32) × (Nat → Int32) × (Nat → Int32) × (Nat → Int32) × (Nat → Int32) × (Nat → Int32) × (Nat → Int32) × (Nat → Int32) × (Nat → Int32)) → Prop)
    (hK : ∀ (n102 : Int32) (n103 : Int32) (n88 : Int32) (n89 : Int32) (n90 : Int32) (n91 : Int32) (n92 : Int32) (n93 : Int32) (n94 : Int32) (n95 : Int32) (n96 : Int32) (n97 : Int32) (n98 : Int32) (n99 : Int32) (n100 : Int32) (n101 : Int32) (n76 : Nat → Int32) (n61 : Nat → Int32) (n77 : Nat → Int32) (n78 : Nat → Int32) (n79 : Nat → Int32) (n80 : Nat → Int32) (n49 : Nat → Int32) (n48 : Nat → Int32) (n47 : Nat → Int32) (n43 : Nat → Int32) (n46 : Nat → Int32) (n44 : Nat → Int32) (n45 : Nat → Int32) (n50 : Nat → Int32) (n62 : Nat → Int32) (n52 : Nat → Int32) (n51 : Nat → Int32) (n54 : Nat → Int32) (n55 : Nat → Int32) (n56 : Nat → Int32) (n58 : Nat → Int32) (n57 : Nat → Int32) (n67 : Nat → Int32) (n63 : Nat → Int32) (n65 : Nat → Int32) (n68 : Nat → Int32) (n66 : Nat → Int32) (n59 : Nat → Int32) (n60 : Nat → Int32) (n69 : Nat → Int32) (n70 : Nat → Int32) (n73 : Nat → Int32) (n72 : Nat → Int32) (n71 : Nat → Int32), yRS N M F T al rs rw' t86 t87 n102 n95 t41 t42 t53 t75 t64 n61 n62 n55 n56 n58 n57 n59 n60 → K (yAFace N M F T al p0 p1) (n102, n103, n88, n89, n90, n91, n92, n93, n94, n95, n96, n97, n98, n99, n100, n101, n76, n61, n77, n78, n79, n80, n49, n48, n47, n43, n46, n44, n45, n50, n62, n52, n51, n54, n55, n56, n58, n57, n67, n63, n65, n68, n66, n59, n60, n69, n70, n73, n72, n71))
    : wX9_face t86 t87 t102 t103 t88 t89 t90 t91 t92 t93 t94 t95 t96 t97 t98 t99 t100 t101 t76 t53 t41 t42 t61 t77 t78 t79 t80 t49 t48 t47 t43 t46 t44 t45 t50 t62 t52 t51 t54 t55 t56 t58 t57 t67 t63 t65 t68 t66 t59 t60 t69 t70 t73 t72 t71 t75 t64 p0 p1 K := by
  obtain ⟨hab, e86, e87, hfr, hto, hB, hrr, hk⟩ := h
  subst e86 e87
  have hN := hab.1
  have hM := hab.2.1
  have hF := hab.2.2.1
  have hE := hab.2.2.2
  unfold wX9_face
  unfold yAFace at hK
  refine w9_isPlaneNow hN hM hF hfr hto hB _ _ _ _ _ _ _ _ _ _ _ _ _ _ _ _ _ _ _ _ _ _ _ _ _ _ _ _ _ _ _ _ _ _ _ _ _ _ _ _ _ _ _ _ _ _ _ hk _ (fun hp u h1 h2 => ⟨fun _ => ?_, fun z => absurd z (by decide)⟩) (fun hp u h1 h2 => ⟨fun z => absurd rfl z, fun _ => ?_⟩)
  · rw [yIf_pos hp] at hK
    obtain ⟨_, hT, _, _, hEt⟩ := yKnR_p h2 hp
    obtain ⟨_, hR, _, _⟩ := yTf_rows hN hM hEt
    refine w9_trace hB hM hN hfr hto hEt (fun _ => hT) (fun z => absurd rfl z) _ _ _ _ _ _ _ _ _ _ _ _ _ _ _ _ _ _ _ _ _ _ rfl (fun fo' st' en' a1 a2 => ?_)
    have a2 : yRw (yTf N M F T al).1 (yTf N M F T al).2.1 (yTf N M F T al).2.2.1 st' en' := a2
    have e1 : (1 : Int32) = Int32.ofNat 1 := rfl
    refine ⟨fun hq => ?_, fun hq => ?_⟩
    · rw [yIf_neg (fun ⟨r, i, b1, b2, b3, b4⟩ => by rw [b3] at hq; exact yn_neg (by omega) hq)] at hK
      exact hK _ _ _ _ _ _ _ _ _ _ _ _ _ _ _ _ _ _ _ _ _ _ _ _ _ _ _ _ _ _ _ _ _ _ _ _ _ _ _ _ _ _ _ _ _ _ _ _ _ _ ⟨hab, rfl, rfl, hfr, hto, hB, hrr, fun _ => h2⟩
    obtain ⟨r, hr, rfl⟩ := yn_of hq
    refine ⟨fun hq1 => ?_, fun hq1 => ?_⟩
    · have hq1 : Int32.ofNat (yTf N M F T al).1 ≤ Int32.ofNat r := hq1
      rw [yn_le (by omega) (by omega)] at hq1
      rw [yIf_neg (fun ⟨r', i, b1, b2, b3, b4⟩ => by have := (yn_inj (by omega) (by omega)).1 b3; omega)] at hK
      exact hK _ _ _ _ _ _ _ _ _ _ _ _ _ _ _ _ _ _ _ _ _ _ _ _ _ _ _ _ _ _ _ _ _ _ _ _ _ _ _ _ _ _ _ _ _ _ _ _ _ _ ⟨hab, rfl, rfl, hfr, hto, hB, hrr, fun _ => h2⟩
    have hq1 : ¬ Int32.ofNat (yTf N M F T al).1 ≤ Int32.ofNat r := hq1
    rw [yn_le (by omega) (by omega)] at hq1
    have hrl : r < (yTf N M F T al).1 := by omega
    have hsz := yS_at (yTf N M F T al).2.1 hrl
    have h160 := a2.2.1
    have eS : yS (r+1) (yTf N M F T al).2.1 = yS r (yTf N M F T al).2.1 + (yTf N M F T al).2.1 r := rfl
    have eD : Int32.ofNat (yS (r+1) (yTf N M F T al).2.1) - Int32.ofNat (yS r (yTf N M F T al).2.1) = Int32.ofNat ((yTf N M F T al).2.1 r) := by
      rw [eS, yn_sub (by omega)]; congr 1; omega
    refine ⟨fun hq2 => ?_, fun hq2 => ?_⟩
    · rw [yIf_neg (fun ⟨r', i, b1, b2, b3, b4⟩ => by
        have := (yn_inj (by omega) (by omega)).1 b3
        subst this
        rw [b4] at hq2; exact yn_neg (by omega) hq2)] at hK
      exact hK _ _ _ _ _ _ _ _ _ _ _ _ _ _ _ _ _ _ _ _ _ _ _ _ _ _ _ _ _ _ _ _ _ _ _ _ _ _ _ _ _ _ _ _ _ _ _ _ _ _ ⟨hab, rfl, rfl, hfr, hto, hB, hrr, fun _ => h2⟩
    obtain ⟨i, hi, rfl⟩ := yn_of hq2
    rw [e1, yn_add, yn_nat (by omega), yn_nat (by omega)]
    refine ⟨yn_in (by omega) (by omega), yn_in (by omega) (by omega), ?_⟩
    have s1 : st' (r+1) = Int32.ofNat (yS (r+1) (yTf N M F T al).2.1) := a2.2.2.1 (r+1) (by omega)
    have s0 : st' r = Int32.ofNat (yS r (yTf N M F T al).2.1) := a2.2.2.1 r (by omega)
    show (st' (r+1) - st' r ≤ Int32.ofNat i → _) ∧ (¬ st' (r+1) - st' r ≤ Int32.ofNat i → _ ∧ vp_in (st' r + Int32.ofNat i) 160 ∧ K (en' (Int32.toNatClampNeg (st' r + Int32.ofNat i))) _)
    rw [s1, s0, eD, yn_le (by omega) (by omega), yn_add]
    refine ⟨fun hle => ?_, fun hlt => ?_⟩
    · rw [yIf_neg (fun ⟨r', i', b1, b2, b3, b4⟩ => by
        have := (yn_inj (by omega) (by omega)).1 b3
        subst this
        have := (yn_inj (by omega) (by omega)).1 b4
        omega)] at hK
      exact hK _ _ _ _ _ _ _ _ _ _ _ _ _ _ _ _ _ _ _ _ _ _ _ _ _ _ _ _ _ _ _ _ _ _ _ _ _ _ _ _ _ _ _ _ _ _ _ _ _ _ ⟨hab, rfl, rfl, hfr, hto, hB, hrr, fun _ => h2⟩
    · rw [yIf_pos ⟨r, i, hrl, by omega, rfl, rfl⟩, yn_nat (by omega), yn_nat (by omega)] at hK
      rw [yn_nat (by omega), a2.2.2.2.1 r i hrl (by omega)]
      exact ⟨yn_in (by omega) (by omega), yn_in (by omega) (by omega), hK _ _ _ _ _ _ _ _ _ _ _ _ _ _ _ _ _ _ _ _ _ _ _ _ _ _ _ _ _ _ _ _ _ _ _ _ _ _ _ _ _ _ _ _ _ _ _ _ _ _ ⟨hab, rfl, rfl, hfr, hto, hB, hrr, fun _ => h2⟩⟩
  · rw [yIf_neg hp] at hK
    exact hK _ _ _ _ _ _ _ _ _ _ _ _ _ _ _ _ _ _ _ _ _ _ _ _ _ _ _ _ _ _ _ _ _ _ _ _ _ _ _ _ _ _ _ _ _ _ _ _ _ _ ⟨hab, rfl, rfl, hfr, hto, hB, hrr, fun _ => h2⟩

theorem r_dual (h : yRS N M F T al rs rw' t86 t87 t102 t95 t41 t42 t53 t75 t64 t61 t62 t55 t56 t58 t57 t59 t60) (p0 p1 : Int32) (K : Int32 → (Int32 × Int32 × Int32 × Int32 × Int32 × Int32 × Int32 × Int32 × Int32 × Int32 × Int32 × Int32 × Int32 × Int32 × Int32 × Int32 × (Nat → Int32) × (Nat → Int32) × (Nat → Int32) × (Nat → Int32) × (Nat → Int32) × (Nat → Int32) × (Nat → Int32) × (Nat → Int32) × (Nat → Int32) × (Nat → Int32) × (Nat → Int32) × (Nat → Int32) × (Nat → Int32) × (Nat → Int32) × (Nat → Int32) × (Nat → Int32) × (Nat → Int32) × (Nat → Int32) × (Nat → Int32) × (Nat → Int32) × (Nat → Int32) × (Nat → Int32) × (Nat → Int32) × (Nat → Int32) × (Nat → Int32) × (Nat → Int32) × (Nat → Int32) × (Nat → Int32) × (Nat → Int32) × (Nat → Int32) × (Nat → Int32) × (Nat → Int32) × (Nat → Int32) × (Nat → Int32)) → Prop)
    (hK : ∀ (n102 : Int32) (n103 : Int32) (n88 : Int32) (n89 : Int32) (n90 : Int32) (n91 : Int32) (n92 : Int32) (n93 : Int32) (n94 : Int32) (n95 : Int32) (n96 : Int32) (n97 : Int32) (n98 : Int32) (n99 : Int32) (n100 : Int32) (n101 : Int32) (n76 : Nat → Int32) (n61 : Nat → Int32) (n77 : Nat → Int32) (n78 : Nat → Int32) (n79 : Nat → Int32) (n80 : Nat → Int32) (n49 : Nat → Int32) (n48 : Nat → Int32) (n47 : Nat → Int32) (n43 : Nat → Int32) (n46 : Nat → Int32) (n44 : Nat → Int32) (n45 : Nat → Int32) (n50 : Nat → Int32) (n62 : Nat → Int32) (n52 : Nat → Int32) (n51 : Nat → Int32) (n54 : Nat → Int32) (n55 : Nat → Int32) (n56 : Nat → Int32) (n58 : Nat → Int32) (n57 : Nat → Int32) (n67 : Nat → Int32) (n63 : Nat → Int32) (n65 : Nat → Int32) (n68 : Nat → Int32) (n66 : Nat → Int32) (n59 : Nat → Int32) (n60 : Nat → Int32) (n69 : Nat → Int32) (n70 : Nat → Int32) (n73 : Nat → Int32) (n72 : Nat → Int32) (n71 : Nat → Int32), yRS N M F T al rs rw' t86 t87 n102 n95 t41 t42 t53 t75 t64 n61 n62 n55 n56 n58 n57 n59 n60 → K (yADual N M F T al p0 p1) (n102, n103, n88, n89, n90, n91, n92, n93, n94, n95, n96, n97, n98, n99, n100, n101, n76, n61, n77, n78, n79, n80, n49, n48, n47, n43, n46, n44, n45, n50, n62, n52, n51, n54, n55, n56, n58, n57, n67, n63, n65, n68, n66, n59, n60, n69, n70, n73, n72, n71))
    : wX9_dual t86 t87 t102 t103 t88 t89 t90 t91 t92 t93 t94 t95 t96 t97 t98 t99 t100 t101 t53 t76 t41 t42 t61 t77 t78 t79 t80 t49 t48 t47 t43 t46 t44 t45 t50 t62 t52 t51 t54 t55 t56 t58 t57 t67 t63 t65 t68 t66 t59 t60 t69 t70 t73 t72 t71 t75 t64 p0 p1 K := by
  obtain ⟨hab, e86, e87, hfr, hto, hB, hrr, hk⟩ := h
  subst e86 e87
  have hN := hab.1
  have hM := hab.2.1
  have hF := hab.2.2.1
  have hE := hab.2.2.2
  unfold wX9_dual
  unfold yADual at hK
  refine w9_isArc hM hB _ _ _ _ _ _ _ _ _ _ _ _ _ _ _ _ _ _ _ (fun k hk1 hak ek => ⟨fun _ => ?_, fun z => absurd z (by decide)⟩) (fun hno => ⟨fun z => absurd rfl z, fun _ => ?_⟩)
  · subst ek
    rw [yIf_pos ⟨k, hk1, hak, rfl⟩, yn_nat (by omega)] at hK
    refine ⟨fun hq => ?_, fun hq => ⟨fun hq1 => ?_, fun hq1 => ?_⟩⟩
    · rw [yIf_neg (by rintro (q | q) <;> subst q <;> revert hq <;> decide)] at hK
      exact hK _ _ _ _ _ _ _ _ _ _ _ _ _ _ _ _ _ _ _ _ _ _ _ _ _ _ _ _ _ _ _ _ _ _ _ _ _ _ _ _ _ _ _ _ _ _ _ _ _ _ ⟨hab, rfl, rfl, hfr, hto, hB, hrr, hk⟩
    · have h01 := yn_01 hq hq1
      rw [yIf_pos h01] at hK
      refine w9_hasDual hN hM hF hfr hto hB _ _ _ _ _ _ _ _ _ _ _ _ _ _ _ _ _ _ _ _ _ _ _ _ _ _ _ _ _ _ _ _ _ _ _ _ _ _ _ _ _ _ _ _ _ _ _ hk _ (fun hp u h1 h2 => ⟨fun _ => ?_, fun z => absurd z (by decide)⟩) (fun hp u h1 h2 => ⟨fun z => absurd rfl z, fun _ => ?_⟩)
      · rw [yIf_pos hp] at hK
        obtain ⟨_, hT, _, _, hEt⟩ := yKnR_p h2 hp.1
        obtain ⟨_, _, _, hne'⟩ := yTf_rows hN hM hEt
        refine w9_trace hB hM hN hfr hto hEt (fun _ => hT) (fun z => absurd rfl z) _ _ _ _ _ _ _ _ _ _ _ _ _ _ _ _ _ _ _ _ _ _ rfl (fun fo' st' en' a1 a2 => ?_)
        obtain ⟨w, hw, hwe⟩ : ∃ w, w < 2 ∧ p1 = Int32.ofNat w := by
          rcases h01 with q | q
          · exact ⟨0, by omega, q⟩
          · exact ⟨1, by omega, q⟩
        subst hwe
        rw [yn_2, yn_add, yn_nat (by omega)]
        rw [yn_nat (by omega)] at hK
        refine ⟨yn_in (by omega) (by omega), ?_⟩
        have hl : yLv M al (2*k+w) = true := yLv_iff.2 ⟨by omega, by rw [show (2*k+w)/2 = k by omega]; exact hak⟩
        have hne := hne' _ hl
        have hval : fo' (2*k+w) = Int32.ofNat ((yTf N M F T al).2.2.2 (2*k+w) - 1) := by
          have := a1 (2*k+w) (by omega)
          rw [this]; exact if_neg hne
        show K (fo' (2*k+w)) _
        rw [hval]
        exact hK _ _ _ _ _ _ _ _ _ _ _ _ _ _ _ _ _ _ _ _ _ _ _ _ _ _ _ _ _ _ _ _ _ _ _ _ _ _ _ _ _ _ _ _ _ _ _ _ _ _ ⟨hab, rfl, rfl, hfr, hto, hB, hrr, fun _ => h2⟩
      · rw [yIf_neg hp] at hK
        exact hK _ _ _ _ _ _ _ _ _ _ _ _ _ _ _ _ _ _ _ _ _ _ _ _ _ _ _ _ _ _ _ _ _ _ _ _ _ _ _ _ _ _ _ _ _ _ _ _ _ _ ⟨hab, rfl, rfl, hfr, hto, hB, hrr, fun _ => h2⟩
    · rw [yIf_neg (by rintro (q | q) <;> subst q <;> revert hq1 <;> decide)] at hK
      exact hK _ _ _ _ _ _ _ _ _ _ _ _ _ _ _ _ _ _ _ _ _ _ _ _ _ _ _ _ _ _ _ _ _ _ _ _ _ _ _ _ _ _ _ _ _ _ _ _ _ _ ⟨hab, rfl, rfl, hfr, hto, hB, hrr, hk⟩
  · rw [yIf_neg hno] at hK
    exact hK _ _ _ _ _ _ _ _ _ _ _ _ _ _ _ _ _ _ _ _ _ _ _ _ _ _ _ _ _ _ _ _ _ _ _ _ _ _ _ _ _ _ _ _ _ _ _ _ _ _ ⟨hab, rfl, rfl, hfr, hto, hB, hrr, hk⟩

theorem r_crossing (h : yRS N M F T al rs rw' t86 t87 t102 t95 t41 t42 t53 t75 t64 t61 t62 t55 t56 t58 t57 t59 t60) (K : Int32 → (Int32 × Int32 × Int32 × Int32 × Int32 × Int32 × Int32 × Int32 × Int32 × Int32 × Int32 × Int32 × Int32 × Int32 × Int32 × (Nat → Int32) × (Nat → Int32) × (Nat → Int32) × (Nat → Int32) × (Nat → Int32) × (Nat → Int32) × (Nat → Int32) × (Nat → Int32) × (Nat → Int32) × (Nat → Int32) × (Nat → Int32) × (Nat → Int32) × (Nat → Int32) × (Nat → Int32) × (Nat → Int32) × (Nat → Int32) × (Nat → Int32) × (Nat → Int32) × (Nat → Int32) × (Nat → Int32) × (Nat → Int32) × (Nat → Int32) × (Nat → Int32) × (Nat → Int32) × (Nat → Int32) × (Nat → Int32) × (Nat → Int32) × (Nat → Int32) × (Nat → Int32) × (Nat → Int32) × (Nat → Int32)) → Prop)
    (hK : ∀ (n102 : Int32) (n103 : Int32) (n88 : Int32) (n89 : Int32) (n90 : Int32) (n91 : Int32) (n92 : Int32) (n93 : Int32) (n94 : Int32) (n95 : Int32) (n96 : Int32) (n97 : Int32) (n98 : Int32) (n99 : Int32) (n100 : Int32) (n76 : Nat → Int32) (n61 : Nat → Int32) (n77 : Nat → Int32) (n78 : Nat → Int32) (n79 : Nat → Int32) (n80 : Nat → Int32) (n49 : Nat → Int32) (n48 : Nat → Int32) (n47 : Nat → Int32) (n43 : Nat → Int32) (n46 : Nat → Int32) (n44 : Nat → Int32) (n45 : Nat → Int32) (n50 : Nat → Int32) (n62 : Nat → Int32) (n52 : Nat → Int32) (n51 : Nat → Int32) (n54 : Nat → Int32) (n55 : Nat → Int32) (n56 : Nat → Int32) (n58 : Nat → Int32) (n57 : Nat → Int32) (n67 : Nat → Int32) (n63 : Nat → Int32) (n65 : Nat → Int32) (n68 : Nat → Int32) (n66 : Nat → Int32) (n59 : Nat → Int32) (n60 : Nat → Int32) (n69 : Nat → Int32) (n70 : Nat → Int32), yRS N M F T al rs rw' t86 t87 n102 n95 t41 t42 t53 t75 t64 n61 n62 n55 n56 n58 n57 n59 n60 → K (yACross N M F T al) (n102, n103, n88, n89, n90, n91, n92, n93, n94, n95, n96, n97, n98, n99, n100, n76, n61, n77, n78, n79, n80, n49, n48, n47, n43, n46, n44, n45, n50, n62, n52, n51, n54, n55, n56, n58, n57, n67, n63, n65, n68, n66, n59, n60, n69, n70))
    : wX9_crossing t86 t87 t102 t103 t88 t89 t90 t91 t92 t93 t94 t95 t96 t97 t98 t99 t100 t101 t76 t53 t41 t42 t61 t77 t78 t79 t80 t49 t48 t47 t43 t46 t44 t45 t50 t62 t52 t51 t54 t55 t56 t58 t57 t67 t63 t65 t68 t66 t59 t60 t69 t70 K := by
  obtain ⟨hab, e86, e87, hfr, hto, hB, hrr, hk⟩ := h
  subst e86 e87
  have hN := hab.1
  have hM := hab.2.1
  have hF := hab.2.2.1
  have hE := hab.2.2.2
  unfold wX9_crossing
  unfold yACross at hK
  refine w9_isPlaneNow hN hM hF hfr hto hB _ _ _ _ _ _ _ _ _ _ _ _ _ _ _ _ _ _ _ _ _ _ _ _ _ _ _ _ _ _ _ _ _ _ _ _ _ _ _ _ _ _ _ _ _ _ _ hk _ (fun hp u h1 h2 => ⟨fun _ => ?_, fun z => absurd z (by decide)⟩) (fun hp u h1 h2 => ⟨fun z => absurd rfl z, fun _ => ?_⟩)
  · rw [yIf_pos hp] at hK
    have hpl := (yKnR_p h2 hp).2.2.1
    refine w9_cross12 hN hM hF hfr hto hB _ _ _ _ (X := fun v => (yPos N (yGf N (yGk M F T al)) v).1) (Y := fun v => (yPos N (yGf N (yGk M F T al)) v).2) (fun v hv => ⟨(hpl v hv).1.1, (hpl v hv).1.2, (hpl v hv).2.1, (hpl v hv).2.2⟩) (fun c => ?_) (fun c => ?_)
    · rw [yIf_pos c] at hK
      exact hK _ _ _ _ _ _ _ _ _ _ _ _ _ _ _ _ _ _ _ _ _ _ _ _ _ _ _ _ _ _ _ _ _ _ _ _ _ _ _ _ _ _ _ _ _ _ ⟨hab, rfl, rfl, hfr, hto, hB, hrr, fun _ => h2⟩
    · rw [yIf_neg c] at hK
      exact hK _ _ _ _ _ _ _ _ _ _ _ _ _ _ _ _ _ _ _ _ _ _ _ _ _ _ _ _ _ _ _ _ _ _ _ _ _ _ _ _ _ _ _ _ _ _ ⟨hab, rfl, rfl, hfr, hto, hB, hrr, fun _ => h2⟩
  · rw [yIf_neg hp] at hK
    exact hK _ _ _ _ _ _ _ _ _ _ _ _ _ _ _ _ _ _ _ _ _ _ _ _ _ _ _ _ _ _ _ _ _ _ _ _ _ _ _ _ _ _ _ _ _ _ ⟨hab, rfl, rfl, hfr, hto, hB, hrr, fun _ => h2⟩

theorem r_strand (h : yRS N M F T al rs rw' t86 t87 t102 t95 t41 t42 t53 t75 t64 t61 t62 t55 t56 t58 t57 t59 t60) (p0 : Int32) (K : Int32 → (Int32 × Int32 × Int32 × Int32 × Int32 × Int32 × Int32 × Int32 × Int32 × Int32 × Int32 × Int32 × Int32 × Int32 × Int32 × (Nat → Int32) × (Nat → Int32) × (Nat → Int32) × (Nat → Int32) × (Nat → Int32) × (Nat → Int32) × (Nat → Int32) × (Nat → Int32) × (Nat → Int32) × (Nat → Int32) × (Nat → Int32) × (Nat → Int32) × (Nat → Int32) × (Nat → Int32) × (Nat → Int32) × (Nat → Int32) × (Nat → Int32) × (Nat → Int32) × (Nat → Int32) × (Nat → Int32) × (Nat → Int32) × (Nat → Int32) × (Nat → Int32) × (Nat → Int32) × (Nat → Int32) × (Nat → Int32) × (Nat → Int32) × (Nat → Int32) × (Nat → Int32) × (Nat → Int32) × (Nat → Int32)) → Prop)
    (hK : ∀ (n102 : Int32) (n103 : Int32) (n88 : Int32) (n89 : Int32) (n90 : Int32) (n91 : Int32) (n92 : Int32) (n93 : Int32) (n94 : Int32) (n95 : Int32) (n96 : Int32) (n97 : Int32) (n98 : Int32) (n99 : Int32) (n100 : Int32) (n76 : Nat → Int32) (n61 : Nat → Int32) (n77 : Nat → Int32) (n78 : Nat → Int32) (n79 : Nat → Int32) (n80 : Nat → Int32) (n49 : Nat → Int32) (n48 : Nat → Int32) (n47 : Nat → Int32) (n43 : Nat → Int32) (n46 : Nat → Int32) (n44 : Nat → Int32) (n45 : Nat → Int32) (n50 : Nat → Int32) (n62 : Nat → Int32) (n52 : Nat → Int32) (n51 : Nat → Int32) (n54 : Nat → Int32) (n55 : Nat → Int32) (n56 : Nat → Int32) (n58 : Nat → Int32) (n57 : Nat → Int32) (n67 : Nat → Int32) (n63 : Nat → Int32) (n65 : Nat → Int32) (n68 : Nat → Int32) (n66 : Nat → Int32) (n59 : Nat → Int32) (n60 : Nat → Int32) (n69 : Nat → Int32) (n70 : Nat → Int32), yRS N M F T al rs rw' t86 t87 n102 n95 t41 t42 t53 t75 t64 n61 n62 n55 n56 n58 n57 n59 n60 → K (yAStrand N M F T al p0) (n102, n103, n88, n89, n90, n91, n92, n93, n94, n95, n96, n97, n98, n99, n100, n76, n61, n77, n78, n79, n80, n49, n48, n47, n43, n46, n44, n45, n50, n62, n52, n51, n54, n55, n56, n58, n57, n67, n63, n65, n68, n66, n59, n60, n69, n70))
    : wX9_strand t86 t87 t102 t103 t88 t89 t90 t91 t92 t93 t94 t95 t96 t97 t98 t99 t100 t101 t53 t76 t41 t42 t61 t77 t78 t79 t80 t49 t48 t47 t43 t46 t44 t45 t50 t62 t52 t51 t54 t55 t56 t58 t57 t67 t63 t65 t68 t66 t59 t60 t69 t70 p0 K := by
  obtain ⟨hab, e86, e87, hfr, hto, hB, hrr, hk⟩ := h
  subst e86 e87
  have hN := hab.1
  have hM := hab.2.1
  have hF := hab.2.2.1
  have hE := hab.2.2.2
  unfold wX9_strand
  unfold yAStrand at hK
  refine w9_isArc hM hB _ _ _ _ _ _ _ _ _ _ _ _ _ _ _ _ _ _ _ (fun k hk1 hak ek => ⟨fun _ => ?_, fun z => absurd z (by decide)⟩) (fun hno => ⟨fun z => absurd rfl z, fun _ => ?_⟩)
  · subst ek
    rw [yIf_pos ⟨k, hk1, hak, rfl⟩, yn_nat (by omega)] at hK
    refine w9_isPlaneNow hN hM hF hfr hto hB _ _ _ _ _ _ _ _ _ _ _ _ _ _ _ _ _ _ _ _ _ _ _ _ _ _ _ _ _ _ _ _ _ _ _ _ _ _ _ _ _ _ _ _ _ _ _ hk _ (fun hp u h1 h2 => ⟨fun _ => ?_, fun z => absurd z (by decide)⟩) (fun hp u h1 h2 => ⟨fun z => absurd rfl z, fun _ => ?_⟩)
    · rw [yIf_pos hp] at hK
      exact hK _ _ _ _ _ _ _ _ _ _ _ _ _ _ _ _ _ _ _ _ _ _ _ _ _ _ _ _ _ _ _ _ _ _ _ _ _ _ _ _ _ _ _ _ _ _ ⟨hab, rfl, rfl, hfr, hto, hB, hrr, fun _ => h2⟩
    · rw [yIf_neg hp] at hK
      obtain ⟨hkp, hec⟩ := yKnR_n h2 hp
      rw [yn_nat (by omega)]
      refine ⟨yn_in (by omega) (by omega), fun hnz => ⟨yn_in (by omega) (by omega), ?_⟩, fun hz => ?_⟩
      · have hck : yKp N M F T M al k = true := by
          cases w : yKp N M F T M al k with
          | true => rfl
          | false => exact absurd ((yBo_iff hkp hk1).2 w) hnz
        rw [yIf_pos hck] at hK
        have hbp := yPc_bp hN hM hF hp
        have l1 : yLv M (yKp N M F T M al) (2*k) = true := yLv_iff.2 ⟨by omega, by rw [show 2*k/2 = k by omega]; exact hck⟩
        have l2 : yLv M (yKp N M F T M al) (2*k+1) = true := yLv_iff.2 ⟨by omega, by rw [show (2*k+1)/2 = k by omega]; exact hck⟩
        obtain ⟨s1, a1, a2, a3, a4, a5⟩ := yBrn_spec hbp l1
        obtain ⟨s2, b1, b2, b3, b4, b5⟩ := yBrn_spec hbp l2
        have w1 : ∀ {e : Nat} (k' x : Int32), e / 2 = k → k' = Int32.ofNat (e/2) → x = Int32.ofNat (yNd F T e) → ∀ (j0 j1 j2 j3 j4 j5 j6 j7 j8 j9 j10 j11 j12 j13 j14 j15 j16 j17 : Int32) (pe ip frm too : Nat → Int32) (K : Int32 → Unit → Prop), wX9_branchBehind j0 j1 j2 j3 j4 j5 j6 j7 j8 j9 j10 j11 j12 j13 j14 j15 j16 j17 pe ip frm too (Int32.ofNat (e/2)) (Int32.ofNat (yNd F T e)) K → wX9_branchBehind j0 j1 j2 j3 j4 j5 j6 j7 j8 j9 j10 j11 j12 j13 j14 j15 j16 j17 pe ip frm too k' x K := by
          intro e k' x _ q1 q2; subst q1 q2; intros; assumption
        have n1 : t41 k = Int32.ofNat (yNd F T (2*k)) := by rw [hfr k hk1]; unfold yNd; rw [if_pos (by omega), show 2*k/2 = k by omega]
        have n2 : t42 k = Int32.ofNat (yNd F T (2*k+1)) := by rw [hto k hk1]; unfold yNd; rw [if_neg (by omega), show (2*k+1)/2 = k by omega]
        refine w1 (e := 2*k) _ _ (by omega) (by rw [show 2*k/2 = k by omega]) n1 _ _ _ _ _ _ _ _ _ _ _ _ _ _ _ _ _ _ _ _ _ _ _ (w9_branchBehind hbp hkp hfr hto hec l1 a2 a3 _ _ _ _ _ _ _ _ _ _ _ _ _ _ _ _ _ _ _ ⟨yn_in (by omega) (by omega), ?_⟩)
        refine w1 (e := 2*k+1) _ _ (by omega) (by rw [show (2*k+1)/2 = k by omega]) n2 _ _ _ _ _ _ _ _ _ _ _ _ _ _ _ _ _ _ _ _ _ _ _ (w9_branchBehind hbp hkp hfr hto hec l2 b2 b3 _ _ _ _ _ _ _ _ _ _ _ _ _ _ _ _ _ _ _ ?_)
        rw [← a4, ← b4]
        have e32 : (32 : Int32) = Int32.ofNat 32 := rfl
        rw [e32, yn_le (by omega) (by omega), yn_mul, yn_add, yn_mul, yn_add]
        refine ⟨fun q => ?_, fun q => ?_⟩
        · rw [Nat.min_eq_right q, Nat.max_eq_left q] at hK
          exact hK _ _ _ _ _ _ _ _ _ _ _ _ _ _ _ _ _ _ _ _ _ _ _ _ _ _ _ _ _ _ _ _ _ _ _ _ _ _ _ _ _ _ _ _ _ _ ⟨hab, rfl, rfl, hfr, hto, hB, hrr, fun _ => h2⟩
        · rw [Nat.min_eq_left (by omega), Nat.max_eq_right (by omega)] at hK
          exact hK _ _ _ _ _ _ _ _ _ _ _ _ _ _ _ _ _ _ _ _ _ _ _ _ _ _ _ _ _ _ _ _ _ _ _ _ _ _ _ _ _ _ _ _ _ _ ⟨hab, rfl, rfl, hfr, hto, hB, hrr, fun _ => h2⟩
      · have hck := (yBo_iff hkp hk1).1 hz
        rw [yIf_neg (by rw [hck]; simp)] at hK
        exact hK _ _ _ _ _ _ _ _ _ _ _ _ _ _ _ _ _ _ _ _ _ _ _ _ _ _ _ _ _ _ _ _ _ _ _ _ _ _ _ _ _ _ _ _ _ _ ⟨hab, rfl, rfl, hfr, hto, hB, hrr, fun _ => h2⟩
  · rw [yIf_neg hno] at hK
    exact hK _ _ _ _ _ _ _ _ _ _ _ _ _ _ _ _ _ _ _ _ _ _ _ _ _ _ _ _ _ _ _ _ _ _ _ _ _ _ _ _ _ _ _ _ _ _ ⟨hab, rfl, rfl, hfr, hto, hB, hrr, hk⟩

theorem r_toldFaces (h : yRS N M F T al rs rw' t86 t87 t102 t95 t41 t42 t53 t75 t64 t61 t62 t55 t56 t58 t57 t59 t60) (K : Int32 → (Int32 × (Nat → Int32) × (Nat → Int32) × (Nat → Int32)) → Prop)
    (hK : ∀ (n101 : Int32) (n73 : Nat → Int32) (n72 : Nat → Int32) (n71 : Nat → Int32), yRS N M F T al rs rw' t86 t87 t102 t95 t41 t42 t53 t75 t64 t61 t62 t55 t56 t58 t57 t59 t60 → K (yATf N M al rs rw') (n101, n73, n72, n71))
    : wX9_toldFaces t86 t87 t102 t103 t88 t89 t90 t91 t92 t93 t94 t95 t96 t97 t98 t99 t100 t101 t73 t72 t53 t71 t42 t41 t75 t64 t57 t58 K := by
  obtain ⟨hab, e86, e87, hfr, hto, hB, hrr, hk⟩ := h
  subst e86 e87
  have hN := hab.1
  have hM := hab.2.1
  have hF := hab.2.2.1
  have hE := hab.2.2.2
  unfold wX9_toldFaces
  unfold yATf at hK
  refine w9_trace hB hM hN hfr hto hE (fun z => absurd z (by decide)) (fun _ => hrr) _ _ _ _ _ _ _ _ _ _ _ _ _ _ _ _ _ _ _ _ _ _ rfl (fun fo' st' en' a1 a2 => ?_)
  refine w9_bare (rs := rs) hN (fun v hv => ⟨hrr.1 v hv, hrr.2.2.1 v hv⟩) _ _ _ _ _ _ _ _ _ _ _ _ _ _ _ _ _ _ ?_
  rw [yn_add]
  exact hK _ _ _ _ ⟨hab, rfl, rfl, hfr, hto, hB, hrr, hk⟩

theorem r_genus (h : yRS N M F T al rs rw' t86 t87 t102 t95 t41 t42 t53 t75 t64 t61 t62 t55 t56 t58 t57 t59 t60) (K : Int32 → (Int32 × Int32 × (Nat → Int32) × (Nat → Int32) × (Nat → Int32) × (Nat → Int32)) → Prop)
    (hK : ∀ (n103 : Int32) (n101 : Int32) (n73 : Nat → Int32) (n72 : Nat → Int32) (n71 : Nat → Int32) (n76 : Nat → Int32), yRS N M F T al rs rw' t86 t87 t102 t95 t41 t42 t53 t75 t64 t61 t62 t55 t56 t58 t57 t59 t60 → K (yAGenus N M F T al rs rw') (n103, n101, n73, n72, n71, n76))
    : wX9_genus t86 t87 t102 t103 t88 t89 t90 t91 t92 t93 t94 t95 t96 t97 t98 t99 t100 t101 t73 t72 t53 t71 t42 t41 t75 t64 t57 t58 t76 t61 K := by
  obtain ⟨hab, e86, e87, hfr, hto, hB, hrr, hk⟩ := h
  subst e86 e87
  have hN := hab.1
  have hM := hab.2.1
  have hF := hab.2.2.1
  have hE := hab.2.2.2
  unfold wX9_genus
  unfold yAGenus yATf at hK
  refine w9_trace hB hM hN hfr hto hE (fun z => absurd z (by decide)) (fun _ => hrr) _ _ _ _ _ _ _ _ _ _ _ _ _ _ _ _ _ _ _ _ _ _ rfl (fun fo' st' en' a1 a2 => ?_)
  refine w9_parts hN hM hF hfr hto hB _ _ _ _ _ _ _ _ _ _ _ _ _ _ _ _ _ _ _ (fun u7 => ?_)
  refine w9_arcs hM hB _ _ _ _ _ _ _ _ _ _ _ _ _ _ _ _ _ _ ?_
  refine w9_bare (rs := rs) hN (fun v hv => ⟨hrr.1 v hv, hrr.2.2.1 v hv⟩) _ _ _ _ _ _ _ _ _ _ _ _ _ _ _ _ _ _ ?_
  rw [yn_add]
  exact hK _ _ _ _ _ _ ⟨hab, rfl, rfl, hfr, hto, hB, hrr, hk⟩

theorem r_dualBack (h : yRS N M F T al rs rw' t86 t87 t102 t95 t41 t42 t53 t75 t64 t61 t62 t55 t56 t58 t57 t59 t60) (K : Int32 → (Int32 × Int32 × Int32 × Int32 × Int32 × Int32 × Int32 × Int32 × Int32 × Int32 × Int32 × Int32 × Int32 × Int32 × Int32 × Int32 × (Nat → Int32) × (Nat → Int32) × (Nat → Int32) × (Nat → Int32) × (Nat → Int32) × (Nat → Int32) × (Nat → Int32) × (Nat → Int32) × (Nat → Int32) × (Nat → Int32) × (Nat → Int32) × (Nat → Int32) × (Nat → Int32) × (Nat → Int32) × (Nat → Int32) × (Nat → Int32) × (Nat → Int32) × (Nat → Int32) × (Nat → Int32) × (Nat → Int32) × (Nat → Int32) × (Nat → Int32) × (Nat → Int32) × (Nat → Int32) × (Nat → Int32) × (Nat → Int32) × (Nat → Int32) × (Nat → Int32) × (Nat → Int32) × (Nat → Int32) × (Nat → Int32) × (Nat → Int32) × (Nat → Int32) × (Nat → Int32) × (Nat → Int32)) → Prop)
    (hK : ∀ (n102 : Int32) (n103 : Int32) (n88 : Int32) (n89 : Int32) (n90 : Int32) (n91 : Int32) (n92 : Int32) (n93 : Int32) (n94 : Int32) (n95 : Int32) (n96 : Int32) (n97 : Int32) (n98 : Int32) (n99 : Int32) (n100 : Int32) (n101 : Int32) (n76 : Nat → Int32) (n61 : Nat → Int32) (n77 : Nat → Int32) (n78 : Nat → Int32) (n79 : Nat → Int32) (n80 : Nat → Int32) (n49 : Nat → Int32) (n48 : Nat → Int32) (n47 : Nat → Int32) (n43 : Nat → Int32) (n46 : Nat → Int32) (n44 : Nat → Int32) (n45 : Nat → Int32) (n50 : Nat → Int32) (n62 : Nat → Int32) (n52 : Nat → Int32) (n51 : Nat → Int32) (n54 : Nat → Int32) (n55 : Nat → Int32) (n56 : Nat → Int32) (n58 : Nat → Int32) (n57 : Nat → Int32) (n67 : Nat → Int32) (n63 : Nat → Int32) (n65 : Nat → Int32) (n68 : Nat → Int32) (n66 : Nat → Int32) (n59 : Nat → Int32) (n60 : Nat → Int32) (n69 : Nat → Int32) (n70 : Nat → Int32) (n73 : Nat → Int32) (n72 : Nat → Int32) (n71 : Nat → Int32) (n74 : Nat → Int32), yRS N M F T al rs rw' t86 t87 n102 n95 t41 t42 t53 t75 t64 n61 n62 n55 n56 n58 n57 n59 n60 → K (yADb N M F T al rs) (n102, n103, n88, n89, n90, n91, n92, n93, n94, n95, n96, n97, n98, n99, n100, n101, n76, n61, n77, n78, n79, n80, n49, n48, n47, n43, n46, n44, n45, n50, n62, n52, n51, n54, n55, n56, n58, n57, n67, n63, n65, n68, n66, n59, n60, n69, n70, n73, n72, n71, n74))
    : wX9_dualBack t86 t87 t102 t103 t88 t89 t90 t91 t92 t93 t94 t95 t96 t97 t98 t99 t100 t101 t76 t53 t41 t42 t61 t77 t78 t79 t80 t49 t48 t47 t43 t46 t44 t45 t50 t62 t52 t51 t54 t55 t56 t58 t57 t67 t63 t65 t68 t66 t59 t60 t69 t70 t73 t72 t71 t75 t64 t74 K := by
  obtain ⟨hab, e86, e87, hfr, hto, hB, hrr, hk⟩ := h
  subst e86 e87
  have hN := hab.1
  have hM := hab.2.1
  have hF := hab.2.2.1
  have hE := hab.2.2.2
  unfold wX9_dualBack
  unfold yADb yTf2 at hK
  refine w9_hasDual hN hM hF hfr hto hB _ _ _ _ _ _ _ _ _ _ _ _ _ _ _ _ _ _ _ _ _ _ _ _ _ _ _ _ _ _ _ _ _ _ _ _ _ _ _ _ _ _ _ _ _ _ _ hk _ (fun hp u h1 h2 => ⟨fun _ => ?_, fun z => absurd z (by decide)⟩) (fun hp u h1 h2 => ⟨fun z => absurd rfl z, fun _ => ?_⟩)
  · rw [yIf_pos hp] at hK
    obtain ⟨_, hT, _, _, hEt⟩ := yKnR_p h2 hp.1
    obtain ⟨hE2, hR, hr1, hne⟩ := yTf_rows hN hM hEt
    refine w9_trace hB hM hN hfr hto hEt (fun _ => hT) (fun z => absurd rfl z) _ _ _ _ _ _ _ _ _ _ _ _ _ _ _ _ _ _ _ _ _ _ rfl (fun fo' st' en' a1 a2 => ?_)
    refine w9_dual17 (rs := rs) (R := (yTf N M F T al).1) (fs := (yTf N M F T al).2.1) (fe := (yTf N M F T al).2.2.1) (fo := (yTf N M F T al).2.2.2) hN hM hF hB hfr hto (fun v hv => ⟨hrr.1 v hv, hrr.2.2.1 v hv⟩) _ (Int32.ofNat (yTf N M F T al).1, fo', st', en') _ a2 hR hE2 a1 hne _ (fun c sn => ?_) (fun c sn => ?_)
    · rw [yIf_pos (show _ from c)] at hK
      exact hK _ _ _ _ _ _ _ _ _ _ _ _ _ _ _ _ _ _ _ _ _ _ _ _ _ _ _ _ _ _ _ _ _ _ _ _ _ _ _ _ _ _ _ _ _ _ _ _ _ _ _ ⟨hab, rfl, rfl, hfr, hto, hB, hrr, fun _ => h2⟩
    · rw [yIf_neg (show _ from c)] at hK
      exact hK _ _ _ _ _ _ _ _ _ _ _ _ _ _ _ _ _ _ _ _ _ _ _ _ _ _ _ _ _ _ _ _ _ _ _ _ _ _ _ _ _ _ _ _ _ _ _ _ _ _ _ ⟨hab, rfl, rfl, hfr, hto, hB, hrr, fun _ => h2⟩
  · rw [yIf_neg hp] at hK
    exact hK _ _ _ _ _ _ _ _ _ _ _ _ _ _ _ _ _ _ _ _ _ _ _ _ _ _ _ _ _ _ _ _ _ _ _ _ _ _ _ _ _ _ _ _ _ _ _ _ _ _ _ ⟨hab, rfl, rfl, hfr, hto, hB, hrr, fun _ => h2⟩

end


section
variable {N M : Nat} {F T : Nat → Nat} {al : Nat → Bool} {rs : Nat → Nat} {rw' : Nat → Nat → Nat}
variable {t0 t1 t2 t7 t10 t11 t12 t13 t14 t15 t16 t17 t18 t19 t20 t21 t22 t23 t24 t25 t26 t27 t28 t29 t30 t31 t32 t33 t34 t35 t36 t37 t38 t39 t40 t41 t42 t43 t44 t45 t46 t47 t48 t49 t50 t51 t52 t53 t54 t55 t56 t57 t58 t59 t60 t61 t62 t63 t64 t65 t66 t67 t68 t69 t70 t71 t72 t73 t74 t75 t76 t77 t78 t79 t80 : Nat → Int32} {t3 t4 t5 t6 t8 t9 : Nat → Int64} {t81 t82 t83 t84 t85 t86 t87 t88 t89 t90 t91 t92 t93 t94 t95 t96 t97 t98 t99 t100 t101 t102 t103 t104 t105 t106 t107 t108 t109 t110 t111 t112 t113 t114 t115 t116 t117 : Int32}

theorem r_outer (h : yRS N M F T al rs rw' t86 t87 t102 t95 t41 t42 t53 t75 t64 t61 t62 t55 t56 t58 t57 t59 t60) (K : Int32 → (Int32 × Int32 × Int32 × Int32 × Int32 × Int32 × Int32 × Int32 × (Nat → Int32) × (Nat → Int32) × (Nat → Int32) × (Nat → Int32) × (Nat → Int32) × (Nat → Int32) × (Nat → Int32) × (Nat → Int32) × (Nat → Int32) × (Nat → Int32) × (Nat → Int32) × (Nat → Int32) × (Nat → Int32)) → Prop)
    (hK : ∀ (n103 : Int32) (n88 : Int32) (n89 : Int32) (n90 : Int32) (n91 : Int32) (n92 : Int32) (n93 : Int32) (n94 : Int32) (n76 : Nat → Int32) (n77 : Nat → Int32) (n78 : Nat → Int32) (n79 : Nat → Int32) (n80 : Nat → Int32) (n49 : Nat → Int32) (n48 : Nat → Int32) (n47 : Nat → Int32) (n43 : Nat → Int32) (n46 : Nat → Int32) (n44 : Nat → Int32) (n45 : Nat → Int32) (n50 : Nat → Int32), yRS N M F T al rs rw' t86 t87 t102 t95 t41 t42 t53 t75 t64 t61 t62 t55 t56 t58 t57 t59 t60 → K (yAOuter N M F T al) (n103, n88, n89, n90, n91, n92, n93, n94, n76, n77, n78, n79, n80, n49, n48, n47, n43, n46, n44, n45, n50))
    : wX9_outer t86 t87 t102 t103 t88 t89 t90 t91 t92 t93 t94 t95 t96 t97 t98 t99 t100 t101 t76 t53 t41 t42 t61 t77 t78 t79 t80 t49 t48 t47 t43 t46 t44 t45 t50 K := by
  obtain ⟨hab, e86, e87, hfr, hto, hB, hrr, hk⟩ := h
  subst e86 e87
  have hN := hab.1
  have hM := hab.2.1
  have hF := hab.2.2.1
  have hE := hab.2.2.2
  unfold wX9_outer
  unfold yAOuter at hK
  have hsg := yGk_sg (c := al) hF
  have e1 : Int32.ofNat N + 1 = Int32.ofNat (N+1) := yn_add N 1
  refine w9_takeSimple (c := al) (ip := al) hM hN hF hfr hto hB 0 (-1) (fun hh => absurd rfl hh) (fun k hk => ?_) _ _ _ _ _ _ _ _ _ _ _ _ _ _ _ _ _ _ (fun t0 ht => ?_)
  · have : (¬ Int32.ofNat k = -1) := by
      intro q
      have := yn_neg (n := k) (by omega)
      rw [q] at this; exact this yn_m1
    rw [decide_eq_true this]; simp
  have hj0 : ∀ u w, u < 21 → yM (t0 u) w = yGk M F T al u w := fun u w hu => by rw [← ht]; unfold yGm; rw [decide_eq_true hu, Bool.true_and]
  suffices key : ∀ d v t, N - v = d → v ≤ N → (∀ u w, u < 21 → w < 32 → yM (t u) w = (yGk M F T al u w || decide ((u < v ∧ w = N) ∨ (u = N ∧ w < v)))) → wLX9_outer_8 (Int32.ofNat N) (Int32.ofNat M) t102 t88 t89 t90 t91 t92 t93 t94 t95 t96 t97 t98 t99 t100 t101 t77 t78 t79 t80 t49 t48 t47 t43 t46 t44 t45 t50 K (d+1) t (Int32.ofNat v) from
    ⟨_, key (N-0) 0 t0 rfl (by omega) (fun u w hu hw => by rw [hj0 u w hu, decide_eq_false (by omega), Bool.or_false])⟩
  intro d
  induction d with
  | zero =>
    intro v t hd' hv h1
    have : v = N := by omega
    subst this
    have hgm : yGm (v+1) t = yHub v (yGk M F T al) := by
      funext a b
      unfold yGm
      by_cases ha : a < v + 1
      · rw [decide_eq_true ha, Bool.true_and]
        by_cases hb : b < 32
        · rw [h1 a b (by omega) hb]; rfl
        · rw [yM_big _ _ (by omega)]
          symm
          cases q : yHub v (yGk M F T al) a b with
          | false => rfl
          | true => have := ((yHub_sg hsg).1 a b q).2.1; omega
      · rw [decide_eq_false ha, Bool.false_and]
        symm
        cases q : yHub v (yGk M F T al) a b with
        | false => rfl
        | true => have := ((yHub_sg hsg).1 a b q).1; omega
    have hsh := yHub_sg hsg
    unfold wLX9_outer_8
    refine ⟨fun _ => ?_, fun hh => ?_⟩
    · intro v59 h59
      rw [h59, e1]
      refine w9_isPlane (n := v+1) (by omega) t (by rw [hgm]; exact hsh.1) (by rw [hgm]; exact hsh.2) _ _ _ _ _ _ _ _ _ _ _ _ _ _ _ _ _ _ _ _ _ _ _ _ _ _ _ _ _ _ (fun q u _ => ⟨fun z => absurd z (by decide), fun _ => ?_⟩) (fun q u => ⟨fun _ => ?_, fun z => absurd rfl z⟩)
      · rw [hgm] at q
        rw [yIf_pos q] at hK
        exact hK _ _ _ _ _ _ _ _ _ _ _ _ _ _ _ _ _ _ _ _ _ ⟨hab, rfl, rfl, hfr, hto, hB, hrr, hk⟩
      · rw [hgm] at q
        rw [yIf_neg q] at hK
        exact hK _ _ _ _ _ _ _ _ _ _ _ _ _ _ _ _ _ _ _ _ _ ⟨hab, rfl, rfl, hfr, hto, hB, hrr, hk⟩
    · exfalso; apply hh; rw [yn_le (by omega) (by omega)]; omega
  | succ d ih =>
    intro v t hd' hv h1
    have ev : Int32.ofNat v + 1 = Int32.ofNat (v+1) := yn_add v 1
    unfold wLX9_outer_8
    rw [ev, yn_nat (by omega), yn_nat (by omega)]
    refine ⟨fun hh => ?_, fun _ => ⟨yn_in (by omega) (by omega), yn_in (by omega) (by omega), fun g hg' => ⟨yn_in (by omega) (by omega), yn_in (by omega) (by omega), fun g2 hg2 => ih (v+1) g2 (by omega) (by omega) (fun u w hu' hw => ?_)⟩⟩⟩
    · exfalso; rw [yn_le (by omega) (by omega)] at hh; omega
    · rw [hg2, hg']
      by_cases c : u = N
      · rw [c, yupd_same, yM_or, yupd_ne _ _ _ _ (by omega), yM_shl (by omega) w hw, h1 N w (by omega) hw, Bool.or_assoc]
        congr 1
        rw [Bool.eq_iff_iff, Bool.or_eq_true, decide_eq_true_eq, decide_eq_true_eq, decide_eq_true_eq]; omega
      · rw [yupd_ne _ _ _ _ c]
        by_cases c2 : u = v
        · rw [c2, yupd_same, yM_or, yM_shl (by omega) w hw, h1 v w (by omega) hw, Bool.or_assoc]
          congr 1
          rw [Bool.eq_iff_iff, Bool.or_eq_true, decide_eq_true_eq, decide_eq_true_eq, decide_eq_true_eq]; omega
        · rw [yupd_ne _ _ _ _ c2, h1 u w (by omega) hw]
          congr 1
          rw [decide_eq_decide]; omega

theorem r_node (h : yRS N M F T al rs rw' t86 t87 t102 t95 t41 t42 t53 t75 t64 t61 t62 t55 t56 t58 t57 t59 t60) (K : Int32 → (Int32 × Int32 × (Nat → Int32)) → Prop)
    (hK1 : N < 20 → ∀ (n86 : Int32) (n102 : Int32) (n75 : Nat → Int32), yRS (N+1) M F T al (fun v => if v = N then 0 else rs v) rw' n86 t87 n102 t95 t41 t42 t53 n75 t64 t61 t62 t55 t56 t58 t57 t59 t60 → K (Int32.ofNat N) (n86, n102, n75))
    (hK0 : ¬ N < 20 → ∀ (n86 : Int32) (n102 : Int32) (n75 : Nat → Int32), yRS N M F T al rs rw' n86 t87 n102 t95 t41 t42 t53 n75 t64 t61 t62 t55 t56 t58 t57 t59 t60 → K (-4) (n86, n102, n75))
    : wX9_node t86 t87 t102 t103 t88 t89 t90 t91 t92 t93 t94 t95 t96 t97 t98 t99 t100 t101 t75 K := by
  obtain ⟨hab, e86, e87, hfr, hto, hB, hrr, hk⟩ := h
  subst e86 e87
  have hN := hab.1
  have hM := hab.2.1
  have hF := hab.2.2.1
  have hE := hab.2.2.2
  unfold wX9_node
  have e20 : (20 : Int32) = Int32.ofNat 20 := rfl
  have e1 : Int32.ofNat N + 1 = Int32.ofNat (N+1) := yn_add N 1
  rw [e20, yn_inj (by omega) (by omega)]
  refine ⟨fun c => ⟨yn_in (by omega) (by omega), fun g21 h21 v29 h29 => ?_⟩, fun c => hK0 (by omega) _ _ _ ⟨hab, rfl, rfl, hfr, hto, hB, hrr, hk⟩⟩
  rw [h29, e1, yn_one]
  rw [yn_nat (by omega)] at h21
  refine hK1 (by omega) _ _ _ ⟨⟨by omega, hM, fun k hk => by have := hF k hk; omega, yEr_node hE⟩, rfl, rfl, hfr, hto, hB, ⟨fun v hv => ?_, fun v i hv hi => ?_, fun v hv => ?_, fun v i hv hi => ?_⟩, fun z => absurd rfl z⟩
  · dsimp only; rw [h21]
    by_cases q : v = N
    · rw [q, yupd_same, if_pos rfl]; rfl
    · rw [yupd_ne _ _ _ _ q, if_neg q]; exact hrr.1 v (by omega)
  · dsimp only at hi
    by_cases q : v = N
    · rw [if_pos q] at hi; omega
    · rw [if_neg q] at hi; exact hrr.2.1 v i (by omega) hi
  · dsimp only
    by_cases q : v = N
    · rw [if_pos q]; omega
    · rw [if_neg q]; exact hrr.2.2.1 v (by omega)
  · dsimp only at hi
    by_cases q : v = N
    · rw [if_pos q] at hi; omega
    · rw [if_neg q] at hi; exact hrr.2.2.2 v i (by omega) hi

theorem r_arc (h : yRS N M F T al rs rw' t86 t87 t102 t95 t41 t42 t53 t75 t64 t61 t62 t55 t56 t58 t57 t59 t60) (p0 p1 : Int32) (K : Int32 → (Int32 × Int32 × (Nat → Int32) × (Nat → Int32) × (Nat → Int32) × (Nat → Int32) × (Nat → Int32)) → Prop)
    (hK1 : ∀ a b, a < N → b < N → p0 = Int32.ofNat a → p1 = Int32.ofNat b → M < 80 → ∀ (n87 : Int32) (n102 : Int32) (n41 : Nat → Int32) (n42 : Nat → Int32) (n53 : Nat → Int32) (n75 : Nat → Int32) (n64 : Nat → Int32), yRS N (M+1) (ySet F M a) (ySet T M b) (ySet al M true) (yAp1 (yAp1 rs a) b) (yAp2 (yAp1 rs a) (yAp2 rs rw' a (2*M)) b (2*M+1)) t86 n87 n102 t95 n41 n42 n53 n75 n64 t61 t62 t55 t56 t58 t57 t59 t60 → K (Int32.ofNat M) (n87, n102, n41, n42, n53, n75, n64))
    (hK2 : yHn N p0 → yHn N p1 → ¬ M < 80 → ∀ (n87 : Int32) (n102 : Int32) (n41 : Nat → Int32) (n42 : Nat → Int32) (n53 : Nat → Int32) (n75 : Nat → Int32) (n64 : Nat → Int32), yRS N M F T al rs rw' t86 n87 n102 t95 n41 n42 n53 n75 n64 t61 t62 t55 t56 t58 t57 t59 t60 → K (-4) (n87, n102, n41, n42, n53, n75, n64))
    (hK3 : ¬ (yHn N p0 ∧ yHn N p1) → ∀ (n87 : Int32) (n102 : Int32) (n41 : Nat → Int32) (n42 : Nat → Int32) (n53 : Nat → Int32) (n75 : Nat → Int32) (n64 : Nat → Int32), yRS N M F T al rs rw' t86 n87 n102 t95 n41 n42 n53 n75 n64 t61 t62 t55 t56 t58 t57 t59 t60 → K (-1) (n87, n102, n41, n42, n53, n75, n64))
    : wX9_arc t86 t87 t102 t103 t88 t89 t90 t91 t92 t93 t94 t95 t96 t97 t98 t99 t100 t101 t41 t42 t53 t75 t64 p0 p1 K := by
  obtain ⟨hab, e86, e87, hfr, hto, hB, hrr, hk⟩ := h
  subst e86 e87
  have hN := hab.1
  have hM := hab.2.1
  have hF := hab.2.2.1
  have hE := hab.2.2.2
  unfold wX9_arc
  have e80 : (80 : Int32) = Int32.ofNat 80 := rfl
  have e1 : Int32.ofNat M + 1 = Int32.ofNat (M+1) := yn_add M 1
  refine w9_isNode (by omega) _ _ _ _ _ _ _ _ _ _ _ _ _ _ _ _ _ _ _ (fun a ha ea => ⟨fun z => absurd z (by decide), fun _ => ?_⟩) (fun hno => ⟨fun _ => hK3 (fun hh => hno hh.1) _ _ _ _ _ _ _ ⟨hab, rfl, rfl, hfr, hto, hB, hrr, hk⟩, fun z => absurd rfl z⟩)
  refine w9_isNode (by omega) _ _ _ _ _ _ _ _ _ _ _ _ _ _ _ _ _ _ _ (fun b hb eb => ⟨fun _ => ?_, fun z => absurd z (by decide)⟩) (fun hno => ⟨fun z => absurd rfl z, fun _ => hK3 (fun hh => hno hh.2) _ _ _ _ _ _ _ ⟨hab, rfl, rfl, hfr, hto, hB, hrr, hk⟩⟩)
  rw [e80, yn_inj (by omega) (by omega)]
  refine ⟨fun c => ?_, fun c => hK2 ⟨a, ha, ea⟩ ⟨b, hb, eb⟩ (by omega) _ _ _ _ _ _ _ ⟨hab, rfl, rfl, hfr, hto, hB, hrr, hk⟩⟩
  have hM' : M < 80 := by omega
  obtain ⟨E0, E1, E2⟩ := yAbs_arc hab hM' ha hb
  rw [yn_21', yn_2, yn_nat (by omega), ynar1, e1]
  refine ⟨yn_in (by omega) (by omega), fun g39 h39 => ⟨yn_in (by omega) (by omega), fun g49 h49 => ⟨yn_in (by omega) (by omega), fun g59 h59 => ?_⟩⟩⟩
  have hr1 : rs a < 160 := by
    have := yEr_sum E1 (B := 160) (fun e he' => (E1.2.2 e he').1)
    have h2 : yS N (yAp1 rs a) = yS N rs + 1 := yS_inc N a rs ha
    have h3 := yS_at rs ha
    omega
  have hr2 : yAp1 rs a b < 160 := by
    have := yEr_sum E2.2.2.2 (B := 160) (fun e he' => (E2.2.2.2.2.2 e he').1)
    have h2 : yS N (yAp1 (yAp1 rs a) b) = yS N (yAp1 rs a) + 1 := yS_inc N b (yAp1 rs a) hb
    have h3 := yS_at (yAp1 rs a) hb
    omega
  rw [ea, eb]
  refine w9_append hrr hN ha hr1 (by omega) _ _ _ _ _ _ _ _ _ _ _ _ _ _ _ _ _ _ _ (fun rz1 ro1 q1 => w9_append (rs := yAp1 rs a) (rw' := yAp2 rs rw' a (2*M)) q1 hN hb hr2 (by omega) _ _ _ _ _ _ _ _ _ _ _ _ _ _ _ _ _ _ _ (fun rz2 ro2 q2 v91 h91 => ?_))
  rw [h91, yn_one]
  refine hK1 a b ha hb ea eb hM' _ _ _ _ _ _ _ ⟨E2, rfl, rfl, fun k hk => ?_, fun k hk => ?_, fun k hk => ?_, q2, fun z => absurd rfl z⟩
  · rw [h39]; unfold ySet
    by_cases q : k = M
    · rw [q, yupd_same, if_pos rfl]; exact ea
    · rw [yupd_ne _ _ _ _ q, if_neg q]; exact hfr k (by omega)
  · rw [h49]; unfold ySet
    by_cases q : k = M
    · rw [q, yupd_same, if_pos rfl]; exact eb
    · rw [yupd_ne _ _ _ _ q, if_neg q]; exact hto k (by omega)
  · rw [h59]; unfold ySet
    by_cases q : k = M
    · rw [q, yupd_same]; simp
    · rw [yupd_ne _ _ _ _ q, if_neg q]; exact hB k (by omega)

theorem r_cut (h : yRS N M F T al rs rw' t86 t87 t102 t95 t41 t42 t53 t75 t64 t61 t62 t55 t56 t58 t57 t59 t60) (p0 : Int32) (K : Int32 → (Int32 × (Nat → Int32) × (Nat → Int32) × (Nat → Int32)) → Prop)
    (hK1 : ∀ k, k < M → al k = true → p0 = Int32.ofNat k → ∀ (n102 : Int32) (n53 : Nat → Int32) (n75 : Nat → Int32) (n64 : Nat → Int32), yRS N M F T (ySet al k false) (yRm1 (yRm1 rs (F k)) (T k)) (yRm2 (yRm1 rs (F k)) (yRm2 rs rw' (F k) (2*k)) (T k) (2*k+1)) t86 t87 n102 t95 t41 t42 n53 n75 n64 t61 t62 t55 t56 t58 t57 t59 t60 → K (Int32.ofNat (yNb M (ySet al k false))) (n102, n53, n75, n64))
    (hK0 : ¬ yHa M al p0 → ∀ (n102 : Int32) (n53 : Nat → Int32) (n75 : Nat → Int32) (n64 : Nat → Int32), yRS N M F T al rs rw' t86 t87 n102 t95 t41 t42 n53 n75 n64 t61 t62 t55 t56 t58 t57 t59 t60 → K (-1) (n102, n53, n75, n64))
    : wX9_cut t86 t87 t102 t103 t88 t89 t90 t91 t92 t93 t94 t95 t96 t97 t98 t99 t100 t101 t53 t41 t75 t64 t42 p0 K := by
  obtain ⟨hab, e86, e87, hfr, hto, hB, hrr, hk⟩ := h
  subst e86 e87
  have hN := hab.1
  have hM := hab.2.1
  have hF := hab.2.2.1
  have hE := hab.2.2.2
  unfold wX9_cut
  refine w9_isArc hM hB _ _ _ _ _ _ _ _ _ _ _ _ _ _ _ _ _ _ _ (fun k hk1 hak ek => ⟨fun _ => ?_, fun z => absurd z (by decide)⟩) (fun hno => ⟨fun z => absurd rfl z, fun _ => hK0 hno _ _ _ _ ⟨hab, rfl, rfl, hfr, hto, hB, hrr, hk⟩⟩)
  subst ek
  obtain ⟨P1, E1, P2, E2⟩ := yAbs_cut hab hk1 hak
  have hb := hF k hk1
  rw [yn_21', yn_2, yn_nat (by omega), ynar0, hfr k hk1, hto k hk1]
  refine ⟨yn_in (by omega) (by omega), fun g16 h16 => ⟨yn_in (by omega) (by omega), ?_⟩⟩
  have hB' : yBo M (ySet al k false) g16 := by
    intro j hj'
    rw [h16]
    unfold ySet
    by_cases q : j = k
    · rw [q, yupd_same]; simp
    · rw [yupd_ne _ _ _ _ q, if_neg q]; exact hB j hj'
  have r1 := w9_remove hrr hN hb.1 P1.1 (fun i a1 a2 => hE.2.1 _ _ _ hb.1 a1 P1.1 a2)
  rw [P1.2] at r1
  refine r1 _ _ _ _ _ _ _ _ _ _ _ _ _ _ _ _ _ _ _ (fun rz1 ro1 q1 => ⟨yn_in (by omega) (by omega), ?_⟩)
  have r2 := w9_remove (rs := yRm1 rs (F k)) (rw' := yRm2 rs rw' (F k) (2*k)) q1 hN hb.2 P2.1 (fun i a1 a2 => E1.2.1 _ _ _ hb.2 a1 P2.1 a2)
  rw [P2.2] at r2
  refine r2 _ _ _ _ _ _ _ _ _ _ _ _ _ _ _ _ _ _ _ (fun rz2 ro2 q2 => ?_)
  refine w9_arcs hM hB' _ _ _ _ _ _ _ _ _ _ _ _ _ _ _ _ _ _ ?_
  exact hK1 k hk1 hak rfl _ _ _ _ ⟨E2, rfl, rfl, hfr, hto, hB', q2, fun z => absurd rfl z⟩

theorem r_clear (h : yRS N M F T al rs rw' t86 t87 t102 t95 t41 t42 t53 t75 t64 t61 t62 t55 t56 t58 t57 t59 t60) (K : Int32 → (Int32 × Int32 × Int32) → Prop)
    (hK : ∀ (n86 : Int32) (n87 : Int32) (n102 : Int32), yRS 0 0 F T al rs rw' n86 n87 n102 t95 t41 t42 t53 t75 t64 t61 t62 t55 t56 t58 t57 t59 t60 → K (Int32.ofNat N) (n86, n87, n102))
    : wX9_clear t86 t87 t102 t103 t88 t89 t90 t91 t92 t93 t94 t95 t96 t97 t98 t99 t100 t101 K := by
  obtain ⟨hab, e86, e87, hfr, hto, hB, hrr, hk⟩ := h
  subst e86 e87
  have hN := hab.1
  have hM := hab.2.1
  have hF := hab.2.2.1
  have hE := hab.2.2.2
  unfold wX9_clear
  refine hK  _ _ _ ⟨⟨by omega, by omega, fun k hk => absurd hk (Nat.not_lt_zero _), ⟨fun v i hv => absurd hv (Nat.not_lt_zero _), fun v i j hv => absurd hv (Nat.not_lt_zero _), fun e he' => ?_⟩⟩, rfl, rfl, fun k hk => absurd hk (Nat.not_lt_zero _), fun k hk => absurd hk (Nat.not_lt_zero _), fun k hk => absurd hk (Nat.not_lt_zero _), ⟨fun v hv => absurd hv (Nat.not_lt_zero _), fun v i hv => absurd hv (Nat.not_lt_zero _), fun v hv => absurd hv (Nat.not_lt_zero _), fun v i hv => absurd hv (Nat.not_lt_zero _)⟩, fun z => absurd rfl z⟩
  have := (yLv_iff.1 he').1; omega

theorem r_swap (h : yRS N M F T al rs rw' t86 t87 t102 t95 t41 t42 t53 t75 t64 t61 t62 t55 t56 t58 t57 t59 t60) (p0 p1 p2 : Int32) (K : Int32 → ((Nat → Int32)) → Prop)
    (hK1 : ∀ v i j, v < N → i < rs v → j < rs v → p0 = Int32.ofNat v → p1 = Int32.ofNat i → p2 = Int32.ofNat j → ∀ (n64 : Nat → Int32), yRS N M F T al rs (yExc rw' v i j) t86 t87 t102 t95 t41 t42 t53 t75 n64 t61 t62 t55 t56 t58 t57 t59 t60 → K 1 (n64))
    (hK0 : ¬ (∃ v i j, v < N ∧ i < rs v ∧ j < rs v ∧ p0 = Int32.ofNat v ∧ p1 = Int32.ofNat i ∧ p2 = Int32.ofNat j) → ∀ (n64 : Nat → Int32), yRS N M F T al rs rw' t86 t87 t102 t95 t41 t42 t53 t75 n64 t61 t62 t55 t56 t58 t57 t59 t60 → K (-1) (n64))
    : wX9_swap t86 t87 t102 t103 t88 t89 t90 t91 t92 t93 t94 t95 t96 t97 t98 t99 t100 t101 t75 t64 p0 p1 p2 K := by
  obtain ⟨hab, e86, e87, hfr, hto, hB, hrr, hk⟩ := h
  subst e86 e87
  have hN := hab.1
  have hM := hab.2.1
  have hF := hab.2.2.1
  have hE := hab.2.2.2
  unfold wX9_swap
  refine w9_isNode (by omega) _ _ _ _ _ _ _ _ _ _ _ _ _ _ _ _ _ _ _ (fun v hv ev => ⟨fun z => absurd z (by decide), fun _ => ?_⟩) (fun hno => ⟨fun _ => hK0 (fun ⟨v, _, _, a1, _, _, a2, _, _⟩ => hno ⟨v, a1, a2⟩) _ ⟨hab, rfl, rfl, hfr, hto, hB, hrr, hk⟩, fun z => absurd rfl z⟩)
  subst ev
  have h160 := hrr.2.2.1 v hv
  refine ⟨fun hq => hK0 (fun ⟨v', i, _, a1, a2, _, a3, a4, _⟩ => by have := hrr.2.2.1 v' a1; rw [a4] at hq; exact yn_neg (by omega) hq) _ ⟨hab, rfl, rfl, hfr, hto, hB, hrr, hk⟩, fun hq => ⟨yn_in (by omega) (by omega), ?_⟩⟩
  obtain ⟨i, hi, rfl⟩ := yn_of hq
  rw [yn_nat (by omega), hrr.1 v hv, yn_le (by omega) (by omega), yn_160]
  refine ⟨fun hle => hK0 (fun ⟨v', i', _, a1, a2, _, a3, a4, _⟩ => by
      have := hrr.2.2.1 v' a1
      have e := (yn_inj (by omega) (by omega)).1 a3
      subst e
      have := (yn_inj (by omega) (by omega)).1 a4; omega) _ ⟨hab, rfl, rfl, hfr, hto, hB, hrr, hk⟩, fun hlt => ?_⟩
  have hil : i < rs v := by omega
  refine ⟨fun hq2 => hK0 (fun ⟨v', _, j, a1, _, a2, a3, _, a4⟩ => by have := hrr.2.2.1 v' a1; rw [a4] at hq2; exact yn_neg (by omega) hq2) _ ⟨hab, rfl, rfl, hfr, hto, hB, hrr, hk⟩, fun hq2 => ⟨yn_in (by omega) (by omega), ?_⟩⟩
  obtain ⟨j, hj, rfl⟩ := yn_of hq2
  rw [yn_160, yn_lt (by omega) (by omega)]
  refine ⟨fun hjl => ?_, fun hge => hK0 (fun ⟨v', _, j', a1, _, a2, a3, _, a4⟩ => by
      have := hrr.2.2.1 v' a1
      have e := (yn_inj (by omega) (by omega)).1 a3
      subst e
      have := (yn_inj (by omega) (by omega)).1 a4; omega) _ ⟨hab, rfl, rfl, hfr, hto, hB, hrr, hk⟩⟩
  rw [yn_nat (by omega : 160*v+i < _), yn_nat (by omega : 160*v+j < _), hrr.2.1 v i hv hil, hrr.2.1 v j hv hjl]
  refine ⟨yn_in (by omega) (by omega), fun v50 h50 => ⟨yn_in (by omega) (by omega), yn_in (by omega) (by omega), fun g75 h75 => ⟨yn_in (by omega) (by omega), fun g89 h89 => ?_⟩⟩⟩
  refine hK1 v i j hv hil hjl rfl rfl rfl _ ⟨⟨hN, hM, hF, yEr_exch hE hv hil hjl⟩, rfl, rfl, hfr, hto, hB, ⟨hrr.1, fun u k hu hk' => ?_, hrr.2.2.1, fun u k hu hk' => ?_⟩, hk⟩
  · have hu160 := hrr.2.2.1 u hu
    rw [h89, h75, h50]
    unfold yExc
    by_cases q1 : u = v ∧ k = j
    · rw [if_pos q1, q1.1, q1.2, yupd_same]
    · rw [if_neg q1, yupd_ne _ _ _ _ (by omega)]
      by_cases q2 : u = v ∧ k = i
      · rw [if_pos q2, q2.1, q2.2, yupd_same]
      · rw [if_neg q2, yupd_ne _ _ _ _ (by omega)]
        exact hrr.2.1 u k hu hk'
  · unfold yExc
    by_cases q1 : u = v ∧ k = j
    · rw [if_pos q1]; exact hrr.2.2.2 v i hv hil
    · rw [if_neg q1]
      by_cases q2 : u = v ∧ k = i
      · rw [if_pos q2]; exact hrr.2.2.2 v j hv hjl
      · rw [if_neg q2]; exact hrr.2.2.2 u k hu hk'

theorem r_take (h : yRS N M F T al rs rw' t86 t87 t102 t95 t41 t42 t53 t75 t64 t61 t62 t55 t56 t58 t57 t59 t60) (K : Int32 → (Int32 × Int32 × Int32 × Int32 × Int32 × Int32 × Int32 × Int32 × Int32 × Int32 × Int32 × Int32 × Int32 × Int32 × Int32 × (Nat → Int32) × (Nat → Int32) × (Nat → Int32) × (Nat → Int32) × (Nat → Int32) × (Nat → Int32) × (Nat → Int32) × (Nat → Int32) × (Nat → Int32) × (Nat → Int32) × (Nat → Int32) × (Nat → Int32) × (Nat → Int32) × (Nat → Int32) × (Nat → Int32) × (Nat → Int32) × (Nat → Int32) × (Nat → Int32) × (Nat → Int32) × (Nat → Int32) × (Nat → Int32) × (Nat → Int32) × (Nat → Int32) × (Nat → Int32) × (Nat → Int32) × (Nat → Int32) × (Nat → Int32) × (Nat → Int32) × (Nat → Int32) × (Nat → Int32) × (Nat → Int32) × (Nat → Int32)) → Prop)
    (hK1 : yPln N (yGk M F T al) → ∀ (n102 : Int32) (n103 : Int32) (n88 : Int32) (n89 : Int32) (n90 : Int32) (n91 : Int32) (n92 : Int32) (n93 : Int32) (n94 : Int32) (n95 : Int32) (n96 : Int32) (n97 : Int32) (n98 : Int32) (n99 : Int32) (n100 : Int32) (n76 : Nat → Int32) (n61 : Nat → Int32) (n77 : Nat → Int32) (n78 : Nat → Int32) (n79 : Nat → Int32) (n80 : Nat → Int32) (n49 : Nat → Int32) (n48 : Nat → Int32) (n47 : Nat → Int32) (n43 : Nat → Int32) (n46 : Nat → Int32) (n44 : Nat → Int32) (n45 : Nat → Int32) (n50 : Nat → Int32) (n62 : Nat → Int32) (n52 : Nat → Int32) (n51 : Nat → Int32) (n54 : Nat → Int32) (n55 : Nat → Int32) (n56 : Nat → Int32) (n58 : Nat → Int32) (n57 : Nat → Int32) (n67 : Nat → Int32) (n63 : Nat → Int32) (n65 : Nat → Int32) (n68 : Nat → Int32) (n66 : Nat → Int32) (n59 : Nat → Int32) (n60 : Nat → Int32) (n69 : Nat → Int32) (n70 : Nat → Int32) (n64 : Nat → Int32), yRS N M F T al (fun v => (yTn N M F T al v).length) (fun v i => (yTn N M F T al v).getD i 0) t86 t87 n102 n95 t41 t42 t53 t75 n64 n61 n62 n55 n56 n58 n57 n59 n60 → K 1 (n102, n103, n88, n89, n90, n91, n92, n93, n94, n95, n96, n97, n98, n99, n100, n76, n61, n77, n78, n79, n80, n49, n48, n47, n43, n46, n44, n45, n50, n62, n52, n51, n54, n55, n56, n58, n57, n67, n63, n65, n68, n66, n59, n60, n69, n70, n64))
    (hK0 : ¬ yPln N (yGk M F T al) → ∀ (n102 : Int32) (n103 : Int32) (n88 : Int32) (n89 : Int32) (n90 : Int32) (n91 : Int32) (n92 : Int32) (n93 : Int32) (n94 : Int32) (n95 : Int32) (n96 : Int32) (n97 : Int32) (n98 : Int32) (n99 : Int32) (n100 : Int32) (n76 : Nat → Int32) (n61 : Nat → Int32) (n77 : Nat → Int32) (n78 : Nat → Int32) (n79 : Nat → Int32) (n80 : Nat → Int32) (n49 : Nat → Int32) (n48 : Nat → Int32) (n47 : Nat → Int32) (n43 : Nat → Int32) (n46 : Nat → Int32) (n44 : Nat → Int32) (n45 : Nat → Int32) (n50 : Nat → Int32) (n62 : Nat → Int32) (n52 : Nat → Int32) (n51 : Nat → Int32) (n54 : Nat → Int32) (n55 : Nat → Int32) (n56 : Nat → Int32) (n58 : Nat → Int32) (n57 : Nat → Int32) (n67 : Nat → Int32) (n63 : Nat → Int32) (n65 : Nat → Int32) (n68 : Nat → Int32) (n66 : Nat → Int32) (n59 : Nat → Int32) (n60 : Nat → Int32) (n69 : Nat → Int32) (n70 : Nat → Int32) (n64 : Nat → Int32), yRS N M F T al rs rw' t86 t87 n102 n95 t41 t42 t53 t75 n64 n61 n62 n55 n56 n58 n57 n59 n60 → K (-3) (n102, n103, n88, n89, n90, n91, n92, n93, n94, n95, n96, n97, n98, n99, n100, n76, n61, n77, n78, n79, n80, n49, n48, n47, n43, n46, n44, n45, n50, n62, n52, n51, n54, n55, n56, n58, n57, n67, n63, n65, n68, n66, n59, n60, n69, n70, n64))
    : wX9_take t86 t87 t102 t103 t88 t89 t90 t91 t92 t93 t94 t95 t96 t97 t98 t99 t100 t101 t76 t53 t41 t42 t61 t77 t78 t79 t80 t49 t48 t47 t43 t46 t44 t45 t50 t62 t52 t51 t54 t55 t56 t58 t57 t67 t63 t65 t68 t66 t59 t60 t69 t70 t64 K := by
  obtain ⟨hab, e86, e87, hfr, hto, hB, hrr, hk⟩ := h
  subst e86 e87
  have hN := hab.1
  have hM := hab.2.1
  have hF := hab.2.2.1
  have hE := hab.2.2.2
  unfold wX9_take
  refine w9_isPlaneNow hN hM hF hfr hto hB _ _ _ _ _ _ _ _ _ _ _ _ _ _ _ _ _ _ _ _ _ _ _ _ _ _ _ _ _ _ _ _ _ _ _ _ _ _ _ _ _ _ _ _ _ _ _ hk _ (fun hp u h1 h2 => ⟨fun _ => ?_, fun z => absurd z (by decide)⟩) (fun hp u h1 h2 => ⟨fun z => absurd rfl z, fun _ => ?_⟩)
  · obtain ⟨_, hT, _, _, hEt⟩ := yKnR_p h2 hp
    generalize hlen : (fun v => (yTn N M F T al v).length) = ln at hT hEt hK1
    generalize hget : (fun v i => (yTn N M F T al v).getD i 0) = gt at hT hEt hK1
    have inner : ∀ (B : (Nat → Int32) → Int32 → Prop) v, v < N → ∀ d i row, ln v - i = d → i ≤ ln v → (∀ u k, u < N → k < ln u → (u < v ∨ u = v ∧ k < i) → row (160*u+k) = Int32.ofNat (gt u k)) → (∀ row', (∀ u k, u < N → k < ln u → u < v + 1 → row' (160*u+k) = Int32.ofNat (gt u k)) → B row' (Int32.ofNat (v+1))) → wLX9_take_22 u (Int32.ofNat v) K B (d+1) row (Int32.ofNat i) := by
      intro B v hv d
      have ev : Int32.ofNat v + 1 = Int32.ofNat (v+1) := yn_add v 1
      have h160 := hT.2.2.1 v hv
      induction d with
      | zero =>
        intro i row hd hi hrow hKB
        unfold wLX9_take_22
        rw [ev, yn_nat (by omega), hT.1 v hv, yn_le (by omega) (by omega)]
        refine ⟨yn_in (by omega) (by omega), fun _ => hKB row (fun w k hw hk' hwv => hrow w k hw hk' ?_), fun hh => ?_⟩
        · by_cases q : w = v
          · subst q; omega
          · omega
        · omega
      | succ d ih =>
        intro i row hd hi hrow hKB
        have ei : Int32.ofNat i + 1 = Int32.ofNat (i+1) := yn_add i 1
        unfold wLX9_take_22
        rw [ei, yn_160, yn_nat (by omega), yn_nat (by omega), hT.1 v hv, yn_le (by omega) (by omega), hT.2.1 v i hv (by omega)]
        refine ⟨yn_in (by omega) (by omega), fun hh => ?_, fun _ => ⟨yn_in (by omega) (by omega), yn_in (by omega) (by omega), fun g hg => ih (i+1) g (by omega) (by omega) (fun w k hw hk' hwv => ?_) hKB⟩⟩
        · omega
        · have hw160 := hT.2.2.1 w hw
          rw [hg]
          by_cases q : w = v ∧ k = i
          · rw [q.1, q.2, yupd_same]
          · rw [yupd_ne _ _ _ _ (by omega)]; exact hrow w k hw hk' (by omega)
    have outer : ∀ d v row, N - v = d → v ≤ N → (∀ u k, u < N → k < ln u → u < v → row (160*u+k) = Int32.ofNat (gt u k)) → wLX9_take_12 (Int32.ofNat N) u K (d+1) row (Int32.ofNat v) := by
      intro d
      induction d with
      | zero =>
        intro v row hd hv hrow
        unfold wLX9_take_12
        refine ⟨fun _ => ?_, fun hh => ?_⟩
        · exact hK1 hp _ _ _ _ _ _ _ _ _ _ _ _ _ _ _ _ _ _ _ _ _ _ _ _ _ _ _ _ _ _ _ _ _ _ _ _ _ _ _ _ _ _ _ _ _ _ _ ⟨⟨hN, hM, hF, hEt⟩, rfl, rfl, hfr, hto, hB, ⟨fun w hw => by rw [hrr.1 w hw, yEr_same hE hEt hw], fun w k hw hk' => hrow w k hw hk' (by omega), hT.2.2.1, hT.2.2.2⟩, fun _ => h2⟩
        · exfalso; apply hh; rw [yn_le (by omega) (by omega)]; omega
      | succ d ih =>
        intro v row hd hv hrow
        unfold wLX9_take_12
        refine ⟨fun hh => ?_, fun _ => ⟨_, inner _ v (by omega) (ln v - 0) 0 row rfl (by omega) (fun w k hw hk' hwv => hrow w k hw hk' (by omega)) (fun row' hr => ih (v+1) row' (by omega) (by omega) hr)⟩⟩
        exfalso; rw [yn_le (by omega) (by omega)] at hh; omega
    exact ⟨_, outer (N-0) 0 _ rfl (by omega) (fun w k _ _ hw => absurd hw (Nat.not_lt_zero _))⟩
  · exact hK0 hp _ _ _ _ _ _ _ _ _ _ _ _ _ _ _ _ _ _ _ _ _ _ _ _ _ _ _ _ _ _ _ _ _ _ _ _ _ _ _ _ _ _ _ _ _ _ _ ⟨hab, rfl, rfl, hfr, hto, hB, hrr, fun _ => h2⟩

end


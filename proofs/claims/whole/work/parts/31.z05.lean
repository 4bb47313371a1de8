def wX0_onOneSide (i0 : Int32) (i1 : Int32) (i2 : Int32) (i3 : Int32) (f4 : Nat → Int32) (f5 : Nat → Int32) (p0 : Int32) (p1 : Int32) (p2 : Int32) (p3 : Int32) (K : Int32 → Unit → Prop) : Prop := (wX0_area i0 i1 i2 i3 f4 f5 p0 p1 p2 (fun r4 _ => (wX0_area i0 i1 i2 i3 f4 f5 p0 p1 p3 (fun r14 _ => ((r4 ≤ 0 → ((0 ≤ r4 → K (0 : Int32) ()) ∧ (¬ 0 ≤ r4 → ((0 ≤ r14 → K (0 : Int32) ()) ∧ (¬ 0 ≤ r14 → K (1 : Int32) ()))))) ∧ (¬ r4 ≤ 0 → ((0 < r14 → K (1 : Int32) ()) ∧ (¬ 0 < r14 → ((0 ≤ r4 → K (0 : Int32) ()) ∧ (¬ 0 ≤ r4 → ((0 ≤ r14 → K (0 : Int32) ()) ∧ (¬ 0 ≤ r14 → K (1 : Int32) ()))))))))))))
set_option maxHeartbeats 4000000 in
set_option maxRecDepth 100000 in
theorem zX0_onOneSide (l : Launch) (G : va_G) (cI cJ cZ : ClassId) (h0 h1 h2 k0 k1 k2 k3 k4 k5 k6 k7 k8 sz : Nat) (i0 : Int32) (i1 : Int32) (i2 : Int32) (i3 : Int32) (f4 : Nat → Int32) (f5 : Nat → Int32) (p0 : Int32) (p1 : Int32) (p2 : Int32) (p3 : Int32) (K : Int32 → Unit → Prop) (hwp : wX0_onOneSide i0 i1 i2 i3 f4 f5 p0 p1 p2 p3 K) : Met l yX0_onOneSide (xw yX0_onOneSide cX0_onOneSide 7 (some .boolean)) ({ frames := 1, cells := 0, slots := 0, locals := 23 }) (xPc G cI cJ cZ [.ref h0, .int p0, .int p1, .int p2, .int p3] [(h0, .inr (0, [.ref k0, .ref k1, .ref h1, .ref h2, .ref k2, .ref k3, .ref k4, .ref k5, .ref k6, .ref k7, .ref k8, .int i0, .int i1, .int i2, .int i3])), (h1, aI cI 20 f4), (h2, aI cI 20 f5)] sz) (va_Qi (fun (r : Int32) (u : Unit) => K r u) (fun (u : Unit) t => xB G (va_A [(h0, .inr (0, [.ref k0, .ref k1, .ref h1, .ref h2, .ref k2, .ref k3, .ref k4, .ref k5, .ref k6, .ref k7, .ref k8, .int i0, .int i1, .int i2, .int i3])), (h1, aI cI 20 f4), (h2, aI cI 20 f5)] sz) [(h0, .inr (0, [.ref k0, .ref k1, .ref h1, .ref h2, .ref k2, .ref k3, .ref k4, .ref k5, .ref k6, .ref k7, .ref k8, .int i0, .int i1, .int i2, .int i3])), (h1, aI cI 20 f4), (h2, aI cI 20 f5)] t) (va_A [(h0, .inr (0, [.ref k0, .ref k1, .ref h1, .ref h2, .ref k2, .ref k3, .ref k4, .ref k5, .ref k6, .ref k7, .ref k8, .int i0, .int i1, .int i2, .int i3])), (h1, aI cI 20 f4), (h2, aI cI 20 f5)] sz)) 0 0 (va_A [(h0, .inr (0, [.ref k0, .ref k1, .ref h1, .ref h2, .ref k2, .ref k3, .ref k4, .ref k5, .ref k6, .ref k7, .ref k8, .int i0, .int i1, .int i2, .int i3])), (h1, aI cI 20 f4), (h2, aI cI 20 f5)] sz) := by
  refine Met.ofW (cc := cX0_onOneSide) (maxL := 7) (ret := (some .boolean)) (by decide) rfl ?_
  intro p e s m args below meth c s₁ B hml hv
  obtain ⟨rfl, hsz, hP, hK, hD0, hN⟩ := hv
  have hx := B.exec
  have hb := B.bytes
  have hr := B.returns
  have hts : ∀ w ∈ xW, w.before _ s = true := fun w h => atoms_spec (ws := xw yX0_onOneSide cX0_onOneSide 7 (some .boolean)) B.pre w (List.mem_cons_of_mem _ h)
  have hown : s.vm.findClass RX0 = some m.cls := findClass_of_methodNamed B.named
  have hlocks := B.notSynchronized
  subst hsz
  have hD := hD0.self (sz := s.heap.size)
  clear hD0
  generalize hAe : va_A [(h0, .inr (0, [.ref k0, .ref k1, .ref h1, .ref h2, .ref k2, .ref k3, .ref k4, .ref k5, .ref k6, .ref k7, .ref k8, .int i0, .int i1, .int i2, .int i3])), (h1, aI cI 20 f4), (h2, aI cI 20 f5)] s.heap.size = A at hD ⊢
  have hA : ∀ q : Nat, s.heap.size ≤ q → A q := fun q h => by rw [← hAe]; exact Or.inr h
  clear hAe
  have hS : va_S A s.heap s.heap [] := va_S.rf
  replace hP : va_P G vwCl [(h0, .inr (0, [.ref k0, .ref k1, .ref h1, .ref h2, .ref k2, .ref k3, .ref k4, .ref k5, .ref k6, .ref k7, .ref k8, .int i0, .int i1, .int i2, .int i3])), (h1, aI cI 20 f4), (h2, aI cI 20 f5)] s.heap := hP
  have hl := lv_entry ([.ref h0, .int p0, .int p1, .int p2, .int p3]) (n := 7) (Nat.le_of_ble_eq_true rfl)
  rw [lg_entry_eq]
  generalize (lg_sl ([.ref h0, .int p0, .int p1, .int p2, .int p3]) ++ List.replicate (7 - (lg_sl ([.ref h0, .int p0, .int p1, .int p2, .int p3])).length) Slot.unset).toArray = ls at hl ⊢
  replace hl : lv_has ls 7 [(0, .ref h0), (1, .int p0), (2, .int p1), (3, .int p2), (4, .int p3)] := hl
  generalize hQQ : MQ below _ _ s 0 0 _ = QQ
  skip
  unfold wX0_onOneSide at hwp
  refine lv_aload_n hx hb dX0_onOneSide_0 rfl (lv_at hl 0 rfl) ?_
  refine lv_iload_n hx hb dX0_onOneSide_1 rfl (lv_at hl 1 rfl) ?_
  refine lv_iload_n hx hb dX0_onOneSide_2 rfl (lv_at hl 2 rfl) ?_
  refine lv_iload_n hx hb dX0_onOneSide_3 rfl (lv_at hl 3 rfl) ?_
  refine xci (wr := []) (va_runV (As := [.int p0, .int p1, .int p2]) (rest := []) ⟨hx, hb, hml, hown, hts⟩ (zX0_area l G cI cJ cZ h0 h1 h2 k0 k1 k2 k3 k4 k5 k6 k7 k8 s.heap.size i0 i1 i2 i3 f4 f5 p0 p1 p2 _ hwp) (cwV 3 hts (xgoodV wo_177 wo_178 wo_179 wo_180 wo_141) rfl rfl rfl (by decide +kernel) ⟨Nat.le_of_ble_eq_true rfl, Nat.le_of_ble_eq_true rfl⟩) (xPreV (q := (RX0, TX0, 15)) (q0 := 0) hK hN hP hD [0, 1, 2] (by decide) rfl rfl rfl) rfl rfl hl.1 rfl (lv_room (Nat.le_of_ble_eq_true rfl)) dX0_onOneSide_4 ⟨Nat.le_of_ble_eq_true rfl, Nat.le_of_ble_eq_true rfl⟩) hP hD hS hA [0, 1, 2] [] rfl rfl (by decide) (by decide) (fun r4 u4 H locs hwp hP hD hS => ?_)
  replace hP : va_P G vwCl [(h0, .inr (0, [.ref k0, .ref k1, .ref h1, .ref h2, .ref k2, .ref k3, .ref k4, .ref k5, .ref k6, .ref k7, .ref k8, .int i0, .int i1, .int i2, .int i3])), (h1, aI cI 20 f4), (h2, aI cI 20 f5)] H := hP
  replace hD : va_D A [(h0, .inr (0, [.ref k0, .ref k1, .ref h1, .ref h2, .ref k2, .ref k3, .ref k4, .ref k5, .ref k6, .ref k7, .ref k8, .int i0, .int i1, .int i2, .int i3])), (h1, aI cI 20 f4), (h2, aI cI 20 f5)] := hD
  refine lv_istore (lv' := [(5, .int r4), (0, .ref h0), (1, .int p0), (2, .int p1), (3, .int p2), (4, .int p3)]) hx hb dX0_onOneSide_7 hl (by decide) rfl (fun ls hl => ?_)
  refine lv_aload_n hx hb dX0_onOneSide_9 rfl (lv_at hl 1 rfl) ?_
  refine lv_iload_n hx hb dX0_onOneSide_10 rfl (lv_at hl 2 rfl) ?_
  refine lv_iload_n hx hb dX0_onOneSide_11 rfl (lv_at hl 3 rfl) ?_
  refine lv_iload hx hb dX0_onOneSide_12 (lv_at hl 5 rfl) ?_
  refine xci (wr := []) (va_runV (As := [.int p0, .int p1, .int p3]) (rest := []) ⟨hx, hb, hml, hown, hts⟩ (zX0_area l G cI cJ cZ h0 h1 h2 k0 k1 k2 k3 k4 k5 k6 k7 k8 H.size i0 i1 i2 i3 f4 f5 p0 p1 p3 _ hwp) (cwV 3 hts (xgoodV wo_177 wo_178 wo_179 wo_180 wo_141) rfl rfl rfl (by decide +kernel) ⟨Nat.le_of_ble_eq_true rfl, Nat.le_of_ble_eq_true rfl⟩) (xPreV (q := (RX0, TX0, 15)) (q0 := 0) hK hN hP hD [0, 1, 2] (by decide) rfl rfl rfl) rfl rfl hl.1 rfl (lv_room (Nat.le_of_ble_eq_true rfl)) dX0_onOneSide_14 ⟨Nat.le_of_ble_eq_true rfl, Nat.le_of_ble_eq_true rfl⟩) hP hD hS hA [0, 1, 2] [] rfl rfl (by decide) (by decide) (fun r14 u14 H locs hwp hP hD hS => ?_)
  replace hP : va_P G vwCl [(h0, .inr (0, [.ref k0, .ref k1, .ref h1, .ref h2, .ref k2, .ref k3, .ref k4, .ref k5, .ref k6, .ref k7, .ref k8, .int i0, .int i1, .int i2, .int i3])), (h1, aI cI 20 f4), (h2, aI cI 20 f5)] H := hP
  replace hD : va_D A [(h0, .inr (0, [.ref k0, .ref k1, .ref h1, .ref h2, .ref k2, .ref k3, .ref k4, .ref k5, .ref k6, .ref k7, .ref k8, .int i0, .int i1, .int i2, .int i3])), (h1, aI cI 20 f4), (h2, aI cI 20 f5)] := hD
  refine lv_istore (lv' := [(6, .int r14), (5, .int r4), (0, .ref h0), (1, .int p0), (2, .int p1), (3, .int p2), (4, .int p3)]) hx hb dX0_onOneSide_17 hl (by decide) rfl (fun ls hl => ?_)
  refine lv_iload hx hb dX0_onOneSide_19 (lv_at hl 1 rfl) ?_
  refine lv_if_le (tgt := 29) hx hb dX0_onOneSide_21 (by decide) (fun c21 => ?_) (fun c21 => ?_)
  · replace hwp := hwp.1 c21
    refine lv_iload hx hb dX0_onOneSide_29 (lv_at hl 1 rfl) ?_
    refine lv_if_ge (tgt := 43) hx hb dX0_onOneSide_31 (by decide) (fun c31 => ?_) (fun c31 => ?_)
    · replace hwp := hwp.1 c31
      refine lv_iconst (v := 0) hx hb dX0_onOneSide_43 (by decide) ?_
      have hP9 : va_P G vwCl [(h0, .inr (0, [.ref k0, .ref k1, .ref h1, .ref h2, .ref k2, .ref k3, .ref k4, .ref k5, .ref k6, .ref k7, .ref k8, .int i0, .int i1, .int i2, .int i3])), (h1, aI cI 20 f4), (h2, aI cI 20 f5)] H := hP.sub [0, 1, 2] rfl
      have hD9 : va_D A [(h0, .inr (0, [.ref k0, .ref k1, .ref h1, .ref h2, .ref k2, .ref k3, .ref k4, .ref k5, .ref k6, .ref k7, .ref k8, .int i0, .int i1, .int i2, .int i3])), (h1, aI cI 20 f4), (h2, aI cI 20 f5)] := hD.sub [0, 1, 2] (by decide) rfl
      rw [← hQQ]
      exact W.zret (v := 0) hx hb hr rfl (fun t ht hW => ⟨⟨_, (), rfl, hwp, by rw [ht]; exact hP9, hD9⟩, hS.F ht⟩) hS.2.2 dX0_onOneSide_44
    · replace hwp := hwp.2 c31
      refine lv_iload hx hb dX0_onOneSide_34 (lv_at hl 0 rfl) ?_
      refine lv_if_ge (tgt := 43) hx hb dX0_onOneSide_36 (by decide) (fun c36 => ?_) (fun c36 => ?_)
      · replace hwp := hwp.1 c36
        refine lv_iconst (v := 0) hx hb dX0_onOneSide_43 (by decide) ?_
        have hP9 : va_P G vwCl [(h0, .inr (0, [.ref k0, .ref k1, .ref h1, .ref h2, .ref k2, .ref k3, .ref k4, .ref k5, .ref k6, .ref k7, .ref k8, .int i0, .int i1, .int i2, .int i3])), (h1, aI cI 20 f4), (h2, aI cI 20 f5)] H := hP.sub [0, 1, 2] rfl
        have hD9 : va_D A [(h0, .inr (0, [.ref k0, .ref k1, .ref h1, .ref h2, .ref k2, .ref k3, .ref k4, .ref k5, .ref k6, .ref k7, .ref k8, .int i0, .int i1, .int i2, .int i3])), (h1, aI cI 20 f4), (h2, aI cI 20 f5)] := hD.sub [0, 1, 2] (by decide) rfl
        rw [← hQQ]
        exact W.zret (v := 0) hx hb hr rfl (fun t ht hW => ⟨⟨_, (), rfl, hwp, by rw [ht]; exact hP9, hD9⟩, hS.F ht⟩) hS.2.2 dX0_onOneSide_44
      · replace hwp := hwp.2 c36
        refine lv_iconst (v := 1) hx hb dX0_onOneSide_39 (by decide) ?_
        refine lv_goto (tgt := 44) hx hb dX0_onOneSide_40 (by decide) ?_
        have hP9 : va_P G vwCl [(h0, .inr (0, [.ref k0, .ref k1, .ref h1, .ref h2, .ref k2, .ref k3, .ref k4, .ref k5, .ref k6, .ref k7, .ref k8, .int i0, .int i1, .int i2, .int i3])), (h1, aI cI 20 f4), (h2, aI cI 20 f5)] H := hP.sub [0, 1, 2] rfl
        have hD9 : va_D A [(h0, .inr (0, [.ref k0, .ref k1, .ref h1, .ref h2, .ref k2, .ref k3, .ref k4, .ref k5, .ref k6, .ref k7, .ref k8, .int i0, .int i1, .int i2, .int i3])), (h1, aI cI 20 f4), (h2, aI cI 20 f5)] := hD.sub [0, 1, 2] (by decide) rfl
        rw [← hQQ]
        exact W.zret (v := 1) hx hb hr rfl (fun t ht hW => ⟨⟨_, (), rfl, hwp, by rw [ht]; exact hP9, hD9⟩, hS.F ht⟩) hS.2.2 dX0_onOneSide_44
  · replace hwp := hwp.2 c21
    refine lv_iload hx hb dX0_onOneSide_24 (lv_at hl 0 rfl) ?_
    refine lv_if_gt (tgt := 39) hx hb dX0_onOneSide_26 (by decide) (fun c26 => ?_) (fun c26 => ?_)
    · replace hwp := hwp.1 c26
      refine lv_iconst (v := 1) hx hb dX0_onOneSide_39 (by decide) ?_
      refine lv_goto (tgt := 44) hx hb dX0_onOneSide_40 (by decide) ?_
      have hP9 : va_P G vwCl [(h0, .inr (0, [.ref k0, .ref k1, .ref h1, .ref h2, .ref k2, .ref k3, .ref k4, .ref k5, .ref k6, .ref k7, .ref k8, .int i0, .int i1, .int i2, .int i3])), (h1, aI cI 20 f4), (h2, aI cI 20 f5)] H := hP.sub [0, 1, 2] rfl
      have hD9 : va_D A [(h0, .inr (0, [.ref k0, .ref k1, .ref h1, .ref h2, .ref k2, .ref k3, .ref k4, .ref k5, .ref k6, .ref k7, .ref k8, .int i0, .int i1, .int i2, .int i3])), (h1, aI cI 20 f4), (h2, aI cI 20 f5)] := hD.sub [0, 1, 2] (by decide) rfl
      rw [← hQQ]
      exact W.zret (v := 1) hx hb hr rfl (fun t ht hW => ⟨⟨_, (), rfl, hwp, by rw [ht]; exact hP9, hD9⟩, hS.F ht⟩) hS.2.2 dX0_onOneSide_44
    · replace hwp := hwp.2 c26
      refine lv_iload hx hb dX0_onOneSide_29 (lv_at hl 1 rfl) ?_
      refine lv_if_ge (tgt := 43) hx hb dX0_onOneSide_31 (by decide) (fun c31 => ?_) (fun c31 => ?_)
      · replace hwp := hwp.1 c31
        refine lv_iconst (v := 0) hx hb dX0_onOneSide_43 (by decide) ?_
        have hP9 : va_P G vwCl [(h0, .inr (0, [.ref k0, .ref k1, .ref h1, .ref h2, .ref k2, .ref k3, .ref k4, .ref k5, .ref k6, .ref k7, .ref k8, .int i0, .int i1, .int i2, .int i3])), (h1, aI cI 20 f4), (h2, aI cI 20 f5)] H := hP.sub [0, 1, 2] rfl
        have hD9 : va_D A [(h0, .inr (0, [.ref k0, .ref k1, .ref h1, .ref h2, .ref k2, .ref k3, .ref k4, .ref k5, .ref k6, .ref k7, .ref k8, .int i0, .int i1, .int i2, .int i3])), (h1, aI cI 20 f4), (h2, aI cI 20 f5)] := hD.sub [0, 1, 2] (by decide) rfl
        rw [← hQQ]
        exact W.zret (v := 0) hx hb hr rfl (fun t ht hW => ⟨⟨_, (), rfl, hwp, by rw [ht]; exact hP9, hD9⟩, hS.F ht⟩) hS.2.2 dX0_onOneSide_44
      · replace hwp := hwp.2 c31
        refine lv_iload hx hb dX0_onOneSide_34 (lv_at hl 0 rfl) ?_
        refine lv_if_ge (tgt := 43) hx hb dX0_onOneSide_36 (by decide) (fun c36 => ?_) (fun c36 => ?_)
        · replace hwp := hwp.1 c36
          refine lv_iconst (v := 0) hx hb dX0_onOneSide_43 (by decide) ?_
          have hP9 : va_P G vwCl [(h0, .inr (0, [.ref k0, .ref k1, .ref h1, .ref h2, .ref k2, .ref k3, .ref k4, .ref k5, .ref k6, .ref k7, .ref k8, .int i0, .int i1, .int i2, .int i3])), (h1, aI cI 20 f4), (h2, aI cI 20 f5)] H := hP.sub [0, 1, 2] rfl
          have hD9 : va_D A [(h0, .inr (0, [.ref k0, .ref k1, .ref h1, .ref h2, .ref k2, .ref k3, .ref k4, .ref k5, .ref k6, .ref k7, .ref k8, .int i0, .int i1, .int i2, .int i3])), (h1, aI cI 20 f4), (h2, aI cI 20 f5)] := hD.sub [0, 1, 2] (by decide) rfl
          rw [← hQQ]
          exact W.zret (v := 0) hx hb hr rfl (fun t ht hW => ⟨⟨_, (), rfl, hwp, by rw [ht]; exact hP9, hD9⟩, hS.F ht⟩) hS.2.2 dX0_onOneSide_44
        · replace hwp := hwp.2 c36
          refine lv_iconst (v := 1) hx hb dX0_onOneSide_39 (by decide) ?_
          refine lv_goto (tgt := 44) hx hb dX0_onOneSide_40 (by decide) ?_
          have hP9 : va_P G vwCl [(h0, .inr (0, [.ref k0, .ref k1, .ref h1, .ref h2, .ref k2, .ref k3, .ref k4, .ref k5, .ref k6, .ref k7, .ref k8, .int i0, .int i1, .int i2, .int i3])), (h1, aI cI 20 f4), (h2, aI cI 20 f5)] H := hP.sub [0, 1, 2] rfl
          have hD9 : va_D A [(h0, .inr (0, [.ref k0, .ref k1, .ref h1, .ref h2, .ref k2, .ref k3, .ref k4, .ref k5, .ref k6, .ref k7, .ref k8, .int i0, .int i1, .int i2, .int i3])), (h1, aI cI 20 f4), (h2, aI cI 20 f5)] := hD.sub [0, 1, 2] (by decide) rfl
          rw [← hQQ]
          exact W.zret (v := 1) hx hb hr rfl (fun t ht hW => ⟨⟨_, (), rfl, hwp, by rw [ht]; exact hP9, hD9⟩, hS.F ht⟩) hS.2.2 dX0_onOneSide_44
def wX0_meet (i0 : Int32) (i1 : Int32) (i2 : Int32) (i3 : Int32) (f4 : Nat → Int32) (f5 : Nat → Int32) (p0 : Int32) (p1 : Int32) (p2 : Int32) (p3 : Int32) (K : Int32 → Unit → Prop) : Prop := (vp_in p0 20 ∧ (vp_in p1 20 ∧ (vp_in p2 20 ∧ (vp_in p3 20 ∧ (((if (f4 (Int32.toNatClampNeg p0)) < (f4 (Int32.toNatClampNeg p1)) then (f4 (Int32.toNatClampNeg p1)) else (f4 (Int32.toNatClampNeg p0))) < (if (f4 (Int32.toNatClampNeg p3)) < (f4 (Int32.toNatClampNeg p2)) then (f4 (Int32.toNatClampNeg p3)) else (f4 (Int32.toNatClampNeg p2))) → K (0 : Int32) ()) ∧ (¬ (if (f4 (Int32.toNatClampNeg p0)) < (f4 (Int32.toNatClampNeg p1)) then (f4 (Int32.toNatClampNeg p1)) else (f4 (Int32.toNatClampNeg p0))) < (if (f4 (Int32.toNatClampNeg p3)) < (f4 (Int32.toNatClampNeg p2)) then (f4 (Int32.toNatClampNeg p3)) else (f4 (Int32.toNatClampNeg p2))) → (vp_in p2 20 ∧ (vp_in p3 20 ∧ (vp_in p0 20 ∧ (vp_in p1 20 ∧ (((if (f4 (Int32.toNatClampNeg p2)) < (f4 (Int32.toNatClampNeg p3)) then (f4 (Int32.toNatClampNeg p3)) else (f4 (Int32.toNatClampNeg p2))) < (if (f4 (Int32.toNatClampNeg p1)) < (f4 (Int32.toNatClampNeg p0)) then (f4 (Int32.toNatClampNeg p1)) else (f4 (Int32.toNatClampNeg p0))) → K (0 : Int32) ()) ∧ (¬ (if (f4 (Int32.toNatClampNeg p2)) < (f4 (Int32.toNatClampNeg p3)) then (f4 (Int32.toNatClampNeg p3)) else (f4 (Int32.toNatClampNeg p2))) < (if (f4 (Int32.toNatClampNeg p1)) < (f4 (Int32.toNatClampNeg p0)) then (f4 (Int32.toNatClampNeg p1)) else (f4 (Int32.toNatClampNeg p0))) → (vp_in p0 20 ∧ (vp_in p1 20 ∧ (vp_in p2 20 ∧ (vp_in p3 20 ∧ (((if (f5 (Int32.toNatClampNeg p0)) < (f5 (Int32.toNatClampNeg p1)) then (f5 (Int32.toNatClampNeg p1)) else (f5 (Int32.toNatClampNeg p0))) < (if (f5 (Int32.toNatClampNeg p3)) < (f5 (Int32.toNatClampNeg p2)) then (f5 (Int32.toNatClampNeg p3)) else (f5 (Int32.toNatClampNeg p2))) → K (0 : Int32) ()) ∧ (¬ (if (f5 (Int32.toNatClampNeg p0)) < (f5 (Int32.toNatClampNeg p1)) then (f5 (Int32.toNatClampNeg p1)) else (f5 (Int32.toNatClampNeg p0))) < (if (f5 (Int32.toNatClampNeg p3)) < (f5 (Int32.toNatClampNeg p2)) then (f5 (Int32.toNatClampNeg p3)) else (f5 (Int32.toNatClampNeg p2))) → (vp_in p2 20 ∧ (vp_in p3 20 ∧ (vp_in p0 20 ∧ (vp_in p1 20 ∧ (((if (f5 (Int32.toNatClampNeg p1)) < (f5 (Int32.toNatClampNeg p0)) then (f5 (Int32.toNatClampNeg p1)) else (f5 (Int32.toNatClampNeg p0))) ≤ (if (f5 (Int32.toNatClampNeg p2)) < (f5 (Int32.toNatClampNeg p3)) then (f5 (Int32.toNatClampNeg p3)) else (f5 (Int32.toNatClampNeg p2))) → (wX0_onOneSide i0 i1 i2 i3 f4 f5 p0 p1 p2 p3 (fun r144 _ => ((¬ r144 = 0 → K (0 : Int32) ()) ∧ (r144 = 0 → (wX0_onOneSide i0 i1 i2 i3 f4 f5 p2 p3 p0 p1 (fun r156 _ => ((¬ r156 = 0 → K (0 : Int32) ()) ∧ (r156 = 0 → K (1 : Int32) ()))))))))) ∧ (¬ (if (f5 (Int32.toNatClampNeg p1)) < (f5 (Int32.toNatClampNeg p0)) then (f5 (Int32.toNatClampNeg p1)) else (f5 (Int32.toNatClampNeg p0))) ≤ (if (f5 (Int32.toNatClampNeg p2)) < (f5 (Int32.toNatClampNeg p3)) then (f5 (Int32.toNatClampNeg p3)) else (f5 (Int32.toNatClampNeg p2))) → K (0 : Int32) ()))))))))))))))))))))))))
set_option maxHeartbeats 4000000 in
set_option maxRecDepth 100000 in
theorem zX0_meet (l : Launch) (G : va_G) (cI cJ cZ : ClassId) (h0 h1 h2 k0 k1 k2 k3 k4 k5 k6 k7 k8 sz : Nat) (i0 : Int32) (i1 : Int32) (i2 : Int32) (i3 : Int32) (f4 : Nat → Int32) (f5 : Nat → Int32) (p0 : Int32) (p1 : Int32) (p2 : Int32) (p3 : Int32) (K : Int32 → Unit → Prop) (hwp : wX0_meet i0 i1 i2 i3 f4 f5 p0 p1 p2 p3 K) : Met l yX0_meet (xw yX0_meet cX0_meet 5 (some .boolean)) ({ frames := 2, cells := 0, slots := 0, locals := 49 }) (xPc G cI cJ cZ [.ref h0, .int p0, .int p1, .int p2, .int p3] [(h0, .inr (0, [.ref k0, .ref k1, .ref h1, .ref h2, .ref k2, .ref k3, .ref k4, .ref k5, .ref k6, .ref k7, .ref k8, .int i0, .int i1, .int i2, .int i3])), (h1, aI cI 20 f4), (h2, aI cI 20 f5)] sz) (va_Qi (fun (r : Int32) (u : Unit) => K r u) (fun (u : Unit) t => xB G (va_A [(h0, .inr (0, [.ref k0, .ref k1, .ref h1, .ref h2, .ref k2, .ref k3, .ref k4, .ref k5, .ref k6, .ref k7, .ref k8, .int i0, .int i1, .int i2, .int i3])), (h1, aI cI 20 f4), (h2, aI cI 20 f5)] sz) [(h0, .inr (0, [.ref k0, .ref k1, .ref h1, .ref h2, .ref k2, .ref k3, .ref k4, .ref k5, .ref k6, .ref k7, .ref k8, .int i0, .int i1, .int i2, .int i3])), (h1, aI cI 20 f4), (h2, aI cI 20 f5)] t) (va_A [(h0, .inr (0, [.ref k0, .ref k1, .ref h1, .ref h2, .ref k2, .ref k3, .ref k4, .ref k5, .ref k6, .ref k7, .ref k8, .int i0, .int i1, .int i2, .int i3])), (h1, aI cI 20 f4), (h2, aI cI 20 f5)] sz)) 0 0 (va_A [(h0, .inr (0, [.ref k0, .ref k1, .ref h1, .ref h2, .ref k2, .ref k3, .ref k4, .ref k5, .ref k6, .ref k7, .ref k8, .int i0, .int i1, .int i2, .int i3])), (h1, aI cI 20 f4), (h2, aI cI 20 f5)] sz) := by
  refine Met.ofW (cc := cX0_meet) (maxL := 5) (ret := (some .boolean)) (by decide) rfl ?_
  intro p e s m args below meth c s₁ B hml hv
  obtain ⟨rfl, hsz, hP, hK, hD0, hN⟩ := hv
  have hx := B.exec
  have hb := B.bytes
  have hr := B.returns
  have hts : ∀ w ∈ xW, w.before _ s = true := fun w h => atoms_spec (ws := xw yX0_meet cX0_meet 5 (some .boolean)) B.pre w (List.mem_cons_of_mem _ h)
  have hown : s.vm.findClass RX0 = some m.cls := findClass_of_methodNamed B.named
  have hlocks := B.notSynchronized
  subst hsz
  have hD := hD0.self (sz := s.heap.size)
  clear hD0
  generalize hAe : va_A [(h0, .inr (0, [.ref k0, .ref k1, .ref h1, .ref h2, .ref k2, .ref k3, .ref k4, .ref k5, .ref k6, .ref k7, .ref k8, .int i0, .int i1, .int i2, .int i3])), (h1, aI cI 20 f4), (h2, aI cI 20 f5)] s.heap.size = A at hD ⊢
  have hA : ∀ q : Nat, s.heap.size ≤ q → A q := fun q h => by rw [← hAe]; exact Or.inr h
  clear hAe
  have hS : va_S A s.heap s.heap [] := va_S.rf
  replace hP : va_P G vwCl [(h0, .inr (0, [.ref k0, .ref k1, .ref h1, .ref h2, .ref k2, .ref k3, .ref k4, .ref k5, .ref k6, .ref k7, .ref k8, .int i0, .int i1, .int i2, .int i3])), (h1, aI cI 20 f4), (h2, aI cI 20 f5)] s.heap := hP
  have hl := lv_entry ([.ref h0, .int p0, .int p1, .int p2, .int p3]) (n := 5) (Nat.le_of_ble_eq_true rfl)
  rw [lg_entry_eq]
  generalize (lg_sl ([.ref h0, .int p0, .int p1, .int p2, .int p3]) ++ List.replicate (5 - (lg_sl ([.ref h0, .int p0, .int p1, .int p2, .int p3])).length) Slot.unset).toArray = ls at hl ⊢
  replace hl : lv_has ls 5 [(0, .ref h0), (1, .int p0), (2, .int p1), (3, .int p2), (4, .int p3)] := hl
  generalize hQQ : MQ below _ _ s 0 0 _ = QQ
  skip
  unfold wX0_meet at hwp
  refine lv_aload_n hx hb dX0_meet_0 rfl (lv_at hl 0 rfl) ?_
  refine va_get (D := G) (ci := 0) (v := .ref h1) (C := RX0) (T := TX0) (N := 15) hx hb hts xinX0 hown hK hP 0 rfl rfl 2 (by decide) (hts _ wo_159) (fun _ h9 => h9) rfl dX0_meet_1 ?_
  refine lv_iload_n hx hb dX0_meet_4 rfl (lv_at hl 1 rfl) ?_
  obtain ⟨hi, hwp⟩ := hwp
  refine va_iald hx hb hK hP 1 0 rfl rfl hi dX0_meet_5 ?_
  refine lv_aload_n hx hb dX0_meet_6 rfl (lv_at hl 0 rfl) ?_
  refine va_get (D := G) (ci := 0) (v := .ref h1) (C := RX0) (T := TX0) (N := 15) hx hb hts xinX0 hown hK hP 0 rfl rfl 2 (by decide) (hts _ wo_159) (fun _ h9 => h9) rfl dX0_meet_7 ?_
  refine lv_iload_n hx hb dX0_meet_10 rfl (lv_at hl 2 rfl) ?_
  obtain ⟨hi, hwp⟩ := hwp
  refine va_iald hx hb hK hP 1 0 rfl rfl hi dX0_meet_11 ?_
  refine va_mmax hx hb (by rw [hml]; exact hl.1.symm) hown (hts _ wo_181) (hts _ wo_182) (hts _ wo_183) (hts _ wo_184) (Nat.le_of_ble_eq_true rfl) (Nat.le_of_ble_eq_true rfl) (Nat.le_of_ble_eq_true rfl) (Nat.le_of_ble_eq_true rfl) dX0_meet_12 ?_
  refine lv_aload_n hx hb dX0_meet_15 rfl (lv_at hl 0 rfl) ?_
  refine va_get (D := G) (ci := 0) (v := .ref h1) (C := RX0) (T := TX0) (N := 15) hx hb hts xinX0 hown hK hP 0 rfl rfl 2 (by decide) (hts _ wo_159) (fun _ h9 => h9) rfl dX0_meet_16 ?_
  refine lv_iload_n hx hb dX0_meet_19 rfl (lv_at hl 3 rfl) ?_
  obtain ⟨hi, hwp⟩ := hwp
  refine va_iald hx hb hK hP 1 0 rfl rfl hi dX0_meet_20 ?_
  refine lv_aload_n hx hb dX0_meet_21 rfl (lv_at hl 0 rfl) ?_
  refine va_get (D := G) (ci := 0) (v := .ref h1) (C := RX0) (T := TX0) (N := 15) hx hb hts xinX0 hown hK hP 0 rfl rfl 2 (by decide) (hts _ wo_159) (fun _ h9 => h9) rfl dX0_meet_22 ?_
  refine lv_iload hx hb dX0_meet_25 (lv_at hl 4 rfl) ?_
  obtain ⟨hi, hwp⟩ := hwp
  refine va_iald hx hb hK hP 1 0 rfl rfl hi dX0_meet_27 ?_
  refine va_mmin hx hb (by rw [hml]; exact hl.1.symm) hown (hts _ wo_185) (hts _ wo_186) (hts _ wo_183) (hts _ wo_187) (Nat.le_of_ble_eq_true rfl) (Nat.le_of_ble_eq_true rfl) (Nat.le_of_ble_eq_true rfl) (Nat.le_of_ble_eq_true rfl) dX0_meet_28 ?_
  refine lv_icmp_lt (tgt := 136) hx hb dX0_meet_31 (by decide) (fun c31 => ?_) (fun c31 => ?_)
  · replace hwp := hwp.1 c31
    refine lv_iconst (v := 0) hx hb dX0_meet_136 (by decide) ?_
    have hP9 : va_P G vwCl [(h0, .inr (0, [.ref k0, .ref k1, .ref h1, .ref h2, .ref k2, .ref k3, .ref k4, .ref k5, .ref k6, .ref k7, .ref k8, .int i0, .int i1, .int i2, .int i3])), (h1, aI cI 20 f4), (h2, aI cI 20 f5)] s.heap := hP.sub [0, 1, 2] rfl
    have hD9 : va_D A [(h0, .inr (0, [.ref k0, .ref k1, .ref h1, .ref h2, .ref k2, .ref k3, .ref k4, .ref k5, .ref k6, .ref k7, .ref k8, .int i0, .int i1, .int i2, .int i3])), (h1, aI cI 20 f4), (h2, aI cI 20 f5)] := hD.sub [0, 1, 2] (by decide) rfl
    rw [← hQQ]
    exact W.zret (v := 0) hx hb hr rfl (fun t ht hW => ⟨⟨_, (), rfl, hwp, by rw [ht]; exact hP9, hD9⟩, hS.F ht⟩) hS.2.2 dX0_meet_137
  · replace hwp := hwp.2 c31
    refine lv_aload_n hx hb dX0_meet_34 rfl (lv_at hl 0 rfl) ?_
    refine va_get (D := G) (ci := 0) (v := .ref h1) (C := RX0) (T := TX0) (N := 15) hx hb hts xinX0 hown hK hP 0 rfl rfl 2 (by decide) (hts _ wo_159) (fun _ h9 => h9) rfl dX0_meet_35 ?_
    refine lv_iload_n hx hb dX0_meet_38 rfl (lv_at hl 3 rfl) ?_
    obtain ⟨hi, hwp⟩ := hwp
    refine va_iald hx hb hK hP 1 0 rfl rfl hi dX0_meet_39 ?_
    refine lv_aload_n hx hb dX0_meet_40 rfl (lv_at hl 0 rfl) ?_
    refine va_get (D := G) (ci := 0) (v := .ref h1) (C := RX0) (T := TX0) (N := 15) hx hb hts xinX0 hown hK hP 0 rfl rfl 2 (by decide) (hts _ wo_159) (fun _ h9 => h9) rfl dX0_meet_41 ?_
    refine lv_iload hx hb dX0_meet_44 (lv_at hl 4 rfl) ?_
    obtain ⟨hi, hwp⟩ := hwp
    refine va_iald hx hb hK hP 1 0 rfl rfl hi dX0_meet_46 ?_
    refine va_mmax hx hb (by rw [hml]; exact hl.1.symm) hown (hts _ wo_181) (hts _ wo_182) (hts _ wo_183) (hts _ wo_184) (Nat.le_of_ble_eq_true rfl) (Nat.le_of_ble_eq_true rfl) (Nat.le_of_ble_eq_true rfl) (Nat.le_of_ble_eq_true rfl) dX0_meet_47 ?_
    refine lv_aload_n hx hb dX0_meet_50 rfl (lv_at hl 0 rfl) ?_
    refine va_get (D := G) (ci := 0) (v := .ref h1) (C := RX0) (T := TX0) (N := 15) hx hb hts xinX0 hown hK hP 0 rfl rfl 2 (by decide) (hts _ wo_159) (fun _ h9 => h9) rfl dX0_meet_51 ?_
    refine lv_iload_n hx hb dX0_meet_54 rfl (lv_at hl 1 rfl) ?_
    obtain ⟨hi, hwp⟩ := hwp
    refine va_iald hx hb hK hP 1 0 rfl rfl hi dX0_meet_55 ?_
    refine lv_aload_n hx hb dX0_meet_56 rfl (lv_at hl 0 rfl) ?_
    refine va_get (D := G) (ci := 0) (v := .ref h1) (C := RX0) (T := TX0) (N := 15) hx hb hts xinX0 hown hK hP 0 rfl rfl 2 (by decide) (hts _ wo_159) (fun _ h9 => h9) rfl dX0_meet_57 ?_
    refine lv_iload_n hx hb dX0_meet_60 rfl (lv_at hl 2 rfl) ?_
    obtain ⟨hi, hwp⟩ := hwp
    refine va_iald hx hb hK hP 1 0 rfl rfl hi dX0_meet_61 ?_
    refine va_mmin hx hb (by rw [hml]; exact hl.1.symm) hown (hts _ wo_185) (hts _ wo_186) (hts _ wo_183) (hts _ wo_187) (Nat.le_of_ble_eq_true rfl) (Nat.le_of_ble_eq_true rfl) (Nat.le_of_ble_eq_true rfl) (Nat.le_of_ble_eq_true rfl) dX0_meet_62 ?_
    refine lv_icmp_lt (tgt := 136) hx hb dX0_meet_65 (by decide) (fun c65 => ?_) (fun c65 => ?_)
    · replace hwp := hwp.1 c65
      refine lv_iconst (v := 0) hx hb dX0_meet_136 (by decide) ?_
      have hP9 : va_P G vwCl [(h0, .inr (0, [.ref k0, .ref k1, .ref h1, .ref h2, .ref k2, .ref k3, .ref k4, .ref k5, .ref k6, .ref k7, .ref k8, .int i0, .int i1, .int i2, .int i3])), (h1, aI cI 20 f4), (h2, aI cI 20 f5)] s.heap := hP.sub [0, 1, 2] rfl
      have hD9 : va_D A [(h0, .inr (0, [.ref k0, .ref k1, .ref h1, .ref h2, .ref k2, .ref k3, .ref k4, .ref k5, .ref k6, .ref k7, .ref k8, .int i0, .int i1, .int i2, .int i3])), (h1, aI cI 20 f4), (h2, aI cI 20 f5)] := hD.sub [0, 1, 2] (by decide) rfl
      rw [← hQQ]
      exact W.zret (v := 0) hx hb hr rfl (fun t ht hW => ⟨⟨_, (), rfl, hwp, by rw [ht]; exact hP9, hD9⟩, hS.F ht⟩) hS.2.2 dX0_meet_137
    · replace hwp := hwp.2 c65
      refine lv_aload_n hx hb dX0_meet_68 rfl (lv_at hl 0 rfl) ?_
      refine va_get (D := G) (ci := 0) (v := .ref h2) (C := RX0) (T := TX0) (N := 15) hx hb hts xinX0 hown hK hP 0 rfl rfl 3 (by decide) (hts _ wo_160) (fun _ h9 => h9) rfl dX0_meet_69 ?_
      refine lv_iload_n hx hb dX0_meet_72 rfl (lv_at hl 1 rfl) ?_
      obtain ⟨hi, hwp⟩ := hwp
      refine va_iald hx hb hK hP 2 0 rfl rfl hi dX0_meet_73 ?_
      refine lv_aload_n hx hb dX0_meet_74 rfl (lv_at hl 0 rfl) ?_
      refine va_get (D := G) (ci := 0) (v := .ref h2) (C := RX0) (T := TX0) (N := 15) hx hb hts xinX0 hown hK hP 0 rfl rfl 3 (by decide) (hts _ wo_160) (fun _ h9 => h9) rfl dX0_meet_75 ?_
      refine lv_iload_n hx hb dX0_meet_78 rfl (lv_at hl 2 rfl) ?_
      obtain ⟨hi, hwp⟩ := hwp
      refine va_iald hx hb hK hP 2 0 rfl rfl hi dX0_meet_79 ?_
      refine va_mmax hx hb (by rw [hml]; exact hl.1.symm) hown (hts _ wo_181) (hts _ wo_182) (hts _ wo_183) (hts _ wo_184) (Nat.le_of_ble_eq_true rfl) (Nat.le_of_ble_eq_true rfl) (Nat.le_of_ble_eq_true rfl) (Nat.le_of_ble_eq_true rfl) dX0_meet_80 ?_
      refine lv_aload_n hx hb dX0_meet_83 rfl (lv_at hl 0 rfl) ?_
      refine va_get (D := G) (ci := 0) (v := .ref h2) (C := RX0) (T := TX0) (N := 15) hx hb hts xinX0 hown hK hP 0 rfl rfl 3 (by decide) (hts _ wo_160) (fun _ h9 => h9) rfl dX0_meet_84 ?_
      refine lv_iload_n hx hb dX0_meet_87 rfl (lv_at hl 3 rfl) ?_
      obtain ⟨hi, hwp⟩ := hwp
      refine va_iald hx hb hK hP 2 0 rfl rfl hi dX0_meet_88 ?_
      refine lv_aload_n hx hb dX0_meet_89 rfl (lv_at hl 0 rfl) ?_
      refine va_get (D := G) (ci := 0) (v := .ref h2) (C := RX0) (T := TX0) (N := 15) hx hb hts xinX0 hown hK hP 0 rfl rfl 3 (by decide) (hts _ wo_160) (fun _ h9 => h9) rfl dX0_meet_90 ?_
      refine lv_iload hx hb dX0_meet_93 (lv_at hl 4 rfl) ?_
      obtain ⟨hi, hwp⟩ := hwp
      refine va_iald hx hb hK hP 2 0 rfl rfl hi dX0_meet_95 ?_
      refine va_mmin hx hb (by rw [hml]; exact hl.1.symm) hown (hts _ wo_185) (hts _ wo_186) (hts _ wo_183) (hts _ wo_187) (Nat.le_of_ble_eq_true rfl) (Nat.le_of_ble_eq_true rfl) (Nat.le_of_ble_eq_true rfl) (Nat.le_of_ble_eq_true rfl) dX0_meet_96 ?_
      refine lv_icmp_lt (tgt := 136) hx hb dX0_meet_99 (by decide) (fun c99 => ?_) (fun c99 => ?_)
      · replace hwp := hwp.1 c99
        refine lv_iconst (v := 0) hx hb dX0_meet_136 (by decide) ?_
        have hP9 : va_P G vwCl [(h0, .inr (0, [.ref k0, .ref k1, .ref h1, .ref h2, .ref k2, .ref k3, .ref k4, .ref k5, .ref k6, .ref k7, .ref k8, .int i0, .int i1, .int i2, .int i3])), (h1, aI cI 20 f4), (h2, aI cI 20 f5)] s.heap := hP.sub [0, 1, 2] rfl
        have hD9 : va_D A [(h0, .inr (0, [.ref k0, .ref k1, .ref h1, .ref h2, .ref k2, .ref k3, .ref k4, .ref k5, .ref k6, .ref k7, .ref k8, .int i0, .int i1, .int i2, .int i3])), (h1, aI cI 20 f4), (h2, aI cI 20 f5)] := hD.sub [0, 1, 2] (by decide) rfl
        rw [← hQQ]
        exact W.zret (v := 0) hx hb hr rfl (fun t ht hW => ⟨⟨_, (), rfl, hwp, by rw [ht]; exact hP9, hD9⟩, hS.F ht⟩) hS.2.2 dX0_meet_137
      · replace hwp := hwp.2 c99
        refine lv_aload_n hx hb dX0_meet_102 rfl (lv_at hl 0 rfl) ?_
        refine va_get (D := G) (ci := 0) (v := .ref h2) (C := RX0) (T := TX0) (N := 15) hx hb hts xinX0 hown hK hP 0 rfl rfl 3 (by decide) (hts _ wo_160) (fun _ h9 => h9) rfl dX0_meet_103 ?_
        refine lv_iload_n hx hb dX0_meet_106 rfl (lv_at hl 3 rfl) ?_
        obtain ⟨hi, hwp⟩ := hwp
        refine va_iald hx hb hK hP 2 0 rfl rfl hi dX0_meet_107 ?_
        refine lv_aload_n hx hb dX0_meet_108 rfl (lv_at hl 0 rfl) ?_
        refine va_get (D := G) (ci := 0) (v := .ref h2) (C := RX0) (T := TX0) (N := 15) hx hb hts xinX0 hown hK hP 0 rfl rfl 3 (by decide) (hts _ wo_160) (fun _ h9 => h9) rfl dX0_meet_109 ?_
        refine lv_iload hx hb dX0_meet_112 (lv_at hl 4 rfl) ?_
        obtain ⟨hi, hwp⟩ := hwp
        refine va_iald hx hb hK hP 2 0 rfl rfl hi dX0_meet_114 ?_
        refine va_mmax hx hb (by rw [hml]; exact hl.1.symm) hown (hts _ wo_181) (hts _ wo_182) (hts _ wo_183) (hts _ wo_184) (Nat.le_of_ble_eq_true rfl) (Nat.le_of_ble_eq_true rfl) (Nat.le_of_ble_eq_true rfl) (Nat.le_of_ble_eq_true rfl) dX0_meet_115 ?_
        refine lv_aload_n hx hb dX0_meet_118 rfl (lv_at hl 0 rfl) ?_
        refine va_get (D := G) (ci := 0) (v := .ref h2) (C := RX0) (T := TX0) (N := 15) hx hb hts xinX0 hown hK hP 0 rfl rfl 3 (by decide) (hts _ wo_160) (fun _ h9 => h9) rfl dX0_meet_119 ?_
        refine lv_iload_n hx hb dX0_meet_122 rfl (lv_at hl 1 rfl) ?_
        obtain ⟨hi, hwp⟩ := hwp
        refine va_iald hx hb hK hP 2 0 rfl rfl hi dX0_meet_123 ?_
        refine lv_aload_n hx hb dX0_meet_124 rfl (lv_at hl 0 rfl) ?_
        refine va_get (D := G) (ci := 0) (v := .ref h2) (C := RX0) (T := TX0) (N := 15) hx hb hts xinX0 hown hK hP 0 rfl rfl 3 (by decide) (hts _ wo_160) (fun _ h9 => h9) rfl dX0_meet_125 ?_
        refine lv_iload_n hx hb dX0_meet_128 rfl (lv_at hl 2 rfl) ?_
        obtain ⟨hi, hwp⟩ := hwp
        refine va_iald hx hb hK hP 2 0 rfl rfl hi dX0_meet_129 ?_
        refine va_mmin hx hb (by rw [hml]; exact hl.1.symm) hown (hts _ wo_185) (hts _ wo_186) (hts _ wo_183) (hts _ wo_187) (Nat.le_of_ble_eq_true rfl) (Nat.le_of_ble_eq_true rfl) (Nat.le_of_ble_eq_true rfl) (Nat.le_of_ble_eq_true rfl) dX0_meet_130 ?_
        refine lv_icmp_ge (tgt := 138) hx hb dX0_meet_133 (by decide) (fun c133 => ?_) (fun c133 => ?_)
        · replace hwp := hwp.1 c133
          refine lv_aload_n hx hb dX0_meet_138 rfl (lv_at hl 0 rfl) ?_
          refine lv_iload_n hx hb dX0_meet_139 rfl (lv_at hl 1 rfl) ?_
          refine lv_iload_n hx hb dX0_meet_140 rfl (lv_at hl 2 rfl) ?_
          refine lv_iload_n hx hb dX0_meet_141 rfl (lv_at hl 3 rfl) ?_
          refine lv_iload hx hb dX0_meet_142 (lv_at hl 4 rfl) ?_
          refine xci (wr := []) (va_runV (As := [.int p0, .int p1, .int p2, .int p3]) (rest := []) ⟨hx, hb, hml, hown, hts⟩ (zX0_onOneSide l G cI cJ cZ h0 h1 h2 k0 k1 k2 k3 k4 k5 k6 k7 k8 s.heap.size i0 i1 i2 i3 f4 f5 p0 p1 p2 p3 _ hwp) (cwV 4 hts (xgoodV wo_188 wo_189 wo_190 wo_191 wo_141) rfl rfl rfl (by decide +kernel) ⟨Nat.le_of_ble_eq_true rfl, Nat.le_of_ble_eq_true rfl⟩) (xPreV (q := (RX0, TX0, 15)) (q0 := 0) hK hN hP hD [0, 1, 2] (by decide) rfl rfl rfl) rfl rfl hl.1 rfl (lv_room (Nat.le_of_ble_eq_true rfl)) dX0_meet_144 ⟨Nat.le_of_ble_eq_true rfl, Nat.le_of_ble_eq_true rfl⟩) hP hD hS hA [0, 1, 2] [] rfl rfl (by decide) (by decide) (fun r144 u144 H locs hwp hP hD hS => ?_)
          replace hP : va_P G vwCl [(h0, .inr (0, [.ref k0, .ref k1, .ref h1, .ref h2, .ref k2, .ref k3, .ref k4, .ref k5, .ref k6, .ref k7, .ref k8, .int i0, .int i1, .int i2, .int i3])), (h1, aI cI 20 f4), (h2, aI cI 20 f5)] H := hP
          replace hD : va_D A [(h0, .inr (0, [.ref k0, .ref k1, .ref h1, .ref h2, .ref k2, .ref k3, .ref k4, .ref k5, .ref k6, .ref k7, .ref k8, .int i0, .int i1, .int i2, .int i3])), (h1, aI cI 20 f4), (h2, aI cI 20 f5)] := hD
          refine lv_if_ne (tgt := 166) hx hb dX0_meet_147 (by decide) (fun c147 => ?_) (fun c147 => ?_)
          · replace hwp := hwp.1 c147
            refine lv_iconst (v := 0) hx hb dX0_meet_166 (by decide) ?_
            have hP9 : va_P G vwCl [(h0, .inr (0, [.ref k0, .ref k1, .ref h1, .ref h2, .ref k2, .ref k3, .ref k4, .ref k5, .ref k6, .ref k7, .ref k8, .int i0, .int i1, .int i2, .int i3])), (h1, aI cI 20 f4), (h2, aI cI 20 f5)] H := hP.sub [0, 1, 2] rfl
            have hD9 : va_D A [(h0, .inr (0, [.ref k0, .ref k1, .ref h1, .ref h2, .ref k2, .ref k3, .ref k4, .ref k5, .ref k6, .ref k7, .ref k8, .int i0, .int i1, .int i2, .int i3])), (h1, aI cI 20 f4), (h2, aI cI 20 f5)] := hD.sub [0, 1, 2] (by decide) rfl
            rw [← hQQ]
            exact W.zret (v := 0) hx hb hr rfl (fun t ht hW => ⟨⟨_, (), rfl, hwp, by rw [ht]; exact hP9, hD9⟩, hS.F ht⟩) hS.2.2 dX0_meet_167
          · replace hwp := hwp.2 c147
            refine lv_aload_n hx hb dX0_meet_150 rfl (lv_at hl 0 rfl) ?_
            refine lv_iload_n hx hb dX0_meet_151 rfl (lv_at hl 3 rfl) ?_
            refine lv_iload hx hb dX0_meet_152 (lv_at hl 4 rfl) ?_
            refine lv_iload_n hx hb dX0_meet_154 rfl (lv_at hl 1 rfl) ?_
            refine lv_iload_n hx hb dX0_meet_155 rfl (lv_at hl 2 rfl) ?_
            refine xci (wr := []) (va_runV (As := [.int p2, .int p3, .int p0, .int p1]) (rest := []) ⟨hx, hb, hml, hown, hts⟩ (zX0_onOneSide l G cI cJ cZ h0 h1 h2 k0 k1 k2 k3 k4 k5 k6 k7 k8 H.size i0 i1 i2 i3 f4 f5 p2 p3 p0 p1 _ hwp) (cwV 4 hts (xgoodV wo_188 wo_189 wo_190 wo_191 wo_141) rfl rfl rfl (by decide +kernel) ⟨Nat.le_of_ble_eq_true rfl, Nat.le_of_ble_eq_true rfl⟩) (xPreV (q := (RX0, TX0, 15)) (q0 := 0) hK hN hP hD [0, 1, 2] (by decide) rfl rfl rfl) rfl rfl hl.1 rfl (lv_room (Nat.le_of_ble_eq_true rfl)) dX0_meet_156 ⟨Nat.le_of_ble_eq_true rfl, Nat.le_of_ble_eq_true rfl⟩) hP hD hS hA [0, 1, 2] [] rfl rfl (by decide) (by decide) (fun r156 u156 H locs hwp hP hD hS => ?_)
            replace hP : va_P G vwCl [(h0, .inr (0, [.ref k0, .ref k1, .ref h1, .ref h2, .ref k2, .ref k3, .ref k4, .ref k5, .ref k6, .ref k7, .ref k8, .int i0, .int i1, .int i2, .int i3])), (h1, aI cI 20 f4), (h2, aI cI 20 f5)] H := hP
            replace hD : va_D A [(h0, .inr (0, [.ref k0, .ref k1, .ref h1, .ref h2, .ref k2, .ref k3, .ref k4, .ref k5, .ref k6, .ref k7, .ref k8, .int i0, .int i1, .int i2, .int i3])), (h1, aI cI 20 f4), (h2, aI cI 20 f5)] := hD
            refine lv_if_ne (tgt := 166) hx hb dX0_meet_159 (by decide) (fun c159 => ?_) (fun c159 => ?_)
            · replace hwp := hwp.1 c159
              refine lv_iconst (v := 0) hx hb dX0_meet_166 (by decide) ?_
              have hP9 : va_P G vwCl [(h0, .inr (0, [.ref k0, .ref k1, .ref h1, .ref h2, .ref k2, .ref k3, .ref k4, .ref k5, .ref k6, .ref k7, .ref k8, .int i0, .int i1, .int i2, .int i3])), (h1, aI cI 20 f4), (h2, aI cI 20 f5)] H := hP.sub [0, 1, 2] rfl
              have hD9 : va_D A [(h0, .inr (0, [.ref k0, .ref k1, .ref h1, .ref h2, .ref k2, .ref k3, .ref k4, .ref k5, .ref k6, .ref k7, .ref k8, .int i0, .int i1, .int i2, .int i3])), (h1, aI cI 20 f4), (h2, aI cI 20 f5)] := hD.sub [0, 1, 2] (by decide) rfl
              rw [← hQQ]
              exact W.zret (v := 0) hx hb hr rfl (fun t ht hW => ⟨⟨_, (), rfl, hwp, by rw [ht]; exact hP9, hD9⟩, hS.F ht⟩) hS.2.2 dX0_meet_167
            · replace hwp := hwp.2 c159
              refine lv_iconst (v := 1) hx hb dX0_meet_162 (by decide) ?_
              refine lv_goto (tgt := 167) hx hb dX0_meet_163 (by decide) ?_
              have hP9 : va_P G vwCl [(h0, .inr (0, [.ref k0, .ref k1, .ref h1, .ref h2, .ref k2, .ref k3, .ref k4, .ref k5, .ref k6, .ref k7, .ref k8, .int i0, .int i1, .int i2, .int i3])), (h1, aI cI 20 f4), (h2, aI cI 20 f5)] H := hP.sub [0, 1, 2] rfl
              have hD9 : va_D A [(h0, .inr (0, [.ref k0, .ref k1, .ref h1, .ref h2, .ref k2, .ref k3, .ref k4, .ref k5, .ref k6, .ref k7, .ref k8, .int i0, .int i1, .int i2, .int i3])), (h1, aI cI 20 f4), (h2, aI cI 20 f5)] := hD.sub [0, 1, 2] (by decide) rfl
              rw [← hQQ]
              exact W.zret (v := 1) hx hb hr rfl (fun t ht hW => ⟨⟨_, (), rfl, hwp, by rw [ht]; exact hP9, hD9⟩, hS.F ht⟩) hS.2.2 dX0_meet_167
        · replace hwp := hwp.2 c133
          refine lv_iconst (v := 0) hx hb dX0_meet_136 (by decide) ?_
          have hP9 : va_P G vwCl [(h0, .inr (0, [.ref k0, .ref k1, .ref h1, .ref h2, .ref k2, .ref k3, .ref k4, .ref k5, .ref k6, .ref k7, .ref k8, .int i0, .int i1, .int i2, .int i3])), (h1, aI cI 20 f4), (h2, aI cI 20 f5)] s.heap := hP.sub [0, 1, 2] rfl
          have hD9 : va_D A [(h0, .inr (0, [.ref k0, .ref k1, .ref h1, .ref h2, .ref k2, .ref k3, .ref k4, .ref k5, .ref k6, .ref k7, .ref k8, .int i0, .int i1, .int i2, .int i3])), (h1, aI cI 20 f4), (h2, aI cI 20 f5)] := hD.sub [0, 1, 2] (by decide) rfl
          rw [← hQQ]
          exact W.zret (v := 0) hx hb hr rfl (fun t ht hW => ⟨⟨_, (), rfl, hwp, by rw [ht]; exact hP9, hD9⟩, hS.F ht⟩) hS.2.2 dX0_meet_137
def wLX4_arcAt_4 (i1 : Int32) (f3 : Nat → Int32) (p0 : Int32) (K : Int32 → Unit → Prop)  : Nat → Int32 → Int32 → Prop
  | 0, _, _ => False
  | n4 + 1, t4_0, t4_1 => ((i1 ≤ t4_1 → K ((-1) : Int32) ()) ∧ (¬ i1 ≤ t4_1 → (vp_in t4_1 80 ∧ (((f3 (Int32.toNatClampNeg t4_1)) = 0 → (wLX4_arcAt_4 i1 f3 p0 K  n4) t4_0 (t4_1 + 1)) ∧ (¬ (f3 (Int32.toNatClampNeg t4_1)) = 0 → ((¬ t4_0 = p0 → (wLX4_arcAt_4 i1 f3 p0 K  n4) (t4_0 + 1) (t4_1 + 1)) ∧ (t4_0 = p0 → K t4_1 ())))))))
def wX4_arcAt (i0 : Int32) (i1 : Int32) (i2 : Int32) (f3 : Nat → Int32) (p0 : Int32) (K : Int32 → Unit → Prop) : Prop := (∃ n4, wLX4_arcAt_4 i1 f3 p0 K  n4 0 0)
set_option maxHeartbeats 4000000 in
set_option maxRecDepth 100000 in
theorem zX4_arcAt (l : Launch) (G : va_G) (cI cJ cZ : ClassId) (h0 h1 h2 k0 k1 k2 k3 sz : Nat) (i0 : Int32) (i1 : Int32) (i2 : Int32) (f3 : Nat → Int32) (p0 : Int32) (K : Int32 → Unit → Prop) (hwp : wX4_arcAt i0 i1 i2 f3 p0 K) : Met l yX4_arcAt (xw yX4_arcAt cX4_arcAt 4 (some .int)) ({ frames := 0, cells := 0, slots := 0, locals := 0 }) (xPc G cI cJ cZ [.ref h0, .int p0] [(h0, .inr (4, [.ref h1, .ref h2, .ref k0])), (h1, .inr (3, [.ref k1, .ref k2, .ref k3, .int i0, .int i1, .int i2])), (h2, aI cZ 80 f3)] sz) (va_Qi (fun (r : Int32) (u : Unit) => K r u) (fun (u : Unit) t => xB G (va_A [(h0, .inr (4, [.ref h1, .ref h2, .ref k0])), (h1, .inr (3, [.ref k1, .ref k2, .ref k3, .int i0, .int i1, .int i2])), (h2, aI cZ 80 f3)] sz) [(h0, .inr (4, [.ref h1, .ref h2, .ref k0])), (h1, .inr (3, [.ref k1, .ref k2, .ref k3, .int i0, .int i1, .int i2])), (h2, aI cZ 80 f3)] t) (va_A [(h0, .inr (4, [.ref h1, .ref h2, .ref k0])), (h1, .inr (3, [.ref k1, .ref k2, .ref k3, .int i0, .int i1, .int i2])), (h2, aI cZ 80 f3)] sz)) 0 0 (va_A [(h0, .inr (4, [.ref h1, .ref h2, .ref k0])), (h1, .inr (3, [.ref k1, .ref k2, .ref k3, .int i0, .int i1, .int i2])), (h2, aI cZ 80 f3)] sz) := by
  refine Met.ofW (cc := cX4_arcAt) (maxL := 4) (ret := (some .int)) (by decide) rfl ?_
  intro p e s m args below meth c s₁ B hml hv
  obtain ⟨rfl, hsz, hP, hK, hD0, hN⟩ := hv
  have hx := B.exec
  have hb := B.bytes
  have hr := B.returns
  have hts : ∀ w ∈ xW, w.before _ s = true := fun w h => atoms_spec (ws := xw yX4_arcAt cX4_arcAt 4 (some .int)) B.pre w (List.mem_cons_of_mem _ h)
  have hown : s.vm.findClass RX4 = some m.cls := findClass_of_methodNamed B.named
  have hlocks := B.notSynchronized
  subst hsz
  have hD := hD0.self (sz := s.heap.size)
  clear hD0
  generalize hAe : va_A [(h0, .inr (4, [.ref h1, .ref h2, .ref k0])), (h1, .inr (3, [.ref k1, .ref k2, .ref k3, .int i0, .int i1, .int i2])), (h2, aI cZ 80 f3)] s.heap.size = A at hD ⊢
  have hA : ∀ q : Nat, s.heap.size ≤ q → A q := fun q h => by rw [← hAe]; exact Or.inr h
  clear hAe
  have hS : va_S A s.heap s.heap [] := va_S.rf
  replace hP : va_P G vwCl [(h0, .inr (4, [.ref h1, .ref h2, .ref k0])), (h1, .inr (3, [.ref k1, .ref k2, .ref k3, .int i0, .int i1, .int i2])), (h2, aI cZ 80 f3)] s.heap := hP
  have hl := lv_entry ([.ref h0, .int p0]) (n := 4) (Nat.le_of_ble_eq_true rfl)
  rw [lg_entry_eq]
  generalize (lg_sl ([.ref h0, .int p0]) ++ List.replicate (4 - (lg_sl ([.ref h0, .int p0])).length) Slot.unset).toArray = ls at hl ⊢
  replace hl : lv_has ls 4 [(0, .ref h0), (1, .int p0)] := hl
  generalize hQQ : MQ below _ _ s 0 0 _ = QQ
  skip
  unfold wX4_arcAt at hwp
  refine lv_iconst (v := 0) hx hb dX4_arcAt_0 (by decide) ?_
  refine lv_istore_n (lv' := [(2, .int 0), (0, .ref h0), (1, .int p0)]) hx hb dX4_arcAt_1 rfl hl (by decide) rfl (fun ls hl => ?_)
  refine lv_iconst (v := 0) hx hb dX4_arcAt_2 (by decide) ?_
  refine lv_istore_n (lv' := [(3, .int 0), (2, .int 0), (0, .ref h0), (1, .int p0)]) hx hb dX4_arcAt_3 rfl hl (by decide) rfl (fun ls hl => ?_)
  refine xgen (Pp := fun H locs => W p l e _ s m _ below meth c H locs _ _ _ _) (fun H locs hP hD hS => ?_) hP hD hS
  replace hl : lv_has ls 4 [(3, .int 0), (2, .int 0), (0, .ref h0), (1, .int p0)] := lv_sub hl [0, 1, 2, 3] rfl
  obtain ⟨n1, hwp⟩ := hwp
  have hs1 : ∀ (n1 : Nat) (H : Heap) (locs : List Loc) (ls : Array Slot) (t4_0 : Int32) (t4_1 : Int32), wLX4_arcAt_4 i1 f3 p0 K  n1 t4_0 t4_1 → va_P G vwCl [(h0, .inr (4, [.ref h1, .ref h2, .ref k0])), (h1, .inr (3, [.ref k1, .ref k2, .ref k3, .int i0, .int i1, .int i2])), (h2, aI cZ 80 f3)] H → va_D A [(h0, .inr (4, [.ref h1, .ref h2, .ref k0])), (h1, .inr (3, [.ref k1, .ref k2, .ref k3, .int i0, .int i1, .int i2])), (h2, aI cZ 80 f3)] → va_S A s.heap H locs → lv_has ls 4 [(3, .int t4_1), (2, .int t4_0), (0, .ref h0), (1, .int p0)] → W p l e ((headSpec (xw yX4_arcAt cX4_arcAt 4 (some .int)) { frames := 0, cells := 0, slots := 0, locals := 0 }).room) s m ([.ref h0, .int p0] : List Value).toArray below meth c H locs 0 0 QQ (F0 m 4 ls []) := by
    intro n1
    induction n1 with
    | zero => intro H locs ls t4_0 t4_1 hwp; exact False.elim hwp
    | succ n1 ih1 =>
      intro H locs ls t4_0 t4_1 hwp hP hD hS hl
      rw [wLX4_arcAt_4] at hwp
      refine lv_iload_n hx hb dX4_arcAt_4 rfl (lv_at hl 0 rfl) ?_
      refine lv_aload_n hx hb dX4_arcAt_5 rfl (lv_at hl 2 rfl) ?_
      refine va_get (D := G) (ci := 4) (v := .ref h1) (C := RX4) (T := TX4) (N := 3) hx hb hts xinX4 hown hK hP 0 rfl rfl 0 (by decide) (hts _ wo_192) (fun _ h9 => h9) rfl dX4_arcAt_6 ?_
      refine va_getN (D := G) (ci := 3) (v := .int i1) (C := RX3) (T := TX3) (N := 6) hx hb hts xinX3 hown hK hP 1 rfl rfl 4 (by decide) (va_Nw.use rfl (hN.1 ("PlaneTests$Piece", 29, "PlaneTests$Graph", "made", "I", "PlaneTests") (by decide +kernel))) (fun _ h9 => h9) rfl dX4_arcAt_9 ?_
      refine lv_icmp_ge (tgt := 40) hx hb dX4_arcAt_12 (by decide) (fun c12 => ?_) (fun c12 => ?_)
      · replace hwp := hwp.1 c12
        refine lv_iconst (v := (-1)) hx hb dX4_arcAt_40 (by decide) ?_
        have hP9 : va_P G vwCl [(h0, .inr (4, [.ref h1, .ref h2, .ref k0])), (h1, .inr (3, [.ref k1, .ref k2, .ref k3, .int i0, .int i1, .int i2])), (h2, aI cZ 80 f3)] H := hP.sub [0, 1, 2] rfl
        have hD9 : va_D A [(h0, .inr (4, [.ref h1, .ref h2, .ref k0])), (h1, .inr (3, [.ref k1, .ref k2, .ref k3, .int i0, .int i1, .int i2])), (h2, aI cZ 80 f3)] := hD.sub [0, 1, 2] (by decide) rfl
        rw [← hQQ]
        exact W.iret (v := (-1)) hx hb hr (fun t ht hW => ⟨⟨_, (), rfl, hwp, by rw [ht]; exact hP9, hD9⟩, hS.F ht⟩) hS.2.2 dX4_arcAt_41
      · replace hwp := hwp.2 c12
        refine lv_aload_n hx hb dX4_arcAt_15 rfl (lv_at hl 2 rfl) ?_
        refine va_get (D := G) (ci := 4) (v := .ref h2) (C := RX4) (T := TX4) (N := 3) hx hb hts xinX4 hown hK hP 0 rfl rfl 1 (by decide) (hts _ wo_193) (fun _ h9 => h9) rfl dX4_arcAt_16 ?_
        refine lv_iload_n hx hb dX4_arcAt_19 rfl (lv_at hl 0 rfl) ?_
        obtain ⟨hi, hwp⟩ := hwp
        refine va_zald hx hb hK hP 2 2 rfl rfl hi dX4_arcAt_20 ?_
        refine lv_if_eq (tgt := 34) hx hb dX4_arcAt_21 (by decide) (fun c21 => ?_) (fun c21 => ?_)
        · replace hwp := hwp.1 c21
          refine lv_iinc (v := (t4_1 + 1)) (lv' := [(3, .int (t4_1 + 1)), (2, .int t4_0), (0, .ref h0), (1, .int p0)]) hx hb dX4_arcAt_34 hl (k := 0) rfl rfl (by decide) rfl (fun ls hl => ?_)
          refine lv_goto (tgt := 4) hx hb dX4_arcAt_37 (by decide) ?_
          replace hl : lv_has ls 4 [(3, .int (t4_1 + 1)), (2, .int t4_0), (0, .ref h0), (1, .int p0)] := lv_sub hl [0, 1, 2, 3] rfl
          exact ih1 H locs ls t4_0 (t4_1 + 1) hwp hP hD hS hl
        · replace hwp := hwp.2 c21
          refine lv_iload_n hx hb dX4_arcAt_24 rfl (lv_at hl 1 rfl) ?_
          refine lv_iload_n hx hb dX4_arcAt_25 rfl (lv_at hl 3 rfl) ?_
          refine lv_icmp_ne (tgt := 31) hx hb dX4_arcAt_26 (by decide) (fun c26 => ?_) (fun c26 => ?_)
          · replace hwp := hwp.1 c26
            refine lv_iinc (v := (t4_0 + 1)) (lv' := [(2, .int (t4_0 + 1)), (3, .int t4_1), (0, .ref h0), (1, .int p0)]) hx hb dX4_arcAt_31 hl (k := 1) rfl rfl (by decide) rfl (fun ls hl => ?_)
            refine lv_iinc (v := (t4_1 + 1)) (lv' := [(3, .int (t4_1 + 1)), (2, .int (t4_0 + 1)), (0, .ref h0), (1, .int p0)]) hx hb dX4_arcAt_34 hl (k := 1) rfl rfl (by decide) rfl (fun ls hl => ?_)
            refine lv_goto (tgt := 4) hx hb dX4_arcAt_37 (by decide) ?_
            replace hl : lv_has ls 4 [(3, .int (t4_1 + 1)), (2, .int (t4_0 + 1)), (0, .ref h0), (1, .int p0)] := lv_sub hl [0, 1, 2, 3] rfl
            exact ih1 H locs ls (t4_0 + 1) (t4_1 + 1) hwp hP hD hS hl
          · replace hwp := hwp.2 c26
            refine lv_iload_n hx hb dX4_arcAt_29 rfl (lv_at hl 0 rfl) ?_
            have hP9 : va_P G vwCl [(h0, .inr (4, [.ref h1, .ref h2, .ref k0])), (h1, .inr (3, [.ref k1, .ref k2, .ref k3, .int i0, .int i1, .int i2])), (h2, aI cZ 80 f3)] H := hP.sub [0, 1, 2] rfl
            have hD9 : va_D A [(h0, .inr (4, [.ref h1, .ref h2, .ref k0])), (h1, .inr (3, [.ref k1, .ref k2, .ref k3, .int i0, .int i1, .int i2])), (h2, aI cZ 80 f3)] := hD.sub [0, 1, 2] (by decide) rfl
            rw [← hQQ]
            exact W.iret (v := t4_1) hx hb hr (fun t ht hW => ⟨⟨_, (), rfl, hwp, by rw [ht]; exact hP9, hD9⟩, hS.F ht⟩) hS.2.2 dX4_arcAt_30
  exact hs1 n1 H locs ls 0 0 hwp hP hD hS hl
def wLX4_branchAt_4 (i0 : Int32) (f3 : Nat → Int32) (p0 : Int32) (K : Int32 → Unit → Prop)  : Nat → Int32 → Int32 → Prop
  | 0, _, _ => False
  | n4 + 1, t4_0, t4_1 => ((i0 ≤ t4_1 → K ((-1) : Int32) ()) ∧ (¬ i0 ≤ t4_1 → (vp_in t4_1 20 ∧ (((f3 (Int32.toNatClampNeg t4_1)) < 3 → (wLX4_branchAt_4 i0 f3 p0 K  n4) t4_0 (t4_1 + 1)) ∧ (¬ (f3 (Int32.toNatClampNeg t4_1)) < 3 → ((¬ t4_0 = p0 → (wLX4_branchAt_4 i0 f3 p0 K  n4) (t4_0 + 1) (t4_1 + 1)) ∧ (t4_0 = p0 → K t4_1 ())))))))
def wX4_branchAt (i0 : Int32) (i1 : Int32) (i2 : Int32) (f3 : Nat → Int32) (p0 : Int32) (K : Int32 → Unit → Prop) : Prop := (∃ n4, wLX4_branchAt_4 i0 f3 p0 K  n4 0 0)
set_option maxHeartbeats 4000000 in
set_option maxRecDepth 100000 in
theorem zX4_branchAt (l : Launch) (G : va_G) (cI cJ cZ : ClassId) (h0 h1 h2 k0 k1 k2 k3 sz : Nat) (i0 : Int32) (i1 : Int32) (i2 : Int32) (f3 : Nat → Int32) (p0 : Int32) (K : Int32 → Unit → Prop) (hwp : wX4_branchAt i0 i1 i2 f3 p0 K) : Met l yX4_branchAt (xw yX4_branchAt cX4_branchAt 4 (some .int)) ({ frames := 0, cells := 0, slots := 0, locals := 0 }) (xPc G cI cJ cZ [.ref h0, .int p0] [(h0, .inr (4, [.ref h1, .ref k0, .ref h2])), (h1, .inr (3, [.ref k1, .ref k2, .ref k3, .int i0, .int i1, .int i2])), (h2, aI cI 20 f3)] sz) (va_Qi (fun (r : Int32) (u : Unit) => K r u) (fun (u : Unit) t => xB G (va_A [(h0, .inr (4, [.ref h1, .ref k0, .ref h2])), (h1, .inr (3, [.ref k1, .ref k2, .ref k3, .int i0, .int i1, .int i2])), (h2, aI cI 20 f3)] sz) [(h0, .inr (4, [.ref h1, .ref k0, .ref h2])), (h1, .inr (3, [.ref k1, .ref k2, .ref k3, .int i0, .int i1, .int i2])), (h2, aI cI 20 f3)] t) (va_A [(h0, .inr (4, [.ref h1, .ref k0, .ref h2])), (h1, .inr (3, [.ref k1, .ref k2, .ref k3, .int i0, .int i1, .int i2])), (h2, aI cI 20 f3)] sz)) 0 0 (va_A [(h0, .inr (4, [.ref h1, .ref k0, .ref h2])), (h1, .inr (3, [.ref k1, .ref k2, .ref k3, .int i0, .int i1, .int i2])), (h2, aI cI 20 f3)] sz) := by
  refine Met.ofW (cc := cX4_branchAt) (maxL := 4) (ret := (some .int)) (by decide) rfl ?_
  intro p e s m args below meth c s₁ B hml hv
  obtain ⟨rfl, hsz, hP, hK, hD0, hN⟩ := hv
  have hx := B.exec
  have hb := B.bytes
  have hr := B.returns
  have hts : ∀ w ∈ xW, w.before _ s = true := fun w h => atoms_spec (ws := xw yX4_branchAt cX4_branchAt 4 (some .int)) B.pre w (List.mem_cons_of_mem _ h)
  have hown : s.vm.findClass RX4 = some m.cls := findClass_of_methodNamed B.named
  have hlocks := B.notSynchronized
  subst hsz
  have hD := hD0.self (sz := s.heap.size)
  clear hD0
  generalize hAe : va_A [(h0, .inr (4, [.ref h1, .ref k0, .ref h2])), (h1, .inr (3, [.ref k1, .ref k2, .ref k3, .int i0, .int i1, .int i2])), (h2, aI cI 20 f3)] s.heap.size = A at hD ⊢
  have hA : ∀ q : Nat, s.heap.size ≤ q → A q := fun q h => by rw [← hAe]; exact Or.inr h
  clear hAe
  have hS : va_S A s.heap s.heap [] := va_S.rf
  replace hP : va_P G vwCl [(h0, .inr (4, [.ref h1, .ref k0, .ref h2])), (h1, .inr (3, [.ref k1, .ref k2, .ref k3, .int i0, .int i1, .int i2])), (h2, aI cI 20 f3)] s.heap := hP
  have hl := lv_entry ([.ref h0, .int p0]) (n := 4) (Nat.le_of_ble_eq_true rfl)
  rw [lg_entry_eq]
  generalize (lg_sl ([.ref h0, .int p0]) ++ List.replicate (4 - (lg_sl ([.ref h0, .int p0])).length) Slot.unset).toArray = ls at hl ⊢
  replace hl : lv_has ls 4 [(0, .ref h0), (1, .int p0)] := hl
  generalize hQQ : MQ below _ _ s 0 0 _ = QQ
  skip
  unfold wX4_branchAt at hwp
  refine lv_iconst (v := 0) hx hb dX4_branchAt_0 (by decide) ?_
  refine lv_istore_n (lv' := [(2, .int 0), (0, .ref h0), (1, .int p0)]) hx hb dX4_branchAt_1 rfl hl (by decide) rfl (fun ls hl => ?_)
  refine lv_iconst (v := 0) hx hb dX4_branchAt_2 (by decide) ?_
  refine lv_istore_n (lv' := [(3, .int 0), (2, .int 0), (0, .ref h0), (1, .int p0)]) hx hb dX4_branchAt_3 rfl hl (by decide) rfl (fun ls hl => ?_)
  refine xgen (Pp := fun H locs => W p l e _ s m _ below meth c H locs _ _ _ _) (fun H locs hP hD hS => ?_) hP hD hS
  replace hl : lv_has ls 4 [(3, .int 0), (2, .int 0), (0, .ref h0), (1, .int p0)] := lv_sub hl [0, 1, 2, 3] rfl
  obtain ⟨n1, hwp⟩ := hwp
  have hs1 : ∀ (n1 : Nat) (H : Heap) (locs : List Loc) (ls : Array Slot) (t4_0 : Int32) (t4_1 : Int32), wLX4_branchAt_4 i0 f3 p0 K  n1 t4_0 t4_1 → va_P G vwCl [(h0, .inr (4, [.ref h1, .ref k0, .ref h2])), (h1, .inr (3, [.ref k1, .ref k2, .ref k3, .int i0, .int i1, .int i2])), (h2, aI cI 20 f3)] H → va_D A [(h0, .inr (4, [.ref h1, .ref k0, .ref h2])), (h1, .inr (3, [.ref k1, .ref k2, .ref k3, .int i0, .int i1, .int i2])), (h2, aI cI 20 f3)] → va_S A s.heap H locs → lv_has ls 4 [(3, .int t4_1), (2, .int t4_0), (0, .ref h0), (1, .int p0)] → W p l e ((headSpec (xw yX4_branchAt cX4_branchAt 4 (some .int)) { frames := 0, cells := 0, slots := 0, locals := 0 }).room) s m ([.ref h0, .int p0] : List Value).toArray below meth c H locs 0 0 QQ (F0 m 4 ls []) := by
    intro n1
    induction n1 with
    | zero => intro H locs ls t4_0 t4_1 hwp; exact False.elim hwp
    | succ n1 ih1 =>
      intro H locs ls t4_0 t4_1 hwp hP hD hS hl
      rw [wLX4_branchAt_4] at hwp
      refine lv_iload_n hx hb dX4_branchAt_4 rfl (lv_at hl 0 rfl) ?_
      refine lv_aload_n hx hb dX4_branchAt_5 rfl (lv_at hl 2 rfl) ?_
      refine va_get (D := G) (ci := 4) (v := .ref h1) (C := RX4) (T := TX4) (N := 3) hx hb hts xinX4 hown hK hP 0 rfl rfl 0 (by decide) (hts _ wo_192) (fun _ h9 => h9) rfl dX4_branchAt_6 ?_
      refine va_getN (D := G) (ci := 3) (v := .int i0) (C := RX3) (T := TX3) (N := 6) hx hb hts xinX3 hown hK hP 1 rfl rfl 3 (by decide) (va_Nw.use rfl (hN.1 ("PlaneTests$Piece", 37, "PlaneTests$Graph", "nodes", "I", "PlaneTests") (by decide +kernel))) (fun _ h9 => h9) rfl dX4_branchAt_9 ?_
      refine lv_icmp_ge (tgt := 41) hx hb dX4_branchAt_12 (by decide) (fun c12 => ?_) (fun c12 => ?_)
      · replace hwp := hwp.1 c12
        refine lv_iconst (v := (-1)) hx hb dX4_branchAt_41 (by decide) ?_
        have hP9 : va_P G vwCl [(h0, .inr (4, [.ref h1, .ref k0, .ref h2])), (h1, .inr (3, [.ref k1, .ref k2, .ref k3, .int i0, .int i1, .int i2])), (h2, aI cI 20 f3)] H := hP.sub [0, 1, 2] rfl
        have hD9 : va_D A [(h0, .inr (4, [.ref h1, .ref k0, .ref h2])), (h1, .inr (3, [.ref k1, .ref k2, .ref k3, .int i0, .int i1, .int i2])), (h2, aI cI 20 f3)] := hD.sub [0, 1, 2] (by decide) rfl
        rw [← hQQ]
        exact W.iret (v := (-1)) hx hb hr (fun t ht hW => ⟨⟨_, (), rfl, hwp, by rw [ht]; exact hP9, hD9⟩, hS.F ht⟩) hS.2.2 dX4_branchAt_42
      · replace hwp := hwp.2 c12
        refine lv_aload_n hx hb dX4_branchAt_15 rfl (lv_at hl 2 rfl) ?_
        refine va_get (D := G) (ci := 4) (v := .ref h2) (C := RX4) (T := TX4) (N := 3) hx hb hts xinX4 hown hK hP 0 rfl rfl 2 (by decide) (hts _ wo_194) (fun _ h9 => h9) rfl dX4_branchAt_16 ?_
        refine lv_iload_n hx hb dX4_branchAt_19 rfl (lv_at hl 0 rfl) ?_
        obtain ⟨hi, hwp⟩ := hwp
        refine va_iald hx hb hK hP 2 0 rfl rfl hi dX4_branchAt_20 ?_
        refine lv_iconst (v := 3) hx hb dX4_branchAt_21 (by decide) ?_
        refine lv_icmp_lt (tgt := 35) hx hb dX4_branchAt_22 (by decide) (fun c22 => ?_) (fun c22 => ?_)
        · replace hwp := hwp.1 c22
          refine lv_iinc (v := (t4_1 + 1)) (lv' := [(3, .int (t4_1 + 1)), (2, .int t4_0), (0, .ref h0), (1, .int p0)]) hx hb dX4_branchAt_35 hl (k := 0) rfl rfl (by decide) rfl (fun ls hl => ?_)
          refine lv_goto (tgt := 4) hx hb dX4_branchAt_38 (by decide) ?_
          replace hl : lv_has ls 4 [(3, .int (t4_1 + 1)), (2, .int t4_0), (0, .ref h0), (1, .int p0)] := lv_sub hl [0, 1, 2, 3] rfl
          exact ih1 H locs ls t4_0 (t4_1 + 1) hwp hP hD hS hl
        · replace hwp := hwp.2 c22
          refine lv_iload_n hx hb dX4_branchAt_25 rfl (lv_at hl 1 rfl) ?_
          refine lv_iload_n hx hb dX4_branchAt_26 rfl (lv_at hl 3 rfl) ?_
          refine lv_icmp_ne (tgt := 32) hx hb dX4_branchAt_27 (by decide) (fun c27 => ?_) (fun c27 => ?_)
          · replace hwp := hwp.1 c27
            refine lv_iinc (v := (t4_0 + 1)) (lv' := [(2, .int (t4_0 + 1)), (3, .int t4_1), (0, .ref h0), (1, .int p0)]) hx hb dX4_branchAt_32 hl (k := 1) rfl rfl (by decide) rfl (fun ls hl => ?_)
            refine lv_iinc (v := (t4_1 + 1)) (lv' := [(3, .int (t4_1 + 1)), (2, .int (t4_0 + 1)), (0, .ref h0), (1, .int p0)]) hx hb dX4_branchAt_35 hl (k := 1) rfl rfl (by decide) rfl (fun ls hl => ?_)
            refine lv_goto (tgt := 4) hx hb dX4_branchAt_38 (by decide) ?_
            replace hl : lv_has ls 4 [(3, .int (t4_1 + 1)), (2, .int (t4_0 + 1)), (0, .ref h0), (1, .int p0)] := lv_sub hl [0, 1, 2, 3] rfl
            exact ih1 H locs ls (t4_0 + 1) (t4_1 + 1) hwp hP hD hS hl
          · replace hwp := hwp.2 c27
            refine lv_iload_n hx hb dX4_branchAt_30 rfl (lv_at hl 0 rfl) ?_
            have hP9 : va_P G vwCl [(h0, .inr (4, [.ref h1, .ref k0, .ref h2])), (h1, .inr (3, [.ref k1, .ref k2, .ref k3, .int i0, .int i1, .int i2])), (h2, aI cI 20 f3)] H := hP.sub [0, 1, 2] rfl
            have hD9 : va_D A [(h0, .inr (4, [.ref h1, .ref k0, .ref h2])), (h1, .inr (3, [.ref k1, .ref k2, .ref k3, .int i0, .int i1, .int i2])), (h2, aI cI 20 f3)] := hD.sub [0, 1, 2] (by decide) rfl
            rw [← hQQ]
            exact W.iret (v := t4_1) hx hb hr (fun t ht hW => ⟨⟨_, (), rfl, hwp, by rw [ht]; exact hP9, hD9⟩, hS.F ht⟩) hS.2.2 dX4_branchAt_31
  exact hs1 n1 H locs ls 0 0 hwp hP hD hS hl
def wLX4_kind_4 (i0 : Int32) (f3 : Nat → Int32) (K : Int32 → Unit → Prop)  : Nat → Int32 → Int32 → Prop
  | 0, _, _ => False
  | n4 + 1, t4_0, t4_1 => ((i0 ≤ t4_1 → ((¬ t4_0 = 5 → K (6 : Int32) ()) ∧ (t4_0 = 5 → K (5 : Int32) ()))) ∧ (¬ i0 ≤ t4_1 → (vp_in t4_1 20 ∧ ((¬ (f3 (Int32.toNatClampNeg t4_1)) = 4 → (wLX4_kind_4 i0 f3 K  n4) t4_0 (t4_1 + 1)) ∧ ((f3 (Int32.toNatClampNeg t4_1)) = 4 → (wLX4_kind_4 i0 f3 K  n4) (t4_0 + 1) (t4_1 + 1))))))
def wX4_kind (i0 : Int32) (i1 : Int32) (i2 : Int32) (f3 : Nat → Int32) (K : Int32 → Unit → Prop) : Prop := (∃ n4, wLX4_kind_4 i0 f3 K  n4 0 0)
set_option maxHeartbeats 4000000 in
set_option maxRecDepth 100000 in
theorem zX4_kind (l : Launch) (G : va_G) (cI cJ cZ : ClassId) (h0 h1 h2 k0 k1 k2 k3 sz : Nat) (i0 : Int32) (i1 : Int32) (i2 : Int32) (f3 : Nat → Int32) (K : Int32 → Unit → Prop) (hwp : wX4_kind i0 i1 i2 f3 K) : Met l yX4_kind (xw yX4_kind cX4_kind 3 (some .int)) ({ frames := 0, cells := 0, slots := 0, locals := 0 }) (xPc G cI cJ cZ [.ref h0] [(h0, .inr (4, [.ref h1, .ref k0, .ref h2])), (h1, .inr (3, [.ref k1, .ref k2, .ref k3, .int i0, .int i1, .int i2])), (h2, aI cI 20 f3)] sz) (va_Qi (fun (r : Int32) (u : Unit) => K r u) (fun (u : Unit) t => xB G (va_A [(h0, .inr (4, [.ref h1, .ref k0, .ref h2])), (h1, .inr (3, [.ref k1, .ref k2, .ref k3, .int i0, .int i1, .int i2])), (h2, aI cI 20 f3)] sz) [(h0, .inr (4, [.ref h1, .ref k0, .ref h2])), (h1, .inr (3, [.ref k1, .ref k2, .ref k3, .int i0, .int i1, .int i2])), (h2, aI cI 20 f3)] t) (va_A [(h0, .inr (4, [.ref h1, .ref k0, .ref h2])), (h1, .inr (3, [.ref k1, .ref k2, .ref k3, .int i0, .int i1, .int i2])), (h2, aI cI 20 f3)] sz)) 0 0 (va_A [(h0, .inr (4, [.ref h1, .ref k0, .ref h2])), (h1, .inr (3, [.ref k1, .ref k2, .ref k3, .int i0, .int i1, .int i2])), (h2, aI cI 20 f3)] sz) := by
  refine Met.ofW (cc := cX4_kind) (maxL := 3) (ret := (some .int)) (by decide) rfl ?_
  intro p e s m args below meth c s₁ B hml hv
  obtain ⟨rfl, hsz, hP, hK, hD0, hN⟩ := hv
  have hx := B.exec
  have hb := B.bytes
  have hr := B.returns
  have hts : ∀ w ∈ xW, w.before _ s = true := fun w h => atoms_spec (ws := xw yX4_kind cX4_kind 3 (some .int)) B.pre w (List.mem_cons_of_mem _ h)
  have hown : s.vm.findClass RX4 = some m.cls := findClass_of_methodNamed B.named
  have hlocks := B.notSynchronized
  subst hsz
  have hD := hD0.self (sz := s.heap.size)
  clear hD0
  generalize hAe : va_A [(h0, .inr (4, [.ref h1, .ref k0, .ref h2])), (h1, .inr (3, [.ref k1, .ref k2, .ref k3, .int i0, .int i1, .int i2])), (h2, aI cI 20 f3)] s.heap.size = A at hD ⊢
  have hA : ∀ q : Nat, s.heap.size ≤ q → A q := fun q h => by rw [← hAe]; exact Or.inr h
  clear hAe
  have hS : va_S A s.heap s.heap [] := va_S.rf
  replace hP : va_P G vwCl [(h0, .inr (4, [.ref h1, .ref k0, .ref h2])), (h1, .inr (3, [.ref k1, .ref k2, .ref k3, .int i0, .int i1, .int i2])), (h2, aI cI 20 f3)] s.heap := hP
  have hl := lv_entry ([.ref h0]) (n := 3) (Nat.le_of_ble_eq_true rfl)
  rw [lg_entry_eq]
  generalize (lg_sl ([.ref h0]) ++ List.replicate (3 - (lg_sl ([.ref h0])).length) Slot.unset).toArray = ls at hl ⊢
  replace hl : lv_has ls 3 [(0, .ref h0)] := hl
  generalize hQQ : MQ below _ _ s 0 0 _ = QQ
  skip
  unfold wX4_kind at hwp
  refine lv_iconst (v := 0) hx hb dX4_kind_0 (by decide) ?_
  refine lv_istore_n (lv' := [(1, .int 0), (0, .ref h0)]) hx hb dX4_kind_1 rfl hl (by decide) rfl (fun ls hl => ?_)
  refine lv_iconst (v := 0) hx hb dX4_kind_2 (by decide) ?_
  refine lv_istore_n (lv' := [(2, .int 0), (1, .int 0), (0, .ref h0)]) hx hb dX4_kind_3 rfl hl (by decide) rfl (fun ls hl => ?_)
  refine xgen (Pp := fun H locs => W p l e _ s m _ below meth c H locs _ _ _ _) (fun H locs hP hD hS => ?_) hP hD hS
  replace hl : lv_has ls 3 [(2, .int 0), (1, .int 0), (0, .ref h0)] := lv_sub hl [0, 1, 2] rfl
  obtain ⟨n1, hwp⟩ := hwp
  have hs1 : ∀ (n1 : Nat) (H : Heap) (locs : List Loc) (ls : Array Slot) (t4_0 : Int32) (t4_1 : Int32), wLX4_kind_4 i0 f3 K  n1 t4_0 t4_1 → va_P G vwCl [(h0, .inr (4, [.ref h1, .ref k0, .ref h2])), (h1, .inr (3, [.ref k1, .ref k2, .ref k3, .int i0, .int i1, .int i2])), (h2, aI cI 20 f3)] H → va_D A [(h0, .inr (4, [.ref h1, .ref k0, .ref h2])), (h1, .inr (3, [.ref k1, .ref k2, .ref k3, .int i0, .int i1, .int i2])), (h2, aI cI 20 f3)] → va_S A s.heap H locs → lv_has ls 3 [(2, .int t4_1), (1, .int t4_0), (0, .ref h0)] → W p l e ((headSpec (xw yX4_kind cX4_kind 3 (some .int)) { frames := 0, cells := 0, slots := 0, locals := 0 }).room) s m ([.ref h0] : List Value).toArray below meth c H locs 0 0 QQ (F0 m 4 ls []) := by
    intro n1
    induction n1 with
    | zero => intro H locs ls t4_0 t4_1 hwp; exact False.elim hwp
    | succ n1 ih1 =>
      intro H locs ls t4_0 t4_1 hwp hP hD hS hl
      rw [wLX4_kind_4] at hwp
      refine lv_iload_n hx hb dX4_kind_4 rfl (lv_at hl 0 rfl) ?_
      refine lv_aload_n hx hb dX4_kind_5 rfl (lv_at hl 2 rfl) ?_
      refine va_get (D := G) (ci := 4) (v := .ref h1) (C := RX4) (T := TX4) (N := 3) hx hb hts xinX4 hown hK hP 0 rfl rfl 0 (by decide) (hts _ wo_192) (fun _ h9 => h9) rfl dX4_kind_6 ?_
      refine va_getN (D := G) (ci := 3) (v := .int i0) (C := RX3) (T := TX3) (N := 6) hx hb hts xinX3 hown hK hP 1 rfl rfl 3 (by decide) (va_Nw.use rfl (hN.1 ("PlaneTests$Piece", 37, "PlaneTests$Graph", "nodes", "I", "PlaneTests") (by decide +kernel))) (fun _ h9 => h9) rfl dX4_kind_9 ?_
      refine lv_icmp_ge (tgt := 34) hx hb dX4_kind_12 (by decide) (fun c12 => ?_) (fun c12 => ?_)
      · replace hwp := hwp.1 c12
        refine lv_iload_n hx hb dX4_kind_34 rfl (lv_at hl 1 rfl) ?_
        refine lv_iconst (v := 5) hx hb dX4_kind_35 (by decide) ?_
        refine lv_icmp_ne (tgt := 43) hx hb dX4_kind_36 (by decide) (fun c36 => ?_) (fun c36 => ?_)
        · replace hwp := hwp.1 c36
          refine lv_bipush (v := 6) hx hb dX4_kind_43 (by decide) ?_
          have hP9 : va_P G vwCl [(h0, .inr (4, [.ref h1, .ref k0, .ref h2])), (h1, .inr (3, [.ref k1, .ref k2, .ref k3, .int i0, .int i1, .int i2])), (h2, aI cI 20 f3)] H := hP.sub [0, 1, 2] rfl
          have hD9 : va_D A [(h0, .inr (4, [.ref h1, .ref k0, .ref h2])), (h1, .inr (3, [.ref k1, .ref k2, .ref k3, .int i0, .int i1, .int i2])), (h2, aI cI 20 f3)] := hD.sub [0, 1, 2] (by decide) rfl
          rw [← hQQ]
          exact W.iret (v := 6) hx hb hr (fun t ht hW => ⟨⟨_, (), rfl, hwp, by rw [ht]; exact hP9, hD9⟩, hS.F ht⟩) hS.2.2 dX4_kind_45
        · replace hwp := hwp.2 c36
          refine lv_iconst (v := 5) hx hb dX4_kind_39 (by decide) ?_
          refine lv_goto (tgt := 45) hx hb dX4_kind_40 (by decide) ?_
          have hP9 : va_P G vwCl [(h0, .inr (4, [.ref h1, .ref k0, .ref h2])), (h1, .inr (3, [.ref k1, .ref k2, .ref k3, .int i0, .int i1, .int i2])), (h2, aI cI 20 f3)] H := hP.sub [0, 1, 2] rfl
          have hD9 : va_D A [(h0, .inr (4, [.ref h1, .ref k0, .ref h2])), (h1, .inr (3, [.ref k1, .ref k2, .ref k3, .int i0, .int i1, .int i2])), (h2, aI cI 20 f3)] := hD.sub [0, 1, 2] (by decide) rfl
          rw [← hQQ]
          exact W.iret (v := 5) hx hb hr (fun t ht hW => ⟨⟨_, (), rfl, hwp, by rw [ht]; exact hP9, hD9⟩, hS.F ht⟩) hS.2.2 dX4_kind_45
      · replace hwp := hwp.2 c12
        refine lv_aload_n hx hb dX4_kind_15 rfl (lv_at hl 2 rfl) ?_
        refine va_get (D := G) (ci := 4) (v := .ref h2) (C := RX4) (T := TX4) (N := 3) hx hb hts xinX4 hown hK hP 0 rfl rfl 2 (by decide) (hts _ wo_194) (fun _ h9 => h9) rfl dX4_kind_16 ?_
        refine lv_iload_n hx hb dX4_kind_19 rfl (lv_at hl 0 rfl) ?_
        obtain ⟨hi, hwp⟩ := hwp
        refine va_iald hx hb hK hP 2 0 rfl rfl hi dX4_kind_20 ?_
        refine lv_iconst (v := 4) hx hb dX4_kind_21 (by decide) ?_
        refine lv_icmp_ne (tgt := 28) hx hb dX4_kind_22 (by decide) (fun c22 => ?_) (fun c22 => ?_)
        · replace hwp := hwp.1 c22
          refine lv_iinc (v := (t4_1 + 1)) (lv' := [(2, .int (t4_1 + 1)), (1, .int t4_0), (0, .ref h0)]) hx hb dX4_kind_28 hl (k := 0) rfl rfl (by decide) rfl (fun ls hl => ?_)
          refine lv_goto (tgt := 4) hx hb dX4_kind_31 (by decide) ?_
          replace hl : lv_has ls 3 [(2, .int (t4_1 + 1)), (1, .int t4_0), (0, .ref h0)] := lv_sub hl [0, 1, 2] rfl
          exact ih1 H locs ls t4_0 (t4_1 + 1) hwp hP hD hS hl
        · replace hwp := hwp.2 c22
          refine lv_iinc (v := (t4_0 + 1)) (lv' := [(1, .int (t4_0 + 1)), (2, .int t4_1), (0, .ref h0)]) hx hb dX4_kind_25 hl (k := 1) rfl rfl (by decide) rfl (fun ls hl => ?_)
          refine lv_iinc (v := (t4_1 + 1)) (lv' := [(2, .int (t4_1 + 1)), (1, .int (t4_0 + 1)), (0, .ref h0)]) hx hb dX4_kind_28 hl (k := 1) rfl rfl (by decide) rfl (fun ls hl => ?_)
          refine lv_goto (tgt := 4) hx hb dX4_kind_31 (by decide) ?_
          replace hl : lv_has ls 3 [(2, .int (t4_1 + 1)), (1, .int (t4_0 + 1)), (0, .ref h0)] := lv_sub hl [0, 1, 2] rfl
          exact ih1 H locs ls (t4_0 + 1) (t4_1 + 1) hwp hP hD hS hl
  exact hs1 n1 H locs ls 0 0 hwp hP hD hS hl
def wLX4_otherEndAt_2 (i1 : Int32) (f3 : Nat → Int32) (f4 : Nat → Int32) (p0 : Int32) (K : Int32 → Unit → Prop)  : Nat → Int32 → Prop
  | 0, _ => False
  | n2 + 1, t2_0 => ((((2 : Int32) * i1) ≤ t2_0 → K p0 ()) ∧ (¬ ((2 : Int32) * i1) ≤ t2_0 → ((t2_0 = p0 → (wLX4_otherEndAt_2 i1 f3 f4 p0 K  n2) (t2_0 + 1)) ∧ (¬ t2_0 = p0 → (vp_in (t2_0 / 2) 80 ∧ (((f3 (Int32.toNatClampNeg (t2_0 / 2))) = 0 → (wLX4_otherEndAt_2 i1 f3 f4 p0 K  n2) (t2_0 + 1)) ∧ (¬ (f3 (Int32.toNatClampNeg (t2_0 / 2))) = 0 → (vp_in t2_0 160 ∧ (vp_in p0 160 ∧ ((¬ (f4 (Int32.toNatClampNeg t2_0)) = (f4 (Int32.toNatClampNeg p0)) → (wLX4_otherEndAt_2 i1 f3 f4 p0 K  n2) (t2_0 + 1)) ∧ ((f4 (Int32.toNatClampNeg t2_0)) = (f4 (Int32.toNatClampNeg p0)) → K t2_0 ())))))))))))
def wX4_otherEndAt (i0 : Int32) (i1 : Int32) (i2 : Int32) (f3 : Nat → Int32) (f4 : Nat → Int32) (p0 : Int32) (K : Int32 → Unit → Prop) : Prop := (∃ n2, wLX4_otherEndAt_2 i1 f3 f4 p0 K  n2 0)
set_option maxHeartbeats 4000000 in
set_option maxRecDepth 100000 in
theorem zX4_otherEndAt (l : Launch) (G : va_G) (cI cJ cZ : ClassId) (h0 h1 h2 h3 k0 k1 k2 sz : Nat) (i0 : Int32) (i1 : Int32) (i2 : Int32) (f3 : Nat → Int32) (f4 : Nat → Int32) (p0 : Int32) (K : Int32 → Unit → Prop) (hwp : wX4_otherEndAt i0 i1 i2 f3 f4 p0 K) : Met l yX4_otherEndAt (xw yX4_otherEndAt cX4_otherEndAt 3 (some .int)) ({ frames := 0, cells := 0, slots := 0, locals := 0 }) (xPc G cI cJ cZ [.ref h0, .int p0] [(h0, .inr (4, [.ref h1, .ref h2, .ref k0])), (h1, .inr (3, [.ref h3, .ref k1, .ref k2, .int i0, .int i1, .int i2])), (h2, aI cZ 80 f3), (h3, aI cI 160 f4)] sz) (va_Qi (fun (r : Int32) (u : Unit) => K r u) (fun (u : Unit) t => xB G (va_A [(h0, .inr (4, [.ref h1, .ref h2, .ref k0])), (h1, .inr (3, [.ref h3, .ref k1, .ref k2, .int i0, .int i1, .int i2])), (h2, aI cZ 80 f3), (h3, aI cI 160 f4)] sz) [(h0, .inr (4, [.ref h1, .ref h2, .ref k0])), (h1, .inr (3, [.ref h3, .ref k1, .ref k2, .int i0, .int i1, .int i2])), (h2, aI cZ 80 f3), (h3, aI cI 160 f4)] t) (va_A [(h0, .inr (4, [.ref h1, .ref h2, .ref k0])), (h1, .inr (3, [.ref h3, .ref k1, .ref k2, .int i0, .int i1, .int i2])), (h2, aI cZ 80 f3), (h3, aI cI 160 f4)] sz)) 0 0 (va_A [(h0, .inr (4, [.ref h1, .ref h2, .ref k0])), (h1, .inr (3, [.ref h3, .ref k1, .ref k2, .int i0, .int i1, .int i2])), (h2, aI cZ 80 f3), (h3, aI cI 160 f4)] sz) := by
  refine Met.ofW (cc := cX4_otherEndAt) (maxL := 3) (ret := (some .int)) (by decide) rfl ?_
  intro p e s m args below meth c s₁ B hml hv
  obtain ⟨rfl, hsz, hP, hK, hD0, hN⟩ := hv
  have hx := B.exec
  have hb := B.bytes
  have hr := B.returns
  have hts : ∀ w ∈ xW, w.before _ s = true := fun w h => atoms_spec (ws := xw yX4_otherEndAt cX4_otherEndAt 3 (some .int)) B.pre w (List.mem_cons_of_mem _ h)
  have hown : s.vm.findClass RX4 = some m.cls := findClass_of_methodNamed B.named
  have hlocks := B.notSynchronized
  subst hsz
  have hD := hD0.self (sz := s.heap.size)
  clear hD0
  generalize hAe : va_A [(h0, .inr (4, [.ref h1, .ref h2, .ref k0])), (h1, .inr (3, [.ref h3, .ref k1, .ref k2, .int i0, .int i1, .int i2])), (h2, aI cZ 80 f3), (h3, aI cI 160 f4)] s.heap.size = A at hD ⊢
  have hA : ∀ q : Nat, s.heap.size ≤ q → A q := fun q h => by rw [← hAe]; exact Or.inr h
  clear hAe
  have hS : va_S A s.heap s.heap [] := va_S.rf
  replace hP : va_P G vwCl [(h0, .inr (4, [.ref h1, .ref h2, .ref k0])), (h1, .inr (3, [.ref h3, .ref k1, .ref k2, .int i0, .int i1, .int i2])), (h2, aI cZ 80 f3), (h3, aI cI 160 f4)] s.heap := hP
  have hl := lv_entry ([.ref h0, .int p0]) (n := 3) (Nat.le_of_ble_eq_true rfl)
  rw [lg_entry_eq]
  generalize (lg_sl ([.ref h0, .int p0]) ++ List.replicate (3 - (lg_sl ([.ref h0, .int p0])).length) Slot.unset).toArray = ls at hl ⊢
  replace hl : lv_has ls 3 [(0, .ref h0), (1, .int p0)] := hl
  generalize hQQ : MQ below _ _ s 0 0 _ = QQ
  skip
  unfold wX4_otherEndAt at hwp
  refine lv_iconst (v := 0) hx hb dX4_otherEndAt_0 (by decide) ?_
  refine lv_istore_n (lv' := [(2, .int 0), (0, .ref h0), (1, .int p0)]) hx hb dX4_otherEndAt_1 rfl hl (by decide) rfl (fun ls hl => ?_)
  refine xgen (Pp := fun H locs => W p l e _ s m _ below meth c H locs _ _ _ _) (fun H locs hP hD hS => ?_) hP hD hS
  replace hl : lv_has ls 3 [(2, .int 0), (0, .ref h0), (1, .int p0)] := lv_sub hl [0, 1, 2] rfl
  obtain ⟨n1, hwp⟩ := hwp
  have hs1 : ∀ (n1 : Nat) (H : Heap) (locs : List Loc) (ls : Array Slot) (t2_0 : Int32), wLX4_otherEndAt_2 i1 f3 f4 p0 K  n1 t2_0 → va_P G vwCl [(h0, .inr (4, [.ref h1, .ref h2, .ref k0])), (h1, .inr (3, [.ref h3, .ref k1, .ref k2, .int i0, .int i1, .int i2])), (h2, aI cZ 80 f3), (h3, aI cI 160 f4)] H → va_D A [(h0, .inr (4, [.ref h1, .ref h2, .ref k0])), (h1, .inr (3, [.ref h3, .ref k1, .ref k2, .int i0, .int i1, .int i2])), (h2, aI cZ 80 f3), (h3, aI cI 160 f4)] → va_S A s.heap H locs → lv_has ls 3 [(2, .int t2_0), (0, .ref h0), (1, .int p0)] → W p l e ((headSpec (xw yX4_otherEndAt cX4_otherEndAt 3 (some .int)) { frames := 0, cells := 0, slots := 0, locals := 0 }).room) s m ([.ref h0, .int p0] : List Value).toArray below meth c H locs 0 0 QQ (F0 m 2 ls []) := by
    intro n1
    induction n1 with
    | zero => intro H locs ls t2_0 hwp; exact False.elim hwp
    | succ n1 ih1 =>
      intro H locs ls t2_0 hwp hP hD hS hl
      rw [wLX4_otherEndAt_2] at hwp
      refine lv_iload_n hx hb dX4_otherEndAt_2 rfl (lv_at hl 0 rfl) ?_
      refine lv_iconst (v := 2) hx hb dX4_otherEndAt_3 (by decide) ?_
      refine lv_aload_n hx hb dX4_otherEndAt_4 rfl (lv_at hl 1 rfl) ?_
      refine va_get (D := G) (ci := 4) (v := .ref h1) (C := RX4) (T := TX4) (N := 3) hx hb hts xinX4 hown hK hP 0 rfl rfl 0 (by decide) (hts _ wo_192) (fun _ h9 => h9) rfl dX4_otherEndAt_5 ?_
      refine va_getN (D := G) (ci := 3) (v := .int i1) (C := RX3) (T := TX3) (N := 6) hx hb hts xinX3 hown hK hP 1 rfl rfl 4 (by decide) (va_Nw.use rfl (hN.1 ("PlaneTests$Piece", 29, "PlaneTests$Graph", "made", "I", "PlaneTests") (by decide +kernel))) (fun _ h9 => h9) rfl dX4_otherEndAt_8 ?_
      refine lv_imul hx hb dX4_otherEndAt_11 ?_
      refine lv_icmp_ge (tgt := 60) hx hb dX4_otherEndAt_12 (by decide) (fun c12 => ?_) (fun c12 => ?_)
      · replace hwp := hwp.1 c12
        refine lv_iload_n hx hb dX4_otherEndAt_60 rfl (lv_at hl 2 rfl) ?_
        have hP9 : va_P G vwCl [(h0, .inr (4, [.ref h1, .ref h2, .ref k0])), (h1, .inr (3, [.ref h3, .ref k1, .ref k2, .int i0, .int i1, .int i2])), (h2, aI cZ 80 f3), (h3, aI cI 160 f4)] H := hP.sub [0, 1, 2, 3] rfl
        have hD9 : va_D A [(h0, .inr (4, [.ref h1, .ref h2, .ref k0])), (h1, .inr (3, [.ref h3, .ref k1, .ref k2, .int i0, .int i1, .int i2])), (h2, aI cZ 80 f3), (h3, aI cI 160 f4)] := hD.sub [0, 1, 2, 3] (by decide) rfl
        rw [← hQQ]
        exact W.iret (v := p0) hx hb hr (fun t ht hW => ⟨⟨_, (), rfl, hwp, by rw [ht]; exact hP9, hD9⟩, hS.F ht⟩) hS.2.2 dX4_otherEndAt_61
      · replace hwp := hwp.2 c12
        refine lv_iload_n hx hb dX4_otherEndAt_15 rfl (lv_at hl 0 rfl) ?_
        refine lv_iload_n hx hb dX4_otherEndAt_16 rfl (lv_at hl 2 rfl) ?_
        refine lv_icmp_eq (tgt := 54) hx hb dX4_otherEndAt_17 (by decide) (fun c17 => ?_) (fun c17 => ?_)
        · replace hwp := hwp.1 c17
          refine lv_iinc (v := (t2_0 + 1)) (lv' := [(2, .int (t2_0 + 1)), (0, .ref h0), (1, .int p0)]) hx hb dX4_otherEndAt_54 hl (k := 0) rfl rfl (by decide) rfl (fun ls hl => ?_)
          refine lv_goto (tgt := 2) hx hb dX4_otherEndAt_57 (by decide) ?_
          replace hl : lv_has ls 3 [(2, .int (t2_0 + 1)), (0, .ref h0), (1, .int p0)] := lv_sub hl [0, 1, 2] rfl
          exact ih1 H locs ls (t2_0 + 1) hwp hP hD hS hl
        · replace hwp := hwp.2 c17
          refine lv_aload_n hx hb dX4_otherEndAt_20 rfl (lv_at hl 1 rfl) ?_
          refine va_get (D := G) (ci := 4) (v := .ref h2) (C := RX4) (T := TX4) (N := 3) hx hb hts xinX4 hown hK hP 0 rfl rfl 1 (by decide) (hts _ wo_193) (fun _ h9 => h9) rfl dX4_otherEndAt_21 ?_
          refine lv_iload_n hx hb dX4_otherEndAt_24 rfl (lv_at hl 0 rfl) ?_
          refine lv_iconst (v := 2) hx hb dX4_otherEndAt_25 (by decide) ?_
          refine lv_idiv hx hb dX4_otherEndAt_26 (by decide) ?_
          obtain ⟨hi, hwp⟩ := hwp
          refine va_zald hx hb hK hP 2 2 rfl rfl hi dX4_otherEndAt_27 ?_
          refine lv_if_eq (tgt := 54) hx hb dX4_otherEndAt_28 (by decide) (fun c28 => ?_) (fun c28 => ?_)
          · replace hwp := hwp.1 c28
            refine lv_iinc (v := (t2_0 + 1)) (lv' := [(2, .int (t2_0 + 1)), (0, .ref h0), (1, .int p0)]) hx hb dX4_otherEndAt_54 hl (k := 0) rfl rfl (by decide) rfl (fun ls hl => ?_)
            refine lv_goto (tgt := 2) hx hb dX4_otherEndAt_57 (by decide) ?_
            replace hl : lv_has ls 3 [(2, .int (t2_0 + 1)), (0, .ref h0), (1, .int p0)] := lv_sub hl [0, 1, 2] rfl
            exact ih1 H locs ls (t2_0 + 1) hwp hP hD hS hl
          · replace hwp := hwp.2 c28
            refine lv_aload_n hx hb dX4_otherEndAt_31 rfl (lv_at hl 1 rfl) ?_
            refine va_get (D := G) (ci := 4) (v := .ref h1) (C := RX4) (T := TX4) (N := 3) hx hb hts xinX4 hown hK hP 0 rfl rfl 0 (by decide) (hts _ wo_192) (fun _ h9 => h9) rfl dX4_otherEndAt_32 ?_
            refine va_getN (D := G) (ci := 3) (v := .ref h3) (C := RX3) (T := TX3) (N := 6) hx hb hts xinX3 hown hK hP 1 rfl rfl 0 (by decide) (va_Nw.use rfl (hN.1 ("PlaneTests$Piece", 52, "PlaneTests$Graph", "at", "[I", "PlaneTests") (by decide +kernel))) (fun _ h9 => h9) rfl dX4_otherEndAt_35 ?_
            refine lv_iload_n hx hb dX4_otherEndAt_38 rfl (lv_at hl 0 rfl) ?_
            obtain ⟨hi, hwp⟩ := hwp
            refine va_iald hx hb hK hP 3 0 rfl rfl hi dX4_otherEndAt_39 ?_
            refine lv_aload_n hx hb dX4_otherEndAt_40 rfl (lv_at hl 1 rfl) ?_
            refine va_get (D := G) (ci := 4) (v := .ref h1) (C := RX4) (T := TX4) (N := 3) hx hb hts xinX4 hown hK hP 0 rfl rfl 0 (by decide) (hts _ wo_192) (fun _ h9 => h9) rfl dX4_otherEndAt_41 ?_
            refine va_getN (D := G) (ci := 3) (v := .ref h3) (C := RX3) (T := TX3) (N := 6) hx hb hts xinX3 hown hK hP 1 rfl rfl 0 (by decide) (va_Nw.use rfl (hN.1 ("PlaneTests$Piece", 52, "PlaneTests$Graph", "at", "[I", "PlaneTests") (by decide +kernel))) (fun _ h9 => h9) rfl dX4_otherEndAt_44 ?_
            refine lv_iload_n hx hb dX4_otherEndAt_47 rfl (lv_at hl 2 rfl) ?_
            obtain ⟨hi, hwp⟩ := hwp
            refine va_iald hx hb hK hP 3 0 rfl rfl hi dX4_otherEndAt_48 ?_
            refine lv_icmp_ne (tgt := 54) hx hb dX4_otherEndAt_49 (by decide) (fun c49 => ?_) (fun c49 => ?_)
            · replace hwp := hwp.1 c49
              refine lv_iinc (v := (t2_0 + 1)) (lv' := [(2, .int (t2_0 + 1)), (0, .ref h0), (1, .int p0)]) hx hb dX4_otherEndAt_54 hl (k := 0) rfl rfl (by decide) rfl (fun ls hl => ?_)
              refine lv_goto (tgt := 2) hx hb dX4_otherEndAt_57 (by decide) ?_
              replace hl : lv_has ls 3 [(2, .int (t2_0 + 1)), (0, .ref h0), (1, .int p0)] := lv_sub hl [0, 1, 2] rfl
              exact ih1 H locs ls (t2_0 + 1) hwp hP hD hS hl
            · replace hwp := hwp.2 c49
              refine lv_iload_n hx hb dX4_otherEndAt_52 rfl (lv_at hl 0 rfl) ?_
              have hP9 : va_P G vwCl [(h0, .inr (4, [.ref h1, .ref h2, .ref k0])), (h1, .inr (3, [.ref h3, .ref k1, .ref k2, .int i0, .int i1, .int i2])), (h2, aI cZ 80 f3), (h3, aI cI 160 f4)] H := hP.sub [0, 1, 2, 3] rfl
              have hD9 : va_D A [(h0, .inr (4, [.ref h1, .ref h2, .ref k0])), (h1, .inr (3, [.ref h3, .ref k1, .ref k2, .int i0, .int i1, .int i2])), (h2, aI cZ 80 f3), (h3, aI cI 160 f4)] := hD.sub [0, 1, 2, 3] (by decide) rfl
              rw [← hQQ]
              exact W.iret (v := t2_0) hx hb hr (fun t ht hW => ⟨⟨_, (), rfl, hwp, by rw [ht]; exact hP9, hD9⟩, hS.F ht⟩) hS.2.2 dX4_otherEndAt_53
  exact hs1 n1 H locs ls 0 hwp hP hD hS hl
def wLX4_branchFrom_4 (i0 : Int32) (i1 : Int32) (i2 : Int32) (f3 : Nat → Int32) (f4 : Nat → Int32) (f5 : Nat → Int32) (K : Int32 → Unit → Prop)  : Nat → Int32 → Int32 → Prop
  | 0, _, _ => False
  | n4 + 1, t4_0, t4_1 => ((20 ≤ t4_1 → (vp_in t4_0 160 ∧ K (f3 (Int32.toNatClampNeg t4_0)) ())) ∧ (¬ 20 ≤ t4_1 → (vp_in t4_0 160 ∧ (vp_in (f3 (Int32.toNatClampNeg t4_0)) 20 ∧ ((3 ≤ (f4 (Int32.toNatClampNeg (f3 (Int32.toNatClampNeg t4_0)))) → (vp_in t4_0 160 ∧ K (f3 (Int32.toNatClampNeg t4_0)) ())) ∧ (¬ 3 ≤ (f4 (Int32.toNatClampNeg (f3 (Int32.toNatClampNeg t4_0)))) → (wX4_otherEndAt i0 i1 i2 f5 f3 t4_0 (fun r30 _ => (∀ v35 : Int32, v35 = (r30 ^^^ 1) → (wLX4_branchFrom_4 i0 i1 i2 f3 f4 f5 K  n4) v35 (t4_1 + 1))))))))))
def wX4_branchFrom (i0 : Int32) (i1 : Int32) (i2 : Int32) (f3 : Nat → Int32) (f4 : Nat → Int32) (f5 : Nat → Int32) (p0 : Int32) (K : Int32 → Unit → Prop) : Prop := (∃ n4, wLX4_branchFrom_4 i0 i1 i2 f3 f4 f5 K  n4 p0 0)
set_option maxHeartbeats 4000000 in
set_option maxRecDepth 100000 in
theorem zX4_branchFrom (l : Launch) (G : va_G) (cI cJ cZ : ClassId) (h0 h1 h2 h3 h4 k0 k1 sz : Nat) (i0 : Int32) (i1 : Int32) (i2 : Int32) (f3 : Nat → Int32) (f4 : Nat → Int32) (f5 : Nat → Int32) (p0 : Int32) (K : Int32 → Unit → Prop) (hwp : wX4_branchFrom i0 i1 i2 f3 f4 f5 p0 K) : Met l yX4_branchFrom (xw yX4_branchFrom cX4_branchFrom 4 (some .int)) ({ frames := 1, cells := 0, slots := 0, locals := 22 }) (xPc G cI cJ cZ [.ref h0, .int p0] [(h0, .inr (4, [.ref h1, .ref h4, .ref h3])), (h1, .inr (3, [.ref h2, .ref k0, .ref k1, .int i0, .int i1, .int i2])), (h2, aI cI 160 f3), (h3, aI cI 20 f4), (h4, aI cZ 80 f5)] sz) (va_Qi (fun (r : Int32) (u : Unit) => K r u) (fun (u : Unit) t => xB G (va_A [(h0, .inr (4, [.ref h1, .ref h4, .ref h3])), (h1, .inr (3, [.ref h2, .ref k0, .ref k1, .int i0, .int i1, .int i2])), (h2, aI cI 160 f3), (h3, aI cI 20 f4), (h4, aI cZ 80 f5)] sz) [(h0, .inr (4, [.ref h1, .ref h4, .ref h3])), (h1, .inr (3, [.ref h2, .ref k0, .ref k1, .int i0, .int i1, .int i2])), (h2, aI cI 160 f3), (h3, aI cI 20 f4), (h4, aI cZ 80 f5)] t) (va_A [(h0, .inr (4, [.ref h1, .ref h4, .ref h3])), (h1, .inr (3, [.ref h2, .ref k0, .ref k1, .int i0, .int i1, .int i2])), (h2, aI cI 160 f3), (h3, aI cI 20 f4), (h4, aI cZ 80 f5)] sz)) 0 0 (va_A [(h0, .inr (4, [.ref h1, .ref h4, .ref h3])), (h1, .inr (3, [.ref h2, .ref k0, .ref k1, .int i0, .int i1, .int i2])), (h2, aI cI 160 f3), (h3, aI cI 20 f4), (h4, aI cZ 80 f5)] sz) := by
  refine Met.ofW (cc := cX4_branchFrom) (maxL := 4) (ret := (some .int)) (by decide) rfl ?_
  intro p e s m args below meth c s₁ B hml hv
  obtain ⟨rfl, hsz, hP, hK, hD0, hN⟩ := hv
  have hx := B.exec
  have hb := B.bytes
  have hr := B.returns
  have hts : ∀ w ∈ xW, w.before _ s = true := fun w h => atoms_spec (ws := xw yX4_branchFrom cX4_branchFrom 4 (some .int)) B.pre w (List.mem_cons_of_mem _ h)
  have hown : s.vm.findClass RX4 = some m.cls := findClass_of_methodNamed B.named
  have hlocks := B.notSynchronized
  subst hsz
  have hD := hD0.self (sz := s.heap.size)
  clear hD0
  generalize hAe : va_A [(h0, .inr (4, [.ref h1, .ref h4, .ref h3])), (h1, .inr (3, [.ref h2, .ref k0, .ref k1, .int i0, .int i1, .int i2])), (h2, aI cI 160 f3), (h3, aI cI 20 f4), (h4, aI cZ 80 f5)] s.heap.size = A at hD ⊢
  have hA : ∀ q : Nat, s.heap.size ≤ q → A q := fun q h => by rw [← hAe]; exact Or.inr h
  clear hAe
  have hS : va_S A s.heap s.heap [] := va_S.rf
  replace hP : va_P G vwCl [(h0, .inr (4, [.ref h1, .ref h4, .ref h3])), (h1, .inr (3, [.ref h2, .ref k0, .ref k1, .int i0, .int i1, .int i2])), (h2, aI cI 160 f3), (h3, aI cI 20 f4), (h4, aI cZ 80 f5)] s.heap := hP
  have hl := lv_entry ([.ref h0, .int p0]) (n := 4) (Nat.le_of_ble_eq_true rfl)
  rw [lg_entry_eq]
  generalize (lg_sl ([.ref h0, .int p0]) ++ List.replicate (4 - (lg_sl ([.ref h0, .int p0])).length) Slot.unset).toArray = ls at hl ⊢
  replace hl : lv_has ls 4 [(0, .ref h0), (1, .int p0)] := hl
  generalize hQQ : MQ below _ _ s 0 0 _ = QQ
  skip
  unfold wX4_branchFrom at hwp
  refine lv_iload_n hx hb dX4_branchFrom_0 rfl (lv_at hl 1 rfl) ?_
  refine lv_istore_n (lv' := [(2, .int p0), (0, .ref h0), (1, .int p0)]) hx hb dX4_branchFrom_1 rfl hl (by decide) rfl (fun ls hl => ?_)
  refine lv_iconst (v := 0) hx hb dX4_branchFrom_2 (by decide) ?_
  refine lv_istore_n (lv' := [(3, .int 0), (2, .int p0), (0, .ref h0), (1, .int p0)]) hx hb dX4_branchFrom_3 rfl hl (by decide) rfl (fun ls hl => ?_)
  refine xgen (Pp := fun H locs => W p l e _ s m _ below meth c H locs _ _ _ _) (fun H locs hP hD hS => ?_) hP hD hS
  replace hl : lv_has ls 4 [(3, .int 0), (2, .int p0), (0, .ref h0)] := lv_sub hl [0, 1, 2] rfl
  obtain ⟨n1, hwp⟩ := hwp
  have hs1 : ∀ (n1 : Nat) (H : Heap) (locs : List Loc) (ls : Array Slot) (t4_0 : Int32) (t4_1 : Int32), wLX4_branchFrom_4 i0 i1 i2 f3 f4 f5 K  n1 t4_0 t4_1 → va_P G vwCl [(h0, .inr (4, [.ref h1, .ref h4, .ref h3])), (h1, .inr (3, [.ref h2, .ref k0, .ref k1, .int i0, .int i1, .int i2])), (h2, aI cI 160 f3), (h3, aI cI 20 f4), (h4, aI cZ 80 f5)] H → va_D A [(h0, .inr (4, [.ref h1, .ref h4, .ref h3])), (h1, .inr (3, [.ref h2, .ref k0, .ref k1, .int i0, .int i1, .int i2])), (h2, aI cI 160 f3), (h3, aI cI 20 f4), (h4, aI cZ 80 f5)] → va_S A s.heap H locs → lv_has ls 4 [(3, .int t4_1), (2, .int t4_0), (0, .ref h0)] → W p l e ((headSpec (xw yX4_branchFrom cX4_branchFrom 4 (some .int)) { frames := 1, cells := 0, slots := 0, locals := 22 }).room) s m ([.ref h0, .int p0] : List Value).toArray below meth c H locs 0 0 QQ (F0 m 4 ls []) := by
    intro n1
    induction n1 with
    | zero => intro H locs ls t4_0 t4_1 hwp; exact False.elim hwp
    | succ n1 ih1 =>
      intro H locs ls t4_0 t4_1 hwp hP hD hS hl
      rw [wLX4_branchFrom_4] at hwp
      refine lv_iload_n hx hb dX4_branchFrom_4 rfl (lv_at hl 0 rfl) ?_
      refine lv_bipush (v := 20) hx hb dX4_branchFrom_5 (by decide) ?_
      refine lv_icmp_ge (tgt := 42) hx hb dX4_branchFrom_7 (by decide) (fun c7 => ?_) (fun c7 => ?_)
      · replace hwp := hwp.1 c7
        refine lv_aload_n hx hb dX4_branchFrom_42 rfl (lv_at hl 2 rfl) ?_
        refine va_get (D := G) (ci := 4) (v := .ref h1) (C := RX4) (T := TX4) (N := 3) hx hb hts xinX4 hown hK hP 0 rfl rfl 0 (by decide) (hts _ wo_192) (fun _ h9 => h9) rfl dX4_branchFrom_43 ?_
        refine va_getN (D := G) (ci := 3) (v := .ref h2) (C := RX3) (T := TX3) (N := 6) hx hb hts xinX3 hown hK hP 1 rfl rfl 0 (by decide) (va_Nw.use rfl (hN.1 ("PlaneTests$Piece", 52, "PlaneTests$Graph", "at", "[I", "PlaneTests") (by decide +kernel))) (fun _ h9 => h9) rfl dX4_branchFrom_46 ?_
        refine lv_iload_n hx hb dX4_branchFrom_49 rfl (lv_at hl 1 rfl) ?_
        obtain ⟨hi, hwp⟩ := hwp
        refine va_iald hx hb hK hP 2 0 rfl rfl hi dX4_branchFrom_50 ?_
        have hP9 : va_P G vwCl [(h0, .inr (4, [.ref h1, .ref h4, .ref h3])), (h1, .inr (3, [.ref h2, .ref k0, .ref k1, .int i0, .int i1, .int i2])), (h2, aI cI 160 f3), (h3, aI cI 20 f4), (h4, aI cZ 80 f5)] H := hP.sub [0, 1, 2, 3, 4] rfl
        have hD9 : va_D A [(h0, .inr (4, [.ref h1, .ref h4, .ref h3])), (h1, .inr (3, [.ref h2, .ref k0, .ref k1, .int i0, .int i1, .int i2])), (h2, aI cI 160 f3), (h3, aI cI 20 f4), (h4, aI cZ 80 f5)] := hD.sub [0, 1, 2, 3, 4] (by decide) rfl
        rw [← hQQ]
        exact W.iret (v := (f3 (Int32.toNatClampNeg t4_0))) hx hb hr (fun t ht hW => ⟨⟨_, (), rfl, hwp, by rw [ht]; exact hP9, hD9⟩, hS.F ht⟩) hS.2.2 dX4_branchFrom_51
      · replace hwp := hwp.2 c7
        refine lv_aload_n hx hb dX4_branchFrom_10 rfl (lv_at hl 2 rfl) ?_
        refine va_get (D := G) (ci := 4) (v := .ref h3) (C := RX4) (T := TX4) (N := 3) hx hb hts xinX4 hown hK hP 0 rfl rfl 2 (by decide) (hts _ wo_194) (fun _ h9 => h9) rfl dX4_branchFrom_11 ?_
        refine lv_aload_n hx hb dX4_branchFrom_14 rfl (lv_at hl 2 rfl) ?_
        refine va_get (D := G) (ci := 4) (v := .ref h1) (C := RX4) (T := TX4) (N := 3) hx hb hts xinX4 hown hK hP 0 rfl rfl 0 (by decide) (hts _ wo_192) (fun _ h9 => h9) rfl dX4_branchFrom_15 ?_
        refine va_getN (D := G) (ci := 3) (v := .ref h2) (C := RX3) (T := TX3) (N := 6) hx hb hts xinX3 hown hK hP 1 rfl rfl 0 (by decide) (va_Nw.use rfl (hN.1 ("PlaneTests$Piece", 52, "PlaneTests$Graph", "at", "[I", "PlaneTests") (by decide +kernel))) (fun _ h9 => h9) rfl dX4_branchFrom_18 ?_
        refine lv_iload_n hx hb dX4_branchFrom_21 rfl (lv_at hl 1 rfl) ?_
        obtain ⟨hi, hwp⟩ := hwp
        refine va_iald hx hb hK hP 2 0 rfl rfl hi dX4_branchFrom_22 ?_
        obtain ⟨hi, hwp⟩ := hwp
        refine va_iald hx hb hK hP 3 0 rfl rfl hi dX4_branchFrom_23 ?_
        refine lv_iconst (v := 3) hx hb dX4_branchFrom_24 (by decide) ?_
        refine lv_icmp_ge (tgt := 42) hx hb dX4_branchFrom_25 (by decide) (fun c25 => ?_) (fun c25 => ?_)
        · replace hwp := hwp.1 c25
          refine lv_aload_n hx hb dX4_branchFrom_42 rfl (lv_at hl 2 rfl) ?_
          refine va_get (D := G) (ci := 4) (v := .ref h1) (C := RX4) (T := TX4) (N := 3) hx hb hts xinX4 hown hK hP 0 rfl rfl 0 (by decide) (hts _ wo_192) (fun _ h9 => h9) rfl dX4_branchFrom_43 ?_
          refine va_getN (D := G) (ci := 3) (v := .ref h2) (C := RX3) (T := TX3) (N := 6) hx hb hts xinX3 hown hK hP 1 rfl rfl 0 (by decide) (va_Nw.use rfl (hN.1 ("PlaneTests$Piece", 52, "PlaneTests$Graph", "at", "[I", "PlaneTests") (by decide +kernel))) (fun _ h9 => h9) rfl dX4_branchFrom_46 ?_
          refine lv_iload_n hx hb dX4_branchFrom_49 rfl (lv_at hl 1 rfl) ?_
          obtain ⟨hi, hwp⟩ := hwp
          refine va_iald hx hb hK hP 2 0 rfl rfl hi dX4_branchFrom_50 ?_
          have hP9 : va_P G vwCl [(h0, .inr (4, [.ref h1, .ref h4, .ref h3])), (h1, .inr (3, [.ref h2, .ref k0, .ref k1, .int i0, .int i1, .int i2])), (h2, aI cI 160 f3), (h3, aI cI 20 f4), (h4, aI cZ 80 f5)] H := hP.sub [0, 1, 2, 3, 4] rfl
          have hD9 : va_D A [(h0, .inr (4, [.ref h1, .ref h4, .ref h3])), (h1, .inr (3, [.ref h2, .ref k0, .ref k1, .int i0, .int i1, .int i2])), (h2, aI cI 160 f3), (h3, aI cI 20 f4), (h4, aI cZ 80 f5)] := hD.sub [0, 1, 2, 3, 4] (by decide) rfl
          rw [← hQQ]
          exact W.iret (v := (f3 (Int32.toNatClampNeg t4_0))) hx hb hr (fun t ht hW => ⟨⟨_, (), rfl, hwp, by rw [ht]; exact hP9, hD9⟩, hS.F ht⟩) hS.2.2 dX4_branchFrom_51
        · replace hwp := hwp.2 c25
          refine lv_aload_n hx hb dX4_branchFrom_28 rfl (lv_at hl 2 rfl) ?_
          refine lv_iload_n hx hb dX4_branchFrom_29 rfl (lv_at hl 1 rfl) ?_
          refine xci (wr := [(h3, aI cI 20 f4)]) (va_runV (As := [.int t4_0]) (rest := []) ⟨hx, hb, hml, hown, hts⟩ (zX4_otherEndAt l G cI cJ cZ h0 h1 h4 h2 h3 k0 k1 H.size i0 i1 i2 f5 f3 t4_0 _ hwp) (cwV 1 hts (xgoodV wo_195 wo_196 wo_197 wo_198 wo_199) rfl rfl rfl (by decide +kernel) ⟨Nat.le_of_ble_eq_true rfl, Nat.le_of_ble_eq_true rfl⟩) (xPreV (q := (RX4, TX4, 3)) (q0 := 0) hK hN hP hD [0, 1, 4, 2] (by decide) rfl rfl rfl) rfl rfl hl.1 rfl (lv_room (Nat.le_of_ble_eq_true rfl)) dX4_branchFrom_30 ⟨Nat.le_of_ble_eq_true rfl, Nat.le_of_ble_eq_true rfl⟩) hP hD hS hA [0, 1, 4, 2] [3] rfl rfl (by decide) (by decide) (fun r30 u30 H locs hwp hP hD hS => ?_)
          replace hP : va_P G vwCl [(h3, aI cI 20 f4), (h0, .inr (4, [.ref h1, .ref h4, .ref h3])), (h1, .inr (3, [.ref h2, .ref k0, .ref k1, .int i0, .int i1, .int i2])), (h4, aI cZ 80 f5), (h2, aI cI 160 f3)] H := hP
          replace hD : va_D A [(h3, aI cI 20 f4), (h0, .inr (4, [.ref h1, .ref h4, .ref h3])), (h1, .inr (3, [.ref h2, .ref k0, .ref k1, .int i0, .int i1, .int i2])), (h4, aI cZ 80 f5), (h2, aI cI 160 f3)] := hD
          refine lv_iconst (v := 1) hx hb dX4_branchFrom_33 (by decide) ?_
          refine lv_ixor hx hb dX4_branchFrom_34 ?_
          refine lv_topi (fun v35 ev35 => ?_)
          replace hwp := hwp v35 ev35
          clear ev35
          refine lv_istore_n (lv' := [(2, .int v35), (3, .int t4_1), (0, .ref h0)]) hx hb dX4_branchFrom_35 rfl hl (by decide) rfl (fun ls hl => ?_)
          refine lv_iinc (v := (t4_1 + 1)) (lv' := [(3, .int (t4_1 + 1)), (2, .int v35), (0, .ref h0)]) hx hb dX4_branchFrom_36 hl (k := 1) rfl rfl (by decide) rfl (fun ls hl => ?_)
          refine lv_goto (tgt := 4) hx hb dX4_branchFrom_39 (by decide) ?_
          replace hl : lv_has ls 4 [(3, .int (t4_1 + 1)), (2, .int v35), (0, .ref h0)] := lv_sub hl [0, 1, 2] rfl
          replace hP : va_P G vwCl [(h0, .inr (4, [.ref h1, .ref h4, .ref h3])), (h1, .inr (3, [.ref h2, .ref k0, .ref k1, .int i0, .int i1, .int i2])), (h2, aI cI 160 f3), (h3, aI cI 20 f4), (h4, aI cZ 80 f5)] H := hP.sub [1, 2, 4, 0, 3] rfl
          replace hD : va_D A [(h0, .inr (4, [.ref h1, .ref h4, .ref h3])), (h1, .inr (3, [.ref h2, .ref k0, .ref k1, .int i0, .int i1, .int i2])), (h2, aI cI 160 f3), (h3, aI cI 20 f4), (h4, aI cZ 80 f5)] := hD.sub [1, 2, 4, 0, 3] (by decide) rfl
          exact ih1 H locs ls v35 (t4_1 + 1) hwp hP hD hS hl
  exact hs1 n1 H locs ls p0 0 hwp hP hD hS hl
def wX8_forget (i0 : Int32) (i1 : Int32) (i2 : Int32) (i3 : Int32) (i4 : Int32) (K : (Int32 × Int32 × Int32 × Int32) → Prop) : Prop := K ((0 : Int32), (0 : Int32), (0 : Int32), (0 : Int32))
set_option maxHeartbeats 4000000 in
set_option maxRecDepth 100000 in
theorem zX8_forget (l : Launch) (G : va_G) (cI cJ cZ : ClassId) (h0 k0 k1 k2 k3 k4 k5 k6 k7 k8 k9 k10 sz : Nat) (i0 : Int32) (i1 : Int32) (i2 : Int32) (i3 : Int32) (i4 : Int32) (K : (Int32 × Int32 × Int32 × Int32) → Prop) (hwp : wX8_forget i0 i1 i2 i3 i4 K) : Met l yX8_forget (xw yX8_forget cX8_forget 1 none) ({ frames := 0, cells := 0, slots := 0, locals := 0 }) (xPc G cI cJ cZ [.ref h0] [(h0, .inr (8, [.ref k0, .ref k1, .ref k2, .ref k3, .ref k4, .ref k5, .ref k6, .ref k7, .ref k8, .ref k9, .ref k10, .int i0, .int i1, .int i2, .int i3, .int i4]))] sz) (va_Qv (fun (u : Int32 × Int32 × Int32 × Int32) => K u) (fun (u : Int32 × Int32 × Int32 × Int32) t => xB G (va_A [(h0, .inr (8, [.ref k0, .ref k1, .ref k2, .ref k3, .ref k4, .ref k5, .ref k6, .ref k7, .ref k8, .ref k9, .ref k10, .int i0, .int i1, .int i2, .int i3, .int i4]))] sz) [(h0, .inr (8, [.ref k0, .ref k1, .ref k2, .ref k3, .ref k4, .ref k5, .ref k6, .ref k7, .ref k8, .ref k9, .ref k10, .int u.1, .int i1, .int u.2.1, .int u.2.2.1, .int u.2.2.2]))] t) (va_A [(h0, .inr (8, [.ref k0, .ref k1, .ref k2, .ref k3, .ref k4, .ref k5, .ref k6, .ref k7, .ref k8, .ref k9, .ref k10, .int i0, .int i1, .int i2, .int i3, .int i4]))] sz)) 0 0 (va_A [(h0, .inr (8, [.ref k0, .ref k1, .ref k2, .ref k3, .ref k4, .ref k5, .ref k6, .ref k7, .ref k8, .ref k9, .ref k10, .int i0, .int i1, .int i2, .int i3, .int i4]))] sz) := by
  refine Met.ofW (cc := cX8_forget) (maxL := 1) (ret := none) (by decide) rfl ?_
  intro p e s m args below meth c s₁ B hml hv
  obtain ⟨rfl, hsz, hP, hK, hD0, hN⟩ := hv
  have hx := B.exec
  have hb := B.bytes
  have hr := B.returns
  have hts : ∀ w ∈ xW, w.before _ s = true := fun w h => atoms_spec (ws := xw yX8_forget cX8_forget 1 none) B.pre w (List.mem_cons_of_mem _ h)
  have hown : s.vm.findClass RX8 = some m.cls := findClass_of_methodNamed B.named
  have hlocks := B.notSynchronized
  subst hsz
  have hD := hD0.self (sz := s.heap.size)
  clear hD0
  generalize hAe : va_A [(h0, .inr (8, [.ref k0, .ref k1, .ref k2, .ref k3, .ref k4, .ref k5, .ref k6, .ref k7, .ref k8, .ref k9, .ref k10, .int i0, .int i1, .int i2, .int i3, .int i4]))] s.heap.size = A at hD ⊢
  have hA : ∀ q : Nat, s.heap.size ≤ q → A q := fun q h => by rw [← hAe]; exact Or.inr h
  clear hAe
  have hS : va_S A s.heap s.heap [] := va_S.rf
  replace hP : va_P G vwCl [(h0, .inr (8, [.ref k0, .ref k1, .ref k2, .ref k3, .ref k4, .ref k5, .ref k6, .ref k7, .ref k8, .ref k9, .ref k10, .int i0, .int i1, .int i2, .int i3, .int i4]))] s.heap := hP
  have hl := lv_entry ([.ref h0]) (n := 1) (Nat.le_of_ble_eq_true rfl)
  rw [lg_entry_eq]
  generalize (lg_sl ([.ref h0]) ++ List.replicate (1 - (lg_sl ([.ref h0])).length) Slot.unset).toArray = ls at hl ⊢
  replace hl : lv_has ls 1 [(0, .ref h0)] := hl
  generalize hQQ : MQ below _ _ s 0 0 _ = QQ
  skip
  unfold wX8_forget at hwp
  refine lv_aload_n hx hb dX8_forget_0 rfl (lv_at hl 0 rfl) ?_
  refine lv_iconst (v := 0) hx hb dX8_forget_1 (by decide) ?_
  refine va_put (D := G) (ci := 8) (v := .int 0) (ty := .boolean) (C := RX8) (T := TX8) (N := 16) hx hb hts xinX8 tyX8 tyX8_ok nmX8 hown hK hP hD hS 0 rfl rfl 11 (by decide) (hts _ wo_200) (fun _ h9 => h9) rfl (by decide +kernel) rfl rfl (Nat.le_of_ble_eq_true rfl) dX8_forget_2 (fun H locs hP hD hS => ?_)
  replace hP : va_P G vwCl [(h0, .inr (8, [.ref k0, .ref k1, .ref k2, .ref k3, .ref k4, .ref k5, .ref k6, .ref k7, .ref k8, .ref k9, .ref k10, .int 0, .int i1, .int i2, .int i3, .int i4]))] H := hP
  replace hD : va_D A [(h0, .inr (8, [.ref k0, .ref k1, .ref k2, .ref k3, .ref k4, .ref k5, .ref k6, .ref k7, .ref k8, .ref k9, .ref k10, .int 0, .int i1, .int i2, .int i3, .int i4]))] := hD
  refine lv_aload_n hx hb dX8_forget_5 rfl (lv_at hl 0 rfl) ?_
  refine lv_iconst (v := 0) hx hb dX8_forget_6 (by decide) ?_
  refine va_put (D := G) (ci := 8) (v := .int 0) (ty := .boolean) (C := RX8) (T := TX8) (N := 16) hx hb hts xinX8 tyX8 tyX8_ok nmX8 hown hK hP hD hS 0 rfl rfl 13 (by decide) (hts _ wo_201) (fun _ h9 => h9) rfl (by decide +kernel) rfl rfl (Nat.le_of_ble_eq_true rfl) dX8_forget_7 (fun H locs hP hD hS => ?_)
  replace hP : va_P G vwCl [(h0, .inr (8, [.ref k0, .ref k1, .ref k2, .ref k3, .ref k4, .ref k5, .ref k6, .ref k7, .ref k8, .ref k9, .ref k10, .int 0, .int i1, .int 0, .int i3, .int i4]))] H := hP
  replace hD : va_D A [(h0, .inr (8, [.ref k0, .ref k1, .ref k2, .ref k3, .ref k4, .ref k5, .ref k6, .ref k7, .ref k8, .ref k9, .ref k10, .int 0, .int i1, .int 0, .int i3, .int i4]))] := hD
  refine lv_aload_n hx hb dX8_forget_10 rfl (lv_at hl 0 rfl) ?_
  refine lv_iconst (v := 0) hx hb dX8_forget_11 (by decide) ?_
  refine va_put (D := G) (ci := 8) (v := .int 0) (ty := .boolean) (C := RX8) (T := TX8) (N := 16) hx hb hts xinX8 tyX8 tyX8_ok nmX8 hown hK hP hD hS 0 rfl rfl 14 (by decide) (hts _ wo_202) (fun _ h9 => h9) rfl (by decide +kernel) rfl rfl (Nat.le_of_ble_eq_true rfl) dX8_forget_12 (fun H locs hP hD hS => ?_)
  replace hP : va_P G vwCl [(h0, .inr (8, [.ref k0, .ref k1, .ref k2, .ref k3, .ref k4, .ref k5, .ref k6, .ref k7, .ref k8, .ref k9, .ref k10, .int 0, .int i1, .int 0, .int 0, .int i4]))] H := hP
  replace hD : va_D A [(h0, .inr (8, [.ref k0, .ref k1, .ref k2, .ref k3, .ref k4, .ref k5, .ref k6, .ref k7, .ref k8, .ref k9, .ref k10, .int 0, .int i1, .int 0, .int 0, .int i4]))] := hD
  refine lv_aload_n hx hb dX8_forget_15 rfl (lv_at hl 0 rfl) ?_
  refine lv_iconst (v := 0) hx hb dX8_forget_16 (by decide) ?_
  refine va_put (D := G) (ci := 8) (v := .int 0) (ty := .boolean) (C := RX8) (T := TX8) (N := 16) hx hb hts xinX8 tyX8 tyX8_ok nmX8 hown hK hP hD hS 0 rfl rfl 15 (by decide) (hts _ wo_203) (fun _ h9 => h9) rfl (by decide +kernel) rfl rfl (Nat.le_of_ble_eq_true rfl) dX8_forget_17 (fun H locs hP hD hS => ?_)
  replace hP : va_P G vwCl [(h0, .inr (8, [.ref k0, .ref k1, .ref k2, .ref k3, .ref k4, .ref k5, .ref k6, .ref k7, .ref k8, .ref k9, .ref k10, .int 0, .int i1, .int 0, .int 0, .int 0]))] H := hP
  replace hD : va_D A [(h0, .inr (8, [.ref k0, .ref k1, .ref k2, .ref k3, .ref k4, .ref k5, .ref k6, .ref k7, .ref k8, .ref k9, .ref k10, .int 0, .int i1, .int 0, .int 0, .int 0]))] := hD
  have hP9 : va_P G vwCl [(h0, .inr (8, [.ref k0, .ref k1, .ref k2, .ref k3, .ref k4, .ref k5, .ref k6, .ref k7, .ref k8, .ref k9, .ref k10, .int 0, .int i1, .int 0, .int 0, .int 0]))] H := hP.sub [0] rfl
  have hD9 : va_D A [(h0, .inr (8, [.ref k0, .ref k1, .ref k2, .ref k3, .ref k4, .ref k5, .ref k6, .ref k7, .ref k8, .ref k9, .ref k10, .int 0, .int i1, .int 0, .int 0, .int 0]))] := hD.sub [0] (by decide) rfl
  rw [← hQQ]
  exact W.vret hx hb hr (fun t ht hW => ⟨⟨((0 : Int32), (0 : Int32), (0 : Int32), (0 : Int32)), rfl, hwp, by rw [ht]; exact hP9, hD9⟩, hS.F ht⟩) hS.2.2 dX8_forget_20
def wX8_node (i0 : Int32) (i1 : Int32) (i2 : Int32) (i3 : Int32) (i4 : Int32) (i5 : Int32) (i6 : Int32) (i7 : Int32) (i8 : Int32) (f9 : Nat → Int32) (K : Int32 → (Int32 × Int32 × Int32 × Int32 × Int32 × Int32 × (Nat → Int32)) → Prop) : Prop := ((i5 < 20 → (wX8_forget i0 i1 i2 i3 i4 (fun u16 => (wX7_open i8 f9 (fun u23 => (wX3_addNode i5 i6 i7 (fun r30 u30 => K r30 (u16.1, u16.2.1, u16.2.2.1, u16.2.2.2, u30, u23.1, u23.2)))))))) ∧ (¬ i5 < 20 → K ((-4) : Int32) (i0, i2, i3, i4, i5, i8, f9)))
set_option maxHeartbeats 4000000 in
set_option maxRecDepth 100000 in
theorem zX8_node (l : Launch) (G : va_G) (cI cJ cZ : ClassId) (h0 h1 h2 h3 k0 k1 k2 k3 k4 k5 k6 k7 k8 k9 k10 k11 k12 sz : Nat) (i0 : Int32) (i1 : Int32) (i2 : Int32) (i3 : Int32) (i4 : Int32) (i5 : Int32) (i6 : Int32) (i7 : Int32) (i8 : Int32) (f9 : Nat → Int32) (K : Int32 → (Int32 × Int32 × Int32 × Int32 × Int32 × Int32 × (Nat → Int32)) → Prop) (hwp : wX8_node i0 i1 i2 i3 i4 i5 i6 i7 i8 f9 K) : Met l yX8_node (xw yX8_node cX8_node 1 (some .int)) ({ frames := 1, cells := 0, slots := 0, locals := 20 }) (xPc G cI cJ cZ [.ref h0] [(h0, .inr (8, [.ref h1, .ref h2, .ref k0, .ref k1, .ref k2, .ref k3, .ref k4, .ref k5, .ref k6, .ref k7, .ref k8, .int i0, .int i1, .int i2, .int i3, .int i4])), (h1, .inr (3, [.ref k9, .ref k10, .ref k11, .int i5, .int i6, .int i7])), (h2, .inr (7, [.ref k12, .ref h3, .int i8])), (h3, aI cI 181 f9)] sz) (va_Qi (fun (r : Int32) (u : Int32 × Int32 × Int32 × Int32 × Int32 × Int32 × (Nat → Int32)) => K r u) (fun (u : Int32 × Int32 × Int32 × Int32 × Int32 × Int32 × (Nat → Int32)) t => xB G (va_A [(h0, .inr (8, [.ref h1, .ref h2, .ref k0, .ref k1, .ref k2, .ref k3, .ref k4, .ref k5, .ref k6, .ref k7, .ref k8, .int i0, .int i1, .int i2, .int i3, .int i4])), (h1, .inr (3, [.ref k9, .ref k10, .ref k11, .int i5, .int i6, .int i7])), (h2, .inr (7, [.ref k12, .ref h3, .int i8])), (h3, aI cI 181 f9)] sz) [(h0, .inr (8, [.ref h1, .ref h2, .ref k0, .ref k1, .ref k2, .ref k3, .ref k4, .ref k5, .ref k6, .ref k7, .ref k8, .int u.1, .int i1, .int u.2.1, .int u.2.2.1, .int u.2.2.2.1])), (h1, .inr (3, [.ref k9, .ref k10, .ref k11, .int u.2.2.2.2.1, .int i6, .int i7])), (h2, .inr (7, [.ref k12, .ref h3, .int u.2.2.2.2.2.1])), (h3, aI cI 181 u.2.2.2.2.2.2)] t) (va_A [(h0, .inr (8, [.ref h1, .ref h2, .ref k0, .ref k1, .ref k2, .ref k3, .ref k4, .ref k5, .ref k6, .ref k7, .ref k8, .int i0, .int i1, .int i2, .int i3, .int i4])), (h1, .inr (3, [.ref k9, .ref k10, .ref k11, .int i5, .int i6, .int i7])), (h2, .inr (7, [.ref k12, .ref h3, .int i8])), (h3, aI cI 181 f9)] sz)) 0 0 (va_A [(h0, .inr (8, [.ref h1, .ref h2, .ref k0, .ref k1, .ref k2, .ref k3, .ref k4, .ref k5, .ref k6, .ref k7, .ref k8, .int i0, .int i1, .int i2, .int i3, .int i4])), (h1, .inr (3, [.ref k9, .ref k10, .ref k11, .int i5, .int i6, .int i7])), (h2, .inr (7, [.ref k12, .ref h3, .int i8])), (h3, aI cI 181 f9)] sz) := by
  refine Met.ofW (cc := cX8_node) (maxL := 1) (ret := (some .int)) (by decide) rfl ?_
  intro p e s m args below meth c s₁ B hml hv
  obtain ⟨rfl, hsz, hP, hK, hD0, hN⟩ := hv
  have hx := B.exec
  have hb := B.bytes
  have hr := B.returns
  have hts : ∀ w ∈ xW, w.before _ s = true := fun w h => atoms_spec (ws := xw yX8_node cX8_node 1 (some .int)) B.pre w (List.mem_cons_of_mem _ h)
  have hown : s.vm.findClass RX8 = some m.cls := findClass_of_methodNamed B.named
  have hlocks := B.notSynchronized
  subst hsz
  have hD := hD0.self (sz := s.heap.size)
  clear hD0
  generalize hAe : va_A [(h0, .inr (8, [.ref h1, .ref h2, .ref k0, .ref k1, .ref k2, .ref k3, .ref k4, .ref k5, .ref k6, .ref k7, .ref k8, .int i0, .int i1, .int i2, .int i3, .int i4])), (h1, .inr (3, [.ref k9, .ref k10, .ref k11, .int i5, .int i6, .int i7])), (h2, .inr (7, [.ref k12, .ref h3, .int i8])), (h3, aI cI 181 f9)] s.heap.size = A at hD ⊢
  have hA : ∀ q : Nat, s.heap.size ≤ q → A q := fun q h => by rw [← hAe]; exact Or.inr h
  clear hAe
  have hS : va_S A s.heap s.heap [] := va_S.rf
  replace hP : va_P G vwCl [(h0, .inr (8, [.ref h1, .ref h2, .ref k0, .ref k1, .ref k2, .ref k3, .ref k4, .ref k5, .ref k6, .ref k7, .ref k8, .int i0, .int i1, .int i2, .int i3, .int i4])), (h1, .inr (3, [.ref k9, .ref k10, .ref k11, .int i5, .int i6, .int i7])), (h2, .inr (7, [.ref k12, .ref h3, .int i8])), (h3, aI cI 181 f9)] s.heap := hP
  have hl := lv_entry ([.ref h0]) (n := 1) (Nat.le_of_ble_eq_true rfl)
  rw [lg_entry_eq]
  generalize (lg_sl ([.ref h0]) ++ List.replicate (1 - (lg_sl ([.ref h0])).length) Slot.unset).toArray = ls at hl ⊢
  replace hl : lv_has ls 1 [(0, .ref h0)] := hl
  generalize hQQ : MQ below _ _ s 0 0 _ = QQ
  skip
  unfold wX8_node at hwp
  refine lv_aload_n hx hb dX8_node_0 rfl (lv_at hl 0 rfl) ?_
  refine va_get (D := G) (ci := 8) (v := .ref h1) (C := RX8) (T := TX8) (N := 16) hx hb hts xinX8 hown hK hP 0 rfl rfl 0 (by decide) (hts _ wo_204) (fun _ h9 => h9) rfl dX8_node_1 ?_
  refine va_getN (D := G) (ci := 3) (v := .int i5) (C := RX3) (T := TX3) (N := 6) hx hb hts xinX3 hown hK hP 1 rfl rfl 3 (by decide) (va_Nw.use rfl (hN.1 ("PlaneTests", 81, "PlaneTests$Graph", "nodes", "I", "PlaneTests") (by decide +kernel))) (fun _ h9 => h9) rfl dX8_node_4 ?_
  refine lv_bipush (v := 20) hx hb dX8_node_7 (by decide) ?_
  refine lv_icmp_lt (tgt := 15) hx hb dX8_node_9 (by decide) (fun c9 => ?_) (fun c9 => ?_)
  · replace hwp := hwp.1 c9
    refine lv_aload_n hx hb dX8_node_15 rfl (lv_at hl 0 rfl) ?_
    refine xcv (wr := [(h1, .inr (3, [.ref k9, .ref k10, .ref k11, .int i5, .int i6, .int i7])), (h2, .inr (7, [.ref k12, .ref h3, .int i8])), (h3, aI cI 181 f9)]) (va_runV (As := []) (rest := []) ⟨hx, hb, hml, hown, hts⟩ (zX8_forget l G cI cJ cZ h0 h1 h2 k0 k1 k2 k3 k4 k5 k6 k7 k8 s.heap.size i0 i1 i2 i3 i4 _ hwp) (cwV 0 hts (xgoodV wo_205 wo_206 wo_207 wo_208 wo_49) rfl rfl rfl (by decide +kernel) ⟨Nat.le_of_ble_eq_true rfl, Nat.le_of_ble_eq_true rfl⟩) (xPreV (q := (RX8, TX8, 16)) (q0 := 0) hK hN hP hD [0] (by decide) rfl rfl rfl) rfl rfl hl.1 rfl (lv_room (Nat.le_of_ble_eq_true rfl)) dX8_node_16 ⟨Nat.le_of_ble_eq_true rfl, Nat.le_of_ble_eq_true rfl⟩) hP hD hS hA [0] [1, 2, 3] rfl rfl (by decide) (by decide) (fun u16 H locs hwp hP hD hS => ?_)
    replace hP : va_P G vwCl [(h1, .inr (3, [.ref k9, .ref k10, .ref k11, .int i5, .int i6, .int i7])), (h2, .inr (7, [.ref k12, .ref h3, .int i8])), (h3, aI cI 181 f9), (h0, .inr (8, [.ref h1, .ref h2, .ref k0, .ref k1, .ref k2, .ref k3, .ref k4, .ref k5, .ref k6, .ref k7, .ref k8, .int u16.1, .int i1, .int u16.2.1, .int u16.2.2.1, .int u16.2.2.2]))] H := hP
    replace hD : va_D A [(h1, .inr (3, [.ref k9, .ref k10, .ref k11, .int i5, .int i6, .int i7])), (h2, .inr (7, [.ref k12, .ref h3, .int i8])), (h3, aI cI 181 f9), (h0, .inr (8, [.ref h1, .ref h2, .ref k0, .ref k1, .ref k2, .ref k3, .ref k4, .ref k5, .ref k6, .ref k7, .ref k8, .int u16.1, .int i1, .int u16.2.1, .int u16.2.2.1, .int u16.2.2.2]))] := hD
    refine lv_aload_n hx hb dX8_node_19 rfl (lv_at hl 0 rfl) ?_
    refine va_get (D := G) (ci := 8) (v := .ref h2) (C := RX8) (T := TX8) (N := 16) hx hb hts xinX8 hown hK hP 3 rfl rfl 1 (by decide) (hts _ wo_209) (fun _ h9 => h9) rfl dX8_node_20 ?_
    refine xcv (wr := [(h1, .inr (3, [.ref k9, .ref k10, .ref k11, .int i5, .int i6, .int i7])), (h0, .inr (8, [.ref h1, .ref h2, .ref k0, .ref k1, .ref k2, .ref k3, .ref k4, .ref k5, .ref k6, .ref k7, .ref k8, .int u16.1, .int i1, .int u16.2.1, .int u16.2.2.1, .int u16.2.2.2]))]) (va_runV (As := []) (rest := []) ⟨hx, hb, hml, hown, hts⟩ (zX7_open l G cI cJ cZ h2 h3 k12 H.size i8 f9 _ hwp) (cwV 0 hts (xgoodV wo_31 wo_210 wo_33 wo_34 wo_28) rfl rfl rfl (by decide +kernel) ⟨Nat.le_of_ble_eq_true rfl, Nat.le_of_ble_eq_true rfl⟩) (xPreV (q := (RX7, TX7, 3)) (q0 := 1) hK hN hP hD [1, 2] (by decide) rfl rfl rfl) rfl rfl hl.1 rfl (lv_room (Nat.le_of_ble_eq_true rfl)) dX8_node_23 ⟨Nat.le_of_ble_eq_true rfl, Nat.le_of_ble_eq_true rfl⟩) hP hD hS hA [1, 2] [0, 3] rfl rfl (by decide) (by decide) (fun u23 H locs hwp hP hD hS => ?_)
    replace hP : va_P G vwCl [(h1, .inr (3, [.ref k9, .ref k10, .ref k11, .int i5, .int i6, .int i7])), (h0, .inr (8, [.ref h1, .ref h2, .ref k0, .ref k1, .ref k2, .ref k3, .ref k4, .ref k5, .ref k6, .ref k7, .ref k8, .int u16.1, .int i1, .int u16.2.1, .int u16.2.2.1, .int u16.2.2.2])), (h2, .inr (7, [.ref k12, .ref h3, .int u23.1])), (h3, aI cI 181 u23.2)] H := hP
    replace hD : va_D A [(h1, .inr (3, [.ref k9, .ref k10, .ref k11, .int i5, .int i6, .int i7])), (h0, .inr (8, [.ref h1, .ref h2, .ref k0, .ref k1, .ref k2, .ref k3, .ref k4, .ref k5, .ref k6, .ref k7, .ref k8, .int u16.1, .int i1, .int u16.2.1, .int u16.2.2.1, .int u16.2.2.2])), (h2, .inr (7, [.ref k12, .ref h3, .int u23.1])), (h3, aI cI 181 u23.2)] := hD
    refine lv_aload_n hx hb dX8_node_26 rfl (lv_at hl 0 rfl) ?_
    refine va_get (D := G) (ci := 8) (v := .ref h1) (C := RX8) (T := TX8) (N := 16) hx hb hts xinX8 hown hK hP 1 rfl rfl 0 (by decide) (hts _ wo_204) (fun _ h9 => h9) rfl dX8_node_27 ?_
    refine xci (wr := [(h0, .inr (8, [.ref h1, .ref h2, .ref k0, .ref k1, .ref k2, .ref k3, .ref k4, .ref k5, .ref k6, .ref k7, .ref k8, .int u16.1, .int i1, .int u16.2.1, .int u16.2.2.1, .int u16.2.2.2])), (h2, .inr (7, [.ref k12, .ref h3, .int u23.1])), (h3, aI cI 181 u23.2)]) (va_runV (As := []) (rest := []) ⟨hx, hb, hml, hown, hts⟩ (zX3_addNode l G cI cJ cZ h1 k9 k10 k11 H.size i5 i6 i7 _ hwp) (cwV 0 hts (xgoodV wo_211 wo_212 wo_213 wo_214 wo_13) rfl rfl rfl (by decide +kernel) ⟨Nat.le_of_ble_eq_true rfl, Nat.le_of_ble_eq_true rfl⟩) (xPreV (q := (RX3, TX3, 6)) (q0 := 0) hK hN hP hD [0] (by decide) rfl rfl rfl) rfl rfl hl.1 rfl (lv_room (Nat.le_of_ble_eq_true rfl)) dX8_node_30 ⟨Nat.le_of_ble_eq_true rfl, Nat.le_of_ble_eq_true rfl⟩) hP hD hS hA [0] [1, 2, 3] rfl rfl (by decide) (by decide) (fun r30 u30 H locs hwp hP hD hS => ?_)
    replace hP : va_P G vwCl [(h0, .inr (8, [.ref h1, .ref h2, .ref k0, .ref k1, .ref k2, .ref k3, .ref k4, .ref k5, .ref k6, .ref k7, .ref k8, .int u16.1, .int i1, .int u16.2.1, .int u16.2.2.1, .int u16.2.2.2])), (h2, .inr (7, [.ref k12, .ref h3, .int u23.1])), (h3, aI cI 181 u23.2), (h1, .inr (3, [.ref k9, .ref k10, .ref k11, .int u30, .int i6, .int i7]))] H := hP
    replace hD : va_D A [(h0, .inr (8, [.ref h1, .ref h2, .ref k0, .ref k1, .ref k2, .ref k3, .ref k4, .ref k5, .ref k6, .ref k7, .ref k8, .int u16.1, .int i1, .int u16.2.1, .int u16.2.2.1, .int u16.2.2.2])), (h2, .inr (7, [.ref k12, .ref h3, .int u23.1])), (h3, aI cI 181 u23.2), (h1, .inr (3, [.ref k9, .ref k10, .ref k11, .int u30, .int i6, .int i7]))] := hD
    have hP9 : va_P G vwCl [(h0, .inr (8, [.ref h1, .ref h2, .ref k0, .ref k1, .ref k2, .ref k3, .ref k4, .ref k5, .ref k6, .ref k7, .ref k8, .int u16.1, .int i1, .int u16.2.1, .int u16.2.2.1, .int u16.2.2.2])), (h1, .inr (3, [.ref k9, .ref k10, .ref k11, .int u30, .int i6, .int i7])), (h2, .inr (7, [.ref k12, .ref h3, .int u23.1])), (h3, aI cI 181 u23.2)] H := hP.sub [0, 3, 1, 2] rfl
    have hD9 : va_D A [(h0, .inr (8, [.ref h1, .ref h2, .ref k0, .ref k1, .ref k2, .ref k3, .ref k4, .ref k5, .ref k6, .ref k7, .ref k8, .int u16.1, .int i1, .int u16.2.1, .int u16.2.2.1, .int u16.2.2.2])), (h1, .inr (3, [.ref k9, .ref k10, .ref k11, .int u30, .int i6, .int i7])), (h2, .inr (7, [.ref k12, .ref h3, .int u23.1])), (h3, aI cI 181 u23.2)] := hD.sub [0, 3, 1, 2] (by decide) rfl
    rw [← hQQ]
    exact W.iret (v := r30) hx hb hr (fun t ht hW => ⟨⟨_, (u16.1, u16.2.1, u16.2.2.1, u16.2.2.2, u30, u23.1, u23.2), rfl, hwp, by rw [ht]; exact hP9, hD9⟩, hS.F ht⟩) hS.2.2 dX8_node_33
  · replace hwp := hwp.2 c9
    refine lv_bipush (v := (-4)) hx hb dX8_node_12 (by decide) ?_
    have hP9 : va_P G vwCl [(h0, .inr (8, [.ref h1, .ref h2, .ref k0, .ref k1, .ref k2, .ref k3, .ref k4, .ref k5, .ref k6, .ref k7, .ref k8, .int i0, .int i1, .int i2, .int i3, .int i4])), (h1, .inr (3, [.ref k9, .ref k10, .ref k11, .int i5, .int i6, .int i7])), (h2, .inr (7, [.ref k12, .ref h3, .int i8])), (h3, aI cI 181 f9)] s.heap := hP.sub [0, 1, 2, 3] rfl
    have hD9 : va_D A [(h0, .inr (8, [.ref h1, .ref h2, .ref k0, .ref k1, .ref k2, .ref k3, .ref k4, .ref k5, .ref k6, .ref k7, .ref k8, .int i0, .int i1, .int i2, .int i3, .int i4])), (h1, .inr (3, [.ref k9, .ref k10, .ref k11, .int i5, .int i6, .int i7])), (h2, .inr (7, [.ref k12, .ref h3, .int i8])), (h3, aI cI 181 f9)] := hD.sub [0, 1, 2, 3] (by decide) rfl
    rw [← hQQ]
    exact W.iret (v := (-4)) hx hb hr (fun t ht hW => ⟨⟨_, (i0, i2, i3, i4, i5, i8, f9), rfl, hwp, by rw [ht]; exact hP9, hD9⟩, hS.F ht⟩) hS.2.2 dX8_node_14
def wX8_arc (i0 : Int32) (i1 : Int32) (i2 : Int32) (i3 : Int32) (i4 : Int32) (i5 : Int32) (i6 : Int32) (i7 : Int32) (f8 : Nat → Int32) (f9 : Nat → Int32) (f10 : Nat → Int32) (i11 : Int32) (f12 : Nat → Int32) (f13 : Nat → Int32) (p0 : Int32) (p1 : Int32) (K : Int32 → (Int32 × Int32 × Int32 × Int32 × Int32 × Int32 × (Nat → Int32) × (Nat → Int32) × (Nat → Int32) × (Nat → Int32) × (Nat → Int32)) → Prop) : Prop := (wX3_hasNode i5 i6 i7 p0 (fun r5 _ => ((r5 = 0 → K ((-1) : Int32) (i0, i2, i3, i4, i6, i7, f8, f9, f10, f12, f13)) ∧ (¬ r5 = 0 → (wX3_hasNode i5 i6 i7 p1 (fun r16 _ => ((¬ r16 = 0 → ((i6 < 80 → (wX8_forget i0 i1 i2 i3 i4 (fun u40 => (wX3_addArc i5 i6 i7 f8 f9 f10 p0 p1 (fun r49 u49 => (wX7_append i11 f12 f13 p0 ((2 : Int32) * r49) (fun u61 => (wX7_append i11 (u61.1) (u61.2) p1 (((2 : Int32) * r49) + 1) (fun u74 => K r49 (u40.1, u40.2.1, u40.2.2.1, u40.2.2.2, u49.1, u49.2.1, u49.2.2.1, u49.2.2.2.1, u49.2.2.2.2, u74.1, u74.2)))))))))) ∧ (¬ i6 < 80 → K ((-4) : Int32) (i0, i2, i3, i4, i6, i7, f8, f9, f10, f12, f13)))) ∧ (r16 = 0 → K ((-1) : Int32) (i0, i2, i3, i4, i6, i7, f8, f9, f10, f12, f13)))))))))
set_option maxHeartbeats 4000000 in
set_option maxRecDepth 100000 in
theorem zX8_arc (l : Launch) (G : va_G) (cI cJ cZ : ClassId) (h0 h1 h2 h3 h4 h5 h6 h7 k0 k1 k2 k3 k4 k5 k6 k7 k8 sz : Nat) (i0 : Int32) (i1 : Int32) (i2 : Int32) (i3 : Int32) (i4 : Int32) (i5 : Int32) (i6 : Int32) (i7 : Int32) (f8 : Nat → Int32) (f9 : Nat → Int32) (f10 : Nat → Int32) (i11 : Int32) (f12 : Nat → Int32) (f13 : Nat → Int32) (p0 : Int32) (p1 : Int32) (K : Int32 → (Int32 × Int32 × Int32 × Int32 × Int32 × Int32 × (Nat → Int32) × (Nat → Int32) × (Nat → Int32) × (Nat → Int32) × (Nat → Int32)) → Prop) (hwp : wX8_arc i0 i1 i2 i3 i4 i5 i6 i7 f8 f9 f10 i11 f12 f13 p0 p1 K) : Met l yX8_arc (xw yX8_arc cX8_arc 4 (some .int)) ({ frames := 3, cells := 0, slots := 0, locals := 68 }) (xPc G cI cJ cZ [.ref h0, .int p0, .int p1] [(h0, .inr (8, [.ref h1, .ref h5, .ref k0, .ref k1, .ref k2, .ref k3, .ref k4, .ref k5, .ref k6, .ref k7, .ref k8, .int i0, .int i1, .int i2, .int i3, .int i4])), (h1, .inr (3, [.ref h2, .ref h3, .ref h4, .int i5, .int i6, .int i7])), (h2, aI cI 160 f8), (h3, aI cZ 80 f9), (h4, aI cI 20 f10), (h5, .inr (7, [.ref h7, .ref h6, .int i11])), (h6, aI cI 181 f12), (h7, aI cI 160 f13)] sz) (va_Qi (fun (r : Int32) (u : Int32 × Int32 × Int32 × Int32 × Int32 × Int32 × (Nat → Int32) × (Nat → Int32) × (Nat → Int32) × (Nat → Int32) × (Nat → Int32)) => K r u) (fun (u : Int32 × Int32 × Int32 × Int32 × Int32 × Int32 × (Nat → Int32) × (Nat → Int32) × (Nat → Int32) × (Nat → Int32) × (Nat → Int32)) t => xB G (va_A [(h0, .inr (8, [.ref h1, .ref h5, .ref k0, .ref k1, .ref k2, .ref k3, .ref k4, .ref k5, .ref k6, .ref k7, .ref k8, .int i0, .int i1, .int i2, .int i3, .int i4])), (h1, .inr (3, [.ref h2, .ref h3, .ref h4, .int i5, .int i6, .int i7])), (h2, aI cI 160 f8), (h3, aI cZ 80 f9), (h4, aI cI 20 f10), (h5, .inr (7, [.ref h7, .ref h6, .int i11])), (h6, aI cI 181 f12), (h7, aI cI 160 f13)] sz) [(h0, .inr (8, [.ref h1, .ref h5, .ref k0, .ref k1, .ref k2, .ref k3, .ref k4, .ref k5, .ref k6, .ref k7, .ref k8, .int u.1, .int i1, .int u.2.1, .int u.2.2.1, .int u.2.2.2.1])), (h1, .inr (3, [.ref h2, .ref h3, .ref h4, .int i5, .int u.2.2.2.2.1, .int u.2.2.2.2.2.1])), (h2, aI cI 160 u.2.2.2.2.2.2.1), (h3, aI cZ 80 u.2.2.2.2.2.2.2.1), (h4, aI cI 20 u.2.2.2.2.2.2.2.2.1), (h5, .inr (7, [.ref h7, .ref h6, .int i11])), (h6, aI cI 181 u.2.2.2.2.2.2.2.2.2.1), (h7, aI cI 160 u.2.2.2.2.2.2.2.2.2.2)] t) (va_A [(h0, .inr (8, [.ref h1, .ref h5, .ref k0, .ref k1, .ref k2, .ref k3, .ref k4, .ref k5, .ref k6, .ref k7, .ref k8, .int i0, .int i1, .int i2, .int i3, .int i4])), (h1, .inr (3, [.ref h2, .ref h3, .ref h4, .int i5, .int i6, .int i7])), (h2, aI cI 160 f8), (h3, aI cZ 80 f9), (h4, aI cI 20 f10), (h5, .inr (7, [.ref h7, .ref h6, .int i11])), (h6, aI cI 181 f12), (h7, aI cI 160 f13)] sz)) 0 0 (va_A [(h0, .inr (8, [.ref h1, .ref h5, .ref k0, .ref k1, .ref k2, .ref k3, .ref k4, .ref k5, .ref k6, .ref k7, .ref k8, .int i0, .int i1, .int i2, .int i3, .int i4])), (h1, .inr (3, [.ref h2, .ref h3, .ref h4, .int i5, .int i6, .int i7])), (h2, aI cI 160 f8), (h3, aI cZ 80 f9), (h4, aI cI 20 f10), (h5, .inr (7, [.ref h7, .ref h6, .int i11])), (h6, aI cI 181 f12), (h7, aI cI 160 f13)] sz) := by
  refine Met.ofW (cc := cX8_arc) (maxL := 4) (ret := (some .int)) (by decide) rfl ?_
  intro p e s m args below meth c s₁ B hml hv
  obtain ⟨rfl, hsz, hP, hK, hD0, hN⟩ := hv
  have hx := B.exec
  have hb := B.bytes
  have hr := B.returns
  have hts : ∀ w ∈ xW, w.before _ s = true := fun w h => atoms_spec (ws := xw yX8_arc cX8_arc 4 (some .int)) B.pre w (List.mem_cons_of_mem _ h)
  have hown : s.vm.findClass RX8 = some m.cls := findClass_of_methodNamed B.named
  have hlocks := B.notSynchronized
  subst hsz
  have hD := hD0.self (sz := s.heap.size)
  clear hD0
  generalize hAe : va_A [(h0, .inr (8, [.ref h1, .ref h5, .ref k0, .ref k1, .ref k2, .ref k3, .ref k4, .ref k5, .ref k6, .ref k7, .ref k8, .int i0, .int i1, .int i2, .int i3, .int i4])), (h1, .inr (3, [.ref h2, .ref h3, .ref h4, .int i5, .int i6, .int i7])), (h2, aI cI 160 f8), (h3, aI cZ 80 f9), (h4, aI cI 20 f10), (h5, .inr (7, [.ref h7, .ref h6, .int i11])), (h6, aI cI 181 f12), (h7, aI cI 160 f13)] s.heap.size = A at hD ⊢
  have hA : ∀ q : Nat, s.heap.size ≤ q → A q := fun q h => by rw [← hAe]; exact Or.inr h
  clear hAe
  have hS : va_S A s.heap s.heap [] := va_S.rf
  replace hP : va_P G vwCl [(h0, .inr (8, [.ref h1, .ref h5, .ref k0, .ref k1, .ref k2, .ref k3, .ref k4, .ref k5, .ref k6, .ref k7, .ref k8, .int i0, .int i1, .int i2, .int i3, .int i4])), (h1, .inr (3, [.ref h2, .ref h3, .ref h4, .int i5, .int i6, .int i7])), (h2, aI cI 160 f8), (h3, aI cZ 80 f9), (h4, aI cI 20 f10), (h5, .inr (7, [.ref h7, .ref h6, .int i11])), (h6, aI cI 181 f12), (h7, aI cI 160 f13)] s.heap := hP
  have hl := lv_entry ([.ref h0, .int p0, .int p1]) (n := 4) (Nat.le_of_ble_eq_true rfl)
  rw [lg_entry_eq]
  generalize (lg_sl ([.ref h0, .int p0, .int p1]) ++ List.replicate (4 - (lg_sl ([.ref h0, .int p0, .int p1])).length) Slot.unset).toArray = ls at hl ⊢
  replace hl : lv_has ls 4 [(0, .ref h0), (1, .int p0), (2, .int p1)] := hl
  generalize hQQ : MQ below _ _ s 0 0 _ = QQ
  skip
  unfold wX8_arc at hwp
  refine lv_aload_n hx hb dX8_arc_0 rfl (lv_at hl 0 rfl) ?_
  refine va_get (D := G) (ci := 8) (v := .ref h1) (C := RX8) (T := TX8) (N := 16) hx hb hts xinX8 hown hK hP 0 rfl rfl 0 (by decide) (hts _ wo_204) (fun _ h9 => h9) rfl dX8_arc_1 ?_
  refine lv_iload_n hx hb dX8_arc_4 rfl (lv_at hl 1 rfl) ?_
  refine xci (wr := [(h0, .inr (8, [.ref h1, .ref h5, .ref k0, .ref k1, .ref k2, .ref k3, .ref k4, .ref k5, .ref k6, .ref k7, .ref k8, .int i0, .int i1, .int i2, .int i3, .int i4])), (h2, aI cI 160 f8), (h3, aI cZ 80 f9), (h4, aI cI 20 f10), (h5, .inr (7, [.ref h7, .ref h6, .int i11])), (h6, aI cI 181 f12), (h7, aI cI 160 f13)]) (va_runV (As := [.int p0]) (rest := []) ⟨hx, hb, hml, hown, hts⟩ (zX3_hasNode l G cI cJ cZ h1 h2 h3 h4 s.heap.size i5 i6 i7 p0 _ hwp) (cwV 1 hts (xgoodV wo_215 wo_216 wo_217 wo_218 wo_13) rfl rfl rfl (by decide +kernel) ⟨Nat.le_of_ble_eq_true rfl, Nat.le_of_ble_eq_true rfl⟩) (xPreV (q := (RX3, TX3, 6)) (q0 := 1) hK hN hP hD [1] (by decide) rfl rfl rfl) rfl rfl hl.1 rfl (lv_room (Nat.le_of_ble_eq_true rfl)) dX8_arc_5 ⟨Nat.le_of_ble_eq_true rfl, Nat.le_of_ble_eq_true rfl⟩) hP hD hS hA [1] [0, 2, 3, 4, 5, 6, 7] rfl rfl (by decide) (by decide) (fun r5 u5 H locs hwp hP hD hS => ?_)
  replace hP : va_P G vwCl [(h0, .inr (8, [.ref h1, .ref h5, .ref k0, .ref k1, .ref k2, .ref k3, .ref k4, .ref k5, .ref k6, .ref k7, .ref k8, .int i0, .int i1, .int i2, .int i3, .int i4])), (h2, aI cI 160 f8), (h3, aI cZ 80 f9), (h4, aI cI 20 f10), (h5, .inr (7, [.ref h7, .ref h6, .int i11])), (h6, aI cI 181 f12), (h7, aI cI 160 f13), (h1, .inr (3, [.ref h2, .ref h3, .ref h4, .int i5, .int i6, .int i7]))] H := hP
  replace hD : va_D A [(h0, .inr (8, [.ref h1, .ref h5, .ref k0, .ref k1, .ref k2, .ref k3, .ref k4, .ref k5, .ref k6, .ref k7, .ref k8, .int i0, .int i1, .int i2, .int i3, .int i4])), (h2, aI cI 160 f8), (h3, aI cZ 80 f9), (h4, aI cI 20 f10), (h5, .inr (7, [.ref h7, .ref h6, .int i11])), (h6, aI cI 181 f12), (h7, aI cI 160 f13), (h1, .inr (3, [.ref h2, .ref h3, .ref h4, .int i5, .int i6, .int i7]))] := hD
  refine lv_if_eq (tgt := 22) hx hb dX8_arc_8 (by decide) (fun c8 => ?_) (fun c8 => ?_)
  · replace hwp := hwp.1 c8
    refine lv_iconst (v := (-1)) hx hb dX8_arc_22 (by decide) ?_
    have hP9 : va_P G vwCl [(h0, .inr (8, [.ref h1, .ref h5, .ref k0, .ref k1, .ref k2, .ref k3, .ref k4, .ref k5, .ref k6, .ref k7, .ref k8, .int i0, .int i1, .int i2, .int i3, .int i4])), (h1, .inr (3, [.ref h2, .ref h3, .ref h4, .int i5, .int i6, .int i7])), (h2, aI cI 160 f8), (h3, aI cZ 80 f9), (h4, aI cI 20 f10), (h5, .inr (7, [.ref h7, .ref h6, .int i11])), (h6, aI cI 181 f12), (h7, aI cI 160 f13)] H := hP.sub [0, 7, 1, 2, 3, 4, 5, 6] rfl
    have hD9 : va_D A [(h0, .inr (8, [.ref h1, .ref h5, .ref k0, .ref k1, .ref k2, .ref k3, .ref k4, .ref k5, .ref k6, .ref k7, .ref k8, .int i0, .int i1, .int i2, .int i3, .int i4])), (h1, .inr (3, [.ref h2, .ref h3, .ref h4, .int i5, .int i6, .int i7])), (h2, aI cI 160 f8), (h3, aI cZ 80 f9), (h4, aI cI 20 f10), (h5, .inr (7, [.ref h7, .ref h6, .int i11])), (h6, aI cI 181 f12), (h7, aI cI 160 f13)] := hD.sub [0, 7, 1, 2, 3, 4, 5, 6] (by decide) rfl
    rw [← hQQ]
    exact W.iret (v := (-1)) hx hb hr (fun t ht hW => ⟨⟨_, (i0, i2, i3, i4, i6, i7, f8, f9, f10, f12, f13), rfl, hwp, by rw [ht]; exact hP9, hD9⟩, hS.F ht⟩) hS.2.2 dX8_arc_23
  · replace hwp := hwp.2 c8
    refine lv_aload_n hx hb dX8_arc_11 rfl (lv_at hl 0 rfl) ?_
    refine va_get (D := G) (ci := 8) (v := .ref h1) (C := RX8) (T := TX8) (N := 16) hx hb hts xinX8 hown hK hP 0 rfl rfl 0 (by decide) (hts _ wo_204) (fun _ h9 => h9) rfl dX8_arc_12 ?_
    refine lv_iload_n hx hb dX8_arc_15 rfl (lv_at hl 2 rfl) ?_
    refine xci (wr := [(h0, .inr (8, [.ref h1, .ref h5, .ref k0, .ref k1, .ref k2, .ref k3, .ref k4, .ref k5, .ref k6, .ref k7, .ref k8, .int i0, .int i1, .int i2, .int i3, .int i4])), (h2, aI cI 160 f8), (h3, aI cZ 80 f9), (h4, aI cI 20 f10), (h5, .inr (7, [.ref h7, .ref h6, .int i11])), (h6, aI cI 181 f12), (h7, aI cI 160 f13)]) (va_runV (As := [.int p1]) (rest := []) ⟨hx, hb, hml, hown, hts⟩ (zX3_hasNode l G cI cJ cZ h1 h2 h3 h4 H.size i5 i6 i7 p1 _ hwp) (cwV 1 hts (xgoodV wo_215 wo_216 wo_217 wo_218 wo_13) rfl rfl rfl (by decide +kernel) ⟨Nat.le_of_ble_eq_true rfl, Nat.le_of_ble_eq_true rfl⟩) (xPreV (q := (RX3, TX3, 6)) (q0 := 7) hK hN hP hD [7] (by decide) rfl rfl rfl) rfl rfl hl.1 rfl (lv_room (Nat.le_of_ble_eq_true rfl)) dX8_arc_16 ⟨Nat.le_of_ble_eq_true rfl, Nat.le_of_ble_eq_true rfl⟩) hP hD hS hA [7] [0, 1, 2, 3, 4, 5, 6] rfl rfl (by decide) (by decide) (fun r16 u16 H locs hwp hP hD hS => ?_)
    replace hP : va_P G vwCl [(h0, .inr (8, [.ref h1, .ref h5, .ref k0, .ref k1, .ref k2, .ref k3, .ref k4, .ref k5, .ref k6, .ref k7, .ref k8, .int i0, .int i1, .int i2, .int i3, .int i4])), (h2, aI cI 160 f8), (h3, aI cZ 80 f9), (h4, aI cI 20 f10), (h5, .inr (7, [.ref h7, .ref h6, .int i11])), (h6, aI cI 181 f12), (h7, aI cI 160 f13), (h1, .inr (3, [.ref h2, .ref h3, .ref h4, .int i5, .int i6, .int i7]))] H := hP
    replace hD : va_D A [(h0, .inr (8, [.ref h1, .ref h5, .ref k0, .ref k1, .ref k2, .ref k3, .ref k4, .ref k5, .ref k6, .ref k7, .ref k8, .int i0, .int i1, .int i2, .int i3, .int i4])), (h2, aI cI 160 f8), (h3, aI cZ 80 f9), (h4, aI cI 20 f10), (h5, .inr (7, [.ref h7, .ref h6, .int i11])), (h6, aI cI 181 f12), (h7, aI cI 160 f13), (h1, .inr (3, [.ref h2, .ref h3, .ref h4, .int i5, .int i6, .int i7]))] := hD
    refine lv_if_ne (tgt := 24) hx hb dX8_arc_19 (by decide) (fun c19 => ?_) (fun c19 => ?_)
    · replace hwp := hwp.1 c19
      refine lv_aload_n hx hb dX8_arc_24 rfl (lv_at hl 0 rfl) ?_
      refine va_get (D := G) (ci := 8) (v := .ref h1) (C := RX8) (T := TX8) (N := 16) hx hb hts xinX8 hown hK hP 0 rfl rfl 0 (by decide) (hts _ wo_204) (fun _ h9 => h9) rfl dX8_arc_25 ?_
      refine va_getN (D := G) (ci := 3) (v := .int i6) (C := RX3) (T := TX3) (N := 6) hx hb hts xinX3 hown hK hP 7 rfl rfl 4 (by decide) (va_Nw.use rfl (hN.1 ("PlaneTests", 99, "PlaneTests$Graph", "made", "I", "PlaneTests") (by decide +kernel))) (fun _ h9 => h9) rfl dX8_arc_28 ?_
      refine lv_bipush (v := 80) hx hb dX8_arc_31 (by decide) ?_
      refine lv_icmp_lt (tgt := 39) hx hb dX8_arc_33 (by decide) (fun c33 => ?_) (fun c33 => ?_)
      · replace hwp := hwp.1 c33
        refine lv_aload_n hx hb dX8_arc_39 rfl (lv_at hl 0 rfl) ?_
        refine xcv (wr := [(h2, aI cI 160 f8), (h3, aI cZ 80 f9), (h4, aI cI 20 f10), (h5, .inr (7, [.ref h7, .ref h6, .int i11])), (h6, aI cI 181 f12), (h7, aI cI 160 f13), (h1, .inr (3, [.ref h2, .ref h3, .ref h4, .int i5, .int i6, .int i7]))]) (va_runV (As := []) (rest := []) ⟨hx, hb, hml, hown, hts⟩ (zX8_forget l G cI cJ cZ h0 h1 h5 k0 k1 k2 k3 k4 k5 k6 k7 k8 H.size i0 i1 i2 i3 i4 _ hwp) (cwV 0 hts (xgoodV wo_205 wo_206 wo_207 wo_208 wo_49) rfl rfl rfl (by decide +kernel) ⟨Nat.le_of_ble_eq_true rfl, Nat.le_of_ble_eq_true rfl⟩) (xPreV (q := (RX8, TX8, 16)) (q0 := 0) hK hN hP hD [0] (by decide) rfl rfl rfl) rfl rfl hl.1 rfl (lv_room (Nat.le_of_ble_eq_true rfl)) dX8_arc_40 ⟨Nat.le_of_ble_eq_true rfl, Nat.le_of_ble_eq_true rfl⟩) hP hD hS hA [0] [1, 2, 3, 4, 5, 6, 7] rfl rfl (by decide) (by decide) (fun u40 H locs hwp hP hD hS => ?_)
        replace hP : va_P G vwCl [(h2, aI cI 160 f8), (h3, aI cZ 80 f9), (h4, aI cI 20 f10), (h5, .inr (7, [.ref h7, .ref h6, .int i11])), (h6, aI cI 181 f12), (h7, aI cI 160 f13), (h1, .inr (3, [.ref h2, .ref h3, .ref h4, .int i5, .int i6, .int i7])), (h0, .inr (8, [.ref h1, .ref h5, .ref k0, .ref k1, .ref k2, .ref k3, .ref k4, .ref k5, .ref k6, .ref k7, .ref k8, .int u40.1, .int i1, .int u40.2.1, .int u40.2.2.1, .int u40.2.2.2]))] H := hP
        replace hD : va_D A [(h2, aI cI 160 f8), (h3, aI cZ 80 f9), (h4, aI cI 20 f10), (h5, .inr (7, [.ref h7, .ref h6, .int i11])), (h6, aI cI 181 f12), (h7, aI cI 160 f13), (h1, .inr (3, [.ref h2, .ref h3, .ref h4, .int i5, .int i6, .int i7])), (h0, .inr (8, [.ref h1, .ref h5, .ref k0, .ref k1, .ref k2, .ref k3, .ref k4, .ref k5, .ref k6, .ref k7, .ref k8, .int u40.1, .int i1, .int u40.2.1, .int u40.2.2.1, .int u40.2.2.2]))] := hD
        refine lv_aload_n hx hb dX8_arc_43 rfl (lv_at hl 0 rfl) ?_
        refine va_get (D := G) (ci := 8) (v := .ref h1) (C := RX8) (T := TX8) (N := 16) hx hb hts xinX8 hown hK hP 7 rfl rfl 0 (by decide) (hts _ wo_204) (fun _ h9 => h9) rfl dX8_arc_44 ?_
        refine lv_iload_n hx hb dX8_arc_47 rfl (lv_at hl 1 rfl) ?_
        refine lv_iload_n hx hb dX8_arc_48 rfl (lv_at hl 2 rfl) ?_
        refine xci (wr := [(h5, .inr (7, [.ref h7, .ref h6, .int i11])), (h6, aI cI 181 f12), (h7, aI cI 160 f13), (h0, .inr (8, [.ref h1, .ref h5, .ref k0, .ref k1, .ref k2, .ref k3, .ref k4, .ref k5, .ref k6, .ref k7, .ref k8, .int u40.1, .int i1, .int u40.2.1, .int u40.2.2.1, .int u40.2.2.2]))]) (va_runV (As := [.int p0, .int p1]) (rest := []) ⟨hx, hb, hml, hown, hts⟩ (zX3_addArc l G cI cJ cZ h1 h2 h3 h4 H.size i5 i6 i7 f8 f9 f10 p0 p1 _ hwp) (cwV 2 hts (xgoodV wo_219 wo_220 wo_221 wo_222 wo_13) rfl rfl rfl (by decide +kernel) ⟨Nat.le_of_ble_eq_true rfl, Nat.le_of_ble_eq_true rfl⟩) (xPreV (q := (RX3, TX3, 6)) (q0 := 6) hK hN hP hD [6, 0, 1, 2] (by decide) rfl rfl rfl) rfl rfl hl.1 rfl (lv_room (Nat.le_of_ble_eq_true rfl)) dX8_arc_49 ⟨Nat.le_of_ble_eq_true rfl, Nat.le_of_ble_eq_true rfl⟩) hP hD hS hA [6, 0, 1, 2] [3, 4, 5, 7] rfl rfl (by decide) (by decide) (fun r49 u49 H locs hwp hP hD hS => ?_)
        replace hP : va_P G vwCl [(h5, .inr (7, [.ref h7, .ref h6, .int i11])), (h6, aI cI 181 f12), (h7, aI cI 160 f13), (h0, .inr (8, [.ref h1, .ref h5, .ref k0, .ref k1, .ref k2, .ref k3, .ref k4, .ref k5, .ref k6, .ref k7, .ref k8, .int u40.1, .int i1, .int u40.2.1, .int u40.2.2.1, .int u40.2.2.2])), (h1, .inr (3, [.ref h2, .ref h3, .ref h4, .int i5, .int u49.1, .int u49.2.1])), (h2, aI cI 160 u49.2.2.1), (h3, aI cZ 80 u49.2.2.2.1), (h4, aI cI 20 u49.2.2.2.2)] H := hP
        replace hD : va_D A [(h5, .inr (7, [.ref h7, .ref h6, .int i11])), (h6, aI cI 181 f12), (h7, aI cI 160 f13), (h0, .inr (8, [.ref h1, .ref h5, .ref k0, .ref k1, .ref k2, .ref k3, .ref k4, .ref k5, .ref k6, .ref k7, .ref k8, .int u40.1, .int i1, .int u40.2.1, .int u40.2.2.1, .int u40.2.2.2])), (h1, .inr (3, [.ref h2, .ref h3, .ref h4, .int i5, .int u49.1, .int u49.2.1])), (h2, aI cI 160 u49.2.2.1), (h3, aI cZ 80 u49.2.2.2.1), (h4, aI cI 20 u49.2.2.2.2)] := hD
        refine lv_istore_n (lv' := [(3, .int r49), (0, .ref h0), (1, .int p0), (2, .int p1)]) hx hb dX8_arc_52 rfl hl (by decide) rfl (fun ls hl => ?_)
        refine lv_aload_n hx hb dX8_arc_53 rfl (lv_at hl 1 rfl) ?_
        refine va_get (D := G) (ci := 8) (v := .ref h5) (C := RX8) (T := TX8) (N := 16) hx hb hts xinX8 hown hK hP 3 rfl rfl 1 (by decide) (hts _ wo_209) (fun _ h9 => h9) rfl dX8_arc_54 ?_
        refine lv_iload_n hx hb dX8_arc_57 rfl (lv_at hl 2 rfl) ?_
        refine lv_iconst (v := 2) hx hb dX8_arc_58 (by decide) ?_
        refine lv_iload_n hx hb dX8_arc_59 rfl (lv_at hl 0 rfl) ?_
        refine lv_imul hx hb dX8_arc_60 ?_
        refine xcv (wr := [(h0, .inr (8, [.ref h1, .ref h5, .ref k0, .ref k1, .ref k2, .ref k3, .ref k4, .ref k5, .ref k6, .ref k7, .ref k8, .int u40.1, .int i1, .int u40.2.1, .int u40.2.2.1, .int u40.2.2.2])), (h1, .inr (3, [.ref h2, .ref h3, .ref h4, .int i5, .int u49.1, .int u49.2.1])), (h2, aI cI 160 u49.2.2.1), (h3, aI cZ 80 u49.2.2.2.1), (h4, aI cI 20 u49.2.2.2.2)]) (va_runV (As := [.int p0, .int ((2 : Int32) * r49)]) (rest := []) ⟨hx, hb, hml, hown, hts⟩ (zX7_append l G cI cJ cZ h5 h6 h7 H.size i11 f12 f13 p0 ((2 : Int32) * r49) _ hwp) (cwV 2 hts (xgoodV wo_36 wo_223 wo_38 wo_39 wo_28) rfl rfl rfl (by decide +kernel) ⟨Nat.le_of_ble_eq_true rfl, Nat.le_of_ble_eq_true rfl⟩) (xPreV (q := (RX7, TX7, 3)) (q0 := 0) hK hN hP hD [0, 1, 2] (by decide) rfl rfl rfl) rfl rfl hl.1 rfl (lv_room (Nat.le_of_ble_eq_true rfl)) dX8_arc_61 ⟨Nat.le_of_ble_eq_true rfl, Nat.le_of_ble_eq_true rfl⟩) hP hD hS hA [0, 1, 2] [3, 4, 5, 6, 7] rfl rfl (by decide) (by decide) (fun u61 H locs hwp hP hD hS => ?_)
        replace hP : va_P G vwCl [(h0, .inr (8, [.ref h1, .ref h5, .ref k0, .ref k1, .ref k2, .ref k3, .ref k4, .ref k5, .ref k6, .ref k7, .ref k8, .int u40.1, .int i1, .int u40.2.1, .int u40.2.2.1, .int u40.2.2.2])), (h1, .inr (3, [.ref h2, .ref h3, .ref h4, .int i5, .int u49.1, .int u49.2.1])), (h2, aI cI 160 u49.2.2.1), (h3, aI cZ 80 u49.2.2.2.1), (h4, aI cI 20 u49.2.2.2.2), (h5, .inr (7, [.ref h7, .ref h6, .int i11])), (h6, aI cI 181 u61.1), (h7, aI cI 160 u61.2)] H := hP
        replace hD : va_D A [(h0, .inr (8, [.ref h1, .ref h5, .ref k0, .ref k1, .ref k2, .ref k3, .ref k4, .ref k5, .ref k6, .ref k7, .ref k8, .int u40.1, .int i1, .int u40.2.1, .int u40.2.2.1, .int u40.2.2.2])), (h1, .inr (3, [.ref h2, .ref h3, .ref h4, .int i5, .int u49.1, .int u49.2.1])), (h2, aI cI 160 u49.2.2.1), (h3, aI cZ 80 u49.2.2.2.1), (h4, aI cI 20 u49.2.2.2.2), (h5, .inr (7, [.ref h7, .ref h6, .int i11])), (h6, aI cI 181 u61.1), (h7, aI cI 160 u61.2)] := hD
        refine lv_aload_n hx hb dX8_arc_64 rfl (lv_at hl 1 rfl) ?_
        refine va_get (D := G) (ci := 8) (v := .ref h5) (C := RX8) (T := TX8) (N := 16) hx hb hts xinX8 hown hK hP 0 rfl rfl 1 (by decide) (hts _ wo_209) (fun _ h9 => h9) rfl dX8_arc_65 ?_
        refine lv_iload_n hx hb dX8_arc_68 rfl (lv_at hl 3 rfl) ?_
        refine lv_iconst (v := 2) hx hb dX8_arc_69 (by decide) ?_
        refine lv_iload_n hx hb dX8_arc_70 rfl (lv_at hl 0 rfl) ?_
        refine lv_imul hx hb dX8_arc_71 ?_
        refine lv_iconst (v := 1) hx hb dX8_arc_72 (by decide) ?_
        refine lv_iadd hx hb dX8_arc_73 ?_
        refine xcv (wr := [(h0, .inr (8, [.ref h1, .ref h5, .ref k0, .ref k1, .ref k2, .ref k3, .ref k4, .ref k5, .ref k6, .ref k7, .ref k8, .int u40.1, .int i1, .int u40.2.1, .int u40.2.2.1, .int u40.2.2.2])), (h1, .inr (3, [.ref h2, .ref h3, .ref h4, .int i5, .int u49.1, .int u49.2.1])), (h2, aI cI 160 u49.2.2.1), (h3, aI cZ 80 u49.2.2.2.1), (h4, aI cI 20 u49.2.2.2.2)]) (va_runV (As := [.int p1, .int (((2 : Int32) * r49) + 1)]) (rest := []) ⟨hx, hb, hml, hown, hts⟩ (zX7_append l G cI cJ cZ h5 h6 h7 H.size i11 (u61.1) (u61.2) p1 (((2 : Int32) * r49) + 1) _ hwp) (cwV 2 hts (xgoodV wo_36 wo_223 wo_38 wo_39 wo_28) rfl rfl rfl (by decide +kernel) ⟨Nat.le_of_ble_eq_true rfl, Nat.le_of_ble_eq_true rfl⟩) (xPreV (q := (RX7, TX7, 3)) (q0 := 5) hK hN hP hD [5, 6, 7] (by decide) rfl rfl rfl) rfl rfl hl.1 rfl (lv_room (Nat.le_of_ble_eq_true rfl)) dX8_arc_74 ⟨Nat.le_of_ble_eq_true rfl, Nat.le_of_ble_eq_true rfl⟩) hP hD hS hA [5, 6, 7] [0, 1, 2, 3, 4] rfl rfl (by decide) (by decide) (fun u74 H locs hwp hP hD hS => ?_)
        replace hP : va_P G vwCl [(h0, .inr (8, [.ref h1, .ref h5, .ref k0, .ref k1, .ref k2, .ref k3, .ref k4, .ref k5, .ref k6, .ref k7, .ref k8, .int u40.1, .int i1, .int u40.2.1, .int u40.2.2.1, .int u40.2.2.2])), (h1, .inr (3, [.ref h2, .ref h3, .ref h4, .int i5, .int u49.1, .int u49.2.1])), (h2, aI cI 160 u49.2.2.1), (h3, aI cZ 80 u49.2.2.2.1), (h4, aI cI 20 u49.2.2.2.2), (h5, .inr (7, [.ref h7, .ref h6, .int i11])), (h6, aI cI 181 u74.1), (h7, aI cI 160 u74.2)] H := hP
        replace hD : va_D A [(h0, .inr (8, [.ref h1, .ref h5, .ref k0, .ref k1, .ref k2, .ref k3, .ref k4, .ref k5, .ref k6, .ref k7, .ref k8, .int u40.1, .int i1, .int u40.2.1, .int u40.2.2.1, .int u40.2.2.2])), (h1, .inr (3, [.ref h2, .ref h3, .ref h4, .int i5, .int u49.1, .int u49.2.1])), (h2, aI cI 160 u49.2.2.1), (h3, aI cZ 80 u49.2.2.2.1), (h4, aI cI 20 u49.2.2.2.2), (h5, .inr (7, [.ref h7, .ref h6, .int i11])), (h6, aI cI 181 u74.1), (h7, aI cI 160 u74.2)] := hD
        refine lv_iload_n hx hb dX8_arc_77 rfl (lv_at hl 0 rfl) ?_
        have hP9 : va_P G vwCl [(h0, .inr (8, [.ref h1, .ref h5, .ref k0, .ref k1, .ref k2, .ref k3, .ref k4, .ref k5, .ref k6, .ref k7, .ref k8, .int u40.1, .int i1, .int u40.2.1, .int u40.2.2.1, .int u40.2.2.2])), (h1, .inr (3, [.ref h2, .ref h3, .ref h4, .int i5, .int u49.1, .int u49.2.1])), (h2, aI cI 160 u49.2.2.1), (h3, aI cZ 80 u49.2.2.2.1), (h4, aI cI 20 u49.2.2.2.2), (h5, .inr (7, [.ref h7, .ref h6, .int i11])), (h6, aI cI 181 u74.1), (h7, aI cI 160 u74.2)] H := hP.sub [0, 1, 2, 3, 4, 5, 6, 7] rfl
        have hD9 : va_D A [(h0, .inr (8, [.ref h1, .ref h5, .ref k0, .ref k1, .ref k2, .ref k3, .ref k4, .ref k5, .ref k6, .ref k7, .ref k8, .int u40.1, .int i1, .int u40.2.1, .int u40.2.2.1, .int u40.2.2.2])), (h1, .inr (3, [.ref h2, .ref h3, .ref h4, .int i5, .int u49.1, .int u49.2.1])), (h2, aI cI 160 u49.2.2.1), (h3, aI cZ 80 u49.2.2.2.1), (h4, aI cI 20 u49.2.2.2.2), (h5, .inr (7, [.ref h7, .ref h6, .int i11])), (h6, aI cI 181 u74.1), (h7, aI cI 160 u74.2)] := hD.sub [0, 1, 2, 3, 4, 5, 6, 7] (by decide) rfl
        rw [← hQQ]
        exact W.iret (v := r49) hx hb hr (fun t ht hW => ⟨⟨_, (u40.1, u40.2.1, u40.2.2.1, u40.2.2.2, u49.1, u49.2.1, u49.2.2.1, u49.2.2.2.1, u49.2.2.2.2, u74.1, u74.2), rfl, hwp, by rw [ht]; exact hP9, hD9⟩, hS.F ht⟩) hS.2.2 dX8_arc_78
      · replace hwp := hwp.2 c33
        refine lv_bipush (v := (-4)) hx hb dX8_arc_36 (by decide) ?_
        have hP9 : va_P G vwCl [(h0, .inr (8, [.ref h1, .ref h5, .ref k0, .ref k1, .ref k2, .ref k3, .ref k4, .ref k5, .ref k6, .ref k7, .ref k8, .int i0, .int i1, .int i2, .int i3, .int i4])), (h1, .inr (3, [.ref h2, .ref h3, .ref h4, .int i5, .int i6, .int i7])), (h2, aI cI 160 f8), (h3, aI cZ 80 f9), (h4, aI cI 20 f10), (h5, .inr (7, [.ref h7, .ref h6, .int i11])), (h6, aI cI 181 f12), (h7, aI cI 160 f13)] H := hP.sub [0, 7, 1, 2, 3, 4, 5, 6] rfl
        have hD9 : va_D A [(h0, .inr (8, [.ref h1, .ref h5, .ref k0, .ref k1, .ref k2, .ref k3, .ref k4, .ref k5, .ref k6, .ref k7, .ref k8, .int i0, .int i1, .int i2, .int i3, .int i4])), (h1, .inr (3, [.ref h2, .ref h3, .ref h4, .int i5, .int i6, .int i7])), (h2, aI cI 160 f8), (h3, aI cZ 80 f9), (h4, aI cI 20 f10), (h5, .inr (7, [.ref h7, .ref h6, .int i11])), (h6, aI cI 181 f12), (h7, aI cI 160 f13)] := hD.sub [0, 7, 1, 2, 3, 4, 5, 6] (by decide) rfl
        rw [← hQQ]
        exact W.iret (v := (-4)) hx hb hr (fun t ht hW => ⟨⟨_, (i0, i2, i3, i4, i6, i7, f8, f9, f10, f12, f13), rfl, hwp, by rw [ht]; exact hP9, hD9⟩, hS.F ht⟩) hS.2.2 dX8_arc_38
    · replace hwp := hwp.2 c19
      refine lv_iconst (v := (-1)) hx hb dX8_arc_22 (by decide) ?_
      have hP9 : va_P G vwCl [(h0, .inr (8, [.ref h1, .ref h5, .ref k0, .ref k1, .ref k2, .ref k3, .ref k4, .ref k5, .ref k6, .ref k7, .ref k8, .int i0, .int i1, .int i2, .int i3, .int i4])), (h1, .inr (3, [.ref h2, .ref h3, .ref h4, .int i5, .int i6, .int i7])), (h2, aI cI 160 f8), (h3, aI cZ 80 f9), (h4, aI cI 20 f10), (h5, .inr (7, [.ref h7, .ref h6, .int i11])), (h6, aI cI 181 f12), (h7, aI cI 160 f13)] H := hP.sub [0, 7, 1, 2, 3, 4, 5, 6] rfl
      have hD9 : va_D A [(h0, .inr (8, [.ref h1, .ref h5, .ref k0, .ref k1, .ref k2, .ref k3, .ref k4, .ref k5, .ref k6, .ref k7, .ref k8, .int i0, .int i1, .int i2, .int i3, .int i4])), (h1, .inr (3, [.ref h2, .ref h3, .ref h4, .int i5, .int i6, .int i7])), (h2, aI cI 160 f8), (h3, aI cZ 80 f9), (h4, aI cI 20 f10), (h5, .inr (7, [.ref h7, .ref h6, .int i11])), (h6, aI cI 181 f12), (h7, aI cI 160 f13)] := hD.sub [0, 7, 1, 2, 3, 4, 5, 6] (by decide) rfl
      rw [← hQQ]
      exact W.iret (v := (-1)) hx hb hr (fun t ht hW => ⟨⟨_, (i0, i2, i3, i4, i6, i7, f8, f9, f10, f12, f13), rfl, hwp, by rw [ht]; exact hP9, hD9⟩, hS.F ht⟩) hS.2.2 dX8_arc_23
def wX8_cut (i0 : Int32) (i1 : Int32) (i2 : Int32) (i3 : Int32) (i4 : Int32) (i5 : Int32) (i6 : Int32) (i7 : Int32) (f8 : Nat → Int32) (f9 : Nat → Int32) (i10 : Int32) (f11 : Nat → Int32) (f12 : Nat → Int32) (f13 : Nat → Int32) (p0 : Int32) (K : Int32 → (Int32 × Int32 × Int32 × Int32 × Int32 × (Nat → Int32) × (Nat → Int32) × (Nat → Int32) × (Nat → Int32)) → Prop) : Prop := (wX3_hasArc i5 i6 i7 f8 p0 (fun r5 _ => ((¬ r5 = 0 → (wX8_forget i0 i1 i2 i3 i4 (fun u14 => (vp_in ((2 : Int32) * p0) 160 ∧ (wX7_remove i10 f11 f12 (f9 (Int32.toNatClampNeg ((2 : Int32) * p0))) ((2 : Int32) * p0) (fun u35 => (vp_in (((2 : Int32) * p0) + 1) 160 ∧ (wX7_remove i10 (u35.1) (u35.2) (f9 (Int32.toNatClampNeg (((2 : Int32) * p0) + 1))) (((2 : Int32) * p0) + 1) (fun u60 => (wX3_removeArc i5 i6 i7 f8 f13 f9 p0 (fun r68 u68 => K r68 (u14.1, u14.2.1, u14.2.2.1, u14.2.2.2, u68.1, u68.2.1, u60.1, u60.2, u68.2.2)))))))))))) ∧ (r5 = 0 → K ((-1) : Int32) (i0, i2, i3, i4, i7, f8, f11, f12, f13)))))
set_option maxHeartbeats 4000000 in
set_option maxRecDepth 100000 in
theorem zX8_cut (l : Launch) (G : va_G) (cI cJ cZ : ClassId) (h0 h1 h2 h3 h4 h5 h6 h7 k0 k1 k2 k3 k4 k5 k6 k7 k8 sz : Nat) (i0 : Int32) (i1 : Int32) (i2 : Int32) (i3 : Int32) (i4 : Int32) (i5 : Int32) (i6 : Int32) (i7 : Int32) (f8 : Nat → Int32) (f9 : Nat → Int32) (i10 : Int32) (f11 : Nat → Int32) (f12 : Nat → Int32) (f13 : Nat → Int32) (p0 : Int32) (K : Int32 → (Int32 × Int32 × Int32 × Int32 × Int32 × (Nat → Int32) × (Nat → Int32) × (Nat → Int32) × (Nat → Int32)) → Prop) (hwp : wX8_cut i0 i1 i2 i3 i4 i5 i6 i7 f8 f9 i10 f11 f12 f13 p0 K) : Met l yX8_cut (xw yX8_cut cX8_cut 2 (some .int)) ({ frames := 3, cells := 0, slots := 0, locals := 67 }) (xPc G cI cJ cZ [.ref h0, .int p0] [(h0, .inr (8, [.ref h1, .ref h4, .ref k0, .ref k1, .ref k2, .ref k3, .ref k4, .ref k5, .ref k6, .ref k7, .ref k8, .int i0, .int i1, .int i2, .int i3, .int i4])), (h1, .inr (3, [.ref h3, .ref h2, .ref h7, .int i5, .int i6, .int i7])), (h2, aI cZ 80 f8), (h3, aI cI 160 f9), (h4, .inr (7, [.ref h6, .ref h5, .int i10])), (h5, aI cI 181 f11), (h6, aI cI 160 f12), (h7, aI cI 20 f13)] sz) (va_Qi (fun (r : Int32) (u : Int32 × Int32 × Int32 × Int32 × Int32 × (Nat → Int32) × (Nat → Int32) × (Nat → Int32) × (Nat → Int32)) => K r u) (fun (u : Int32 × Int32 × Int32 × Int32 × Int32 × (Nat → Int32) × (Nat → Int32) × (Nat → Int32) × (Nat → Int32)) t => xB G (va_A [(h0, .inr (8, [.ref h1, .ref h4, .ref k0, .ref k1, .ref k2, .ref k3, .ref k4, .ref k5, .ref k6, .ref k7, .ref k8, .int i0, .int i1, .int i2, .int i3, .int i4])), (h1, .inr (3, [.ref h3, .ref h2, .ref h7, .int i5, .int i6, .int i7])), (h2, aI cZ 80 f8), (h3, aI cI 160 f9), (h4, .inr (7, [.ref h6, .ref h5, .int i10])), (h5, aI cI 181 f11), (h6, aI cI 160 f12), (h7, aI cI 20 f13)] sz) [(h0, .inr (8, [.ref h1, .ref h4, .ref k0, .ref k1, .ref k2, .ref k3, .ref k4, .ref k5, .ref k6, .ref k7, .ref k8, .int u.1, .int i1, .int u.2.1, .int u.2.2.1, .int u.2.2.2.1])), (h1, .inr (3, [.ref h3, .ref h2, .ref h7, .int i5, .int i6, .int u.2.2.2.2.1])), (h2, aI cZ 80 u.2.2.2.2.2.1), (h3, aI cI 160 f9), (h4, .inr (7, [.ref h6, .ref h5, .int i10])), (h5, aI cI 181 u.2.2.2.2.2.2.1), (h6, aI cI 160 u.2.2.2.2.2.2.2.1), (h7, aI cI 20 u.2.2.2.2.2.2.2.2)] t) (va_A [(h0, .inr (8, [.ref h1, .ref h4, .ref k0, .ref k1, .ref k2, .ref k3, .ref k4, .ref k5, .ref k6, .ref k7, .ref k8, .int i0, .int i1, .int i2, .int i3, .int i4])), (h1, .inr (3, [.ref h3, .ref h2, .ref h7, .int i5, .int i6, .int i7])), (h2, aI cZ 80 f8), (h3, aI cI 160 f9), (h4, .inr (7, [.ref h6, .ref h5, .int i10])), (h5, aI cI 181 f11), (h6, aI cI 160 f12), (h7, aI cI 20 f13)] sz)) 0 0 (va_A [(h0, .inr (8, [.ref h1, .ref h4, .ref k0, .ref k1, .ref k2, .ref k3, .ref k4, .ref k5, .ref k6, .ref k7, .ref k8, .int i0, .int i1, .int i2, .int i3, .int i4])), (h1, .inr (3, [.ref h3, .ref h2, .ref h7, .int i5, .int i6, .int i7])), (h2, aI cZ 80 f8), (h3, aI cI 160 f9), (h4, .inr (7, [.ref h6, .ref h5, .int i10])), (h5, aI cI 181 f11), (h6, aI cI 160 f12), (h7, aI cI 20 f13)] sz) := by
  refine Met.ofW (cc := cX8_cut) (maxL := 2) (ret := (some .int)) (by decide) rfl ?_
  intro p e s m args below meth c s₁ B hml hv
  obtain ⟨rfl, hsz, hP, hK, hD0, hN⟩ := hv
  have hx := B.exec
  have hb := B.bytes
  have hr := B.returns
  have hts : ∀ w ∈ xW, w.before _ s = true := fun w h => atoms_spec (ws := xw yX8_cut cX8_cut 2 (some .int)) B.pre w (List.mem_cons_of_mem _ h)
  have hown : s.vm.findClass RX8 = some m.cls := findClass_of_methodNamed B.named
  have hlocks := B.notSynchronized
  subst hsz
  have hD := hD0.self (sz := s.heap.size)
  clear hD0
  generalize hAe : va_A [(h0, .inr (8, [.ref h1, .ref h4, .ref k0, .ref k1, .ref k2, .ref k3, .ref k4, .ref k5, .ref k6, .ref k7, .ref k8, .int i0, .int i1, .int i2, .int i3, .int i4])), (h1, .inr (3, [.ref h3, .ref h2, .ref h7, .int i5, .int i6, .int i7])), (h2, aI cZ 80 f8), (h3, aI cI 160 f9), (h4, .inr (7, [.ref h6, .ref h5, .int i10])), (h5, aI cI 181 f11), (h6, aI cI 160 f12), (h7, aI cI 20 f13)] s.heap.size = A at hD ⊢
  have hA : ∀ q : Nat, s.heap.size ≤ q → A q := fun q h => by rw [← hAe]; exact Or.inr h
  clear hAe
  have hS : va_S A s.heap s.heap [] := va_S.rf
  replace hP : va_P G vwCl [(h0, .inr (8, [.ref h1, .ref h4, .ref k0, .ref k1, .ref k2, .ref k3, .ref k4, .ref k5, .ref k6, .ref k7, .ref k8, .int i0, .int i1, .int i2, .int i3, .int i4])), (h1, .inr (3, [.ref h3, .ref h2, .ref h7, .int i5, .int i6, .int i7])), (h2, aI cZ 80 f8), (h3, aI cI 160 f9), (h4, .inr (7, [.ref h6, .ref h5, .int i10])), (h5, aI cI 181 f11), (h6, aI cI 160 f12), (h7, aI cI 20 f13)] s.heap := hP
  have hl := lv_entry ([.ref h0, .int p0]) (n := 2) (Nat.le_of_ble_eq_true rfl)
  rw [lg_entry_eq]
  generalize (lg_sl ([.ref h0, .int p0]) ++ List.replicate (2 - (lg_sl ([.ref h0, .int p0])).length) Slot.unset).toArray = ls at hl ⊢
  replace hl : lv_has ls 2 [(0, .ref h0), (1, .int p0)] := hl
  generalize hQQ : MQ below _ _ s 0 0 _ = QQ
  skip
  unfold wX8_cut at hwp
  refine lv_aload_n hx hb dX8_cut_0 rfl (lv_at hl 0 rfl) ?_
  refine va_get (D := G) (ci := 8) (v := .ref h1) (C := RX8) (T := TX8) (N := 16) hx hb hts xinX8 hown hK hP 0 rfl rfl 0 (by decide) (hts _ wo_204) (fun _ h9 => h9) rfl dX8_cut_1 ?_
  refine lv_iload_n hx hb dX8_cut_4 rfl (lv_at hl 1 rfl) ?_
  refine xci (wr := [(h0, .inr (8, [.ref h1, .ref h4, .ref k0, .ref k1, .ref k2, .ref k3, .ref k4, .ref k5, .ref k6, .ref k7, .ref k8, .int i0, .int i1, .int i2, .int i3, .int i4])), (h3, aI cI 160 f9), (h4, .inr (7, [.ref h6, .ref h5, .int i10])), (h5, aI cI 181 f11), (h6, aI cI 160 f12), (h7, aI cI 20 f13)]) (va_runV (As := [.int p0]) (rest := []) ⟨hx, hb, hml, hown, hts⟩ (zX3_hasArc l G cI cJ cZ h1 h2 h3 h7 s.heap.size i5 i6 i7 f8 p0 _ hwp) (cwV 1 hts (xgoodV wo_224 wo_225 wo_226 wo_227 wo_13) rfl rfl rfl (by decide +kernel) ⟨Nat.le_of_ble_eq_true rfl, Nat.le_of_ble_eq_true rfl⟩) (xPreV (q := (RX3, TX3, 6)) (q0 := 1) hK hN hP hD [1, 2] (by decide) rfl rfl rfl) rfl rfl hl.1 rfl (lv_room (Nat.le_of_ble_eq_true rfl)) dX8_cut_5 ⟨Nat.le_of_ble_eq_true rfl, Nat.le_of_ble_eq_true rfl⟩) hP hD hS hA [1, 2] [0, 3, 4, 5, 6, 7] rfl rfl (by decide) (by decide) (fun r5 u5 H locs hwp hP hD hS => ?_)
  replace hP : va_P G vwCl [(h0, .inr (8, [.ref h1, .ref h4, .ref k0, .ref k1, .ref k2, .ref k3, .ref k4, .ref k5, .ref k6, .ref k7, .ref k8, .int i0, .int i1, .int i2, .int i3, .int i4])), (h3, aI cI 160 f9), (h4, .inr (7, [.ref h6, .ref h5, .int i10])), (h5, aI cI 181 f11), (h6, aI cI 160 f12), (h7, aI cI 20 f13), (h1, .inr (3, [.ref h3, .ref h2, .ref h7, .int i5, .int i6, .int i7])), (h2, aI cZ 80 f8)] H := hP
  replace hD : va_D A [(h0, .inr (8, [.ref h1, .ref h4, .ref k0, .ref k1, .ref k2, .ref k3, .ref k4, .ref k5, .ref k6, .ref k7, .ref k8, .int i0, .int i1, .int i2, .int i3, .int i4])), (h3, aI cI 160 f9), (h4, .inr (7, [.ref h6, .ref h5, .int i10])), (h5, aI cI 181 f11), (h6, aI cI 160 f12), (h7, aI cI 20 f13), (h1, .inr (3, [.ref h3, .ref h2, .ref h7, .int i5, .int i6, .int i7])), (h2, aI cZ 80 f8)] := hD
  refine lv_if_ne (tgt := 13) hx hb dX8_cut_8 (by decide) (fun c8 => ?_) (fun c8 => ?_)
  · replace hwp := hwp.1 c8
    refine lv_aload_n hx hb dX8_cut_13 rfl (lv_at hl 0 rfl) ?_
    refine xcv (wr := [(h3, aI cI 160 f9), (h4, .inr (7, [.ref h6, .ref h5, .int i10])), (h5, aI cI 181 f11), (h6, aI cI 160 f12), (h7, aI cI 20 f13), (h1, .inr (3, [.ref h3, .ref h2, .ref h7, .int i5, .int i6, .int i7])), (h2, aI cZ 80 f8)]) (va_runV (As := []) (rest := []) ⟨hx, hb, hml, hown, hts⟩ (zX8_forget l G cI cJ cZ h0 h1 h4 k0 k1 k2 k3 k4 k5 k6 k7 k8 H.size i0 i1 i2 i3 i4 _ hwp) (cwV 0 hts (xgoodV wo_205 wo_206 wo_207 wo_208 wo_49) rfl rfl rfl (by decide +kernel) ⟨Nat.le_of_ble_eq_true rfl, Nat.le_of_ble_eq_true rfl⟩) (xPreV (q := (RX8, TX8, 16)) (q0 := 0) hK hN hP hD [0] (by decide) rfl rfl rfl) rfl rfl hl.1 rfl (lv_room (Nat.le_of_ble_eq_true rfl)) dX8_cut_14 ⟨Nat.le_of_ble_eq_true rfl, Nat.le_of_ble_eq_true rfl⟩) hP hD hS hA [0] [1, 2, 3, 4, 5, 6, 7] rfl rfl (by decide) (by decide) (fun u14 H locs hwp hP hD hS => ?_)
    replace hP : va_P G vwCl [(h3, aI cI 160 f9), (h4, .inr (7, [.ref h6, .ref h5, .int i10])), (h5, aI cI 181 f11), (h6, aI cI 160 f12), (h7, aI cI 20 f13), (h1, .inr (3, [.ref h3, .ref h2, .ref h7, .int i5, .int i6, .int i7])), (h2, aI cZ 80 f8), (h0, .inr (8, [.ref h1, .ref h4, .ref k0, .ref k1, .ref k2, .ref k3, .ref k4, .ref k5, .ref k6, .ref k7, .ref k8, .int u14.1, .int i1, .int u14.2.1, .int u14.2.2.1, .int u14.2.2.2]))] H := hP
    replace hD : va_D A [(h3, aI cI 160 f9), (h4, .inr (7, [.ref h6, .ref h5, .int i10])), (h5, aI cI 181 f11), (h6, aI cI 160 f12), (h7, aI cI 20 f13), (h1, .inr (3, [.ref h3, .ref h2, .ref h7, .int i5, .int i6, .int i7])), (h2, aI cZ 80 f8), (h0, .inr (8, [.ref h1, .ref h4, .ref k0, .ref k1, .ref k2, .ref k3, .ref k4, .ref k5, .ref k6, .ref k7, .ref k8, .int u14.1, .int i1, .int u14.2.1, .int u14.2.2.1, .int u14.2.2.2]))] := hD
    refine lv_aload_n hx hb dX8_cut_17 rfl (lv_at hl 0 rfl) ?_
    refine va_get (D := G) (ci := 8) (v := .ref h4) (C := RX8) (T := TX8) (N := 16) hx hb hts xinX8 hown hK hP 7 rfl rfl 1 (by decide) (hts _ wo_209) (fun _ h9 => h9) rfl dX8_cut_18 ?_
    refine lv_aload_n hx hb dX8_cut_21 rfl (lv_at hl 0 rfl) ?_
    refine va_get (D := G) (ci := 8) (v := .ref h1) (C := RX8) (T := TX8) (N := 16) hx hb hts xinX8 hown hK hP 7 rfl rfl 0 (by decide) (hts _ wo_204) (fun _ h9 => h9) rfl dX8_cut_22 ?_
    refine va_getN (D := G) (ci := 3) (v := .ref h3) (C := RX3) (T := TX3) (N := 6) hx hb hts xinX3 hown hK hP 5 rfl rfl 0 (by decide) (va_Nw.use rfl (hN.1 ("PlaneTests", 113, "PlaneTests$Graph", "at", "[I", "PlaneTests") (by decide +kernel))) (fun _ h9 => h9) rfl dX8_cut_25 ?_
    refine lv_iconst (v := 2) hx hb dX8_cut_28 (by decide) ?_
    refine lv_iload_n hx hb dX8_cut_29 rfl (lv_at hl 1 rfl) ?_
    refine lv_imul hx hb dX8_cut_30 ?_
    obtain ⟨hi, hwp⟩ := hwp
    refine va_iald hx hb hK hP 0 0 rfl rfl hi dX8_cut_31 ?_
    refine lv_iconst (v := 2) hx hb dX8_cut_32 (by decide) ?_
    refine lv_iload_n hx hb dX8_cut_33 rfl (lv_at hl 1 rfl) ?_
    refine lv_imul hx hb dX8_cut_34 ?_
    refine xcv (wr := [(h3, aI cI 160 f9), (h7, aI cI 20 f13), (h1, .inr (3, [.ref h3, .ref h2, .ref h7, .int i5, .int i6, .int i7])), (h2, aI cZ 80 f8), (h0, .inr (8, [.ref h1, .ref h4, .ref k0, .ref k1, .ref k2, .ref k3, .ref k4, .ref k5, .ref k6, .ref k7, .ref k8, .int u14.1, .int i1, .int u14.2.1, .int u14.2.2.1, .int u14.2.2.2]))]) (va_runV (As := [.int (f9 (Int32.toNatClampNeg ((2 : Int32) * p0))), .int ((2 : Int32) * p0)]) (rest := []) ⟨hx, hb, hml, hown, hts⟩ (zX7_remove l G cI cJ cZ h4 h5 h6 H.size i10 f11 f12 (f9 (Int32.toNatClampNeg ((2 : Int32) * p0))) ((2 : Int32) * p0) _ hwp) (cwV 2 hts (xgoodV wo_228 wo_229 wo_230 wo_231 wo_28) rfl rfl rfl (by decide +kernel) ⟨Nat.le_of_ble_eq_true rfl, Nat.le_of_ble_eq_true rfl⟩) (xPreV (q := (RX7, TX7, 3)) (q0 := 1) hK hN hP hD [1, 2, 3] (by decide) rfl rfl rfl) rfl rfl hl.1 rfl (lv_room (Nat.le_of_ble_eq_true rfl)) dX8_cut_35 ⟨Nat.le_of_ble_eq_true rfl, Nat.le_of_ble_eq_true rfl⟩) hP hD hS hA [1, 2, 3] [0, 4, 5, 6, 7] rfl rfl (by decide) (by decide) (fun u35 H locs hwp hP hD hS => ?_)
    replace hP : va_P G vwCl [(h3, aI cI 160 f9), (h7, aI cI 20 f13), (h1, .inr (3, [.ref h3, .ref h2, .ref h7, .int i5, .int i6, .int i7])), (h2, aI cZ 80 f8), (h0, .inr (8, [.ref h1, .ref h4, .ref k0, .ref k1, .ref k2, .ref k3, .ref k4, .ref k5, .ref k6, .ref k7, .ref k8, .int u14.1, .int i1, .int u14.2.1, .int u14.2.2.1, .int u14.2.2.2])), (h4, .inr (7, [.ref h6, .ref h5, .int i10])), (h5, aI cI 181 u35.1), (h6, aI cI 160 u35.2)] H := hP
    replace hD : va_D A [(h3, aI cI 160 f9), (h7, aI cI 20 f13), (h1, .inr (3, [.ref h3, .ref h2, .ref h7, .int i5, .int i6, .int i7])), (h2, aI cZ 80 f8), (h0, .inr (8, [.ref h1, .ref h4, .ref k0, .ref k1, .ref k2, .ref k3, .ref k4, .ref k5, .ref k6, .ref k7, .ref k8, .int u14.1, .int i1, .int u14.2.1, .int u14.2.2.1, .int u14.2.2.2])), (h4, .inr (7, [.ref h6, .ref h5, .int i10])), (h5, aI cI 181 u35.1), (h6, aI cI 160 u35.2)] := hD
    refine lv_aload_n hx hb dX8_cut_38 rfl (lv_at hl 0 rfl) ?_
    refine va_get (D := G) (ci := 8) (v := .ref h4) (C := RX8) (T := TX8) (N := 16) hx hb hts xinX8 hown hK hP 4 rfl rfl 1 (by decide) (hts _ wo_209) (fun _ h9 => h9) rfl dX8_cut_39 ?_
    refine lv_aload_n hx hb dX8_cut_42 rfl (lv_at hl 0 rfl) ?_
    refine va_get (D := G) (ci := 8) (v := .ref h1) (C := RX8) (T := TX8) (N := 16) hx hb hts xinX8 hown hK hP 4 rfl rfl 0 (by decide) (hts _ wo_204) (fun _ h9 => h9) rfl dX8_cut_43 ?_
    refine va_getN (D := G) (ci := 3) (v := .ref h3) (C := RX3) (T := TX3) (N := 6) hx hb hts xinX3 hown hK hP 2 rfl rfl 0 (by decide) (va_Nw.use rfl (hN.1 ("PlaneTests", 113, "PlaneTests$Graph", "at", "[I", "PlaneTests") (by decide +kernel))) (fun _ h9 => h9) rfl dX8_cut_46 ?_
    refine lv_iconst (v := 2) hx hb dX8_cut_49 (by decide) ?_
    refine lv_iload_n hx hb dX8_cut_50 rfl (lv_at hl 1 rfl) ?_
    refine lv_imul hx hb dX8_cut_51 ?_
    refine lv_iconst (v := 1) hx hb dX8_cut_52 (by decide) ?_
    refine lv_iadd hx hb dX8_cut_53 ?_
    obtain ⟨hi, hwp⟩ := hwp
    refine va_iald hx hb hK hP 0 0 rfl rfl hi dX8_cut_54 ?_
    refine lv_iconst (v := 2) hx hb dX8_cut_55 (by decide) ?_
    refine lv_iload_n hx hb dX8_cut_56 rfl (lv_at hl 1 rfl) ?_
    refine lv_imul hx hb dX8_cut_57 ?_
    refine lv_iconst (v := 1) hx hb dX8_cut_58 (by decide) ?_
    refine lv_iadd hx hb dX8_cut_59 ?_
    refine xcv (wr := [(h3, aI cI 160 f9), (h7, aI cI 20 f13), (h1, .inr (3, [.ref h3, .ref h2, .ref h7, .int i5, .int i6, .int i7])), (h2, aI cZ 80 f8), (h0, .inr (8, [.ref h1, .ref h4, .ref k0, .ref k1, .ref k2, .ref k3, .ref k4, .ref k5, .ref k6, .ref k7, .ref k8, .int u14.1, .int i1, .int u14.2.1, .int u14.2.2.1, .int u14.2.2.2]))]) (va_runV (As := [.int (f9 (Int32.toNatClampNeg (((2 : Int32) * p0) + 1))), .int (((2 : Int32) * p0) + 1)]) (rest := []) ⟨hx, hb, hml, hown, hts⟩ (zX7_remove l G cI cJ cZ h4 h5 h6 H.size i10 (u35.1) (u35.2) (f9 (Int32.toNatClampNeg (((2 : Int32) * p0) + 1))) (((2 : Int32) * p0) + 1) _ hwp) (cwV 2 hts (xgoodV wo_228 wo_229 wo_230 wo_231 wo_28) rfl rfl rfl (by decide +kernel) ⟨Nat.le_of_ble_eq_true rfl, Nat.le_of_ble_eq_true rfl⟩) (xPreV (q := (RX7, TX7, 3)) (q0 := 5) hK hN hP hD [5, 6, 7] (by decide) rfl rfl rfl) rfl rfl hl.1 rfl (lv_room (Nat.le_of_ble_eq_true rfl)) dX8_cut_60 ⟨Nat.le_of_ble_eq_true rfl, Nat.le_of_ble_eq_true rfl⟩) hP hD hS hA [5, 6, 7] [0, 1, 2, 3, 4] rfl rfl (by decide) (by decide) (fun u60 H locs hwp hP hD hS => ?_)
    replace hP : va_P G vwCl [(h3, aI cI 160 f9), (h7, aI cI 20 f13), (h1, .inr (3, [.ref h3, .ref h2, .ref h7, .int i5, .int i6, .int i7])), (h2, aI cZ 80 f8), (h0, .inr (8, [.ref h1, .ref h4, .ref k0, .ref k1, .ref k2, .ref k3, .ref k4, .ref k5, .ref k6, .ref k7, .ref k8, .int u14.1, .int i1, .int u14.2.1, .int u14.2.2.1, .int u14.2.2.2])), (h4, .inr (7, [.ref h6, .ref h5, .int i10])), (h5, aI cI 181 u60.1), (h6, aI cI 160 u60.2)] H := hP
    replace hD : va_D A [(h3, aI cI 160 f9), (h7, aI cI 20 f13), (h1, .inr (3, [.ref h3, .ref h2, .ref h7, .int i5, .int i6, .int i7])), (h2, aI cZ 80 f8), (h0, .inr (8, [.ref h1, .ref h4, .ref k0, .ref k1, .ref k2, .ref k3, .ref k4, .ref k5, .ref k6, .ref k7, .ref k8, .int u14.1, .int i1, .int u14.2.1, .int u14.2.2.1, .int u14.2.2.2])), (h4, .inr (7, [.ref h6, .ref h5, .int i10])), (h5, aI cI 181 u60.1), (h6, aI cI 160 u60.2)] := hD
    refine lv_aload_n hx hb dX8_cut_63 rfl (lv_at hl 0 rfl) ?_
    refine va_get (D := G) (ci := 8) (v := .ref h1) (C := RX8) (T := TX8) (N := 16) hx hb hts xinX8 hown hK hP 4 rfl rfl 0 (by decide) (hts _ wo_204) (fun _ h9 => h9) rfl dX8_cut_64 ?_
    refine lv_iload_n hx hb dX8_cut_67 rfl (lv_at hl 1 rfl) ?_
    refine xci (wr := [(h0, .inr (8, [.ref h1, .ref h4, .ref k0, .ref k1, .ref k2, .ref k3, .ref k4, .ref k5, .ref k6, .ref k7, .ref k8, .int u14.1, .int i1, .int u14.2.1, .int u14.2.2.1, .int u14.2.2.2])), (h4, .inr (7, [.ref h6, .ref h5, .int i10])), (h5, aI cI 181 u60.1), (h6, aI cI 160 u60.2)]) (va_runV (As := [.int p0]) (rest := []) ⟨hx, hb, hml, hown, hts⟩ (zX3_removeArc l G cI cJ cZ h1 h2 h7 h3 H.size i5 i6 i7 f8 f13 f9 p0 _ hwp) (cwV 1 hts (xgoodV wo_232 wo_233 wo_234 wo_235 wo_13) rfl rfl rfl (by decide +kernel) ⟨Nat.le_of_ble_eq_true rfl, Nat.le_of_ble_eq_true rfl⟩) (xPreV (q := (RX3, TX3, 6)) (q0 := 2) hK hN hP hD [2, 3, 1, 0] (by decide) rfl rfl rfl) rfl rfl hl.1 rfl (lv_room (Nat.le_of_ble_eq_true rfl)) dX8_cut_68 ⟨Nat.le_of_ble_eq_true rfl, Nat.le_of_ble_eq_true rfl⟩) hP hD hS hA [2, 3, 1, 0] [4, 5, 6, 7] rfl rfl (by decide) (by decide) (fun r68 u68 H locs hwp hP hD hS => ?_)
    replace hP : va_P G vwCl [(h0, .inr (8, [.ref h1, .ref h4, .ref k0, .ref k1, .ref k2, .ref k3, .ref k4, .ref k5, .ref k6, .ref k7, .ref k8, .int u14.1, .int i1, .int u14.2.1, .int u14.2.2.1, .int u14.2.2.2])), (h4, .inr (7, [.ref h6, .ref h5, .int i10])), (h5, aI cI 181 u60.1), (h6, aI cI 160 u60.2), (h1, .inr (3, [.ref h3, .ref h2, .ref h7, .int i5, .int i6, .int u68.1])), (h2, aI cZ 80 u68.2.1), (h7, aI cI 20 u68.2.2), (h3, aI cI 160 f9)] H := hP
    replace hD : va_D A [(h0, .inr (8, [.ref h1, .ref h4, .ref k0, .ref k1, .ref k2, .ref k3, .ref k4, .ref k5, .ref k6, .ref k7, .ref k8, .int u14.1, .int i1, .int u14.2.1, .int u14.2.2.1, .int u14.2.2.2])), (h4, .inr (7, [.ref h6, .ref h5, .int i10])), (h5, aI cI 181 u60.1), (h6, aI cI 160 u60.2), (h1, .inr (3, [.ref h3, .ref h2, .ref h7, .int i5, .int i6, .int u68.1])), (h2, aI cZ 80 u68.2.1), (h7, aI cI 20 u68.2.2), (h3, aI cI 160 f9)] := hD
    have hP9 : va_P G vwCl [(h0, .inr (8, [.ref h1, .ref h4, .ref k0, .ref k1, .ref k2, .ref k3, .ref k4, .ref k5, .ref k6, .ref k7, .ref k8, .int u14.1, .int i1, .int u14.2.1, .int u14.2.2.1, .int u14.2.2.2])), (h1, .inr (3, [.ref h3, .ref h2, .ref h7, .int i5, .int i6, .int u68.1])), (h2, aI cZ 80 u68.2.1), (h3, aI cI 160 f9), (h4, .inr (7, [.ref h6, .ref h5, .int i10])), (h5, aI cI 181 u60.1), (h6, aI cI 160 u60.2), (h7, aI cI 20 u68.2.2)] H := hP.sub [0, 4, 5, 7, 1, 2, 3, 6] rfl
    have hD9 : va_D A [(h0, .inr (8, [.ref h1, .ref h4, .ref k0, .ref k1, .ref k2, .ref k3, .ref k4, .ref k5, .ref k6, .ref k7, .ref k8, .int u14.1, .int i1, .int u14.2.1, .int u14.2.2.1, .int u14.2.2.2])), (h1, .inr (3, [.ref h3, .ref h2, .ref h7, .int i5, .int i6, .int u68.1])), (h2, aI cZ 80 u68.2.1), (h3, aI cI 160 f9), (h4, .inr (7, [.ref h6, .ref h5, .int i10])), (h5, aI cI 181 u60.1), (h6, aI cI 160 u60.2), (h7, aI cI 20 u68.2.2)] := hD.sub [0, 4, 5, 7, 1, 2, 3, 6] (by decide) rfl
    rw [← hQQ]
    exact W.iret (v := r68) hx hb hr (fun t ht hW => ⟨⟨_, (u14.1, u14.2.1, u14.2.2.1, u14.2.2.2, u68.1, u68.2.1, u60.1, u60.2, u68.2.2), rfl, hwp, by rw [ht]; exact hP9, hD9⟩, hS.F ht⟩) hS.2.2 dX8_cut_71
  · replace hwp := hwp.2 c8
    refine lv_iconst (v := (-1)) hx hb dX8_cut_11 (by decide) ?_
    have hP9 : va_P G vwCl [(h0, .inr (8, [.ref h1, .ref h4, .ref k0, .ref k1, .ref k2, .ref k3, .ref k4, .ref k5, .ref k6, .ref k7, .ref k8, .int i0, .int i1, .int i2, .int i3, .int i4])), (h1, .inr (3, [.ref h3, .ref h2, .ref h7, .int i5, .int i6, .int i7])), (h2, aI cZ 80 f8), (h3, aI cI 160 f9), (h4, .inr (7, [.ref h6, .ref h5, .int i10])), (h5, aI cI 181 f11), (h6, aI cI 160 f12), (h7, aI cI 20 f13)] H := hP.sub [0, 6, 7, 1, 2, 3, 4, 5] rfl
    have hD9 : va_D A [(h0, .inr (8, [.ref h1, .ref h4, .ref k0, .ref k1, .ref k2, .ref k3, .ref k4, .ref k5, .ref k6, .ref k7, .ref k8, .int i0, .int i1, .int i2, .int i3, .int i4])), (h1, .inr (3, [.ref h3, .ref h2, .ref h7, .int i5, .int i6, .int i7])), (h2, aI cZ 80 f8), (h3, aI cI 160 f9), (h4, .inr (7, [.ref h6, .ref h5, .int i10])), (h5, aI cI 181 f11), (h6, aI cI 160 f12), (h7, aI cI 20 f13)] := hD.sub [0, 6, 7, 1, 2, 3, 4, 5] (by decide) rfl
    rw [← hQQ]
    exact W.iret (v := (-1)) hx hb hr (fun t ht hW => ⟨⟨_, (i0, i2, i3, i4, i7, f8, f11, f12, f13), rfl, hwp, by rw [ht]; exact hP9, hD9⟩, hS.F ht⟩) hS.2.2 dX8_cut_12

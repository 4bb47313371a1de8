set_option maxHeartbeats 4000000 in
set_option maxRecDepth 100000 in
theorem mX8_forget (l : Launch) (G : va_G) (cI cJ cZ : ClassId) (h0 k0 k1 k2 k3 k4 k5 k6 k7 k8 k9 k10 sz : Nat) : Met l yX8_forget (xw yX8_forget cX8_forget 1 none) ({ frames := 0, cells := 0, slots := 0, locals := 0 }) (xPc G cI cJ cZ [.ref h0] [(h0, .inr (8, [.ref k0, .ref k1, .ref k2, .ref k3, .ref k4, .ref k5, .ref k6, .ref k7, .ref k8, .ref k9, .ref k10, .int 0, .int 0, .int 0, .int 0, .int 0]))] sz) (va_Qv (fun _ : Unit => True) (fun (_ : Unit) t => xB G (va_A [(h0, .inr (8, [.ref k0, .ref k1, .ref k2, .ref k3, .ref k4, .ref k5, .ref k6, .ref k7, .ref k8, .ref k9, .ref k10, .int 0, .int 0, .int 0, .int 0, .int 0]))] sz) [(h0, .inr (8, [.ref k0, .ref k1, .ref k2, .ref k3, .ref k4, .ref k5, .ref k6, .ref k7, .ref k8, .ref k9, .ref k10, .int 0, .int 0, .int 0, .int 0, .int 0]))] t) (va_A [(h0, .inr (8, [.ref k0, .ref k1, .ref k2, .ref k3, .ref k4, .ref k5, .ref k6, .ref k7, .ref k8, .ref k9, .ref k10, .int 0, .int 0, .int 0, .int 0, .int 0]))] sz)) 0 0 (va_A [(h0, .inr (8, [.ref k0, .ref k1, .ref k2, .ref k3, .ref k4, .ref k5, .ref k6, .ref k7, .ref k8, .ref k9, .ref k10, .int 0, .int 0, .int 0, .int 0, .int 0]))] sz) := by
  refine Met.ofW (cc := cX8_forget) (maxL := 1) (ret := none) (by decide) rfl ?_
  intro p e s m args below meth c s₁ B hml hv
  obtain ⟨rfl, hsz, hP, hK, hD0, hN⟩ := hv
  have hx := B.exec
  have hb := B.bytes
  have hr := B.returns
  have hts : ∀ w ∈ xW, w.before _ s = true := fun w h => atoms_spec (ws := xw yX8_forget cX8_forget 1 none) B.pre w (List.mem_cons_of_mem _ h)
  have hown : s.vm.findClass RX8 = some m.cls := findClass_of_methodNamed B.named
  have hlocks := B.notSynchronized
  subst hsz
  have hD := hD0.self (sz := s.heap.size)
  clear hD0
  generalize hAe : va_A [(h0, .inr (8, [.ref k0, .ref k1, .ref k2, .ref k3, .ref k4, .ref k5, .ref k6, .ref k7, .ref k8, .ref k9, .ref k10, .int 0, .int 0, .int 0, .int 0, .int 0]))] s.heap.size = A at hD ⊢
  have hA : ∀ q : Nat, s.heap.size ≤ q → A q := fun q h => by rw [← hAe]; exact Or.inr h
  clear hAe
  have hS : va_S A s.heap s.heap [] := va_S.rf
  replace hP : va_P G vwCl [(h0, .inr (8, [.ref k0, .ref k1, .ref k2, .ref k3, .ref k4, .ref k5, .ref k6, .ref k7, .ref k8, .ref k9, .ref k10, .int 0, .int 0, .int 0, .int 0, .int 0]))] s.heap := hP
  have hl := lv_entry ([.ref h0]) (n := 1) (Nat.le_of_ble_eq_true rfl)
  rw [lg_entry_eq]
  generalize (lg_sl ([.ref h0]) ++ List.replicate (1 - (lg_sl ([.ref h0])).length) Slot.unset).toArray = ls at hl ⊢
  replace hl : lv_has ls 1 [(0, .ref h0)] := hl
  refine lv_aload_n hx hb dX8_forget_0 rfl (lv_at hl 0 rfl) ?_
  refine lv_iconst (v := 0) hx hb dX8_forget_1 (by decide) ?_
  refine va_put (D := G) (ci := 8) (v := .int 0) (ty := .boolean) (C := RX8) (T := TX8) (N := 16) hx hb hts xinX8 tyX8 tyX8_ok nmX8 hown hK hP hD hS 0 rfl rfl 11 (by decide) (hts _ wm_148) (fun _ h9 => h9) rfl (by decide +kernel) rfl rfl (Nat.le_of_ble_eq_true rfl) dX8_forget_2 (fun H locs hP hD hS => ?_)
  replace hP : va_P G vwCl [(h0, .inr (8, [.ref k0, .ref k1, .ref k2, .ref k3, .ref k4, .ref k5, .ref k6, .ref k7, .ref k8, .ref k9, .ref k10, .int 0, .int 0, .int 0, .int 0, .int 0]))] H := hP
  replace hD : va_D A [(h0, .inr (8, [.ref k0, .ref k1, .ref k2, .ref k3, .ref k4, .ref k5, .ref k6, .ref k7, .ref k8, .ref k9, .ref k10, .int 0, .int 0, .int 0, .int 0, .int 0]))] := hD
  refine lv_aload_n hx hb dX8_forget_5 rfl (lv_at hl 0 rfl) ?_
  refine lv_iconst (v := 0) hx hb dX8_forget_6 (by decide) ?_
  refine va_put (D := G) (ci := 8) (v := .int 0) (ty := .boolean) (C := RX8) (T := TX8) (N := 16) hx hb hts xinX8 tyX8 tyX8_ok nmX8 hown hK hP hD hS 0 rfl rfl 13 (by decide) (hts _ wm_149) (fun _ h9 => h9) rfl (by decide +kernel) rfl rfl (Nat.le_of_ble_eq_true rfl) dX8_forget_7 (fun H locs hP hD hS => ?_)
  replace hP : va_P G vwCl [(h0, .inr (8, [.ref k0, .ref k1, .ref k2, .ref k3, .ref k4, .ref k5, .ref k6, .ref k7, .ref k8, .ref k9, .ref k10, .int 0, .int 0, .int 0, .int 0, .int 0]))] H := hP
  replace hD : va_D A [(h0, .inr (8, [.ref k0, .ref k1, .ref k2, .ref k3, .ref k4, .ref k5, .ref k6, .ref k7, .ref k8, .ref k9, .ref k10, .int 0, .int 0, .int 0, .int 0, .int 0]))] := hD
  refine lv_aload_n hx hb dX8_forget_10 rfl (lv_at hl 0 rfl) ?_
  refine lv_iconst (v := 0) hx hb dX8_forget_11 (by decide) ?_
  refine va_put (D := G) (ci := 8) (v := .int 0) (ty := .boolean) (C := RX8) (T := TX8) (N := 16) hx hb hts xinX8 tyX8 tyX8_ok nmX8 hown hK hP hD hS 0 rfl rfl 14 (by decide) (hts _ wm_150) (fun _ h9 => h9) rfl (by decide +kernel) rfl rfl (Nat.le_of_ble_eq_true rfl) dX8_forget_12 (fun H locs hP hD hS => ?_)
  replace hP : va_P G vwCl [(h0, .inr (8, [.ref k0, .ref k1, .ref k2, .ref k3, .ref k4, .ref k5, .ref k6, .ref k7, .ref k8, .ref k9, .ref k10, .int 0, .int 0, .int 0, .int 0, .int 0]))] H := hP
  replace hD : va_D A [(h0, .inr (8, [.ref k0, .ref k1, .ref k2, .ref k3, .ref k4, .ref k5, .ref k6, .ref k7, .ref k8, .ref k9, .ref k10, .int 0, .int 0, .int 0, .int 0, .int 0]))] := hD
  refine lv_aload_n hx hb dX8_forget_15 rfl (lv_at hl 0 rfl) ?_
  refine lv_iconst (v := 0) hx hb dX8_forget_16 (by decide) ?_
  refine va_put (D := G) (ci := 8) (v := .int 0) (ty := .boolean) (C := RX8) (T := TX8) (N := 16) hx hb hts xinX8 tyX8 tyX8_ok nmX8 hown hK hP hD hS 0 rfl rfl 15 (by decide) (hts _ wm_151) (fun _ h9 => h9) rfl (by decide +kernel) rfl rfl (Nat.le_of_ble_eq_true rfl) dX8_forget_17 (fun H locs hP hD hS => ?_)
  replace hP : va_P G vwCl [(h0, .inr (8, [.ref k0, .ref k1, .ref k2, .ref k3, .ref k4, .ref k5, .ref k6, .ref k7, .ref k8, .ref k9, .ref k10, .int 0, .int 0, .int 0, .int 0, .int 0]))] H := hP
  replace hD : va_D A [(h0, .inr (8, [.ref k0, .ref k1, .ref k2, .ref k3, .ref k4, .ref k5, .ref k6, .ref k7, .ref k8, .ref k9, .ref k10, .int 0, .int 0, .int 0, .int 0, .int 0]))] := hD
  have hP9 : va_P G vwCl [(h0, .inr (8, [.ref k0, .ref k1, .ref k2, .ref k3, .ref k4, .ref k5, .ref k6, .ref k7, .ref k8, .ref k9, .ref k10, .int 0, .int 0, .int 0, .int 0, .int 0]))] H := hP.sub [0] rfl
  have hD9 : va_D A [(h0, .inr (8, [.ref k0, .ref k1, .ref k2, .ref k3, .ref k4, .ref k5, .ref k6, .ref k7, .ref k8, .ref k9, .ref k10, .int 0, .int 0, .int 0, .int 0, .int 0]))] := hD.sub [0] (by decide) rfl
  refine W.widen (k := 0) (n := 0) (by decide) (by decide) ?_
  exact W.vret hx hb hr (fun t ht hW => ⟨⟨(), rfl, trivial, by rw [ht]; exact hP9, hD9⟩, hS.F ht⟩) hS.2.2 dX8_forget_20
set_option maxHeartbeats 4000000 in
set_option maxRecDepth 100000 in
theorem mX7_open (l : Launch) (G : va_G) (cI cJ cZ : ClassId) (h0 h1 k0 sz : Nat) : Met l yX7_open (xw yX7_open cX7_open 1 none) ({ frames := 0, cells := 0, slots := 0, locals := 0 }) (xPc G cI cJ cZ [.ref h0] [(h0, .inr (7, [.ref k0, .ref h1, .int 0])), (h1, aI cI 181 xz)] sz) (va_Qv (fun _ : Unit => True) (fun (_ : Unit) t => xB G (va_A [(h0, .inr (7, [.ref k0, .ref h1, .int 0])), (h1, aI cI 181 xz)] sz) [(h0, .inr (7, [.ref k0, .ref h1, .int 1])), (h1, aI cI 181 (upd xz 1 0))] t) (va_A [(h0, .inr (7, [.ref k0, .ref h1, .int 0])), (h1, aI cI 181 xz)] sz)) 0 0 (va_A [(h0, .inr (7, [.ref k0, .ref h1, .int 0])), (h1, aI cI 181 xz)] sz) := by
  refine Met.ofW (cc := cX7_open) (maxL := 1) (ret := none) (by decide) rfl ?_
  intro p e s m args below meth c s₁ B hml hv
  obtain ⟨rfl, hsz, hP, hK, hD0, hN⟩ := hv
  have hx := B.exec
  have hb := B.bytes
  have hr := B.returns
  have hts : ∀ w ∈ xW, w.before _ s = true := fun w h => atoms_spec (ws := xw yX7_open cX7_open 1 none) B.pre w (List.mem_cons_of_mem _ h)
  have hown : s.vm.findClass RX7 = some m.cls := findClass_of_methodNamed B.named
  have hlocks := B.notSynchronized
  subst hsz
  have hD := hD0.self (sz := s.heap.size)
  clear hD0
  generalize hAe : va_A [(h0, .inr (7, [.ref k0, .ref h1, .int 0])), (h1, aI cI 181 xz)] s.heap.size = A at hD ⊢
  have hA : ∀ q : Nat, s.heap.size ≤ q → A q := fun q h => by rw [← hAe]; exact Or.inr h
  clear hAe
  have hS : va_S A s.heap s.heap [] := va_S.rf
  replace hP : va_P G vwCl [(h0, .inr (7, [.ref k0, .ref h1, .int 0])), (h1, aI cI 181 xz)] s.heap := hP
  have hl := lv_entry ([.ref h0]) (n := 1) (Nat.le_of_ble_eq_true rfl)
  rw [lg_entry_eq]
  generalize (lg_sl ([.ref h0]) ++ List.replicate (1 - (lg_sl ([.ref h0])).length) Slot.unset).toArray = ls at hl ⊢
  replace hl : lv_has ls 1 [(0, .ref h0)] := hl
  refine lv_aload_n hx hb dX7_open_0 rfl (lv_at hl 0 rfl) ?_
  refine va_get (D := G) (ci := 7) (v := .int 0) (C := RX7) (T := TX7) (N := 3) hx hb hts xinX7 hown hK hP 0 rfl rfl 2 (by decide) (hts _ wm_157) (fun _ h9 => h9) rfl dX7_open_1 ?_
  refine lv_sipush (v := 180) hx hb dX7_open_4 (by decide) ?_
  refine lv_icmp_ge (tgt := 40) hx hb dX7_open_7 (by decide) (fun c2 => ?_) (fun c2 => ?_)
  · exact absurd c2 (by decide)
  refine lv_aload_n hx hb dX7_open_10 rfl (lv_at hl 0 rfl) ?_
  refine va_get (D := G) (ci := 7) (v := .ref h1) (C := RX7) (T := TX7) (N := 3) hx hb hts xinX7 hown hK hP 0 rfl rfl 1 (by decide) (hts _ wm_20) (fun _ h9 => h9) rfl dX7_open_11 ?_
  refine lv_aload_n hx hb dX7_open_14 rfl (lv_at hl 0 rfl) ?_
  refine va_get (D := G) (ci := 7) (v := .int 0) (C := RX7) (T := TX7) (N := 3) hx hb hts xinX7 hown hK hP 0 rfl rfl 2 (by decide) (hts _ wm_157) (fun _ h9 => h9) rfl dX7_open_15 ?_
  refine lv_iconst (v := 1) hx hb dX7_open_18 (by decide) ?_
  refine lv_iadd hx hb dX7_open_19 ?_
  refine lv_topi (fun w1 ew1 => ?_)
  obtain rfl : w1 = (1 : Int32) := ew1.trans (by decide)
  refine lv_aload_n hx hb dX7_open_20 rfl (lv_at hl 0 rfl) ?_
  refine va_get (D := G) (ci := 7) (v := .ref h1) (C := RX7) (T := TX7) (N := 3) hx hb hts xinX7 hown hK hP 0 rfl rfl 1 (by decide) (hts _ wm_20) (fun _ h9 => h9) rfl dX7_open_21 ?_
  refine lv_aload_n hx hb dX7_open_24 rfl (lv_at hl 0 rfl) ?_
  refine va_get (D := G) (ci := 7) (v := .int 0) (C := RX7) (T := TX7) (N := 3) hx hb hts xinX7 hown hK hP 0 rfl rfl 2 (by decide) (hts _ wm_157) (fun _ h9 => h9) rfl dX7_open_25 ?_
  refine va_iald hx hb hK hP 1 0 rfl rfl (by unfold vp_in; decide) dX7_open_28 ?_
  refine lv_topi (fun w2 ew2 => ?_)
  obtain rfl : w2 = (0 : Int32) := ew2.trans (by first | rfl | decide)
  refine va_iast hx hb hK hP hD hS 1 0 rfl rfl (by unfold vp_in; decide) dX7_open_29 (fun H locs hP hD hS => ?_)
  replace hP : va_P G vwCl [(h0, .inr (7, [.ref k0, .ref h1, .int 0])), (h1, aI cI 181 (upd xz 1 0))] H := hP
  replace hD : va_D A [(h0, .inr (7, [.ref k0, .ref h1, .int 0])), (h1, aI cI 181 (upd xz 1 0))] := hD
  refine lv_aload_n hx hb dX7_open_30 rfl (lv_at hl 0 rfl) ?_
  refine lv_dup hx hb dX7_open_31 rfl ?_
  refine va_get (D := G) (ci := 7) (v := .int 0) (C := RX7) (T := TX7) (N := 3) hx hb hts xinX7 hown hK hP 0 rfl rfl 2 (by decide) (hts _ wm_157) (fun _ h9 => h9) rfl dX7_open_32 ?_
  refine lv_iconst (v := 1) hx hb dX7_open_35 (by decide) ?_
  refine lv_iadd hx hb dX7_open_36 ?_
  refine lv_topi (fun w3 ew3 => ?_)
  obtain rfl : w3 = (1 : Int32) := ew3.trans (by decide)
  refine va_put (D := G) (ci := 7) (v := .int 1) (ty := .int) (C := RX7) (T := TX7) (N := 3) hx hb hts xinX7 tyX7 tyX7_ok nmX7 hown hK hP hD hS 0 rfl rfl 2 (by decide) (hts _ wm_157) (fun _ h9 => h9) rfl (by decide +kernel) rfl rfl (Nat.le_of_ble_eq_true rfl) dX7_open_37 (fun H locs hP hD hS => ?_)
  replace hP : va_P G vwCl [(h0, .inr (7, [.ref k0, .ref h1, .int 1])), (h1, aI cI 181 (upd xz 1 0))] H := hP
  replace hD : va_D A [(h0, .inr (7, [.ref k0, .ref h1, .int 1])), (h1, aI cI 181 (upd xz 1 0))] := hD
  have hP9 : va_P G vwCl [(h0, .inr (7, [.ref k0, .ref h1, .int 1])), (h1, aI cI 181 (upd xz 1 0))] H := hP.sub [0, 1] rfl
  have hD9 : va_D A [(h0, .inr (7, [.ref k0, .ref h1, .int 1])), (h1, aI cI 181 (upd xz 1 0))] := hD.sub [0, 1] (by decide) rfl
  refine W.widen (k := 0) (n := 0) (by decide) (by decide) ?_
  exact W.vret hx hb hr (fun t ht hW => ⟨⟨(), rfl, trivial, by rw [ht]; exact hP9, hD9⟩, hS.F ht⟩) hS.2.2 dX7_open_40
set_option maxHeartbeats 4000000 in
set_option maxRecDepth 100000 in
theorem mX3_addNode (l : Launch) (G : va_G) (cI cJ cZ : ClassId) (h0 k0 k1 k2 sz : Nat) : Met l yX3_addNode (xw yX3_addNode cX3_addNode 1 (some .int)) ({ frames := 0, cells := 0, slots := 0, locals := 0 }) (xPc G cI cJ cZ [.ref h0] [(h0, .inr (3, [.ref k0, .ref k1, .ref k2, .int 0, .int 0, .int 0]))] sz) (va_Qi (fun (r : Int32) (_ : Unit) => r = 0) (fun (_ : Unit) t => xB G (va_A [(h0, .inr (3, [.ref k0, .ref k1, .ref k2, .int 0, .int 0, .int 0]))] sz) [(h0, .inr (3, [.ref k0, .ref k1, .ref k2, .int 1, .int 0, .int 0]))] t) (va_A [(h0, .inr (3, [.ref k0, .ref k1, .ref k2, .int 0, .int 0, .int 0]))] sz)) 0 0 (va_A [(h0, .inr (3, [.ref k0, .ref k1, .ref k2, .int 0, .int 0, .int 0]))] sz) := by
  refine Met.ofW (cc := cX3_addNode) (maxL := 1) (ret := (some .int)) (by decide) rfl ?_
  intro p e s m args below meth c s₁ B hml hv
  obtain ⟨rfl, hsz, hP, hK, hD0, hN⟩ := hv
  have hx := B.exec
  have hb := B.bytes
  have hr := B.returns
  have hts : ∀ w ∈ xW, w.before _ s = true := fun w h => atoms_spec (ws := xw yX3_addNode cX3_addNode 1 (some .int)) B.pre w (List.mem_cons_of_mem _ h)
  have hown : s.vm.findClass RX3 = some m.cls := findClass_of_methodNamed B.named
  have hlocks := B.notSynchronized
  subst hsz
  have hD := hD0.self (sz := s.heap.size)
  clear hD0
  generalize hAe : va_A [(h0, .inr (3, [.ref k0, .ref k1, .ref k2, .int 0, .int 0, .int 0]))] s.heap.size = A at hD ⊢
  have hA : ∀ q : Nat, s.heap.size ≤ q → A q := fun q h => by rw [← hAe]; exact Or.inr h
  clear hAe
  have hS : va_S A s.heap s.heap [] := va_S.rf
  replace hP : va_P G vwCl [(h0, .inr (3, [.ref k0, .ref k1, .ref k2, .int 0, .int 0, .int 0]))] s.heap := hP
  have hl := lv_entry ([.ref h0]) (n := 1) (Nat.le_of_ble_eq_true rfl)
  rw [lg_entry_eq]
  generalize (lg_sl ([.ref h0]) ++ List.replicate (1 - (lg_sl ([.ref h0])).length) Slot.unset).toArray = ls at hl ⊢
  replace hl : lv_has ls 1 [(0, .ref h0)] := hl
  refine lv_aload_n hx hb dX3_addNode_0 rfl (lv_at hl 0 rfl) ?_
  refine lv_dup hx hb dX3_addNode_1 rfl ?_
  refine va_get (D := G) (ci := 3) (v := .int 0) (C := RX3) (T := TX3) (N := 6) hx hb hts xinX3 hown hK hP 0 rfl rfl 3 (by decide) (hts _ wm_162) (fun _ h9 => h9) rfl dX3_addNode_2 ?_
  refine lv_iconst (v := 1) hx hb dX3_addNode_5 (by decide) ?_
  refine lv_iadd hx hb dX3_addNode_6 ?_
  refine lv_topi (fun w4 ew4 => ?_)
  obtain rfl : w4 = (1 : Int32) := ew4.trans (by decide)
  refine va_put (D := G) (ci := 3) (v := .int 1) (ty := .int) (C := RX3) (T := TX3) (N := 6) hx hb hts xinX3 tyX3 tyX3_ok nmX3 hown hK hP hD hS 0 rfl rfl 3 (by decide) (hts _ wm_162) (fun _ h9 => h9) rfl (by decide +kernel) rfl rfl (Nat.le_of_ble_eq_true rfl) dX3_addNode_7 (fun H locs hP hD hS => ?_)
  replace hP : va_P G vwCl [(h0, .inr (3, [.ref k0, .ref k1, .ref k2, .int 1, .int 0, .int 0]))] H := hP
  replace hD : va_D A [(h0, .inr (3, [.ref k0, .ref k1, .ref k2, .int 1, .int 0, .int 0]))] := hD
  refine lv_aload_n hx hb dX3_addNode_10 rfl (lv_at hl 0 rfl) ?_
  refine va_get (D := G) (ci := 3) (v := .int 1) (C := RX3) (T := TX3) (N := 6) hx hb hts xinX3 hown hK hP 0 rfl rfl 3 (by decide) (hts _ wm_162) (fun _ h9 => h9) rfl dX3_addNode_11 ?_
  refine lv_iconst (v := 1) hx hb dX3_addNode_14 (by decide) ?_
  refine lv_isub hx hb dX3_addNode_15 ?_
  refine lv_topi (fun w5 ew5 => ?_)
  obtain rfl : w5 = (0 : Int32) := ew5.trans (by decide)
  have hP9 : va_P G vwCl [(h0, .inr (3, [.ref k0, .ref k1, .ref k2, .int 1, .int 0, .int 0]))] H := hP.sub [0] rfl
  have hD9 : va_D A [(h0, .inr (3, [.ref k0, .ref k1, .ref k2, .int 1, .int 0, .int 0]))] := hD.sub [0] (by decide) rfl
  refine W.widen (k := 0) (n := 0) (by decide) (by decide) ?_
  exact W.iret (v := 0) hx hb hr (fun t ht hW => ⟨⟨0, (), rfl, rfl, by rw [ht]; exact hP9, hD9⟩, hS.F ht⟩) hS.2.2 dX3_addNode_16
set_option maxHeartbeats 4000000 in
set_option maxRecDepth 100000 in
theorem mX8_node (l : Launch) (G : va_G) (cI cJ cZ : ClassId) (h0 h1 h2 h3 k0 k1 k2 k3 k4 k5 k6 k7 k8 k9 k10 k11 k12 sz : Nat) : Met l yX8_node (xw yX8_node cX8_node 1 (some .int)) ({ frames := 1, cells := 0, slots := 0, locals := 20 }) (xPc G cI cJ cZ [.ref h0] [(h0, .inr (8, [.ref h1, .ref h2, .ref k0, .ref k1, .ref k2, .ref k3, .ref k4, .ref k5, .ref k6, .ref k7, .ref k8, .int 0, .int 0, .int 0, .int 0, .int 0])), (h1, .inr (3, [.ref k9, .ref k10, .ref k11, .int 0, .int 0, .int 0])), (h2, .inr (7, [.ref k12, .ref h3, .int 0])), (h3, aI cI 181 xz)] sz) (va_Qi (fun (r : Int32) (_ : Unit) => r = 0) (fun (_ : Unit) t => xB G (va_A [(h0, .inr (8, [.ref h1, .ref h2, .ref k0, .ref k1, .ref k2, .ref k3, .ref k4, .ref k5, .ref k6, .ref k7, .ref k8, .int 0, .int 0, .int 0, .int 0, .int 0])), (h1, .inr (3, [.ref k9, .ref k10, .ref k11, .int 0, .int 0, .int 0])), (h2, .inr (7, [.ref k12, .ref h3, .int 0])), (h3, aI cI 181 xz)] sz) [(h0, .inr (8, [.ref h1, .ref h2, .ref k0, .ref k1, .ref k2, .ref k3, .ref k4, .ref k5, .ref k6, .ref k7, .ref k8, .int 0, .int 0, .int 0, .int 0, .int 0])), (h1, .inr (3, [.ref k9, .ref k10, .ref k11, .int 1, .int 0, .int 0])), (h2, .inr (7, [.ref k12, .ref h3, .int 1])), (h3, aI cI 181 (upd xz 1 0))] t) (va_A [(h0, .inr (8, [.ref h1, .ref h2, .ref k0, .ref k1, .ref k2, .ref k3, .ref k4, .ref k5, .ref k6, .ref k7, .ref k8, .int 0, .int 0, .int 0, .int 0, .int 0])), (h1, .inr (3, [.ref k9, .ref k10, .ref k11, .int 0, .int 0, .int 0])), (h2, .inr (7, [.ref k12, .ref h3, .int 0])), (h3, aI cI 181 xz)] sz)) 0 0 (va_A [(h0, .inr (8, [.ref h1, .ref h2, .ref k0, .ref k1, .ref k2, .ref k3, .ref k4, .ref k5, .ref k6, .ref k7, .ref k8, .int 0, .int 0, .int 0, .int 0, .int 0])), (h1, .inr (3, [.ref k9, .ref k10, .ref k11, .int 0, .int 0, .int 0])), (h2, .inr (7, [.ref k12, .ref h3, .int 0])), (h3, aI cI 181 xz)] sz) := by
  refine Met.ofW (cc := cX8_node) (maxL := 1) (ret := (some .int)) (by decide) rfl ?_
  intro p e s m args below meth c s₁ B hml hv
  obtain ⟨rfl, hsz, hP, hK, hD0, hN⟩ := hv
  have hx := B.exec
  have hb := B.bytes
  have hr := B.returns
  have hts : ∀ w ∈ xW, w.before _ s = true := fun w h => atoms_spec (ws := xw yX8_node cX8_node 1 (some .int)) B.pre w (List.mem_cons_of_mem _ h)
  have hown : s.vm.findClass RX8 = some m.cls := findClass_of_methodNamed B.named
  have hlocks := B.notSynchronized
  subst hsz
  have hD := hD0.self (sz := s.heap.size)
  clear hD0
  generalize hAe : va_A [(h0, .inr (8, [.ref h1, .ref h2, .ref k0, .ref k1, .ref k2, .ref k3, .ref k4, .ref k5, .ref k6, .ref k7, .ref k8, .int 0, .int 0, .int 0, .int 0, .int 0])), (h1, .inr (3, [.ref k9, .ref k10, .ref k11, .int 0, .int 0, .int 0])), (h2, .inr (7, [.ref k12, .ref h3, .int 0])), (h3, aI cI 181 xz)] s.heap.size = A at hD ⊢
  have hA : ∀ q : Nat, s.heap.size ≤ q → A q := fun q h => by rw [← hAe]; exact Or.inr h
  clear hAe
  have hS : va_S A s.heap s.heap [] := va_S.rf
  replace hP : va_P G vwCl [(h0, .inr (8, [.ref h1, .ref h2, .ref k0, .ref k1, .ref k2, .ref k3, .ref k4, .ref k5, .ref k6, .ref k7, .ref k8, .int 0, .int 0, .int 0, .int 0, .int 0])), (h1, .inr (3, [.ref k9, .ref k10, .ref k11, .int 0, .int 0, .int 0])), (h2, .inr (7, [.ref k12, .ref h3, .int 0])), (h3, aI cI 181 xz)] s.heap := hP
  have hl := lv_entry ([.ref h0]) (n := 1) (Nat.le_of_ble_eq_true rfl)
  rw [lg_entry_eq]
  generalize (lg_sl ([.ref h0]) ++ List.replicate (1 - (lg_sl ([.ref h0])).length) Slot.unset).toArray = ls at hl ⊢
  replace hl : lv_has ls 1 [(0, .ref h0)] := hl
  refine lv_aload_n hx hb dX8_node_0 rfl (lv_at hl 0 rfl) ?_
  refine va_get (D := G) (ci := 8) (v := .ref h1) (C := RX8) (T := TX8) (N := 16) hx hb hts xinX8 hown hK hP 0 rfl rfl 0 (by decide) (hts _ wm_14) (fun _ h9 => h9) rfl dX8_node_1 ?_
  refine va_getN (D := G) (ci := 3) (v := .int 0) (C := RX3) (T := TX3) (N := 6) hx hb hts xinX3 hown hK hP 1 rfl rfl 3 (by decide) (va_Nw.use rfl (hN.1 ("PlaneTests", 81, "PlaneTests$Graph", "nodes", "I", "PlaneTests") (by decide +kernel))) (fun _ h9 => h9) rfl dX8_node_4 ?_
  refine lv_bipush (v := 20) hx hb dX8_node_7 (by decide) ?_
  refine lv_icmp_lt (tgt := 15) hx hb dX8_node_9 (by decide) (fun c1 => ?_) (fun c1 => ?_)
  rotate_left
  · exact absurd c1 (by decide)
  refine lv_aload_n hx hb dX8_node_15 rfl (lv_at hl 0 rfl) ?_
  refine xcv (wr := [(h1, .inr (3, [.ref k9, .ref k10, .ref k11, .int 0, .int 0, .int 0])), (h2, .inr (7, [.ref k12, .ref h3, .int 0])), (h3, aI cI 181 xz)]) (va_runV (As := []) (rest := []) ⟨hx, hb, hml, hown, hts⟩ (mX8_forget l G cI cJ cZ h0 h1 h2 k0 k1 k2 k3 k4 k5 k6 k7 k8 s.heap.size ) (cwV 0 hts (xgoodV wm_152 wm_153 wm_154 wm_155 wm_156) rfl rfl rfl (by decide +kernel) ⟨Nat.le_of_ble_eq_true rfl, Nat.le_of_ble_eq_true rfl⟩) (xPreV (q := (RX8, TX8, 16)) (q0 := 0) hK hN hP hD [0] (by decide) rfl rfl rfl) rfl rfl hl.1 rfl (lv_room (Nat.le_of_ble_eq_true rfl)) dX8_node_16 ⟨Nat.le_of_ble_eq_true rfl, Nat.le_of_ble_eq_true rfl⟩) hP hD hS hA [0] [1, 2, 3] rfl rfl (by decide) (by decide) (fun _ H locs hw hP hD hS => ?_)
  replace hP : va_P G vwCl [(h1, .inr (3, [.ref k9, .ref k10, .ref k11, .int 0, .int 0, .int 0])), (h2, .inr (7, [.ref k12, .ref h3, .int 0])), (h3, aI cI 181 xz), (h0, .inr (8, [.ref h1, .ref h2, .ref k0, .ref k1, .ref k2, .ref k3, .ref k4, .ref k5, .ref k6, .ref k7, .ref k8, .int 0, .int 0, .int 0, .int 0, .int 0]))] H := hP
  replace hD : va_D A [(h1, .inr (3, [.ref k9, .ref k10, .ref k11, .int 0, .int 0, .int 0])), (h2, .inr (7, [.ref k12, .ref h3, .int 0])), (h3, aI cI 181 xz), (h0, .inr (8, [.ref h1, .ref h2, .ref k0, .ref k1, .ref k2, .ref k3, .ref k4, .ref k5, .ref k6, .ref k7, .ref k8, .int 0, .int 0, .int 0, .int 0, .int 0]))] := hD
  refine lv_aload_n hx hb dX8_node_19 rfl (lv_at hl 0 rfl) ?_
  refine va_get (D := G) (ci := 8) (v := .ref h2) (C := RX8) (T := TX8) (N := 16) hx hb hts xinX8 hown hK hP 3 rfl rfl 1 (by decide) (hts _ wm_23) (fun _ h9 => h9) rfl dX8_node_20 ?_
  refine xcv (wr := [(h1, .inr (3, [.ref k9, .ref k10, .ref k11, .int 0, .int 0, .int 0])), (h0, .inr (8, [.ref h1, .ref h2, .ref k0, .ref k1, .ref k2, .ref k3, .ref k4, .ref k5, .ref k6, .ref k7, .ref k8, .int 0, .int 0, .int 0, .int 0, .int 0]))]) (va_runV (As := []) (rest := []) ⟨hx, hb, hml, hown, hts⟩ (mX7_open l G cI cJ cZ h2 h3 k12 H.size ) (cwV 0 hts (xgoodV wm_158 wm_159 wm_160 wm_161 wm_17) rfl rfl rfl (by decide +kernel) ⟨Nat.le_of_ble_eq_true rfl, Nat.le_of_ble_eq_true rfl⟩) (xPreV (q := (RX7, TX7, 3)) (q0 := 1) hK hN hP hD [1, 2] (by decide) rfl rfl rfl) rfl rfl hl.1 rfl (lv_room (Nat.le_of_ble_eq_true rfl)) dX8_node_23 ⟨Nat.le_of_ble_eq_true rfl, Nat.le_of_ble_eq_true rfl⟩) hP hD hS hA [1, 2] [0, 3] rfl rfl (by decide) (by decide) (fun _ H locs hw hP hD hS => ?_)
  replace hP : va_P G vwCl [(h1, .inr (3, [.ref k9, .ref k10, .ref k11, .int 0, .int 0, .int 0])), (h0, .inr (8, [.ref h1, .ref h2, .ref k0, .ref k1, .ref k2, .ref k3, .ref k4, .ref k5, .ref k6, .ref k7, .ref k8, .int 0, .int 0, .int 0, .int 0, .int 0])), (h2, .inr (7, [.ref k12, .ref h3, .int 1])), (h3, aI cI 181 (upd xz 1 0))] H := hP
  replace hD : va_D A [(h1, .inr (3, [.ref k9, .ref k10, .ref k11, .int 0, .int 0, .int 0])), (h0, .inr (8, [.ref h1, .ref h2, .ref k0, .ref k1, .ref k2, .ref k3, .ref k4, .ref k5, .ref k6, .ref k7, .ref k8, .int 0, .int 0, .int 0, .int 0, .int 0])), (h2, .inr (7, [.ref k12, .ref h3, .int 1])), (h3, aI cI 181 (upd xz 1 0))] := hD
  refine lv_aload_n hx hb dX8_node_26 rfl (lv_at hl 0 rfl) ?_
  refine va_get (D := G) (ci := 8) (v := .ref h1) (C := RX8) (T := TX8) (N := 16) hx hb hts xinX8 hown hK hP 1 rfl rfl 0 (by decide) (hts _ wm_14) (fun _ h9 => h9) rfl dX8_node_27 ?_
  refine xci (wr := [(h0, .inr (8, [.ref h1, .ref h2, .ref k0, .ref k1, .ref k2, .ref k3, .ref k4, .ref k5, .ref k6, .ref k7, .ref k8, .int 0, .int 0, .int 0, .int 0, .int 0])), (h2, .inr (7, [.ref k12, .ref h3, .int 1])), (h3, aI cI 181 (upd xz 1 0))]) (va_runV (As := []) (rest := []) ⟨hx, hb, hml, hown, hts⟩ (mX3_addNode l G cI cJ cZ h1 k9 k10 k11 H.size ) (cwV 0 hts (xgoodV wm_163 wm_164 wm_165 wm_166 wm_5) rfl rfl rfl (by decide +kernel) ⟨Nat.le_of_ble_eq_true rfl, Nat.le_of_ble_eq_true rfl⟩) (xPreV (q := (RX3, TX3, 6)) (q0 := 0) hK hN hP hD [0] (by decide) rfl rfl rfl) rfl rfl hl.1 rfl (lv_room (Nat.le_of_ble_eq_true rfl)) dX8_node_30 ⟨Nat.le_of_ble_eq_true rfl, Nat.le_of_ble_eq_true rfl⟩) hP hD hS hA [0] [1, 2, 3] rfl rfl (by decide) (by decide) (fun r14 _ H locs hw hP hD hS => ?_)
  replace hP : va_P G vwCl [(h0, .inr (8, [.ref h1, .ref h2, .ref k0, .ref k1, .ref k2, .ref k3, .ref k4, .ref k5, .ref k6, .ref k7, .ref k8, .int 0, .int 0, .int 0, .int 0, .int 0])), (h2, .inr (7, [.ref k12, .ref h3, .int 1])), (h3, aI cI 181 (upd xz 1 0)), (h1, .inr (3, [.ref k9, .ref k10, .ref k11, .int 1, .int 0, .int 0]))] H := hP
  replace hD : va_D A [(h0, .inr (8, [.ref h1, .ref h2, .ref k0, .ref k1, .ref k2, .ref k3, .ref k4, .ref k5, .ref k6, .ref k7, .ref k8, .int 0, .int 0, .int 0, .int 0, .int 0])), (h2, .inr (7, [.ref k12, .ref h3, .int 1])), (h3, aI cI 181 (upd xz 1 0)), (h1, .inr (3, [.ref k9, .ref k10, .ref k11, .int 1, .int 0, .int 0]))] := hD
  obtain rfl : r14 = (0 : Int32) := hw
  have hP9 : va_P G vwCl [(h0, .inr (8, [.ref h1, .ref h2, .ref k0, .ref k1, .ref k2, .ref k3, .ref k4, .ref k5, .ref k6, .ref k7, .ref k8, .int 0, .int 0, .int 0, .int 0, .int 0])), (h1, .inr (3, [.ref k9, .ref k10, .ref k11, .int 1, .int 0, .int 0])), (h2, .inr (7, [.ref k12, .ref h3, .int 1])), (h3, aI cI 181 (upd xz 1 0))] H := hP.sub [0, 3, 1, 2] rfl
  have hD9 : va_D A [(h0, .inr (8, [.ref h1, .ref h2, .ref k0, .ref k1, .ref k2, .ref k3, .ref k4, .ref k5, .ref k6, .ref k7, .ref k8, .int 0, .int 0, .int 0, .int 0, .int 0])), (h1, .inr (3, [.ref k9, .ref k10, .ref k11, .int 1, .int 0, .int 0])), (h2, .inr (7, [.ref k12, .ref h3, .int 1])), (h3, aI cI 181 (upd xz 1 0))] := hD.sub [0, 3, 1, 2] (by decide) rfl
  refine W.widen (k := 0) (n := 0) (by decide) (by decide) ?_
  exact W.iret (v := 0) hx hb hr (fun t ht hW => ⟨⟨0, (), rfl, rfl, by rw [ht]; exact hP9, hD9⟩, hS.F ht⟩) hS.2.2 dX8_node_33
set_option maxHeartbeats 4000000 in
set_option maxRecDepth 100000 in
theorem mX9_node (l : Launch) (G : va_G) (cI cJ cZ : ClassId) (h0 h1 k0 k1 k2 k3 k4 k5 k6 k7 k8 k9 k10 k11 k12 k13 k14 k15 k16 k17 k18 k19 k20 k21 k22 k23 k24 k25 k26 k27 k28 k29 k30 k31 k32 k33 k34 k35 k36 k37 k38 sz : Nat) : Met l yX9_node (xw yX9_node cX9_node 1 (some .int)) ({ frames := 0, cells := 0, slots := 0, locals := 0 }) (xPc G cI cJ cZ [.ref h0] [(h0, .inr (9, [.int 0, .int 0, .ref k0, .ref k1, .ref k2, .ref k3, .ref h1, .int 0, .ref k4, .int 0, .ref k5, .ref k6, .ref k7, .int 0, .ref k8, .ref k9, .int 0, .ref k10, .ref k11, .ref k12, .int 0, .ref k13, .int 0, .ref k14, .ref k15, .int 0, .int 0, .int 0, .ref k16, .int 0, .ref k17, .ref k18, .ref k19, .ref k20, .ref k21, .ref k22, .ref k23, .ref k24, .ref k25, .ref k26, .ref k27, .ref k28, .ref k29, .ref k30, .ref k31, .int 0, .int 0, .int 0, .int 0, .int 0, .ref k32, .ref k33, .ref k34, .ref k35, .ref k36, .ref k37, .int 0, .ref k38])), (h1, aI cI 20 xz)] sz) (va_Qi (fun (r : Int32) (_ : Unit) => r = 0) (fun (_ : Unit) t => xB G (va_A [(h0, .inr (9, [.int 0, .int 0, .ref k0, .ref k1, .ref k2, .ref k3, .ref h1, .int 0, .ref k4, .int 0, .ref k5, .ref k6, .ref k7, .int 0, .ref k8, .ref k9, .int 0, .ref k10, .ref k11, .ref k12, .int 0, .ref k13, .int 0, .ref k14, .ref k15, .int 0, .int 0, .int 0, .ref k16, .int 0, .ref k17, .ref k18, .ref k19, .ref k20, .ref k21, .ref k22, .ref k23, .ref k24, .ref k25, .ref k26, .ref k27, .ref k28, .ref k29, .ref k30, .ref k31, .int 0, .int 0, .int 0, .int 0, .int 0, .ref k32, .ref k33, .ref k34, .ref k35, .ref k36, .ref k37, .int 0, .ref k38])), (h1, aI cI 20 xz)] sz) [(h0, .inr (9, [.int 1, .int 0, .ref k0, .ref k1, .ref k2, .ref k3, .ref h1, .int 0, .ref k4, .int 0, .ref k5, .ref k6, .ref k7, .int 0, .ref k8, .ref k9, .int 0, .ref k10, .ref k11, .ref k12, .int 0, .ref k13, .int 0, .ref k14, .ref k15, .int 0, .int 0, .int 0, .ref k16, .int 0, .ref k17, .ref k18, .ref k19, .ref k20, .ref k21, .ref k22, .ref k23, .ref k24, .ref k25, .ref k26, .ref k27, .ref k28, .ref k29, .ref k30, .ref k31, .int 0, .int 0, .int 0, .int 0, .int 0, .ref k32, .ref k33, .ref k34, .ref k35, .ref k36, .ref k37, .int 0, .ref k38])), (h1, aI cI 20 (upd xz 0 0))] t) (va_A [(h0, .inr (9, [.int 0, .int 0, .ref k0, .ref k1, .ref k2, .ref k3, .ref h1, .int 0, .ref k4, .int 0, .ref k5, .ref k6, .ref k7, .int 0, .ref k8, .ref k9, .int 0, .ref k10, .ref k11, .ref k12, .int 0, .ref k13, .int 0, .ref k14, .ref k15, .int 0, .int 0, .int 0, .ref k16, .int 0, .ref k17, .ref k18, .ref k19, .ref k20, .ref k21, .ref k22, .ref k23, .ref k24, .ref k25, .ref k26, .ref k27, .ref k28, .ref k29, .ref k30, .ref k31, .int 0, .int 0, .int 0, .int 0, .int 0, .ref k32, .ref k33, .ref k34, .ref k35, .ref k36, .ref k37, .int 0, .ref k38])), (h1, aI cI 20 xz)] sz)) 0 0 (va_A [(h0, .inr (9, [.int 0, .int 0, .ref k0, .ref k1, .ref k2, .ref k3, .ref h1, .int 0, .ref k4, .int 0, .ref k5, .ref k6, .ref k7, .int 0, .ref k8, .ref k9, .int 0, .ref k10, .ref k11, .ref k12, .int 0, .ref k13, .int 0, .ref k14, .ref k15, .int 0, .int 0, .int 0, .ref k16, .int 0, .ref k17, .ref k18, .ref k19, .ref k20, .ref k21, .ref k22, .ref k23, .ref k24, .ref k25, .ref k26, .ref k27, .ref k28, .ref k29, .ref k30, .ref k31, .int 0, .int 0, .int 0, .int 0, .int 0, .ref k32, .ref k33, .ref k34, .ref k35, .ref k36, .ref k37, .int 0, .ref k38])), (h1, aI cI 20 xz)] sz) := by
  refine Met.ofW (cc := cX9_node) (maxL := 1) (ret := (some .int)) (by decide) rfl ?_
  intro p e s m args below meth c s₁ B hml hv
  obtain ⟨rfl, hsz, hP, hK, hD0, hN⟩ := hv
  have hx := B.exec
  have hb := B.bytes
  have hr := B.returns
  have hts : ∀ w ∈ xW, w.before _ s = true := fun w h => atoms_spec (ws := xw yX9_node cX9_node 1 (some .int)) B.pre w (List.mem_cons_of_mem _ h)
  have hown : s.vm.findClass RX9 = some m.cls := findClass_of_methodNamed B.named
  have hlocks := B.notSynchronized
  subst hsz
  have hD := hD0.self (sz := s.heap.size)
  clear hD0
  generalize hAe : va_A [(h0, .inr (9, [.int 0, .int 0, .ref k0, .ref k1, .ref k2, .ref k3, .ref h1, .int 0, .ref k4, .int 0, .ref k5, .ref k6, .ref k7, .int 0, .ref k8, .ref k9, .int 0, .ref k10, .ref k11, .ref k12, .int 0, .ref k13, .int 0, .ref k14, .ref k15, .int 0, .int 0, .int 0, .ref k16, .int 0, .ref k17, .ref k18, .ref k19, .ref k20, .ref k21, .ref k22, .ref k23, .ref k24, .ref k25, .ref k26, .ref k27, .ref k28, .ref k29, .ref k30, .ref k31, .int 0, .int 0, .int 0, .int 0, .int 0, .ref k32, .ref k33, .ref k34, .ref k35, .ref k36, .ref k37, .int 0, .ref k38])), (h1, aI cI 20 xz)] s.heap.size = A at hD ⊢
  have hA : ∀ q : Nat, s.heap.size ≤ q → A q := fun q h => by rw [← hAe]; exact Or.inr h
  clear hAe
  have hS : va_S A s.heap s.heap [] := va_S.rf
  replace hP : va_P G vwCl [(h0, .inr (9, [.int 0, .int 0, .ref k0, .ref k1, .ref k2, .ref k3, .ref h1, .int 0, .ref k4, .int 0, .ref k5, .ref k6, .ref k7, .int 0, .ref k8, .ref k9, .int 0, .ref k10, .ref k11, .ref k12, .int 0, .ref k13, .int 0, .ref k14, .ref k15, .int 0, .int 0, .int 0, .ref k16, .int 0, .ref k17, .ref k18, .ref k19, .ref k20, .ref k21, .ref k22, .ref k23, .ref k24, .ref k25, .ref k26, .ref k27, .ref k28, .ref k29, .ref k30, .ref k31, .int 0, .int 0, .int 0, .int 0, .int 0, .ref k32, .ref k33, .ref k34, .ref k35, .ref k36, .ref k37, .int 0, .ref k38])), (h1, aI cI 20 xz)] s.heap := hP
  have hl := lv_entry ([.ref h0]) (n := 1) (Nat.le_of_ble_eq_true rfl)
  rw [lg_entry_eq]
  generalize (lg_sl ([.ref h0]) ++ List.replicate (1 - (lg_sl ([.ref h0])).length) Slot.unset).toArray = ls at hl ⊢
  replace hl : lv_has ls 1 [(0, .ref h0)] := hl
  refine lv_aload_n hx hb dX9_node_0 rfl (lv_at hl 0 rfl) ?_
  refine va_get (D := G) (ci := 9) (v := .int 0) (C := RX9) (T := TX9) (N := 58) hx hb hts xinX9 hown hK hP 0 rfl rfl 0 (by decide) (hts _ wm_167) (fun _ h9 => h9) rfl dX9_node_1 ?_
  refine lv_bipush (v := 20) hx hb dX9_node_4 (by decide) ?_
  refine lv_icmp_ne (tgt := 12) hx hb dX9_node_6 (by decide) (fun c3 => ?_) (fun c3 => ?_)
  rotate_left
  · exact absurd c3 (by decide)
  refine lv_aload_n hx hb dX9_node_12 rfl (lv_at hl 0 rfl) ?_
  refine va_get (D := G) (ci := 9) (v := .ref h1) (C := RX9) (T := TX9) (N := 58) hx hb hts xinX9 hown hK hP 0 rfl rfl 6 (by decide) (hts _ wm_112) (fun _ h9 => h9) rfl dX9_node_13 ?_
  refine lv_aload_n hx hb dX9_node_16 rfl (lv_at hl 0 rfl) ?_
  refine va_get (D := G) (ci := 9) (v := .int 0) (C := RX9) (T := TX9) (N := 58) hx hb hts xinX9 hown hK hP 0 rfl rfl 0 (by decide) (hts _ wm_167) (fun _ h9 => h9) rfl dX9_node_17 ?_
  refine lv_iconst (v := 0) hx hb dX9_node_20 (by decide) ?_
  refine va_iast hx hb hK hP hD hS 1 0 rfl rfl (by unfold vp_in; decide) dX9_node_21 (fun H locs hP hD hS => ?_)
  replace hP : va_P G vwCl [(h0, .inr (9, [.int 0, .int 0, .ref k0, .ref k1, .ref k2, .ref k3, .ref h1, .int 0, .ref k4, .int 0, .ref k5, .ref k6, .ref k7, .int 0, .ref k8, .ref k9, .int 0, .ref k10, .ref k11, .ref k12, .int 0, .ref k13, .int 0, .ref k14, .ref k15, .int 0, .int 0, .int 0, .ref k16, .int 0, .ref k17, .ref k18, .ref k19, .ref k20, .ref k21, .ref k22, .ref k23, .ref k24, .ref k25, .ref k26, .ref k27, .ref k28, .ref k29, .ref k30, .ref k31, .int 0, .int 0, .int 0, .int 0, .int 0, .ref k32, .ref k33, .ref k34, .ref k35, .ref k36, .ref k37, .int 0, .ref k38])), (h1, aI cI 20 (upd xz 0 0))] H := hP
  replace hD : va_D A [(h0, .inr (9, [.int 0, .int 0, .ref k0, .ref k1, .ref k2, .ref k3, .ref h1, .int 0, .ref k4, .int 0, .ref k5, .ref k6, .ref k7, .int 0, .ref k8, .ref k9, .int 0, .ref k10, .ref k11, .ref k12, .int 0, .ref k13, .int 0, .ref k14, .ref k15, .int 0, .int 0, .int 0, .ref k16, .int 0, .ref k17, .ref k18, .ref k19, .ref k20, .ref k21, .ref k22, .ref k23, .ref k24, .ref k25, .ref k26, .ref k27, .ref k28, .ref k29, .ref k30, .ref k31, .int 0, .int 0, .int 0, .int 0, .int 0, .ref k32, .ref k33, .ref k34, .ref k35, .ref k36, .ref k37, .int 0, .ref k38])), (h1, aI cI 20 (upd xz 0 0))] := hD
  refine lv_aload_n hx hb dX9_node_22 rfl (lv_at hl 0 rfl) ?_
  refine lv_dup hx hb dX9_node_23 rfl ?_
  refine va_get (D := G) (ci := 9) (v := .int 0) (C := RX9) (T := TX9) (N := 58) hx hb hts xinX9 hown hK hP 0 rfl rfl 0 (by decide) (hts _ wm_167) (fun _ h9 => h9) rfl dX9_node_24 ?_
  refine lv_iconst (v := 1) hx hb dX9_node_27 (by decide) ?_
  refine lv_iadd hx hb dX9_node_28 ?_
  refine lv_topi (fun w6 ew6 => ?_)
  obtain rfl : w6 = (1 : Int32) := ew6.trans (by decide)
  refine va_put (D := G) (ci := 9) (v := .int 1) (ty := .int) (C := RX9) (T := TX9) (N := 58) hx hb hts xinX9 tyX9 tyX9_ok nmX9 hown hK hP hD hS 0 rfl rfl 0 (by decide) (hts _ wm_167) (fun _ h9 => h9) rfl (by decide +kernel) rfl rfl (Nat.le_of_ble_eq_true rfl) dX9_node_29 (fun H locs hP hD hS => ?_)
  replace hP : va_P G vwCl [(h0, .inr (9, [.int 1, .int 0, .ref k0, .ref k1, .ref k2, .ref k3, .ref h1, .int 0, .ref k4, .int 0, .ref k5, .ref k6, .ref k7, .int 0, .ref k8, .ref k9, .int 0, .ref k10, .ref k11, .ref k12, .int 0, .ref k13, .int 0, .ref k14, .ref k15, .int 0, .int 0, .int 0, .ref k16, .int 0, .ref k17, .ref k18, .ref k19, .ref k20, .ref k21, .ref k22, .ref k23, .ref k24, .ref k25, .ref k26, .ref k27, .ref k28, .ref k29, .ref k30, .ref k31, .int 0, .int 0, .int 0, .int 0, .int 0, .ref k32, .ref k33, .ref k34, .ref k35, .ref k36, .ref k37, .int 0, .ref k38])), (h1, aI cI 20 (upd xz 0 0))] H := hP
  replace hD : va_D A [(h0, .inr (9, [.int 1, .int 0, .ref k0, .ref k1, .ref k2, .ref k3, .ref h1, .int 0, .ref k4, .int 0, .ref k5, .ref k6, .ref k7, .int 0, .ref k8, .ref k9, .int 0, .ref k10, .ref k11, .ref k12, .int 0, .ref k13, .int 0, .ref k14, .ref k15, .int 0, .int 0, .int 0, .ref k16, .int 0, .ref k17, .ref k18, .ref k19, .ref k20, .ref k21, .ref k22, .ref k23, .ref k24, .ref k25, .ref k26, .ref k27, .ref k28, .ref k29, .ref k30, .ref k31, .int 0, .int 0, .int 0, .int 0, .int 0, .ref k32, .ref k33, .ref k34, .ref k35, .ref k36, .ref k37, .int 0, .ref k38])), (h1, aI cI 20 (upd xz 0 0))] := hD
  refine lv_aload_n hx hb dX9_node_32 rfl (lv_at hl 0 rfl) ?_
  refine lv_iconst (v := 0) hx hb dX9_node_33 (by decide) ?_
  refine va_put (D := G) (ci := 9) (v := .int 0) (ty := .boolean) (C := RX9) (T := TX9) (N := 58) hx hb hts xinX9 tyX9 tyX9_ok nmX9 hown hK hP hD hS 0 rfl rfl 7 (by decide) (hts _ wm_168) (fun _ h9 => h9) rfl (by decide +kernel) rfl rfl (Nat.le_of_ble_eq_true rfl) dX9_node_34 (fun H locs hP hD hS => ?_)
  replace hP : va_P G vwCl [(h0, .inr (9, [.int 1, .int 0, .ref k0, .ref k1, .ref k2, .ref k3, .ref h1, .int 0, .ref k4, .int 0, .ref k5, .ref k6, .ref k7, .int 0, .ref k8, .ref k9, .int 0, .ref k10, .ref k11, .ref k12, .int 0, .ref k13, .int 0, .ref k14, .ref k15, .int 0, .int 0, .int 0, .ref k16, .int 0, .ref k17, .ref k18, .ref k19, .ref k20, .ref k21, .ref k22, .ref k23, .ref k24, .ref k25, .ref k26, .ref k27, .ref k28, .ref k29, .ref k30, .ref k31, .int 0, .int 0, .int 0, .int 0, .int 0, .ref k32, .ref k33, .ref k34, .ref k35, .ref k36, .ref k37, .int 0, .ref k38])), (h1, aI cI 20 (upd xz 0 0))] H := hP
  replace hD : va_D A [(h0, .inr (9, [.int 1, .int 0, .ref k0, .ref k1, .ref k2, .ref k3, .ref h1, .int 0, .ref k4, .int 0, .ref k5, .ref k6, .ref k7, .int 0, .ref k8, .ref k9, .int 0, .ref k10, .ref k11, .ref k12, .int 0, .ref k13, .int 0, .ref k14, .ref k15, .int 0, .int 0, .int 0, .ref k16, .int 0, .ref k17, .ref k18, .ref k19, .ref k20, .ref k21, .ref k22, .ref k23, .ref k24, .ref k25, .ref k26, .ref k27, .ref k28, .ref k29, .ref k30, .ref k31, .int 0, .int 0, .int 0, .int 0, .int 0, .ref k32, .ref k33, .ref k34, .ref k35, .ref k36, .ref k37, .int 0, .ref k38])), (h1, aI cI 20 (upd xz 0 0))] := hD
  refine lv_aload_n hx hb dX9_node_37 rfl (lv_at hl 0 rfl) ?_
  refine va_get (D := G) (ci := 9) (v := .int 1) (C := RX9) (T := TX9) (N := 58) hx hb hts xinX9 hown hK hP 0 rfl rfl 0 (by decide) (hts _ wm_167) (fun _ h9 => h9) rfl dX9_node_38 ?_
  refine lv_iconst (v := 1) hx hb dX9_node_41 (by decide) ?_
  refine lv_isub hx hb dX9_node_42 ?_
  refine lv_topi (fun w7 ew7 => ?_)
  obtain rfl : w7 = (0 : Int32) := ew7.trans (by decide)
  have hP9 : va_P G vwCl [(h0, .inr (9, [.int 1, .int 0, .ref k0, .ref k1, .ref k2, .ref k3, .ref h1, .int 0, .ref k4, .int 0, .ref k5, .ref k6, .ref k7, .int 0, .ref k8, .ref k9, .int 0, .ref k10, .ref k11, .ref k12, .int 0, .ref k13, .int 0, .ref k14, .ref k15, .int 0, .int 0, .int 0, .ref k16, .int 0, .ref k17, .ref k18, .ref k19, .ref k20, .ref k21, .ref k22, .ref k23, .ref k24, .ref k25, .ref k26, .ref k27, .ref k28, .ref k29, .ref k30, .ref k31, .int 0, .int 0, .int 0, .int 0, .int 0, .ref k32, .ref k33, .ref k34, .ref k35, .ref k36, .ref k37, .int 0, .ref k38])), (h1, aI cI 20 (upd xz 0 0))] H := hP.sub [0, 1] rfl
  have hD9 : va_D A [(h0, .inr (9, [.int 1, .int 0, .ref k0, .ref k1, .ref k2, .ref k3, .ref h1, .int 0, .ref k4, .int 0, .ref k5, .ref k6, .ref k7, .int 0, .ref k8, .ref k9, .int 0, .ref k10, .ref k11, .ref k12, .int 0, .ref k13, .int 0, .ref k14, .ref k15, .int 0, .int 0, .int 0, .ref k16, .int 0, .ref k17, .ref k18, .ref k19, .ref k20, .ref k21, .ref k22, .ref k23, .ref k24, .ref k25, .ref k26, .ref k27, .ref k28, .ref k29, .ref k30, .ref k31, .int 0, .int 0, .int 0, .int 0, .int 0, .ref k32, .ref k33, .ref k34, .ref k35, .ref k36, .ref k37, .int 0, .ref k38])), (h1, aI cI 20 (upd xz 0 0))] := hD.sub [0, 1] (by decide) rfl
  refine W.widen (k := 0) (n := 0) (by decide) (by decide) ?_
  exact W.iret (v := 0) hx hb hr (fun t ht hW => ⟨⟨0, (), rfl, rfl, by rw [ht]; exact hP9, hD9⟩, hS.F ht⟩) hS.2.2 dX9_node_43
set_option maxHeartbeats 4000000 in
set_option maxRecDepth 100000 in
theorem mX3_hasNode (l : Launch) (G : va_G) (cI cJ cZ : ClassId) (h0 k0 k1 k2 sz : Nat) (p0 : Int32) : Met l yX3_hasNode (xw yX3_hasNode cX3_hasNode 2 (some .boolean)) ({ frames := 0, cells := 0, slots := 0, locals := 0 }) (xPc G cI cJ cZ [.ref h0, .int p0] [(h0, .inr (3, [.ref k0, .ref k1, .ref k2, .int 0, .int 0, .int 0]))] sz) (va_Qi (fun (r : Int32) (_ : Unit) => r = 0) (fun (_ : Unit) t => xB G (va_A [(h0, .inr (3, [.ref k0, .ref k1, .ref k2, .int 0, .int 0, .int 0]))] sz) [(h0, .inr (3, [.ref k0, .ref k1, .ref k2, .int 0, .int 0, .int 0]))] t) (va_A [(h0, .inr (3, [.ref k0, .ref k1, .ref k2, .int 0, .int 0, .int 0]))] sz)) 0 0 (va_A [(h0, .inr (3, [.ref k0, .ref k1, .ref k2, .int 0, .int 0, .int 0]))] sz) := by
  refine Met.ofW (cc := cX3_hasNode) (maxL := 2) (ret := (some .boolean)) (by decide) rfl ?_
  intro p e s m args below meth c s₁ B hml hv
  obtain ⟨rfl, hsz, hP, hK, hD0, hN⟩ := hv
  have hx := B.exec
  have hb := B.bytes
  have hr := B.returns
  have hts : ∀ w ∈ xW, w.before _ s = true := fun w h => atoms_spec (ws := xw yX3_hasNode cX3_hasNode 2 (some .boolean)) B.pre w (List.mem_cons_of_mem _ h)
  have hown : s.vm.findClass RX3 = some m.cls := findClass_of_methodNamed B.named
  have hlocks := B.notSynchronized
  subst hsz
  have hD := hD0.self (sz := s.heap.size)
  clear hD0
  generalize hAe : va_A [(h0, .inr (3, [.ref k0, .ref k1, .ref k2, .int 0, .int 0, .int 0]))] s.heap.size = A at hD ⊢
  have hA : ∀ q : Nat, s.heap.size ≤ q → A q := fun q h => by rw [← hAe]; exact Or.inr h
  clear hAe
  have hS : va_S A s.heap s.heap [] := va_S.rf
  replace hP : va_P G vwCl [(h0, .inr (3, [.ref k0, .ref k1, .ref k2, .int 0, .int 0, .int 0]))] s.heap := hP
  have hl := lv_entry ([.ref h0, .int p0]) (n := 2) (Nat.le_of_ble_eq_true rfl)
  rw [lg_entry_eq]
  generalize (lg_sl ([.ref h0, .int p0]) ++ List.replicate (2 - (lg_sl ([.ref h0, .int p0])).length) Slot.unset).toArray = ls at hl ⊢
  replace hl : lv_has ls 2 [(0, .ref h0), (1, .int p0)] := hl
  refine lv_iload_n hx hb dX3_hasNode_0 rfl (lv_at hl 1 rfl) ?_
  refine lv_if_lt (tgt := 16) hx hb dX3_hasNode_1 (by decide) (fun c4 => ?_) (fun c4 => ?_)
  · refine lv_iconst (v := 0) hx hb dX3_hasNode_16 (by decide) ?_
    have hP9 : va_P G vwCl [(h0, .inr (3, [.ref k0, .ref k1, .ref k2, .int 0, .int 0, .int 0]))] s.heap := hP.sub [0] rfl
    have hD9 : va_D A [(h0, .inr (3, [.ref k0, .ref k1, .ref k2, .int 0, .int 0, .int 0]))] := hD.sub [0] (by decide) rfl
    refine W.widen (k := 0) (n := 0) (by decide) (by decide) ?_
    exact W.zret (v := 0) hx hb hr rfl (fun t ht hW => ⟨⟨0, (), rfl, rfl, by rw [ht]; exact hP9, hD9⟩, hS.F ht⟩) hS.2.2 dX3_hasNode_17
  · refine lv_iload_n hx hb dX3_hasNode_4 rfl (lv_at hl 1 rfl) ?_
    refine lv_aload_n hx hb dX3_hasNode_5 rfl (lv_at hl 0 rfl) ?_
    refine va_get (D := G) (ci := 3) (v := .int 0) (C := RX3) (T := TX3) (N := 6) hx hb hts xinX3 hown hK hP 0 rfl rfl 3 (by decide) (hts _ wm_162) (fun _ h9 => h9) rfl dX3_hasNode_6 ?_
    refine lv_icmp_ge (tgt := 16) hx hb dX3_hasNode_9 (by decide) (fun c5 => ?_) (fun c5 => ?_)
    rotate_left
    · exact absurd (Int32.not_lt.mp c4) c5
    refine lv_iconst (v := 0) hx hb dX3_hasNode_16 (by decide) ?_
    have hP9 : va_P G vwCl [(h0, .inr (3, [.ref k0, .ref k1, .ref k2, .int 0, .int 0, .int 0]))] s.heap := hP.sub [0] rfl
    have hD9 : va_D A [(h0, .inr (3, [.ref k0, .ref k1, .ref k2, .int 0, .int 0, .int 0]))] := hD.sub [0] (by decide) rfl
    refine W.widen (k := 0) (n := 0) (by decide) (by decide) ?_
    exact W.zret (v := 0) hx hb hr rfl (fun t ht hW => ⟨⟨0, (), rfl, rfl, by rw [ht]; exact hP9, hD9⟩, hS.F ht⟩) hS.2.2 dX3_hasNode_17
set_option maxHeartbeats 4000000 in
set_option maxRecDepth 100000 in
theorem mX8_arc (l : Launch) (G : va_G) (cI cJ cZ : ClassId) (h0 h1 k0 k1 k2 k3 k4 k5 k6 k7 k8 k9 k10 k11 k12 sz : Nat) (p0 p1 : Int32) : Met l yX8_arc (xw yX8_arc cX8_arc 4 (some .int)) ({ frames := 1, cells := 0, slots := 0, locals := 21 }) (xPc G cI cJ cZ [.ref h0, .int p0, .int p1] [(h0, .inr (8, [.ref h1, .ref k0, .ref k1, .ref k2, .ref k3, .ref k4, .ref k5, .ref k6, .ref k7, .ref k8, .ref k9, .int 0, .int 0, .int 0, .int 0, .int 0])), (h1, .inr (3, [.ref k10, .ref k11, .ref k12, .int 0, .int 0, .int 0]))] sz) (va_Qi (fun (r : Int32) (_ : Unit) => r = (-1)) (fun (_ : Unit) t => xB G (va_A [(h0, .inr (8, [.ref h1, .ref k0, .ref k1, .ref k2, .ref k3, .ref k4, .ref k5, .ref k6, .ref k7, .ref k8, .ref k9, .int 0, .int 0, .int 0, .int 0, .int 0])), (h1, .inr (3, [.ref k10, .ref k11, .ref k12, .int 0, .int 0, .int 0]))] sz) [(h0, .inr (8, [.ref h1, .ref k0, .ref k1, .ref k2, .ref k3, .ref k4, .ref k5, .ref k6, .ref k7, .ref k8, .ref k9, .int 0, .int 0, .int 0, .int 0, .int 0])), (h1, .inr (3, [.ref k10, .ref k11, .ref k12, .int 0, .int 0, .int 0]))] t) (va_A [(h0, .inr (8, [.ref h1, .ref k0, .ref k1, .ref k2, .ref k3, .ref k4, .ref k5, .ref k6, .ref k7, .ref k8, .ref k9, .int 0, .int 0, .int 0, .int 0, .int 0])), (h1, .inr (3, [.ref k10, .ref k11, .ref k12, .int 0, .int 0, .int 0]))] sz)) 0 0 (va_A [(h0, .inr (8, [.ref h1, .ref k0, .ref k1, .ref k2, .ref k3, .ref k4, .ref k5, .ref k6, .ref k7, .ref k8, .ref k9, .int 0, .int 0, .int 0, .int 0, .int 0])), (h1, .inr (3, [.ref k10, .ref k11, .ref k12, .int 0, .int 0, .int 0]))] sz) := by
  refine Met.ofW (cc := cX8_arc) (maxL := 4) (ret := (some .int)) (by decide) rfl ?_
  intro p e s m args below meth c s₁ B hml hv
  obtain ⟨rfl, hsz, hP, hK, hD0, hN⟩ := hv
  have hx := B.exec
  have hb := B.bytes
  have hr := B.returns
  have hts : ∀ w ∈ xW, w.before _ s = true := fun w h => atoms_spec (ws := xw yX8_arc cX8_arc 4 (some .int)) B.pre w (List.mem_cons_of_mem _ h)
  have hown : s.vm.findClass RX8 = some m.cls := findClass_of_methodNamed B.named
  have hlocks := B.notSynchronized
  subst hsz
  have hD := hD0.self (sz := s.heap.size)
  clear hD0
  generalize hAe : va_A [(h0, .inr (8, [.ref h1, .ref k0, .ref k1, .ref k2, .ref k3, .ref k4, .ref k5, .ref k6, .ref k7, .ref k8, .ref k9, .int 0, .int 0, .int 0, .int 0, .int 0])), (h1, .inr (3, [.ref k10, .ref k11, .ref k12, .int 0, .int 0, .int 0]))] s.heap.size = A at hD ⊢
  have hA : ∀ q : Nat, s.heap.size ≤ q → A q := fun q h => by rw [← hAe]; exact Or.inr h
  clear hAe
  have hS : va_S A s.heap s.heap [] := va_S.rf
  replace hP : va_P G vwCl [(h0, .inr (8, [.ref h1, .ref k0, .ref k1, .ref k2, .ref k3, .ref k4, .ref k5, .ref k6, .ref k7, .ref k8, .ref k9, .int 0, .int 0, .int 0, .int 0, .int 0])), (h1, .inr (3, [.ref k10, .ref k11, .ref k12, .int 0, .int 0, .int 0]))] s.heap := hP
  have hl := lv_entry ([.ref h0, .int p0, .int p1]) (n := 4) (Nat.le_of_ble_eq_true rfl)
  rw [lg_entry_eq]
  generalize (lg_sl ([.ref h0, .int p0, .int p1]) ++ List.replicate (4 - (lg_sl ([.ref h0, .int p0, .int p1])).length) Slot.unset).toArray = ls at hl ⊢
  replace hl : lv_has ls 4 [(0, .ref h0), (1, .int p0), (2, .int p1)] := hl
  refine lv_aload_n hx hb dX8_arc_0 rfl (lv_at hl 0 rfl) ?_
  refine va_get (D := G) (ci := 8) (v := .ref h1) (C := RX8) (T := TX8) (N := 16) hx hb hts xinX8 hown hK hP 0 rfl rfl 0 (by decide) (hts _ wm_14) (fun _ h9 => h9) rfl dX8_arc_1 ?_
  refine lv_iload_n hx hb dX8_arc_4 rfl (lv_at hl 1 rfl) ?_
  refine xci (wr := [(h0, .inr (8, [.ref h1, .ref k0, .ref k1, .ref k2, .ref k3, .ref k4, .ref k5, .ref k6, .ref k7, .ref k8, .ref k9, .int 0, .int 0, .int 0, .int 0, .int 0]))]) (va_runV (As := [.int p0]) (rest := []) ⟨hx, hb, hml, hown, hts⟩ (mX3_hasNode l G cI cJ cZ h1 k10 k11 k12 s.heap.size p0) (cwV 1 hts (xgoodV wm_169 wm_170 wm_171 wm_172 wm_5) rfl rfl rfl (by decide +kernel) ⟨Nat.le_of_ble_eq_true rfl, Nat.le_of_ble_eq_true rfl⟩) (xPreV (q := (RX3, TX3, 6)) (q0 := 1) hK hN hP hD [1] (by decide) rfl rfl rfl) rfl rfl hl.1 rfl (lv_room (Nat.le_of_ble_eq_true rfl)) dX8_arc_5 ⟨Nat.le_of_ble_eq_true rfl, Nat.le_of_ble_eq_true rfl⟩) hP hD hS hA [1] [0] rfl rfl (by decide) (by decide) (fun r15 _ H locs hw hP hD hS => ?_)
  replace hP : va_P G vwCl [(h0, .inr (8, [.ref h1, .ref k0, .ref k1, .ref k2, .ref k3, .ref k4, .ref k5, .ref k6, .ref k7, .ref k8, .ref k9, .int 0, .int 0, .int 0, .int 0, .int 0])), (h1, .inr (3, [.ref k10, .ref k11, .ref k12, .int 0, .int 0, .int 0]))] H := hP
  replace hD : va_D A [(h0, .inr (8, [.ref h1, .ref k0, .ref k1, .ref k2, .ref k3, .ref k4, .ref k5, .ref k6, .ref k7, .ref k8, .ref k9, .int 0, .int 0, .int 0, .int 0, .int 0])), (h1, .inr (3, [.ref k10, .ref k11, .ref k12, .int 0, .int 0, .int 0]))] := hD
  obtain rfl : r15 = (0 : Int32) := hw
  refine lv_if_eq (tgt := 22) hx hb dX8_arc_8 (by decide) (fun c6 => ?_) (fun c6 => ?_)
  rotate_left
  · exact absurd c6 (by decide)
  refine lv_iconst (v := (-1)) hx hb dX8_arc_22 (by decide) ?_
  have hP9 : va_P G vwCl [(h0, .inr (8, [.ref h1, .ref k0, .ref k1, .ref k2, .ref k3, .ref k4, .ref k5, .ref k6, .ref k7, .ref k8, .ref k9, .int 0, .int 0, .int 0, .int 0, .int 0])), (h1, .inr (3, [.ref k10, .ref k11, .ref k12, .int 0, .int 0, .int 0]))] H := hP.sub [0, 1] rfl
  have hD9 : va_D A [(h0, .inr (8, [.ref h1, .ref k0, .ref k1, .ref k2, .ref k3, .ref k4, .ref k5, .ref k6, .ref k7, .ref k8, .ref k9, .int 0, .int 0, .int 0, .int 0, .int 0])), (h1, .inr (3, [.ref k10, .ref k11, .ref k12, .int 0, .int 0, .int 0]))] := hD.sub [0, 1] (by decide) rfl
  refine W.widen (k := 0) (n := 0) (by decide) (by decide) ?_
  exact W.iret (v := (-1)) hx hb hr (fun t ht hW => ⟨⟨(-1), (), rfl, rfl, by rw [ht]; exact hP9, hD9⟩, hS.F ht⟩) hS.2.2 dX8_arc_23
set_option maxHeartbeats 4000000 in
set_option maxRecDepth 100000 in
theorem mX9_isNode (l : Launch) (G : va_G) (cI cJ cZ : ClassId) (h0 k0 k1 k2 k3 k4 k5 k6 k7 k8 k9 k10 k11 k12 k13 k14 k15 k16 k17 k18 k19 k20 k21 k22 k23 k24 k25 k26 k27 k28 k29 k30 k31 k32 k33 k34 k35 k36 k37 k38 k39 sz : Nat) (p0 : Int32) : Met l yX9_isNode (xw yX9_isNode cX9_isNode 2 (some .boolean)) ({ frames := 0, cells := 0, slots := 0, locals := 0 }) (xPc G cI cJ cZ [.ref h0, .int p0] [(h0, .inr (9, [.int 0, .int 0, .ref k0, .ref k1, .ref k2, .ref k3, .ref k4, .int 0, .ref k5, .int 0, .ref k6, .ref k7, .ref k8, .int 0, .ref k9, .ref k10, .int 0, .ref k11, .ref k12, .ref k13, .int 0, .ref k14, .int 0, .ref k15, .ref k16, .int 0, .int 0, .int 0, .ref k17, .int 0, .ref k18, .ref k19, .ref k20, .ref k21, .ref k22, .ref k23, .ref k24, .ref k25, .ref k26, .ref k27, .ref k28, .ref k29, .ref k30, .ref k31, .ref k32, .int 0, .int 0, .int 0, .int 0, .int 0, .ref k33, .ref k34, .ref k35, .ref k36, .ref k37, .ref k38, .int 0, .ref k39]))] sz) (va_Qi (fun (r : Int32) (_ : Unit) => r = 0) (fun (_ : Unit) t => xB G (va_A [(h0, .inr (9, [.int 0, .int 0, .ref k0, .ref k1, .ref k2, .ref k3, .ref k4, .int 0, .ref k5, .int 0, .ref k6, .ref k7, .ref k8, .int 0, .ref k9, .ref k10, .int 0, .ref k11, .ref k12, .ref k13, .int 0, .ref k14, .int 0, .ref k15, .ref k16, .int 0, .int 0, .int 0, .ref k17, .int 0, .ref k18, .ref k19, .ref k20, .ref k21, .ref k22, .ref k23, .ref k24, .ref k25, .ref k26, .ref k27, .ref k28, .ref k29, .ref k30, .ref k31, .ref k32, .int 0, .int 0, .int 0, .int 0, .int 0, .ref k33, .ref k34, .ref k35, .ref k36, .ref k37, .ref k38, .int 0, .ref k39]))] sz) [(h0, .inr (9, [.int 0, .int 0, .ref k0, .ref k1, .ref k2, .ref k3, .ref k4, .int 0, .ref k5, .int 0, .ref k6, .ref k7, .ref k8, .int 0, .ref k9, .ref k10, .int 0, .ref k11, .ref k12, .ref k13, .int 0, .ref k14, .int 0, .ref k15, .ref k16, .int 0, .int 0, .int 0, .ref k17, .int 0, .ref k18, .ref k19, .ref k20, .ref k21, .ref k22, .ref k23, .ref k24, .ref k25, .ref k26, .ref k27, .ref k28, .ref k29, .ref k30, .ref k31, .ref k32, .int 0, .int 0, .int 0, .int 0, .int 0, .ref k33, .ref k34, .ref k35, .ref k36, .ref k37, .ref k38, .int 0, .ref k39]))] t) (va_A [(h0, .inr (9, [.int 0, .int 0, .ref k0, .ref k1, .ref k2, .ref k3, .ref k4, .int 0, .ref k5, .int 0, .ref k6, .ref k7, .ref k8, .int 0, .ref k9, .ref k10, .int 0, .ref k11, .ref k12, .ref k13, .int 0, .ref k14, .int 0, .ref k15, .ref k16, .int 0, .int 0, .int 0, .ref k17, .int 0, .ref k18, .ref k19, .ref k20, .ref k21, .ref k22, .ref k23, .ref k24, .ref k25, .ref k26, .ref k27, .ref k28, .ref k29, .ref k30, .ref k31, .ref k32, .int 0, .int 0, .int 0, .int 0, .int 0, .ref k33, .ref k34, .ref k35, .ref k36, .ref k37, .ref k38, .int 0, .ref k39]))] sz)) 0 0 (va_A [(h0, .inr (9, [.int 0, .int 0, .ref k0, .ref k1, .ref k2, .ref k3, .ref k4, .int 0, .ref k5, .int 0, .ref k6, .ref k7, .ref k8, .int 0, .ref k9, .ref k10, .int 0, .ref k11, .ref k12, .ref k13, .int 0, .ref k14, .int 0, .ref k15, .ref k16, .int 0, .int 0, .int 0, .ref k17, .int 0, .ref k18, .ref k19, .ref k20, .ref k21, .ref k22, .ref k23, .ref k24, .ref k25, .ref k26, .ref k27, .ref k28, .ref k29, .ref k30, .ref k31, .ref k32, .int 0, .int 0, .int 0, .int 0, .int 0, .ref k33, .ref k34, .ref k35, .ref k36, .ref k37, .ref k38, .int 0, .ref k39]))] sz) := by
  refine Met.ofW (cc := cX9_isNode) (maxL := 2) (ret := (some .boolean)) (by decide) rfl ?_
  intro p e s m args below meth c s₁ B hml hv
  obtain ⟨rfl, hsz, hP, hK, hD0, hN⟩ := hv
  have hx := B.exec
  have hb := B.bytes
  have hr := B.returns
  have hts : ∀ w ∈ xW, w.before _ s = true := fun w h => atoms_spec (ws := xw yX9_isNode cX9_isNode 2 (some .boolean)) B.pre w (List.mem_cons_of_mem _ h)
  have hown : s.vm.findClass RX9 = some m.cls := findClass_of_methodNamed B.named
  have hlocks := B.notSynchronized
  subst hsz
  have hD := hD0.self (sz := s.heap.size)
  clear hD0
  generalize hAe : va_A [(h0, .inr (9, [.int 0, .int 0, .ref k0, .ref k1, .ref k2, .ref k3, .ref k4, .int 0, .ref k5, .int 0, .ref k6, .ref k7, .ref k8, .int 0, .ref k9, .ref k10, .int 0, .ref k11, .ref k12, .ref k13, .int 0, .ref k14, .int 0, .ref k15, .ref k16, .int 0, .int 0, .int 0, .ref k17, .int 0, .ref k18, .ref k19, .ref k20, .ref k21, .ref k22, .ref k23, .ref k24, .ref k25, .ref k26, .ref k27, .ref k28, .ref k29, .ref k30, .ref k31, .ref k32, .int 0, .int 0, .int 0, .int 0, .int 0, .ref k33, .ref k34, .ref k35, .ref k36, .ref k37, .ref k38, .int 0, .ref k39]))] s.heap.size = A at hD ⊢
  have hA : ∀ q : Nat, s.heap.size ≤ q → A q := fun q h => by rw [← hAe]; exact Or.inr h
  clear hAe
  have hS : va_S A s.heap s.heap [] := va_S.rf
  replace hP : va_P G vwCl [(h0, .inr (9, [.int 0, .int 0, .ref k0, .ref k1, .ref k2, .ref k3, .ref k4, .int 0, .ref k5, .int 0, .ref k6, .ref k7, .ref k8, .int 0, .ref k9, .ref k10, .int 0, .ref k11, .ref k12, .ref k13, .int 0, .ref k14, .int 0, .ref k15, .ref k16, .int 0, .int 0, .int 0, .ref k17, .int 0, .ref k18, .ref k19, .ref k20, .ref k21, .ref k22, .ref k23, .ref k24, .ref k25, .ref k26, .ref k27, .ref k28, .ref k29, .ref k30, .ref k31, .ref k32, .int 0, .int 0, .int 0, .int 0, .int 0, .ref k33, .ref k34, .ref k35, .ref k36, .ref k37, .ref k38, .int 0, .ref k39]))] s.heap := hP
  have hl := lv_entry ([.ref h0, .int p0]) (n := 2) (Nat.le_of_ble_eq_true rfl)
  rw [lg_entry_eq]
  generalize (lg_sl ([.ref h0, .int p0]) ++ List.replicate (2 - (lg_sl ([.ref h0, .int p0])).length) Slot.unset).toArray = ls at hl ⊢
  replace hl : lv_has ls 2 [(0, .ref h0), (1, .int p0)] := hl
  refine lv_iload_n hx hb dX9_isNode_0 rfl (lv_at hl 1 rfl) ?_
  refine lv_if_lt (tgt := 16) hx hb dX9_isNode_1 (by decide) (fun c7 => ?_) (fun c7 => ?_)
  · refine lv_iconst (v := 0) hx hb dX9_isNode_16 (by decide) ?_
    have hP9 : va_P G vwCl [(h0, .inr (9, [.int 0, .int 0, .ref k0, .ref k1, .ref k2, .ref k3, .ref k4, .int 0, .ref k5, .int 0, .ref k6, .ref k7, .ref k8, .int 0, .ref k9, .ref k10, .int 0, .ref k11, .ref k12, .ref k13, .int 0, .ref k14, .int 0, .ref k15, .ref k16, .int 0, .int 0, .int 0, .ref k17, .int 0, .ref k18, .ref k19, .ref k20, .ref k21, .ref k22, .ref k23, .ref k24, .ref k25, .ref k26, .ref k27, .ref k28, .ref k29, .ref k30, .ref k31, .ref k32, .int 0, .int 0, .int 0, .int 0, .int 0, .ref k33, .ref k34, .ref k35, .ref k36, .ref k37, .ref k38, .int 0, .ref k39]))] s.heap := hP.sub [0] rfl
    have hD9 : va_D A [(h0, .inr (9, [.int 0, .int 0, .ref k0, .ref k1, .ref k2, .ref k3, .ref k4, .int 0, .ref k5, .int 0, .ref k6, .ref k7, .ref k8, .int 0, .ref k9, .ref k10, .int 0, .ref k11, .ref k12, .ref k13, .int 0, .ref k14, .int 0, .ref k15, .ref k16, .int 0, .int 0, .int 0, .ref k17, .int 0, .ref k18, .ref k19, .ref k20, .ref k21, .ref k22, .ref k23, .ref k24, .ref k25, .ref k26, .ref k27, .ref k28, .ref k29, .ref k30, .ref k31, .ref k32, .int 0, .int 0, .int 0, .int 0, .int 0, .ref k33, .ref k34, .ref k35, .ref k36, .ref k37, .ref k38, .int 0, .ref k39]))] := hD.sub [0] (by decide) rfl
    refine W.widen (k := 0) (n := 0) (by decide) (by decide) ?_
    exact W.zret (v := 0) hx hb hr rfl (fun t ht hW => ⟨⟨0, (), rfl, rfl, by rw [ht]; exact hP9, hD9⟩, hS.F ht⟩) hS.2.2 dX9_isNode_17
  · refine lv_iload_n hx hb dX9_isNode_4 rfl (lv_at hl 1 rfl) ?_
    refine lv_aload_n hx hb dX9_isNode_5 rfl (lv_at hl 0 rfl) ?_
    refine va_get (D := G) (ci := 9) (v := .int 0) (C := RX9) (T := TX9) (N := 58) hx hb hts xinX9 hown hK hP 0 rfl rfl 0 (by decide) (hts _ wm_167) (fun _ h9 => h9) rfl dX9_isNode_6 ?_
    refine lv_icmp_ge (tgt := 16) hx hb dX9_isNode_9 (by decide) (fun c8 => ?_) (fun c8 => ?_)
    rotate_left
    · exact absurd (Int32.not_lt.mp c7) c8
    refine lv_iconst (v := 0) hx hb dX9_isNode_16 (by decide) ?_
    have hP9 : va_P G vwCl [(h0, .inr (9, [.int 0, .int 0, .ref k0, .ref k1, .ref k2, .ref k3, .ref k4, .int 0, .ref k5, .int 0, .ref k6, .ref k7, .ref k8, .int 0, .ref k9, .ref k10, .int 0, .ref k11, .ref k12, .ref k13, .int 0, .ref k14, .int 0, .ref k15, .ref k16, .int 0, .int 0, .int 0, .ref k17, .int 0, .ref k18, .ref k19, .ref k20, .ref k21, .ref k22, .ref k23, .ref k24, .ref k25, .ref k26, .ref k27, .ref k28, .ref k29, .ref k30, .ref k31, .ref k32, .int 0, .int 0, .int 0, .int 0, .int 0, .ref k33, .ref k34, .ref k35, .ref k36, .ref k37, .ref k38, .int 0, .ref k39]))] s.heap := hP.sub [0] rfl
    have hD9 : va_D A [(h0, .inr (9, [.int 0, .int 0, .ref k0, .ref k1, .ref k2, .ref k3, .ref k4, .int 0, .ref k5, .int 0, .ref k6, .ref k7, .ref k8, .int 0, .ref k9, .ref k10, .int 0, .ref k11, .ref k12, .ref k13, .int 0, .ref k14, .int 0, .ref k15, .ref k16, .int 0, .int 0, .int 0, .ref k17, .int 0, .ref k18, .ref k19, .ref k20, .ref k21, .ref k22, .ref k23, .ref k24, .ref k25, .ref k26, .ref k27, .ref k28, .ref k29, .ref k30, .ref k31, .ref k32, .int 0, .int 0, .int 0, .int 0, .int 0, .ref k33, .ref k34, .ref k35, .ref k36, .ref k37, .ref k38, .int 0, .ref k39]))] := hD.sub [0] (by decide) rfl
    refine W.widen (k := 0) (n := 0) (by decide) (by decide) ?_
    exact W.zret (v := 0) hx hb hr rfl (fun t ht hW => ⟨⟨0, (), rfl, rfl, by rw [ht]; exact hP9, hD9⟩, hS.F ht⟩) hS.2.2 dX9_isNode_17
set_option maxHeartbeats 4000000 in
set_option maxRecDepth 100000 in
theorem mX9_arc (l : Launch) (G : va_G) (cI cJ cZ : ClassId) (h0 k0 k1 k2 k3 k4 k5 k6 k7 k8 k9 k10 k11 k12 k13 k14 k15 k16 k17 k18 k19 k20 k21 k22 k23 k24 k25 k26 k27 k28 k29 k30 k31 k32 k33 k34 k35 k36 k37 k38 k39 sz : Nat) (p0 p1 : Int32) : Met l yX9_arc (xw yX9_arc cX9_arc 3 (some .int)) ({ frames := 1, cells := 0, slots := 0, locals := 21 }) (xPc G cI cJ cZ [.ref h0, .int p0, .int p1] [(h0, .inr (9, [.int 0, .int 0, .ref k0, .ref k1, .ref k2, .ref k3, .ref k4, .int 0, .ref k5, .int 0, .ref k6, .ref k7, .ref k8, .int 0, .ref k9, .ref k10, .int 0, .ref k11, .ref k12, .ref k13, .int 0, .ref k14, .int 0, .ref k15, .ref k16, .int 0, .int 0, .int 0, .ref k17, .int 0, .ref k18, .ref k19, .ref k20, .ref k21, .ref k22, .ref k23, .ref k24, .ref k25, .ref k26, .ref k27, .ref k28, .ref k29, .ref k30, .ref k31, .ref k32, .int 0, .int 0, .int 0, .int 0, .int 0, .ref k33, .ref k34, .ref k35, .ref k36, .ref k37, .ref k38, .int 0, .ref k39]))] sz) (va_Qi (fun (r : Int32) (_ : Unit) => r = (-1)) (fun (_ : Unit) t => xB G (va_A [(h0, .inr (9, [.int 0, .int 0, .ref k0, .ref k1, .ref k2, .ref k3, .ref k4, .int 0, .ref k5, .int 0, .ref k6, .ref k7, .ref k8, .int 0, .ref k9, .ref k10, .int 0, .ref k11, .ref k12, .ref k13, .int 0, .ref k14, .int 0, .ref k15, .ref k16, .int 0, .int 0, .int 0, .ref k17, .int 0, .ref k18, .ref k19, .ref k20, .ref k21, .ref k22, .ref k23, .ref k24, .ref k25, .ref k26, .ref k27, .ref k28, .ref k29, .ref k30, .ref k31, .ref k32, .int 0, .int 0, .int 0, .int 0, .int 0, .ref k33, .ref k34, .ref k35, .ref k36, .ref k37, .ref k38, .int 0, .ref k39]))] sz) [(h0, .inr (9, [.int 0, .int 0, .ref k0, .ref k1, .ref k2, .ref k3, .ref k4, .int 0, .ref k5, .int 0, .ref k6, .ref k7, .ref k8, .int 0, .ref k9, .ref k10, .int 0, .ref k11, .ref k12, .ref k13, .int 0, .ref k14, .int 0, .ref k15, .ref k16, .int 0, .int 0, .int 0, .ref k17, .int 0, .ref k18, .ref k19, .ref k20, .ref k21, .ref k22, .ref k23, .ref k24, .ref k25, .ref k26, .ref k27, .ref k28, .ref k29, .ref k30, .ref k31, .ref k32, .int 0, .int 0, .int 0, .int 0, .int 0, .ref k33, .ref k34, .ref k35, .ref k36, .ref k37, .ref k38, .int 0, .ref k39]))] t) (va_A [(h0, .inr (9, [.int 0, .int 0, .ref k0, .ref k1, .ref k2, .ref k3, .ref k4, .int 0, .ref k5, .int 0, .ref k6, .ref k7, .ref k8, .int 0, .ref k9, .ref k10, .int 0, .ref k11, .ref k12, .ref k13, .int 0, .ref k14, .int 0, .ref k15, .ref k16, .int 0, .int 0, .int 0, .ref k17, .int 0, .ref k18, .ref k19, .ref k20, .ref k21, .ref k22, .ref k23, .ref k24, .ref k25, .ref k26, .ref k27, .ref k28, .ref k29, .ref k30, .ref k31, .ref k32, .int 0, .int 0, .int 0, .int 0, .int 0, .ref k33, .ref k34, .ref k35, .ref k36, .ref k37, .ref k38, .int 0, .ref k39]))] sz)) 0 0 (va_A [(h0, .inr (9, [.int 0, .int 0, .ref k0, .ref k1, .ref k2, .ref k3, .ref k4, .int 0, .ref k5, .int 0, .ref k6, .ref k7, .ref k8, .int 0, .ref k9, .ref k10, .int 0, .ref k11, .ref k12, .ref k13, .int 0, .ref k14, .int 0, .ref k15, .ref k16, .int 0, .int 0, .int 0, .ref k17, .int 0, .ref k18, .ref k19, .ref k20, .ref k21, .ref k22, .ref k23, .ref k24, .ref k25, .ref k26, .ref k27, .ref k28, .ref k29, .ref k30, .ref k31, .ref k32, .int 0, .int 0, .int 0, .int 0, .int 0, .ref k33, .ref k34, .ref k35, .ref k36, .ref k37, .ref k38, .int 0, .ref k39]))] sz) := by
  refine Met.ofW (cc := cX9_arc) (maxL := 3) (ret := (some .int)) (by decide) rfl ?_
  intro p e s m args below meth c s₁ B hml hv
  obtain ⟨rfl, hsz, hP, hK, hD0, hN⟩ := hv
  have hx := B.exec
  have hb := B.bytes
  have hr := B.returns
  have hts : ∀ w ∈ xW, w.before _ s = true := fun w h => atoms_spec (ws := xw yX9_arc cX9_arc 3 (some .int)) B.pre w (List.mem_cons_of_mem _ h)
  have hown : s.vm.findClass RX9 = some m.cls := findClass_of_methodNamed B.named
  have hlocks := B.notSynchronized
  subst hsz
  have hD := hD0.self (sz := s.heap.size)
  clear hD0
  generalize hAe : va_A [(h0, .inr (9, [.int 0, .int 0, .ref k0, .ref k1, .ref k2, .ref k3, .ref k4, .int 0, .ref k5, .int 0, .ref k6, .ref k7, .ref k8, .int 0, .ref k9, .ref k10, .int 0, .ref k11, .ref k12, .ref k13, .int 0, .ref k14, .int 0, .ref k15, .ref k16, .int 0, .int 0, .int 0, .ref k17, .int 0, .ref k18, .ref k19, .ref k20, .ref k21, .ref k22, .ref k23, .ref k24, .ref k25, .ref k26, .ref k27, .ref k28, .ref k29, .ref k30, .ref k31, .ref k32, .int 0, .int 0, .int 0, .int 0, .int 0, .ref k33, .ref k34, .ref k35, .ref k36, .ref k37, .ref k38, .int 0, .ref k39]))] s.heap.size = A at hD ⊢
  have hA : ∀ q : Nat, s.heap.size ≤ q → A q := fun q h => by rw [← hAe]; exact Or.inr h
  clear hAe
  have hS : va_S A s.heap s.heap [] := va_S.rf
  replace hP : va_P G vwCl [(h0, .inr (9, [.int 0, .int 0, .ref k0, .ref k1, .ref k2, .ref k3, .ref k4, .int 0, .ref k5, .int 0, .ref k6, .ref k7, .ref k8, .int 0, .ref k9, .ref k10, .int 0, .ref k11, .ref k12, .ref k13, .int 0, .ref k14, .int 0, .ref k15, .ref k16, .int 0, .int 0, .int 0, .ref k17, .int 0, .ref k18, .ref k19, .ref k20, .ref k21, .ref k22, .ref k23, .ref k24, .ref k25, .ref k26, .ref k27, .ref k28, .ref k29, .ref k30, .ref k31, .ref k32, .int 0, .int 0, .int 0, .int 0, .int 0, .ref k33, .ref k34, .ref k35, .ref k36, .ref k37, .ref k38, .int 0, .ref k39]))] s.heap := hP
  have hl := lv_entry ([.ref h0, .int p0, .int p1]) (n := 3) (Nat.le_of_ble_eq_true rfl)
  rw [lg_entry_eq]
  generalize (lg_sl ([.ref h0, .int p0, .int p1]) ++ List.replicate (3 - (lg_sl ([.ref h0, .int p0, .int p1])).length) Slot.unset).toArray = ls at hl ⊢
  replace hl : lv_has ls 3 [(0, .ref h0), (1, .int p0), (2, .int p1)] := hl
  refine lv_aload_n hx hb dX9_arc_0 rfl (lv_at hl 0 rfl) ?_
  refine lv_iload_n hx hb dX9_arc_1 rfl (lv_at hl 1 rfl) ?_
  refine xci (wr := []) (va_runV (As := [.int p0]) (rest := []) ⟨hx, hb, hml, hown, hts⟩ (mX9_isNode l G cI cJ cZ h0 k0 k1 k2 k3 k4 k5 k6 k7 k8 k9 k10 k11 k12 k13 k14 k15 k16 k17 k18 k19 k20 k21 k22 k23 k24 k25 k26 k27 k28 k29 k30 k31 k32 k33 k34 k35 k36 k37 k38 k39 s.heap.size p0) (cwV 1 hts (xgoodV wm_173 wm_174 wm_175 wm_176 wm_177) rfl rfl rfl (by decide +kernel) ⟨Nat.le_of_ble_eq_true rfl, Nat.le_of_ble_eq_true rfl⟩) (xPreV (q := (RX9, TX9, 58)) (q0 := 0) hK hN hP hD [0] (by decide) rfl rfl rfl) rfl rfl hl.1 rfl (lv_room (Nat.le_of_ble_eq_true rfl)) dX9_arc_2 ⟨Nat.le_of_ble_eq_true rfl, Nat.le_of_ble_eq_true rfl⟩) hP hD hS hA [0] [] rfl rfl (by decide) (by decide) (fun r16 _ H locs hw hP hD hS => ?_)
  replace hP : va_P G vwCl [(h0, .inr (9, [.int 0, .int 0, .ref k0, .ref k1, .ref k2, .ref k3, .ref k4, .int 0, .ref k5, .int 0, .ref k6, .ref k7, .ref k8, .int 0, .ref k9, .ref k10, .int 0, .ref k11, .ref k12, .ref k13, .int 0, .ref k14, .int 0, .ref k15, .ref k16, .int 0, .int 0, .int 0, .ref k17, .int 0, .ref k18, .ref k19, .ref k20, .ref k21, .ref k22, .ref k23, .ref k24, .ref k25, .ref k26, .ref k27, .ref k28, .ref k29, .ref k30, .ref k31, .ref k32, .int 0, .int 0, .int 0, .int 0, .int 0, .ref k33, .ref k34, .ref k35, .ref k36, .ref k37, .ref k38, .int 0, .ref k39]))] H := hP
  replace hD : va_D A [(h0, .inr (9, [.int 0, .int 0, .ref k0, .ref k1, .ref k2, .ref k3, .ref k4, .int 0, .ref k5, .int 0, .ref k6, .ref k7, .ref k8, .int 0, .ref k9, .ref k10, .int 0, .ref k11, .ref k12, .ref k13, .int 0, .ref k14, .int 0, .ref k15, .ref k16, .int 0, .int 0, .int 0, .ref k17, .int 0, .ref k18, .ref k19, .ref k20, .ref k21, .ref k22, .ref k23, .ref k24, .ref k25, .ref k26, .ref k27, .ref k28, .ref k29, .ref k30, .ref k31, .ref k32, .int 0, .int 0, .int 0, .int 0, .int 0, .ref k33, .ref k34, .ref k35, .ref k36, .ref k37, .ref k38, .int 0, .ref k39]))] := hD
  obtain rfl : r16 = (0 : Int32) := hw
  refine lv_if_eq (tgt := 16) hx hb dX9_arc_5 (by decide) (fun c9 => ?_) (fun c9 => ?_)
  rotate_left
  · exact absurd c9 (by decide)
  refine lv_iconst (v := (-1)) hx hb dX9_arc_16 (by decide) ?_
  have hP9 : va_P G vwCl [(h0, .inr (9, [.int 0, .int 0, .ref k0, .ref k1, .ref k2, .ref k3, .ref k4, .int 0, .ref k5, .int 0, .ref k6, .ref k7, .ref k8, .int 0, .ref k9, .ref k10, .int 0, .ref k11, .ref k12, .ref k13, .int 0, .ref k14, .int 0, .ref k15, .ref k16, .int 0, .int 0, .int 0, .ref k17, .int 0, .ref k18, .ref k19, .ref k20, .ref k21, .ref k22, .ref k23, .ref k24, .ref k25, .ref k26, .ref k27, .ref k28, .ref k29, .ref k30, .ref k31, .ref k32, .int 0, .int 0, .int 0, .int 0, .int 0, .ref k33, .ref k34, .ref k35, .ref k36, .ref k37, .ref k38, .int 0, .ref k39]))] H := hP.sub [0] rfl
  have hD9 : va_D A [(h0, .inr (9, [.int 0, .int 0, .ref k0, .ref k1, .ref k2, .ref k3, .ref k4, .int 0, .ref k5, .int 0, .ref k6, .ref k7, .ref k8, .int 0, .ref k9, .ref k10, .int 0, .ref k11, .ref k12, .ref k13, .int 0, .ref k14, .int 0, .ref k15, .ref k16, .int 0, .int 0, .int 0, .ref k17, .int 0, .ref k18, .ref k19, .ref k20, .ref k21, .ref k22, .ref k23, .ref k24, .ref k25, .ref k26, .ref k27, .ref k28, .ref k29, .ref k30, .ref k31, .ref k32, .int 0, .int 0, .int 0, .int 0, .int 0, .ref k33, .ref k34, .ref k35, .ref k36, .ref k37, .ref k38, .int 0, .ref k39]))] := hD.sub [0] (by decide) rfl
  refine W.widen (k := 0) (n := 0) (by decide) (by decide) ?_
  exact W.iret (v := (-1)) hx hb hr (fun t ht hW => ⟨⟨(-1), (), rfl, rfl, by rw [ht]; exact hP9, hD9⟩, hS.F ht⟩) hS.2.2 dX9_arc_17
set_option maxHeartbeats 4000000 in
set_option maxRecDepth 100000 in
theorem mX3_hasArc (l : Launch) (G : va_G) (cI cJ cZ : ClassId) (h0 k0 k1 k2 sz : Nat) (p0 : Int32) : Met l yX3_hasArc (xw yX3_hasArc cX3_hasArc 2 (some .boolean)) ({ frames := 0, cells := 0, slots := 0, locals := 0 }) (xPc G cI cJ cZ [.ref h0, .int p0] [(h0, .inr (3, [.ref k0, .ref k1, .ref k2, .int 0, .int 0, .int 0]))] sz) (va_Qi (fun (r : Int32) (_ : Unit) => r = 0) (fun (_ : Unit) t => xB G (va_A [(h0, .inr (3, [.ref k0, .ref k1, .ref k2, .int 0, .int 0, .int 0]))] sz) [(h0, .inr (3, [.ref k0, .ref k1, .ref k2, .int 0, .int 0, .int 0]))] t) (va_A [(h0, .inr (3, [.ref k0, .ref k1, .ref k2, .int 0, .int 0, .int 0]))] sz)) 0 0 (va_A [(h0, .inr (3, [.ref k0, .ref k1, .ref k2, .int 0, .int 0, .int 0]))] sz) := by
  refine Met.ofW (cc := cX3_hasArc) (maxL := 2) (ret := (some .boolean)) (by decide) rfl ?_
  intro p e s m args below meth c s₁ B hml hv
  obtain ⟨rfl, hsz, hP, hK, hD0, hN⟩ := hv
  have hx := B.exec
  have hb := B.bytes
  have hr := B.returns
  have hts : ∀ w ∈ xW, w.before _ s = true := fun w h => atoms_spec (ws := xw yX3_hasArc cX3_hasArc 2 (some .boolean)) B.pre w (List.mem_cons_of_mem _ h)
  have hown : s.vm.findClass RX3 = some m.cls := findClass_of_methodNamed B.named
  have hlocks := B.notSynchronized
  subst hsz
  have hD := hD0.self (sz := s.heap.size)
  clear hD0
  generalize hAe : va_A [(h0, .inr (3, [.ref k0, .ref k1, .ref k2, .int 0, .int 0, .int 0]))] s.heap.size = A at hD ⊢
  have hA : ∀ q : Nat, s.heap.size ≤ q → A q := fun q h => by rw [← hAe]; exact Or.inr h
  clear hAe
  have hS : va_S A s.heap s.heap [] := va_S.rf
  replace hP : va_P G vwCl [(h0, .inr (3, [.ref k0, .ref k1, .ref k2, .int 0, .int 0, .int 0]))] s.heap := hP
  have hl := lv_entry ([.ref h0, .int p0]) (n := 2) (Nat.le_of_ble_eq_true rfl)
  rw [lg_entry_eq]
  generalize (lg_sl ([.ref h0, .int p0]) ++ List.replicate (2 - (lg_sl ([.ref h0, .int p0])).length) Slot.unset).toArray = ls at hl ⊢
  replace hl : lv_has ls 2 [(0, .ref h0), (1, .int p0)] := hl
  refine lv_iload_n hx hb dX3_hasArc_0 rfl (lv_at hl 1 rfl) ?_
  refine lv_if_lt (tgt := 25) hx hb dX3_hasArc_1 (by decide) (fun c10 => ?_) (fun c10 => ?_)
  · refine lv_iconst (v := 0) hx hb dX3_hasArc_25 (by decide) ?_
    have hP9 : va_P G vwCl [(h0, .inr (3, [.ref k0, .ref k1, .ref k2, .int 0, .int 0, .int 0]))] s.heap := hP.sub [0] rfl
    have hD9 : va_D A [(h0, .inr (3, [.ref k0, .ref k1, .ref k2, .int 0, .int 0, .int 0]))] := hD.sub [0] (by decide) rfl
    refine W.widen (k := 0) (n := 0) (by decide) (by decide) ?_
    exact W.zret (v := 0) hx hb hr rfl (fun t ht hW => ⟨⟨0, (), rfl, rfl, by rw [ht]; exact hP9, hD9⟩, hS.F ht⟩) hS.2.2 dX3_hasArc_26
  · refine lv_iload_n hx hb dX3_hasArc_4 rfl (lv_at hl 1 rfl) ?_
    refine lv_aload_n hx hb dX3_hasArc_5 rfl (lv_at hl 0 rfl) ?_
    refine va_get (D := G) (ci := 3) (v := .int 0) (C := RX3) (T := TX3) (N := 6) hx hb hts xinX3 hown hK hP 0 rfl rfl 4 (by decide) (hts _ wm_178) (fun _ h9 => h9) rfl dX3_hasArc_6 ?_
    refine lv_icmp_ge (tgt := 25) hx hb dX3_hasArc_9 (by decide) (fun c11 => ?_) (fun c11 => ?_)
    rotate_left
    · exact absurd (Int32.not_lt.mp c10) c11
    refine lv_iconst (v := 0) hx hb dX3_hasArc_25 (by decide) ?_
    have hP9 : va_P G vwCl [(h0, .inr (3, [.ref k0, .ref k1, .ref k2, .int 0, .int 0, .int 0]))] s.heap := hP.sub [0] rfl
    have hD9 : va_D A [(h0, .inr (3, [.ref k0, .ref k1, .ref k2, .int 0, .int 0, .int 0]))] := hD.sub [0] (by decide) rfl
    refine W.widen (k := 0) (n := 0) (by decide) (by decide) ?_
    exact W.zret (v := 0) hx hb hr rfl (fun t ht hW => ⟨⟨0, (), rfl, rfl, by rw [ht]; exact hP9, hD9⟩, hS.F ht⟩) hS.2.2 dX3_hasArc_26
set_option maxHeartbeats 4000000 in
set_option maxRecDepth 100000 in
theorem mX8_cut (l : Launch) (G : va_G) (cI cJ cZ : ClassId) (h0 h1 k0 k1 k2 k3 k4 k5 k6 k7 k8 k9 k10 k11 k12 sz : Nat) (p0 : Int32) : Met l yX8_cut (xw yX8_cut cX8_cut 2 (some .int)) ({ frames := 1, cells := 0, slots := 0, locals := 21 }) (xPc G cI cJ cZ [.ref h0, .int p0] [(h0, .inr (8, [.ref h1, .ref k0, .ref k1, .ref k2, .ref k3, .ref k4, .ref k5, .ref k6, .ref k7, .ref k8, .ref k9, .int 0, .int 0, .int 0, .int 0, .int 0])), (h1, .inr (3, [.ref k10, .ref k11, .ref k12, .int 0, .int 0, .int 0]))] sz) (va_Qi (fun (r : Int32) (_ : Unit) => r = (-1)) (fun (_ : Unit) t => xB G (va_A [(h0, .inr (8, [.ref h1, .ref k0, .ref k1, .ref k2, .ref k3, .ref k4, .ref k5, .ref k6, .ref k7, .ref k8, .ref k9, .int 0, .int 0, .int 0, .int 0, .int 0])), (h1, .inr (3, [.ref k10, .ref k11, .ref k12, .int 0, .int 0, .int 0]))] sz) [(h0, .inr (8, [.ref h1, .ref k0, .ref k1, .ref k2, .ref k3, .ref k4, .ref k5, .ref k6, .ref k7, .ref k8, .ref k9, .int 0, .int 0, .int 0, .int 0, .int 0])), (h1, .inr (3, [.ref k10, .ref k11, .ref k12, .int 0, .int 0, .int 0]))] t) (va_A [(h0, .inr (8, [.ref h1, .ref k0, .ref k1, .ref k2, .ref k3, .ref k4, .ref k5, .ref k6, .ref k7, .ref k8, .ref k9, .int 0, .int 0, .int 0, .int 0, .int 0])), (h1, .inr (3, [.ref k10, .ref k11, .ref k12, .int 0, .int 0, .int 0]))] sz)) 0 0 (va_A [(h0, .inr (8, [.ref h1, .ref k0, .ref k1, .ref k2, .ref k3, .ref k4, .ref k5, .ref k6, .ref k7, .ref k8, .ref k9, .int 0, .int 0, .int 0, .int 0, .int 0])), (h1, .inr (3, [.ref k10, .ref k11, .ref k12, .int 0, .int 0, .int 0]))] sz) := by
  refine Met.ofW (cc := cX8_cut) (maxL := 2) (ret := (some .int)) (by decide) rfl ?_
  intro p e s m args below meth c s₁ B hml hv
  obtain ⟨rfl, hsz, hP, hK, hD0, hN⟩ := hv
  have hx := B.exec
  have hb := B.bytes
  have hr := B.returns
  have hts : ∀ w ∈ xW, w.before _ s = true := fun w h => atoms_spec (ws := xw yX8_cut cX8_cut 2 (some .int)) B.pre w (List.mem_cons_of_mem _ h)
  have hown : s.vm.findClass RX8 = some m.cls := findClass_of_methodNamed B.named
  have hlocks := B.notSynchronized
  subst hsz
  have hD := hD0.self (sz := s.heap.size)
  clear hD0
  generalize hAe : va_A [(h0, .inr (8, [.ref h1, .ref k0, .ref k1, .ref k2, .ref k3, .ref k4, .ref k5, .ref k6, .ref k7, .ref k8, .ref k9, .int 0, .int 0, .int 0, .int 0, .int 0])), (h1, .inr (3, [.ref k10, .ref k11, .ref k12, .int 0, .int 0, .int 0]))] s.heap.size = A at hD ⊢
  have hA : ∀ q : Nat, s.heap.size ≤ q → A q := fun q h => by rw [← hAe]; exact Or.inr h
  clear hAe
  have hS : va_S A s.heap s.heap [] := va_S.rf
  replace hP : va_P G vwCl [(h0, .inr (8, [.ref h1, .ref k0, .ref k1, .ref k2, .ref k3, .ref k4, .ref k5, .ref k6, .ref k7, .ref k8, .ref k9, .int 0, .int 0, .int 0, .int 0, .int 0])), (h1, .inr (3, [.ref k10, .ref k11, .ref k12, .int 0, .int 0, .int 0]))] s.heap := hP
  have hl := lv_entry ([.ref h0, .int p0]) (n := 2) (Nat.le_of_ble_eq_true rfl)
  rw [lg_entry_eq]
  generalize (lg_sl ([.ref h0, .int p0]) ++ List.replicate (2 - (lg_sl ([.ref h0, .int p0])).length) Slot.unset).toArray = ls at hl ⊢
  replace hl : lv_has ls 2 [(0, .ref h0), (1, .int p0)] := hl
  refine lv_aload_n hx hb dX8_cut_0 rfl (lv_at hl 0 rfl) ?_
  refine va_get (D := G) (ci := 8) (v := .ref h1) (C := RX8) (T := TX8) (N := 16) hx hb hts xinX8 hown hK hP 0 rfl rfl 0 (by decide) (hts _ wm_14) (fun _ h9 => h9) rfl dX8_cut_1 ?_
  refine lv_iload_n hx hb dX8_cut_4 rfl (lv_at hl 1 rfl) ?_
  refine xci (wr := [(h0, .inr (8, [.ref h1, .ref k0, .ref k1, .ref k2, .ref k3, .ref k4, .ref k5, .ref k6, .ref k7, .ref k8, .ref k9, .int 0, .int 0, .int 0, .int 0, .int 0]))]) (va_runV (As := [.int p0]) (rest := []) ⟨hx, hb, hml, hown, hts⟩ (mX3_hasArc l G cI cJ cZ h1 k10 k11 k12 s.heap.size p0) (cwV 1 hts (xgoodV wm_179 wm_180 wm_181 wm_182 wm_5) rfl rfl rfl (by decide +kernel) ⟨Nat.le_of_ble_eq_true rfl, Nat.le_of_ble_eq_true rfl⟩) (xPreV (q := (RX3, TX3, 6)) (q0 := 1) hK hN hP hD [1] (by decide) rfl rfl rfl) rfl rfl hl.1 rfl (lv_room (Nat.le_of_ble_eq_true rfl)) dX8_cut_5 ⟨Nat.le_of_ble_eq_true rfl, Nat.le_of_ble_eq_true rfl⟩) hP hD hS hA [1] [0] rfl rfl (by decide) (by decide) (fun r17 _ H locs hw hP hD hS => ?_)
  replace hP : va_P G vwCl [(h0, .inr (8, [.ref h1, .ref k0, .ref k1, .ref k2, .ref k3, .ref k4, .ref k5, .ref k6, .ref k7, .ref k8, .ref k9, .int 0, .int 0, .int 0, .int 0, .int 0])), (h1, .inr (3, [.ref k10, .ref k11, .ref k12, .int 0, .int 0, .int 0]))] H := hP
  replace hD : va_D A [(h0, .inr (8, [.ref h1, .ref k0, .ref k1, .ref k2, .ref k3, .ref k4, .ref k5, .ref k6, .ref k7, .ref k8, .ref k9, .int 0, .int 0, .int 0, .int 0, .int 0])), (h1, .inr (3, [.ref k10, .ref k11, .ref k12, .int 0, .int 0, .int 0]))] := hD
  obtain rfl : r17 = (0 : Int32) := hw
  refine lv_if_ne (tgt := 13) hx hb dX8_cut_8 (by decide) (fun c12 => ?_) (fun c12 => ?_)
  · exact absurd c12 (by decide)
  refine lv_iconst (v := (-1)) hx hb dX8_cut_11 (by decide) ?_
  have hP9 : va_P G vwCl [(h0, .inr (8, [.ref h1, .ref k0, .ref k1, .ref k2, .ref k3, .ref k4, .ref k5, .ref k6, .ref k7, .ref k8, .ref k9, .int 0, .int 0, .int 0, .int 0, .int 0])), (h1, .inr (3, [.ref k10, .ref k11, .ref k12, .int 0, .int 0, .int 0]))] H := hP.sub [0, 1] rfl
  have hD9 : va_D A [(h0, .inr (8, [.ref h1, .ref k0, .ref k1, .ref k2, .ref k3, .ref k4, .ref k5, .ref k6, .ref k7, .ref k8, .ref k9, .int 0, .int 0, .int 0, .int 0, .int 0])), (h1, .inr (3, [.ref k10, .ref k11, .ref k12, .int 0, .int 0, .int 0]))] := hD.sub [0, 1] (by decide) rfl
  refine W.widen (k := 0) (n := 0) (by decide) (by decide) ?_
  exact W.iret (v := (-1)) hx hb hr (fun t ht hW => ⟨⟨(-1), (), rfl, rfl, by rw [ht]; exact hP9, hD9⟩, hS.F ht⟩) hS.2.2 dX8_cut_12
set_option maxHeartbeats 4000000 in
set_option maxRecDepth 100000 in
theorem mX9_isArc (l : Launch) (G : va_G) (cI cJ cZ : ClassId) (h0 k0 k1 k2 k3 k4 k5 k6 k7 k8 k9 k10 k11 k12 k13 k14 k15 k16 k17 k18 k19 k20 k21 k22 k23 k24 k25 k26 k27 k28 k29 k30 k31 k32 k33 k34 k35 k36 k37 k38 k39 sz : Nat) (p0 : Int32) : Met l yX9_isArc (xw yX9_isArc cX9_isArc 2 (some .boolean)) ({ frames := 0, cells := 0, slots := 0, locals := 0 }) (xPc G cI cJ cZ [.ref h0, .int p0] [(h0, .inr (9, [.int 0, .int 0, .ref k0, .ref k1, .ref k2, .ref k3, .ref k4, .int 0, .ref k5, .int 0, .ref k6, .ref k7, .ref k8, .int 0, .ref k9, .ref k10, .int 0, .ref k11, .ref k12, .ref k13, .int 0, .ref k14, .int 0, .ref k15, .ref k16, .int 0, .int 0, .int 0, .ref k17, .int 0, .ref k18, .ref k19, .ref k20, .ref k21, .ref k22, .ref k23, .ref k24, .ref k25, .ref k26, .ref k27, .ref k28, .ref k29, .ref k30, .ref k31, .ref k32, .int 0, .int 0, .int 0, .int 0, .int 0, .ref k33, .ref k34, .ref k35, .ref k36, .ref k37, .ref k38, .int 0, .ref k39]))] sz) (va_Qi (fun (r : Int32) (_ : Unit) => r = 0) (fun (_ : Unit) t => xB G (va_A [(h0, .inr (9, [.int 0, .int 0, .ref k0, .ref k1, .ref k2, .ref k3, .ref k4, .int 0, .ref k5, .int 0, .ref k6, .ref k7, .ref k8, .int 0, .ref k9, .ref k10, .int 0, .ref k11, .ref k12, .ref k13, .int 0, .ref k14, .int 0, .ref k15, .ref k16, .int 0, .int 0, .int 0, .ref k17, .int 0, .ref k18, .ref k19, .ref k20, .ref k21, .ref k22, .ref k23, .ref k24, .ref k25, .ref k26, .ref k27, .ref k28, .ref k29, .ref k30, .ref k31, .ref k32, .int 0, .int 0, .int 0, .int 0, .int 0, .ref k33, .ref k34, .ref k35, .ref k36, .ref k37, .ref k38, .int 0, .ref k39]))] sz) [(h0, .inr (9, [.int 0, .int 0, .ref k0, .ref k1, .ref k2, .ref k3, .ref k4, .int 0, .ref k5, .int 0, .ref k6, .ref k7, .ref k8, .int 0, .ref k9, .ref k10, .int 0, .ref k11, .ref k12, .ref k13, .int 0, .ref k14, .int 0, .ref k15, .ref k16, .int 0, .int 0, .int 0, .ref k17, .int 0, .ref k18, .ref k19, .ref k20, .ref k21, .ref k22, .ref k23, .ref k24, .ref k25, .ref k26, .ref k27, .ref k28, .ref k29, .ref k30, .ref k31, .ref k32, .int 0, .int 0, .int 0, .int 0, .int 0, .ref k33, .ref k34, .ref k35, .ref k36, .ref k37, .ref k38, .int 0, .ref k39]))] t) (va_A [(h0, .inr (9, [.int 0, .int 0, .ref k0, .ref k1, .ref k2, .ref k3, .ref k4, .int 0, .ref k5, .int 0, .ref k6, .ref k7, .ref k8, .int 0, .ref k9, .ref k10, .int 0, .ref k11, .ref k12, .ref k13, .int 0, .ref k14, .int 0, .ref k15, .ref k16, .int 0, .int 0, .int 0, .ref k17, .int 0, .ref k18, .ref k19, .ref k20, .ref k21, .ref k22, .ref k23, .ref k24, .ref k25, .ref k26, .ref k27, .ref k28, .ref k29, .ref k30, .ref k31, .ref k32, .int 0, .int 0, .int 0, .int 0, .int 0, .ref k33, .ref k34, .ref k35, .ref k36, .ref k37, .ref k38, .int 0, .ref k39]))] sz)) 0 0 (va_A [(h0, .inr (9, [.int 0, .int 0, .ref k0, .ref k1, .ref k2, .ref k3, .ref k4, .int 0, .ref k5, .int 0, .ref k6, .ref k7, .ref k8, .int 0, .ref k9, .ref k10, .int 0, .ref k11, .ref k12, .ref k13, .int 0, .ref k14, .int 0, .ref k15, .ref k16, .int 0, .int 0, .int 0, .ref k17, .int 0, .ref k18, .ref k19, .ref k20, .ref k21, .ref k22, .ref k23, .ref k24, .ref k25, .ref k26, .ref k27, .ref k28, .ref k29, .ref k30, .ref k31, .ref k32, .int 0, .int 0, .int 0, .int 0, .int 0, .ref k33, .ref k34, .ref k35, .ref k36, .ref k37, .ref k38, .int 0, .ref k39]))] sz) := by
  refine Met.ofW (cc := cX9_isArc) (maxL := 2) (ret := (some .boolean)) (by decide) rfl ?_
  intro p e s m args below meth c s₁ B hml hv
  obtain ⟨rfl, hsz, hP, hK, hD0, hN⟩ := hv
  have hx := B.exec
  have hb := B.bytes
  have hr := B.returns
  have hts : ∀ w ∈ xW, w.before _ s = true := fun w h => atoms_spec (ws := xw yX9_isArc cX9_isArc 2 (some .boolean)) B.pre w (List.mem_cons_of_mem _ h)
  have hown : s.vm.findClass RX9 = some m.cls := findClass_of_methodNamed B.named
  have hlocks := B.notSynchronized
  subst hsz
  have hD := hD0.self (sz := s.heap.size)
  clear hD0
  generalize hAe : va_A [(h0, .inr (9, [.int 0, .int 0, .ref k0, .ref k1, .ref k2, .ref k3, .ref k4, .int 0, .ref k5, .int 0, .ref k6, .ref k7, .ref k8, .int 0, .ref k9, .ref k10, .int 0, .ref k11, .ref k12, .ref k13, .int 0, .ref k14, .int 0, .ref k15, .ref k16, .int 0, .int 0, .int 0, .ref k17, .int 0, .ref k18, .ref k19, .ref k20, .ref k21, .ref k22, .ref k23, .ref k24, .ref k25, .ref k26, .ref k27, .ref k28, .ref k29, .ref k30, .ref k31, .ref k32, .int 0, .int 0, .int 0, .int 0, .int 0, .ref k33, .ref k34, .ref k35, .ref k36, .ref k37, .ref k38, .int 0, .ref k39]))] s.heap.size = A at hD ⊢
  have hA : ∀ q : Nat, s.heap.size ≤ q → A q := fun q h => by rw [← hAe]; exact Or.inr h
  clear hAe
  have hS : va_S A s.heap s.heap [] := va_S.rf
  replace hP : va_P G vwCl [(h0, .inr (9, [.int 0, .int 0, .ref k0, .ref k1, .ref k2, .ref k3, .ref k4, .int 0, .ref k5, .int 0, .ref k6, .ref k7, .ref k8, .int 0, .ref k9, .ref k10, .int 0, .ref k11, .ref k12, .ref k13, .int 0, .ref k14, .int 0, .ref k15, .ref k16, .int 0, .int 0, .int 0, .ref k17, .int 0, .ref k18, .ref k19, .ref k20, .ref k21, .ref k22, .ref k23, .ref k24, .ref k25, .ref k26, .ref k27, .ref k28, .ref k29, .ref k30, .ref k31, .ref k32, .int 0, .int 0, .int 0, .int 0, .int 0, .ref k33, .ref k34, .ref k35, .ref k36, .ref k37, .ref k38, .int 0, .ref k39]))] s.heap := hP
  have hl := lv_entry ([.ref h0, .int p0]) (n := 2) (Nat.le_of_ble_eq_true rfl)
  rw [lg_entry_eq]
  generalize (lg_sl ([.ref h0, .int p0]) ++ List.replicate (2 - (lg_sl ([.ref h0, .int p0])).length) Slot.unset).toArray = ls at hl ⊢
  replace hl : lv_has ls 2 [(0, .ref h0), (1, .int p0)] := hl
  refine lv_iload_n hx hb dX9_isArc_0 rfl (lv_at hl 1 rfl) ?_
  refine lv_if_lt (tgt := 25) hx hb dX9_isArc_1 (by decide) (fun c13 => ?_) (fun c13 => ?_)
  · refine lv_iconst (v := 0) hx hb dX9_isArc_25 (by decide) ?_
    have hP9 : va_P G vwCl [(h0, .inr (9, [.int 0, .int 0, .ref k0, .ref k1, .ref k2, .ref k3, .ref k4, .int 0, .ref k5, .int 0, .ref k6, .ref k7, .ref k8, .int 0, .ref k9, .ref k10, .int 0, .ref k11, .ref k12, .ref k13, .int 0, .ref k14, .int 0, .ref k15, .ref k16, .int 0, .int 0, .int 0, .ref k17, .int 0, .ref k18, .ref k19, .ref k20, .ref k21, .ref k22, .ref k23, .ref k24, .ref k25, .ref k26, .ref k27, .ref k28, .ref k29, .ref k30, .ref k31, .ref k32, .int 0, .int 0, .int 0, .int 0, .int 0, .ref k33, .ref k34, .ref k35, .ref k36, .ref k37, .ref k38, .int 0, .ref k39]))] s.heap := hP.sub [0] rfl
    have hD9 : va_D A [(h0, .inr (9, [.int 0, .int 0, .ref k0, .ref k1, .ref k2, .ref k3, .ref k4, .int 0, .ref k5, .int 0, .ref k6, .ref k7, .ref k8, .int 0, .ref k9, .ref k10, .int 0, .ref k11, .ref k12, .ref k13, .int 0, .ref k14, .int 0, .ref k15, .ref k16, .int 0, .int 0, .int 0, .ref k17, .int 0, .ref k18, .ref k19, .ref k20, .ref k21, .ref k22, .ref k23, .ref k24, .ref k25, .ref k26, .ref k27, .ref k28, .ref k29, .ref k30, .ref k31, .ref k32, .int 0, .int 0, .int 0, .int 0, .int 0, .ref k33, .ref k34, .ref k35, .ref k36, .ref k37, .ref k38, .int 0, .ref k39]))] := hD.sub [0] (by decide) rfl
    refine W.widen (k := 0) (n := 0) (by decide) (by decide) ?_
    exact W.zret (v := 0) hx hb hr rfl (fun t ht hW => ⟨⟨0, (), rfl, rfl, by rw [ht]; exact hP9, hD9⟩, hS.F ht⟩) hS.2.2 dX9_isArc_26
  · refine lv_iload_n hx hb dX9_isArc_4 rfl (lv_at hl 1 rfl) ?_
    refine lv_aload_n hx hb dX9_isArc_5 rfl (lv_at hl 0 rfl) ?_
    refine va_get (D := G) (ci := 9) (v := .int 0) (C := RX9) (T := TX9) (N := 58) hx hb hts xinX9 hown hK hP 0 rfl rfl 1 (by decide) (hts _ wm_183) (fun _ h9 => h9) rfl dX9_isArc_6 ?_
    refine lv_icmp_ge (tgt := 25) hx hb dX9_isArc_9 (by decide) (fun c14 => ?_) (fun c14 => ?_)
    rotate_left
    · exact absurd (Int32.not_lt.mp c13) c14
    refine lv_iconst (v := 0) hx hb dX9_isArc_25 (by decide) ?_
    have hP9 : va_P G vwCl [(h0, .inr (9, [.int 0, .int 0, .ref k0, .ref k1, .ref k2, .ref k3, .ref k4, .int 0, .ref k5, .int 0, .ref k6, .ref k7, .ref k8, .int 0, .ref k9, .ref k10, .int 0, .ref k11, .ref k12, .ref k13, .int 0, .ref k14, .int 0, .ref k15, .ref k16, .int 0, .int 0, .int 0, .ref k17, .int 0, .ref k18, .ref k19, .ref k20, .ref k21, .ref k22, .ref k23, .ref k24, .ref k25, .ref k26, .ref k27, .ref k28, .ref k29, .ref k30, .ref k31, .ref k32, .int 0, .int 0, .int 0, .int 0, .int 0, .ref k33, .ref k34, .ref k35, .ref k36, .ref k37, .ref k38, .int 0, .ref k39]))] s.heap := hP.sub [0] rfl
    have hD9 : va_D A [(h0, .inr (9, [.int 0, .int 0, .ref k0, .ref k1, .ref k2, .ref k3, .ref k4, .int 0, .ref k5, .int 0, .ref k6, .ref k7, .ref k8, .int 0, .ref k9, .ref k10, .int 0, .ref k11, .ref k12, .ref k13, .int 0, .ref k14, .int 0, .ref k15, .ref k16, .int 0, .int 0, .int 0, .ref k17, .int 0, .ref k18, .ref k19, .ref k20, .ref k21, .ref k22, .ref k23, .ref k24, .ref k25, .ref k26, .ref k27, .ref k28, .ref k29, .ref k30, .ref k31, .ref k32, .int 0, .int 0, .int 0, .int 0, .int 0, .ref k33, .ref k34, .ref k35, .ref k36, .ref k37, .ref k38, .int 0, .ref k39]))] := hD.sub [0] (by decide) rfl
    refine W.widen (k := 0) (n := 0) (by decide) (by decide) ?_
    exact W.zret (v := 0) hx hb hr rfl (fun t ht hW => ⟨⟨0, (), rfl, rfl, by rw [ht]; exact hP9, hD9⟩, hS.F ht⟩) hS.2.2 dX9_isArc_26
set_option maxHeartbeats 4000000 in
set_option maxRecDepth 100000 in
theorem mX9_cut (l : Launch) (G : va_G) (cI cJ cZ : ClassId) (h0 k0 k1 k2 k3 k4 k5 k6 k7 k8 k9 k10 k11 k12 k13 k14 k15 k16 k17 k18 k19 k20 k21 k22 k23 k24 k25 k26 k27 k28 k29 k30 k31 k32 k33 k34 k35 k36 k37 k38 k39 sz : Nat) (p0 : Int32) : Met l yX9_cut (xw yX9_cut cX9_cut 2 (some .int)) ({ frames := 1, cells := 0, slots := 0, locals := 21 }) (xPc G cI cJ cZ [.ref h0, .int p0] [(h0, .inr (9, [.int 0, .int 0, .ref k0, .ref k1, .ref k2, .ref k3, .ref k4, .int 0, .ref k5, .int 0, .ref k6, .ref k7, .ref k8, .int 0, .ref k9, .ref k10, .int 0, .ref k11, .ref k12, .ref k13, .int 0, .ref k14, .int 0, .ref k15, .ref k16, .int 0, .int 0, .int 0, .ref k17, .int 0, .ref k18, .ref k19, .ref k20, .ref k21, .ref k22, .ref k23, .ref k24, .ref k25, .ref k26, .ref k27, .ref k28, .ref k29, .ref k30, .ref k31, .ref k32, .int 0, .int 0, .int 0, .int 0, .int 0, .ref k33, .ref k34, .ref k35, .ref k36, .ref k37, .ref k38, .int 0, .ref k39]))] sz) (va_Qi (fun (r : Int32) (_ : Unit) => r = (-1)) (fun (_ : Unit) t => xB G (va_A [(h0, .inr (9, [.int 0, .int 0, .ref k0, .ref k1, .ref k2, .ref k3, .ref k4, .int 0, .ref k5, .int 0, .ref k6, .ref k7, .ref k8, .int 0, .ref k9, .ref k10, .int 0, .ref k11, .ref k12, .ref k13, .int 0, .ref k14, .int 0, .ref k15, .ref k16, .int 0, .int 0, .int 0, .ref k17, .int 0, .ref k18, .ref k19, .ref k20, .ref k21, .ref k22, .ref k23, .ref k24, .ref k25, .ref k26, .ref k27, .ref k28, .ref k29, .ref k30, .ref k31, .ref k32, .int 0, .int 0, .int 0, .int 0, .int 0, .ref k33, .ref k34, .ref k35, .ref k36, .ref k37, .ref k38, .int 0, .ref k39]))] sz) [(h0, .inr (9, [.int 0, .int 0, .ref k0, .ref k1, .ref k2, .ref k3, .ref k4, .int 0, .ref k5, .int 0, .ref k6, .ref k7, .ref k8, .int 0, .ref k9, .ref k10, .int 0, .ref k11, .ref k12, .ref k13, .int 0, .ref k14, .int 0, .ref k15, .ref k16, .int 0, .int 0, .int 0, .ref k17, .int 0, .ref k18, .ref k19, .ref k20, .ref k21, .ref k22, .ref k23, .ref k24, .ref k25, .ref k26, .ref k27, .ref k28, .ref k29, .ref k30, .ref k31, .ref k32, .int 0, .int 0, .int 0, .int 0, .int 0, .ref k33, .ref k34, .ref k35, .ref k36, .ref k37, .ref k38, .int 0, .ref k39]))] t) (va_A [(h0, .inr (9, [.int 0, .int 0, .ref k0, .ref k1, .ref k2, .ref k3, .ref k4, .int 0, .ref k5, .int 0, .ref k6, .ref k7, .ref k8, .int 0, .ref k9, .ref k10, .int 0, .ref k11, .ref k12, .ref k13, .int 0, .ref k14, .int 0, .ref k15, .ref k16, .int 0, .int 0, .int 0, .ref k17, .int 0, .ref k18, .ref k19, .ref k20, .ref k21, .ref k22, .ref k23, .ref k24, .ref k25, .ref k26, .ref k27, .ref k28, .ref k29, .ref k30, .ref k31, .ref k32, .int 0, .int 0, .int 0, .int 0, .int 0, .ref k33, .ref k34, .ref k35, .ref k36, .ref k37, .ref k38, .int 0, .ref k39]))] sz)) 0 0 (va_A [(h0, .inr (9, [.int 0, .int 0, .ref k0, .ref k1, .ref k2, .ref k3, .ref k4, .int 0, .ref k5, .int 0, .ref k6, .ref k7, .ref k8, .int 0, .ref k9, .ref k10, .int 0, .ref k11, .ref k12, .ref k13, .int 0, .ref k14, .int 0, .ref k15, .ref k16, .int 0, .int 0, .int 0, .ref k17, .int 0, .ref k18, .ref k19, .ref k20, .ref k21, .ref k22, .ref k23, .ref k24, .ref k25, .ref k26, .ref k27, .ref k28, .ref k29, .ref k30, .ref k31, .ref k32, .int 0, .int 0, .int 0, .int 0, .int 0, .ref k33, .ref k34, .ref k35, .ref k36, .ref k37, .ref k38, .int 0, .ref k39]))] sz) := by
  refine Met.ofW (cc := cX9_cut) (maxL := 2) (ret := (some .int)) (by decide) rfl ?_
  intro p e s m args below meth c s₁ B hml hv
  obtain ⟨rfl, hsz, hP, hK, hD0, hN⟩ := hv
  have hx := B.exec
  have hb := B.bytes
  have hr := B.returns
  have hts : ∀ w ∈ xW, w.before _ s = true := fun w h => atoms_spec (ws := xw yX9_cut cX9_cut 2 (some .int)) B.pre w (List.mem_cons_of_mem _ h)
  have hown : s.vm.findClass RX9 = some m.cls := findClass_of_methodNamed B.named
  have hlocks := B.notSynchronized
  subst hsz
  have hD := hD0.self (sz := s.heap.size)
  clear hD0
  generalize hAe : va_A [(h0, .inr (9, [.int 0, .int 0, .ref k0, .ref k1, .ref k2, .ref k3, .ref k4, .int 0, .ref k5, .int 0, .ref k6, .ref k7, .ref k8, .int 0, .ref k9, .ref k10, .int 0, .ref k11, .ref k12, .ref k13, .int 0, .ref k14, .int 0, .ref k15, .ref k16, .int 0, .int 0, .int 0, .ref k17, .int 0, .ref k18, .ref k19, .ref k20, .ref k21, .ref k22, .ref k23, .ref k24, .ref k25, .ref k26, .ref k27, .ref k28, .ref k29, .ref k30, .ref k31, .ref k32, .int 0, .int 0, .int 0, .int 0, .int 0, .ref k33, .ref k34, .ref k35, .ref k36, .ref k37, .ref k38, .int 0, .ref k39]))] s.heap.size = A at hD ⊢
  have hA : ∀ q : Nat, s.heap.size ≤ q → A q := fun q h => by rw [← hAe]; exact Or.inr h
  clear hAe
  have hS : va_S A s.heap s.heap [] := va_S.rf
  replace hP : va_P G vwCl [(h0, .inr (9, [.int 0, .int 0, .ref k0, .ref k1, .ref k2, .ref k3, .ref k4, .int 0, .ref k5, .int 0, .ref k6, .ref k7, .ref k8, .int 0, .ref k9, .ref k10, .int 0, .ref k11, .ref k12, .ref k13, .int 0, .ref k14, .int 0, .ref k15, .ref k16, .int 0, .int 0, .int 0, .ref k17, .int 0, .ref k18, .ref k19, .ref k20, .ref k21, .ref k22, .ref k23, .ref k24, .ref k25, .ref k26, .ref k27, .ref k28, .ref k29, .ref k30, .ref k31, .ref k32, .int 0, .int 0, .int 0, .int 0, .int 0, .ref k33, .ref k34, .ref k35, .ref k36, .ref k37, .ref k38, .int 0, .ref k39]))] s.heap := hP
  have hl := lv_entry ([.ref h0, .int p0]) (n := 2) (Nat.le_of_ble_eq_true rfl)
  rw [lg_entry_eq]
  generalize (lg_sl ([.ref h0, .int p0]) ++ List.replicate (2 - (lg_sl ([.ref h0, .int p0])).length) Slot.unset).toArray = ls at hl ⊢
  replace hl : lv_has ls 2 [(0, .ref h0), (1, .int p0)] := hl
  refine lv_aload_n hx hb dX9_cut_0 rfl (lv_at hl 0 rfl) ?_
  refine lv_iload_n hx hb dX9_cut_1 rfl (lv_at hl 1 rfl) ?_
  refine xci (wr := []) (va_runV (As := [.int p0]) (rest := []) ⟨hx, hb, hml, hown, hts⟩ (mX9_isArc l G cI cJ cZ h0 k0 k1 k2 k3 k4 k5 k6 k7 k8 k9 k10 k11 k12 k13 k14 k15 k16 k17 k18 k19 k20 k21 k22 k23 k24 k25 k26 k27 k28 k29 k30 k31 k32 k33 k34 k35 k36 k37 k38 k39 s.heap.size p0) (cwV 1 hts (xgoodV wm_184 wm_185 wm_186 wm_187 wm_177) rfl rfl rfl (by decide +kernel) ⟨Nat.le_of_ble_eq_true rfl, Nat.le_of_ble_eq_true rfl⟩) (xPreV (q := (RX9, TX9, 58)) (q0 := 0) hK hN hP hD [0] (by decide) rfl rfl rfl) rfl rfl hl.1 rfl (lv_room (Nat.le_of_ble_eq_true rfl)) dX9_cut_2 ⟨Nat.le_of_ble_eq_true rfl, Nat.le_of_ble_eq_true rfl⟩) hP hD hS hA [0] [] rfl rfl (by decide) (by decide) (fun r18 _ H locs hw hP hD hS => ?_)
  replace hP : va_P G vwCl [(h0, .inr (9, [.int 0, .int 0, .ref k0, .ref k1, .ref k2, .ref k3, .ref k4, .int 0, .ref k5, .int 0, .ref k6, .ref k7, .ref k8, .int 0, .ref k9, .ref k10, .int 0, .ref k11, .ref k12, .ref k13, .int 0, .ref k14, .int 0, .ref k15, .ref k16, .int 0, .int 0, .int 0, .ref k17, .int 0, .ref k18, .ref k19, .ref k20, .ref k21, .ref k22, .ref k23, .ref k24, .ref k25, .ref k26, .ref k27, .ref k28, .ref k29, .ref k30, .ref k31, .ref k32, .int 0, .int 0, .int 0, .int 0, .int 0, .ref k33, .ref k34, .ref k35, .ref k36, .ref k37, .ref k38, .int 0, .ref k39]))] H := hP
  replace hD : va_D A [(h0, .inr (9, [.int 0, .int 0, .ref k0, .ref k1, .ref k2, .ref k3, .ref k4, .int 0, .ref k5, .int 0, .ref k6, .ref k7, .ref k8, .int 0, .ref k9, .ref k10, .int 0, .ref k11, .ref k12, .ref k13, .int 0, .ref k14, .int 0, .ref k15, .ref k16, .int 0, .int 0, .int 0, .ref k17, .int 0, .ref k18, .ref k19, .ref k20, .ref k21, .ref k22, .ref k23, .ref k24, .ref k25, .ref k26, .ref k27, .ref k28, .ref k29, .ref k30, .ref k31, .ref k32, .int 0, .int 0, .int 0, .int 0, .int 0, .ref k33, .ref k34, .ref k35, .ref k36, .ref k37, .ref k38, .int 0, .ref k39]))] := hD
  obtain rfl : r18 = (0 : Int32) := hw
  refine lv_if_ne (tgt := 10) hx hb dX9_cut_5 (by decide) (fun c15 => ?_) (fun c15 => ?_)
  · exact absurd c15 (by decide)
  refine lv_iconst (v := (-1)) hx hb dX9_cut_8 (by decide) ?_
  have hP9 : va_P G vwCl [(h0, .inr (9, [.int 0, .int 0, .ref k0, .ref k1, .ref k2, .ref k3, .ref k4, .int 0, .ref k5, .int 0, .ref k6, .ref k7, .ref k8, .int 0, .ref k9, .ref k10, .int 0, .ref k11, .ref k12, .ref k13, .int 0, .ref k14, .int 0, .ref k15, .ref k16, .int 0, .int 0, .int 0, .ref k17, .int 0, .ref k18, .ref k19, .ref k20, .ref k21, .ref k22, .ref k23, .ref k24, .ref k25, .ref k26, .ref k27, .ref k28, .ref k29, .ref k30, .ref k31, .ref k32, .int 0, .int 0, .int 0, .int 0, .int 0, .ref k33, .ref k34, .ref k35, .ref k36, .ref k37, .ref k38, .int 0, .ref k39]))] H := hP.sub [0] rfl
  have hD9 : va_D A [(h0, .inr (9, [.int 0, .int 0, .ref k0, .ref k1, .ref k2, .ref k3, .ref k4, .int 0, .ref k5, .int 0, .ref k6, .ref k7, .ref k8, .int 0, .ref k9, .ref k10, .int 0, .ref k11, .ref k12, .ref k13, .int 0, .ref k14, .int 0, .ref k15, .ref k16, .int 0, .int 0, .int 0, .ref k17, .int 0, .ref k18, .ref k19, .ref k20, .ref k21, .ref k22, .ref k23, .ref k24, .ref k25, .ref k26, .ref k27, .ref k28, .ref k29, .ref k30, .ref k31, .ref k32, .int 0, .int 0, .int 0, .int 0, .int 0, .ref k33, .ref k34, .ref k35, .ref k36, .ref k37, .ref k38, .int 0, .ref k39]))] := hD.sub [0] (by decide) rfl
  refine W.widen (k := 0) (n := 0) (by decide) (by decide) ?_
  exact W.iret (v := (-1)) hx hb hr (fun t ht hW => ⟨⟨(-1), (), rfl, rfl, by rw [ht]; exact hP9, hD9⟩, hS.F ht⟩) hS.2.2 dX9_cut_9
set_option maxHeartbeats 4000000 in
set_option maxRecDepth 100000 in
theorem mX3_findNeighbours (l : Launch) (G : va_G) (cI cJ cZ : ClassId) (h0 h1 k0 k1 sz : Nat) : Met l yX3_findNeighbours (xw yX3_findNeighbours cX3_findNeighbours 4 none) ({ frames := 1, cells := 0, slots := 0, locals := 23 }) (xPc G cI cJ cZ [.ref h1, .ref k1, .ref h0] [(h0, aI cI 20 xz), (h1, .inr (3, [.ref k0, .ref k1, .ref h0, .int 0, .int 0, .int 0]))] sz) (va_Qv (fun _ : Unit => True) (fun (_ : Unit) t => xB G (va_A [(h0, aI cI 20 xz), (h1, .inr (3, [.ref k0, .ref k1, .ref h0, .int 0, .int 0, .int 0]))] sz) [(h0, aI cI 20 xz), (h1, .inr (3, [.ref k0, .ref k1, .ref h0, .int 0, .int 0, .int 0]))] t) (va_A [(h0, aI cI 20 xz), (h1, .inr (3, [.ref k0, .ref k1, .ref h0, .int 0, .int 0, .int 0]))] sz)) 0 0 (va_A [(h0, aI cI 20 xz), (h1, .inr (3, [.ref k0, .ref k1, .ref h0, .int 0, .int 0, .int 0]))] sz) := by
  refine Met.ofW (cc := cX3_findNeighbours) (maxL := 4) (ret := none) (by decide) rfl ?_
  intro p e s m args below meth c s₁ B hml hv
  obtain ⟨rfl, hsz, hP, hK, hD0, hN⟩ := hv
  have hx := B.exec
  have hb := B.bytes
  have hr := B.returns
  have hts : ∀ w ∈ xW, w.before _ s = true := fun w h => atoms_spec (ws := xw yX3_findNeighbours cX3_findNeighbours 4 none) B.pre w (List.mem_cons_of_mem _ h)
  have hown : s.vm.findClass RX3 = some m.cls := findClass_of_methodNamed B.named
  have hlocks := B.notSynchronized
  subst hsz
  have hD := hD0.self (sz := s.heap.size)
  clear hD0
  generalize hAe : va_A [(h0, aI cI 20 xz), (h1, .inr (3, [.ref k0, .ref k1, .ref h0, .int 0, .int 0, .int 0]))] s.heap.size = A at hD ⊢
  have hA : ∀ q : Nat, s.heap.size ≤ q → A q := fun q h => by rw [← hAe]; exact Or.inr h
  clear hAe
  have hS : va_S A s.heap s.heap [] := va_S.rf
  replace hP : va_P G vwCl [(h0, aI cI 20 xz), (h1, .inr (3, [.ref k0, .ref k1, .ref h0, .int 0, .int 0, .int 0]))] s.heap := hP
  have hl := lv_entry ([.ref h1, .ref k1, .ref h0]) (n := 4) (Nat.le_of_ble_eq_true rfl)
  rw [lg_entry_eq]
  generalize (lg_sl ([.ref h1, .ref k1, .ref h0]) ++ List.replicate (4 - (lg_sl ([.ref h1, .ref k1, .ref h0])).length) Slot.unset).toArray = ls at hl ⊢
  replace hl : lv_has ls 4 [(0, .ref h1), (1, .ref k1), (2, .ref h0)] := hl
  refine lv_aload_n hx hb dX3_findNeighbours_0 rfl (lv_at hl 2 rfl) ?_
  refine lv_iconst (v := 0) hx hb dX3_findNeighbours_1 (by decide) ?_
  refine xcv (wr := [(h1, .inr (3, [.ref k0, .ref k1, .ref h0, .int 0, .int 0, .int 0]))]) (va_runS (As := [.ref h0, .int 0]) (rest := []) ⟨hx, hb, hml, hown, hts⟩ (mJ7_fill_53178 l G cI cJ cZ h0 s.heap.size 20 xz 0 (by decide)) (va_cwS 2 hts (xgoodS wm_189 wm_190 wm_191 wm_192) rfl rfl rfl (by decide +kernel) ⟨Nat.le_of_ble_eq_true rfl, Nat.le_of_ble_eq_true rfl⟩) (xPreS hK hN hP hD [0] (by decide) rfl) rfl rfl hl.1 rfl (lv_room (Nat.le_of_ble_eq_true rfl)) dX3_findNeighbours_2 ⟨Nat.le_of_ble_eq_true rfl, Nat.le_of_ble_eq_true rfl⟩) hP hD hS hA [0] [1] rfl rfl (by decide) (by decide) (fun _ H locs hw hP hD hS => ?_)
  replace hP : va_P G vwCl [(h1, .inr (3, [.ref k0, .ref k1, .ref h0, .int 0, .int 0, .int 0])), (h0, aI cI 20 xz)] H := hP
  replace hD : va_D A [(h1, .inr (3, [.ref k0, .ref k1, .ref h0, .int 0, .int 0, .int 0])), (h0, aI cI 20 xz)] := hD
  refine lv_iconst (v := 0) hx hb dX3_findNeighbours_5 (by decide) ?_
  refine lv_istore_n (lv' := [(3, .int 0), (0, .ref h1), (1, .ref k1), (2, .ref h0)]) hx hb dX3_findNeighbours_6 rfl hl (by decide) rfl (fun ls hl => ?_)
  refine lv_iload_n hx hb dX3_findNeighbours_7 rfl (lv_at hl 0 rfl) ?_
  refine lv_aload_n hx hb dX3_findNeighbours_8 rfl (lv_at hl 1 rfl) ?_
  refine va_get (D := G) (ci := 3) (v := .int 0) (C := RX3) (T := TX3) (N := 6) hx hb hts xinX3 hown hK hP 0 rfl rfl 4 (by decide) (hts _ wm_178) (fun _ h9 => h9) rfl dX3_findNeighbours_9 ?_
  refine lv_icmp_ge (tgt := 85) hx hb dX3_findNeighbours_12 (by decide) (fun c16 => ?_) (fun c16 => ?_)
  rotate_left
  · exact absurd c16 (by decide)
  have hP9 : va_P G vwCl [(h0, aI cI 20 xz), (h1, .inr (3, [.ref k0, .ref k1, .ref h0, .int 0, .int 0, .int 0]))] H := hP.sub [1, 0] rfl
  have hD9 : va_D A [(h0, aI cI 20 xz), (h1, .inr (3, [.ref k0, .ref k1, .ref h0, .int 0, .int 0, .int 0]))] := hD.sub [1, 0] (by decide) rfl
  refine W.widen (k := 0) (n := 0) (by decide) (by decide) ?_
  exact W.vret hx hb hr (fun t ht hW => ⟨⟨(), rfl, trivial, by rw [ht]; exact hP9, hD9⟩, hS.F ht⟩) hS.2.2 dX3_findNeighbours_85
set_option maxHeartbeats 4000000 in
set_option maxRecDepth 100000 in
theorem mX3_empty (l : Launch) (G : va_G) (cI cJ cZ : ClassId) (h0 h1 k0 k1 sz : Nat) : Met l yX3_empty (xw yX3_empty cX3_empty 1 none) ({ frames := 2, cells := 0, slots := 0, locals := 46 }) (xPc G cI cJ cZ [.ref h0] [(h0, .inr (3, [.ref k0, .ref k1, .ref h1, .int 0, .int 0, .int 0])), (h1, aI cI 20 xz)] sz) (va_Qv (fun _ : Unit => True) (fun (_ : Unit) t => xB G (va_A [(h0, .inr (3, [.ref k0, .ref k1, .ref h1, .int 0, .int 0, .int 0])), (h1, aI cI 20 xz)] sz) [(h0, .inr (3, [.ref k0, .ref k1, .ref h1, .int 0, .int 0, .int 0])), (h1, aI cI 20 xz)] t) (va_A [(h0, .inr (3, [.ref k0, .ref k1, .ref h1, .int 0, .int 0, .int 0])), (h1, aI cI 20 xz)] sz)) 0 0 (va_A [(h0, .inr (3, [.ref k0, .ref k1, .ref h1, .int 0, .int 0, .int 0])), (h1, aI cI 20 xz)] sz) := by
  refine Met.ofW (cc := cX3_empty) (maxL := 1) (ret := none) (by decide) rfl ?_
  intro p e s m args below meth c s₁ B hml hv
  obtain ⟨rfl, hsz, hP, hK, hD0, hN⟩ := hv
  have hx := B.exec
  have hb := B.bytes
  have hr := B.returns
  have hts : ∀ w ∈ xW, w.before _ s = true := fun w h => atoms_spec (ws := xw yX3_empty cX3_empty 1 none) B.pre w (List.mem_cons_of_mem _ h)
  have hown : s.vm.findClass RX3 = some m.cls := findClass_of_methodNamed B.named
  have hlocks := B.notSynchronized
  subst hsz
  have hD := hD0.self (sz := s.heap.size)
  clear hD0
  generalize hAe : va_A [(h0, .inr (3, [.ref k0, .ref k1, .ref h1, .int 0, .int 0, .int 0])), (h1, aI cI 20 xz)] s.heap.size = A at hD ⊢
  have hA : ∀ q : Nat, s.heap.size ≤ q → A q := fun q h => by rw [← hAe]; exact Or.inr h
  clear hAe
  have hS : va_S A s.heap s.heap [] := va_S.rf
  replace hP : va_P G vwCl [(h0, .inr (3, [.ref k0, .ref k1, .ref h1, .int 0, .int 0, .int 0])), (h1, aI cI 20 xz)] s.heap := hP
  have hl := lv_entry ([.ref h0]) (n := 1) (Nat.le_of_ble_eq_true rfl)
  rw [lg_entry_eq]
  generalize (lg_sl ([.ref h0]) ++ List.replicate (1 - (lg_sl ([.ref h0])).length) Slot.unset).toArray = ls at hl ⊢
  replace hl : lv_has ls 1 [(0, .ref h0)] := hl
  refine lv_aload_n hx hb dX3_empty_0 rfl (lv_at hl 0 rfl) ?_
  refine lv_iconst (v := 0) hx hb dX3_empty_1 (by decide) ?_
  refine va_put (D := G) (ci := 3) (v := .int 0) (ty := .int) (C := RX3) (T := TX3) (N := 6) hx hb hts xinX3 tyX3 tyX3_ok nmX3 hown hK hP hD hS 0 rfl rfl 3 (by decide) (hts _ wm_162) (fun _ h9 => h9) rfl (by decide +kernel) rfl rfl (Nat.le_of_ble_eq_true rfl) dX3_empty_2 (fun H locs hP hD hS => ?_)
  replace hP : va_P G vwCl [(h0, .inr (3, [.ref k0, .ref k1, .ref h1, .int 0, .int 0, .int 0])), (h1, aI cI 20 xz)] H := hP
  replace hD : va_D A [(h0, .inr (3, [.ref k0, .ref k1, .ref h1, .int 0, .int 0, .int 0])), (h1, aI cI 20 xz)] := hD
  refine lv_aload_n hx hb dX3_empty_5 rfl (lv_at hl 0 rfl) ?_
  refine lv_iconst (v := 0) hx hb dX3_empty_6 (by decide) ?_
  refine va_put (D := G) (ci := 3) (v := .int 0) (ty := .int) (C := RX3) (T := TX3) (N := 6) hx hb hts xinX3 tyX3 tyX3_ok nmX3 hown hK hP hD hS 0 rfl rfl 4 (by decide) (hts _ wm_178) (fun _ h9 => h9) rfl (by decide +kernel) rfl rfl (Nat.le_of_ble_eq_true rfl) dX3_empty_7 (fun H locs hP hD hS => ?_)
  replace hP : va_P G vwCl [(h0, .inr (3, [.ref k0, .ref k1, .ref h1, .int 0, .int 0, .int 0])), (h1, aI cI 20 xz)] H := hP
  replace hD : va_D A [(h0, .inr (3, [.ref k0, .ref k1, .ref h1, .int 0, .int 0, .int 0])), (h1, aI cI 20 xz)] := hD
  refine lv_aload_n hx hb dX3_empty_10 rfl (lv_at hl 0 rfl) ?_
  refine lv_iconst (v := 0) hx hb dX3_empty_11 (by decide) ?_
  refine va_put (D := G) (ci := 3) (v := .int 0) (ty := .int) (C := RX3) (T := TX3) (N := 6) hx hb hts xinX3 tyX3 tyX3_ok nmX3 hown hK hP hD hS 0 rfl rfl 5 (by decide) (hts _ wm_188) (fun _ h9 => h9) rfl (by decide +kernel) rfl rfl (Nat.le_of_ble_eq_true rfl) dX3_empty_12 (fun H locs hP hD hS => ?_)
  replace hP : va_P G vwCl [(h0, .inr (3, [.ref k0, .ref k1, .ref h1, .int 0, .int 0, .int 0])), (h1, aI cI 20 xz)] H := hP
  replace hD : va_D A [(h0, .inr (3, [.ref k0, .ref k1, .ref h1, .int 0, .int 0, .int 0])), (h1, aI cI 20 xz)] := hD
  refine lv_aload_n hx hb dX3_empty_15 rfl (lv_at hl 0 rfl) ?_
  refine lv_aload_n hx hb dX3_empty_16 rfl (lv_at hl 0 rfl) ?_
  refine va_get (D := G) (ci := 3) (v := .ref k1) (C := RX3) (T := TX3) (N := 6) hx hb hts xinX3 hown hK hP 0 rfl rfl 1 (by decide) (hts _ wm_10) (fun _ h9 => h9) rfl dX3_empty_17 ?_
  refine lv_aload_n hx hb dX3_empty_20 rfl (lv_at hl 0 rfl) ?_
  refine va_get (D := G) (ci := 3) (v := .ref h1) (C := RX3) (T := TX3) (N := 6) hx hb hts xinX3 hown hK hP 0 rfl rfl 2 (by decide) (hts _ wm_11) (fun _ h9 => h9) rfl dX3_empty_21 ?_
  refine xcv (wr := []) (va_runV (As := [.ref k1, .ref h1]) (rest := []) ⟨hx, hb, hml, hown, hts⟩ (mX3_findNeighbours l G cI cJ cZ h1 h0 k0 k1 H.size ) (cwV 2 hts (xgoodV wm_193 wm_194 wm_195 wm_196 wm_5) rfl rfl rfl (by decide +kernel) ⟨Nat.le_of_ble_eq_true rfl, Nat.le_of_ble_eq_true rfl⟩) (xPreV (q := (RX3, TX3, 6)) (q0 := 0) hK hN hP hD [1, 0] (by decide) rfl rfl rfl) rfl rfl hl.1 rfl (lv_room (Nat.le_of_ble_eq_true rfl)) dX3_empty_24 ⟨Nat.le_of_ble_eq_true rfl, Nat.le_of_ble_eq_true rfl⟩) hP hD hS hA [1, 0] [] rfl rfl (by decide) (by decide) (fun _ H locs hw hP hD hS => ?_)
  replace hP : va_P G vwCl [(h1, aI cI 20 xz), (h0, .inr (3, [.ref k0, .ref k1, .ref h1, .int 0, .int 0, .int 0]))] H := hP
  replace hD : va_D A [(h1, aI cI 20 xz), (h0, .inr (3, [.ref k0, .ref k1, .ref h1, .int 0, .int 0, .int 0]))] := hD
  have hP9 : va_P G vwCl [(h0, .inr (3, [.ref k0, .ref k1, .ref h1, .int 0, .int 0, .int 0])), (h1, aI cI 20 xz)] H := hP.sub [1, 0] rfl
  have hD9 : va_D A [(h0, .inr (3, [.ref k0, .ref k1, .ref h1, .int 0, .int 0, .int 0])), (h1, aI cI 20 xz)] := hD.sub [1, 0] (by decide) rfl
  refine W.widen (k := 0) (n := 0) (by decide) (by decide) ?_
  exact W.vret hx hb hr (fun t ht hW => ⟨⟨(), rfl, trivial, by rw [ht]; exact hP9, hD9⟩, hS.F ht⟩) hS.2.2 dX3_empty_27
set_option maxHeartbeats 4000000 in
set_option maxRecDepth 100000 in
theorem mX7_empty (l : Launch) (G : va_G) (cI cJ cZ : ClassId) (h0 k0 k1 sz : Nat) : Met l yX7_empty (xw yX7_empty cX7_empty 1 none) ({ frames := 0, cells := 0, slots := 0, locals := 0 }) (xPc G cI cJ cZ [.ref h0] [(h0, .inr (7, [.ref k0, .ref k1, .int 0]))] sz) (va_Qv (fun _ : Unit => True) (fun (_ : Unit) t => xB G (va_A [(h0, .inr (7, [.ref k0, .ref k1, .int 0]))] sz) [(h0, .inr (7, [.ref k0, .ref k1, .int 0]))] t) (va_A [(h0, .inr (7, [.ref k0, .ref k1, .int 0]))] sz)) 0 0 (va_A [(h0, .inr (7, [.ref k0, .ref k1, .int 0]))] sz) := by
  refine Met.ofW (cc := cX7_empty) (maxL := 1) (ret := none) (by decide) rfl ?_
  intro p e s m args below meth c s₁ B hml hv
  obtain ⟨rfl, hsz, hP, hK, hD0, hN⟩ := hv
  have hx := B.exec
  have hb := B.bytes
  have hr := B.returns
  have hts : ∀ w ∈ xW, w.before _ s = true := fun w h => atoms_spec (ws := xw yX7_empty cX7_empty 1 none) B.pre w (List.mem_cons_of_mem _ h)
  have hown : s.vm.findClass RX7 = some m.cls := findClass_of_methodNamed B.named
  have hlocks := B.notSynchronized
  subst hsz
  have hD := hD0.self (sz := s.heap.size)
  clear hD0
  generalize hAe : va_A [(h0, .inr (7, [.ref k0, .ref k1, .int 0]))] s.heap.size = A at hD ⊢
  have hA : ∀ q : Nat, s.heap.size ≤ q → A q := fun q h => by rw [← hAe]; exact Or.inr h
  clear hAe
  have hS : va_S A s.heap s.heap [] := va_S.rf
  replace hP : va_P G vwCl [(h0, .inr (7, [.ref k0, .ref k1, .int 0]))] s.heap := hP
  have hl := lv_entry ([.ref h0]) (n := 1) (Nat.le_of_ble_eq_true rfl)
  rw [lg_entry_eq]
  generalize (lg_sl ([.ref h0]) ++ List.replicate (1 - (lg_sl ([.ref h0])).length) Slot.unset).toArray = ls at hl ⊢
  replace hl : lv_has ls 1 [(0, .ref h0)] := hl
  refine lv_aload_n hx hb dX7_empty_0 rfl (lv_at hl 0 rfl) ?_
  refine lv_iconst (v := 0) hx hb dX7_empty_1 (by decide) ?_
  refine va_put (D := G) (ci := 7) (v := .int 0) (ty := .int) (C := RX7) (T := TX7) (N := 3) hx hb hts xinX7 tyX7 tyX7_ok nmX7 hown hK hP hD hS 0 rfl rfl 2 (by decide) (hts _ wm_157) (fun _ h9 => h9) rfl (by decide +kernel) rfl rfl (Nat.le_of_ble_eq_true rfl) dX7_empty_2 (fun H locs hP hD hS => ?_)
  replace hP : va_P G vwCl [(h0, .inr (7, [.ref k0, .ref k1, .int 0]))] H := hP
  replace hD : va_D A [(h0, .inr (7, [.ref k0, .ref k1, .int 0]))] := hD
  have hP9 : va_P G vwCl [(h0, .inr (7, [.ref k0, .ref k1, .int 0]))] H := hP.sub [0] rfl
  have hD9 : va_D A [(h0, .inr (7, [.ref k0, .ref k1, .int 0]))] := hD.sub [0] (by decide) rfl
  refine W.widen (k := 0) (n := 0) (by decide) (by decide) ?_
  exact W.vret hx hb hr (fun t ht hW => ⟨⟨(), rfl, trivial, by rw [ht]; exact hP9, hD9⟩, hS.F ht⟩) hS.2.2 dX7_empty_5
set_option maxHeartbeats 4000000 in
set_option maxRecDepth 100000 in
theorem mX8_clear (l : Launch) (G : va_G) (cI cJ cZ : ClassId) (h0 h1 h2 h3 k0 k1 k2 k3 k4 k5 k6 k7 k8 k9 k10 k11 k12 sz : Nat) : Met l yX8_clear (xw yX8_clear cX8_clear 2 (some .int)) ({ frames := 3, cells := 0, slots := 0, locals := 66 }) (xPc G cI cJ cZ [.ref h0] [(h0, .inr (8, [.ref h1, .ref h3, .ref k0, .ref k1, .ref k2, .ref k3, .ref k4, .ref k5, .ref k6, .ref k7, .ref k8, .int 0, .int 0, .int 0, .int 0, .int 0])), (h1, .inr (3, [.ref k9, .ref k10, .ref h2, .int 0, .int 0, .int 0])), (h2, aI cI 20 xz), (h3, .inr (7, [.ref k11, .ref k12, .int 0]))] sz) (va_Qi (fun (r : Int32) (_ : Unit) => r = 0) (fun (_ : Unit) t => xB G (va_A [(h0, .inr (8, [.ref h1, .ref h3, .ref k0, .ref k1, .ref k2, .ref k3, .ref k4, .ref k5, .ref k6, .ref k7, .ref k8, .int 0, .int 0, .int 0, .int 0, .int 0])), (h1, .inr (3, [.ref k9, .ref k10, .ref h2, .int 0, .int 0, .int 0])), (h2, aI cI 20 xz), (h3, .inr (7, [.ref k11, .ref k12, .int 0]))] sz) [(h0, .inr (8, [.ref h1, .ref h3, .ref k0, .ref k1, .ref k2, .ref k3, .ref k4, .ref k5, .ref k6, .ref k7, .ref k8, .int 0, .int 0, .int 0, .int 0, .int 0])), (h1, .inr (3, [.ref k9, .ref k10, .ref h2, .int 0, .int 0, .int 0])), (h2, aI cI 20 xz), (h3, .inr (7, [.ref k11, .ref k12, .int 0]))] t) (va_A [(h0, .inr (8, [.ref h1, .ref h3, .ref k0, .ref k1, .ref k2, .ref k3, .ref k4, .ref k5, .ref k6, .ref k7, .ref k8, .int 0, .int 0, .int 0, .int 0, .int 0])), (h1, .inr (3, [.ref k9, .ref k10, .ref h2, .int 0, .int 0, .int 0])), (h2, aI cI 20 xz), (h3, .inr (7, [.ref k11, .ref k12, .int 0]))] sz)) 0 0 (va_A [(h0, .inr (8, [.ref h1, .ref h3, .ref k0, .ref k1, .ref k2, .ref k3, .ref k4, .ref k5, .ref k6, .ref k7, .ref k8, .int 0, .int 0, .int 0, .int 0, .int 0])), (h1, .inr (3, [.ref k9, .ref k10, .ref h2, .int 0, .int 0, .int 0])), (h2, aI cI 20 xz), (h3, .inr (7, [.ref k11, .ref k12, .int 0]))] sz) := by
  refine Met.ofW (cc := cX8_clear) (maxL := 2) (ret := (some .int)) (by decide) rfl ?_
  intro p e s m args below meth c s₁ B hml hv
  obtain ⟨rfl, hsz, hP, hK, hD0, hN⟩ := hv
  have hx := B.exec
  have hb := B.bytes
  have hr := B.returns
  have hts : ∀ w ∈ xW, w.before _ s = true := fun w h => atoms_spec (ws := xw yX8_clear cX8_clear 2 (some .int)) B.pre w (List.mem_cons_of_mem _ h)
  have hown : s.vm.findClass RX8 = some m.cls := findClass_of_methodNamed B.named
  have hlocks := B.notSynchronized
  subst hsz
  have hD := hD0.self (sz := s.heap.size)
  clear hD0
  generalize hAe : va_A [(h0, .inr (8, [.ref h1, .ref h3, .ref k0, .ref k1, .ref k2, .ref k3, .ref k4, .ref k5, .ref k6, .ref k7, .ref k8, .int 0, .int 0, .int 0, .int 0, .int 0])), (h1, .inr (3, [.ref k9, .ref k10, .ref h2, .int 0, .int 0, .int 0])), (h2, aI cI 20 xz), (h3, .inr (7, [.ref k11, .ref k12, .int 0]))] s.heap.size = A at hD ⊢
  have hA : ∀ q : Nat, s.heap.size ≤ q → A q := fun q h => by rw [← hAe]; exact Or.inr h
  clear hAe
  have hS : va_S A s.heap s.heap [] := va_S.rf
  replace hP : va_P G vwCl [(h0, .inr (8, [.ref h1, .ref h3, .ref k0, .ref k1, .ref k2, .ref k3, .ref k4, .ref k5, .ref k6, .ref k7, .ref k8, .int 0, .int 0, .int 0, .int 0, .int 0])), (h1, .inr (3, [.ref k9, .ref k10, .ref h2, .int 0, .int 0, .int 0])), (h2, aI cI 20 xz), (h3, .inr (7, [.ref k11, .ref k12, .int 0]))] s.heap := hP
  have hl := lv_entry ([.ref h0]) (n := 2) (Nat.le_of_ble_eq_true rfl)
  rw [lg_entry_eq]
  generalize (lg_sl ([.ref h0]) ++ List.replicate (2 - (lg_sl ([.ref h0])).length) Slot.unset).toArray = ls at hl ⊢
  replace hl : lv_has ls 2 [(0, .ref h0)] := hl
  refine lv_aload_n hx hb dX8_clear_0 rfl (lv_at hl 0 rfl) ?_
  refine va_get (D := G) (ci := 8) (v := .ref h1) (C := RX8) (T := TX8) (N := 16) hx hb hts xinX8 hown hK hP 0 rfl rfl 0 (by decide) (hts _ wm_14) (fun _ h9 => h9) rfl dX8_clear_1 ?_
  refine va_getN (D := G) (ci := 3) (v := .int 0) (C := RX3) (T := TX3) (N := 6) hx hb hts xinX3 hown hK hP 1 rfl rfl 3 (by decide) (va_Nw.use rfl (hN.1 ("PlaneTests", 81, "PlaneTests$Graph", "nodes", "I", "PlaneTests") (by decide +kernel))) (fun _ h9 => h9) rfl dX8_clear_4 ?_
  refine lv_istore_n (lv' := [(1, .int 0), (0, .ref h0)]) hx hb dX8_clear_7 rfl hl (by decide) rfl (fun ls hl => ?_)
  refine lv_aload_n hx hb dX8_clear_8 rfl (lv_at hl 1 rfl) ?_
  refine xcv (wr := [(h1, .inr (3, [.ref k9, .ref k10, .ref h2, .int 0, .int 0, .int 0])), (h2, aI cI 20 xz), (h3, .inr (7, [.ref k11, .ref k12, .int 0]))]) (va_runV (As := []) (rest := []) ⟨hx, hb, hml, hown, hts⟩ (mX8_forget l G cI cJ cZ h0 h1 h3 k0 k1 k2 k3 k4 k5 k6 k7 k8 s.heap.size ) (cwV 0 hts (xgoodV wm_152 wm_153 wm_154 wm_155 wm_156) rfl rfl rfl (by decide +kernel) ⟨Nat.le_of_ble_eq_true rfl, Nat.le_of_ble_eq_true rfl⟩) (xPreV (q := (RX8, TX8, 16)) (q0 := 0) hK hN hP hD [0] (by decide) rfl rfl rfl) rfl rfl hl.1 rfl (lv_room (Nat.le_of_ble_eq_true rfl)) dX8_clear_9 ⟨Nat.le_of_ble_eq_true rfl, Nat.le_of_ble_eq_true rfl⟩) hP hD hS hA [0] [1, 2, 3] rfl rfl (by decide) (by decide) (fun _ H locs hw hP hD hS => ?_)
  replace hP : va_P G vwCl [(h1, .inr (3, [.ref k9, .ref k10, .ref h2, .int 0, .int 0, .int 0])), (h2, aI cI 20 xz), (h3, .inr (7, [.ref k11, .ref k12, .int 0])), (h0, .inr (8, [.ref h1, .ref h3, .ref k0, .ref k1, .ref k2, .ref k3, .ref k4, .ref k5, .ref k6, .ref k7, .ref k8, .int 0, .int 0, .int 0, .int 0, .int 0]))] H := hP
  replace hD : va_D A [(h1, .inr (3, [.ref k9, .ref k10, .ref h2, .int 0, .int 0, .int 0])), (h2, aI cI 20 xz), (h3, .inr (7, [.ref k11, .ref k12, .int 0])), (h0, .inr (8, [.ref h1, .ref h3, .ref k0, .ref k1, .ref k2, .ref k3, .ref k4, .ref k5, .ref k6, .ref k7, .ref k8, .int 0, .int 0, .int 0, .int 0, .int 0]))] := hD
  refine lv_aload_n hx hb dX8_clear_12 rfl (lv_at hl 1 rfl) ?_
  refine va_get (D := G) (ci := 8) (v := .ref h1) (C := RX8) (T := TX8) (N := 16) hx hb hts xinX8 hown hK hP 3 rfl rfl 0 (by decide) (hts _ wm_14) (fun _ h9 => h9) rfl dX8_clear_13 ?_
  refine xcv (wr := [(h3, .inr (7, [.ref k11, .ref k12, .int 0])), (h0, .inr (8, [.ref h1, .ref h3, .ref k0, .ref k1, .ref k2, .ref k3, .ref k4, .ref k5, .ref k6, .ref k7, .ref k8, .int 0, .int 0, .int 0, .int 0, .int 0]))]) (va_runV (As := []) (rest := []) ⟨hx, hb, hml, hown, hts⟩ (mX3_empty l G cI cJ cZ h1 h2 k9 k10 H.size ) (cwV 0 hts (xgoodV wm_197 wm_198 wm_199 wm_200 wm_5) rfl rfl rfl (by decide +kernel) ⟨Nat.le_of_ble_eq_true rfl, Nat.le_of_ble_eq_true rfl⟩) (xPreV (q := (RX3, TX3, 6)) (q0 := 0) hK hN hP hD [0, 1] (by decide) rfl rfl rfl) rfl rfl hl.1 rfl (lv_room (Nat.le_of_ble_eq_true rfl)) dX8_clear_16 ⟨Nat.le_of_ble_eq_true rfl, Nat.le_of_ble_eq_true rfl⟩) hP hD hS hA [0, 1] [2, 3] rfl rfl (by decide) (by decide) (fun _ H locs hw hP hD hS => ?_)
  replace hP : va_P G vwCl [(h3, .inr (7, [.ref k11, .ref k12, .int 0])), (h0, .inr (8, [.ref h1, .ref h3, .ref k0, .ref k1, .ref k2, .ref k3, .ref k4, .ref k5, .ref k6, .ref k7, .ref k8, .int 0, .int 0, .int 0, .int 0, .int 0])), (h1, .inr (3, [.ref k9, .ref k10, .ref h2, .int 0, .int 0, .int 0])), (h2, aI cI 20 xz)] H := hP
  replace hD : va_D A [(h3, .inr (7, [.ref k11, .ref k12, .int 0])), (h0, .inr (8, [.ref h1, .ref h3, .ref k0, .ref k1, .ref k2, .ref k3, .ref k4, .ref k5, .ref k6, .ref k7, .ref k8, .int 0, .int 0, .int 0, .int 0, .int 0])), (h1, .inr (3, [.ref k9, .ref k10, .ref h2, .int 0, .int 0, .int 0])), (h2, aI cI 20 xz)] := hD
  refine lv_aload_n hx hb dX8_clear_19 rfl (lv_at hl 1 rfl) ?_
  refine va_get (D := G) (ci := 8) (v := .ref h3) (C := RX8) (T := TX8) (N := 16) hx hb hts xinX8 hown hK hP 1 rfl rfl 1 (by decide) (hts _ wm_23) (fun _ h9 => h9) rfl dX8_clear_20 ?_
  refine xcv (wr := [(h0, .inr (8, [.ref h1, .ref h3, .ref k0, .ref k1, .ref k2, .ref k3, .ref k4, .ref k5, .ref k6, .ref k7, .ref k8, .int 0, .int 0, .int 0, .int 0, .int 0])), (h1, .inr (3, [.ref k9, .ref k10, .ref h2, .int 0, .int 0, .int 0])), (h2, aI cI 20 xz)]) (va_runV (As := []) (rest := []) ⟨hx, hb, hml, hown, hts⟩ (mX7_empty l G cI cJ cZ h3 k11 k12 H.size ) (cwV 0 hts (xgoodV wm_201 wm_202 wm_203 wm_204 wm_17) rfl rfl rfl (by decide +kernel) ⟨Nat.le_of_ble_eq_true rfl, Nat.le_of_ble_eq_true rfl⟩) (xPreV (q := (RX7, TX7, 3)) (q0 := 0) hK hN hP hD [0] (by decide) rfl rfl rfl) rfl rfl hl.1 rfl (lv_room (Nat.le_of_ble_eq_true rfl)) dX8_clear_23 ⟨Nat.le_of_ble_eq_true rfl, Nat.le_of_ble_eq_true rfl⟩) hP hD hS hA [0] [1, 2, 3] rfl rfl (by decide) (by decide) (fun _ H locs hw hP hD hS => ?_)
  replace hP : va_P G vwCl [(h0, .inr (8, [.ref h1, .ref h3, .ref k0, .ref k1, .ref k2, .ref k3, .ref k4, .ref k5, .ref k6, .ref k7, .ref k8, .int 0, .int 0, .int 0, .int 0, .int 0])), (h1, .inr (3, [.ref k9, .ref k10, .ref h2, .int 0, .int 0, .int 0])), (h2, aI cI 20 xz), (h3, .inr (7, [.ref k11, .ref k12, .int 0]))] H := hP
  replace hD : va_D A [(h0, .inr (8, [.ref h1, .ref h3, .ref k0, .ref k1, .ref k2, .ref k3, .ref k4, .ref k5, .ref k6, .ref k7, .ref k8, .int 0, .int 0, .int 0, .int 0, .int 0])), (h1, .inr (3, [.ref k9, .ref k10, .ref h2, .int 0, .int 0, .int 0])), (h2, aI cI 20 xz), (h3, .inr (7, [.ref k11, .ref k12, .int 0]))] := hD
  refine lv_iload_n hx hb dX8_clear_26 rfl (lv_at hl 0 rfl) ?_
  have hP9 : va_P G vwCl [(h0, .inr (8, [.ref h1, .ref h3, .ref k0, .ref k1, .ref k2, .ref k3, .ref k4, .ref k5, .ref k6, .ref k7, .ref k8, .int 0, .int 0, .int 0, .int 0, .int 0])), (h1, .inr (3, [.ref k9, .ref k10, .ref h2, .int 0, .int 0, .int 0])), (h2, aI cI 20 xz), (h3, .inr (7, [.ref k11, .ref k12, .int 0]))] H := hP.sub [0, 1, 2, 3] rfl
  have hD9 : va_D A [(h0, .inr (8, [.ref h1, .ref h3, .ref k0, .ref k1, .ref k2, .ref k3, .ref k4, .ref k5, .ref k6, .ref k7, .ref k8, .int 0, .int 0, .int 0, .int 0, .int 0])), (h1, .inr (3, [.ref k9, .ref k10, .ref h2, .int 0, .int 0, .int 0])), (h2, aI cI 20 xz), (h3, .inr (7, [.ref k11, .ref k12, .int 0]))] := hD.sub [0, 1, 2, 3] (by decide) rfl
  refine W.widen (k := 0) (n := 0) (by decide) (by decide) ?_
  exact W.iret (v := 0) hx hb hr (fun t ht hW => ⟨⟨0, (), rfl, rfl, by rw [ht]; exact hP9, hD9⟩, hS.F ht⟩) hS.2.2 dX8_clear_27
set_option maxHeartbeats 4000000 in
set_option maxRecDepth 100000 in
theorem mX9_clear (l : Launch) (G : va_G) (cI cJ cZ : ClassId) (h0 k0 k1 k2 k3 k4 k5 k6 k7 k8 k9 k10 k11 k12 k13 k14 k15 k16 k17 k18 k19 k20 k21 k22 k23 k24 k25 k26 k27 k28 k29 k30 k31 k32 k33 k34 k35 k36 k37 k38 k39 sz : Nat) : Met l yX9_clear (xw yX9_clear cX9_clear 2 (some .int)) ({ frames := 0, cells := 0, slots := 0, locals := 0 }) (xPc G cI cJ cZ [.ref h0] [(h0, .inr (9, [.int 0, .int 0, .ref k0, .ref k1, .ref k2, .ref k3, .ref k4, .int 0, .ref k5, .int 0, .ref k6, .ref k7, .ref k8, .int 0, .ref k9, .ref k10, .int 0, .ref k11, .ref k12, .ref k13, .int 0, .ref k14, .int 0, .ref k15, .ref k16, .int 0, .int 0, .int 0, .ref k17, .int 0, .ref k18, .ref k19, .ref k20, .ref k21, .ref k22, .ref k23, .ref k24, .ref k25, .ref k26, .ref k27, .ref k28, .ref k29, .ref k30, .ref k31, .ref k32, .int 0, .int 0, .int 0, .int 0, .int 0, .ref k33, .ref k34, .ref k35, .ref k36, .ref k37, .ref k38, .int 0, .ref k39]))] sz) (va_Qi (fun (r : Int32) (_ : Unit) => r = 0) (fun (_ : Unit) t => xB G (va_A [(h0, .inr (9, [.int 0, .int 0, .ref k0, .ref k1, .ref k2, .ref k3, .ref k4, .int 0, .ref k5, .int 0, .ref k6, .ref k7, .ref k8, .int 0, .ref k9, .ref k10, .int 0, .ref k11, .ref k12, .ref k13, .int 0, .ref k14, .int 0, .ref k15, .ref k16, .int 0, .int 0, .int 0, .ref k17, .int 0, .ref k18, .ref k19, .ref k20, .ref k21, .ref k22, .ref k23, .ref k24, .ref k25, .ref k26, .ref k27, .ref k28, .ref k29, .ref k30, .ref k31, .ref k32, .int 0, .int 0, .int 0, .int 0, .int 0, .ref k33, .ref k34, .ref k35, .ref k36, .ref k37, .ref k38, .int 0, .ref k39]))] sz) [(h0, .inr (9, [.int 0, .int 0, .ref k0, .ref k1, .ref k2, .ref k3, .ref k4, .int 0, .ref k5, .int 0, .ref k6, .ref k7, .ref k8, .int 0, .ref k9, .ref k10, .int 0, .ref k11, .ref k12, .ref k13, .int 0, .ref k14, .int 0, .ref k15, .ref k16, .int 0, .int 0, .int 0, .ref k17, .int 0, .ref k18, .ref k19, .ref k20, .ref k21, .ref k22, .ref k23, .ref k24, .ref k25, .ref k26, .ref k27, .ref k28, .ref k29, .ref k30, .ref k31, .ref k32, .int 0, .int 0, .int 0, .int 0, .int 0, .ref k33, .ref k34, .ref k35, .ref k36, .ref k37, .ref k38, .int 0, .ref k39]))] t) (va_A [(h0, .inr (9, [.int 0, .int 0, .ref k0, .ref k1, .ref k2, .ref k3, .ref k4, .int 0, .ref k5, .int 0, .ref k6, .ref k7, .ref k8, .int 0, .ref k9, .ref k10, .int 0, .ref k11, .ref k12, .ref k13, .int 0, .ref k14, .int 0, .ref k15, .ref k16, .int 0, .int 0, .int 0, .ref k17, .int 0, .ref k18, .ref k19, .ref k20, .ref k21, .ref k22, .ref k23, .ref k24, .ref k25, .ref k26, .ref k27, .ref k28, .ref k29, .ref k30, .ref k31, .ref k32, .int 0, .int 0, .int 0, .int 0, .int 0, .ref k33, .ref k34, .ref k35, .ref k36, .ref k37, .ref k38, .int 0, .ref k39]))] sz)) 0 0 (va_A [(h0, .inr (9, [.int 0, .int 0, .ref k0, .ref k1, .ref k2, .ref k3, .ref k4, .int 0, .ref k5, .int 0, .ref k6, .ref k7, .ref k8, .int 0, .ref k9, .ref k10, .int 0, .ref k11, .ref k12, .ref k13, .int 0, .ref k14, .int 0, .ref k15, .ref k16, .int 0, .int 0, .int 0, .ref k17, .int 0, .ref k18, .ref k19, .ref k20, .ref k21, .ref k22, .ref k23, .ref k24, .ref k25, .ref k26, .ref k27, .ref k28, .ref k29, .ref k30, .ref k31, .ref k32, .int 0, .int 0, .int 0, .int 0, .int 0, .ref k33, .ref k34, .ref k35, .ref k36, .ref k37, .ref k38, .int 0, .ref k39]))] sz) := by
  refine Met.ofW (cc := cX9_clear) (maxL := 2) (ret := (some .int)) (by decide) rfl ?_
  intro p e s m args below meth c s₁ B hml hv
  obtain ⟨rfl, hsz, hP, hK, hD0, hN⟩ := hv
  have hx := B.exec
  have hb := B.bytes
  have hr := B.returns
  have hts : ∀ w ∈ xW, w.before _ s = true := fun w h => atoms_spec (ws := xw yX9_clear cX9_clear 2 (some .int)) B.pre w (List.mem_cons_of_mem _ h)
  have hown : s.vm.findClass RX9 = some m.cls := findClass_of_methodNamed B.named
  have hlocks := B.notSynchronized
  subst hsz
  have hD := hD0.self (sz := s.heap.size)
  clear hD0
  generalize hAe : va_A [(h0, .inr (9, [.int 0, .int 0, .ref k0, .ref k1, .ref k2, .ref k3, .ref k4, .int 0, .ref k5, .int 0, .ref k6, .ref k7, .ref k8, .int 0, .ref k9, .ref k10, .int 0, .ref k11, .ref k12, .ref k13, .int 0, .ref k14, .int 0, .ref k15, .ref k16, .int 0, .int 0, .int 0, .ref k17, .int 0, .ref k18, .ref k19, .ref k20, .ref k21, .ref k22, .ref k23, .ref k24, .ref k25, .ref k26, .ref k27, .ref k28, .ref k29, .ref k30, .ref k31, .ref k32, .int 0, .int 0, .int 0, .int 0, .int 0, .ref k33, .ref k34, .ref k35, .ref k36, .ref k37, .ref k38, .int 0, .ref k39]))] s.heap.size = A at hD ⊢
  have hA : ∀ q : Nat, s.heap.size ≤ q → A q := fun q h => by rw [← hAe]; exact Or.inr h
  clear hAe
  have hS : va_S A s.heap s.heap [] := va_S.rf
  replace hP : va_P G vwCl [(h0, .inr (9, [.int 0, .int 0, .ref k0, .ref k1, .ref k2, .ref k3, .ref k4, .int 0, .ref k5, .int 0, .ref k6, .ref k7, .ref k8, .int 0, .ref k9, .ref k10, .int 0, .ref k11, .ref k12, .ref k13, .int 0, .ref k14, .int 0, .ref k15, .ref k16, .int 0, .int 0, .int 0, .ref k17, .int 0, .ref k18, .ref k19, .ref k20, .ref k21, .ref k22, .ref k23, .ref k24, .ref k25, .ref k26, .ref k27, .ref k28, .ref k29, .ref k30, .ref k31, .ref k32, .int 0, .int 0, .int 0, .int 0, .int 0, .ref k33, .ref k34, .ref k35, .ref k36, .ref k37, .ref k38, .int 0, .ref k39]))] s.heap := hP
  have hl := lv_entry ([.ref h0]) (n := 2) (Nat.le_of_ble_eq_true rfl)
  rw [lg_entry_eq]
  generalize (lg_sl ([.ref h0]) ++ List.replicate (2 - (lg_sl ([.ref h0])).length) Slot.unset).toArray = ls at hl ⊢
  replace hl : lv_has ls 2 [(0, .ref h0)] := hl
  refine lv_aload_n hx hb dX9_clear_0 rfl (lv_at hl 0 rfl) ?_
  refine va_get (D := G) (ci := 9) (v := .int 0) (C := RX9) (T := TX9) (N := 58) hx hb hts xinX9 hown hK hP 0 rfl rfl 0 (by decide) (hts _ wm_167) (fun _ h9 => h9) rfl dX9_clear_1 ?_
  refine lv_istore_n (lv' := [(1, .int 0), (0, .ref h0)]) hx hb dX9_clear_4 rfl hl (by decide) rfl (fun ls hl => ?_)
  refine lv_aload_n hx hb dX9_clear_5 rfl (lv_at hl 1 rfl) ?_
  refine lv_iconst (v := 0) hx hb dX9_clear_6 (by decide) ?_
  refine va_put (D := G) (ci := 9) (v := .int 0) (ty := .int) (C := RX9) (T := TX9) (N := 58) hx hb hts xinX9 tyX9 tyX9_ok nmX9 hown hK hP hD hS 0 rfl rfl 0 (by decide) (hts _ wm_167) (fun _ h9 => h9) rfl (by decide +kernel) rfl rfl (Nat.le_of_ble_eq_true rfl) dX9_clear_7 (fun H locs hP hD hS => ?_)
  replace hP : va_P G vwCl [(h0, .inr (9, [.int 0, .int 0, .ref k0, .ref k1, .ref k2, .ref k3, .ref k4, .int 0, .ref k5, .int 0, .ref k6, .ref k7, .ref k8, .int 0, .ref k9, .ref k10, .int 0, .ref k11, .ref k12, .ref k13, .int 0, .ref k14, .int 0, .ref k15, .ref k16, .int 0, .int 0, .int 0, .ref k17, .int 0, .ref k18, .ref k19, .ref k20, .ref k21, .ref k22, .ref k23, .ref k24, .ref k25, .ref k26, .ref k27, .ref k28, .ref k29, .ref k30, .ref k31, .ref k32, .int 0, .int 0, .int 0, .int 0, .int 0, .ref k33, .ref k34, .ref k35, .ref k36, .ref k37, .ref k38, .int 0, .ref k39]))] H := hP
  replace hD : va_D A [(h0, .inr (9, [.int 0, .int 0, .ref k0, .ref k1, .ref k2, .ref k3, .ref k4, .int 0, .ref k5, .int 0, .ref k6, .ref k7, .ref k8, .int 0, .ref k9, .ref k10, .int 0, .ref k11, .ref k12, .ref k13, .int 0, .ref k14, .int 0, .ref k15, .ref k16, .int 0, .int 0, .int 0, .ref k17, .int 0, .ref k18, .ref k19, .ref k20, .ref k21, .ref k22, .ref k23, .ref k24, .ref k25, .ref k26, .ref k27, .ref k28, .ref k29, .ref k30, .ref k31, .ref k32, .int 0, .int 0, .int 0, .int 0, .int 0, .ref k33, .ref k34, .ref k35, .ref k36, .ref k37, .ref k38, .int 0, .ref k39]))] := hD
  refine lv_aload_n hx hb dX9_clear_10 rfl (lv_at hl 1 rfl) ?_
  refine lv_iconst (v := 0) hx hb dX9_clear_11 (by decide) ?_
  refine va_put (D := G) (ci := 9) (v := .int 0) (ty := .int) (C := RX9) (T := TX9) (N := 58) hx hb hts xinX9 tyX9 tyX9_ok nmX9 hown hK hP hD hS 0 rfl rfl 1 (by decide) (hts _ wm_183) (fun _ h9 => h9) rfl (by decide +kernel) rfl rfl (Nat.le_of_ble_eq_true rfl) dX9_clear_12 (fun H locs hP hD hS => ?_)
  replace hP : va_P G vwCl [(h0, .inr (9, [.int 0, .int 0, .ref k0, .ref k1, .ref k2, .ref k3, .ref k4, .int 0, .ref k5, .int 0, .ref k6, .ref k7, .ref k8, .int 0, .ref k9, .ref k10, .int 0, .ref k11, .ref k12, .ref k13, .int 0, .ref k14, .int 0, .ref k15, .ref k16, .int 0, .int 0, .int 0, .ref k17, .int 0, .ref k18, .ref k19, .ref k20, .ref k21, .ref k22, .ref k23, .ref k24, .ref k25, .ref k26, .ref k27, .ref k28, .ref k29, .ref k30, .ref k31, .ref k32, .int 0, .int 0, .int 0, .int 0, .int 0, .ref k33, .ref k34, .ref k35, .ref k36, .ref k37, .ref k38, .int 0, .ref k39]))] H := hP
  replace hD : va_D A [(h0, .inr (9, [.int 0, .int 0, .ref k0, .ref k1, .ref k2, .ref k3, .ref k4, .int 0, .ref k5, .int 0, .ref k6, .ref k7, .ref k8, .int 0, .ref k9, .ref k10, .int 0, .ref k11, .ref k12, .ref k13, .int 0, .ref k14, .int 0, .ref k15, .ref k16, .int 0, .int 0, .int 0, .ref k17, .int 0, .ref k18, .ref k19, .ref k20, .ref k21, .ref k22, .ref k23, .ref k24, .ref k25, .ref k26, .ref k27, .ref k28, .ref k29, .ref k30, .ref k31, .ref k32, .int 0, .int 0, .int 0, .int 0, .int 0, .ref k33, .ref k34, .ref k35, .ref k36, .ref k37, .ref k38, .int 0, .ref k39]))] := hD
  refine lv_aload_n hx hb dX9_clear_15 rfl (lv_at hl 1 rfl) ?_
  refine lv_iconst (v := 0) hx hb dX9_clear_16 (by decide) ?_
  refine va_put (D := G) (ci := 9) (v := .int 0) (ty := .boolean) (C := RX9) (T := TX9) (N := 58) hx hb hts xinX9 tyX9 tyX9_ok nmX9 hown hK hP hD hS 0 rfl rfl 7 (by decide) (hts _ wm_168) (fun _ h9 => h9) rfl (by decide +kernel) rfl rfl (Nat.le_of_ble_eq_true rfl) dX9_clear_17 (fun H locs hP hD hS => ?_)
  replace hP : va_P G vwCl [(h0, .inr (9, [.int 0, .int 0, .ref k0, .ref k1, .ref k2, .ref k3, .ref k4, .int 0, .ref k5, .int 0, .ref k6, .ref k7, .ref k8, .int 0, .ref k9, .ref k10, .int 0, .ref k11, .ref k12, .ref k13, .int 0, .ref k14, .int 0, .ref k15, .ref k16, .int 0, .int 0, .int 0, .ref k17, .int 0, .ref k18, .ref k19, .ref k20, .ref k21, .ref k22, .ref k23, .ref k24, .ref k25, .ref k26, .ref k27, .ref k28, .ref k29, .ref k30, .ref k31, .ref k32, .int 0, .int 0, .int 0, .int 0, .int 0, .ref k33, .ref k34, .ref k35, .ref k36, .ref k37, .ref k38, .int 0, .ref k39]))] H := hP
  replace hD : va_D A [(h0, .inr (9, [.int 0, .int 0, .ref k0, .ref k1, .ref k2, .ref k3, .ref k4, .int 0, .ref k5, .int 0, .ref k6, .ref k7, .ref k8, .int 0, .ref k9, .ref k10, .int 0, .ref k11, .ref k12, .ref k13, .int 0, .ref k14, .int 0, .ref k15, .ref k16, .int 0, .int 0, .int 0, .ref k17, .int 0, .ref k18, .ref k19, .ref k20, .ref k21, .ref k22, .ref k23, .ref k24, .ref k25, .ref k26, .ref k27, .ref k28, .ref k29, .ref k30, .ref k31, .ref k32, .int 0, .int 0, .int 0, .int 0, .int 0, .ref k33, .ref k34, .ref k35, .ref k36, .ref k37, .ref k38, .int 0, .ref k39]))] := hD
  refine lv_iload_n hx hb dX9_clear_20 rfl (lv_at hl 0 rfl) ?_
  have hP9 : va_P G vwCl [(h0, .inr (9, [.int 0, .int 0, .ref k0, .ref k1, .ref k2, .ref k3, .ref k4, .int 0, .ref k5, .int 0, .ref k6, .ref k7, .ref k8, .int 0, .ref k9, .ref k10, .int 0, .ref k11, .ref k12, .ref k13, .int 0, .ref k14, .int 0, .ref k15, .ref k16, .int 0, .int 0, .int 0, .ref k17, .int 0, .ref k18, .ref k19, .ref k20, .ref k21, .ref k22, .ref k23, .ref k24, .ref k25, .ref k26, .ref k27, .ref k28, .ref k29, .ref k30, .ref k31, .ref k32, .int 0, .int 0, .int 0, .int 0, .int 0, .ref k33, .ref k34, .ref k35, .ref k36, .ref k37, .ref k38, .int 0, .ref k39]))] H := hP.sub [0] rfl
  have hD9 : va_D A [(h0, .inr (9, [.int 0, .int 0, .ref k0, .ref k1, .ref k2, .ref k3, .ref k4, .int 0, .ref k5, .int 0, .ref k6, .ref k7, .ref k8, .int 0, .ref k9, .ref k10, .int 0, .ref k11, .ref k12, .ref k13, .int 0, .ref k14, .int 0, .ref k15, .ref k16, .int 0, .int 0, .int 0, .ref k17, .int 0, .ref k18, .ref k19, .ref k20, .ref k21, .ref k22, .ref k23, .ref k24, .ref k25, .ref k26, .ref k27, .ref k28, .ref k29, .ref k30, .ref k31, .ref k32, .int 0, .int 0, .int 0, .int 0, .int 0, .ref k33, .ref k34, .ref k35, .ref k36, .ref k37, .ref k38, .int 0, .ref k39]))] := hD.sub [0] (by decide) rfl
  refine W.widen (k := 0) (n := 0) (by decide) (by decide) ?_
  exact W.iret (v := 0) hx hb hr (fun t ht hW => ⟨⟨0, (), rfl, rfl, by rw [ht]; exact hP9, hD9⟩, hS.F ht⟩) hS.2.2 dX9_clear_21
set_option maxHeartbeats 4000000 in
set_option maxRecDepth 100000 in
theorem mX2_isOf (l : Launch) (G : va_G) (cI cJ cZ : ClassId) (h0 k0 k1 k2 sz : Nat) : Met l yX2_isOf (xw yX2_isOf cX2_isOf 4 (some .boolean)) ({ frames := 0, cells := 0, slots := 0, locals := 0 }) (xPc G cI cJ cZ [.ref h0, .ref k2, .int 0] [(h0, .inr (2, [.ref k0, .ref k1, .int (-1)]))] sz) (va_Qi (fun (r : Int32) (_ : Unit) => r = 0) (fun (_ : Unit) t => xB G (va_A [(h0, .inr (2, [.ref k0, .ref k1, .int (-1)]))] sz) [(h0, .inr (2, [.ref k0, .ref k1, .int (-1)]))] t) (va_A [(h0, .inr (2, [.ref k0, .ref k1, .int (-1)]))] sz)) 0 0 (va_A [(h0, .inr (2, [.ref k0, .ref k1, .int (-1)]))] sz) := by
  refine Met.ofW (cc := cX2_isOf) (maxL := 4) (ret := (some .boolean)) (by decide) rfl ?_
  intro p e s m args below meth c s₁ B hml hv
  obtain ⟨rfl, hsz, hP, hK, hD0, hN⟩ := hv
  have hx := B.exec
  have hb := B.bytes
  have hr := B.returns
  have hts : ∀ w ∈ xW, w.before _ s = true := fun w h => atoms_spec (ws := xw yX2_isOf cX2_isOf 4 (some .boolean)) B.pre w (List.mem_cons_of_mem _ h)
  have hown : s.vm.findClass RX2 = some m.cls := findClass_of_methodNamed B.named
  have hlocks := B.notSynchronized
  subst hsz
  have hD := hD0.self (sz := s.heap.size)
  clear hD0
  generalize hAe : va_A [(h0, .inr (2, [.ref k0, .ref k1, .int (-1)]))] s.heap.size = A at hD ⊢
  have hA : ∀ q : Nat, s.heap.size ≤ q → A q := fun q h => by rw [← hAe]; exact Or.inr h
  clear hAe
  have hS : va_S A s.heap s.heap [] := va_S.rf
  replace hP : va_P G vwCl [(h0, .inr (2, [.ref k0, .ref k1, .int (-1)]))] s.heap := hP
  have hl := lv_entry ([.ref h0, .ref k2, .int 0]) (n := 4) (Nat.le_of_ble_eq_true rfl)
  rw [lg_entry_eq]
  generalize (lg_sl ([.ref h0, .ref k2, .int 0]) ++ List.replicate (4 - (lg_sl ([.ref h0, .ref k2, .int 0])).length) Slot.unset).toArray = ls at hl ⊢
  replace hl : lv_has ls 4 [(0, .ref h0), (1, .ref k2), (2, .int 0)] := hl
  refine lv_iload_n hx hb dX2_isOf_0 rfl (lv_at hl 2 rfl) ?_
  refine lv_aload_n hx hb dX2_isOf_1 rfl (lv_at hl 0 rfl) ?_
  refine va_get (D := G) (ci := 2) (v := .int (-1)) (C := RX2) (T := TX2) (N := 3) hx hb hts xinX2 hown hK hP 0 rfl rfl 2 (by decide) (hts _ wm_49) (fun _ h9 => h9) rfl dX2_isOf_2 ?_
  refine lv_icmp_eq (tgt := 10) hx hb dX2_isOf_5 (by decide) (fun c18 => ?_) (fun c18 => ?_)
  · exact absurd c18 (by decide)
  refine lv_iconst (v := 0) hx hb dX2_isOf_8 (by decide) ?_
  have hP9 : va_P G vwCl [(h0, .inr (2, [.ref k0, .ref k1, .int (-1)]))] s.heap := hP.sub [0] rfl
  have hD9 : va_D A [(h0, .inr (2, [.ref k0, .ref k1, .int (-1)]))] := hD.sub [0] (by decide) rfl
  refine W.widen (k := 0) (n := 0) (by decide) (by decide) ?_
  exact W.zret (v := 0) hx hb hr rfl (fun t ht hW => ⟨⟨0, (), rfl, rfl, by rw [ht]; exact hP9, hD9⟩, hS.F ht⟩) hS.2.2 dX2_isOf_9
set_option maxHeartbeats 4000000 in
set_option maxRecDepth 100000 in
theorem mX5_accepts (l : Launch) (G : va_G) (cI cJ cZ : ClassId) (k0 k1 sz : Nat) : Met l yX5_accepts (xw yX5_accepts cX5_accepts 5 (some .boolean)) ({ frames := 0, cells := 0, slots := 0, locals := 0 }) (xPc G cI cJ cZ [.ref k0, .ref k1, .int 0] [] sz) (va_Qi (fun (r : Int32) (_ : Unit) => r = 1) (fun (_ : Unit) t => xB G (va_A [] sz) [] t) (va_A [] sz)) 0 0 (va_A [] sz) := by
  refine Met.ofW (cc := cX5_accepts) (maxL := 5) (ret := (some .boolean)) (by decide) rfl ?_
  intro p e s m args below meth c s₁ B hml hv
  obtain ⟨rfl, hsz, hP, hK, hD0, hN⟩ := hv
  have hx := B.exec
  have hb := B.bytes
  have hr := B.returns
  have hts : ∀ w ∈ xW, w.before _ s = true := fun w h => atoms_spec (ws := xw yX5_accepts cX5_accepts 5 (some .boolean)) B.pre w (List.mem_cons_of_mem _ h)
  have hown : s.vm.findClass RX5 = some m.cls := findClass_of_methodNamed B.named
  have hlocks := B.notSynchronized
  subst hsz
  have hD := hD0.self (sz := s.heap.size)
  clear hD0
  generalize hAe : va_A [] s.heap.size = A at hD ⊢
  have hA : ∀ q : Nat, s.heap.size ≤ q → A q := fun q h => by rw [← hAe]; exact Or.inr h
  clear hAe
  have hS : va_S A s.heap s.heap [] := va_S.rf
  replace hP : va_P G vwCl [] s.heap := hP
  have hl := lv_entry ([.ref k0, .ref k1, .int 0]) (n := 5) (Nat.le_of_ble_eq_true rfl)
  rw [lg_entry_eq]
  generalize (lg_sl ([.ref k0, .ref k1, .int 0]) ++ List.replicate (5 - (lg_sl ([.ref k0, .ref k1, .int 0])).length) Slot.unset).toArray = ls at hl ⊢
  replace hl : lv_has ls 5 [(0, .ref k0), (1, .ref k1), (2, .int 0)] := hl
  refine lv_iload_n hx hb dX5_accepts_0 rfl (lv_at hl 2 rfl) ?_
  refine lv_iconst (v := 3) hx hb dX5_accepts_1 (by decide) ?_
  refine lv_icmp_ge (tgt := 7) hx hb dX5_accepts_2 (by decide) (fun c20 => ?_) (fun c20 => ?_)
  · exact absurd c20 (by decide)
  refine lv_iconst (v := 1) hx hb dX5_accepts_5 (by decide) ?_
  have hP9 : va_P G vwCl [] s.heap := hP.sub [] rfl
  have hD9 : va_D A [] := hD.sub [] (by decide) rfl
  refine W.widen (k := 0) (n := 0) (by decide) (by decide) ?_
  exact W.zret (v := 1) hx hb hr rfl (fun t ht hW => ⟨⟨1, (), rfl, rfl, by rw [ht]; exact hP9, hD9⟩, hS.F ht⟩) hS.2.2 dX5_accepts_6
set_option maxHeartbeats 4000000 in
set_option maxRecDepth 100000 in
theorem mX8_isPlane (l : Launch) (G : va_G) (cI cJ cZ : ClassId) (h0 h1 h2 h3 k0 k1 k2 k3 k4 k5 k6 k7 k8 k9 k10 k11 k12 k13 k14 k15 k16 k17 k18 k19 k20 k21 k22 sz : Nat) : Met l yX8_isPlane (xw yX8_isPlane cX8_isPlane 2 (some .boolean)) ({ frames := 1, cells := 0, slots := 0, locals := 24 }) (xPc G cI cJ cZ [.ref h0] [(h0, .inr (8, [.ref h1, .ref k0, .ref k1, .ref h3, .ref h2, .ref k2, .ref k3, .ref k4, .ref k5, .ref k6, .ref k7, .int 0, .int 0, .int 0, .int 0, .int 0])), (h1, .inr (3, [.ref k8, .ref k9, .ref k10, .int 0, .int 0, .int 0])), (h2, .inr (2, [.ref k11, .ref k12, .int (-1)])), (h3, .inr (5, [.ref k13, .ref k14, .ref k15, .ref k16, .ref k17, .ref k18, .ref k19, .ref k20, .ref k21, .ref k22, .int 0, .int 0]))] sz) (va_Qi (fun (r : Int32) (_ : Unit) => r = 1) (fun (_ : Unit) t => xB G (va_A [(h0, .inr (8, [.ref h1, .ref k0, .ref k1, .ref h3, .ref h2, .ref k2, .ref k3, .ref k4, .ref k5, .ref k6, .ref k7, .int 0, .int 0, .int 0, .int 0, .int 0])), (h1, .inr (3, [.ref k8, .ref k9, .ref k10, .int 0, .int 0, .int 0])), (h2, .inr (2, [.ref k11, .ref k12, .int (-1)])), (h3, .inr (5, [.ref k13, .ref k14, .ref k15, .ref k16, .ref k17, .ref k18, .ref k19, .ref k20, .ref k21, .ref k22, .int 0, .int 0]))] sz) [(h0, .inr (8, [.ref h1, .ref k0, .ref k1, .ref h3, .ref h2, .ref k2, .ref k3, .ref k4, .ref k5, .ref k6, .ref k7, .int 1, .int 1, .int 0, .int 0, .int 0])), (h1, .inr (3, [.ref k8, .ref k9, .ref k10, .int 0, .int 0, .int 0])), (h2, .inr (2, [.ref k11, .ref k12, .int (-1)])), (h3, .inr (5, [.ref k13, .ref k14, .ref k15, .ref k16, .ref k17, .ref k18, .ref k19, .ref k20, .ref k21, .ref k22, .int 0, .int 0]))] t) (va_A [(h0, .inr (8, [.ref h1, .ref k0, .ref k1, .ref h3, .ref h2, .ref k2, .ref k3, .ref k4, .ref k5, .ref k6, .ref k7, .int 0, .int 0, .int 0, .int 0, .int 0])), (h1, .inr (3, [.ref k8, .ref k9, .ref k10, .int 0, .int 0, .int 0])), (h2, .inr (2, [.ref k11, .ref k12, .int (-1)])), (h3, .inr (5, [.ref k13, .ref k14, .ref k15, .ref k16, .ref k17, .ref k18, .ref k19, .ref k20, .ref k21, .ref k22, .int 0, .int 0]))] sz)) 0 0 (va_A [(h0, .inr (8, [.ref h1, .ref k0, .ref k1, .ref h3, .ref h2, .ref k2, .ref k3, .ref k4, .ref k5, .ref k6, .ref k7, .int 0, .int 0, .int 0, .int 0, .int 0])), (h1, .inr (3, [.ref k8, .ref k9, .ref k10, .int 0, .int 0, .int 0])), (h2, .inr (2, [.ref k11, .ref k12, .int (-1)])), (h3, .inr (5, [.ref k13, .ref k14, .ref k15, .ref k16, .ref k17, .ref k18, .ref k19, .ref k20, .ref k21, .ref k22, .int 0, .int 0]))] sz) := by
  refine Met.ofW (cc := cX8_isPlane) (maxL := 2) (ret := (some .boolean)) (by decide) rfl ?_
  intro p e s m args below meth c s₁ B hml hv
  obtain ⟨rfl, hsz, hP, hK, hD0, hN⟩ := hv
  have hx := B.exec
  have hb := B.bytes
  have hr := B.returns
  have hts : ∀ w ∈ xW, w.before _ s = true := fun w h => atoms_spec (ws := xw yX8_isPlane cX8_isPlane 2 (some .boolean)) B.pre w (List.mem_cons_of_mem _ h)
  have hown : s.vm.findClass RX8 = some m.cls := findClass_of_methodNamed B.named
  have hlocks := B.notSynchronized
  subst hsz
  have hD := hD0.self (sz := s.heap.size)
  clear hD0
  generalize hAe : va_A [(h0, .inr (8, [.ref h1, .ref k0, .ref k1, .ref h3, .ref h2, .ref k2, .ref k3, .ref k4, .ref k5, .ref k6, .ref k7, .int 0, .int 0, .int 0, .int 0, .int 0])), (h1, .inr (3, [.ref k8, .ref k9, .ref k10, .int 0, .int 0, .int 0])), (h2, .inr (2, [.ref k11, .ref k12, .int (-1)])), (h3, .inr (5, [.ref k13, .ref k14, .ref k15, .ref k16, .ref k17, .ref k18, .ref k19, .ref k20, .ref k21, .ref k22, .int 0, .int 0]))] s.heap.size = A at hD ⊢
  have hA : ∀ q : Nat, s.heap.size ≤ q → A q := fun q h => by rw [← hAe]; exact Or.inr h
  clear hAe
  have hS : va_S A s.heap s.heap [] := va_S.rf
  replace hP : va_P G vwCl [(h0, .inr (8, [.ref h1, .ref k0, .ref k1, .ref h3, .ref h2, .ref k2, .ref k3, .ref k4, .ref k5, .ref k6, .ref k7, .int 0, .int 0, .int 0, .int 0, .int 0])), (h1, .inr (3, [.ref k8, .ref k9, .ref k10, .int 0, .int 0, .int 0])), (h2, .inr (2, [.ref k11, .ref k12, .int (-1)])), (h3, .inr (5, [.ref k13, .ref k14, .ref k15, .ref k16, .ref k17, .ref k18, .ref k19, .ref k20, .ref k21, .ref k22, .int 0, .int 0]))] s.heap := hP
  have hl := lv_entry ([.ref h0]) (n := 2) (Nat.le_of_ble_eq_true rfl)
  rw [lg_entry_eq]
  generalize (lg_sl ([.ref h0]) ++ List.replicate (2 - (lg_sl ([.ref h0])).length) Slot.unset).toArray = ls at hl ⊢
  replace hl : lv_has ls 2 [(0, .ref h0)] := hl
  refine lv_aload_n hx hb dX8_isPlane_0 rfl (lv_at hl 0 rfl) ?_
  refine va_get (D := G) (ci := 8) (v := .int 0) (C := RX8) (T := TX8) (N := 16) hx hb hts xinX8 hown hK hP 0 rfl rfl 11 (by decide) (hts _ wm_148) (fun _ h9 => h9) rfl dX8_isPlane_1 ?_
  refine lv_if_ne (tgt := 65) hx hb dX8_isPlane_4 (by decide) (fun c17 => ?_) (fun c17 => ?_)
  · exact absurd c17 (by decide)
  refine lv_aload_n hx hb dX8_isPlane_7 rfl (lv_at hl 0 rfl) ?_
  refine va_get (D := G) (ci := 8) (v := .ref h1) (C := RX8) (T := TX8) (N := 16) hx hb hts xinX8 hown hK hP 0 rfl rfl 0 (by decide) (hts _ wm_14) (fun _ h9 => h9) rfl dX8_isPlane_8 ?_
  refine va_getN (D := G) (ci := 3) (v := .int 0) (C := RX3) (T := TX3) (N := 6) hx hb hts xinX3 hown hK hP 1 rfl rfl 3 (by decide) (va_Nw.use rfl (hN.1 ("PlaneTests", 81, "PlaneTests$Graph", "nodes", "I", "PlaneTests") (by decide +kernel))) (fun _ h9 => h9) rfl dX8_isPlane_11 ?_
  refine lv_istore_n (lv' := [(1, .int 0), (0, .ref h0)]) hx hb dX8_isPlane_14 rfl hl (by decide) rfl (fun ls hl => ?_)
  refine lv_aload_n hx hb dX8_isPlane_15 rfl (lv_at hl 1 rfl) ?_
  refine lv_aload_n hx hb dX8_isPlane_16 rfl (lv_at hl 1 rfl) ?_
  refine va_get (D := G) (ci := 8) (v := .ref h2) (C := RX8) (T := TX8) (N := 16) hx hb hts xinX8 hown hK hP 0 rfl rfl 4 (by decide) (hts _ wm_52) (fun _ h9 => h9) rfl dX8_isPlane_17 ?_
  refine lv_aload_n hx hb dX8_isPlane_20 rfl (lv_at hl 1 rfl) ?_
  refine va_get (D := G) (ci := 8) (v := .ref h1) (C := RX8) (T := TX8) (N := 16) hx hb hts xinX8 hown hK hP 0 rfl rfl 0 (by decide) (hts _ wm_14) (fun _ h9 => h9) rfl dX8_isPlane_21 ?_
  refine va_getN (D := G) (ci := 3) (v := .ref k10) (C := RX3) (T := TX3) (N := 6) hx hb hts xinX3 hown hK hP 1 rfl rfl 2 (by decide) (va_Nw.use rfl (hN.1 ("PlaneTests", 131, "PlaneTests$Graph", "joined", "[I", "PlaneTests") (by decide +kernel))) (fun _ h9 => h9) rfl dX8_isPlane_24 ?_
  refine lv_iload_n hx hb dX8_isPlane_27 rfl (lv_at hl 0 rfl) ?_
  refine xci (wr := [(h0, .inr (8, [.ref h1, .ref k0, .ref k1, .ref h3, .ref h2, .ref k2, .ref k3, .ref k4, .ref k5, .ref k6, .ref k7, .int 0, .int 0, .int 0, .int 0, .int 0])), (h1, .inr (3, [.ref k8, .ref k9, .ref k10, .int 0, .int 0, .int 0])), (h3, .inr (5, [.ref k13, .ref k14, .ref k15, .ref k16, .ref k17, .ref k18, .ref k19, .ref k20, .ref k21, .ref k22, .int 0, .int 0]))]) (va_runV (As := [.ref k10, .int 0]) (rest := [.ref h0]) ⟨hx, hb, hml, hown, hts⟩ (mX2_isOf l G cI cJ cZ h2 k11 k12 k10 s.heap.size ) (cwV 2 hts (xgoodV wm_205 wm_206 wm_207 wm_208 wm_45) rfl rfl rfl (by decide +kernel) ⟨Nat.le_of_ble_eq_true rfl, Nat.le_of_ble_eq_true rfl⟩) (xPreV (q := (RX2, TX2, 3)) (q0 := 2) hK hN hP hD [2] (by decide) rfl rfl rfl) rfl rfl hl.1 rfl (lv_room (Nat.le_of_ble_eq_true rfl)) dX8_isPlane_28 ⟨Nat.le_of_ble_eq_true rfl, Nat.le_of_ble_eq_true rfl⟩) hP hD hS hA [2] [0, 1, 3] rfl rfl (by decide) (by decide) (fun r23 _ H locs hw hP hD hS => ?_)
  replace hP : va_P G vwCl [(h0, .inr (8, [.ref h1, .ref k0, .ref k1, .ref h3, .ref h2, .ref k2, .ref k3, .ref k4, .ref k5, .ref k6, .ref k7, .int 0, .int 0, .int 0, .int 0, .int 0])), (h1, .inr (3, [.ref k8, .ref k9, .ref k10, .int 0, .int 0, .int 0])), (h3, .inr (5, [.ref k13, .ref k14, .ref k15, .ref k16, .ref k17, .ref k18, .ref k19, .ref k20, .ref k21, .ref k22, .int 0, .int 0])), (h2, .inr (2, [.ref k11, .ref k12, .int (-1)]))] H := hP
  replace hD : va_D A [(h0, .inr (8, [.ref h1, .ref k0, .ref k1, .ref h3, .ref h2, .ref k2, .ref k3, .ref k4, .ref k5, .ref k6, .ref k7, .int 0, .int 0, .int 0, .int 0, .int 0])), (h1, .inr (3, [.ref k8, .ref k9, .ref k10, .int 0, .int 0, .int 0])), (h3, .inr (5, [.ref k13, .ref k14, .ref k15, .ref k16, .ref k17, .ref k18, .ref k19, .ref k20, .ref k21, .ref k22, .int 0, .int 0])), (h2, .inr (2, [.ref k11, .ref k12, .int (-1)]))] := hD
  obtain rfl : r23 = (0 : Int32) := hw
  refine lv_if_ne (tgt := 52) hx hb dX8_isPlane_31 (by decide) (fun c19 => ?_) (fun c19 => ?_)
  · exact absurd c19 (by decide)
  refine lv_aload_n hx hb dX8_isPlane_34 rfl (lv_at hl 1 rfl) ?_
  refine va_get (D := G) (ci := 8) (v := .ref h3) (C := RX8) (T := TX8) (N := 16) hx hb hts xinX8 hown hK hP 0 rfl rfl 3 (by decide) (hts _ wm_42) (fun _ h9 => h9) rfl dX8_isPlane_35 ?_
  refine lv_aload_n hx hb dX8_isPlane_38 rfl (lv_at hl 1 rfl) ?_
  refine va_get (D := G) (ci := 8) (v := .ref h1) (C := RX8) (T := TX8) (N := 16) hx hb hts xinX8 hown hK hP 0 rfl rfl 0 (by decide) (hts _ wm_14) (fun _ h9 => h9) rfl dX8_isPlane_39 ?_
  refine va_getN (D := G) (ci := 3) (v := .ref k10) (C := RX3) (T := TX3) (N := 6) hx hb hts xinX3 hown hK hP 1 rfl rfl 2 (by decide) (va_Nw.use rfl (hN.1 ("PlaneTests", 131, "PlaneTests$Graph", "joined", "[I", "PlaneTests") (by decide +kernel))) (fun _ h9 => h9) rfl dX8_isPlane_42 ?_
  refine lv_iload_n hx hb dX8_isPlane_45 rfl (lv_at hl 0 rfl) ?_
  refine xci (wr := [(h0, .inr (8, [.ref h1, .ref k0, .ref k1, .ref h3, .ref h2, .ref k2, .ref k3, .ref k4, .ref k5, .ref k6, .ref k7, .int 0, .int 0, .int 0, .int 0, .int 0])), (h1, .inr (3, [.ref k8, .ref k9, .ref k10, .int 0, .int 0, .int 0])), (h3, .inr (5, [.ref k13, .ref k14, .ref k15, .ref k16, .ref k17, .ref k18, .ref k19, .ref k20, .ref k21, .ref k22, .int 0, .int 0])), (h2, .inr (2, [.ref k11, .ref k12, .int (-1)]))]) (va_runV (As := [.ref k10, .int 0]) (rest := [.ref h0]) ⟨hx, hb, hml, hown, hts⟩ (mX5_accepts l G cI cJ cZ h3 k10 H.size ) (cwV 2 hts (xgoodV wm_209 wm_210 wm_211 wm_212 wm_27) rfl rfl rfl (by decide +kernel) ⟨Nat.le_of_ble_eq_true rfl, Nat.le_of_ble_eq_true rfl⟩) (xPreV (q := (RX5, TX5, 12)) (q0 := 2) hK hN hP hD [] (by decide) rfl rfl rfl) rfl rfl hl.1 rfl (lv_room (Nat.le_of_ble_eq_true rfl)) dX8_isPlane_46 ⟨Nat.le_of_ble_eq_true rfl, Nat.le_of_ble_eq_true rfl⟩) hP hD hS hA [] [0, 1, 2, 3] rfl rfl (by decide) (by decide) (fun r24 _ H locs hw hP hD hS => ?_)
  replace hP : va_P G vwCl [(h0, .inr (8, [.ref h1, .ref k0, .ref k1, .ref h3, .ref h2, .ref k2, .ref k3, .ref k4, .ref k5, .ref k6, .ref k7, .int 0, .int 0, .int 0, .int 0, .int 0])), (h1, .inr (3, [.ref k8, .ref k9, .ref k10, .int 0, .int 0, .int 0])), (h3, .inr (5, [.ref k13, .ref k14, .ref k15, .ref k16, .ref k17, .ref k18, .ref k19, .ref k20, .ref k21, .ref k22, .int 0, .int 0])), (h2, .inr (2, [.ref k11, .ref k12, .int (-1)]))] H := hP
  replace hD : va_D A [(h0, .inr (8, [.ref h1, .ref k0, .ref k1, .ref h3, .ref h2, .ref k2, .ref k3, .ref k4, .ref k5, .ref k6, .ref k7, .int 0, .int 0, .int 0, .int 0, .int 0])), (h1, .inr (3, [.ref k8, .ref k9, .ref k10, .int 0, .int 0, .int 0])), (h3, .inr (5, [.ref k13, .ref k14, .ref k15, .ref k16, .ref k17, .ref k18, .ref k19, .ref k20, .ref k21, .ref k22, .int 0, .int 0])), (h2, .inr (2, [.ref k11, .ref k12, .int (-1)]))] := hD
  obtain rfl : r24 = (1 : Int32) := hw
  refine lv_if_eq (tgt := 56) hx hb dX8_isPlane_49 (by decide) (fun c21 => ?_) (fun c21 => ?_)
  · exact absurd c21 (by decide)
  refine lv_iconst (v := 1) hx hb dX8_isPlane_52 (by decide) ?_
  refine lv_goto (tgt := 57) hx hb dX8_isPlane_53 (by decide) ?_
  refine va_put (D := G) (ci := 8) (v := .int 1) (ty := .boolean) (C := RX8) (T := TX8) (N := 16) hx hb hts xinX8 tyX8 tyX8_ok nmX8 hown hK hP hD hS 0 rfl rfl 12 (by decide) (hts _ wm_213) (fun _ h9 => h9) rfl (by decide +kernel) rfl rfl (Nat.le_of_ble_eq_true rfl) dX8_isPlane_57 (fun H locs hP hD hS => ?_)
  replace hP : va_P G vwCl [(h0, .inr (8, [.ref h1, .ref k0, .ref k1, .ref h3, .ref h2, .ref k2, .ref k3, .ref k4, .ref k5, .ref k6, .ref k7, .int 0, .int 1, .int 0, .int 0, .int 0])), (h1, .inr (3, [.ref k8, .ref k9, .ref k10, .int 0, .int 0, .int 0])), (h3, .inr (5, [.ref k13, .ref k14, .ref k15, .ref k16, .ref k17, .ref k18, .ref k19, .ref k20, .ref k21, .ref k22, .int 0, .int 0])), (h2, .inr (2, [.ref k11, .ref k12, .int (-1)]))] H := hP
  replace hD : va_D A [(h0, .inr (8, [.ref h1, .ref k0, .ref k1, .ref h3, .ref h2, .ref k2, .ref k3, .ref k4, .ref k5, .ref k6, .ref k7, .int 0, .int 1, .int 0, .int 0, .int 0])), (h1, .inr (3, [.ref k8, .ref k9, .ref k10, .int 0, .int 0, .int 0])), (h3, .inr (5, [.ref k13, .ref k14, .ref k15, .ref k16, .ref k17, .ref k18, .ref k19, .ref k20, .ref k21, .ref k22, .int 0, .int 0])), (h2, .inr (2, [.ref k11, .ref k12, .int (-1)]))] := hD
  refine lv_aload_n hx hb dX8_isPlane_60 rfl (lv_at hl 1 rfl) ?_
  refine lv_iconst (v := 1) hx hb dX8_isPlane_61 (by decide) ?_
  refine va_put (D := G) (ci := 8) (v := .int 1) (ty := .boolean) (C := RX8) (T := TX8) (N := 16) hx hb hts xinX8 tyX8 tyX8_ok nmX8 hown hK hP hD hS 0 rfl rfl 11 (by decide) (hts _ wm_148) (fun _ h9 => h9) rfl (by decide +kernel) rfl rfl (Nat.le_of_ble_eq_true rfl) dX8_isPlane_62 (fun H locs hP hD hS => ?_)
  replace hP : va_P G vwCl [(h0, .inr (8, [.ref h1, .ref k0, .ref k1, .ref h3, .ref h2, .ref k2, .ref k3, .ref k4, .ref k5, .ref k6, .ref k7, .int 1, .int 1, .int 0, .int 0, .int 0])), (h1, .inr (3, [.ref k8, .ref k9, .ref k10, .int 0, .int 0, .int 0])), (h3, .inr (5, [.ref k13, .ref k14, .ref k15, .ref k16, .ref k17, .ref k18, .ref k19, .ref k20, .ref k21, .ref k22, .int 0, .int 0])), (h2, .inr (2, [.ref k11, .ref k12, .int (-1)]))] H := hP
  replace hD : va_D A [(h0, .inr (8, [.ref h1, .ref k0, .ref k1, .ref h3, .ref h2, .ref k2, .ref k3, .ref k4, .ref k5, .ref k6, .ref k7, .int 1, .int 1, .int 0, .int 0, .int 0])), (h1, .inr (3, [.ref k8, .ref k9, .ref k10, .int 0, .int 0, .int 0])), (h3, .inr (5, [.ref k13, .ref k14, .ref k15, .ref k16, .ref k17, .ref k18, .ref k19, .ref k20, .ref k21, .ref k22, .int 0, .int 0])), (h2, .inr (2, [.ref k11, .ref k12, .int (-1)]))] := hD
  refine lv_aload_n hx hb dX8_isPlane_65 rfl (lv_at hl 1 rfl) ?_
  refine va_get (D := G) (ci := 8) (v := .int 1) (C := RX8) (T := TX8) (N := 16) hx hb hts xinX8 hown hK hP 0 rfl rfl 12 (by decide) (hts _ wm_213) (fun _ h9 => h9) rfl dX8_isPlane_66 ?_
  have hP9 : va_P G vwCl [(h0, .inr (8, [.ref h1, .ref k0, .ref k1, .ref h3, .ref h2, .ref k2, .ref k3, .ref k4, .ref k5, .ref k6, .ref k7, .int 1, .int 1, .int 0, .int 0, .int 0])), (h1, .inr (3, [.ref k8, .ref k9, .ref k10, .int 0, .int 0, .int 0])), (h2, .inr (2, [.ref k11, .ref k12, .int (-1)])), (h3, .inr (5, [.ref k13, .ref k14, .ref k15, .ref k16, .ref k17, .ref k18, .ref k19, .ref k20, .ref k21, .ref k22, .int 0, .int 0]))] H := hP.sub [0, 1, 3, 2] rfl
  have hD9 : va_D A [(h0, .inr (8, [.ref h1, .ref k0, .ref k1, .ref h3, .ref h2, .ref k2, .ref k3, .ref k4, .ref k5, .ref k6, .ref k7, .int 1, .int 1, .int 0, .int 0, .int 0])), (h1, .inr (3, [.ref k8, .ref k9, .ref k10, .int 0, .int 0, .int 0])), (h2, .inr (2, [.ref k11, .ref k12, .int (-1)])), (h3, .inr (5, [.ref k13, .ref k14, .ref k15, .ref k16, .ref k17, .ref k18, .ref k19, .ref k20, .ref k21, .ref k22, .int 0, .int 0]))] := hD.sub [0, 1, 3, 2] (by decide) rfl
  refine W.widen (k := 0) (n := 0) (by decide) (by decide) ?_
  exact W.zret (v := 1) hx hb hr rfl (fun t ht hW => ⟨⟨1, (), rfl, rfl, by rw [ht]; exact hP9, hD9⟩, hS.F ht⟩) hS.2.2 dX8_isPlane_69

set_option maxHeartbeats 4000000 in
set_option maxRecDepth 100000 in
theorem mX5_accepts_1 (l : Launch) (G : va_G) (cI cJ cZ : ClassId) (k0 k1 sz : Nat) : Met l yX5_accepts (xw yX5_accepts cX5_accepts 5 (some .boolean)) ({ frames := 0, cells := 0, slots := 0, locals := 0 }) (xPc G cI cJ cZ [.ref k0, .ref k1, .int 1] [] sz) (va_Qi (fun (r : Int32) (_ : Unit) => r = 1) (fun (_ : Unit) t => xB G (va_A [] sz) [] t) (va_A [] sz)) 0 0 (va_A [] sz) := by
  refine Met.ofW (cc := cX5_accepts) (maxL := 5) (ret := (some .boolean)) (by decide) rfl ?_
  intro p e s m args below meth c s₁ B hml hv
  obtain ⟨rfl, hsz, hP, hK, hD0, hN⟩ := hv
  have hx := B.exec
  have hb := B.bytes
  have hr := B.returns
  have hts : ∀ w ∈ xW, w.before _ s = true := fun w h => atoms_spec (ws := xw yX5_accepts cX5_accepts 5 (some .boolean)) B.pre w (List.mem_cons_of_mem _ h)
  have hown : s.vm.findClass RX5 = some m.cls := findClass_of_methodNamed B.named
  have hlocks := B.notSynchronized
  subst hsz
  have hD := hD0.self (sz := s.heap.size)
  clear hD0
  generalize hAe : va_A [] s.heap.size = A at hD ⊢
  have hA : ∀ q : Nat, s.heap.size ≤ q → A q := fun q h => by rw [← hAe]; exact Or.inr h
  clear hAe
  have hS : va_S A s.heap s.heap [] := va_S.rf
  replace hP : va_P G vwCl [] s.heap := hP
  have hl := lv_entry ([.ref k0, .ref k1, .int 1]) (n := 5) (Nat.le_of_ble_eq_true rfl)
  rw [lg_entry_eq]
  generalize (lg_sl ([.ref k0, .ref k1, .int 1]) ++ List.replicate (5 - (lg_sl ([.ref k0, .ref k1, .int 1])).length) Slot.unset).toArray = ls at hl ⊢
  replace hl : lv_has ls 5 [(0, .ref k0), (1, .ref k1), (2, .int 1)] := hl
  refine lv_iload_n hx hb dX5_accepts_0 rfl (lv_at hl 2 rfl) ?_
  refine lv_iconst (v := 3) hx hb dX5_accepts_1 (by decide) ?_
  refine lv_icmp_ge (tgt := 7) hx hb dX5_accepts_2 (by decide) (fun c49 => ?_) (fun c49 => ?_)
  · exact absurd c49 (by decide)
  refine lv_iconst (v := 1) hx hb dX5_accepts_5 (by decide) ?_
  have hP9 : va_P G vwCl [] s.heap := hP.sub [] rfl
  have hD9 : va_D A [] := hD.sub [] (by decide) rfl
  refine W.widen (k := 0) (n := 0) (by decide) (by decide) ?_
  exact W.zret (v := 1) hx hb hr rfl (fun t ht hW => ⟨⟨1, (), rfl, rfl, by rw [ht]; exact hP9, hD9⟩, hS.F ht⟩) hS.2.2 dX5_accepts_6
set_option maxHeartbeats 4000000 in
set_option maxRecDepth 100000 in
theorem mX8_outer (l : Launch) (G : va_G) (cI cJ cZ : ClassId) (h0 h1 h2 h3 k0 k1 k2 k3 k4 k5 k6 k7 k8 k9 k10 k11 k12 k13 k14 k15 k16 k17 k18 k19 k20 sz : Nat) : Met l yX8_outer (xw yX8_outer cX8_outer 3 (some .int)) ({ frames := 1, cells := 0, slots := 0, locals := 24 }) (xPc G cI cJ cZ [.ref h0] [(h0, .inr (8, [.ref h1, .ref k0, .ref h2, .ref h3, .ref k1, .ref k2, .ref k3, .ref k4, .ref k5, .ref k6, .ref k7, .int 0, .int 0, .int 0, .int 0, .int 0])), (h1, .inr (3, [.ref k8, .ref k9, .ref k10, .int 0, .int 0, .int 0])), (h2, aI cI 21 xz), (h3, .inr (5, [.ref k11, .ref k12, .ref k13, .ref k14, .ref k15, .ref k16, .ref k17, .ref k18, .ref k19, .ref k20, .int 0, .int 0]))] sz) (va_Qi (fun (r : Int32) (_ : Unit) => r = 1) (fun (_ : Unit) t => xB G (va_A [(h0, .inr (8, [.ref h1, .ref k0, .ref h2, .ref h3, .ref k1, .ref k2, .ref k3, .ref k4, .ref k5, .ref k6, .ref k7, .int 0, .int 0, .int 0, .int 0, .int 0])), (h1, .inr (3, [.ref k8, .ref k9, .ref k10, .int 0, .int 0, .int 0])), (h2, aI cI 21 xz), (h3, .inr (5, [.ref k11, .ref k12, .ref k13, .ref k14, .ref k15, .ref k16, .ref k17, .ref k18, .ref k19, .ref k20, .int 0, .int 0]))] sz) [(h0, .inr (8, [.ref h1, .ref k0, .ref h2, .ref h3, .ref k1, .ref k2, .ref k3, .ref k4, .ref k5, .ref k6, .ref k7, .int 0, .int 0, .int 0, .int 0, .int 0])), (h1, .inr (3, [.ref k8, .ref k9, .ref k10, .int 0, .int 0, .int 0])), (h2, aI cI 21 (upd xz 0 0)), (h3, .inr (5, [.ref k11, .ref k12, .ref k13, .ref k14, .ref k15, .ref k16, .ref k17, .ref k18, .ref k19, .ref k20, .int 0, .int 0]))] t) (va_A [(h0, .inr (8, [.ref h1, .ref k0, .ref h2, .ref h3, .ref k1, .ref k2, .ref k3, .ref k4, .ref k5, .ref k6, .ref k7, .int 0, .int 0, .int 0, .int 0, .int 0])), (h1, .inr (3, [.ref k8, .ref k9, .ref k10, .int 0, .int 0, .int 0])), (h2, aI cI 21 xz), (h3, .inr (5, [.ref k11, .ref k12, .ref k13, .ref k14, .ref k15, .ref k16, .ref k17, .ref k18, .ref k19, .ref k20, .int 0, .int 0]))] sz)) 0 0 (va_A [(h0, .inr (8, [.ref h1, .ref k0, .ref h2, .ref h3, .ref k1, .ref k2, .ref k3, .ref k4, .ref k5, .ref k6, .ref k7, .int 0, .int 0, .int 0, .int 0, .int 0])), (h1, .inr (3, [.ref k8, .ref k9, .ref k10, .int 0, .int 0, .int 0])), (h2, aI cI 21 xz), (h3, .inr (5, [.ref k11, .ref k12, .ref k13, .ref k14, .ref k15, .ref k16, .ref k17, .ref k18, .ref k19, .ref k20, .int 0, .int 0]))] sz) := by
  refine Met.ofW (cc := cX8_outer) (maxL := 3) (ret := (some .int)) (by decide) rfl ?_
  intro p e s m args below meth c s₁ B hml hv
  obtain ⟨rfl, hsz, hP, hK, hD0, hN⟩ := hv
  have hx := B.exec
  have hb := B.bytes
  have hr := B.returns
  have hts : ∀ w ∈ xW, w.before _ s = true := fun w h => atoms_spec (ws := xw yX8_outer cX8_outer 3 (some .int)) B.pre w (List.mem_cons_of_mem _ h)
  have hown : s.vm.findClass RX8 = some m.cls := findClass_of_methodNamed B.named
  have hlocks := B.notSynchronized
  subst hsz
  have hD := hD0.self (sz := s.heap.size)
  clear hD0
  generalize hAe : va_A [(h0, .inr (8, [.ref h1, .ref k0, .ref h2, .ref h3, .ref k1, .ref k2, .ref k3, .ref k4, .ref k5, .ref k6, .ref k7, .int 0, .int 0, .int 0, .int 0, .int 0])), (h1, .inr (3, [.ref k8, .ref k9, .ref k10, .int 0, .int 0, .int 0])), (h2, aI cI 21 xz), (h3, .inr (5, [.ref k11, .ref k12, .ref k13, .ref k14, .ref k15, .ref k16, .ref k17, .ref k18, .ref k19, .ref k20, .int 0, .int 0]))] s.heap.size = A at hD ⊢
  have hA : ∀ q : Nat, s.heap.size ≤ q → A q := fun q h => by rw [← hAe]; exact Or.inr h
  clear hAe
  have hS : va_S A s.heap s.heap [] := va_S.rf
  replace hP : va_P G vwCl [(h0, .inr (8, [.ref h1, .ref k0, .ref h2, .ref h3, .ref k1, .ref k2, .ref k3, .ref k4, .ref k5, .ref k6, .ref k7, .int 0, .int 0, .int 0, .int 0, .int 0])), (h1, .inr (3, [.ref k8, .ref k9, .ref k10, .int 0, .int 0, .int 0])), (h2, aI cI 21 xz), (h3, .inr (5, [.ref k11, .ref k12, .ref k13, .ref k14, .ref k15, .ref k16, .ref k17, .ref k18, .ref k19, .ref k20, .int 0, .int 0]))] s.heap := hP
  have hl := lv_entry ([.ref h0]) (n := 3) (Nat.le_of_ble_eq_true rfl)
  rw [lg_entry_eq]
  generalize (lg_sl ([.ref h0]) ++ List.replicate (3 - (lg_sl ([.ref h0])).length) Slot.unset).toArray = ls at hl ⊢
  replace hl : lv_has ls 3 [(0, .ref h0)] := hl
  refine lv_aload_n hx hb dX8_outer_0 rfl (lv_at hl 0 rfl) ?_
  refine va_get (D := G) (ci := 8) (v := .ref h1) (C := RX8) (T := TX8) (N := 16) hx hb hts xinX8 hown hK hP 0 rfl rfl 0 (by decide) (hts _ wm_14) (fun _ h9 => h9) rfl dX8_outer_1 ?_
  refine va_getN (D := G) (ci := 3) (v := .int 0) (C := RX3) (T := TX3) (N := 6) hx hb hts xinX3 hown hK hP 1 rfl rfl 3 (by decide) (va_Nw.use rfl (hN.1 ("PlaneTests", 81, "PlaneTests$Graph", "nodes", "I", "PlaneTests") (by decide +kernel))) (fun _ h9 => h9) rfl dX8_outer_4 ?_
  refine lv_istore_n (lv' := [(1, .int 0), (0, .ref h0)]) hx hb dX8_outer_7 rfl hl (by decide) rfl (fun ls hl => ?_)
  refine lv_aload_n hx hb dX8_outer_8 rfl (lv_at hl 1 rfl) ?_
  refine va_get (D := G) (ci := 8) (v := .ref h2) (C := RX8) (T := TX8) (N := 16) hx hb hts xinX8 hown hK hP 0 rfl rfl 2 (by decide) (hts _ wm_24) (fun _ h9 => h9) rfl dX8_outer_9 ?_
  refine lv_iload_n hx hb dX8_outer_12 rfl (lv_at hl 0 rfl) ?_
  refine lv_iconst (v := 1) hx hb dX8_outer_13 (by decide) ?_
  refine lv_iload_n hx hb dX8_outer_14 rfl (lv_at hl 0 rfl) ?_
  refine lv_ishl hx hb dX8_outer_15 ?_
  refine lv_topi (fun w8 ew8 => ?_)
  obtain rfl : w8 = (1 : Int32) := ew8.trans (by decide)
  refine lv_iconst (v := 1) hx hb dX8_outer_16 (by decide) ?_
  refine lv_isub hx hb dX8_outer_17 ?_
  refine lv_topi (fun w9 ew9 => ?_)
  obtain rfl : w9 = (0 : Int32) := ew9.trans (by decide)
  refine va_iast hx hb hK hP hD hS 2 0 rfl rfl (by unfold vp_in; decide) dX8_outer_18 (fun H locs hP hD hS => ?_)
  replace hP : va_P G vwCl [(h0, .inr (8, [.ref h1, .ref k0, .ref h2, .ref h3, .ref k1, .ref k2, .ref k3, .ref k4, .ref k5, .ref k6, .ref k7, .int 0, .int 0, .int 0, .int 0, .int 0])), (h1, .inr (3, [.ref k8, .ref k9, .ref k10, .int 0, .int 0, .int 0])), (h2, aI cI 21 (upd xz 0 0)), (h3, .inr (5, [.ref k11, .ref k12, .ref k13, .ref k14, .ref k15, .ref k16, .ref k17, .ref k18, .ref k19, .ref k20, .int 0, .int 0]))] H := hP
  replace hD : va_D A [(h0, .inr (8, [.ref h1, .ref k0, .ref h2, .ref h3, .ref k1, .ref k2, .ref k3, .ref k4, .ref k5, .ref k6, .ref k7, .int 0, .int 0, .int 0, .int 0, .int 0])), (h1, .inr (3, [.ref k8, .ref k9, .ref k10, .int 0, .int 0, .int 0])), (h2, aI cI 21 (upd xz 0 0)), (h3, .inr (5, [.ref k11, .ref k12, .ref k13, .ref k14, .ref k15, .ref k16, .ref k17, .ref k18, .ref k19, .ref k20, .int 0, .int 0]))] := hD
  refine lv_iconst (v := 0) hx hb dX8_outer_19 (by decide) ?_
  refine lv_istore_n (lv' := [(2, .int 0), (1, .int 0), (0, .ref h0)]) hx hb dX8_outer_20 rfl hl (by decide) rfl (fun ls hl => ?_)
  refine lv_iload_n hx hb dX8_outer_21 rfl (lv_at hl 0 rfl) ?_
  refine lv_iload_n hx hb dX8_outer_22 rfl (lv_at hl 1 rfl) ?_
  refine lv_icmp_ge (tgt := 51) hx hb dX8_outer_23 (by decide) (fun c48 => ?_) (fun c48 => ?_)
  rotate_left
  · exact absurd c48 (by decide)
  refine lv_aload_n hx hb dX8_outer_51 rfl (lv_at hl 2 rfl) ?_
  refine va_get (D := G) (ci := 8) (v := .ref h3) (C := RX8) (T := TX8) (N := 16) hx hb hts xinX8 hown hK hP 0 rfl rfl 3 (by decide) (hts _ wm_42) (fun _ h9 => h9) rfl dX8_outer_52 ?_
  refine lv_aload_n hx hb dX8_outer_55 rfl (lv_at hl 2 rfl) ?_
  refine va_get (D := G) (ci := 8) (v := .ref h2) (C := RX8) (T := TX8) (N := 16) hx hb hts xinX8 hown hK hP 0 rfl rfl 2 (by decide) (hts _ wm_24) (fun _ h9 => h9) rfl dX8_outer_56 ?_
  refine lv_iload_n hx hb dX8_outer_59 rfl (lv_at hl 1 rfl) ?_
  refine lv_iconst (v := 1) hx hb dX8_outer_60 (by decide) ?_
  refine lv_iadd hx hb dX8_outer_61 ?_
  refine lv_topi (fun w10 ew10 => ?_)
  obtain rfl : w10 = (1 : Int32) := ew10.trans (by decide)
  refine xci (wr := [(h0, .inr (8, [.ref h1, .ref k0, .ref h2, .ref h3, .ref k1, .ref k2, .ref k3, .ref k4, .ref k5, .ref k6, .ref k7, .int 0, .int 0, .int 0, .int 0, .int 0])), (h1, .inr (3, [.ref k8, .ref k9, .ref k10, .int 0, .int 0, .int 0])), (h2, aI cI 21 (upd xz 0 0)), (h3, .inr (5, [.ref k11, .ref k12, .ref k13, .ref k14, .ref k15, .ref k16, .ref k17, .ref k18, .ref k19, .ref k20, .int 0, .int 0]))]) (va_runV (As := [.ref h2, .int 1]) (rest := []) ⟨hx, hb, hml, hown, hts⟩ (mX5_accepts_1 l G cI cJ cZ h3 h2 H.size ) (cwV 2 hts (xgoodV wm_209 wm_210 wm_211 wm_212 wm_27) rfl rfl rfl (by decide +kernel) ⟨Nat.le_of_ble_eq_true rfl, Nat.le_of_ble_eq_true rfl⟩) (xPreV (q := (RX5, TX5, 12)) (q0 := 3) hK hN hP hD [] (by decide) rfl rfl rfl) rfl rfl hl.1 rfl (lv_room (Nat.le_of_ble_eq_true rfl)) dX8_outer_62 ⟨Nat.le_of_ble_eq_true rfl, Nat.le_of_ble_eq_true rfl⟩) hP hD hS hA [] [0, 1, 2, 3] rfl rfl (by decide) (by decide) (fun r38 _ H locs hw hP hD hS => ?_)
  replace hP : va_P G vwCl [(h0, .inr (8, [.ref h1, .ref k0, .ref h2, .ref h3, .ref k1, .ref k2, .ref k3, .ref k4, .ref k5, .ref k6, .ref k7, .int 0, .int 0, .int 0, .int 0, .int 0])), (h1, .inr (3, [.ref k8, .ref k9, .ref k10, .int 0, .int 0, .int 0])), (h2, aI cI 21 (upd xz 0 0)), (h3, .inr (5, [.ref k11, .ref k12, .ref k13, .ref k14, .ref k15, .ref k16, .ref k17, .ref k18, .ref k19, .ref k20, .int 0, .int 0]))] H := hP
  replace hD : va_D A [(h0, .inr (8, [.ref h1, .ref k0, .ref h2, .ref h3, .ref k1, .ref k2, .ref k3, .ref k4, .ref k5, .ref k6, .ref k7, .int 0, .int 0, .int 0, .int 0, .int 0])), (h1, .inr (3, [.ref k8, .ref k9, .ref k10, .int 0, .int 0, .int 0])), (h2, aI cI 21 (upd xz 0 0)), (h3, .inr (5, [.ref k11, .ref k12, .ref k13, .ref k14, .ref k15, .ref k16, .ref k17, .ref k18, .ref k19, .ref k20, .int 0, .int 0]))] := hD
  obtain rfl : r38 = (1 : Int32) := hw
  refine lv_if_eq (tgt := 72) hx hb dX8_outer_65 (by decide) (fun c50 => ?_) (fun c50 => ?_)
  · exact absurd c50 (by decide)
  refine lv_iconst (v := 1) hx hb dX8_outer_68 (by decide) ?_
  refine lv_goto (tgt := 73) hx hb dX8_outer_69 (by decide) ?_
  have hP9 : va_P G vwCl [(h0, .inr (8, [.ref h1, .ref k0, .ref h2, .ref h3, .ref k1, .ref k2, .ref k3, .ref k4, .ref k5, .ref k6, .ref k7, .int 0, .int 0, .int 0, .int 0, .int 0])), (h1, .inr (3, [.ref k8, .ref k9, .ref k10, .int 0, .int 0, .int 0])), (h2, aI cI 21 (upd xz 0 0)), (h3, .inr (5, [.ref k11, .ref k12, .ref k13, .ref k14, .ref k15, .ref k16, .ref k17, .ref k18, .ref k19, .ref k20, .int 0, .int 0]))] H := hP.sub [0, 1, 2, 3] rfl
  have hD9 : va_D A [(h0, .inr (8, [.ref h1, .ref k0, .ref h2, .ref h3, .ref k1, .ref k2, .ref k3, .ref k4, .ref k5, .ref k6, .ref k7, .int 0, .int 0, .int 0, .int 0, .int 0])), (h1, .inr (3, [.ref k8, .ref k9, .ref k10, .int 0, .int 0, .int 0])), (h2, aI cI 21 (upd xz 0 0)), (h3, .inr (5, [.ref k11, .ref k12, .ref k13, .ref k14, .ref k15, .ref k16, .ref k17, .ref k18, .ref k19, .ref k20, .int 0, .int 0]))] := hD.sub [0, 1, 2, 3] (by decide) rfl
  refine W.widen (k := 0) (n := 0) (by decide) (by decide) ?_
  exact W.iret (v := 1) hx hb hr (fun t ht hW => ⟨⟨1, (), rfl, rfl, by rw [ht]; exact hP9, hD9⟩, hS.F ht⟩) hS.2.2 dX8_outer_73
set_option maxHeartbeats 4000000 in
set_option maxRecDepth 100000 in
theorem mX9_takeSimple_1 (l : Launch) (G : va_G) (cI cJ cZ : ClassId) (h0 h1 k0 k1 k2 k3 k4 k5 k6 k7 k8 k9 k10 k11 k12 k13 k14 k15 k16 k17 k18 k19 k20 k21 k22 k23 k24 k25 k26 k27 k28 k29 k30 k31 k32 k33 k34 k35 k36 k37 k38 sz : Nat) : Met l yX9_takeSimple (xw yX9_takeSimple cX9_takeSimple 4 none) ({ frames := 0, cells := 0, slots := 0, locals := 0 }) (xPc G cI cJ cZ [.ref h0, .int 0, .int (-1)] [(h0, .inr (9, [.int 0, .int 0, .ref k0, .ref k1, .ref k2, .ref k3, .ref k4, .int 0, .ref h1, .int 0, .ref k5, .ref k6, .ref k7, .int 0, .ref k8, .ref k9, .int 0, .ref k10, .ref k11, .ref k12, .int 0, .ref k13, .int 0, .ref k14, .ref k15, .int 0, .int 0, .int 0, .ref k16, .int 0, .ref k17, .ref k18, .ref k19, .ref k20, .ref k21, .ref k22, .ref k23, .ref k24, .ref k25, .ref k26, .ref k27, .ref k28, .ref k29, .ref k30, .ref k31, .int 0, .int 0, .int 0, .int 0, .int 0, .ref k32, .ref k33, .ref k34, .ref k35, .ref k36, .ref k37, .int 0, .ref k38])), (h1, aI cI 21 xz)] sz) (va_Qv (fun _ : Unit => True) (fun (_ : Unit) t => xB G (va_A [(h0, .inr (9, [.int 0, .int 0, .ref k0, .ref k1, .ref k2, .ref k3, .ref k4, .int 0, .ref h1, .int 0, .ref k5, .ref k6, .ref k7, .int 0, .ref k8, .ref k9, .int 0, .ref k10, .ref k11, .ref k12, .int 0, .ref k13, .int 0, .ref k14, .ref k15, .int 0, .int 0, .int 0, .ref k16, .int 0, .ref k17, .ref k18, .ref k19, .ref k20, .ref k21, .ref k22, .ref k23, .ref k24, .ref k25, .ref k26, .ref k27, .ref k28, .ref k29, .ref k30, .ref k31, .int 0, .int 0, .int 0, .int 0, .int 0, .ref k32, .ref k33, .ref k34, .ref k35, .ref k36, .ref k37, .int 0, .ref k38])), (h1, aI cI 21 xz)] sz) [(h0, .inr (9, [.int 0, .int 0, .ref k0, .ref k1, .ref k2, .ref k3, .ref k4, .int 0, .ref h1, .int 0, .ref k5, .ref k6, .ref k7, .int 0, .ref k8, .ref k9, .int 0, .ref k10, .ref k11, .ref k12, .int 0, .ref k13, .int 0, .ref k14, .ref k15, .int 0, .int 0, .int 0, .ref k16, .int 0, .ref k17, .ref k18, .ref k19, .ref k20, .ref k21, .ref k22, .ref k23, .ref k24, .ref k25, .ref k26, .ref k27, .ref k28, .ref k29, .ref k30, .ref k31, .int 0, .int 0, .int 0, .int 0, .int 0, .ref k32, .ref k33, .ref k34, .ref k35, .ref k36, .ref k37, .int 0, .ref k38])), (h1, aI cI 21 xz)] t) (va_A [(h0, .inr (9, [.int 0, .int 0, .ref k0, .ref k1, .ref k2, .ref k3, .ref k4, .int 0, .ref h1, .int 0, .ref k5, .ref k6, .ref k7, .int 0, .ref k8, .ref k9, .int 0, .ref k10, .ref k11, .ref k12, .int 0, .ref k13, .int 0, .ref k14, .ref k15, .int 0, .int 0, .int 0, .ref k16, .int 0, .ref k17, .ref k18, .ref k19, .ref k20, .ref k21, .ref k22, .ref k23, .ref k24, .ref k25, .ref k26, .ref k27, .ref k28, .ref k29, .ref k30, .ref k31, .int 0, .int 0, .int 0, .int 0, .int 0, .ref k32, .ref k33, .ref k34, .ref k35, .ref k36, .ref k37, .int 0, .ref k38])), (h1, aI cI 21 xz)] sz)) 0 0 (va_A [(h0, .inr (9, [.int 0, .int 0, .ref k0, .ref k1, .ref k2, .ref k3, .ref k4, .int 0, .ref h1, .int 0, .ref k5, .ref k6, .ref k7, .int 0, .ref k8, .ref k9, .int 0, .ref k10, .ref k11, .ref k12, .int 0, .ref k13, .int 0, .ref k14, .ref k15, .int 0, .int 0, .int 0, .ref k16, .int 0, .ref k17, .ref k18, .ref k19, .ref k20, .ref k21, .ref k22, .ref k23, .ref k24, .ref k25, .ref k26, .ref k27, .ref k28, .ref k29, .ref k30, .ref k31, .int 0, .int 0, .int 0, .int 0, .int 0, .ref k32, .ref k33, .ref k34, .ref k35, .ref k36, .ref k37, .int 0, .ref k38])), (h1, aI cI 21 xz)] sz) := by
  refine Met.ofW (cc := cX9_takeSimple) (maxL := 4) (ret := none) (by decide) rfl ?_
  intro p e s m args below meth c s₁ B hml hv
  obtain ⟨rfl, hsz, hP, hK, hD0, hN⟩ := hv
  have hx := B.exec
  have hb := B.bytes
  have hr := B.returns
  have hts : ∀ w ∈ xW, w.before _ s = true := fun w h => atoms_spec (ws := xw yX9_takeSimple cX9_takeSimple 4 none) B.pre w (List.mem_cons_of_mem _ h)
  have hown : s.vm.findClass RX9 = some m.cls := findClass_of_methodNamed B.named
  have hlocks := B.notSynchronized
  subst hsz
  have hD := hD0.self (sz := s.heap.size)
  clear hD0
  generalize hAe : va_A [(h0, .inr (9, [.int 0, .int 0, .ref k0, .ref k1, .ref k2, .ref k3, .ref k4, .int 0, .ref h1, .int 0, .ref k5, .ref k6, .ref k7, .int 0, .ref k8, .ref k9, .int 0, .ref k10, .ref k11, .ref k12, .int 0, .ref k13, .int 0, .ref k14, .ref k15, .int 0, .int 0, .int 0, .ref k16, .int 0, .ref k17, .ref k18, .ref k19, .ref k20, .ref k21, .ref k22, .ref k23, .ref k24, .ref k25, .ref k26, .ref k27, .ref k28, .ref k29, .ref k30, .ref k31, .int 0, .int 0, .int 0, .int 0, .int 0, .ref k32, .ref k33, .ref k34, .ref k35, .ref k36, .ref k37, .int 0, .ref k38])), (h1, aI cI 21 xz)] s.heap.size = A at hD ⊢
  have hA : ∀ q : Nat, s.heap.size ≤ q → A q := fun q h => by rw [← hAe]; exact Or.inr h
  clear hAe
  have hS : va_S A s.heap s.heap [] := va_S.rf
  replace hP : va_P G vwCl [(h0, .inr (9, [.int 0, .int 0, .ref k0, .ref k1, .ref k2, .ref k3, .ref k4, .int 0, .ref h1, .int 0, .ref k5, .ref k6, .ref k7, .int 0, .ref k8, .ref k9, .int 0, .ref k10, .ref k11, .ref k12, .int 0, .ref k13, .int 0, .ref k14, .ref k15, .int 0, .int 0, .int 0, .ref k16, .int 0, .ref k17, .ref k18, .ref k19, .ref k20, .ref k21, .ref k22, .ref k23, .ref k24, .ref k25, .ref k26, .ref k27, .ref k28, .ref k29, .ref k30, .ref k31, .int 0, .int 0, .int 0, .int 0, .int 0, .ref k32, .ref k33, .ref k34, .ref k35, .ref k36, .ref k37, .int 0, .ref k38])), (h1, aI cI 21 xz)] s.heap := hP
  have hl := lv_entry ([.ref h0, .int 0, .int (-1)]) (n := 4) (Nat.le_of_ble_eq_true rfl)
  rw [lg_entry_eq]
  generalize (lg_sl ([.ref h0, .int 0, .int (-1)]) ++ List.replicate (4 - (lg_sl ([.ref h0, .int 0, .int (-1)])).length) Slot.unset).toArray = ls at hl ⊢
  replace hl : lv_has ls 4 [(0, .ref h0), (1, .int 0), (2, .int (-1))] := hl
  refine lv_aload_n hx hb dX9_takeSimple_0 rfl (lv_at hl 0 rfl) ?_
  refine lv_aload_n hx hb dX9_takeSimple_1 rfl (lv_at hl 0 rfl) ?_
  refine va_get (D := G) (ci := 9) (v := .int 0) (C := RX9) (T := TX9) (N := 58) hx hb hts xinX9 hown hK hP 0 rfl rfl 0 (by decide) (hts _ wm_167) (fun _ h9 => h9) rfl dX9_takeSimple_2 ?_
  refine va_put (D := G) (ci := 9) (v := .int 0) (ty := .int) (C := RX9) (T := TX9) (N := 58) hx hb hts xinX9 tyX9 tyX9_ok nmX9 hown hK hP hD hS 0 rfl rfl 9 (by decide) (hts _ wm_218) (fun _ h9 => h9) rfl (by decide +kernel) rfl rfl (Nat.le_of_ble_eq_true rfl) dX9_takeSimple_5 (fun H locs hP hD hS => ?_)
  replace hP : va_P G vwCl [(h0, .inr (9, [.int 0, .int 0, .ref k0, .ref k1, .ref k2, .ref k3, .ref k4, .int 0, .ref h1, .int 0, .ref k5, .ref k6, .ref k7, .int 0, .ref k8, .ref k9, .int 0, .ref k10, .ref k11, .ref k12, .int 0, .ref k13, .int 0, .ref k14, .ref k15, .int 0, .int 0, .int 0, .ref k16, .int 0, .ref k17, .ref k18, .ref k19, .ref k20, .ref k21, .ref k22, .ref k23, .ref k24, .ref k25, .ref k26, .ref k27, .ref k28, .ref k29, .ref k30, .ref k31, .int 0, .int 0, .int 0, .int 0, .int 0, .ref k32, .ref k33, .ref k34, .ref k35, .ref k36, .ref k37, .int 0, .ref k38])), (h1, aI cI 21 xz)] H := hP
  replace hD : va_D A [(h0, .inr (9, [.int 0, .int 0, .ref k0, .ref k1, .ref k2, .ref k3, .ref k4, .int 0, .ref h1, .int 0, .ref k5, .ref k6, .ref k7, .int 0, .ref k8, .ref k9, .int 0, .ref k10, .ref k11, .ref k12, .int 0, .ref k13, .int 0, .ref k14, .ref k15, .int 0, .int 0, .int 0, .ref k16, .int 0, .ref k17, .ref k18, .ref k19, .ref k20, .ref k21, .ref k22, .ref k23, .ref k24, .ref k25, .ref k26, .ref k27, .ref k28, .ref k29, .ref k30, .ref k31, .int 0, .int 0, .int 0, .int 0, .int 0, .ref k32, .ref k33, .ref k34, .ref k35, .ref k36, .ref k37, .int 0, .ref k38])), (h1, aI cI 21 xz)] := hD
  refine lv_iconst (v := 0) hx hb dX9_takeSimple_8 (by decide) ?_
  refine lv_istore_n (lv' := [(3, .int 0), (0, .ref h0), (1, .int 0), (2, .int (-1))]) hx hb dX9_takeSimple_9 rfl hl (by decide) rfl (fun ls hl => ?_)
  refine xgen (Pp := fun H locs => W p l e _ s m _ below meth c H locs _ _ _ _) (fun H locs hP hD hS => ?_) hP hD hS
  obtain ⟨k, hk0⟩ : ∃ k : Nat, k = 0 := ⟨0, rfl⟩
  replace hl : lv_has ls 4 [(3, .int (nI k)), (0, .ref h0), (1, .int 0), (2, .int (-1))] := by rw [hk0]; exact hl
  replace hP : va_P G vwCl [(h0, .inr (9, [.int 0, .int 0, .ref k0, .ref k1, .ref k2, .ref k3, .ref k4, .int 0, .ref h1, .int 0, .ref k5, .ref k6, .ref k7, .int 0, .ref k8, .ref k9, .int 0, .ref k10, .ref k11, .ref k12, .int 0, .ref k13, .int 0, .ref k14, .ref k15, .int 0, .int 0, .int 0, .ref k16, .int 0, .ref k17, .ref k18, .ref k19, .ref k20, .ref k21, .ref k22, .ref k23, .ref k24, .ref k25, .ref k26, .ref k27, .ref k28, .ref k29, .ref k30, .ref k31, .int 0, .int 0, .int 0, .int 0, .int 0, .ref k32, .ref k33, .ref k34, .ref k35, .ref k36, .ref k37, .int 0, .ref k38])), (h1, aI cI 21 (xfl xz 0 k))] H := by rw [hk0]; simp only [xfl_0]; exact hP
  replace hD : va_D A [(h0, .inr (9, [.int 0, .int 0, .ref k0, .ref k1, .ref k2, .ref k3, .ref k4, .int 0, .ref h1, .int 0, .ref k5, .ref k6, .ref k7, .int 0, .ref k8, .ref k9, .int 0, .ref k10, .ref k11, .ref k12, .int 0, .ref k13, .int 0, .ref k14, .ref k15, .int 0, .int 0, .int 0, .ref k16, .int 0, .ref k17, .ref k18, .ref k19, .ref k20, .ref k21, .ref k22, .ref k23, .ref k24, .ref k25, .ref k26, .ref k27, .ref k28, .ref k29, .ref k30, .ref k31, .int 0, .int 0, .int 0, .int 0, .int 0, .ref k32, .ref k33, .ref k34, .ref k35, .ref k36, .ref k37, .int 0, .ref k38])), (h1, aI cI 21 (xfl xz 0 k))] := by rw [hk0]; simp only [xfl_0]; exact hD
  have hkN : k ≤ 21 := by omega
  obtain ⟨n, hn⟩ : ∃ n, 21 + 1 ≤ k + n := ⟨21 + 1, by omega⟩
  clear hk0
  induction n generalizing k H locs ls with
  | zero => exact absurd hn (by omega)
  | succ n ih =>
    refine lv_iload_n hx hb dX9_takeSimple_10 rfl (lv_at hl 0 rfl) ?_
    refine lv_bipush (v := 21) hx hb dX9_takeSimple_11 (by decide) ?_
    refine lv_icmp_ge (tgt := 29) hx hb dX9_takeSimple_13 (by decide) (fun c51 => ?_) (fun c51 => ?_)
    · have hke : k = 21 := by have h9 := xge (N := 21) (show (21 : Int32) = nI 21 from rfl) (by omega) (by omega) c51; omega
      subst hke
      obtain ⟨hP, hD⟩ := xPrep hP hD 1 rfl xz (fun j hj => xfl_n xz 0 21 j hj)
      replace hP : va_P G vwCl [(h0, .inr (9, [.int 0, .int 0, .ref k0, .ref k1, .ref k2, .ref k3, .ref k4, .int 0, .ref h1, .int 0, .ref k5, .ref k6, .ref k7, .int 0, .ref k8, .ref k9, .int 0, .ref k10, .ref k11, .ref k12, .int 0, .ref k13, .int 0, .ref k14, .ref k15, .int 0, .int 0, .int 0, .ref k16, .int 0, .ref k17, .ref k18, .ref k19, .ref k20, .ref k21, .ref k22, .ref k23, .ref k24, .ref k25, .ref k26, .ref k27, .ref k28, .ref k29, .ref k30, .ref k31, .int 0, .int 0, .int 0, .int 0, .int 0, .ref k32, .ref k33, .ref k34, .ref k35, .ref k36, .ref k37, .int 0, .ref k38])), (h1, aI cI 21 xz)] H := hP
      replace hD : va_D A [(h0, .inr (9, [.int 0, .int 0, .ref k0, .ref k1, .ref k2, .ref k3, .ref k4, .int 0, .ref h1, .int 0, .ref k5, .ref k6, .ref k7, .int 0, .ref k8, .ref k9, .int 0, .ref k10, .ref k11, .ref k12, .int 0, .ref k13, .int 0, .ref k14, .ref k15, .int 0, .int 0, .int 0, .ref k16, .int 0, .ref k17, .ref k18, .ref k19, .ref k20, .ref k21, .ref k22, .ref k23, .ref k24, .ref k25, .ref k26, .ref k27, .ref k28, .ref k29, .ref k30, .ref k31, .int 0, .int 0, .int 0, .int 0, .int 0, .ref k32, .ref k33, .ref k34, .ref k35, .ref k36, .ref k37, .int 0, .ref k38])), (h1, aI cI 21 xz)] := hD
      refine lv_iconst (v := 0) hx hb dX9_takeSimple_29 (by decide) ?_
      refine lv_istore_n (lv' := [(3, .int 0), (0, .ref h0), (1, .int 0), (2, .int (-1))]) hx hb dX9_takeSimple_30 rfl hl (by decide) rfl (fun ls hl => ?_)
      refine lv_iload_n hx hb dX9_takeSimple_31 rfl (lv_at hl 0 rfl) ?_
      refine lv_aload_n hx hb dX9_takeSimple_32 rfl (lv_at hl 1 rfl) ?_
      refine va_get (D := G) (ci := 9) (v := .int 0) (C := RX9) (T := TX9) (N := 58) hx hb hts xinX9 hown hK hP 0 rfl rfl 1 (by decide) (hts _ wm_183) (fun _ h9 => h9) rfl dX9_takeSimple_33 ?_
      refine lv_icmp_ge (tgt := 131) hx hb dX9_takeSimple_36 (by decide) (fun c52 => ?_) (fun c52 => ?_)
      rotate_left
      · exact absurd c52 (by decide)
      have hP9 : va_P G vwCl [(h0, .inr (9, [.int 0, .int 0, .ref k0, .ref k1, .ref k2, .ref k3, .ref k4, .int 0, .ref h1, .int 0, .ref k5, .ref k6, .ref k7, .int 0, .ref k8, .ref k9, .int 0, .ref k10, .ref k11, .ref k12, .int 0, .ref k13, .int 0, .ref k14, .ref k15, .int 0, .int 0, .int 0, .ref k16, .int 0, .ref k17, .ref k18, .ref k19, .ref k20, .ref k21, .ref k22, .ref k23, .ref k24, .ref k25, .ref k26, .ref k27, .ref k28, .ref k29, .ref k30, .ref k31, .int 0, .int 0, .int 0, .int 0, .int 0, .ref k32, .ref k33, .ref k34, .ref k35, .ref k36, .ref k37, .int 0, .ref k38])), (h1, aI cI 21 xz)] H := hP.sub [0, 1] rfl
      have hD9 : va_D A [(h0, .inr (9, [.int 0, .int 0, .ref k0, .ref k1, .ref k2, .ref k3, .ref k4, .int 0, .ref h1, .int 0, .ref k5, .ref k6, .ref k7, .int 0, .ref k8, .ref k9, .int 0, .ref k10, .ref k11, .ref k12, .int 0, .ref k13, .int 0, .ref k14, .ref k15, .int 0, .int 0, .int 0, .ref k16, .int 0, .ref k17, .ref k18, .ref k19, .ref k20, .ref k21, .ref k22, .ref k23, .ref k24, .ref k25, .ref k26, .ref k27, .ref k28, .ref k29, .ref k30, .ref k31, .int 0, .int 0, .int 0, .int 0, .int 0, .ref k32, .ref k33, .ref k34, .ref k35, .ref k36, .ref k37, .int 0, .ref k38])), (h1, aI cI 21 xz)] := hD.sub [0, 1] (by decide) rfl
      refine W.widen (k := 0) (n := 0) (by decide) (by decide) ?_
      exact W.vret hx hb hr (fun t ht hW => ⟨⟨(), rfl, trivial, by rw [ht]; exact hP9, hD9⟩, hS.F ht⟩) hS.2.2 dX9_takeSimple_131
    · have hkl : k < 21 := xlt (N := 21) (show (21 : Int32) = nI 21 from rfl) (by omega) (by omega) c51
      refine lv_aload_n hx hb dX9_takeSimple_16 rfl (lv_at hl 1 rfl) ?_
      refine va_get (D := G) (ci := 9) (v := .ref h1) (C := RX9) (T := TX9) (N := 58) hx hb hts xinX9 hown hK hP 0 rfl rfl 8 (by decide) (hts _ wm_113) (fun _ h9 => h9) rfl dX9_takeSimple_17 ?_
      refine lv_iload_n hx hb dX9_takeSimple_20 rfl (lv_at hl 0 rfl) ?_
      refine lv_iconst (v := 0) hx hb dX9_takeSimple_21 (by decide) ?_
      refine va_iast hx hb hK hP hD hS 1 0 rfl rfl (vp_in_nI (show k < 21 by omega) (by decide)) dX9_takeSimple_22 (fun H locs hP hD hS => ?_)
      rw [xfl_s _ _ (by omega)] at hP hD
      replace hP : va_P G vwCl [(h0, .inr (9, [.int 0, .int 0, .ref k0, .ref k1, .ref k2, .ref k3, .ref k4, .int 0, .ref h1, .int 0, .ref k5, .ref k6, .ref k7, .int 0, .ref k8, .ref k9, .int 0, .ref k10, .ref k11, .ref k12, .int 0, .ref k13, .int 0, .ref k14, .ref k15, .int 0, .int 0, .int 0, .ref k16, .int 0, .ref k17, .ref k18, .ref k19, .ref k20, .ref k21, .ref k22, .ref k23, .ref k24, .ref k25, .ref k26, .ref k27, .ref k28, .ref k29, .ref k30, .ref k31, .int 0, .int 0, .int 0, .int 0, .int 0, .ref k32, .ref k33, .ref k34, .ref k35, .ref k36, .ref k37, .int 0, .ref k38])), (h1, aI cI 21 (xfl xz 0 (k + 1)))] H := hP
      replace hD : va_D A [(h0, .inr (9, [.int 0, .int 0, .ref k0, .ref k1, .ref k2, .ref k3, .ref k4, .int 0, .ref h1, .int 0, .ref k5, .ref k6, .ref k7, .int 0, .ref k8, .ref k9, .int 0, .ref k10, .ref k11, .ref k12, .int 0, .ref k13, .int 0, .ref k14, .ref k15, .int 0, .int 0, .int 0, .ref k16, .int 0, .ref k17, .ref k18, .ref k19, .ref k20, .ref k21, .ref k22, .ref k23, .ref k24, .ref k25, .ref k26, .ref k27, .ref k28, .ref k29, .ref k30, .ref k31, .int 0, .int 0, .int 0, .int 0, .int 0, .ref k32, .ref k33, .ref k34, .ref k35, .ref k36, .ref k37, .int 0, .ref k38])), (h1, aI cI 21 (xfl xz 0 (k + 1)))] := hD
      refine lv_iinc (v := (nI (k + 1))) (lv' := [(3, .int (nI (k + 1))), (0, .ref h0), (1, .int 0), (2, .int (-1))]) hx hb dX9_takeSimple_23 hl (k := 0) rfl (nI_1 k) (by decide) rfl (fun ls hl => ?_)
      refine lv_goto (tgt := 10) hx hb dX9_takeSimple_26 (by decide) ?_
      replace hl : lv_has ls 4 [(3, .int (nI (k + 1))), (0, .ref h0), (1, .int 0), (2, .int (-1))] := lv_sub hl [0, 1, 2, 3] rfl
      apply ih (k := k + 1) <;> first | assumption | omega
set_option maxHeartbeats 4000000 in
set_option maxRecDepth 100000 in
theorem mX9_findBlocks_2 (l : Launch) (G : va_G) (cI cJ cZ : ClassId) (h0 h1 k0 k1 k2 k3 k4 k5 k6 k7 k8 k9 k10 k11 k12 k13 k14 k15 k16 k17 k18 k19 k20 k21 k22 k23 k24 k25 k26 k27 k28 k29 k30 k31 k32 k33 k34 k35 k36 k37 k38 sz : Nat) : Met l yX9_findBlocks (xw yX9_findBlocks cX9_findBlocks 7 none) ({ frames := 0, cells := 0, slots := 0, locals := 0 }) (xPc G cI cJ cZ [.ref h0] [(h0, .inr (9, [.int 0, .int 0, .ref k0, .ref k1, .ref k2, .ref k3, .ref k4, .int 0, .ref h1, .int 1, .ref k5, .ref k6, .ref k7, .int 0, .ref k8, .ref k9, .int 0, .ref k10, .ref k11, .ref k12, .int 0, .ref k13, .int 0, .ref k14, .ref k15, .int 0, .int 0, .int 0, .ref k16, .int 0, .ref k17, .ref k18, .ref k19, .ref k20, .ref k21, .ref k22, .ref k23, .ref k24, .ref k25, .ref k26, .ref k27, .ref k28, .ref k29, .ref k30, .ref k31, .int 0, .int 0, .int 0, .int 0, .int 0, .ref k32, .ref k33, .ref k34, .ref k35, .ref k36, .ref k37, .int 0, .ref k38])), (h1, aI cI 21 xz)] sz) (va_Qv (fun _ : Unit => True) (fun (_ : Unit) t => xB G (va_A [(h0, .inr (9, [.int 0, .int 0, .ref k0, .ref k1, .ref k2, .ref k3, .ref k4, .int 0, .ref h1, .int 1, .ref k5, .ref k6, .ref k7, .int 0, .ref k8, .ref k9, .int 0, .ref k10, .ref k11, .ref k12, .int 0, .ref k13, .int 0, .ref k14, .ref k15, .int 0, .int 0, .int 0, .ref k16, .int 0, .ref k17, .ref k18, .ref k19, .ref k20, .ref k21, .ref k22, .ref k23, .ref k24, .ref k25, .ref k26, .ref k27, .ref k28, .ref k29, .ref k30, .ref k31, .int 0, .int 0, .int 0, .int 0, .int 0, .ref k32, .ref k33, .ref k34, .ref k35, .ref k36, .ref k37, .int 0, .ref k38])), (h1, aI cI 21 xz)] sz) [(h0, .inr (9, [.int 0, .int 0, .ref k0, .ref k1, .ref k2, .ref k3, .ref k4, .int 0, .ref h1, .int 1, .ref k5, .ref k6, .ref k7, .int 0, .ref k8, .ref k9, .int 0, .ref k10, .ref k11, .ref k12, .int 0, .ref k13, .int 0, .ref k14, .ref k15, .int 0, .int 0, .int 0, .ref k16, .int 0, .ref k17, .ref k18, .ref k19, .ref k20, .ref k21, .ref k22, .ref k23, .ref k24, .ref k25, .ref k26, .ref k27, .ref k28, .ref k29, .ref k30, .ref k31, .int 0, .int 0, .int 0, .int 0, .int 0, .ref k32, .ref k33, .ref k34, .ref k35, .ref k36, .ref k37, .int 0, .ref k38])), (h1, aI cI 21 xz)] t) (va_A [(h0, .inr (9, [.int 0, .int 0, .ref k0, .ref k1, .ref k2, .ref k3, .ref k4, .int 0, .ref h1, .int 1, .ref k5, .ref k6, .ref k7, .int 0, .ref k8, .ref k9, .int 0, .ref k10, .ref k11, .ref k12, .int 0, .ref k13, .int 0, .ref k14, .ref k15, .int 0, .int 0, .int 0, .ref k16, .int 0, .ref k17, .ref k18, .ref k19, .ref k20, .ref k21, .ref k22, .ref k23, .ref k24, .ref k25, .ref k26, .ref k27, .ref k28, .ref k29, .ref k30, .ref k31, .int 0, .int 0, .int 0, .int 0, .int 0, .ref k32, .ref k33, .ref k34, .ref k35, .ref k36, .ref k37, .int 0, .ref k38])), (h1, aI cI 21 xz)] sz)) 0 0 (va_A [(h0, .inr (9, [.int 0, .int 0, .ref k0, .ref k1, .ref k2, .ref k3, .ref k4, .int 0, .ref h1, .int 1, .ref k5, .ref k6, .ref k7, .int 0, .ref k8, .ref k9, .int 0, .ref k10, .ref k11, .ref k12, .int 0, .ref k13, .int 0, .ref k14, .ref k15, .int 0, .int 0, .int 0, .ref k16, .int 0, .ref k17, .ref k18, .ref k19, .ref k20, .ref k21, .ref k22, .ref k23, .ref k24, .ref k25, .ref k26, .ref k27, .ref k28, .ref k29, .ref k30, .ref k31, .int 0, .int 0, .int 0, .int 0, .int 0, .ref k32, .ref k33, .ref k34, .ref k35, .ref k36, .ref k37, .int 0, .ref k38])), (h1, aI cI 21 xz)] sz) := by
  refine Met.ofW (cc := cX9_findBlocks) (maxL := 7) (ret := none) (by decide) rfl ?_
  intro p e s m args below meth c s₁ B hml hv
  obtain ⟨rfl, hsz, hP, hK, hD0, hN⟩ := hv
  have hx := B.exec
  have hb := B.bytes
  have hr := B.returns
  have hts : ∀ w ∈ xW, w.before _ s = true := fun w h => atoms_spec (ws := xw yX9_findBlocks cX9_findBlocks 7 none) B.pre w (List.mem_cons_of_mem _ h)
  have hown : s.vm.findClass RX9 = some m.cls := findClass_of_methodNamed B.named
  have hlocks := B.notSynchronized
  subst hsz
  have hD := hD0.self (sz := s.heap.size)
  clear hD0
  generalize hAe : va_A [(h0, .inr (9, [.int 0, .int 0, .ref k0, .ref k1, .ref k2, .ref k3, .ref k4, .int 0, .ref h1, .int 1, .ref k5, .ref k6, .ref k7, .int 0, .ref k8, .ref k9, .int 0, .ref k10, .ref k11, .ref k12, .int 0, .ref k13, .int 0, .ref k14, .ref k15, .int 0, .int 0, .int 0, .ref k16, .int 0, .ref k17, .ref k18, .ref k19, .ref k20, .ref k21, .ref k22, .ref k23, .ref k24, .ref k25, .ref k26, .ref k27, .ref k28, .ref k29, .ref k30, .ref k31, .int 0, .int 0, .int 0, .int 0, .int 0, .ref k32, .ref k33, .ref k34, .ref k35, .ref k36, .ref k37, .int 0, .ref k38])), (h1, aI cI 21 xz)] s.heap.size = A at hD ⊢
  have hA : ∀ q : Nat, s.heap.size ≤ q → A q := fun q h => by rw [← hAe]; exact Or.inr h
  clear hAe
  have hS : va_S A s.heap s.heap [] := va_S.rf
  replace hP : va_P G vwCl [(h0, .inr (9, [.int 0, .int 0, .ref k0, .ref k1, .ref k2, .ref k3, .ref k4, .int 0, .ref h1, .int 1, .ref k5, .ref k6, .ref k7, .int 0, .ref k8, .ref k9, .int 0, .ref k10, .ref k11, .ref k12, .int 0, .ref k13, .int 0, .ref k14, .ref k15, .int 0, .int 0, .int 0, .ref k16, .int 0, .ref k17, .ref k18, .ref k19, .ref k20, .ref k21, .ref k22, .ref k23, .ref k24, .ref k25, .ref k26, .ref k27, .ref k28, .ref k29, .ref k30, .ref k31, .int 0, .int 0, .int 0, .int 0, .int 0, .ref k32, .ref k33, .ref k34, .ref k35, .ref k36, .ref k37, .int 0, .ref k38])), (h1, aI cI 21 xz)] s.heap := hP
  have hl := lv_entry ([.ref h0]) (n := 7) (Nat.le_of_ble_eq_true rfl)
  rw [lg_entry_eq]
  generalize (lg_sl ([.ref h0]) ++ List.replicate (7 - (lg_sl ([.ref h0])).length) Slot.unset).toArray = ls at hl ⊢
  replace hl : lv_has ls 7 [(0, .ref h0)] := hl
  refine lv_aload_n hx hb dX9_findBlocks_0 rfl (lv_at hl 0 rfl) ?_
  refine lv_iconst (v := 0) hx hb dX9_findBlocks_1 (by decide) ?_
  refine va_put (D := G) (ci := 9) (v := .int 0) (ty := .int) (C := RX9) (T := TX9) (N := 58) hx hb hts xinX9 tyX9 tyX9_ok nmX9 hown hK hP hD hS 0 rfl rfl 13 (by decide) (hts _ wm_223) (fun _ h9 => h9) rfl (by decide +kernel) rfl rfl (Nat.le_of_ble_eq_true rfl) dX9_findBlocks_2 (fun H locs hP hD hS => ?_)
  replace hP : va_P G vwCl [(h0, .inr (9, [.int 0, .int 0, .ref k0, .ref k1, .ref k2, .ref k3, .ref k4, .int 0, .ref h1, .int 1, .ref k5, .ref k6, .ref k7, .int 0, .ref k8, .ref k9, .int 0, .ref k10, .ref k11, .ref k12, .int 0, .ref k13, .int 0, .ref k14, .ref k15, .int 0, .int 0, .int 0, .ref k16, .int 0, .ref k17, .ref k18, .ref k19, .ref k20, .ref k21, .ref k22, .ref k23, .ref k24, .ref k25, .ref k26, .ref k27, .ref k28, .ref k29, .ref k30, .ref k31, .int 0, .int 0, .int 0, .int 0, .int 0, .ref k32, .ref k33, .ref k34, .ref k35, .ref k36, .ref k37, .int 0, .ref k38])), (h1, aI cI 21 xz)] H := hP
  replace hD : va_D A [(h0, .inr (9, [.int 0, .int 0, .ref k0, .ref k1, .ref k2, .ref k3, .ref k4, .int 0, .ref h1, .int 1, .ref k5, .ref k6, .ref k7, .int 0, .ref k8, .ref k9, .int 0, .ref k10, .ref k11, .ref k12, .int 0, .ref k13, .int 0, .ref k14, .ref k15, .int 0, .int 0, .int 0, .ref k16, .int 0, .ref k17, .ref k18, .ref k19, .ref k20, .ref k21, .ref k22, .ref k23, .ref k24, .ref k25, .ref k26, .ref k27, .ref k28, .ref k29, .ref k30, .ref k31, .int 0, .int 0, .int 0, .int 0, .int 0, .ref k32, .ref k33, .ref k34, .ref k35, .ref k36, .ref k37, .int 0, .ref k38])), (h1, aI cI 21 xz)] := hD
  refine lv_iconst (v := 0) hx hb dX9_findBlocks_5 (by decide) ?_
  refine lv_istore_n (lv' := [(1, .int 0), (0, .ref h0)]) hx hb dX9_findBlocks_6 rfl hl (by decide) rfl (fun ls hl => ?_)
  refine lv_iload_n hx hb dX9_findBlocks_7 rfl (lv_at hl 0 rfl) ?_
  refine lv_aload_n hx hb dX9_findBlocks_8 rfl (lv_at hl 1 rfl) ?_
  refine va_get (D := G) (ci := 9) (v := .int 1) (C := RX9) (T := TX9) (N := 58) hx hb hts xinX9 hown hK hP 0 rfl rfl 9 (by decide) (hts _ wm_218) (fun _ h9 => h9) rfl dX9_findBlocks_9 ?_
  refine lv_icmp_ge (tgt := 96) hx hb dX9_findBlocks_12 (by decide) (fun c58 => ?_) (fun c58 => ?_)
  · exact absurd c58 (by decide)
  refine lv_iload_n hx hb dX9_findBlocks_15 rfl (lv_at hl 0 rfl) ?_
  refine lv_iconst (v := 1) hx hb dX9_findBlocks_16 (by decide) ?_
  refine lv_iadd hx hb dX9_findBlocks_17 ?_
  refine lv_topi (fun w13 ew13 => ?_)
  obtain rfl : w13 = (1 : Int32) := ew13.trans (by decide)
  refine lv_istore_n (lv' := [(2, .int 1), (1, .int 0), (0, .ref h0)]) hx hb dX9_findBlocks_18 rfl hl (by decide) rfl (fun ls hl => ?_)
  refine lv_iload_n hx hb dX9_findBlocks_19 rfl (lv_at hl 0 rfl) ?_
  refine lv_aload_n hx hb dX9_findBlocks_20 rfl (lv_at hl 2 rfl) ?_
  refine va_get (D := G) (ci := 9) (v := .int 1) (C := RX9) (T := TX9) (N := 58) hx hb hts xinX9 hown hK hP 0 rfl rfl 9 (by decide) (hts _ wm_218) (fun _ h9 => h9) rfl dX9_findBlocks_21 ?_
  refine lv_icmp_ge (tgt := 90) hx hb dX9_findBlocks_24 (by decide) (fun c59 => ?_) (fun c59 => ?_)
  rotate_left
  · exact absurd c59 (by decide)
  refine lv_iinc (v := 1) (lv' := [(1, .int 1), (2, .int 1), (0, .ref h0)]) hx hb dX9_findBlocks_90 hl (k := 1) rfl (by decide) (by decide) rfl (fun ls hl => ?_)
  refine lv_goto (tgt := 7) hx hb dX9_findBlocks_93 (by decide) ?_
  refine lv_iload_n hx hb dX9_findBlocks_7 rfl (lv_at hl 0 rfl) ?_
  refine lv_aload_n hx hb dX9_findBlocks_8 rfl (lv_at hl 2 rfl) ?_
  refine va_get (D := G) (ci := 9) (v := .int 1) (C := RX9) (T := TX9) (N := 58) hx hb hts xinX9 hown hK hP 0 rfl rfl 9 (by decide) (hts _ wm_218) (fun _ h9 => h9) rfl dX9_findBlocks_9 ?_
  refine lv_icmp_ge (tgt := 96) hx hb dX9_findBlocks_12 (by decide) (fun c60 => ?_) (fun c60 => ?_)
  rotate_left
  · exact absurd c60 (by decide)
  refine lv_iconst (v := 0) hx hb dX9_findBlocks_96 (by decide) ?_
  refine lv_istore_n (lv' := [(1, .int 0), (2, .int 1), (0, .ref h0)]) hx hb dX9_findBlocks_97 rfl hl (by decide) rfl (fun ls hl => ?_)
  refine lv_iload_n hx hb dX9_findBlocks_98 rfl (lv_at hl 0 rfl) ?_
  refine lv_aload_n hx hb dX9_findBlocks_99 rfl (lv_at hl 2 rfl) ?_
  refine va_get (D := G) (ci := 9) (v := .int 1) (C := RX9) (T := TX9) (N := 58) hx hb hts xinX9 hown hK hP 0 rfl rfl 9 (by decide) (hts _ wm_218) (fun _ h9 => h9) rfl dX9_findBlocks_100 ?_
  refine lv_icmp_ge (tgt := 225) hx hb dX9_findBlocks_103 (by decide) (fun c61 => ?_) (fun c61 => ?_)
  · exact absurd c61 (by decide)
  refine lv_aload_n hx hb dX9_findBlocks_106 rfl (lv_at hl 2 rfl) ?_
  refine va_get (D := G) (ci := 9) (v := .ref h1) (C := RX9) (T := TX9) (N := 58) hx hb hts xinX9 hown hK hP 0 rfl rfl 8 (by decide) (hts _ wm_113) (fun _ h9 => h9) rfl dX9_findBlocks_107 ?_
  refine lv_iload_n hx hb dX9_findBlocks_110 rfl (lv_at hl 0 rfl) ?_
  refine va_iald hx hb hK hP 1 0 rfl rfl (by unfold vp_in; decide) dX9_findBlocks_111 ?_
  refine lv_topi (fun w14 ew14 => ?_)
  obtain rfl : w14 = (0 : Int32) := ew14.trans (by first | rfl | decide)
  refine lv_istore_n (lv' := [(2, .int 0), (1, .int 0), (0, .ref h0)]) hx hb dX9_findBlocks_112 rfl hl (by decide) rfl (fun ls hl => ?_)
  refine lv_iload_n hx hb dX9_findBlocks_113 rfl (lv_at hl 0 rfl) ?_
  refine lv_if_eq (tgt := 219) hx hb dX9_findBlocks_114 (by decide) (fun c62 => ?_) (fun c62 => ?_)
  rotate_left
  · exact absurd c62 (by decide)
  refine lv_iinc (v := 1) (lv' := [(1, .int 1), (2, .int 0), (0, .ref h0)]) hx hb dX9_findBlocks_219 hl (k := 1) rfl (by decide) (by decide) rfl (fun ls hl => ?_)
  refine lv_goto (tgt := 98) hx hb dX9_findBlocks_222 (by decide) ?_
  refine lv_iload_n hx hb dX9_findBlocks_98 rfl (lv_at hl 0 rfl) ?_
  refine lv_aload_n hx hb dX9_findBlocks_99 rfl (lv_at hl 2 rfl) ?_
  refine va_get (D := G) (ci := 9) (v := .int 1) (C := RX9) (T := TX9) (N := 58) hx hb hts xinX9 hown hK hP 0 rfl rfl 9 (by decide) (hts _ wm_218) (fun _ h9 => h9) rfl dX9_findBlocks_100 ?_
  refine lv_icmp_ge (tgt := 225) hx hb dX9_findBlocks_103 (by decide) (fun c63 => ?_) (fun c63 => ?_)
  rotate_left
  · exact absurd c63 (by decide)
  have hP9 : va_P G vwCl [(h0, .inr (9, [.int 0, .int 0, .ref k0, .ref k1, .ref k2, .ref k3, .ref k4, .int 0, .ref h1, .int 1, .ref k5, .ref k6, .ref k7, .int 0, .ref k8, .ref k9, .int 0, .ref k10, .ref k11, .ref k12, .int 0, .ref k13, .int 0, .ref k14, .ref k15, .int 0, .int 0, .int 0, .ref k16, .int 0, .ref k17, .ref k18, .ref k19, .ref k20, .ref k21, .ref k22, .ref k23, .ref k24, .ref k25, .ref k26, .ref k27, .ref k28, .ref k29, .ref k30, .ref k31, .int 0, .int 0, .int 0, .int 0, .int 0, .ref k32, .ref k33, .ref k34, .ref k35, .ref k36, .ref k37, .int 0, .ref k38])), (h1, aI cI 21 xz)] H := hP.sub [0, 1] rfl
  have hD9 : va_D A [(h0, .inr (9, [.int 0, .int 0, .ref k0, .ref k1, .ref k2, .ref k3, .ref k4, .int 0, .ref h1, .int 1, .ref k5, .ref k6, .ref k7, .int 0, .ref k8, .ref k9, .int 0, .ref k10, .ref k11, .ref k12, .int 0, .ref k13, .int 0, .ref k14, .ref k15, .int 0, .int 0, .int 0, .ref k16, .int 0, .ref k17, .ref k18, .ref k19, .ref k20, .ref k21, .ref k22, .ref k23, .ref k24, .ref k25, .ref k26, .ref k27, .ref k28, .ref k29, .ref k30, .ref k31, .int 0, .int 0, .int 0, .int 0, .int 0, .ref k32, .ref k33, .ref k34, .ref k35, .ref k36, .ref k37, .int 0, .ref k38])), (h1, aI cI 21 xz)] := hD.sub [0, 1] (by decide) rfl
  refine W.widen (k := 0) (n := 0) (by decide) (by decide) ?_
  exact W.vret hx hb hr (fun t ht hW => ⟨⟨(), rfl, trivial, by rw [ht]; exact hP9, hD9⟩, hS.F ht⟩) hS.2.2 dX9_findBlocks_225
set_option maxHeartbeats 4000000 in
set_option maxRecDepth 100000 in
theorem mX9_isPlane_2 (l : Launch) (G : va_G) (cI cJ cZ : ClassId) (h0 h1 k0 k1 k2 k3 k4 k5 k6 k7 k8 k9 k10 k11 k12 k13 k14 k15 k16 k17 k18 k19 k20 k21 k22 k23 k24 k25 k26 k27 k28 k29 k30 k31 k32 k33 k34 k35 k36 k37 k38 sz : Nat) : Met l yX9_isPlane (xw yX9_isPlane cX9_isPlane 5 (some .boolean)) ({ frames := 1, cells := 0, slots := 0, locals := 26 }) (xPc G cI cJ cZ [.ref h0] [(h0, .inr (9, [.int 0, .int 0, .ref k0, .ref k1, .ref k2, .ref k3, .ref k4, .int 0, .ref h1, .int 1, .ref k5, .ref k6, .ref k7, .int 0, .ref k8, .ref k9, .int 0, .ref k10, .ref k11, .ref k12, .int 0, .ref k13, .int 0, .ref k14, .ref k15, .int 0, .int 0, .int 0, .ref k16, .int 0, .ref k17, .ref k18, .ref k19, .ref k20, .ref k21, .ref k22, .ref k23, .ref k24, .ref k25, .ref k26, .ref k27, .ref k28, .ref k29, .ref k30, .ref k31, .int 0, .int 0, .int 0, .int 0, .int 0, .ref k32, .ref k33, .ref k34, .ref k35, .ref k36, .ref k37, .int 0, .ref k38])), (h1, aI cI 21 xz)] sz) (va_Qi (fun (r : Int32) (_ : Unit) => r = 1) (fun (_ : Unit) t => xB G (va_A [(h0, .inr (9, [.int 0, .int 0, .ref k0, .ref k1, .ref k2, .ref k3, .ref k4, .int 0, .ref h1, .int 1, .ref k5, .ref k6, .ref k7, .int 0, .ref k8, .ref k9, .int 0, .ref k10, .ref k11, .ref k12, .int 0, .ref k13, .int 0, .ref k14, .ref k15, .int 0, .int 0, .int 0, .ref k16, .int 0, .ref k17, .ref k18, .ref k19, .ref k20, .ref k21, .ref k22, .ref k23, .ref k24, .ref k25, .ref k26, .ref k27, .ref k28, .ref k29, .ref k30, .ref k31, .int 0, .int 0, .int 0, .int 0, .int 0, .ref k32, .ref k33, .ref k34, .ref k35, .ref k36, .ref k37, .int 0, .ref k38])), (h1, aI cI 21 xz)] sz) [(h0, .inr (9, [.int 0, .int 0, .ref k0, .ref k1, .ref k2, .ref k3, .ref k4, .int 0, .ref h1, .int 1, .ref k5, .ref k6, .ref k7, .int 0, .ref k8, .ref k9, .int 0, .ref k10, .ref k11, .ref k12, .int 0, .ref k13, .int 0, .ref k14, .ref k15, .int 0, .int 0, .int 0, .ref k16, .int 0, .ref k17, .ref k18, .ref k19, .ref k20, .ref k21, .ref k22, .ref k23, .ref k24, .ref k25, .ref k26, .ref k27, .ref k28, .ref k29, .ref k30, .ref k31, .int 0, .int 0, .int 0, .int 0, .int 0, .ref k32, .ref k33, .ref k34, .ref k35, .ref k36, .ref k37, .int 0, .ref k38])), (h1, aI cI 21 xz)] t) (va_A [(h0, .inr (9, [.int 0, .int 0, .ref k0, .ref k1, .ref k2, .ref k3, .ref k4, .int 0, .ref h1, .int 1, .ref k5, .ref k6, .ref k7, .int 0, .ref k8, .ref k9, .int 0, .ref k10, .ref k11, .ref k12, .int 0, .ref k13, .int 0, .ref k14, .ref k15, .int 0, .int 0, .int 0, .ref k16, .int 0, .ref k17, .ref k18, .ref k19, .ref k20, .ref k21, .ref k22, .ref k23, .ref k24, .ref k25, .ref k26, .ref k27, .ref k28, .ref k29, .ref k30, .ref k31, .int 0, .int 0, .int 0, .int 0, .int 0, .ref k32, .ref k33, .ref k34, .ref k35, .ref k36, .ref k37, .int 0, .ref k38])), (h1, aI cI 21 xz)] sz)) 0 0 (va_A [(h0, .inr (9, [.int 0, .int 0, .ref k0, .ref k1, .ref k2, .ref k3, .ref k4, .int 0, .ref h1, .int 1, .ref k5, .ref k6, .ref k7, .int 0, .ref k8, .ref k9, .int 0, .ref k10, .ref k11, .ref k12, .int 0, .ref k13, .int 0, .ref k14, .ref k15, .int 0, .int 0, .int 0, .ref k16, .int 0, .ref k17, .ref k18, .ref k19, .ref k20, .ref k21, .ref k22, .ref k23, .ref k24, .ref k25, .ref k26, .ref k27, .ref k28, .ref k29, .ref k30, .ref k31, .int 0, .int 0, .int 0, .int 0, .int 0, .ref k32, .ref k33, .ref k34, .ref k35, .ref k36, .ref k37, .int 0, .ref k38])), (h1, aI cI 21 xz)] sz) := by
  refine Met.ofW (cc := cX9_isPlane) (maxL := 5) (ret := (some .boolean)) (by decide) rfl ?_
  intro p e s m args below meth c s₁ B hml hv
  obtain ⟨rfl, hsz, hP, hK, hD0, hN⟩ := hv
  have hx := B.exec
  have hb := B.bytes
  have hr := B.returns
  have hts : ∀ w ∈ xW, w.before _ s = true := fun w h => atoms_spec (ws := xw yX9_isPlane cX9_isPlane 5 (some .boolean)) B.pre w (List.mem_cons_of_mem _ h)
  have hown : s.vm.findClass RX9 = some m.cls := findClass_of_methodNamed B.named
  have hlocks := B.notSynchronized
  subst hsz
  have hD := hD0.self (sz := s.heap.size)
  clear hD0
  generalize hAe : va_A [(h0, .inr (9, [.int 0, .int 0, .ref k0, .ref k1, .ref k2, .ref k3, .ref k4, .int 0, .ref h1, .int 1, .ref k5, .ref k6, .ref k7, .int 0, .ref k8, .ref k9, .int 0, .ref k10, .ref k11, .ref k12, .int 0, .ref k13, .int 0, .ref k14, .ref k15, .int 0, .int 0, .int 0, .ref k16, .int 0, .ref k17, .ref k18, .ref k19, .ref k20, .ref k21, .ref k22, .ref k23, .ref k24, .ref k25, .ref k26, .ref k27, .ref k28, .ref k29, .ref k30, .ref k31, .int 0, .int 0, .int 0, .int 0, .int 0, .ref k32, .ref k33, .ref k34, .ref k35, .ref k36, .ref k37, .int 0, .ref k38])), (h1, aI cI 21 xz)] s.heap.size = A at hD ⊢
  have hA : ∀ q : Nat, s.heap.size ≤ q → A q := fun q h => by rw [← hAe]; exact Or.inr h
  clear hAe
  have hS : va_S A s.heap s.heap [] := va_S.rf
  replace hP : va_P G vwCl [(h0, .inr (9, [.int 0, .int 0, .ref k0, .ref k1, .ref k2, .ref k3, .ref k4, .int 0, .ref h1, .int 1, .ref k5, .ref k6, .ref k7, .int 0, .ref k8, .ref k9, .int 0, .ref k10, .ref k11, .ref k12, .int 0, .ref k13, .int 0, .ref k14, .ref k15, .int 0, .int 0, .int 0, .ref k16, .int 0, .ref k17, .ref k18, .ref k19, .ref k20, .ref k21, .ref k22, .ref k23, .ref k24, .ref k25, .ref k26, .ref k27, .ref k28, .ref k29, .ref k30, .ref k31, .int 0, .int 0, .int 0, .int 0, .int 0, .ref k32, .ref k33, .ref k34, .ref k35, .ref k36, .ref k37, .int 0, .ref k38])), (h1, aI cI 21 xz)] s.heap := hP
  have hl := lv_entry ([.ref h0]) (n := 5) (Nat.le_of_ble_eq_true rfl)
  rw [lg_entry_eq]
  generalize (lg_sl ([.ref h0]) ++ List.replicate (5 - (lg_sl ([.ref h0])).length) Slot.unset).toArray = ls at hl ⊢
  replace hl : lv_has ls 5 [(0, .ref h0)] := hl
  refine lv_iconst (v := 0) hx hb dX9_isPlane_0 (by decide) ?_
  refine lv_istore_n (lv' := [(1, .int 0), (0, .ref h0)]) hx hb dX9_isPlane_1 rfl hl (by decide) rfl (fun ls hl => ?_)
  refine lv_iconst (v := 0) hx hb dX9_isPlane_2 (by decide) ?_
  refine lv_istore_n (lv' := [(2, .int 0), (1, .int 0), (0, .ref h0)]) hx hb dX9_isPlane_3 rfl hl (by decide) rfl (fun ls hl => ?_)
  refine lv_iload_n hx hb dX9_isPlane_4 rfl (lv_at hl 0 rfl) ?_
  refine lv_aload_n hx hb dX9_isPlane_5 rfl (lv_at hl 2 rfl) ?_
  refine va_get (D := G) (ci := 9) (v := .int 1) (C := RX9) (T := TX9) (N := 58) hx hb hts xinX9 hown hK hP 0 rfl rfl 9 (by decide) (hts _ wm_218) (fun _ h9 => h9) rfl dX9_isPlane_6 ?_
  refine lv_icmp_ge (tgt := 49) hx hb dX9_isPlane_9 (by decide) (fun c54 => ?_) (fun c54 => ?_)
  · exact absurd c54 (by decide)
  refine lv_iload_n hx hb dX9_isPlane_12 rfl (lv_at hl 0 rfl) ?_
  refine lv_iconst (v := 1) hx hb dX9_isPlane_13 (by decide) ?_
  refine lv_iadd hx hb dX9_isPlane_14 ?_
  refine lv_topi (fun w12 ew12 => ?_)
  obtain rfl : w12 = (1 : Int32) := ew12.trans (by decide)
  refine lv_istore_n (lv' := [(3, .int 1), (2, .int 0), (1, .int 0), (0, .ref h0)]) hx hb dX9_isPlane_15 rfl hl (by decide) rfl (fun ls hl => ?_)
  refine lv_iload_n hx hb dX9_isPlane_16 rfl (lv_at hl 0 rfl) ?_
  refine lv_aload_n hx hb dX9_isPlane_17 rfl (lv_at hl 3 rfl) ?_
  refine va_get (D := G) (ci := 9) (v := .int 1) (C := RX9) (T := TX9) (N := 58) hx hb hts xinX9 hown hK hP 0 rfl rfl 9 (by decide) (hts _ wm_218) (fun _ h9 => h9) rfl dX9_isPlane_18 ?_
  refine lv_icmp_ge (tgt := 43) hx hb dX9_isPlane_21 (by decide) (fun c55 => ?_) (fun c55 => ?_)
  rotate_left
  · exact absurd c55 (by decide)
  refine lv_iinc (v := 1) (lv' := [(2, .int 1), (3, .int 1), (1, .int 0), (0, .ref h0)]) hx hb dX9_isPlane_43 hl (k := 1) rfl (by decide) (by decide) rfl (fun ls hl => ?_)
  refine lv_goto (tgt := 4) hx hb dX9_isPlane_46 (by decide) ?_
  refine lv_iload_n hx hb dX9_isPlane_4 rfl (lv_at hl 0 rfl) ?_
  refine lv_aload_n hx hb dX9_isPlane_5 rfl (lv_at hl 3 rfl) ?_
  refine va_get (D := G) (ci := 9) (v := .int 1) (C := RX9) (T := TX9) (N := 58) hx hb hts xinX9 hown hK hP 0 rfl rfl 9 (by decide) (hts _ wm_218) (fun _ h9 => h9) rfl dX9_isPlane_6 ?_
  refine lv_icmp_ge (tgt := 49) hx hb dX9_isPlane_9 (by decide) (fun c56 => ?_) (fun c56 => ?_)
  rotate_left
  · exact absurd c56 (by decide)
  refine lv_aload_n hx hb dX9_isPlane_49 rfl (lv_at hl 3 rfl) ?_
  refine va_get (D := G) (ci := 9) (v := .int 1) (C := RX9) (T := TX9) (N := 58) hx hb hts xinX9 hown hK hP 0 rfl rfl 9 (by decide) (hts _ wm_218) (fun _ h9 => h9) rfl dX9_isPlane_50 ?_
  refine lv_iconst (v := 2) hx hb dX9_isPlane_53 (by decide) ?_
  refine lv_icmp_le (tgt := 72) hx hb dX9_isPlane_54 (by decide) (fun c57 => ?_) (fun c57 => ?_)
  rotate_left
  · exact absurd c57 (by decide)
  refine lv_aload_n hx hb dX9_isPlane_72 rfl (lv_at hl 3 rfl) ?_
  refine xcv (wr := []) (va_runV (As := []) (rest := []) ⟨hx, hb, hml, hown, hts⟩ (mX9_findBlocks_2 l G cI cJ cZ h0 h1 k0 k1 k2 k3 k4 k5 k6 k7 k8 k9 k10 k11 k12 k13 k14 k15 k16 k17 k18 k19 k20 k21 k22 k23 k24 k25 k26 k27 k28 k29 k30 k31 k32 k33 k34 k35 k36 k37 k38 s.heap.size ) (cwV 0 hts (xgoodV wm_224 wm_225 wm_226 wm_227 wm_177) rfl rfl rfl (by decide +kernel) ⟨Nat.le_of_ble_eq_true rfl, Nat.le_of_ble_eq_true rfl⟩) (xPreV (q := (RX9, TX9, 58)) (q0 := 0) hK hN hP hD [0, 1] (by decide) rfl rfl rfl) rfl rfl hl.1 rfl (lv_room (Nat.le_of_ble_eq_true rfl)) dX9_isPlane_73 ⟨Nat.le_of_ble_eq_true rfl, Nat.le_of_ble_eq_true rfl⟩) hP hD hS hA [0, 1] [] rfl rfl (by decide) (by decide) (fun _ H locs hw hP hD hS => ?_)
  replace hP : va_P G vwCl [(h0, .inr (9, [.int 0, .int 0, .ref k0, .ref k1, .ref k2, .ref k3, .ref k4, .int 0, .ref h1, .int 1, .ref k5, .ref k6, .ref k7, .int 0, .ref k8, .ref k9, .int 0, .ref k10, .ref k11, .ref k12, .int 0, .ref k13, .int 0, .ref k14, .ref k15, .int 0, .int 0, .int 0, .ref k16, .int 0, .ref k17, .ref k18, .ref k19, .ref k20, .ref k21, .ref k22, .ref k23, .ref k24, .ref k25, .ref k26, .ref k27, .ref k28, .ref k29, .ref k30, .ref k31, .int 0, .int 0, .int 0, .int 0, .int 0, .ref k32, .ref k33, .ref k34, .ref k35, .ref k36, .ref k37, .int 0, .ref k38])), (h1, aI cI 21 xz)] H := hP
  replace hD : va_D A [(h0, .inr (9, [.int 0, .int 0, .ref k0, .ref k1, .ref k2, .ref k3, .ref k4, .int 0, .ref h1, .int 1, .ref k5, .ref k6, .ref k7, .int 0, .ref k8, .ref k9, .int 0, .ref k10, .ref k11, .ref k12, .int 0, .ref k13, .int 0, .ref k14, .ref k15, .int 0, .int 0, .int 0, .ref k16, .int 0, .ref k17, .ref k18, .ref k19, .ref k20, .ref k21, .ref k22, .ref k23, .ref k24, .ref k25, .ref k26, .ref k27, .ref k28, .ref k29, .ref k30, .ref k31, .int 0, .int 0, .int 0, .int 0, .int 0, .ref k32, .ref k33, .ref k34, .ref k35, .ref k36, .ref k37, .int 0, .ref k38])), (h1, aI cI 21 xz)] := hD
  refine lv_iconst (v := 0) hx hb dX9_isPlane_76 (by decide) ?_
  refine lv_istore_n (lv' := [(2, .int 0), (3, .int 1), (1, .int 0), (0, .ref h0)]) hx hb dX9_isPlane_77 rfl hl (by decide) rfl (fun ls hl => ?_)
  refine lv_iload_n hx hb dX9_isPlane_78 rfl (lv_at hl 0 rfl) ?_
  refine lv_aload_n hx hb dX9_isPlane_79 rfl (lv_at hl 3 rfl) ?_
  refine va_get (D := G) (ci := 9) (v := .int 0) (C := RX9) (T := TX9) (N := 58) hx hb hts xinX9 hown hK hP 0 rfl rfl 13 (by decide) (hts _ wm_223) (fun _ h9 => h9) rfl dX9_isPlane_80 ?_
  refine lv_icmp_ge (tgt := 225) hx hb dX9_isPlane_83 (by decide) (fun c64 => ?_) (fun c64 => ?_)
  rotate_left
  · exact absurd c64 (by decide)
  refine lv_iconst (v := 1) hx hb dX9_isPlane_225 (by decide) ?_
  have hP9 : va_P G vwCl [(h0, .inr (9, [.int 0, .int 0, .ref k0, .ref k1, .ref k2, .ref k3, .ref k4, .int 0, .ref h1, .int 1, .ref k5, .ref k6, .ref k7, .int 0, .ref k8, .ref k9, .int 0, .ref k10, .ref k11, .ref k12, .int 0, .ref k13, .int 0, .ref k14, .ref k15, .int 0, .int 0, .int 0, .ref k16, .int 0, .ref k17, .ref k18, .ref k19, .ref k20, .ref k21, .ref k22, .ref k23, .ref k24, .ref k25, .ref k26, .ref k27, .ref k28, .ref k29, .ref k30, .ref k31, .int 0, .int 0, .int 0, .int 0, .int 0, .ref k32, .ref k33, .ref k34, .ref k35, .ref k36, .ref k37, .int 0, .ref k38])), (h1, aI cI 21 xz)] H := hP.sub [0, 1] rfl
  have hD9 : va_D A [(h0, .inr (9, [.int 0, .int 0, .ref k0, .ref k1, .ref k2, .ref k3, .ref k4, .int 0, .ref h1, .int 1, .ref k5, .ref k6, .ref k7, .int 0, .ref k8, .ref k9, .int 0, .ref k10, .ref k11, .ref k12, .int 0, .ref k13, .int 0, .ref k14, .ref k15, .int 0, .int 0, .int 0, .ref k16, .int 0, .ref k17, .ref k18, .ref k19, .ref k20, .ref k21, .ref k22, .ref k23, .ref k24, .ref k25, .ref k26, .ref k27, .ref k28, .ref k29, .ref k30, .ref k31, .int 0, .int 0, .int 0, .int 0, .int 0, .ref k32, .ref k33, .ref k34, .ref k35, .ref k36, .ref k37, .int 0, .ref k38])), (h1, aI cI 21 xz)] := hD.sub [0, 1] (by decide) rfl
  refine W.widen (k := 0) (n := 0) (by decide) (by decide) ?_
  exact W.zret (v := 1) hx hb hr rfl (fun t ht hW => ⟨⟨1, (), rfl, rfl, by rw [ht]; exact hP9, hD9⟩, hS.F ht⟩) hS.2.2 dX9_isPlane_226
set_option maxHeartbeats 4000000 in
set_option maxRecDepth 100000 in
theorem mX9_outer (l : Launch) (G : va_G) (cI cJ cZ : ClassId) (h0 h1 k0 k1 k2 k3 k4 k5 k6 k7 k8 k9 k10 k11 k12 k13 k14 k15 k16 k17 k18 k19 k20 k21 k22 k23 k24 k25 k26 k27 k28 k29 k30 k31 k32 k33 k34 k35 k36 k37 k38 sz : Nat) : Met l yX9_outer (xw yX9_outer cX9_outer 2 (some .int)) ({ frames := 2, cells := 0, slots := 0, locals := 50 }) (xPc G cI cJ cZ [.ref h0] [(h0, .inr (9, [.int 0, .int 0, .ref k0, .ref k1, .ref k2, .ref k3, .ref k4, .int 0, .ref h1, .int 0, .ref k5, .ref k6, .ref k7, .int 0, .ref k8, .ref k9, .int 0, .ref k10, .ref k11, .ref k12, .int 0, .ref k13, .int 0, .ref k14, .ref k15, .int 0, .int 0, .int 0, .ref k16, .int 0, .ref k17, .ref k18, .ref k19, .ref k20, .ref k21, .ref k22, .ref k23, .ref k24, .ref k25, .ref k26, .ref k27, .ref k28, .ref k29, .ref k30, .ref k31, .int 0, .int 0, .int 0, .int 0, .int 0, .ref k32, .ref k33, .ref k34, .ref k35, .ref k36, .ref k37, .int 0, .ref k38])), (h1, aI cI 21 xz)] sz) (va_Qi (fun (r : Int32) (_ : Unit) => r = 1) (fun (_ : Unit) t => xB G (va_A [(h0, .inr (9, [.int 0, .int 0, .ref k0, .ref k1, .ref k2, .ref k3, .ref k4, .int 0, .ref h1, .int 0, .ref k5, .ref k6, .ref k7, .int 0, .ref k8, .ref k9, .int 0, .ref k10, .ref k11, .ref k12, .int 0, .ref k13, .int 0, .ref k14, .ref k15, .int 0, .int 0, .int 0, .ref k16, .int 0, .ref k17, .ref k18, .ref k19, .ref k20, .ref k21, .ref k22, .ref k23, .ref k24, .ref k25, .ref k26, .ref k27, .ref k28, .ref k29, .ref k30, .ref k31, .int 0, .int 0, .int 0, .int 0, .int 0, .ref k32, .ref k33, .ref k34, .ref k35, .ref k36, .ref k37, .int 0, .ref k38])), (h1, aI cI 21 xz)] sz) [(h0, .inr (9, [.int 0, .int 0, .ref k0, .ref k1, .ref k2, .ref k3, .ref k4, .int 0, .ref h1, .int 1, .ref k5, .ref k6, .ref k7, .int 0, .ref k8, .ref k9, .int 0, .ref k10, .ref k11, .ref k12, .int 0, .ref k13, .int 0, .ref k14, .ref k15, .int 0, .int 0, .int 0, .ref k16, .int 0, .ref k17, .ref k18, .ref k19, .ref k20, .ref k21, .ref k22, .ref k23, .ref k24, .ref k25, .ref k26, .ref k27, .ref k28, .ref k29, .ref k30, .ref k31, .int 0, .int 0, .int 0, .int 0, .int 0, .ref k32, .ref k33, .ref k34, .ref k35, .ref k36, .ref k37, .int 0, .ref k38])), (h1, aI cI 21 xz)] t) (va_A [(h0, .inr (9, [.int 0, .int 0, .ref k0, .ref k1, .ref k2, .ref k3, .ref k4, .int 0, .ref h1, .int 0, .ref k5, .ref k6, .ref k7, .int 0, .ref k8, .ref k9, .int 0, .ref k10, .ref k11, .ref k12, .int 0, .ref k13, .int 0, .ref k14, .ref k15, .int 0, .int 0, .int 0, .ref k16, .int 0, .ref k17, .ref k18, .ref k19, .ref k20, .ref k21, .ref k22, .ref k23, .ref k24, .ref k25, .ref k26, .ref k27, .ref k28, .ref k29, .ref k30, .ref k31, .int 0, .int 0, .int 0, .int 0, .int 0, .ref k32, .ref k33, .ref k34, .ref k35, .ref k36, .ref k37, .int 0, .ref k38])), (h1, aI cI 21 xz)] sz)) 0 0 (va_A [(h0, .inr (9, [.int 0, .int 0, .ref k0, .ref k1, .ref k2, .ref k3, .ref k4, .int 0, .ref h1, .int 0, .ref k5, .ref k6, .ref k7, .int 0, .ref k8, .ref k9, .int 0, .ref k10, .ref k11, .ref k12, .int 0, .ref k13, .int 0, .ref k14, .ref k15, .int 0, .int 0, .int 0, .ref k16, .int 0, .ref k17, .ref k18, .ref k19, .ref k20, .ref k21, .ref k22, .ref k23, .ref k24, .ref k25, .ref k26, .ref k27, .ref k28, .ref k29, .ref k30, .ref k31, .int 0, .int 0, .int 0, .int 0, .int 0, .ref k32, .ref k33, .ref k34, .ref k35, .ref k36, .ref k37, .int 0, .ref k38])), (h1, aI cI 21 xz)] sz) := by
  refine Met.ofW (cc := cX9_outer) (maxL := 2) (ret := (some .int)) (by decide) rfl ?_
  intro p e s m args below meth c s₁ B hml hv
  obtain ⟨rfl, hsz, hP, hK, hD0, hN⟩ := hv
  have hx := B.exec
  have hb := B.bytes
  have hr := B.returns
  have hts : ∀ w ∈ xW, w.before _ s = true := fun w h => atoms_spec (ws := xw yX9_outer cX9_outer 2 (some .int)) B.pre w (List.mem_cons_of_mem _ h)
  have hown : s.vm.findClass RX9 = some m.cls := findClass_of_methodNamed B.named
  have hlocks := B.notSynchronized
  subst hsz
  have hD := hD0.self (sz := s.heap.size)
  clear hD0
  generalize hAe : va_A [(h0, .inr (9, [.int 0, .int 0, .ref k0, .ref k1, .ref k2, .ref k3, .ref k4, .int 0, .ref h1, .int 0, .ref k5, .ref k6, .ref k7, .int 0, .ref k8, .ref k9, .int 0, .ref k10, .ref k11, .ref k12, .int 0, .ref k13, .int 0, .ref k14, .ref k15, .int 0, .int 0, .int 0, .ref k16, .int 0, .ref k17, .ref k18, .ref k19, .ref k20, .ref k21, .ref k22, .ref k23, .ref k24, .ref k25, .ref k26, .ref k27, .ref k28, .ref k29, .ref k30, .ref k31, .int 0, .int 0, .int 0, .int 0, .int 0, .ref k32, .ref k33, .ref k34, .ref k35, .ref k36, .ref k37, .int 0, .ref k38])), (h1, aI cI 21 xz)] s.heap.size = A at hD ⊢
  have hA : ∀ q : Nat, s.heap.size ≤ q → A q := fun q h => by rw [← hAe]; exact Or.inr h
  clear hAe
  have hS : va_S A s.heap s.heap [] := va_S.rf
  replace hP : va_P G vwCl [(h0, .inr (9, [.int 0, .int 0, .ref k0, .ref k1, .ref k2, .ref k3, .ref k4, .int 0, .ref h1, .int 0, .ref k5, .ref k6, .ref k7, .int 0, .ref k8, .ref k9, .int 0, .ref k10, .ref k11, .ref k12, .int 0, .ref k13, .int 0, .ref k14, .ref k15, .int 0, .int 0, .int 0, .ref k16, .int 0, .ref k17, .ref k18, .ref k19, .ref k20, .ref k21, .ref k22, .ref k23, .ref k24, .ref k25, .ref k26, .ref k27, .ref k28, .ref k29, .ref k30, .ref k31, .int 0, .int 0, .int 0, .int 0, .int 0, .ref k32, .ref k33, .ref k34, .ref k35, .ref k36, .ref k37, .int 0, .ref k38])), (h1, aI cI 21 xz)] s.heap := hP
  have hl := lv_entry ([.ref h0]) (n := 2) (Nat.le_of_ble_eq_true rfl)
  rw [lg_entry_eq]
  generalize (lg_sl ([.ref h0]) ++ List.replicate (2 - (lg_sl ([.ref h0])).length) Slot.unset).toArray = ls at hl ⊢
  replace hl : lv_has ls 2 [(0, .ref h0)] := hl
  refine lv_aload_n hx hb dX9_outer_0 rfl (lv_at hl 0 rfl) ?_
  refine lv_iconst (v := 0) hx hb dX9_outer_1 (by decide) ?_
  refine lv_iconst (v := (-1)) hx hb dX9_outer_2 (by decide) ?_
  refine xcv (wr := []) (va_runV (As := [.int 0, .int (-1)]) (rest := []) ⟨hx, hb, hml, hown, hts⟩ (mX9_takeSimple_1 l G cI cJ cZ h0 h1 k0 k1 k2 k3 k4 k5 k6 k7 k8 k9 k10 k11 k12 k13 k14 k15 k16 k17 k18 k19 k20 k21 k22 k23 k24 k25 k26 k27 k28 k29 k30 k31 k32 k33 k34 k35 k36 k37 k38 s.heap.size ) (cwV 2 hts (xgoodV wm_219 wm_220 wm_221 wm_222 wm_177) rfl rfl rfl (by decide +kernel) ⟨Nat.le_of_ble_eq_true rfl, Nat.le_of_ble_eq_true rfl⟩) (xPreV (q := (RX9, TX9, 58)) (q0 := 0) hK hN hP hD [0, 1] (by decide) rfl rfl rfl) rfl rfl hl.1 rfl (lv_room (Nat.le_of_ble_eq_true rfl)) dX9_outer_3 ⟨Nat.le_of_ble_eq_true rfl, Nat.le_of_ble_eq_true rfl⟩) hP hD hS hA [0, 1] [] rfl rfl (by decide) (by decide) (fun _ H locs hw hP hD hS => ?_)
  replace hP : va_P G vwCl [(h0, .inr (9, [.int 0, .int 0, .ref k0, .ref k1, .ref k2, .ref k3, .ref k4, .int 0, .ref h1, .int 0, .ref k5, .ref k6, .ref k7, .int 0, .ref k8, .ref k9, .int 0, .ref k10, .ref k11, .ref k12, .int 0, .ref k13, .int 0, .ref k14, .ref k15, .int 0, .int 0, .int 0, .ref k16, .int 0, .ref k17, .ref k18, .ref k19, .ref k20, .ref k21, .ref k22, .ref k23, .ref k24, .ref k25, .ref k26, .ref k27, .ref k28, .ref k29, .ref k30, .ref k31, .int 0, .int 0, .int 0, .int 0, .int 0, .ref k32, .ref k33, .ref k34, .ref k35, .ref k36, .ref k37, .int 0, .ref k38])), (h1, aI cI 21 xz)] H := hP
  replace hD : va_D A [(h0, .inr (9, [.int 0, .int 0, .ref k0, .ref k1, .ref k2, .ref k3, .ref k4, .int 0, .ref h1, .int 0, .ref k5, .ref k6, .ref k7, .int 0, .ref k8, .ref k9, .int 0, .ref k10, .ref k11, .ref k12, .int 0, .ref k13, .int 0, .ref k14, .ref k15, .int 0, .int 0, .int 0, .ref k16, .int 0, .ref k17, .ref k18, .ref k19, .ref k20, .ref k21, .ref k22, .ref k23, .ref k24, .ref k25, .ref k26, .ref k27, .ref k28, .ref k29, .ref k30, .ref k31, .int 0, .int 0, .int 0, .int 0, .int 0, .ref k32, .ref k33, .ref k34, .ref k35, .ref k36, .ref k37, .int 0, .ref k38])), (h1, aI cI 21 xz)] := hD
  refine lv_iconst (v := 0) hx hb dX9_outer_6 (by decide) ?_
  refine lv_istore_n (lv' := [(1, .int 0), (0, .ref h0)]) hx hb dX9_outer_7 rfl hl (by decide) rfl (fun ls hl => ?_)
  refine lv_iload_n hx hb dX9_outer_8 rfl (lv_at hl 0 rfl) ?_
  refine lv_aload_n hx hb dX9_outer_9 rfl (lv_at hl 1 rfl) ?_
  refine va_get (D := G) (ci := 9) (v := .int 0) (C := RX9) (T := TX9) (N := 58) hx hb hts xinX9 hown hK hP 0 rfl rfl 0 (by decide) (hts _ wm_167) (fun _ h9 => h9) rfl dX9_outer_10 ?_
  refine lv_icmp_ge (tgt := 52) hx hb dX9_outer_13 (by decide) (fun c53 => ?_) (fun c53 => ?_)
  rotate_left
  · exact absurd c53 (by decide)
  refine lv_aload_n hx hb dX9_outer_52 rfl (lv_at hl 1 rfl) ?_
  refine lv_aload_n hx hb dX9_outer_53 rfl (lv_at hl 1 rfl) ?_
  refine va_get (D := G) (ci := 9) (v := .int 0) (C := RX9) (T := TX9) (N := 58) hx hb hts xinX9 hown hK hP 0 rfl rfl 0 (by decide) (hts _ wm_167) (fun _ h9 => h9) rfl dX9_outer_54 ?_
  refine lv_iconst (v := 1) hx hb dX9_outer_57 (by decide) ?_
  refine lv_iadd hx hb dX9_outer_58 ?_
  refine lv_topi (fun w11 ew11 => ?_)
  obtain rfl : w11 = (1 : Int32) := ew11.trans (by decide)
  refine va_put (D := G) (ci := 9) (v := .int 1) (ty := .int) (C := RX9) (T := TX9) (N := 58) hx hb hts xinX9 tyX9 tyX9_ok nmX9 hown hK hP hD hS 0 rfl rfl 9 (by decide) (hts _ wm_218) (fun _ h9 => h9) rfl (by decide +kernel) rfl rfl (Nat.le_of_ble_eq_true rfl) dX9_outer_59 (fun H locs hP hD hS => ?_)
  replace hP : va_P G vwCl [(h0, .inr (9, [.int 0, .int 0, .ref k0, .ref k1, .ref k2, .ref k3, .ref k4, .int 0, .ref h1, .int 1, .ref k5, .ref k6, .ref k7, .int 0, .ref k8, .ref k9, .int 0, .ref k10, .ref k11, .ref k12, .int 0, .ref k13, .int 0, .ref k14, .ref k15, .int 0, .int 0, .int 0, .ref k16, .int 0, .ref k17, .ref k18, .ref k19, .ref k20, .ref k21, .ref k22, .ref k23, .ref k24, .ref k25, .ref k26, .ref k27, .ref k28, .ref k29, .ref k30, .ref k31, .int 0, .int 0, .int 0, .int 0, .int 0, .ref k32, .ref k33, .ref k34, .ref k35, .ref k36, .ref k37, .int 0, .ref k38])), (h1, aI cI 21 xz)] H := hP
  replace hD : va_D A [(h0, .inr (9, [.int 0, .int 0, .ref k0, .ref k1, .ref k2, .ref k3, .ref k4, .int 0, .ref h1, .int 1, .ref k5, .ref k6, .ref k7, .int 0, .ref k8, .ref k9, .int 0, .ref k10, .ref k11, .ref k12, .int 0, .ref k13, .int 0, .ref k14, .ref k15, .int 0, .int 0, .int 0, .ref k16, .int 0, .ref k17, .ref k18, .ref k19, .ref k20, .ref k21, .ref k22, .ref k23, .ref k24, .ref k25, .ref k26, .ref k27, .ref k28, .ref k29, .ref k30, .ref k31, .int 0, .int 0, .int 0, .int 0, .int 0, .ref k32, .ref k33, .ref k34, .ref k35, .ref k36, .ref k37, .int 0, .ref k38])), (h1, aI cI 21 xz)] := hD
  refine lv_aload_n hx hb dX9_outer_62 rfl (lv_at hl 1 rfl) ?_
  refine xci (wr := []) (va_runV (As := []) (rest := []) ⟨hx, hb, hml, hown, hts⟩ (mX9_isPlane_2 l G cI cJ cZ h0 h1 k0 k1 k2 k3 k4 k5 k6 k7 k8 k9 k10 k11 k12 k13 k14 k15 k16 k17 k18 k19 k20 k21 k22 k23 k24 k25 k26 k27 k28 k29 k30 k31 k32 k33 k34 k35 k36 k37 k38 H.size ) (cwV 0 hts (xgoodV wm_228 wm_229 wm_230 wm_231 wm_177) rfl rfl rfl (by decide +kernel) ⟨Nat.le_of_ble_eq_true rfl, Nat.le_of_ble_eq_true rfl⟩) (xPreV (q := (RX9, TX9, 58)) (q0 := 0) hK hN hP hD [0, 1] (by decide) rfl rfl rfl) rfl rfl hl.1 rfl (lv_room (Nat.le_of_ble_eq_true rfl)) dX9_outer_63 ⟨Nat.le_of_ble_eq_true rfl, Nat.le_of_ble_eq_true rfl⟩) hP hD hS hA [0, 1] [] rfl rfl (by decide) (by decide) (fun r41 _ H locs hw hP hD hS => ?_)
  replace hP : va_P G vwCl [(h0, .inr (9, [.int 0, .int 0, .ref k0, .ref k1, .ref k2, .ref k3, .ref k4, .int 0, .ref h1, .int 1, .ref k5, .ref k6, .ref k7, .int 0, .ref k8, .ref k9, .int 0, .ref k10, .ref k11, .ref k12, .int 0, .ref k13, .int 0, .ref k14, .ref k15, .int 0, .int 0, .int 0, .ref k16, .int 0, .ref k17, .ref k18, .ref k19, .ref k20, .ref k21, .ref k22, .ref k23, .ref k24, .ref k25, .ref k26, .ref k27, .ref k28, .ref k29, .ref k30, .ref k31, .int 0, .int 0, .int 0, .int 0, .int 0, .ref k32, .ref k33, .ref k34, .ref k35, .ref k36, .ref k37, .int 0, .ref k38])), (h1, aI cI 21 xz)] H := hP
  replace hD : va_D A [(h0, .inr (9, [.int 0, .int 0, .ref k0, .ref k1, .ref k2, .ref k3, .ref k4, .int 0, .ref h1, .int 1, .ref k5, .ref k6, .ref k7, .int 0, .ref k8, .ref k9, .int 0, .ref k10, .ref k11, .ref k12, .int 0, .ref k13, .int 0, .ref k14, .ref k15, .int 0, .int 0, .int 0, .ref k16, .int 0, .ref k17, .ref k18, .ref k19, .ref k20, .ref k21, .ref k22, .ref k23, .ref k24, .ref k25, .ref k26, .ref k27, .ref k28, .ref k29, .ref k30, .ref k31, .int 0, .int 0, .int 0, .int 0, .int 0, .ref k32, .ref k33, .ref k34, .ref k35, .ref k36, .ref k37, .int 0, .ref k38])), (h1, aI cI 21 xz)] := hD
  obtain rfl : r41 = (1 : Int32) := hw
  refine lv_if_eq (tgt := 73) hx hb dX9_outer_66 (by decide) (fun c65 => ?_) (fun c65 => ?_)
  · exact absurd c65 (by decide)
  refine lv_iconst (v := 1) hx hb dX9_outer_69 (by decide) ?_
  refine lv_goto (tgt := 74) hx hb dX9_outer_70 (by decide) ?_
  have hP9 : va_P G vwCl [(h0, .inr (9, [.int 0, .int 0, .ref k0, .ref k1, .ref k2, .ref k3, .ref k4, .int 0, .ref h1, .int 1, .ref k5, .ref k6, .ref k7, .int 0, .ref k8, .ref k9, .int 0, .ref k10, .ref k11, .ref k12, .int 0, .ref k13, .int 0, .ref k14, .ref k15, .int 0, .int 0, .int 0, .ref k16, .int 0, .ref k17, .ref k18, .ref k19, .ref k20, .ref k21, .ref k22, .ref k23, .ref k24, .ref k25, .ref k26, .ref k27, .ref k28, .ref k29, .ref k30, .ref k31, .int 0, .int 0, .int 0, .int 0, .int 0, .ref k32, .ref k33, .ref k34, .ref k35, .ref k36, .ref k37, .int 0, .ref k38])), (h1, aI cI 21 xz)] H := hP.sub [0, 1] rfl
  have hD9 : va_D A [(h0, .inr (9, [.int 0, .int 0, .ref k0, .ref k1, .ref k2, .ref k3, .ref k4, .int 0, .ref h1, .int 1, .ref k5, .ref k6, .ref k7, .int 0, .ref k8, .ref k9, .int 0, .ref k10, .ref k11, .ref k12, .int 0, .ref k13, .int 0, .ref k14, .ref k15, .int 0, .int 0, .int 0, .ref k16, .int 0, .ref k17, .ref k18, .ref k19, .ref k20, .ref k21, .ref k22, .ref k23, .ref k24, .ref k25, .ref k26, .ref k27, .ref k28, .ref k29, .ref k30, .ref k31, .int 0, .int 0, .int 0, .int 0, .int 0, .ref k32, .ref k33, .ref k34, .ref k35, .ref k36, .ref k37, .int 0, .ref k38])), (h1, aI cI 21 xz)] := hD.sub [0, 1] (by decide) rfl
  refine W.widen (k := 0) (n := 0) (by decide) (by decide) ?_
  exact W.iret (v := 1) hx hb hr (fun t ht hW => ⟨⟨1, (), rfl, rfl, by rw [ht]; exact hP9, hD9⟩, hS.F ht⟩) hS.2.2 dX9_outer_74
set_option maxHeartbeats 4000000 in
set_option maxRecDepth 100000 in
theorem mX8_degree (l : Launch) (G : va_G) (cI cJ cZ : ClassId) (h0 h1 k0 k1 k2 k3 k4 k5 k6 k7 k8 k9 k10 k11 k12 sz : Nat) (p0 : Int32) : Met l yX8_degree (xw yX8_degree cX8_degree 2 (some .int)) ({ frames := 1, cells := 0, slots := 0, locals := 21 }) (xPc G cI cJ cZ [.ref h0, .int p0] [(h0, .inr (8, [.ref h1, .ref k0, .ref k1, .ref k2, .ref k3, .ref k4, .ref k5, .ref k6, .ref k7, .ref k8, .ref k9, .int 0, .int 0, .int 0, .int 0, .int 0])), (h1, .inr (3, [.ref k10, .ref k11, .ref k12, .int 0, .int 0, .int 0]))] sz) (va_Qi (fun (r : Int32) (_ : Unit) => r = (-1)) (fun (_ : Unit) t => xB G (va_A [(h0, .inr (8, [.ref h1, .ref k0, .ref k1, .ref k2, .ref k3, .ref k4, .ref k5, .ref k6, .ref k7, .ref k8, .ref k9, .int 0, .int 0, .int 0, .int 0, .int 0])), (h1, .inr (3, [.ref k10, .ref k11, .ref k12, .int 0, .int 0, .int 0]))] sz) [(h0, .inr (8, [.ref h1, .ref k0, .ref k1, .ref k2, .ref k3, .ref k4, .ref k5, .ref k6, .ref k7, .ref k8, .ref k9, .int 0, .int 0, .int 0, .int 0, .int 0])), (h1, .inr (3, [.ref k10, .ref k11, .ref k12, .int 0, .int 0, .int 0]))] t) (va_A [(h0, .inr (8, [.ref h1, .ref k0, .ref k1, .ref k2, .ref k3, .ref k4, .ref k5, .ref k6, .ref k7, .ref k8, .ref k9, .int 0, .int 0, .int 0, .int 0, .int 0])), (h1, .inr (3, [.ref k10, .ref k11, .ref k12, .int 0, .int 0, .int 0]))] sz)) 0 0 (va_A [(h0, .inr (8, [.ref h1, .ref k0, .ref k1, .ref k2, .ref k3, .ref k4, .ref k5, .ref k6, .ref k7, .ref k8, .ref k9, .int 0, .int 0, .int 0, .int 0, .int 0])), (h1, .inr (3, [.ref k10, .ref k11, .ref k12, .int 0, .int 0, .int 0]))] sz) := by
  refine Met.ofW (cc := cX8_degree) (maxL := 2) (ret := (some .int)) (by decide) rfl ?_
  intro p e s m args below meth c s₁ B hml hv
  obtain ⟨rfl, hsz, hP, hK, hD0, hN⟩ := hv
  have hx := B.exec
  have hb := B.bytes
  have hr := B.returns
  have hts : ∀ w ∈ xW, w.before _ s = true := fun w h => atoms_spec (ws := xw yX8_degree cX8_degree 2 (some .int)) B.pre w (List.mem_cons_of_mem _ h)
  have hown : s.vm.findClass RX8 = some m.cls := findClass_of_methodNamed B.named
  have hlocks := B.notSynchronized
  subst hsz
  have hD := hD0.self (sz := s.heap.size)
  clear hD0
  generalize hAe : va_A [(h0, .inr (8, [.ref h1, .ref k0, .ref k1, .ref k2, .ref k3, .ref k4, .ref k5, .ref k6, .ref k7, .ref k8, .ref k9, .int 0, .int 0, .int 0, .int 0, .int 0])), (h1, .inr (3, [.ref k10, .ref k11, .ref k12, .int 0, .int 0, .int 0]))] s.heap.size = A at hD ⊢
  have hA : ∀ q : Nat, s.heap.size ≤ q → A q := fun q h => by rw [← hAe]; exact Or.inr h
  clear hAe
  have hS : va_S A s.heap s.heap [] := va_S.rf
  replace hP : va_P G vwCl [(h0, .inr (8, [.ref h1, .ref k0, .ref k1, .ref k2, .ref k3, .ref k4, .ref k5, .ref k6, .ref k7, .ref k8, .ref k9, .int 0, .int 0, .int 0, .int 0, .int 0])), (h1, .inr (3, [.ref k10, .ref k11, .ref k12, .int 0, .int 0, .int 0]))] s.heap := hP
  have hl := lv_entry ([.ref h0, .int p0]) (n := 2) (Nat.le_of_ble_eq_true rfl)
  rw [lg_entry_eq]
  generalize (lg_sl ([.ref h0, .int p0]) ++ List.replicate (2 - (lg_sl ([.ref h0, .int p0])).length) Slot.unset).toArray = ls at hl ⊢
  replace hl : lv_has ls 2 [(0, .ref h0), (1, .int p0)] := hl
  refine lv_aload_n hx hb dX8_degree_0 rfl (lv_at hl 0 rfl) ?_
  refine va_get (D := G) (ci := 8) (v := .ref h1) (C := RX8) (T := TX8) (N := 16) hx hb hts xinX8 hown hK hP 0 rfl rfl 0 (by decide) (hts _ wm_14) (fun _ h9 => h9) rfl dX8_degree_1 ?_
  refine lv_iload_n hx hb dX8_degree_4 rfl (lv_at hl 1 rfl) ?_
  refine xci (wr := [(h0, .inr (8, [.ref h1, .ref k0, .ref k1, .ref k2, .ref k3, .ref k4, .ref k5, .ref k6, .ref k7, .ref k8, .ref k9, .int 0, .int 0, .int 0, .int 0, .int 0]))]) (va_runV (As := [.int p0]) (rest := []) ⟨hx, hb, hml, hown, hts⟩ (mX3_hasNode l G cI cJ cZ h1 k10 k11 k12 s.heap.size p0) (cwV 1 hts (xgoodV wm_169 wm_170 wm_171 wm_172 wm_5) rfl rfl rfl (by decide +kernel) ⟨Nat.le_of_ble_eq_true rfl, Nat.le_of_ble_eq_true rfl⟩) (xPreV (q := (RX3, TX3, 6)) (q0 := 1) hK hN hP hD [1] (by decide) rfl rfl rfl) rfl rfl hl.1 rfl (lv_room (Nat.le_of_ble_eq_true rfl)) dX8_degree_5 ⟨Nat.le_of_ble_eq_true rfl, Nat.le_of_ble_eq_true rfl⟩) hP hD hS hA [1] [0] rfl rfl (by decide) (by decide) (fun r42 _ H locs hw hP hD hS => ?_)
  replace hP : va_P G vwCl [(h0, .inr (8, [.ref h1, .ref k0, .ref k1, .ref k2, .ref k3, .ref k4, .ref k5, .ref k6, .ref k7, .ref k8, .ref k9, .int 0, .int 0, .int 0, .int 0, .int 0])), (h1, .inr (3, [.ref k10, .ref k11, .ref k12, .int 0, .int 0, .int 0]))] H := hP
  replace hD : va_D A [(h0, .inr (8, [.ref h1, .ref k0, .ref k1, .ref k2, .ref k3, .ref k4, .ref k5, .ref k6, .ref k7, .ref k8, .ref k9, .int 0, .int 0, .int 0, .int 0, .int 0])), (h1, .inr (3, [.ref k10, .ref k11, .ref k12, .int 0, .int 0, .int 0]))] := hD
  obtain rfl : r42 = (0 : Int32) := hw
  refine lv_if_eq (tgt := 22) hx hb dX8_degree_8 (by decide) (fun c66 => ?_) (fun c66 => ?_)
  rotate_left
  · exact absurd c66 (by decide)
  refine lv_iconst (v := (-1)) hx hb dX8_degree_22 (by decide) ?_
  have hP9 : va_P G vwCl [(h0, .inr (8, [.ref h1, .ref k0, .ref k1, .ref k2, .ref k3, .ref k4, .ref k5, .ref k6, .ref k7, .ref k8, .ref k9, .int 0, .int 0, .int 0, .int 0, .int 0])), (h1, .inr (3, [.ref k10, .ref k11, .ref k12, .int 0, .int 0, .int 0]))] H := hP.sub [0, 1] rfl
  have hD9 : va_D A [(h0, .inr (8, [.ref h1, .ref k0, .ref k1, .ref k2, .ref k3, .ref k4, .ref k5, .ref k6, .ref k7, .ref k8, .ref k9, .int 0, .int 0, .int 0, .int 0, .int 0])), (h1, .inr (3, [.ref k10, .ref k11, .ref k12, .int 0, .int 0, .int 0]))] := hD.sub [0, 1] (by decide) rfl
  refine W.widen (k := 0) (n := 0) (by decide) (by decide) ?_
  exact W.iret (v := (-1)) hx hb hr (fun t ht hW => ⟨⟨(-1), (), rfl, rfl, by rw [ht]; exact hP9, hD9⟩, hS.F ht⟩) hS.2.2 dX8_degree_23
set_option maxHeartbeats 4000000 in
set_option maxRecDepth 100000 in
theorem mX9_degree (l : Launch) (G : va_G) (cI cJ cZ : ClassId) (h0 k0 k1 k2 k3 k4 k5 k6 k7 k8 k9 k10 k11 k12 k13 k14 k15 k16 k17 k18 k19 k20 k21 k22 k23 k24 k25 k26 k27 k28 k29 k30 k31 k32 k33 k34 k35 k36 k37 k38 k39 sz : Nat) (p0 : Int32) : Met l yX9_degree (xw yX9_degree cX9_degree 2 (some .int)) ({ frames := 1, cells := 0, slots := 0, locals := 21 }) (xPc G cI cJ cZ [.ref h0, .int p0] [(h0, .inr (9, [.int 0, .int 0, .ref k0, .ref k1, .ref k2, .ref k3, .ref k4, .int 0, .ref k5, .int 0, .ref k6, .ref k7, .ref k8, .int 0, .ref k9, .ref k10, .int 0, .ref k11, .ref k12, .ref k13, .int 0, .ref k14, .int 0, .ref k15, .ref k16, .int 0, .int 0, .int 0, .ref k17, .int 0, .ref k18, .ref k19, .ref k20, .ref k21, .ref k22, .ref k23, .ref k24, .ref k25, .ref k26, .ref k27, .ref k28, .ref k29, .ref k30, .ref k31, .ref k32, .int 0, .int 0, .int 0, .int 0, .int 0, .ref k33, .ref k34, .ref k35, .ref k36, .ref k37, .ref k38, .int 0, .ref k39]))] sz) (va_Qi (fun (r : Int32) (_ : Unit) => r = (-1)) (fun (_ : Unit) t => xB G (va_A [(h0, .inr (9, [.int 0, .int 0, .ref k0, .ref k1, .ref k2, .ref k3, .ref k4, .int 0, .ref k5, .int 0, .ref k6, .ref k7, .ref k8, .int 0, .ref k9, .ref k10, .int 0, .ref k11, .ref k12, .ref k13, .int 0, .ref k14, .int 0, .ref k15, .ref k16, .int 0, .int 0, .int 0, .ref k17, .int 0, .ref k18, .ref k19, .ref k20, .ref k21, .ref k22, .ref k23, .ref k24, .ref k25, .ref k26, .ref k27, .ref k28, .ref k29, .ref k30, .ref k31, .ref k32, .int 0, .int 0, .int 0, .int 0, .int 0, .ref k33, .ref k34, .ref k35, .ref k36, .ref k37, .ref k38, .int 0, .ref k39]))] sz) [(h0, .inr (9, [.int 0, .int 0, .ref k0, .ref k1, .ref k2, .ref k3, .ref k4, .int 0, .ref k5, .int 0, .ref k6, .ref k7, .ref k8, .int 0, .ref k9, .ref k10, .int 0, .ref k11, .ref k12, .ref k13, .int 0, .ref k14, .int 0, .ref k15, .ref k16, .int 0, .int 0, .int 0, .ref k17, .int 0, .ref k18, .ref k19, .ref k20, .ref k21, .ref k22, .ref k23, .ref k24, .ref k25, .ref k26, .ref k27, .ref k28, .ref k29, .ref k30, .ref k31, .ref k32, .int 0, .int 0, .int 0, .int 0, .int 0, .ref k33, .ref k34, .ref k35, .ref k36, .ref k37, .ref k38, .int 0, .ref k39]))] t) (va_A [(h0, .inr (9, [.int 0, .int 0, .ref k0, .ref k1, .ref k2, .ref k3, .ref k4, .int 0, .ref k5, .int 0, .ref k6, .ref k7, .ref k8, .int 0, .ref k9, .ref k10, .int 0, .ref k11, .ref k12, .ref k13, .int 0, .ref k14, .int 0, .ref k15, .ref k16, .int 0, .int 0, .int 0, .ref k17, .int 0, .ref k18, .ref k19, .ref k20, .ref k21, .ref k22, .ref k23, .ref k24, .ref k25, .ref k26, .ref k27, .ref k28, .ref k29, .ref k30, .ref k31, .ref k32, .int 0, .int 0, .int 0, .int 0, .int 0, .ref k33, .ref k34, .ref k35, .ref k36, .ref k37, .ref k38, .int 0, .ref k39]))] sz)) 0 0 (va_A [(h0, .inr (9, [.int 0, .int 0, .ref k0, .ref k1, .ref k2, .ref k3, .ref k4, .int 0, .ref k5, .int 0, .ref k6, .ref k7, .ref k8, .int 0, .ref k9, .ref k10, .int 0, .ref k11, .ref k12, .ref k13, .int 0, .ref k14, .int 0, .ref k15, .ref k16, .int 0, .int 0, .int 0, .ref k17, .int 0, .ref k18, .ref k19, .ref k20, .ref k21, .ref k22, .ref k23, .ref k24, .ref k25, .ref k26, .ref k27, .ref k28, .ref k29, .ref k30, .ref k31, .ref k32, .int 0, .int 0, .int 0, .int 0, .int 0, .ref k33, .ref k34, .ref k35, .ref k36, .ref k37, .ref k38, .int 0, .ref k39]))] sz) := by
  refine Met.ofW (cc := cX9_degree) (maxL := 2) (ret := (some .int)) (by decide) rfl ?_
  intro p e s m args below meth c s₁ B hml hv
  obtain ⟨rfl, hsz, hP, hK, hD0, hN⟩ := hv
  have hx := B.exec
  have hb := B.bytes
  have hr := B.returns
  have hts : ∀ w ∈ xW, w.before _ s = true := fun w h => atoms_spec (ws := xw yX9_degree cX9_degree 2 (some .int)) B.pre w (List.mem_cons_of_mem _ h)
  have hown : s.vm.findClass RX9 = some m.cls := findClass_of_methodNamed B.named
  have hlocks := B.notSynchronized
  subst hsz
  have hD := hD0.self (sz := s.heap.size)
  clear hD0
  generalize hAe : va_A [(h0, .inr (9, [.int 0, .int 0, .ref k0, .ref k1, .ref k2, .ref k3, .ref k4, .int 0, .ref k5, .int 0, .ref k6, .ref k7, .ref k8, .int 0, .ref k9, .ref k10, .int 0, .ref k11, .ref k12, .ref k13, .int 0, .ref k14, .int 0, .ref k15, .ref k16, .int 0, .int 0, .int 0, .ref k17, .int 0, .ref k18, .ref k19, .ref k20, .ref k21, .ref k22, .ref k23, .ref k24, .ref k25, .ref k26, .ref k27, .ref k28, .ref k29, .ref k30, .ref k31, .ref k32, .int 0, .int 0, .int 0, .int 0, .int 0, .ref k33, .ref k34, .ref k35, .ref k36, .ref k37, .ref k38, .int 0, .ref k39]))] s.heap.size = A at hD ⊢
  have hA : ∀ q : Nat, s.heap.size ≤ q → A q := fun q h => by rw [← hAe]; exact Or.inr h
  clear hAe
  have hS : va_S A s.heap s.heap [] := va_S.rf
  replace hP : va_P G vwCl [(h0, .inr (9, [.int 0, .int 0, .ref k0, .ref k1, .ref k2, .ref k3, .ref k4, .int 0, .ref k5, .int 0, .ref k6, .ref k7, .ref k8, .int 0, .ref k9, .ref k10, .int 0, .ref k11, .ref k12, .ref k13, .int 0, .ref k14, .int 0, .ref k15, .ref k16, .int 0, .int 0, .int 0, .ref k17, .int 0, .ref k18, .ref k19, .ref k20, .ref k21, .ref k22, .ref k23, .ref k24, .ref k25, .ref k26, .ref k27, .ref k28, .ref k29, .ref k30, .ref k31, .ref k32, .int 0, .int 0, .int 0, .int 0, .int 0, .ref k33, .ref k34, .ref k35, .ref k36, .ref k37, .ref k38, .int 0, .ref k39]))] s.heap := hP
  have hl := lv_entry ([.ref h0, .int p0]) (n := 2) (Nat.le_of_ble_eq_true rfl)
  rw [lg_entry_eq]
  generalize (lg_sl ([.ref h0, .int p0]) ++ List.replicate (2 - (lg_sl ([.ref h0, .int p0])).length) Slot.unset).toArray = ls at hl ⊢
  replace hl : lv_has ls 2 [(0, .ref h0), (1, .int p0)] := hl
  refine lv_aload_n hx hb dX9_degree_0 rfl (lv_at hl 0 rfl) ?_
  refine lv_iload_n hx hb dX9_degree_1 rfl (lv_at hl 1 rfl) ?_
  refine xci (wr := []) (va_runV (As := [.int p0]) (rest := []) ⟨hx, hb, hml, hown, hts⟩ (mX9_isNode l G cI cJ cZ h0 k0 k1 k2 k3 k4 k5 k6 k7 k8 k9 k10 k11 k12 k13 k14 k15 k16 k17 k18 k19 k20 k21 k22 k23 k24 k25 k26 k27 k28 k29 k30 k31 k32 k33 k34 k35 k36 k37 k38 k39 s.heap.size p0) (cwV 1 hts (xgoodV wm_173 wm_174 wm_175 wm_176 wm_177) rfl rfl rfl (by decide +kernel) ⟨Nat.le_of_ble_eq_true rfl, Nat.le_of_ble_eq_true rfl⟩) (xPreV (q := (RX9, TX9, 58)) (q0 := 0) hK hN hP hD [0] (by decide) rfl rfl rfl) rfl rfl hl.1 rfl (lv_room (Nat.le_of_ble_eq_true rfl)) dX9_degree_2 ⟨Nat.le_of_ble_eq_true rfl, Nat.le_of_ble_eq_true rfl⟩) hP hD hS hA [0] [] rfl rfl (by decide) (by decide) (fun r43 _ H locs hw hP hD hS => ?_)
  replace hP : va_P G vwCl [(h0, .inr (9, [.int 0, .int 0, .ref k0, .ref k1, .ref k2, .ref k3, .ref k4, .int 0, .ref k5, .int 0, .ref k6, .ref k7, .ref k8, .int 0, .ref k9, .ref k10, .int 0, .ref k11, .ref k12, .ref k13, .int 0, .ref k14, .int 0, .ref k15, .ref k16, .int 0, .int 0, .int 0, .ref k17, .int 0, .ref k18, .ref k19, .ref k20, .ref k21, .ref k22, .ref k23, .ref k24, .ref k25, .ref k26, .ref k27, .ref k28, .ref k29, .ref k30, .ref k31, .ref k32, .int 0, .int 0, .int 0, .int 0, .int 0, .ref k33, .ref k34, .ref k35, .ref k36, .ref k37, .ref k38, .int 0, .ref k39]))] H := hP
  replace hD : va_D A [(h0, .inr (9, [.int 0, .int 0, .ref k0, .ref k1, .ref k2, .ref k3, .ref k4, .int 0, .ref k5, .int 0, .ref k6, .ref k7, .ref k8, .int 0, .ref k9, .ref k10, .int 0, .ref k11, .ref k12, .ref k13, .int 0, .ref k14, .int 0, .ref k15, .ref k16, .int 0, .int 0, .int 0, .ref k17, .int 0, .ref k18, .ref k19, .ref k20, .ref k21, .ref k22, .ref k23, .ref k24, .ref k25, .ref k26, .ref k27, .ref k28, .ref k29, .ref k30, .ref k31, .ref k32, .int 0, .int 0, .int 0, .int 0, .int 0, .ref k33, .ref k34, .ref k35, .ref k36, .ref k37, .ref k38, .int 0, .ref k39]))] := hD
  obtain rfl : r43 = (0 : Int32) := hw
  refine lv_if_eq (tgt := 17) hx hb dX9_degree_5 (by decide) (fun c67 => ?_) (fun c67 => ?_)
  rotate_left
  · exact absurd c67 (by decide)
  refine lv_iconst (v := (-1)) hx hb dX9_degree_17 (by decide) ?_
  have hP9 : va_P G vwCl [(h0, .inr (9, [.int 0, .int 0, .ref k0, .ref k1, .ref k2, .ref k3, .ref k4, .int 0, .ref k5, .int 0, .ref k6, .ref k7, .ref k8, .int 0, .ref k9, .ref k10, .int 0, .ref k11, .ref k12, .ref k13, .int 0, .ref k14, .int 0, .ref k15, .ref k16, .int 0, .int 0, .int 0, .ref k17, .int 0, .ref k18, .ref k19, .ref k20, .ref k21, .ref k22, .ref k23, .ref k24, .ref k25, .ref k26, .ref k27, .ref k28, .ref k29, .ref k30, .ref k31, .ref k32, .int 0, .int 0, .int 0, .int 0, .int 0, .ref k33, .ref k34, .ref k35, .ref k36, .ref k37, .ref k38, .int 0, .ref k39]))] H := hP.sub [0] rfl
  have hD9 : va_D A [(h0, .inr (9, [.int 0, .int 0, .ref k0, .ref k1, .ref k2, .ref k3, .ref k4, .int 0, .ref k5, .int 0, .ref k6, .ref k7, .ref k8, .int 0, .ref k9, .ref k10, .int 0, .ref k11, .ref k12, .ref k13, .int 0, .ref k14, .int 0, .ref k15, .ref k16, .int 0, .int 0, .int 0, .ref k17, .int 0, .ref k18, .ref k19, .ref k20, .ref k21, .ref k22, .ref k23, .ref k24, .ref k25, .ref k26, .ref k27, .ref k28, .ref k29, .ref k30, .ref k31, .ref k32, .int 0, .int 0, .int 0, .int 0, .int 0, .ref k33, .ref k34, .ref k35, .ref k36, .ref k37, .ref k38, .int 0, .ref k39]))] := hD.sub [0] (by decide) rfl
  refine W.widen (k := 0) (n := 0) (by decide) (by decide) ?_
  exact W.iret (v := (-1)) hx hb hr (fun t ht hW => ⟨⟨(-1), (), rfl, rfl, by rw [ht]; exact hP9, hD9⟩, hS.F ht⟩) hS.2.2 dX9_degree_18
set_option maxHeartbeats 4000000 in
set_option maxRecDepth 100000 in
theorem mX8_turn (l : Launch) (G : va_G) (cI cJ cZ : ClassId) (h0 h1 k0 k1 k2 k3 k4 k5 k6 k7 k8 k9 k10 k11 k12 sz : Nat) (p0 p1 : Int32) : Met l yX8_turn (xw yX8_turn cX8_turn 3 (some .int)) ({ frames := 1, cells := 0, slots := 0, locals := 21 }) (xPc G cI cJ cZ [.ref h0, .int p0, .int p1] [(h0, .inr (8, [.ref h1, .ref k0, .ref k1, .ref k2, .ref k3, .ref k4, .ref k5, .ref k6, .ref k7, .ref k8, .ref k9, .int 0, .int 0, .int 0, .int 0, .int 0])), (h1, .inr (3, [.ref k10, .ref k11, .ref k12, .int 0, .int 0, .int 0]))] sz) (va_Qi (fun (r : Int32) (_ : Unit) => r = (-1)) (fun (_ : Unit) t => xB G (va_A [(h0, .inr (8, [.ref h1, .ref k0, .ref k1, .ref k2, .ref k3, .ref k4, .ref k5, .ref k6, .ref k7, .ref k8, .ref k9, .int 0, .int 0, .int 0, .int 0, .int 0])), (h1, .inr (3, [.ref k10, .ref k11, .ref k12, .int 0, .int 0, .int 0]))] sz) [(h0, .inr (8, [.ref h1, .ref k0, .ref k1, .ref k2, .ref k3, .ref k4, .ref k5, .ref k6, .ref k7, .ref k8, .ref k9, .int 0, .int 0, .int 0, .int 0, .int 0])), (h1, .inr (3, [.ref k10, .ref k11, .ref k12, .int 0, .int 0, .int 0]))] t) (va_A [(h0, .inr (8, [.ref h1, .ref k0, .ref k1, .ref k2, .ref k3, .ref k4, .ref k5, .ref k6, .ref k7, .ref k8, .ref k9, .int 0, .int 0, .int 0, .int 0, .int 0])), (h1, .inr (3, [.ref k10, .ref k11, .ref k12, .int 0, .int 0, .int 0]))] sz)) 0 0 (va_A [(h0, .inr (8, [.ref h1, .ref k0, .ref k1, .ref k2, .ref k3, .ref k4, .ref k5, .ref k6, .ref k7, .ref k8, .ref k9, .int 0, .int 0, .int 0, .int 0, .int 0])), (h1, .inr (3, [.ref k10, .ref k11, .ref k12, .int 0, .int 0, .int 0]))] sz) := by
  refine Met.ofW (cc := cX8_turn) (maxL := 3) (ret := (some .int)) (by decide) rfl ?_
  intro p e s m args below meth c s₁ B hml hv
  obtain ⟨rfl, hsz, hP, hK, hD0, hN⟩ := hv
  have hx := B.exec
  have hb := B.bytes
  have hr := B.returns
  have hts : ∀ w ∈ xW, w.before _ s = true := fun w h => atoms_spec (ws := xw yX8_turn cX8_turn 3 (some .int)) B.pre w (List.mem_cons_of_mem _ h)
  have hown : s.vm.findClass RX8 = some m.cls := findClass_of_methodNamed B.named
  have hlocks := B.notSynchronized
  subst hsz
  have hD := hD0.self (sz := s.heap.size)
  clear hD0
  generalize hAe : va_A [(h0, .inr (8, [.ref h1, .ref k0, .ref k1, .ref k2, .ref k3, .ref k4, .ref k5, .ref k6, .ref k7, .ref k8, .ref k9, .int 0, .int 0, .int 0, .int 0, .int 0])), (h1, .inr (3, [.ref k10, .ref k11, .ref k12, .int 0, .int 0, .int 0]))] s.heap.size = A at hD ⊢
  have hA : ∀ q : Nat, s.heap.size ≤ q → A q := fun q h => by rw [← hAe]; exact Or.inr h
  clear hAe
  have hS : va_S A s.heap s.heap [] := va_S.rf
  replace hP : va_P G vwCl [(h0, .inr (8, [.ref h1, .ref k0, .ref k1, .ref k2, .ref k3, .ref k4, .ref k5, .ref k6, .ref k7, .ref k8, .ref k9, .int 0, .int 0, .int 0, .int 0, .int 0])), (h1, .inr (3, [.ref k10, .ref k11, .ref k12, .int 0, .int 0, .int 0]))] s.heap := hP
  have hl := lv_entry ([.ref h0, .int p0, .int p1]) (n := 3) (Nat.le_of_ble_eq_true rfl)
  rw [lg_entry_eq]
  generalize (lg_sl ([.ref h0, .int p0, .int p1]) ++ List.replicate (3 - (lg_sl ([.ref h0, .int p0, .int p1])).length) Slot.unset).toArray = ls at hl ⊢
  replace hl : lv_has ls 3 [(0, .ref h0), (1, .int p0), (2, .int p1)] := hl
  refine lv_aload_n hx hb dX8_turn_0 rfl (lv_at hl 0 rfl) ?_
  refine va_get (D := G) (ci := 8) (v := .ref h1) (C := RX8) (T := TX8) (N := 16) hx hb hts xinX8 hown hK hP 0 rfl rfl 0 (by decide) (hts _ wm_14) (fun _ h9 => h9) rfl dX8_turn_1 ?_
  refine lv_iload_n hx hb dX8_turn_4 rfl (lv_at hl 1 rfl) ?_
  refine xci (wr := [(h0, .inr (8, [.ref h1, .ref k0, .ref k1, .ref k2, .ref k3, .ref k4, .ref k5, .ref k6, .ref k7, .ref k8, .ref k9, .int 0, .int 0, .int 0, .int 0, .int 0]))]) (va_runV (As := [.int p0]) (rest := []) ⟨hx, hb, hml, hown, hts⟩ (mX3_hasNode l G cI cJ cZ h1 k10 k11 k12 s.heap.size p0) (cwV 1 hts (xgoodV wm_169 wm_170 wm_171 wm_172 wm_5) rfl rfl rfl (by decide +kernel) ⟨Nat.le_of_ble_eq_true rfl, Nat.le_of_ble_eq_true rfl⟩) (xPreV (q := (RX3, TX3, 6)) (q0 := 1) hK hN hP hD [1] (by decide) rfl rfl rfl) rfl rfl hl.1 rfl (lv_room (Nat.le_of_ble_eq_true rfl)) dX8_turn_5 ⟨Nat.le_of_ble_eq_true rfl, Nat.le_of_ble_eq_true rfl⟩) hP hD hS hA [1] [0] rfl rfl (by decide) (by decide) (fun r44 _ H locs hw hP hD hS => ?_)
  replace hP : va_P G vwCl [(h0, .inr (8, [.ref h1, .ref k0, .ref k1, .ref k2, .ref k3, .ref k4, .ref k5, .ref k6, .ref k7, .ref k8, .ref k9, .int 0, .int 0, .int 0, .int 0, .int 0])), (h1, .inr (3, [.ref k10, .ref k11, .ref k12, .int 0, .int 0, .int 0]))] H := hP
  replace hD : va_D A [(h0, .inr (8, [.ref h1, .ref k0, .ref k1, .ref k2, .ref k3, .ref k4, .ref k5, .ref k6, .ref k7, .ref k8, .ref k9, .int 0, .int 0, .int 0, .int 0, .int 0])), (h1, .inr (3, [.ref k10, .ref k11, .ref k12, .int 0, .int 0, .int 0]))] := hD
  obtain rfl : r44 = (0 : Int32) := hw
  refine lv_if_ne (tgt := 13) hx hb dX8_turn_8 (by decide) (fun c68 => ?_) (fun c68 => ?_)
  · exact absurd c68 (by decide)
  refine lv_iconst (v := (-1)) hx hb dX8_turn_11 (by decide) ?_
  have hP9 : va_P G vwCl [(h0, .inr (8, [.ref h1, .ref k0, .ref k1, .ref k2, .ref k3, .ref k4, .ref k5, .ref k6, .ref k7, .ref k8, .ref k9, .int 0, .int 0, .int 0, .int 0, .int 0])), (h1, .inr (3, [.ref k10, .ref k11, .ref k12, .int 0, .int 0, .int 0]))] H := hP.sub [0, 1] rfl
  have hD9 : va_D A [(h0, .inr (8, [.ref h1, .ref k0, .ref k1, .ref k2, .ref k3, .ref k4, .ref k5, .ref k6, .ref k7, .ref k8, .ref k9, .int 0, .int 0, .int 0, .int 0, .int 0])), (h1, .inr (3, [.ref k10, .ref k11, .ref k12, .int 0, .int 0, .int 0]))] := hD.sub [0, 1] (by decide) rfl
  refine W.widen (k := 0) (n := 0) (by decide) (by decide) ?_
  exact W.iret (v := (-1)) hx hb hr (fun t ht hW => ⟨⟨(-1), (), rfl, rfl, by rw [ht]; exact hP9, hD9⟩, hS.F ht⟩) hS.2.2 dX8_turn_12
set_option maxHeartbeats 4000000 in
set_option maxRecDepth 100000 in
theorem mX9_turn (l : Launch) (G : va_G) (cI cJ cZ : ClassId) (h0 k0 k1 k2 k3 k4 k5 k6 k7 k8 k9 k10 k11 k12 k13 k14 k15 k16 k17 k18 k19 k20 k21 k22 k23 k24 k25 k26 k27 k28 k29 k30 k31 k32 k33 k34 k35 k36 k37 k38 k39 sz : Nat) (p0 p1 : Int32) : Met l yX9_turn (xw yX9_turn cX9_turn 3 (some .int)) ({ frames := 1, cells := 0, slots := 0, locals := 21 }) (xPc G cI cJ cZ [.ref h0, .int p0, .int p1] [(h0, .inr (9, [.int 0, .int 0, .ref k0, .ref k1, .ref k2, .ref k3, .ref k4, .int 0, .ref k5, .int 0, .ref k6, .ref k7, .ref k8, .int 0, .ref k9, .ref k10, .int 0, .ref k11, .ref k12, .ref k13, .int 0, .ref k14, .int 0, .ref k15, .ref k16, .int 0, .int 0, .int 0, .ref k17, .int 0, .ref k18, .ref k19, .ref k20, .ref k21, .ref k22, .ref k23, .ref k24, .ref k25, .ref k26, .ref k27, .ref k28, .ref k29, .ref k30, .ref k31, .ref k32, .int 0, .int 0, .int 0, .int 0, .int 0, .ref k33, .ref k34, .ref k35, .ref k36, .ref k37, .ref k38, .int 0, .ref k39]))] sz) (va_Qi (fun (r : Int32) (_ : Unit) => r = (-1)) (fun (_ : Unit) t => xB G (va_A [(h0, .inr (9, [.int 0, .int 0, .ref k0, .ref k1, .ref k2, .ref k3, .ref k4, .int 0, .ref k5, .int 0, .ref k6, .ref k7, .ref k8, .int 0, .ref k9, .ref k10, .int 0, .ref k11, .ref k12, .ref k13, .int 0, .ref k14, .int 0, .ref k15, .ref k16, .int 0, .int 0, .int 0, .ref k17, .int 0, .ref k18, .ref k19, .ref k20, .ref k21, .ref k22, .ref k23, .ref k24, .ref k25, .ref k26, .ref k27, .ref k28, .ref k29, .ref k30, .ref k31, .ref k32, .int 0, .int 0, .int 0, .int 0, .int 0, .ref k33, .ref k34, .ref k35, .ref k36, .ref k37, .ref k38, .int 0, .ref k39]))] sz) [(h0, .inr (9, [.int 0, .int 0, .ref k0, .ref k1, .ref k2, .ref k3, .ref k4, .int 0, .ref k5, .int 0, .ref k6, .ref k7, .ref k8, .int 0, .ref k9, .ref k10, .int 0, .ref k11, .ref k12, .ref k13, .int 0, .ref k14, .int 0, .ref k15, .ref k16, .int 0, .int 0, .int 0, .ref k17, .int 0, .ref k18, .ref k19, .ref k20, .ref k21, .ref k22, .ref k23, .ref k24, .ref k25, .ref k26, .ref k27, .ref k28, .ref k29, .ref k30, .ref k31, .ref k32, .int 0, .int 0, .int 0, .int 0, .int 0, .ref k33, .ref k34, .ref k35, .ref k36, .ref k37, .ref k38, .int 0, .ref k39]))] t) (va_A [(h0, .inr (9, [.int 0, .int 0, .ref k0, .ref k1, .ref k2, .ref k3, .ref k4, .int 0, .ref k5, .int 0, .ref k6, .ref k7, .ref k8, .int 0, .ref k9, .ref k10, .int 0, .ref k11, .ref k12, .ref k13, .int 0, .ref k14, .int 0, .ref k15, .ref k16, .int 0, .int 0, .int 0, .ref k17, .int 0, .ref k18, .ref k19, .ref k20, .ref k21, .ref k22, .ref k23, .ref k24, .ref k25, .ref k26, .ref k27, .ref k28, .ref k29, .ref k30, .ref k31, .ref k32, .int 0, .int 0, .int 0, .int 0, .int 0, .ref k33, .ref k34, .ref k35, .ref k36, .ref k37, .ref k38, .int 0, .ref k39]))] sz)) 0 0 (va_A [(h0, .inr (9, [.int 0, .int 0, .ref k0, .ref k1, .ref k2, .ref k3, .ref k4, .int 0, .ref k5, .int 0, .ref k6, .ref k7, .ref k8, .int 0, .ref k9, .ref k10, .int 0, .ref k11, .ref k12, .ref k13, .int 0, .ref k14, .int 0, .ref k15, .ref k16, .int 0, .int 0, .int 0, .ref k17, .int 0, .ref k18, .ref k19, .ref k20, .ref k21, .ref k22, .ref k23, .ref k24, .ref k25, .ref k26, .ref k27, .ref k28, .ref k29, .ref k30, .ref k31, .ref k32, .int 0, .int 0, .int 0, .int 0, .int 0, .ref k33, .ref k34, .ref k35, .ref k36, .ref k37, .ref k38, .int 0, .ref k39]))] sz) := by
  refine Met.ofW (cc := cX9_turn) (maxL := 3) (ret := (some .int)) (by decide) rfl ?_
  intro p e s m args below meth c s₁ B hml hv
  obtain ⟨rfl, hsz, hP, hK, hD0, hN⟩ := hv
  have hx := B.exec
  have hb := B.bytes
  have hr := B.returns
  have hts : ∀ w ∈ xW, w.before _ s = true := fun w h => atoms_spec (ws := xw yX9_turn cX9_turn 3 (some .int)) B.pre w (List.mem_cons_of_mem _ h)
  have hown : s.vm.findClass RX9 = some m.cls := findClass_of_methodNamed B.named
  have hlocks := B.notSynchronized
  subst hsz
  have hD := hD0.self (sz := s.heap.size)
  clear hD0
  generalize hAe : va_A [(h0, .inr (9, [.int 0, .int 0, .ref k0, .ref k1, .ref k2, .ref k3, .ref k4, .int 0, .ref k5, .int 0, .ref k6, .ref k7, .ref k8, .int 0, .ref k9, .ref k10, .int 0, .ref k11, .ref k12, .ref k13, .int 0, .ref k14, .int 0, .ref k15, .ref k16, .int 0, .int 0, .int 0, .ref k17, .int 0, .ref k18, .ref k19, .ref k20, .ref k21, .ref k22, .ref k23, .ref k24, .ref k25, .ref k26, .ref k27, .ref k28, .ref k29, .ref k30, .ref k31, .ref k32, .int 0, .int 0, .int 0, .int 0, .int 0, .ref k33, .ref k34, .ref k35, .ref k36, .ref k37, .ref k38, .int 0, .ref k39]))] s.heap.size = A at hD ⊢
  have hA : ∀ q : Nat, s.heap.size ≤ q → A q := fun q h => by rw [← hAe]; exact Or.inr h
  clear hAe
  have hS : va_S A s.heap s.heap [] := va_S.rf
  replace hP : va_P G vwCl [(h0, .inr (9, [.int 0, .int 0, .ref k0, .ref k1, .ref k2, .ref k3, .ref k4, .int 0, .ref k5, .int 0, .ref k6, .ref k7, .ref k8, .int 0, .ref k9, .ref k10, .int 0, .ref k11, .ref k12, .ref k13, .int 0, .ref k14, .int 0, .ref k15, .ref k16, .int 0, .int 0, .int 0, .ref k17, .int 0, .ref k18, .ref k19, .ref k20, .ref k21, .ref k22, .ref k23, .ref k24, .ref k25, .ref k26, .ref k27, .ref k28, .ref k29, .ref k30, .ref k31, .ref k32, .int 0, .int 0, .int 0, .int 0, .int 0, .ref k33, .ref k34, .ref k35, .ref k36, .ref k37, .ref k38, .int 0, .ref k39]))] s.heap := hP
  have hl := lv_entry ([.ref h0, .int p0, .int p1]) (n := 3) (Nat.le_of_ble_eq_true rfl)
  rw [lg_entry_eq]
  generalize (lg_sl ([.ref h0, .int p0, .int p1]) ++ List.replicate (3 - (lg_sl ([.ref h0, .int p0, .int p1])).length) Slot.unset).toArray = ls at hl ⊢
  replace hl : lv_has ls 3 [(0, .ref h0), (1, .int p0), (2, .int p1)] := hl
  refine lv_aload_n hx hb dX9_turn_0 rfl (lv_at hl 0 rfl) ?_
  refine lv_iload_n hx hb dX9_turn_1 rfl (lv_at hl 1 rfl) ?_
  refine xci (wr := []) (va_runV (As := [.int p0]) (rest := []) ⟨hx, hb, hml, hown, hts⟩ (mX9_isNode l G cI cJ cZ h0 k0 k1 k2 k3 k4 k5 k6 k7 k8 k9 k10 k11 k12 k13 k14 k15 k16 k17 k18 k19 k20 k21 k22 k23 k24 k25 k26 k27 k28 k29 k30 k31 k32 k33 k34 k35 k36 k37 k38 k39 s.heap.size p0) (cwV 1 hts (xgoodV wm_173 wm_174 wm_175 wm_176 wm_177) rfl rfl rfl (by decide +kernel) ⟨Nat.le_of_ble_eq_true rfl, Nat.le_of_ble_eq_true rfl⟩) (xPreV (q := (RX9, TX9, 58)) (q0 := 0) hK hN hP hD [0] (by decide) rfl rfl rfl) rfl rfl hl.1 rfl (lv_room (Nat.le_of_ble_eq_true rfl)) dX9_turn_2 ⟨Nat.le_of_ble_eq_true rfl, Nat.le_of_ble_eq_true rfl⟩) hP hD hS hA [0] [] rfl rfl (by decide) (by decide) (fun r45 _ H locs hw hP hD hS => ?_)
  replace hP : va_P G vwCl [(h0, .inr (9, [.int 0, .int 0, .ref k0, .ref k1, .ref k2, .ref k3, .ref k4, .int 0, .ref k5, .int 0, .ref k6, .ref k7, .ref k8, .int 0, .ref k9, .ref k10, .int 0, .ref k11, .ref k12, .ref k13, .int 0, .ref k14, .int 0, .ref k15, .ref k16, .int 0, .int 0, .int 0, .ref k17, .int 0, .ref k18, .ref k19, .ref k20, .ref k21, .ref k22, .ref k23, .ref k24, .ref k25, .ref k26, .ref k27, .ref k28, .ref k29, .ref k30, .ref k31, .ref k32, .int 0, .int 0, .int 0, .int 0, .int 0, .ref k33, .ref k34, .ref k35, .ref k36, .ref k37, .ref k38, .int 0, .ref k39]))] H := hP
  replace hD : va_D A [(h0, .inr (9, [.int 0, .int 0, .ref k0, .ref k1, .ref k2, .ref k3, .ref k4, .int 0, .ref k5, .int 0, .ref k6, .ref k7, .ref k8, .int 0, .ref k9, .ref k10, .int 0, .ref k11, .ref k12, .ref k13, .int 0, .ref k14, .int 0, .ref k15, .ref k16, .int 0, .int 0, .int 0, .ref k17, .int 0, .ref k18, .ref k19, .ref k20, .ref k21, .ref k22, .ref k23, .ref k24, .ref k25, .ref k26, .ref k27, .ref k28, .ref k29, .ref k30, .ref k31, .ref k32, .int 0, .int 0, .int 0, .int 0, .int 0, .ref k33, .ref k34, .ref k35, .ref k36, .ref k37, .ref k38, .int 0, .ref k39]))] := hD
  obtain rfl : r45 = (0 : Int32) := hw
  refine lv_if_ne (tgt := 10) hx hb dX9_turn_5 (by decide) (fun c69 => ?_) (fun c69 => ?_)
  · exact absurd c69 (by decide)
  refine lv_iconst (v := (-1)) hx hb dX9_turn_8 (by decide) ?_
  have hP9 : va_P G vwCl [(h0, .inr (9, [.int 0, .int 0, .ref k0, .ref k1, .ref k2, .ref k3, .ref k4, .int 0, .ref k5, .int 0, .ref k6, .ref k7, .ref k8, .int 0, .ref k9, .ref k10, .int 0, .ref k11, .ref k12, .ref k13, .int 0, .ref k14, .int 0, .ref k15, .ref k16, .int 0, .int 0, .int 0, .ref k17, .int 0, .ref k18, .ref k19, .ref k20, .ref k21, .ref k22, .ref k23, .ref k24, .ref k25, .ref k26, .ref k27, .ref k28, .ref k29, .ref k30, .ref k31, .ref k32, .int 0, .int 0, .int 0, .int 0, .int 0, .ref k33, .ref k34, .ref k35, .ref k36, .ref k37, .ref k38, .int 0, .ref k39]))] H := hP.sub [0] rfl
  have hD9 : va_D A [(h0, .inr (9, [.int 0, .int 0, .ref k0, .ref k1, .ref k2, .ref k3, .ref k4, .int 0, .ref k5, .int 0, .ref k6, .ref k7, .ref k8, .int 0, .ref k9, .ref k10, .int 0, .ref k11, .ref k12, .ref k13, .int 0, .ref k14, .int 0, .ref k15, .ref k16, .int 0, .int 0, .int 0, .ref k17, .int 0, .ref k18, .ref k19, .ref k20, .ref k21, .ref k22, .ref k23, .ref k24, .ref k25, .ref k26, .ref k27, .ref k28, .ref k29, .ref k30, .ref k31, .ref k32, .int 0, .int 0, .int 0, .int 0, .int 0, .ref k33, .ref k34, .ref k35, .ref k36, .ref k37, .ref k38, .int 0, .ref k39]))] := hD.sub [0] (by decide) rfl
  refine W.widen (k := 0) (n := 0) (by decide) (by decide) ?_
  exact W.iret (v := (-1)) hx hb hr (fun t ht hW => ⟨⟨(-1), (), rfl, rfl, by rw [ht]; exact hP9, hD9⟩, hS.F ht⟩) hS.2.2 dX9_turn_9
set_option maxHeartbeats 4000000 in
set_option maxRecDepth 100000 in
theorem mX2_fill (l : Launch) (G : va_G) (cI cJ cZ : ClassId) (h0 h1 h2 h3 k0 sz : Nat) : Met l yX2_fill (xw yX2_fill cX2_fill 8 none) ({ frames := 1, cells := 0, slots := 0, locals := 60 }) (xPc G cI cJ cZ [.ref h0, .ref h1, .int 0, .ref k0] [(h0, .inr (2, [.ref h2, .ref h3, .int (-1)])), (h1, aI cI 20 xz), (h2, aI cI 20 xz), (h3, aI cI 20 xz)] sz) (va_Qv (fun _ : Unit => True) (fun (_ : Unit) t => xB G (va_A [(h0, .inr (2, [.ref h2, .ref h3, .int (-1)])), (h1, aI cI 20 xz), (h2, aI cI 20 xz), (h3, aI cI 20 xz)] sz) [(h0, .inr (2, [.ref h2, .ref h3, .int 0])), (h1, aI cI 20 xz), (h2, aI cI 20 (va_cpy xz xz 0 0 0)), (h3, aI cI 20 (va_cpy xz xz 0 0 0))] t) (va_A [(h0, .inr (2, [.ref h2, .ref h3, .int (-1)])), (h1, aI cI 20 xz), (h2, aI cI 20 xz), (h3, aI cI 20 xz)] sz)) 0 0 (va_A [(h0, .inr (2, [.ref h2, .ref h3, .int (-1)])), (h1, aI cI 20 xz), (h2, aI cI 20 xz), (h3, aI cI 20 xz)] sz) := by
  refine Met.ofW (cc := cX2_fill) (maxL := 8) (ret := none) (by decide) rfl ?_
  intro p e s m args below meth c s₁ B hml hv
  obtain ⟨rfl, hsz, hP, hK, hD0, hN⟩ := hv
  have hx := B.exec
  have hb := B.bytes
  have hr := B.returns
  have hts : ∀ w ∈ xW, w.before _ s = true := fun w h => atoms_spec (ws := xw yX2_fill cX2_fill 8 none) B.pre w (List.mem_cons_of_mem _ h)
  have hown : s.vm.findClass RX2 = some m.cls := findClass_of_methodNamed B.named
  have hlocks := B.notSynchronized
  subst hsz
  have hD := hD0.self (sz := s.heap.size)
  clear hD0
  generalize hAe : va_A [(h0, .inr (2, [.ref h2, .ref h3, .int (-1)])), (h1, aI cI 20 xz), (h2, aI cI 20 xz), (h3, aI cI 20 xz)] s.heap.size = A at hD ⊢
  have hA : ∀ q : Nat, s.heap.size ≤ q → A q := fun q h => by rw [← hAe]; exact Or.inr h
  clear hAe
  have hS : va_S A s.heap s.heap [] := va_S.rf
  replace hP : va_P G vwCl [(h0, .inr (2, [.ref h2, .ref h3, .int (-1)])), (h1, aI cI 20 xz), (h2, aI cI 20 xz), (h3, aI cI 20 xz)] s.heap := hP
  have hl := lv_entry ([.ref h0, .ref h1, .int 0, .ref k0]) (n := 8) (Nat.le_of_ble_eq_true rfl)
  rw [lg_entry_eq]
  generalize (lg_sl ([.ref h0, .ref h1, .int 0, .ref k0]) ++ List.replicate (8 - (lg_sl ([.ref h0, .ref h1, .int 0, .ref k0])).length) Slot.unset).toArray = ls at hl ⊢
  replace hl : lv_has ls 8 [(0, .ref h0), (1, .ref h1), (2, .int 0), (3, .ref k0)] := hl
  refine lv_aload_n hx hb dX2_fill_0 rfl (lv_at hl 0 rfl) ?_
  refine lv_iload_n hx hb dX2_fill_1 rfl (lv_at hl 2 rfl) ?_
  refine va_put (D := G) (ci := 2) (v := .int 0) (ty := .int) (C := RX2) (T := TX2) (N := 3) hx hb hts xinX2 tyX2 tyX2_ok nmX2 hown hK hP hD hS 0 rfl rfl 2 (by decide) (hts _ wm_49) (fun _ h9 => h9) rfl (by decide +kernel) rfl rfl (Nat.le_of_ble_eq_true rfl) dX2_fill_2 (fun H locs hP hD hS => ?_)
  replace hP : va_P G vwCl [(h0, .inr (2, [.ref h2, .ref h3, .int 0])), (h1, aI cI 20 xz), (h2, aI cI 20 xz), (h3, aI cI 20 xz)] H := hP
  replace hD : va_D A [(h0, .inr (2, [.ref h2, .ref h3, .int 0])), (h1, aI cI 20 xz), (h2, aI cI 20 xz), (h3, aI cI 20 xz)] := hD
  refine lv_aload_n hx hb dX2_fill_5 rfl (lv_at hl 1 rfl) ?_
  refine lv_iconst (v := 0) hx hb dX2_fill_6 (by decide) ?_
  refine lv_aload_n hx hb dX2_fill_7 rfl (lv_at hl 0 rfl) ?_
  refine va_get (D := G) (ci := 2) (v := .ref h2) (C := RX2) (T := TX2) (N := 3) hx hb hts xinX2 hown hK hP 0 rfl rfl 0 (by decide) (hts _ wm_47) (fun _ h9 => h9) rfl dX2_fill_8 ?_
  refine lv_iconst (v := 0) hx hb dX2_fill_11 (by decide) ?_
  refine lv_iload_n hx hb dX2_fill_12 rfl (lv_at hl 2 rfl) ?_
  refine va_copyi hx hb (by rw [hml]; exact hl.1.symm) hown (hts _ wm_261) (hts _ wm_262) (hts _ wm_263) (hts _ wm_264) hK hP hD hS 1 2 0 0 rfl rfl rfl rfl rfl (by decide) (by decide) (by decide) (by decide) (by decide) (fun _ _ => rfl) (Nat.le_of_ble_eq_true rfl) (Nat.le_of_ble_eq_true rfl) dX2_fill_13 (fun H locs hP hD hS => ?_)
  replace hP : va_P G vwCl [(h0, .inr (2, [.ref h2, .ref h3, .int 0])), (h1, aI cI 20 xz), (h2, aI cI 20 (va_cpy xz xz 0 0 0)), (h3, aI cI 20 xz)] H := hP
  replace hD : va_D A [(h0, .inr (2, [.ref h2, .ref h3, .int 0])), (h1, aI cI 20 xz), (h2, aI cI 20 (va_cpy xz xz 0 0 0)), (h3, aI cI 20 xz)] := hD
  refine lv_aload_n hx hb dX2_fill_16 rfl (lv_at hl 1 rfl) ?_
  refine lv_iconst (v := 0) hx hb dX2_fill_17 (by decide) ?_
  refine lv_aload_n hx hb dX2_fill_18 rfl (lv_at hl 0 rfl) ?_
  refine va_get (D := G) (ci := 2) (v := .ref h3) (C := RX2) (T := TX2) (N := 3) hx hb hts xinX2 hown hK hP 0 rfl rfl 1 (by decide) (hts _ wm_48) (fun _ h9 => h9) rfl dX2_fill_19 ?_
  refine lv_iconst (v := 0) hx hb dX2_fill_22 (by decide) ?_
  refine lv_iload_n hx hb dX2_fill_23 rfl (lv_at hl 2 rfl) ?_
  refine va_copyi hx hb (by rw [hml]; exact hl.1.symm) hown (hts _ wm_261) (hts _ wm_262) (hts _ wm_263) (hts _ wm_264) hK hP hD hS 1 3 0 0 rfl rfl rfl rfl rfl (by decide) (by decide) (by decide) (by decide) (by decide) (fun _ _ => rfl) (Nat.le_of_ble_eq_true rfl) (Nat.le_of_ble_eq_true rfl) dX2_fill_24 (fun H locs hP hD hS => ?_)
  replace hP : va_P G vwCl [(h0, .inr (2, [.ref h2, .ref h3, .int 0])), (h1, aI cI 20 xz), (h2, aI cI 20 (va_cpy xz xz 0 0 0)), (h3, aI cI 20 (va_cpy xz xz 0 0 0))] H := hP
  replace hD : va_D A [(h0, .inr (2, [.ref h2, .ref h3, .int 0])), (h1, aI cI 20 xz), (h2, aI cI 20 (va_cpy xz xz 0 0 0)), (h3, aI cI 20 (va_cpy xz xz 0 0 0))] := hD
  refine lv_iconst (v := 0) hx hb dX2_fill_27 (by decide) ?_
  refine lv_istore (lv' := [(4, .int 0), (0, .ref h0), (1, .ref h1), (2, .int 0), (3, .ref k0)]) hx hb dX2_fill_28 hl (by decide) rfl (fun ls hl => ?_)
  refine lv_iconst (v := 0) hx hb dX2_fill_30 (by decide) ?_
  refine lv_istore (lv' := [(5, .int 0), (4, .int 0), (0, .ref h0), (1, .ref h1), (2, .int 0), (3, .ref k0)]) hx hb dX2_fill_31 hl (by decide) rfl (fun ls hl => ?_)
  refine lv_iload hx hb dX2_fill_33 (lv_at hl 0 rfl) ?_
  refine lv_iload_n hx hb dX2_fill_35 rfl (lv_at hl 4 rfl) ?_
  refine lv_icmp_ge (tgt := 60) hx hb dX2_fill_36 (by decide) (fun c72 => ?_) (fun c72 => ?_)
  rotate_left
  · exact absurd c72 (by decide)
  refine lv_iload_n hx hb dX2_fill_60 rfl (lv_at hl 4 rfl) ?_
  refine lv_iconst (v := 3) hx hb dX2_fill_61 (by decide) ?_
  refine lv_icmp_ge (tgt := 75) hx hb dX2_fill_62 (by decide) (fun c73 => ?_) (fun c73 => ?_)
  · exact absurd c73 (by decide)
  refine lv_iload_n hx hb dX2_fill_65 rfl (lv_at hl 4 rfl) ?_
  refine lv_iload_n hx hb dX2_fill_66 rfl (lv_at hl 4 rfl) ?_
  refine lv_iconst (v := 1) hx hb dX2_fill_67 (by decide) ?_
  refine lv_isub hx hb dX2_fill_68 ?_
  refine lv_topi (fun w15 ew15 => ?_)
  obtain rfl : w15 = ((-1) : Int32) := ew15.trans (by decide)
  refine lv_imul hx hb dX2_fill_69 ?_
  refine lv_topi (fun w16 ew16 => ?_)
  obtain rfl : w16 = (0 : Int32) := ew16.trans (by decide)
  refine lv_iconst (v := 2) hx hb dX2_fill_70 (by decide) ?_
  refine lv_idiv hx hb dX2_fill_71 (by decide) ?_
  refine lv_topi (fun w17 ew17 => ?_)
  obtain rfl : w17 = (0 : Int32) := ew17.trans (by decide)
  refine lv_goto (tgt := 81) hx hb dX2_fill_72 (by decide) ?_
  refine lv_iload hx hb dX2_fill_81 (lv_at hl 1 rfl) ?_
  refine lv_iconst (v := 2) hx hb dX2_fill_83 (by decide) ?_
  refine lv_idiv hx hb dX2_fill_84 (by decide) ?_
  refine lv_topi (fun w18 ew18 => ?_)
  obtain rfl : w18 = (0 : Int32) := ew18.trans (by decide)
  refine lv_isub hx hb dX2_fill_85 ?_
  refine lv_topi (fun w19 ew19 => ?_)
  obtain rfl : w19 = (0 : Int32) := ew19.trans (by decide)
  refine lv_istore (lv' := [(5, .int 0), (4, .int 0), (0, .ref h0), (1, .ref h1), (2, .int 0), (3, .ref k0)]) hx hb dX2_fill_86 hl (by decide) rfl (fun ls hl => ?_)
  refine lv_iconst (v := 0) hx hb dX2_fill_88 (by decide) ?_
  refine lv_istore (lv' := [(6, .int 0), (5, .int 0), (4, .int 0), (0, .ref h0), (1, .ref h1), (2, .int 0), (3, .ref k0)]) hx hb dX2_fill_89 hl (by decide) rfl (fun ls hl => ?_)
  refine lv_iload hx hb dX2_fill_91 (lv_at hl 0 rfl) ?_
  refine lv_iload_n hx hb dX2_fill_93 rfl (lv_at hl 5 rfl) ?_
  refine lv_icmp_ge (tgt := 178) hx hb dX2_fill_94 (by decide) (fun c74 => ?_) (fun c74 => ?_)
  rotate_left
  · exact absurd c74 (by decide)
  have hP9 : va_P G vwCl [(h0, .inr (2, [.ref h2, .ref h3, .int 0])), (h1, aI cI 20 xz), (h2, aI cI 20 (va_cpy xz xz 0 0 0)), (h3, aI cI 20 (va_cpy xz xz 0 0 0))] H := hP.sub [0, 1, 2, 3] rfl
  have hD9 : va_D A [(h0, .inr (2, [.ref h2, .ref h3, .int 0])), (h1, aI cI 20 xz), (h2, aI cI 20 (va_cpy xz xz 0 0 0)), (h3, aI cI 20 (va_cpy xz xz 0 0 0))] := hD.sub [0, 1, 2, 3] (by decide) rfl
  refine W.widen (k := 0) (n := 0) (by decide) (by decide) ?_
  exact W.vret hx hb hr (fun t ht hW => ⟨⟨(), rfl, trivial, by rw [ht]; exact hP9, hD9⟩, hS.F ht⟩) hS.2.2 dX2_fill_178
set_option maxHeartbeats 4000000 in
set_option maxRecDepth 100000 in
theorem mX6_findFaces (l : Launch) (G : va_G) (cI cJ cZ : ClassId) (h0 h1 h2 k0 k1 k2 sz : Nat) : Met l yX6_findFaces (xw yX6_findFaces cX6_findFaces 6 none) ({ frames := 1, cells := 0, slots := 0, locals := 23 }) (xPc G cI cJ cZ [.ref h0] [(h0, .inr (6, [.ref h2, .ref h1, .ref k0])), (h1, aI cI 400 xz), (h2, .inr (2, [.ref k1, .ref k2, .int 0]))] sz) (va_Qv (fun _ : Unit => True) (fun (_ : Unit) t => xB G (va_A [(h0, .inr (6, [.ref h2, .ref h1, .ref k0])), (h1, aI cI 400 xz), (h2, .inr (2, [.ref k1, .ref k2, .int 0]))] sz) [(h0, .inr (6, [.ref h2, .ref h1, .ref k0])), (h1, aI cI 400 xz), (h2, .inr (2, [.ref k1, .ref k2, .int 0]))] t) (va_A [(h0, .inr (6, [.ref h2, .ref h1, .ref k0])), (h1, aI cI 400 xz), (h2, .inr (2, [.ref k1, .ref k2, .int 0]))] sz)) 0 0 (va_A [(h0, .inr (6, [.ref h2, .ref h1, .ref k0])), (h1, aI cI 400 xz), (h2, .inr (2, [.ref k1, .ref k2, .int 0]))] sz) := by
  refine Met.ofW (cc := cX6_findFaces) (maxL := 6) (ret := none) (by decide) rfl ?_
  intro p e s m args below meth c s₁ B hml hv
  obtain ⟨rfl, hsz, hP, hK, hD0, hN⟩ := hv
  have hx := B.exec
  have hb := B.bytes
  have hr := B.returns
  have hts : ∀ w ∈ xW, w.before _ s = true := fun w h => atoms_spec (ws := xw yX6_findFaces cX6_findFaces 6 none) B.pre w (List.mem_cons_of_mem _ h)
  have hown : s.vm.findClass RX6 = some m.cls := findClass_of_methodNamed B.named
  have hlocks := B.notSynchronized
  subst hsz
  have hD := hD0.self (sz := s.heap.size)
  clear hD0
  generalize hAe : va_A [(h0, .inr (6, [.ref h2, .ref h1, .ref k0])), (h1, aI cI 400 xz), (h2, .inr (2, [.ref k1, .ref k2, .int 0]))] s.heap.size = A at hD ⊢
  have hA : ∀ q : Nat, s.heap.size ≤ q → A q := fun q h => by rw [← hAe]; exact Or.inr h
  clear hAe
  have hS : va_S A s.heap s.heap [] := va_S.rf
  replace hP : va_P G vwCl [(h0, .inr (6, [.ref h2, .ref h1, .ref k0])), (h1, aI cI 400 xz), (h2, .inr (2, [.ref k1, .ref k2, .int 0]))] s.heap := hP
  have hl := lv_entry ([.ref h0]) (n := 6) (Nat.le_of_ble_eq_true rfl)
  rw [lg_entry_eq]
  generalize (lg_sl ([.ref h0]) ++ List.replicate (6 - (lg_sl ([.ref h0])).length) Slot.unset).toArray = ls at hl ⊢
  replace hl : lv_has ls 6 [(0, .ref h0)] := hl
  refine lv_aload_n hx hb dX6_findFaces_0 rfl (lv_at hl 0 rfl) ?_
  refine va_get (D := G) (ci := 6) (v := .ref h1) (C := RX6) (T := TX6) (N := 3) hx hb hts xinX6 hown hK hP 0 rfl rfl 1 (by decide) (hts _ wm_57) (fun _ h9 => h9) rfl dX6_findFaces_1 ?_
  refine lv_iconst (v := 0) hx hb dX6_findFaces_4 (by decide) ?_
  refine xcv (wr := [(h0, .inr (6, [.ref h2, .ref h1, .ref k0])), (h2, .inr (2, [.ref k1, .ref k2, .int 0]))]) (va_runS (As := [.ref h1, .int 0]) (rest := []) ⟨hx, hb, hml, hown, hts⟩ (mJ7_fill_53178 l G cI cJ cZ h1 s.heap.size 400 xz 0 (by decide)) (va_cwS 2 hts (xgoodS wm_189 wm_269 wm_191 wm_192) rfl rfl rfl (by decide +kernel) ⟨Nat.le_of_ble_eq_true rfl, Nat.le_of_ble_eq_true rfl⟩) (xPreS hK hN hP hD [1] (by decide) rfl) rfl rfl hl.1 rfl (lv_room (Nat.le_of_ble_eq_true rfl)) dX6_findFaces_5 ⟨Nat.le_of_ble_eq_true rfl, Nat.le_of_ble_eq_true rfl⟩) hP hD hS hA [1] [0, 2] rfl rfl (by decide) (by decide) (fun _ H locs hw hP hD hS => ?_)
  replace hP : va_P G vwCl [(h0, .inr (6, [.ref h2, .ref h1, .ref k0])), (h2, .inr (2, [.ref k1, .ref k2, .int 0])), (h1, aI cI 400 xz)] H := hP
  replace hD : va_D A [(h0, .inr (6, [.ref h2, .ref h1, .ref k0])), (h2, .inr (2, [.ref k1, .ref k2, .int 0])), (h1, aI cI 400 xz)] := hD
  refine lv_aload_n hx hb dX6_findFaces_8 rfl (lv_at hl 0 rfl) ?_
  refine va_get (D := G) (ci := 6) (v := .ref h2) (C := RX6) (T := TX6) (N := 3) hx hb hts xinX6 hown hK hP 0 rfl rfl 0 (by decide) (hts _ wm_59) (fun _ h9 => h9) rfl dX6_findFaces_9 ?_
  refine va_getN (D := G) (ci := 2) (v := .ref k2) (C := RX2) (T := TX2) (N := 3) hx hb hts xinX2 hown hK hP 1 rfl rfl 1 (by decide) (va_Nw.use rfl (hN.1 ("PlaneTests$Round", 22, "PlaneTests$Filled", "joined", "[I", "PlaneTests") (by decide +kernel))) (fun _ h9 => h9) rfl dX6_findFaces_12 ?_
  refine lv_astore_n (lv' := [(1, .ref k2), (0, .ref h0)]) hx hb dX6_findFaces_15 rfl hl (by decide) rfl (fun ls hl => ?_)
  refine lv_iconst (v := 0) hx hb dX6_findFaces_16 (by decide) ?_
  refine lv_istore_n (lv' := [(2, .int 0), (1, .ref k2), (0, .ref h0)]) hx hb dX6_findFaces_17 rfl hl (by decide) rfl (fun ls hl => ?_)
  refine lv_iload_n hx hb dX6_findFaces_18 rfl (lv_at hl 0 rfl) ?_
  refine lv_aload_n hx hb dX6_findFaces_19 rfl (lv_at hl 2 rfl) ?_
  refine va_get (D := G) (ci := 6) (v := .ref h2) (C := RX6) (T := TX6) (N := 3) hx hb hts xinX6 hown hK hP 0 rfl rfl 0 (by decide) (hts _ wm_59) (fun _ h9 => h9) rfl dX6_findFaces_20 ?_
  refine va_getN (D := G) (ci := 2) (v := .int 0) (C := RX2) (T := TX2) (N := 3) hx hb hts xinX2 hown hK hP 1 rfl rfl 2 (by decide) (va_Nw.use rfl (hN.1 ("PlaneTests$Round", 41, "PlaneTests$Filled", "nodes", "I", "PlaneTests") (by decide +kernel))) (fun _ h9 => h9) rfl dX6_findFaces_23 ?_
  refine lv_icmp_ge (tgt := 147) hx hb dX6_findFaces_26 (by decide) (fun c75 => ?_) (fun c75 => ?_)
  rotate_left
  · exact absurd c75 (by decide)
  have hP9 : va_P G vwCl [(h0, .inr (6, [.ref h2, .ref h1, .ref k0])), (h1, aI cI 400 xz), (h2, .inr (2, [.ref k1, .ref k2, .int 0]))] H := hP.sub [0, 2, 1] rfl
  have hD9 : va_D A [(h0, .inr (6, [.ref h2, .ref h1, .ref k0])), (h1, aI cI 400 xz), (h2, .inr (2, [.ref k1, .ref k2, .int 0]))] := hD.sub [0, 2, 1] (by decide) rfl
  refine W.widen (k := 0) (n := 0) (by decide) (by decide) ?_
  exact W.vret hx hb hr (fun t ht hW => ⟨⟨(), rfl, trivial, by rw [ht]; exact hP9, hD9⟩, hS.F ht⟩) hS.2.2 dX6_findFaces_147
set_option maxHeartbeats 4000000 in
set_option maxRecDepth 100000 in
theorem mX6_layRising (l : Launch) (G : va_G) (cI cJ cZ : ClassId) (h0 h1 k0 k1 k2 k3 sz : Nat) : Met l yX6_layRising (xw yX6_layRising cX6_layRising 5 none) ({ frames := 0, cells := 0, slots := 0, locals := 0 }) (xPc G cI cJ cZ [.ref h0] [(h0, .inr (6, [.ref h1, .ref k0, .ref k1])), (h1, .inr (2, [.ref k2, .ref k3, .int 0]))] sz) (va_Qv (fun _ : Unit => True) (fun (_ : Unit) t => xB G (va_A [(h0, .inr (6, [.ref h1, .ref k0, .ref k1])), (h1, .inr (2, [.ref k2, .ref k3, .int 0]))] sz) [(h0, .inr (6, [.ref h1, .ref k0, .ref k1])), (h1, .inr (2, [.ref k2, .ref k3, .int 0]))] t) (va_A [(h0, .inr (6, [.ref h1, .ref k0, .ref k1])), (h1, .inr (2, [.ref k2, .ref k3, .int 0]))] sz)) 0 0 (va_A [(h0, .inr (6, [.ref h1, .ref k0, .ref k1])), (h1, .inr (2, [.ref k2, .ref k3, .int 0]))] sz) := by
  refine Met.ofW (cc := cX6_layRising) (maxL := 5) (ret := none) (by decide) rfl ?_
  intro p e s m args below meth c s₁ B hml hv
  obtain ⟨rfl, hsz, hP, hK, hD0, hN⟩ := hv
  have hx := B.exec
  have hb := B.bytes
  have hr := B.returns
  have hts : ∀ w ∈ xW, w.before _ s = true := fun w h => atoms_spec (ws := xw yX6_layRising cX6_layRising 5 none) B.pre w (List.mem_cons_of_mem _ h)
  have hown : s.vm.findClass RX6 = some m.cls := findClass_of_methodNamed B.named
  have hlocks := B.notSynchronized
  subst hsz
  have hD := hD0.self (sz := s.heap.size)
  clear hD0
  generalize hAe : va_A [(h0, .inr (6, [.ref h1, .ref k0, .ref k1])), (h1, .inr (2, [.ref k2, .ref k3, .int 0]))] s.heap.size = A at hD ⊢
  have hA : ∀ q : Nat, s.heap.size ≤ q → A q := fun q h => by rw [← hAe]; exact Or.inr h
  clear hAe
  have hS : va_S A s.heap s.heap [] := va_S.rf
  replace hP : va_P G vwCl [(h0, .inr (6, [.ref h1, .ref k0, .ref k1])), (h1, .inr (2, [.ref k2, .ref k3, .int 0]))] s.heap := hP
  have hl := lv_entry ([.ref h0]) (n := 5) (Nat.le_of_ble_eq_true rfl)
  rw [lg_entry_eq]
  generalize (lg_sl ([.ref h0]) ++ List.replicate (5 - (lg_sl ([.ref h0])).length) Slot.unset).toArray = ls at hl ⊢
  replace hl : lv_has ls 5 [(0, .ref h0)] := hl
  refine lv_iconst (v := 0) hx hb dX6_layRising_0 (by decide) ?_
  refine lv_istore_n (lv' := [(1, .int 0), (0, .ref h0)]) hx hb dX6_layRising_1 rfl hl (by decide) rfl (fun ls hl => ?_)
  refine lv_iload_n hx hb dX6_layRising_2 rfl (lv_at hl 0 rfl) ?_
  refine lv_aload_n hx hb dX6_layRising_3 rfl (lv_at hl 1 rfl) ?_
  refine va_get (D := G) (ci := 6) (v := .ref h1) (C := RX6) (T := TX6) (N := 3) hx hb hts xinX6 hown hK hP 0 rfl rfl 0 (by decide) (hts _ wm_59) (fun _ h9 => h9) rfl dX6_layRising_4 ?_
  refine va_getN (D := G) (ci := 2) (v := .int 0) (C := RX2) (T := TX2) (N := 3) hx hb hts xinX2 hown hK hP 1 rfl rfl 2 (by decide) (va_Nw.use rfl (hN.1 ("PlaneTests$Round", 41, "PlaneTests$Filled", "nodes", "I", "PlaneTests") (by decide +kernel))) (fun _ h9 => h9) rfl dX6_layRising_7 ?_
  refine lv_icmp_ge (tgt := 81) hx hb dX6_layRising_10 (by decide) (fun c77 => ?_) (fun c77 => ?_)
  rotate_left
  · exact absurd c77 (by decide)
  have hP9 : va_P G vwCl [(h0, .inr (6, [.ref h1, .ref k0, .ref k1])), (h1, .inr (2, [.ref k2, .ref k3, .int 0]))] s.heap := hP.sub [0, 1] rfl
  have hD9 : va_D A [(h0, .inr (6, [.ref h1, .ref k0, .ref k1])), (h1, .inr (2, [.ref k2, .ref k3, .int 0]))] := hD.sub [0, 1] (by decide) rfl
  refine W.widen (k := 0) (n := 0) (by decide) (by decide) ?_
  exact W.vret hx hb hr (fun t ht hW => ⟨⟨(), rfl, trivial, by rw [ht]; exact hP9, hD9⟩, hS.F ht⟩) hS.2.2 dX6_layRising_81
set_option maxHeartbeats 4000000 in
set_option maxRecDepth 100000 in
theorem mX6_lay (l : Launch) (G : va_G) (cI cJ cZ : ClassId) (h0 h1 k0 k1 k2 k3 sz : Nat) : Met l yX6_lay (xw yX6_lay cX6_lay 1 none) ({ frames := 1, cells := 0, slots := 0, locals := 24 }) (xPc G cI cJ cZ [.ref h0] [(h0, .inr (6, [.ref h1, .ref k0, .ref k1])), (h1, .inr (2, [.ref k2, .ref k3, .int 0]))] sz) (va_Qv (fun _ : Unit => True) (fun (_ : Unit) t => xB G (va_A [(h0, .inr (6, [.ref h1, .ref k0, .ref k1])), (h1, .inr (2, [.ref k2, .ref k3, .int 0]))] sz) [(h0, .inr (6, [.ref h1, .ref k0, .ref k1])), (h1, .inr (2, [.ref k2, .ref k3, .int 0]))] t) (va_A [(h0, .inr (6, [.ref h1, .ref k0, .ref k1])), (h1, .inr (2, [.ref k2, .ref k3, .int 0]))] sz)) 0 0 (va_A [(h0, .inr (6, [.ref h1, .ref k0, .ref k1])), (h1, .inr (2, [.ref k2, .ref k3, .int 0]))] sz) := by
  refine Met.ofW (cc := cX6_lay) (maxL := 1) (ret := none) (by decide) rfl ?_
  intro p e s m args below meth c s₁ B hml hv
  obtain ⟨rfl, hsz, hP, hK, hD0, hN⟩ := hv
  have hx := B.exec
  have hb := B.bytes
  have hr := B.returns
  have hts : ∀ w ∈ xW, w.before _ s = true := fun w h => atoms_spec (ws := xw yX6_lay cX6_lay 1 none) B.pre w (List.mem_cons_of_mem _ h)
  have hown : s.vm.findClass RX6 = some m.cls := findClass_of_methodNamed B.named
  have hlocks := B.notSynchronized
  subst hsz
  have hD := hD0.self (sz := s.heap.size)
  clear hD0
  generalize hAe : va_A [(h0, .inr (6, [.ref h1, .ref k0, .ref k1])), (h1, .inr (2, [.ref k2, .ref k3, .int 0]))] s.heap.size = A at hD ⊢
  have hA : ∀ q : Nat, s.heap.size ≤ q → A q := fun q h => by rw [← hAe]; exact Or.inr h
  clear hAe
  have hS : va_S A s.heap s.heap [] := va_S.rf
  replace hP : va_P G vwCl [(h0, .inr (6, [.ref h1, .ref k0, .ref k1])), (h1, .inr (2, [.ref k2, .ref k3, .int 0]))] s.heap := hP
  have hl := lv_entry ([.ref h0]) (n := 1) (Nat.le_of_ble_eq_true rfl)
  rw [lg_entry_eq]
  generalize (lg_sl ([.ref h0]) ++ List.replicate (1 - (lg_sl ([.ref h0])).length) Slot.unset).toArray = ls at hl ⊢
  replace hl : lv_has ls 1 [(0, .ref h0)] := hl
  refine lv_aload_n hx hb dX6_lay_0 rfl (lv_at hl 0 rfl) ?_
  refine va_get (D := G) (ci := 6) (v := .ref h1) (C := RX6) (T := TX6) (N := 3) hx hb hts xinX6 hown hK hP 0 rfl rfl 0 (by decide) (hts _ wm_59) (fun _ h9 => h9) rfl dX6_lay_1 ?_
  refine va_getN (D := G) (ci := 2) (v := .int 0) (C := RX2) (T := TX2) (N := 3) hx hb hts xinX2 hown hK hP 1 rfl rfl 2 (by decide) (va_Nw.use rfl (hN.1 ("PlaneTests$Round", 41, "PlaneTests$Filled", "nodes", "I", "PlaneTests") (by decide +kernel))) (fun _ h9 => h9) rfl dX6_lay_4 ?_
  refine lv_iconst (v := 4) hx hb dX6_lay_7 (by decide) ?_
  refine lv_icmp_ge (tgt := 18) hx hb dX6_lay_8 (by decide) (fun c76 => ?_) (fun c76 => ?_)
  · exact absurd c76 (by decide)
  refine lv_aload_n hx hb dX6_lay_11 rfl (lv_at hl 0 rfl) ?_
  refine xcv (wr := []) (va_runV (As := []) (rest := []) ⟨hx, hb, hml, hown, hts⟩ (mX6_layRising l G cI cJ cZ h0 h1 k0 k1 k2 k3 s.heap.size ) (cwV 0 hts (xgoodV wm_274 wm_275 wm_276 wm_277 wm_55) rfl rfl rfl (by decide +kernel) ⟨Nat.le_of_ble_eq_true rfl, Nat.le_of_ble_eq_true rfl⟩) (xPreV (q := (RX6, TX6, 3)) (q0 := 0) hK hN hP hD [0, 1] (by decide) rfl rfl rfl) rfl rfl hl.1 rfl (lv_room (Nat.le_of_ble_eq_true rfl)) dX6_lay_12 ⟨Nat.le_of_ble_eq_true rfl, Nat.le_of_ble_eq_true rfl⟩) hP hD hS hA [0, 1] [] rfl rfl (by decide) (by decide) (fun _ H locs hw hP hD hS => ?_)
  replace hP : va_P G vwCl [(h0, .inr (6, [.ref h1, .ref k0, .ref k1])), (h1, .inr (2, [.ref k2, .ref k3, .int 0]))] H := hP
  replace hD : va_D A [(h0, .inr (6, [.ref h1, .ref k0, .ref k1])), (h1, .inr (2, [.ref k2, .ref k3, .int 0]))] := hD
  refine lv_goto (tgt := 22) hx hb dX6_lay_15 (by decide) ?_
  have hP9 : va_P G vwCl [(h0, .inr (6, [.ref h1, .ref k0, .ref k1])), (h1, .inr (2, [.ref k2, .ref k3, .int 0]))] H := hP.sub [0, 1] rfl
  have hD9 : va_D A [(h0, .inr (6, [.ref h1, .ref k0, .ref k1])), (h1, .inr (2, [.ref k2, .ref k3, .int 0]))] := hD.sub [0, 1] (by decide) rfl
  refine W.widen (k := 0) (n := 0) (by decide) (by decide) ?_
  exact W.vret hx hb hr (fun t ht hW => ⟨⟨(), rfl, trivial, by rw [ht]; exact hP9, hD9⟩, hS.F ht⟩) hS.2.2 dX6_lay_22
set_option maxHeartbeats 4000000 in
set_option maxRecDepth 100000 in
theorem mX8_makeFilled (l : Launch) (G : va_G) (cI cJ cZ : ClassId) (h0 h1 h2 h3 h4 h5 h6 h7 k0 k1 k2 k3 k4 k5 k6 k7 k8 k9 k10 sz : Nat) : Met l yX8_makeFilled (xw yX8_makeFilled cX8_makeFilled 1 none) ({ frames := 2, cells := 0, slots := 0, locals := 87 }) (xPc G cI cJ cZ [.ref h0] [(h0, .inr (8, [.ref h1, .ref k0, .ref k1, .ref k2, .ref h2, .ref h6, .ref k3, .ref k4, .ref k5, .ref k6, .ref k7, .int 1, .int 1, .int 0, .int 0, .int 0])), (h1, .inr (3, [.ref k8, .ref k9, .ref h3, .int 0, .int 0, .int 0])), (h2, .inr (2, [.ref h4, .ref h5, .int (-1)])), (h3, aI cI 20 xz), (h4, aI cI 20 xz), (h5, aI cI 20 xz), (h6, .inr (6, [.ref h2, .ref h7, .ref k10])), (h7, aI cI 400 xz)] sz) (va_Qv (fun _ : Unit => True) (fun (_ : Unit) t => xB G (va_A [(h0, .inr (8, [.ref h1, .ref k0, .ref k1, .ref k2, .ref h2, .ref h6, .ref k3, .ref k4, .ref k5, .ref k6, .ref k7, .int 1, .int 1, .int 0, .int 0, .int 0])), (h1, .inr (3, [.ref k8, .ref k9, .ref h3, .int 0, .int 0, .int 0])), (h2, .inr (2, [.ref h4, .ref h5, .int (-1)])), (h3, aI cI 20 xz), (h4, aI cI 20 xz), (h5, aI cI 20 xz), (h6, .inr (6, [.ref h2, .ref h7, .ref k10])), (h7, aI cI 400 xz)] sz) [(h0, .inr (8, [.ref h1, .ref k0, .ref k1, .ref k2, .ref h2, .ref h6, .ref k3, .ref k4, .ref k5, .ref k6, .ref k7, .int 1, .int 1, .int 0, .int 0, .int 0])), (h1, .inr (3, [.ref k8, .ref k9, .ref h3, .int 0, .int 0, .int 0])), (h2, .inr (2, [.ref h4, .ref h5, .int 0])), (h3, aI cI 20 xz), (h4, aI cI 20 (va_cpy xz xz 0 0 0)), (h5, aI cI 20 (va_cpy xz xz 0 0 0)), (h6, .inr (6, [.ref h2, .ref h7, .ref k10])), (h7, aI cI 400 xz)] t) (va_A [(h0, .inr (8, [.ref h1, .ref k0, .ref k1, .ref k2, .ref h2, .ref h6, .ref k3, .ref k4, .ref k5, .ref k6, .ref k7, .int 1, .int 1, .int 0, .int 0, .int 0])), (h1, .inr (3, [.ref k8, .ref k9, .ref h3, .int 0, .int 0, .int 0])), (h2, .inr (2, [.ref h4, .ref h5, .int (-1)])), (h3, aI cI 20 xz), (h4, aI cI 20 xz), (h5, aI cI 20 xz), (h6, .inr (6, [.ref h2, .ref h7, .ref k10])), (h7, aI cI 400 xz)] sz)) 0 0 (va_A [(h0, .inr (8, [.ref h1, .ref k0, .ref k1, .ref k2, .ref h2, .ref h6, .ref k3, .ref k4, .ref k5, .ref k6, .ref k7, .int 1, .int 1, .int 0, .int 0, .int 0])), (h1, .inr (3, [.ref k8, .ref k9, .ref h3, .int 0, .int 0, .int 0])), (h2, .inr (2, [.ref h4, .ref h5, .int (-1)])), (h3, aI cI 20 xz), (h4, aI cI 20 xz), (h5, aI cI 20 xz), (h6, .inr (6, [.ref h2, .ref h7, .ref k10])), (h7, aI cI 400 xz)] sz) := by
  refine Met.ofW (cc := cX8_makeFilled) (maxL := 1) (ret := none) (by decide) rfl ?_
  intro p e s m args below meth c s₁ B hml hv
  obtain ⟨rfl, hsz, hP, hK, hD0, hN⟩ := hv
  have hx := B.exec
  have hb := B.bytes
  have hr := B.returns
  have hts : ∀ w ∈ xW, w.before _ s = true := fun w h => atoms_spec (ws := xw yX8_makeFilled cX8_makeFilled 1 none) B.pre w (List.mem_cons_of_mem _ h)
  have hown : s.vm.findClass RX8 = some m.cls := findClass_of_methodNamed B.named
  have hlocks := B.notSynchronized
  subst hsz
  have hD := hD0.self (sz := s.heap.size)
  clear hD0
  generalize hAe : va_A [(h0, .inr (8, [.ref h1, .ref k0, .ref k1, .ref k2, .ref h2, .ref h6, .ref k3, .ref k4, .ref k5, .ref k6, .ref k7, .int 1, .int 1, .int 0, .int 0, .int 0])), (h1, .inr (3, [.ref k8, .ref k9, .ref h3, .int 0, .int 0, .int 0])), (h2, .inr (2, [.ref h4, .ref h5, .int (-1)])), (h3, aI cI 20 xz), (h4, aI cI 20 xz), (h5, aI cI 20 xz), (h6, .inr (6, [.ref h2, .ref h7, .ref k10])), (h7, aI cI 400 xz)] s.heap.size = A at hD ⊢
  have hA : ∀ q : Nat, s.heap.size ≤ q → A q := fun q h => by rw [← hAe]; exact Or.inr h
  clear hAe
  have hS : va_S A s.heap s.heap [] := va_S.rf
  replace hP : va_P G vwCl [(h0, .inr (8, [.ref h1, .ref k0, .ref k1, .ref k2, .ref h2, .ref h6, .ref k3, .ref k4, .ref k5, .ref k6, .ref k7, .int 1, .int 1, .int 0, .int 0, .int 0])), (h1, .inr (3, [.ref k8, .ref k9, .ref h3, .int 0, .int 0, .int 0])), (h2, .inr (2, [.ref h4, .ref h5, .int (-1)])), (h3, aI cI 20 xz), (h4, aI cI 20 xz), (h5, aI cI 20 xz), (h6, .inr (6, [.ref h2, .ref h7, .ref k10])), (h7, aI cI 400 xz)] s.heap := hP
  have hl := lv_entry ([.ref h0]) (n := 1) (Nat.le_of_ble_eq_true rfl)
  rw [lg_entry_eq]
  generalize (lg_sl ([.ref h0]) ++ List.replicate (1 - (lg_sl ([.ref h0])).length) Slot.unset).toArray = ls at hl ⊢
  replace hl : lv_has ls 1 [(0, .ref h0)] := hl
  refine lv_aload_n hx hb dX8_makeFilled_0 rfl (lv_at hl 0 rfl) ?_
  refine va_get (D := G) (ci := 8) (v := .ref h2) (C := RX8) (T := TX8) (N := 16) hx hb hts xinX8 hown hK hP 0 rfl rfl 4 (by decide) (hts _ wm_52) (fun _ h9 => h9) rfl dX8_makeFilled_1 ?_
  refine lv_aload_n hx hb dX8_makeFilled_4 rfl (lv_at hl 0 rfl) ?_
  refine va_get (D := G) (ci := 8) (v := .ref h1) (C := RX8) (T := TX8) (N := 16) hx hb hts xinX8 hown hK hP 0 rfl rfl 0 (by decide) (hts _ wm_14) (fun _ h9 => h9) rfl dX8_makeFilled_5 ?_
  refine va_getN (D := G) (ci := 3) (v := .ref h3) (C := RX3) (T := TX3) (N := 6) hx hb hts xinX3 hown hK hP 1 rfl rfl 2 (by decide) (va_Nw.use rfl (hN.1 ("PlaneTests", 131, "PlaneTests$Graph", "joined", "[I", "PlaneTests") (by decide +kernel))) (fun _ h9 => h9) rfl dX8_makeFilled_8 ?_
  refine lv_aload_n hx hb dX8_makeFilled_11 rfl (lv_at hl 0 rfl) ?_
  refine va_get (D := G) (ci := 8) (v := .ref h1) (C := RX8) (T := TX8) (N := 16) hx hb hts xinX8 hown hK hP 0 rfl rfl 0 (by decide) (hts _ wm_14) (fun _ h9 => h9) rfl dX8_makeFilled_12 ?_
  refine va_getN (D := G) (ci := 3) (v := .int 0) (C := RX3) (T := TX3) (N := 6) hx hb hts xinX3 hown hK hP 1 rfl rfl 3 (by decide) (va_Nw.use rfl (hN.1 ("PlaneTests", 81, "PlaneTests$Graph", "nodes", "I", "PlaneTests") (by decide +kernel))) (fun _ h9 => h9) rfl dX8_makeFilled_15 ?_
  refine xci (wr := [(h0, .inr (8, [.ref h1, .ref k0, .ref k1, .ref k2, .ref h2, .ref h6, .ref k3, .ref k4, .ref k5, .ref k6, .ref k7, .int 1, .int 1, .int 0, .int 0, .int 0])), (h1, .inr (3, [.ref k8, .ref k9, .ref h3, .int 0, .int 0, .int 0])), (h3, aI cI 20 xz), (h4, aI cI 20 xz), (h5, aI cI 20 xz), (h6, .inr (6, [.ref h2, .ref h7, .ref k10])), (h7, aI cI 400 xz)]) (va_runV (As := [.ref h3, .int 0]) (rest := []) ⟨hx, hb, hml, hown, hts⟩ (mX2_isOf l G cI cJ cZ h2 h4 h5 h3 s.heap.size ) (cwV 2 hts (xgoodV wm_205 wm_206 wm_207 wm_208 wm_45) rfl rfl rfl (by decide +kernel) ⟨Nat.le_of_ble_eq_true rfl, Nat.le_of_ble_eq_true rfl⟩) (xPreV (q := (RX2, TX2, 3)) (q0 := 2) hK hN hP hD [2] (by decide) rfl rfl rfl) rfl rfl hl.1 rfl (lv_room (Nat.le_of_ble_eq_true rfl)) dX8_makeFilled_18 ⟨Nat.le_of_ble_eq_true rfl, Nat.le_of_ble_eq_true rfl⟩) hP hD hS hA [2] [0, 1, 3, 4, 5, 6, 7] rfl rfl (by decide) (by decide) (fun r47 _ H locs hw hP hD hS => ?_)
  replace hP : va_P G vwCl [(h0, .inr (8, [.ref h1, .ref k0, .ref k1, .ref k2, .ref h2, .ref h6, .ref k3, .ref k4, .ref k5, .ref k6, .ref k7, .int 1, .int 1, .int 0, .int 0, .int 0])), (h1, .inr (3, [.ref k8, .ref k9, .ref h3, .int 0, .int 0, .int 0])), (h3, aI cI 20 xz), (h4, aI cI 20 xz), (h5, aI cI 20 xz), (h6, .inr (6, [.ref h2, .ref h7, .ref k10])), (h7, aI cI 400 xz), (h2, .inr (2, [.ref h4, .ref h5, .int (-1)]))] H := hP
  replace hD : va_D A [(h0, .inr (8, [.ref h1, .ref k0, .ref k1, .ref k2, .ref h2, .ref h6, .ref k3, .ref k4, .ref k5, .ref k6, .ref k7, .int 1, .int 1, .int 0, .int 0, .int 0])), (h1, .inr (3, [.ref k8, .ref k9, .ref h3, .int 0, .int 0, .int 0])), (h3, aI cI 20 xz), (h4, aI cI 20 xz), (h5, aI cI 20 xz), (h6, .inr (6, [.ref h2, .ref h7, .ref k10])), (h7, aI cI 400 xz), (h2, .inr (2, [.ref h4, .ref h5, .int (-1)]))] := hD
  obtain rfl : r47 = (0 : Int32) := hw
  refine lv_if_ne (tgt := 63) hx hb dX8_makeFilled_21 (by decide) (fun c71 => ?_) (fun c71 => ?_)
  · exact absurd c71 (by decide)
  refine lv_aload_n hx hb dX8_makeFilled_24 rfl (lv_at hl 0 rfl) ?_
  refine va_get (D := G) (ci := 8) (v := .ref h2) (C := RX8) (T := TX8) (N := 16) hx hb hts xinX8 hown hK hP 0 rfl rfl 4 (by decide) (hts _ wm_52) (fun _ h9 => h9) rfl dX8_makeFilled_25 ?_
  refine lv_aload_n hx hb dX8_makeFilled_28 rfl (lv_at hl 0 rfl) ?_
  refine va_get (D := G) (ci := 8) (v := .ref h1) (C := RX8) (T := TX8) (N := 16) hx hb hts xinX8 hown hK hP 0 rfl rfl 0 (by decide) (hts _ wm_14) (fun _ h9 => h9) rfl dX8_makeFilled_29 ?_
  refine va_getN (D := G) (ci := 3) (v := .ref h3) (C := RX3) (T := TX3) (N := 6) hx hb hts xinX3 hown hK hP 1 rfl rfl 2 (by decide) (va_Nw.use rfl (hN.1 ("PlaneTests", 131, "PlaneTests$Graph", "joined", "[I", "PlaneTests") (by decide +kernel))) (fun _ h9 => h9) rfl dX8_makeFilled_32 ?_
  refine lv_aload_n hx hb dX8_makeFilled_35 rfl (lv_at hl 0 rfl) ?_
  refine va_get (D := G) (ci := 8) (v := .ref h1) (C := RX8) (T := TX8) (N := 16) hx hb hts xinX8 hown hK hP 0 rfl rfl 0 (by decide) (hts _ wm_14) (fun _ h9 => h9) rfl dX8_makeFilled_36 ?_
  refine va_getN (D := G) (ci := 3) (v := .int 0) (C := RX3) (T := TX3) (N := 6) hx hb hts xinX3 hown hK hP 1 rfl rfl 3 (by decide) (va_Nw.use rfl (hN.1 ("PlaneTests", 81, "PlaneTests$Graph", "nodes", "I", "PlaneTests") (by decide +kernel))) (fun _ h9 => h9) rfl dX8_makeFilled_39 ?_
  refine lv_aload_n hx hb dX8_makeFilled_42 rfl (lv_at hl 0 rfl) ?_
  refine va_get (D := G) (ci := 8) (v := .ref k2) (C := RX8) (T := TX8) (N := 16) hx hb hts xinX8 hown hK hP 0 rfl rfl 3 (by decide) (hts _ wm_42) (fun _ h9 => h9) rfl dX8_makeFilled_43 ?_
  refine xcv (wr := [(h0, .inr (8, [.ref h1, .ref k0, .ref k1, .ref k2, .ref h2, .ref h6, .ref k3, .ref k4, .ref k5, .ref k6, .ref k7, .int 1, .int 1, .int 0, .int 0, .int 0])), (h1, .inr (3, [.ref k8, .ref k9, .ref h3, .int 0, .int 0, .int 0])), (h6, .inr (6, [.ref h2, .ref h7, .ref k10])), (h7, aI cI 400 xz)]) (va_runV (As := [.ref h3, .int 0, .ref k2]) (rest := []) ⟨hx, hb, hml, hown, hts⟩ (mX2_fill l G cI cJ cZ h2 h3 h4 h5 k2 H.size ) (cwV 3 hts (xgoodV wm_265 wm_266 wm_267 wm_268 wm_45) rfl rfl rfl (by decide +kernel) ⟨Nat.le_of_ble_eq_true rfl, Nat.le_of_ble_eq_true rfl⟩) (xPreV (q := (RX2, TX2, 3)) (q0 := 7) hK hN hP hD [7, 2, 3, 4] (by decide) rfl rfl rfl) rfl rfl hl.1 rfl (lv_room (Nat.le_of_ble_eq_true rfl)) dX8_makeFilled_46 ⟨Nat.le_of_ble_eq_true rfl, Nat.le_of_ble_eq_true rfl⟩) hP hD hS hA [7, 2, 3, 4] [0, 1, 5, 6] rfl rfl (by decide) (by decide) (fun _ H locs hw hP hD hS => ?_)
  replace hP : va_P G vwCl [(h0, .inr (8, [.ref h1, .ref k0, .ref k1, .ref k2, .ref h2, .ref h6, .ref k3, .ref k4, .ref k5, .ref k6, .ref k7, .int 1, .int 1, .int 0, .int 0, .int 0])), (h1, .inr (3, [.ref k8, .ref k9, .ref h3, .int 0, .int 0, .int 0])), (h6, .inr (6, [.ref h2, .ref h7, .ref k10])), (h7, aI cI 400 xz), (h2, .inr (2, [.ref h4, .ref h5, .int 0])), (h3, aI cI 20 xz), (h4, aI cI 20 (va_cpy xz xz 0 0 0)), (h5, aI cI 20 (va_cpy xz xz 0 0 0))] H := hP
  replace hD : va_D A [(h0, .inr (8, [.ref h1, .ref k0, .ref k1, .ref k2, .ref h2, .ref h6, .ref k3, .ref k4, .ref k5, .ref k6, .ref k7, .int 1, .int 1, .int 0, .int 0, .int 0])), (h1, .inr (3, [.ref k8, .ref k9, .ref h3, .int 0, .int 0, .int 0])), (h6, .inr (6, [.ref h2, .ref h7, .ref k10])), (h7, aI cI 400 xz), (h2, .inr (2, [.ref h4, .ref h5, .int 0])), (h3, aI cI 20 xz), (h4, aI cI 20 (va_cpy xz xz 0 0 0)), (h5, aI cI 20 (va_cpy xz xz 0 0 0))] := hD
  refine lv_aload_n hx hb dX8_makeFilled_49 rfl (lv_at hl 0 rfl) ?_
  refine va_get (D := G) (ci := 8) (v := .ref h6) (C := RX8) (T := TX8) (N := 16) hx hb hts xinX8 hown hK hP 0 rfl rfl 5 (by decide) (hts _ wm_63) (fun _ h9 => h9) rfl dX8_makeFilled_50 ?_
  refine xcv (wr := [(h0, .inr (8, [.ref h1, .ref k0, .ref k1, .ref k2, .ref h2, .ref h6, .ref k3, .ref k4, .ref k5, .ref k6, .ref k7, .int 1, .int 1, .int 0, .int 0, .int 0])), (h1, .inr (3, [.ref k8, .ref k9, .ref h3, .int 0, .int 0, .int 0])), (h3, aI cI 20 xz), (h4, aI cI 20 (va_cpy xz xz 0 0 0)), (h5, aI cI 20 (va_cpy xz xz 0 0 0))]) (va_runV (As := []) (rest := []) ⟨hx, hb, hml, hown, hts⟩ (mX6_findFaces l G cI cJ cZ h6 h7 h2 k10 h4 h5 H.size ) (cwV 0 hts (xgoodV wm_270 wm_271 wm_272 wm_273 wm_55) rfl rfl rfl (by decide +kernel) ⟨Nat.le_of_ble_eq_true rfl, Nat.le_of_ble_eq_true rfl⟩) (xPreV (q := (RX6, TX6, 3)) (q0 := 2) hK hN hP hD [2, 3, 4] (by decide) rfl rfl rfl) rfl rfl hl.1 rfl (lv_room (Nat.le_of_ble_eq_true rfl)) dX8_makeFilled_53 ⟨Nat.le_of_ble_eq_true rfl, Nat.le_of_ble_eq_true rfl⟩) hP hD hS hA [2, 3, 4] [0, 1, 5, 6, 7] rfl rfl (by decide) (by decide) (fun _ H locs hw hP hD hS => ?_)
  replace hP : va_P G vwCl [(h0, .inr (8, [.ref h1, .ref k0, .ref k1, .ref k2, .ref h2, .ref h6, .ref k3, .ref k4, .ref k5, .ref k6, .ref k7, .int 1, .int 1, .int 0, .int 0, .int 0])), (h1, .inr (3, [.ref k8, .ref k9, .ref h3, .int 0, .int 0, .int 0])), (h3, aI cI 20 xz), (h4, aI cI 20 (va_cpy xz xz 0 0 0)), (h5, aI cI 20 (va_cpy xz xz 0 0 0)), (h6, .inr (6, [.ref h2, .ref h7, .ref k10])), (h7, aI cI 400 xz), (h2, .inr (2, [.ref h4, .ref h5, .int 0]))] H := hP
  replace hD : va_D A [(h0, .inr (8, [.ref h1, .ref k0, .ref k1, .ref k2, .ref h2, .ref h6, .ref k3, .ref k4, .ref k5, .ref k6, .ref k7, .int 1, .int 1, .int 0, .int 0, .int 0])), (h1, .inr (3, [.ref k8, .ref k9, .ref h3, .int 0, .int 0, .int 0])), (h3, aI cI 20 xz), (h4, aI cI 20 (va_cpy xz xz 0 0 0)), (h5, aI cI 20 (va_cpy xz xz 0 0 0)), (h6, .inr (6, [.ref h2, .ref h7, .ref k10])), (h7, aI cI 400 xz), (h2, .inr (2, [.ref h4, .ref h5, .int 0]))] := hD
  refine lv_aload_n hx hb dX8_makeFilled_56 rfl (lv_at hl 0 rfl) ?_
  refine va_get (D := G) (ci := 8) (v := .ref h6) (C := RX8) (T := TX8) (N := 16) hx hb hts xinX8 hown hK hP 0 rfl rfl 5 (by decide) (hts _ wm_63) (fun _ h9 => h9) rfl dX8_makeFilled_57 ?_
  refine xcv (wr := [(h0, .inr (8, [.ref h1, .ref k0, .ref k1, .ref k2, .ref h2, .ref h6, .ref k3, .ref k4, .ref k5, .ref k6, .ref k7, .int 1, .int 1, .int 0, .int 0, .int 0])), (h1, .inr (3, [.ref k8, .ref k9, .ref h3, .int 0, .int 0, .int 0])), (h3, aI cI 20 xz), (h4, aI cI 20 (va_cpy xz xz 0 0 0)), (h5, aI cI 20 (va_cpy xz xz 0 0 0)), (h7, aI cI 400 xz)]) (va_runV (As := []) (rest := []) ⟨hx, hb, hml, hown, hts⟩ (mX6_lay l G cI cJ cZ h6 h2 h7 k10 h4 h5 H.size ) (cwV 0 hts (xgoodV wm_278 wm_279 wm_280 wm_281 wm_55) rfl rfl rfl (by decide +kernel) ⟨Nat.le_of_ble_eq_true rfl, Nat.le_of_ble_eq_true rfl⟩) (xPreV (q := (RX6, TX6, 3)) (q0 := 5) hK hN hP hD [5, 7] (by decide) rfl rfl rfl) rfl rfl hl.1 rfl (lv_room (Nat.le_of_ble_eq_true rfl)) dX8_makeFilled_60 ⟨Nat.le_of_ble_eq_true rfl, Nat.le_of_ble_eq_true rfl⟩) hP hD hS hA [5, 7] [0, 1, 2, 3, 4, 6] rfl rfl (by decide) (by decide) (fun _ H locs hw hP hD hS => ?_)
  replace hP : va_P G vwCl [(h0, .inr (8, [.ref h1, .ref k0, .ref k1, .ref k2, .ref h2, .ref h6, .ref k3, .ref k4, .ref k5, .ref k6, .ref k7, .int 1, .int 1, .int 0, .int 0, .int 0])), (h1, .inr (3, [.ref k8, .ref k9, .ref h3, .int 0, .int 0, .int 0])), (h3, aI cI 20 xz), (h4, aI cI 20 (va_cpy xz xz 0 0 0)), (h5, aI cI 20 (va_cpy xz xz 0 0 0)), (h7, aI cI 400 xz), (h6, .inr (6, [.ref h2, .ref h7, .ref k10])), (h2, .inr (2, [.ref h4, .ref h5, .int 0]))] H := hP
  replace hD : va_D A [(h0, .inr (8, [.ref h1, .ref k0, .ref k1, .ref k2, .ref h2, .ref h6, .ref k3, .ref k4, .ref k5, .ref k6, .ref k7, .int 1, .int 1, .int 0, .int 0, .int 0])), (h1, .inr (3, [.ref k8, .ref k9, .ref h3, .int 0, .int 0, .int 0])), (h3, aI cI 20 xz), (h4, aI cI 20 (va_cpy xz xz 0 0 0)), (h5, aI cI 20 (va_cpy xz xz 0 0 0)), (h7, aI cI 400 xz), (h6, .inr (6, [.ref h2, .ref h7, .ref k10])), (h2, .inr (2, [.ref h4, .ref h5, .int 0]))] := hD
  have hP9 : va_P G vwCl [(h0, .inr (8, [.ref h1, .ref k0, .ref k1, .ref k2, .ref h2, .ref h6, .ref k3, .ref k4, .ref k5, .ref k6, .ref k7, .int 1, .int 1, .int 0, .int 0, .int 0])), (h1, .inr (3, [.ref k8, .ref k9, .ref h3, .int 0, .int 0, .int 0])), (h2, .inr (2, [.ref h4, .ref h5, .int 0])), (h3, aI cI 20 xz), (h4, aI cI 20 (va_cpy xz xz 0 0 0)), (h5, aI cI 20 (va_cpy xz xz 0 0 0)), (h6, .inr (6, [.ref h2, .ref h7, .ref k10])), (h7, aI cI 400 xz)] H := hP.sub [0, 1, 7, 2, 3, 4, 6, 5] rfl
  have hD9 : va_D A [(h0, .inr (8, [.ref h1, .ref k0, .ref k1, .ref k2, .ref h2, .ref h6, .ref k3, .ref k4, .ref k5, .ref k6, .ref k7, .int 1, .int 1, .int 0, .int 0, .int 0])), (h1, .inr (3, [.ref k8, .ref k9, .ref h3, .int 0, .int 0, .int 0])), (h2, .inr (2, [.ref h4, .ref h5, .int 0])), (h3, aI cI 20 xz), (h4, aI cI 20 (va_cpy xz xz 0 0 0)), (h5, aI cI 20 (va_cpy xz xz 0 0 0)), (h6, .inr (6, [.ref h2, .ref h7, .ref k10])), (h7, aI cI 400 xz)] := hD.sub [0, 1, 7, 2, 3, 4, 6, 5] (by decide) rfl
  refine W.widen (k := 0) (n := 0) (by decide) (by decide) ?_
  exact W.vret hx hb hr (fun t ht hW => ⟨⟨(), rfl, trivial, by rw [ht]; exact hP9, hD9⟩, hS.F ht⟩) hS.2.2 dX8_makeFilled_63
set_option maxHeartbeats 4000000 in
set_option maxRecDepth 100000 in
theorem mX1_findBehind (l : Launch) (G : va_G) (cI cJ cZ : ClassId) (h0 h1 h2 k0 k1 k2 k3 sz : Nat) : Met l yX1_findBehind (xw yX1_findBehind cX1_findBehind 5 none) ({ frames := 1, cells := 0, slots := 0, locals := 23 }) (xPc G cI cJ cZ [.ref h0, .ref h2] [(h0, .inr (1, [.ref k0, .ref k1, .ref h1])), (h1, aI cI 160 xz), (h2, .inr (7, [.ref k2, .ref k3, .int 0]))] sz) (va_Qv (fun _ : Unit => True) (fun (_ : Unit) t => xB G (va_A [(h0, .inr (1, [.ref k0, .ref k1, .ref h1])), (h1, aI cI 160 xz), (h2, .inr (7, [.ref k2, .ref k3, .int 0]))] sz) [(h0, .inr (1, [.ref k0, .ref k1, .ref h1])), (h1, aI cI 160 xm), (h2, .inr (7, [.ref k2, .ref k3, .int 0]))] t) (va_A [(h0, .inr (1, [.ref k0, .ref k1, .ref h1])), (h1, aI cI 160 xz), (h2, .inr (7, [.ref k2, .ref k3, .int 0]))] sz)) 0 0 (va_A [(h0, .inr (1, [.ref k0, .ref k1, .ref h1])), (h1, aI cI 160 xz), (h2, .inr (7, [.ref k2, .ref k3, .int 0]))] sz) := by
  refine Met.ofW (cc := cX1_findBehind) (maxL := 5) (ret := none) (by decide) rfl ?_
  intro p e s m args below meth c s₁ B hml hv
  obtain ⟨rfl, hsz, hP, hK, hD0, hN⟩ := hv
  have hx := B.exec
  have hb := B.bytes
  have hr := B.returns
  have hts : ∀ w ∈ xW, w.before _ s = true := fun w h => atoms_spec (ws := xw yX1_findBehind cX1_findBehind 5 none) B.pre w (List.mem_cons_of_mem _ h)
  have hown : s.vm.findClass RX1 = some m.cls := findClass_of_methodNamed B.named
  have hlocks := B.notSynchronized
  subst hsz
  have hD := hD0.self (sz := s.heap.size)
  clear hD0
  generalize hAe : va_A [(h0, .inr (1, [.ref k0, .ref k1, .ref h1])), (h1, aI cI 160 xz), (h2, .inr (7, [.ref k2, .ref k3, .int 0]))] s.heap.size = A at hD ⊢
  have hA : ∀ q : Nat, s.heap.size ≤ q → A q := fun q h => by rw [← hAe]; exact Or.inr h
  clear hAe
  have hS : va_S A s.heap s.heap [] := va_S.rf
  replace hP : va_P G vwCl [(h0, .inr (1, [.ref k0, .ref k1, .ref h1])), (h1, aI cI 160 xz), (h2, .inr (7, [.ref k2, .ref k3, .int 0]))] s.heap := hP
  have hl := lv_entry ([.ref h0, .ref h2]) (n := 5) (Nat.le_of_ble_eq_true rfl)
  rw [lg_entry_eq]
  generalize (lg_sl ([.ref h0, .ref h2]) ++ List.replicate (5 - (lg_sl ([.ref h0, .ref h2])).length) Slot.unset).toArray = ls at hl ⊢
  replace hl : lv_has ls 5 [(0, .ref h0), (1, .ref h2)] := hl
  refine lv_aload_n hx hb dX1_findBehind_0 rfl (lv_at hl 0 rfl) ?_
  refine va_get (D := G) (ci := 1) (v := .ref h1) (C := RX1) (T := TX1) (N := 3) hx hb hts xinX1 hown hK hP 0 rfl rfl 2 (by decide) (hts _ wm_72) (fun _ h9 => h9) rfl dX1_findBehind_1 ?_
  refine lv_iconst (v := (-1)) hx hb dX1_findBehind_4 (by decide) ?_
  refine xcv (wr := [(h0, .inr (1, [.ref k0, .ref k1, .ref h1])), (h2, .inr (7, [.ref k2, .ref k3, .int 0]))]) (va_runS (As := [.ref h1, .int (-1)]) (rest := []) ⟨hx, hb, hml, hown, hts⟩ (mJ7_fill_53178 l G cI cJ cZ h1 s.heap.size 160 xz (-1) (by decide)) (va_cwS 2 hts (xgoodS wm_189 wm_286 wm_191 wm_192) rfl rfl rfl (by decide +kernel) ⟨Nat.le_of_ble_eq_true rfl, Nat.le_of_ble_eq_true rfl⟩) (xPreS hK hN hP hD [1] (by decide) rfl) rfl rfl hl.1 rfl (lv_room (Nat.le_of_ble_eq_true rfl)) dX1_findBehind_5 ⟨Nat.le_of_ble_eq_true rfl, Nat.le_of_ble_eq_true rfl⟩) hP hD hS hA [1] [0, 2] rfl rfl (by decide) (by decide) (fun _ H locs hw hP hD hS => ?_)
  replace hP : va_P G vwCl [(h0, .inr (1, [.ref k0, .ref k1, .ref h1])), (h2, .inr (7, [.ref k2, .ref k3, .int 0])), (h1, aI cI 160 xm)] H := hP
  replace hD : va_D A [(h0, .inr (1, [.ref k0, .ref k1, .ref h1])), (h2, .inr (7, [.ref k2, .ref k3, .int 0])), (h1, aI cI 160 xm)] := hD
  refine lv_iconst (v := 0) hx hb dX1_findBehind_8 (by decide) ?_
  refine lv_istore_n (lv' := [(2, .int 0), (0, .ref h0), (1, .ref h2)]) hx hb dX1_findBehind_9 rfl hl (by decide) rfl (fun ls hl => ?_)
  refine lv_iload_n hx hb dX1_findBehind_10 rfl (lv_at hl 0 rfl) ?_
  refine lv_aload_n hx hb dX1_findBehind_11 rfl (lv_at hl 2 rfl) ?_
  refine va_getN (D := G) (ci := 7) (v := .int 0) (C := RX7) (T := TX7) (N := 3) hx hb hts xinX7 hown hK hP 1 rfl rfl 2 (by decide) (va_Nw.use rfl (hN.1 ("PlaneTests$Faces", 42, "PlaneTests$Rows", "count", "I", "PlaneTests") (by decide +kernel))) (fun _ h9 => h9) rfl dX1_findBehind_12 ?_
  refine lv_icmp_ge (tgt := 78) hx hb dX1_findBehind_15 (by decide) (fun c80 => ?_) (fun c80 => ?_)
  rotate_left
  · exact absurd c80 (by decide)
  have hP9 : va_P G vwCl [(h0, .inr (1, [.ref k0, .ref k1, .ref h1])), (h1, aI cI 160 xm), (h2, .inr (7, [.ref k2, .ref k3, .int 0]))] H := hP.sub [0, 2, 1] rfl
  have hD9 : va_D A [(h0, .inr (1, [.ref k0, .ref k1, .ref h1])), (h1, aI cI 160 xm), (h2, .inr (7, [.ref k2, .ref k3, .int 0]))] := hD.sub [0, 2, 1] (by decide) rfl
  refine W.widen (k := 0) (n := 0) (by decide) (by decide) ?_
  exact W.vret hx hb hr (fun t ht hW => ⟨⟨(), rfl, trivial, by rw [ht]; exact hP9, hD9⟩, hS.F ht⟩) hS.2.2 dX1_findBehind_78
set_option maxHeartbeats 4000000 in
set_option maxRecDepth 100000 in
theorem mX1_trace (l : Launch) (G : va_G) (cI cJ cZ : ClassId) (h0 h1 h2 h3 h4 k0 k1 k2 k3 sz : Nat) : Met l yX1_trace (xw yX1_trace cX1_trace 3 none) ({ frames := 2, cells := 0, slots := 0, locals := 47 }) (xPc G cI cJ cZ [.ref h0, .ref h2] [(h0, .inr (1, [.ref h4, .ref h3, .ref h1])), (h1, aI cI 160 xz), (h2, .inr (7, [.ref k0, .ref k1, .int 0])), (h3, aI cI 160 xz), (h4, .inr (7, [.ref k2, .ref k3, .int 0]))] sz) (va_Qv (fun _ : Unit => True) (fun (_ : Unit) t => xB G (va_A [(h0, .inr (1, [.ref h4, .ref h3, .ref h1])), (h1, aI cI 160 xz), (h2, .inr (7, [.ref k0, .ref k1, .int 0])), (h3, aI cI 160 xz), (h4, .inr (7, [.ref k2, .ref k3, .int 0]))] sz) [(h0, .inr (1, [.ref h4, .ref h3, .ref h1])), (h1, aI cI 160 xm), (h2, .inr (7, [.ref k0, .ref k1, .int 0])), (h3, aI cI 160 xm), (h4, .inr (7, [.ref k2, .ref k3, .int 0]))] t) (va_A [(h0, .inr (1, [.ref h4, .ref h3, .ref h1])), (h1, aI cI 160 xz), (h2, .inr (7, [.ref k0, .ref k1, .int 0])), (h3, aI cI 160 xz), (h4, .inr (7, [.ref k2, .ref k3, .int 0]))] sz)) 0 0 (va_A [(h0, .inr (1, [.ref h4, .ref h3, .ref h1])), (h1, aI cI 160 xz), (h2, .inr (7, [.ref k0, .ref k1, .int 0])), (h3, aI cI 160 xz), (h4, .inr (7, [.ref k2, .ref k3, .int 0]))] sz) := by
  refine Met.ofW (cc := cX1_trace) (maxL := 3) (ret := none) (by decide) rfl ?_
  intro p e s m args below meth c s₁ B hml hv
  obtain ⟨rfl, hsz, hP, hK, hD0, hN⟩ := hv
  have hx := B.exec
  have hb := B.bytes
  have hr := B.returns
  have hts : ∀ w ∈ xW, w.before _ s = true := fun w h => atoms_spec (ws := xw yX1_trace cX1_trace 3 none) B.pre w (List.mem_cons_of_mem _ h)
  have hown : s.vm.findClass RX1 = some m.cls := findClass_of_methodNamed B.named
  have hlocks := B.notSynchronized
  subst hsz
  have hD := hD0.self (sz := s.heap.size)
  clear hD0
  generalize hAe : va_A [(h0, .inr (1, [.ref h4, .ref h3, .ref h1])), (h1, aI cI 160 xz), (h2, .inr (7, [.ref k0, .ref k1, .int 0])), (h3, aI cI 160 xz), (h4, .inr (7, [.ref k2, .ref k3, .int 0]))] s.heap.size = A at hD ⊢
  have hA : ∀ q : Nat, s.heap.size ≤ q → A q := fun q h => by rw [← hAe]; exact Or.inr h
  clear hAe
  have hS : va_S A s.heap s.heap [] := va_S.rf
  replace hP : va_P G vwCl [(h0, .inr (1, [.ref h4, .ref h3, .ref h1])), (h1, aI cI 160 xz), (h2, .inr (7, [.ref k0, .ref k1, .int 0])), (h3, aI cI 160 xz), (h4, .inr (7, [.ref k2, .ref k3, .int 0]))] s.heap := hP
  have hl := lv_entry ([.ref h0, .ref h2]) (n := 3) (Nat.le_of_ble_eq_true rfl)
  rw [lg_entry_eq]
  generalize (lg_sl ([.ref h0, .ref h2]) ++ List.replicate (3 - (lg_sl ([.ref h0, .ref h2])).length) Slot.unset).toArray = ls at hl ⊢
  replace hl : lv_has ls 3 [(0, .ref h0), (1, .ref h2)] := hl
  refine lv_aload_n hx hb dX1_trace_0 rfl (lv_at hl 0 rfl) ?_
  refine lv_aload_n hx hb dX1_trace_1 rfl (lv_at hl 1 rfl) ?_
  refine xcv (wr := [(h3, aI cI 160 xz), (h4, .inr (7, [.ref k2, .ref k3, .int 0]))]) (va_runV (As := [.ref h2]) (rest := []) ⟨hx, hb, hml, hown, hts⟩ (mX1_findBehind l G cI cJ cZ h0 h1 h2 h4 h3 k0 k1 s.heap.size ) (cwV 1 hts (xgoodV wm_287 wm_288 wm_289 wm_290 wm_67) rfl rfl rfl (by decide +kernel) ⟨Nat.le_of_ble_eq_true rfl, Nat.le_of_ble_eq_true rfl⟩) (xPreV (q := (RX1, TX1, 3)) (q0 := 0) hK hN hP hD [0, 1, 2] (by decide) rfl rfl rfl) rfl rfl hl.1 rfl (lv_room (Nat.le_of_ble_eq_true rfl)) dX1_trace_2 ⟨Nat.le_of_ble_eq_true rfl, Nat.le_of_ble_eq_true rfl⟩) hP hD hS hA [0, 1, 2] [3, 4] rfl rfl (by decide) (by decide) (fun _ H locs hw hP hD hS => ?_)
  replace hP : va_P G vwCl [(h3, aI cI 160 xz), (h4, .inr (7, [.ref k2, .ref k3, .int 0])), (h0, .inr (1, [.ref h4, .ref h3, .ref h1])), (h1, aI cI 160 xm), (h2, .inr (7, [.ref k0, .ref k1, .int 0]))] H := hP
  replace hD : va_D A [(h3, aI cI 160 xz), (h4, .inr (7, [.ref k2, .ref k3, .int 0])), (h0, .inr (1, [.ref h4, .ref h3, .ref h1])), (h1, aI cI 160 xm), (h2, .inr (7, [.ref k0, .ref k1, .int 0]))] := hD
  refine lv_aload_n hx hb dX1_trace_5 rfl (lv_at hl 0 rfl) ?_
  refine va_get (D := G) (ci := 1) (v := .ref h3) (C := RX1) (T := TX1) (N := 3) hx hb hts xinX1 hown hK hP 2 rfl rfl 1 (by decide) (hts _ wm_71) (fun _ h9 => h9) rfl dX1_trace_6 ?_
  refine lv_iconst (v := (-1)) hx hb dX1_trace_9 (by decide) ?_
  refine xcv (wr := [(h4, .inr (7, [.ref k2, .ref k3, .int 0])), (h0, .inr (1, [.ref h4, .ref h3, .ref h1])), (h1, aI cI 160 xm), (h2, .inr (7, [.ref k0, .ref k1, .int 0]))]) (va_runS (As := [.ref h3, .int (-1)]) (rest := []) ⟨hx, hb, hml, hown, hts⟩ (mJ7_fill_53178 l G cI cJ cZ h3 H.size 160 xz (-1) (by decide)) (va_cwS 2 hts (xgoodS wm_189 wm_286 wm_191 wm_192) rfl rfl rfl (by decide +kernel) ⟨Nat.le_of_ble_eq_true rfl, Nat.le_of_ble_eq_true rfl⟩) (xPreS hK hN hP hD [0] (by decide) rfl) rfl rfl hl.1 rfl (lv_room (Nat.le_of_ble_eq_true rfl)) dX1_trace_10 ⟨Nat.le_of_ble_eq_true rfl, Nat.le_of_ble_eq_true rfl⟩) hP hD hS hA [0] [1, 2, 3, 4] rfl rfl (by decide) (by decide) (fun _ H locs hw hP hD hS => ?_)
  replace hP : va_P G vwCl [(h4, .inr (7, [.ref k2, .ref k3, .int 0])), (h0, .inr (1, [.ref h4, .ref h3, .ref h1])), (h1, aI cI 160 xm), (h2, .inr (7, [.ref k0, .ref k1, .int 0])), (h3, aI cI 160 xm)] H := hP
  replace hD : va_D A [(h4, .inr (7, [.ref k2, .ref k3, .int 0])), (h0, .inr (1, [.ref h4, .ref h3, .ref h1])), (h1, aI cI 160 xm), (h2, .inr (7, [.ref k0, .ref k1, .int 0])), (h3, aI cI 160 xm)] := hD
  refine lv_aload_n hx hb dX1_trace_13 rfl (lv_at hl 0 rfl) ?_
  refine va_get (D := G) (ci := 1) (v := .ref h4) (C := RX1) (T := TX1) (N := 3) hx hb hts xinX1 hown hK hP 1 rfl rfl 0 (by decide) (hts _ wm_70) (fun _ h9 => h9) rfl dX1_trace_14 ?_
  refine xcv (wr := [(h0, .inr (1, [.ref h4, .ref h3, .ref h1])), (h1, aI cI 160 xm), (h2, .inr (7, [.ref k0, .ref k1, .int 0])), (h3, aI cI 160 xm)]) (va_runV (As := []) (rest := []) ⟨hx, hb, hml, hown, hts⟩ (mX7_empty l G cI cJ cZ h4 k2 k3 H.size ) (cwV 0 hts (xgoodV wm_201 wm_291 wm_203 wm_204 wm_17) rfl rfl rfl (by decide +kernel) ⟨Nat.le_of_ble_eq_true rfl, Nat.le_of_ble_eq_true rfl⟩) (xPreV (q := (RX7, TX7, 3)) (q0 := 0) hK hN hP hD [0] (by decide) rfl rfl rfl) rfl rfl hl.1 rfl (lv_room (Nat.le_of_ble_eq_true rfl)) dX1_trace_17 ⟨Nat.le_of_ble_eq_true rfl, Nat.le_of_ble_eq_true rfl⟩) hP hD hS hA [0] [1, 2, 3, 4] rfl rfl (by decide) (by decide) (fun _ H locs hw hP hD hS => ?_)
  replace hP : va_P G vwCl [(h0, .inr (1, [.ref h4, .ref h3, .ref h1])), (h1, aI cI 160 xm), (h2, .inr (7, [.ref k0, .ref k1, .int 0])), (h3, aI cI 160 xm), (h4, .inr (7, [.ref k2, .ref k3, .int 0]))] H := hP
  replace hD : va_D A [(h0, .inr (1, [.ref h4, .ref h3, .ref h1])), (h1, aI cI 160 xm), (h2, .inr (7, [.ref k0, .ref k1, .int 0])), (h3, aI cI 160 xm), (h4, .inr (7, [.ref k2, .ref k3, .int 0]))] := hD
  refine lv_iconst (v := 0) hx hb dX1_trace_20 (by decide) ?_
  refine lv_istore_n (lv' := [(2, .int 0), (0, .ref h0), (1, .ref h2)]) hx hb dX1_trace_21 rfl hl (by decide) rfl (fun ls hl => ?_)
  refine xgen (Pp := fun H locs => W p l e _ s m _ below meth c H locs _ _ _ _) (fun H locs hP hD hS => ?_) hP hD hS
  obtain ⟨k, hk0⟩ : ∃ k : Nat, k = 0 := ⟨0, rfl⟩
  replace hl : lv_has ls 3 [(2, .int (nI k)), (0, .ref h0), (1, .ref h2)] := by rw [hk0]; exact hl
  have hkN : k ≤ 160 := by omega
  obtain ⟨n, hn⟩ : ∃ n, 160 + 1 ≤ k + n := ⟨160 + 1, by omega⟩
  clear hk0
  induction n generalizing k H locs ls with
  | zero => exact absurd hn (by omega)
  | succ n ih =>
    refine lv_iload_n hx hb dX1_trace_22 rfl (lv_at hl 0 rfl) ?_
    refine lv_sipush (v := 160) hx hb dX1_trace_23 (by decide) ?_
    refine lv_icmp_ge (tgt := 58) hx hb dX1_trace_26 (by decide) (fun c81 => ?_) (fun c81 => ?_)
    · have hke : k = 160 := by have h9 := xge (N := 160) (show (160 : Int32) = nI 160 from rfl) (by omega) (by omega) c81; omega
      subst hke
      refine lv_iconst (v := 0) hx hb dX1_trace_58 (by decide) ?_
      refine lv_istore_n (lv' := [(2, .int 0), (0, .ref h0), (1, .ref h2)]) hx hb dX1_trace_59 rfl hl (by decide) rfl (fun ls hl => ?_)
      refine lv_iload_n hx hb dX1_trace_60 rfl (lv_at hl 0 rfl) ?_
      refine lv_aload_n hx hb dX1_trace_61 rfl (lv_at hl 2 rfl) ?_
      refine va_getN (D := G) (ci := 7) (v := .int 0) (C := RX7) (T := TX7) (N := 3) hx hb hts xinX7 hown hK hP 2 rfl rfl 2 (by decide) (va_Nw.use rfl (hN.1 ("PlaneTests$Faces", 42, "PlaneTests$Rows", "count", "I", "PlaneTests") (by decide +kernel))) (fun _ h9 => h9) rfl dX1_trace_62 ?_
      refine lv_icmp_ge (tgt := 89) hx hb dX1_trace_65 (by decide) (fun c82 => ?_) (fun c82 => ?_)
      rotate_left
      · exact absurd c82 (by decide)
      have hP9 : va_P G vwCl [(h0, .inr (1, [.ref h4, .ref h3, .ref h1])), (h1, aI cI 160 xm), (h2, .inr (7, [.ref k0, .ref k1, .int 0])), (h3, aI cI 160 xm), (h4, .inr (7, [.ref k2, .ref k3, .int 0]))] H := hP.sub [0, 1, 2, 3, 4] rfl
      have hD9 : va_D A [(h0, .inr (1, [.ref h4, .ref h3, .ref h1])), (h1, aI cI 160 xm), (h2, .inr (7, [.ref k0, .ref k1, .int 0])), (h3, aI cI 160 xm), (h4, .inr (7, [.ref k2, .ref k3, .int 0]))] := hD.sub [0, 1, 2, 3, 4] (by decide) rfl
      refine W.widen (k := 0) (n := 0) (by decide) (by decide) ?_
      exact W.vret hx hb hr (fun t ht hW => ⟨⟨(), rfl, trivial, by rw [ht]; exact hP9, hD9⟩, hS.F ht⟩) hS.2.2 dX1_trace_89
    · have hkl : k < 160 := xlt (N := 160) (show (160 : Int32) = nI 160 from rfl) (by omega) (by omega) c81
      refine lv_aload_n hx hb dX1_trace_29 rfl (lv_at hl 1 rfl) ?_
      refine va_get (D := G) (ci := 1) (v := .ref h1) (C := RX1) (T := TX1) (N := 3) hx hb hts xinX1 hown hK hP 0 rfl rfl 2 (by decide) (hts _ wm_72) (fun _ h9 => h9) rfl dX1_trace_30 ?_
      refine lv_iload_n hx hb dX1_trace_33 rfl (lv_at hl 0 rfl) ?_
      refine va_iald hx hb hK hP 1 0 rfl rfl (vp_in_nI (show k < 160 by omega) (by decide)) dX1_trace_34 ?_
      refine lv_topi (fun w20 ew20 => ?_)
      obtain rfl : w20 = ((-1) : Int32) := ew20.trans (by first | rfl | decide)
      refine lv_if_lt (tgt := 52) hx hb dX1_trace_35 (by decide) (fun c83 => ?_) (fun c83 => ?_)
      rotate_left
      · exact absurd c83 (by decide)
      refine lv_iinc (v := (nI (k + 1))) (lv' := [(2, .int (nI (k + 1))), (0, .ref h0), (1, .ref h2)]) hx hb dX1_trace_52 hl (k := 0) rfl (nI_1 k) (by decide) rfl (fun ls hl => ?_)
      refine lv_goto (tgt := 22) hx hb dX1_trace_55 (by decide) ?_
      replace hl : lv_has ls 3 [(2, .int (nI (k + 1))), (0, .ref h0), (1, .ref h2)] := lv_sub hl [0, 1, 2] rfl
      apply ih (k := k + 1) <;> first | assumption | omega

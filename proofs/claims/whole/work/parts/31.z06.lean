def wX8_clear (i0 : Int32) (i1 : Int32) (i2 : Int32) (i3 : Int32) (i4 : Int32) (i5 : Int32) (i6 : Int32) (i7 : Int32) (f8 : Nat → Int32) (f9 : Nat → Int32) (f10 : Nat → Int32) (i11 : Int32) (K : Int32 → (Int32 × Int32 × Int32 × Int32 × Int32 × Int32 × Int32 × (Nat → Int32) × Int32) → Prop) : Prop := (wX8_forget i0 i1 i2 i3 i4 (fun u9 => (wX3_empty i5 i6 i7 f8 f9 f10 (fun u16 => (wX7_empty i11 (fun u23 => K i5 (u9.1, u9.2.1, u9.2.2.1, u9.2.2.2, u16.1, u16.2.1, u16.2.2.1, u16.2.2.2, u23)))))))
set_option maxHeartbeats 4000000 in
set_option maxRecDepth 100000 in
theorem zX8_clear (l : Launch) (G : va_G) (cI cJ cZ : ClassId) (h0 h1 h2 h3 h4 h5 k0 k1 k2 k3 k4 k5 k6 k7 k8 k9 k10 sz : Nat) (i0 : Int32) (i1 : Int32) (i2 : Int32) (i3 : Int32) (i4 : Int32) (i5 : Int32) (i6 : Int32) (i7 : Int32) (f8 : Nat → Int32) (f9 : Nat → Int32) (f10 : Nat → Int32) (i11 : Int32) (K : Int32 → (Int32 × Int32 × Int32 × Int32 × Int32 × Int32 × Int32 × (Nat → Int32) × Int32) → Prop) (hwp : wX8_clear i0 i1 i2 i3 i4 i5 i6 i7 f8 f9 f10 i11 K) : Met l yX8_clear (xw yX8_clear cX8_clear 2 (some .int)) ({ frames := 3, cells := 0, slots := 0, locals := 66 }) (xPc G cI cJ cZ [.ref h0] [(h0, .inr (8, [.ref h1, .ref h5, .ref k0, .ref k1, .ref k2, .ref k3, .ref k4, .ref k5, .ref k6, .ref k7, .ref k8, .int i0, .int i1, .int i2, .int i3, .int i4])), (h1, .inr (3, [.ref h4, .ref h3, .ref h2, .int i5, .int i6, .int i7])), (h2, aI cI 20 f8), (h3, aI cZ 80 f9), (h4, aI cI 160 f10), (h5, .inr (7, [.ref k9, .ref k10, .int i11]))] sz) (va_Qi (fun (r : Int32) (u : Int32 × Int32 × Int32 × Int32 × Int32 × Int32 × Int32 × (Nat → Int32) × Int32) => K r u) (fun (u : Int32 × Int32 × Int32 × Int32 × Int32 × Int32 × Int32 × (Nat → Int32) × Int32) t => xB G (va_A [(h0, .inr (8, [.ref h1, .ref h5, .ref k0, .ref k1, .ref k2, .ref k3, .ref k4, .ref k5, .ref k6, .ref k7, .ref k8, .int i0, .int i1, .int i2, .int i3, .int i4])), (h1, .inr (3, [.ref h4, .ref h3, .ref h2, .int i5, .int i6, .int i7])), (h2, aI cI 20 f8), (h3, aI cZ 80 f9), (h4, aI cI 160 f10), (h5, .inr (7, [.ref k9, .ref k10, .int i11]))] sz) [(h0, .inr (8, [.ref h1, .ref h5, .ref k0, .ref k1, .ref k2, .ref k3, .ref k4, .ref k5, .ref k6, .ref k7, .ref k8, .int u.1, .int i1, .int u.2.1, .int u.2.2.1, .int u.2.2.2.1])), (h1, .inr (3, [.ref h4, .ref h3, .ref h2, .int u.2.2.2.2.1, .int u.2.2.2.2.2.1, .int u.2.2.2.2.2.2.1])), (h2, aI cI 20 u.2.2.2.2.2.2.2.1), (h3, aI cZ 80 f9), (h4, aI cI 160 f10), (h5, .inr (7, [.ref k9, .ref k10, .int u.2.2.2.2.2.2.2.2]))] t) (va_A [(h0, .inr (8, [.ref h1, .ref h5, .ref k0, .ref k1, .ref k2, .ref k3, .ref k4, .ref k5, .ref k6, .ref k7, .ref k8, .int i0, .int i1, .int i2, .int i3, .int i4])), (h1, .inr (3, [.ref h4, .ref h3, .ref h2, .int i5, .int i6, .int i7])), (h2, aI cI 20 f8), (h3, aI cZ 80 f9), (h4, aI cI 160 f10), (h5, .inr (7, [.ref k9, .ref k10, .int i11]))] sz)) 0 0 (va_A [(h0, .inr (8, [.ref h1, .ref h5, .ref k0, .ref k1, .ref k2, .ref k3, .ref k4, .ref k5, .ref k6, .ref k7, .ref k8, .int i0, .int i1, .int i2, .int i3, .int i4])), (h1, .inr (3, [.ref h4, .ref h3, .ref h2, .int i5, .int i6, .int i7])), (h2, aI cI 20 f8), (h3, aI cZ 80 f9), (h4, aI cI 160 f10), (h5, .inr (7, [.ref k9, .ref k10, .int i11]))] sz) := by
  refine Met.ofW (cc := cX8_clear) (maxL := 2) (ret := (some .int)) (by decide) rfl ?_
  intro p e s m args below meth c s₁ B hml hv
  obtain ⟨rfl, hsz, hP, hK, hD0, hN⟩ := hv
  have hx := B.exec
  have hb := B.bytes
  have hr := B.returns
  have hts : ∀ w ∈ xW, w.before _ s = true := fun w h => atoms_spec (ws := xw yX8_clear cX8_clear 2 (some .int)) B.pre w (List.mem_cons_of_mem _ h)
  have hown : s.vm.findClass RX8 = some m.cls := findClass_of_methodNamed B.named
  have hlocks := B.notSynchronized
  subst hsz
  have hD := hD0.self (sz := s.heap.size)
  clear hD0
  generalize hAe : va_A [(h0, .inr (8, [.ref h1, .ref h5, .ref k0, .ref k1, .ref k2, .ref k3, .ref k4, .ref k5, .ref k6, .ref k7, .ref k8, .int i0, .int i1, .int i2, .int i3, .int i4])), (h1, .inr (3, [.ref h4, .ref h3, .ref h2, .int i5, .int i6, .int i7])), (h2, aI cI 20 f8), (h3, aI cZ 80 f9), (h4, aI cI 160 f10), (h5, .inr (7, [.ref k9, .ref k10, .int i11]))] s.heap.size = A at hD ⊢
  have hA : ∀ q : Nat, s.heap.size ≤ q → A q := fun q h => by rw [← hAe]; exact Or.inr h
  clear hAe
  have hS : va_S A s.heap s.heap [] := va_S.rf
  replace hP : va_P G vwCl [(h0, .inr (8, [.ref h1, .ref h5, .ref k0, .ref k1, .ref k2, .ref k3, .ref k4, .ref k5, .ref k6, .ref k7, .ref k8, .int i0, .int i1, .int i2, .int i3, .int i4])), (h1, .inr (3, [.ref h4, .ref h3, .ref h2, .int i5, .int i6, .int i7])), (h2, aI cI 20 f8), (h3, aI cZ 80 f9), (h4, aI cI 160 f10), (h5, .inr (7, [.ref k9, .ref k10, .int i11]))] s.heap := hP
  have hl := lv_entry ([.ref h0]) (n := 2) (Nat.le_of_ble_eq_true rfl)
  rw [lg_entry_eq]
  generalize (lg_sl ([.ref h0]) ++ List.replicate (2 - (lg_sl ([.ref h0])).length) Slot.unset).toArray = ls at hl ⊢
  replace hl : lv_has ls 2 [(0, .ref h0)] := hl
  generalize hQQ : MQ below _ _ s 0 0 _ = QQ
  skip
  unfold wX8_clear at hwp
  refine lv_aload_n hx hb dX8_clear_0 rfl (lv_at hl 0 rfl) ?_
  refine va_get (D := G) (ci := 8) (v := .ref h1) (C := RX8) (T := TX8) (N := 16) hx hb hts xinX8 hown hK hP 0 rfl rfl 0 (by decide) (hts _ wo_204) (fun _ h9 => h9) rfl dX8_clear_1 ?_
  refine va_getN (D := G) (ci := 3) (v := .int i5) (C := RX3) (T := TX3) (N := 6) hx hb hts xinX3 hown hK hP 1 rfl rfl 3 (by decide) (va_Nw.use rfl (hN.1 ("PlaneTests", 81, "PlaneTests$Graph", "nodes", "I", "PlaneTests") (by decide +kernel))) (fun _ h9 => h9) rfl dX8_clear_4 ?_
  refine lv_istore_n (lv' := [(1, .int i5), (0, .ref h0)]) hx hb dX8_clear_7 rfl hl (by decide) rfl (fun ls hl => ?_)
  refine lv_aload_n hx hb dX8_clear_8 rfl (lv_at hl 1 rfl) ?_
  refine xcv (wr := [(h1, .inr (3, [.ref h4, .ref h3, .ref h2, .int i5, .int i6, .int i7])), (h2, aI cI 20 f8), (h3, aI cZ 80 f9), (h4, aI cI 160 f10), (h5, .inr (7, [.ref k9, .ref k10, .int i11]))]) (va_runV (As := []) (rest := []) ⟨hx, hb, hml, hown, hts⟩ (zX8_forget l G cI cJ cZ h0 h1 h5 k0 k1 k2 k3 k4 k5 k6 k7 k8 s.heap.size i0 i1 i2 i3 i4 _ hwp) (cwV 0 hts (xgoodV wo_205 wo_206 wo_207 wo_208 wo_49) rfl rfl rfl (by decide +kernel) ⟨Nat.le_of_ble_eq_true rfl, Nat.le_of_ble_eq_true rfl⟩) (xPreV (q := (RX8, TX8, 16)) (q0 := 0) hK hN hP hD [0] (by decide) rfl rfl rfl) rfl rfl hl.1 rfl (lv_room (Nat.le_of_ble_eq_true rfl)) dX8_clear_9 ⟨Nat.le_of_ble_eq_true rfl, Nat.le_of_ble_eq_true rfl⟩) hP hD hS hA [0] [1, 2, 3, 4, 5] rfl rfl (by decide) (by decide) (fun u9 H locs hwp hP hD hS => ?_)
  replace hP : va_P G vwCl [(h1, .inr (3, [.ref h4, .ref h3, .ref h2, .int i5, .int i6, .int i7])), (h2, aI cI 20 f8), (h3, aI cZ 80 f9), (h4, aI cI 160 f10), (h5, .inr (7, [.ref k9, .ref k10, .int i11])), (h0, .inr (8, [.ref h1, .ref h5, .ref k0, .ref k1, .ref k2, .ref k3, .ref k4, .ref k5, .ref k6, .ref k7, .ref k8, .int u9.1, .int i1, .int u9.2.1, .int u9.2.2.1, .int u9.2.2.2]))] H := hP
  replace hD : va_D A [(h1, .inr (3, [.ref h4, .ref h3, .ref h2, .int i5, .int i6, .int i7])), (h2, aI cI 20 f8), (h3, aI cZ 80 f9), (h4, aI cI 160 f10), (h5, .inr (7, [.ref k9, .ref k10, .int i11])), (h0, .inr (8, [.ref h1, .ref h5, .ref k0, .ref k1, .ref k2, .ref k3, .ref k4, .ref k5, .ref k6, .ref k7, .ref k8, .int u9.1, .int i1, .int u9.2.1, .int u9.2.2.1, .int u9.2.2.2]))] := hD
  refine lv_aload_n hx hb dX8_clear_12 rfl (lv_at hl 1 rfl) ?_
  refine va_get (D := G) (ci := 8) (v := .ref h1) (C := RX8) (T := TX8) (N := 16) hx hb hts xinX8 hown hK hP 5 rfl rfl 0 (by decide) (hts _ wo_204) (fun _ h9 => h9) rfl dX8_clear_13 ?_
  refine xcv (wr := [(h5, .inr (7, [.ref k9, .ref k10, .int i11])), (h0, .inr (8, [.ref h1, .ref h5, .ref k0, .ref k1, .ref k2, .ref k3, .ref k4, .ref k5, .ref k6, .ref k7, .ref k8, .int u9.1, .int i1, .int u9.2.1, .int u9.2.2.1, .int u9.2.2.2]))]) (va_runV (As := []) (rest := []) ⟨hx, hb, hml, hown, hts⟩ (zX3_empty l G cI cJ cZ h1 h2 h3 h4 H.size i5 i6 i7 f8 f9 f10 _ hwp) (cwV 0 hts (xgoodV wo_236 wo_237 wo_238 wo_239 wo_13) rfl rfl rfl (by decide +kernel) ⟨Nat.le_of_ble_eq_true rfl, Nat.le_of_ble_eq_true rfl⟩) (xPreV (q := (RX3, TX3, 6)) (q0 := 0) hK hN hP hD [0, 1, 2, 3] (by decide) rfl rfl rfl) rfl rfl hl.1 rfl (lv_room (Nat.le_of_ble_eq_true rfl)) dX8_clear_16 ⟨Nat.le_of_ble_eq_true rfl, Nat.le_of_ble_eq_true rfl⟩) hP hD hS hA [0, 1, 2, 3] [4, 5] rfl rfl (by decide) (by decide) (fun u16 H locs hwp hP hD hS => ?_)
  replace hP : va_P G vwCl [(h5, .inr (7, [.ref k9, .ref k10, .int i11])), (h0, .inr (8, [.ref h1, .ref h5, .ref k0, .ref k1, .ref k2, .ref k3, .ref k4, .ref k5, .ref k6, .ref k7, .ref k8, .int u9.1, .int i1, .int u9.2.1, .int u9.2.2.1, .int u9.2.2.2])), (h1, .inr (3, [.ref h4, .ref h3, .ref h2, .int u16.1, .int u16.2.1, .int u16.2.2.1])), (h2, aI cI 20 u16.2.2.2), (h3, aI cZ 80 f9), (h4, aI cI 160 f10)] H := hP
  replace hD : va_D A [(h5, .inr (7, [.ref k9, .ref k10, .int i11])), (h0, .inr (8, [.ref h1, .ref h5, .ref k0, .ref k1, .ref k2, .ref k3, .ref k4, .ref k5, .ref k6, .ref k7, .ref k8, .int u9.1, .int i1, .int u9.2.1, .int u9.2.2.1, .int u9.2.2.2])), (h1, .inr (3, [.ref h4, .ref h3, .ref h2, .int u16.1, .int u16.2.1, .int u16.2.2.1])), (h2, aI cI 20 u16.2.2.2), (h3, aI cZ 80 f9), (h4, aI cI 160 f10)] := hD
  refine lv_aload_n hx hb dX8_clear_19 rfl (lv_at hl 1 rfl) ?_
  refine va_get (D := G) (ci := 8) (v := .ref h5) (C := RX8) (T := TX8) (N := 16) hx hb hts xinX8 hown hK hP 1 rfl rfl 1 (by decide) (hts _ wo_209) (fun _ h9 => h9) rfl dX8_clear_20 ?_
  refine xcv (wr := [(h0, .inr (8, [.ref h1, .ref h5, .ref k0, .ref k1, .ref k2, .ref k3, .ref k4, .ref k5, .ref k6, .ref k7, .ref k8, .int u9.1, .int i1, .int u9.2.1, .int u9.2.2.1, .int u9.2.2.2])), (h1, .inr (3, [.ref h4, .ref h3, .ref h2, .int u16.1, .int u16.2.1, .int u16.2.2.1])), (h2, aI cI 20 u16.2.2.2), (h3, aI cZ 80 f9), (h4, aI cI 160 f10)]) (va_runV (As := []) (rest := []) ⟨hx, hb, hml, hown, hts⟩ (zX7_empty l G cI cJ cZ h5 k9 k10 H.size i11 _ hwp) (cwV 0 hts (xgoodV wo_240 wo_241 wo_242 wo_243 wo_28) rfl rfl rfl (by decide +kernel) ⟨Nat.le_of_ble_eq_true rfl, Nat.le_of_ble_eq_true rfl⟩) (xPreV (q := (RX7, TX7, 3)) (q0 := 0) hK hN hP hD [0] (by decide) rfl rfl rfl) rfl rfl hl.1 rfl (lv_room (Nat.le_of_ble_eq_true rfl)) dX8_clear_23 ⟨Nat.le_of_ble_eq_true rfl, Nat.le_of_ble_eq_true rfl⟩) hP hD hS hA [0] [1, 2, 3, 4, 5] rfl rfl (by decide) (by decide) (fun u23 H locs hwp hP hD hS => ?_)
  replace hP : va_P G vwCl [(h0, .inr (8, [.ref h1, .ref h5, .ref k0, .ref k1, .ref k2, .ref k3, .ref k4, .ref k5, .ref k6, .ref k7, .ref k8, .int u9.1, .int i1, .int u9.2.1, .int u9.2.2.1, .int u9.2.2.2])), (h1, .inr (3, [.ref h4, .ref h3, .ref h2, .int u16.1, .int u16.2.1, .int u16.2.2.1])), (h2, aI cI 20 u16.2.2.2), (h3, aI cZ 80 f9), (h4, aI cI 160 f10), (h5, .inr (7, [.ref k9, .ref k10, .int u23]))] H := hP
  replace hD : va_D A [(h0, .inr (8, [.ref h1, .ref h5, .ref k0, .ref k1, .ref k2, .ref k3, .ref k4, .ref k5, .ref k6, .ref k7, .ref k8, .int u9.1, .int i1, .int u9.2.1, .int u9.2.2.1, .int u9.2.2.2])), (h1, .inr (3, [.ref h4, .ref h3, .ref h2, .int u16.1, .int u16.2.1, .int u16.2.2.1])), (h2, aI cI 20 u16.2.2.2), (h3, aI cZ 80 f9), (h4, aI cI 160 f10), (h5, .inr (7, [.ref k9, .ref k10, .int u23]))] := hD
  refine lv_iload_n hx hb dX8_clear_26 rfl (lv_at hl 0 rfl) ?_
  have hP9 : va_P G vwCl [(h0, .inr (8, [.ref h1, .ref h5, .ref k0, .ref k1, .ref k2, .ref k3, .ref k4, .ref k5, .ref k6, .ref k7, .ref k8, .int u9.1, .int i1, .int u9.2.1, .int u9.2.2.1, .int u9.2.2.2])), (h1, .inr (3, [.ref h4, .ref h3, .ref h2, .int u16.1, .int u16.2.1, .int u16.2.2.1])), (h2, aI cI 20 u16.2.2.2), (h3, aI cZ 80 f9), (h4, aI cI 160 f10), (h5, .inr (7, [.ref k9, .ref k10, .int u23]))] H := hP.sub [0, 1, 2, 3, 4, 5] rfl
  have hD9 : va_D A [(h0, .inr (8, [.ref h1, .ref h5, .ref k0, .ref k1, .ref k2, .ref k3, .ref k4, .ref k5, .ref k6, .ref k7, .ref k8, .int u9.1, .int i1, .int u9.2.1, .int u9.2.2.1, .int u9.2.2.2])), (h1, .inr (3, [.ref h4, .ref h3, .ref h2, .int u16.1, .int u16.2.1, .int u16.2.2.1])), (h2, aI cI 20 u16.2.2.2), (h3, aI cZ 80 f9), (h4, aI cI 160 f10), (h5, .inr (7, [.ref k9, .ref k10, .int u23]))] := hD.sub [0, 1, 2, 3, 4, 5] (by decide) rfl
  rw [← hQQ]
  exact W.iret (v := i5) hx hb hr (fun t ht hW => ⟨⟨_, (u9.1, u9.2.1, u9.2.2.1, u9.2.2.2, u16.1, u16.2.1, u16.2.2.1, u16.2.2.2, u23), rfl, hwp, by rw [ht]; exact hP9, hD9⟩, hS.F ht⟩) hS.2.2 dX8_clear_27
def wLX2_isOf_12 (f1 : Nat → Int32) (f2 : Nat → Int32) (f3 : Nat → Int32) (p0 : Int32) (K : Int32 → Unit → Prop)  : Nat → Int32 → Prop
  | 0, _ => False
  | n12 + 1, t12_0 => ((p0 ≤ t12_0 → K (1 : Int32) ()) ∧ (¬ p0 ≤ t12_0 → (vp_in t12_0 20 ∧ (vp_in t12_0 20 ∧ ((¬ ((f1 (Int32.toNatClampNeg t12_0)) &&& ((f2 (Int32.toNatClampNeg t12_0)) ^^^ (-1))) = 0 → K (0 : Int32) ()) ∧ (((f1 (Int32.toNatClampNeg t12_0)) &&& ((f2 (Int32.toNatClampNeg t12_0)) ^^^ (-1))) = 0 → (vp_in t12_0 20 ∧ (vp_in t12_0 20 ∧ ((((f2 (Int32.toNatClampNeg t12_0)) &&& ((f3 (Int32.toNatClampNeg t12_0)) ^^^ (-1))) = 0 → (wLX2_isOf_12 f1 f2 f3 p0 K  n12) (t12_0 + 1)) ∧ (¬ ((f2 (Int32.toNatClampNeg t12_0)) &&& ((f3 (Int32.toNatClampNeg t12_0)) ^^^ (-1))) = 0 → K (0 : Int32) ()))))))))))
def wX2_isOf (i0 : Int32) (f1 : Nat → Int32) (f2 : Nat → Int32) (f3 : Nat → Int32) (p0 : Int32) (K : Int32 → Unit → Prop) : Prop := ((p0 = i0 → (∃ n12, wLX2_isOf_12 f1 f2 f3 p0 K  n12 0)) ∧ (¬ p0 = i0 → K (0 : Int32) ()))
set_option maxHeartbeats 4000000 in
set_option maxRecDepth 100000 in
theorem zX2_isOf (l : Launch) (G : va_G) (cI cJ cZ : ClassId) (h0 h1 h2 h3 sz : Nat) (i0 : Int32) (f1 : Nat → Int32) (f2 : Nat → Int32) (f3 : Nat → Int32) (p0 : Int32) (K : Int32 → Unit → Prop) (hwp : wX2_isOf i0 f1 f2 f3 p0 K) : Met l yX2_isOf (xw yX2_isOf cX2_isOf 4 (some .boolean)) ({ frames := 0, cells := 0, slots := 0, locals := 0 }) (xPc G cI cJ cZ [.ref h0, .ref h2, .int p0] [(h0, .inr (2, [.ref h1, .ref h3, .int i0])), (h1, aI cI 20 f1), (h2, aI cI 20 f2), (h3, aI cI 20 f3)] sz) (va_Qi (fun (r : Int32) (u : Unit) => K r u) (fun (u : Unit) t => xB G (va_A [(h0, .inr (2, [.ref h1, .ref h3, .int i0])), (h1, aI cI 20 f1), (h2, aI cI 20 f2), (h3, aI cI 20 f3)] sz) [(h0, .inr (2, [.ref h1, .ref h3, .int i0])), (h1, aI cI 20 f1), (h2, aI cI 20 f2), (h3, aI cI 20 f3)] t) (va_A [(h0, .inr (2, [.ref h1, .ref h3, .int i0])), (h1, aI cI 20 f1), (h2, aI cI 20 f2), (h3, aI cI 20 f3)] sz)) 0 0 (va_A [(h0, .inr (2, [.ref h1, .ref h3, .int i0])), (h1, aI cI 20 f1), (h2, aI cI 20 f2), (h3, aI cI 20 f3)] sz) := by
  refine Met.ofW (cc := cX2_isOf) (maxL := 4) (ret := (some .boolean)) (by decide) rfl ?_
  intro p e s m args below meth c s₁ B hml hv
  obtain ⟨rfl, hsz, hP, hK, hD0, hN⟩ := hv
  have hx := B.exec
  have hb := B.bytes
  have hr := B.returns
  have hts : ∀ w ∈ xW, w.before _ s = true := fun w h => atoms_spec (ws := xw yX2_isOf cX2_isOf 4 (some .boolean)) B.pre w (List.mem_cons_of_mem _ h)
  have hown : s.vm.findClass RX2 = some m.cls := findClass_of_methodNamed B.named
  have hlocks := B.notSynchronized
  subst hsz
  have hD := hD0.self (sz := s.heap.size)
  clear hD0
  generalize hAe : va_A [(h0, .inr (2, [.ref h1, .ref h3, .int i0])), (h1, aI cI 20 f1), (h2, aI cI 20 f2), (h3, aI cI 20 f3)] s.heap.size = A at hD ⊢
  have hA : ∀ q : Nat, s.heap.size ≤ q → A q := fun q h => by rw [← hAe]; exact Or.inr h
  clear hAe
  have hS : va_S A s.heap s.heap [] := va_S.rf
  replace hP : va_P G vwCl [(h0, .inr (2, [.ref h1, .ref h3, .int i0])), (h1, aI cI 20 f1), (h2, aI cI 20 f2), (h3, aI cI 20 f3)] s.heap := hP
  have hl := lv_entry ([.ref h0, .ref h2, .int p0]) (n := 4) (Nat.le_of_ble_eq_true rfl)
  rw [lg_entry_eq]
  generalize (lg_sl ([.ref h0, .ref h2, .int p0]) ++ List.replicate (4 - (lg_sl ([.ref h0, .ref h2, .int p0])).length) Slot.unset).toArray = ls at hl ⊢
  replace hl : lv_has ls 4 [(0, .ref h0), (1, .ref h2), (2, .int p0)] := hl
  generalize hQQ : MQ below _ _ s 0 0 _ = QQ
  skip
  unfold wX2_isOf at hwp
  refine lv_iload_n hx hb dX2_isOf_0 rfl (lv_at hl 2 rfl) ?_
  refine lv_aload_n hx hb dX2_isOf_1 rfl (lv_at hl 0 rfl) ?_
  refine va_get (D := G) (ci := 2) (v := .int i0) (C := RX2) (T := TX2) (N := 3) hx hb hts xinX2 hown hK hP 0 rfl rfl 2 (by decide) (hts _ wo_244) (fun _ h9 => h9) rfl dX2_isOf_2 ?_
  refine lv_icmp_eq (tgt := 10) hx hb dX2_isOf_5 (by decide) (fun c5 => ?_) (fun c5 => ?_)
  · replace hwp := hwp.1 c5
    refine lv_iconst (v := 0) hx hb dX2_isOf_10 (by decide) ?_
    refine lv_istore_n (lv' := [(3, .int 0), (0, .ref h0), (1, .ref h2), (2, .int p0)]) hx hb dX2_isOf_11 rfl hl (by decide) rfl (fun ls hl => ?_)
    refine xgen (Pp := fun H locs => W p l e _ s m _ below meth c H locs _ _ _ _) (fun H locs hP hD hS => ?_) hP hD hS
    replace hl : lv_has ls 4 [(3, .int 0), (0, .ref h0), (1, .ref h2), (2, .int p0)] := lv_sub hl [0, 1, 2, 3] rfl
    obtain ⟨n1, hwp⟩ := hwp
    have hs1 : ∀ (n1 : Nat) (H : Heap) (locs : List Loc) (ls : Array Slot) (t12_0 : Int32), wLX2_isOf_12 f1 f2 f3 p0 K  n1 t12_0 → va_P G vwCl [(h0, .inr (2, [.ref h1, .ref h3, .int i0])), (h1, aI cI 20 f1), (h2, aI cI 20 f2), (h3, aI cI 20 f3)] H → va_D A [(h0, .inr (2, [.ref h1, .ref h3, .int i0])), (h1, aI cI 20 f1), (h2, aI cI 20 f2), (h3, aI cI 20 f3)] → va_S A s.heap H locs → lv_has ls 4 [(3, .int t12_0), (0, .ref h0), (1, .ref h2), (2, .int p0)] → W p l e ((headSpec (xw yX2_isOf cX2_isOf 4 (some .boolean)) { frames := 0, cells := 0, slots := 0, locals := 0 }).room) s m ([.ref h0, .ref h2, .int p0] : List Value).toArray below meth c H locs 0 0 QQ (F0 m 12 ls []) := by
      intro n1
      induction n1 with
      | zero => intro H locs ls t12_0 hwp; exact False.elim hwp
      | succ n1 ih1 =>
        intro H locs ls t12_0 hwp hP hD hS hl
        rw [wLX2_isOf_12] at hwp
        refine lv_iload_n hx hb dX2_isOf_12 rfl (lv_at hl 0 rfl) ?_
        refine lv_iload_n hx hb dX2_isOf_13 rfl (lv_at hl 3 rfl) ?_
        refine lv_icmp_ge (tgt := 55) hx hb dX2_isOf_14 (by decide) (fun c14 => ?_) (fun c14 => ?_)
        · replace hwp := hwp.1 c14
          refine lv_iconst (v := 1) hx hb dX2_isOf_55 (by decide) ?_
          have hP9 : va_P G vwCl [(h0, .inr (2, [.ref h1, .ref h3, .int i0])), (h1, aI cI 20 f1), (h2, aI cI 20 f2), (h3, aI cI 20 f3)] H := hP.sub [0, 1, 2, 3] rfl
          have hD9 : va_D A [(h0, .inr (2, [.ref h1, .ref h3, .int i0])), (h1, aI cI 20 f1), (h2, aI cI 20 f2), (h3, aI cI 20 f3)] := hD.sub [0, 1, 2, 3] (by decide) rfl
          rw [← hQQ]
          exact W.zret (v := 1) hx hb hr rfl (fun t ht hW => ⟨⟨_, (), rfl, hwp, by rw [ht]; exact hP9, hD9⟩, hS.F ht⟩) hS.2.2 dX2_isOf_56
        · replace hwp := hwp.2 c14
          refine lv_aload_n hx hb dX2_isOf_17 rfl (lv_at hl 1 rfl) ?_
          refine va_get (D := G) (ci := 2) (v := .ref h1) (C := RX2) (T := TX2) (N := 3) hx hb hts xinX2 hown hK hP 0 rfl rfl 0 (by decide) (hts _ wo_245) (fun _ h9 => h9) rfl dX2_isOf_18 ?_
          refine lv_iload_n hx hb dX2_isOf_21 rfl (lv_at hl 0 rfl) ?_
          obtain ⟨hi, hwp⟩ := hwp
          refine va_iald hx hb hK hP 1 0 rfl rfl hi dX2_isOf_22 ?_
          refine lv_aload_n hx hb dX2_isOf_23 rfl (lv_at hl 2 rfl) ?_
          refine lv_iload_n hx hb dX2_isOf_24 rfl (lv_at hl 0 rfl) ?_
          obtain ⟨hi, hwp⟩ := hwp
          refine va_iald hx hb hK hP 2 0 rfl rfl hi dX2_isOf_25 ?_
          refine lv_iconst (v := (-1)) hx hb dX2_isOf_26 (by decide) ?_
          refine lv_ixor hx hb dX2_isOf_27 ?_
          refine lv_iand hx hb dX2_isOf_28 ?_
          refine lv_if_ne (tgt := 47) hx hb dX2_isOf_29 (by decide) (fun c29 => ?_) (fun c29 => ?_)
          · replace hwp := hwp.1 c29
            refine lv_iconst (v := 0) hx hb dX2_isOf_47 (by decide) ?_
            have hP9 : va_P G vwCl [(h0, .inr (2, [.ref h1, .ref h3, .int i0])), (h1, aI cI 20 f1), (h2, aI cI 20 f2), (h3, aI cI 20 f3)] H := hP.sub [0, 1, 2, 3] rfl
            have hD9 : va_D A [(h0, .inr (2, [.ref h1, .ref h3, .int i0])), (h1, aI cI 20 f1), (h2, aI cI 20 f2), (h3, aI cI 20 f3)] := hD.sub [0, 1, 2, 3] (by decide) rfl
            rw [← hQQ]
            exact W.zret (v := 0) hx hb hr rfl (fun t ht hW => ⟨⟨_, (), rfl, hwp, by rw [ht]; exact hP9, hD9⟩, hS.F ht⟩) hS.2.2 dX2_isOf_48
          · replace hwp := hwp.2 c29
            refine lv_aload_n hx hb dX2_isOf_32 rfl (lv_at hl 2 rfl) ?_
            refine lv_iload_n hx hb dX2_isOf_33 rfl (lv_at hl 0 rfl) ?_
            obtain ⟨hi, hwp⟩ := hwp
            refine va_iald hx hb hK hP 2 0 rfl rfl hi dX2_isOf_34 ?_
            refine lv_aload_n hx hb dX2_isOf_35 rfl (lv_at hl 1 rfl) ?_
            refine va_get (D := G) (ci := 2) (v := .ref h3) (C := RX2) (T := TX2) (N := 3) hx hb hts xinX2 hown hK hP 0 rfl rfl 1 (by decide) (hts _ wo_41) (fun _ h9 => h9) rfl dX2_isOf_36 ?_
            refine lv_iload_n hx hb dX2_isOf_39 rfl (lv_at hl 0 rfl) ?_
            obtain ⟨hi, hwp⟩ := hwp
            refine va_iald hx hb hK hP 3 0 rfl rfl hi dX2_isOf_40 ?_
            refine lv_iconst (v := (-1)) hx hb dX2_isOf_41 (by decide) ?_
            refine lv_ixor hx hb dX2_isOf_42 ?_
            refine lv_iand hx hb dX2_isOf_43 ?_
            refine lv_if_eq (tgt := 49) hx hb dX2_isOf_44 (by decide) (fun c44 => ?_) (fun c44 => ?_)
            · replace hwp := hwp.1 c44
              refine lv_iinc (v := (t12_0 + 1)) (lv' := [(3, .int (t12_0 + 1)), (0, .ref h0), (1, .ref h2), (2, .int p0)]) hx hb dX2_isOf_49 hl (k := 0) rfl rfl (by decide) rfl (fun ls hl => ?_)
              refine lv_goto (tgt := 12) hx hb dX2_isOf_52 (by decide) ?_
              replace hl : lv_has ls 4 [(3, .int (t12_0 + 1)), (0, .ref h0), (1, .ref h2), (2, .int p0)] := lv_sub hl [0, 1, 2, 3] rfl
              exact ih1 H locs ls (t12_0 + 1) hwp hP hD hS hl
            · replace hwp := hwp.2 c44
              refine lv_iconst (v := 0) hx hb dX2_isOf_47 (by decide) ?_
              have hP9 : va_P G vwCl [(h0, .inr (2, [.ref h1, .ref h3, .int i0])), (h1, aI cI 20 f1), (h2, aI cI 20 f2), (h3, aI cI 20 f3)] H := hP.sub [0, 1, 2, 3] rfl
              have hD9 : va_D A [(h0, .inr (2, [.ref h1, .ref h3, .int i0])), (h1, aI cI 20 f1), (h2, aI cI 20 f2), (h3, aI cI 20 f3)] := hD.sub [0, 1, 2, 3] (by decide) rfl
              rw [← hQQ]
              exact W.zret (v := 0) hx hb hr rfl (fun t ht hW => ⟨⟨_, (), rfl, hwp, by rw [ht]; exact hP9, hD9⟩, hS.F ht⟩) hS.2.2 dX2_isOf_48
    exact hs1 n1 H locs ls 0 hwp hP hD hS hl
  · replace hwp := hwp.2 c5
    refine lv_iconst (v := 0) hx hb dX2_isOf_8 (by decide) ?_
    have hP9 : va_P G vwCl [(h0, .inr (2, [.ref h1, .ref h3, .int i0])), (h1, aI cI 20 f1), (h2, aI cI 20 f2), (h3, aI cI 20 f3)] s.heap := hP.sub [0, 1, 2, 3] rfl
    have hD9 : va_D A [(h0, .inr (2, [.ref h1, .ref h3, .int i0])), (h1, aI cI 20 f1), (h2, aI cI 20 f2), (h3, aI cI 20 f3)] := hD.sub [0, 1, 2, 3] (by decide) rfl
    rw [← hQQ]
    exact W.zret (v := 0) hx hb hr rfl (fun t ht hW => ⟨⟨_, (), rfl, hwp, by rw [ht]; exact hP9, hD9⟩, hS.F ht⟩) hS.2.2 dX2_isOf_9
def wLJ7_fill_d0a16_6 (p0 : Int64) (K : ((Nat → Int64)) → Prop)  : Nat → (Nat → Int64) → Int32 → Prop
  | 0, _, _ => False
  | n6 + 1, t6_0, t6_1 => ((22 ≤ t6_1 → K t6_0) ∧ (¬ 22 ≤ t6_1 → (vp_in t6_1 22 ∧ (∀ g15 : Nat → Int64, g15 = vp_updL t6_0 (Int32.toNatClampNeg t6_1) p0 → (wLJ7_fill_d0a16_6 p0 K  n6) g15 (t6_1 + 1)))))
def wJ7_fill_d0a16 (f0 : Nat → Int64) (p0 : Int64) (K : ((Nat → Int64)) → Prop) : Prop := (∃ n6, wLJ7_fill_d0a16_6 p0 K  n6 f0 0)
set_option maxHeartbeats 4000000 in
set_option maxRecDepth 100000 in
theorem zJ7_fill_d0a16 (l : Launch) (G : va_G) (cI cJ cZ : ClassId) (h0 sz : Nat) (f0 : Nat → Int64) (p0 : Int64) (K : ((Nat → Int64)) → Prop) (hwp : wJ7_fill_d0a16 f0 p0 K) : Met l yJ7_fill_d0a16 (xw yJ7_fill_d0a16 cJ7_fill_d0a16 5 none) ({ frames := 0, cells := 0, slots := 0, locals := 0 }) (xPc G cI cJ cZ [.ref h0, .long p0] [(h0, aJ cJ 22 f0)] sz) (va_Qv (fun (u : (Nat → Int64)) => K u) (fun (u : (Nat → Int64)) t => xB G (va_A [(h0, aJ cJ 22 f0)] sz) [(h0, aJ cJ 22 u)] t) (va_A [(h0, aJ cJ 22 f0)] sz)) 0 0 (va_A [(h0, aJ cJ 22 f0)] sz) := by
  refine Met.ofW (cc := cJ7_fill_d0a16) (maxL := 5) (ret := none) (by decide) rfl ?_
  intro p e s m args below meth c s₁ B hml hv
  obtain ⟨rfl, hsz, hP, hK, hD0, hN⟩ := hv
  have hx := B.exec
  have hb := B.bytes
  have hr := B.returns
  have hts : ∀ w ∈ xW, w.before _ s = true := fun w h => atoms_spec (ws := xw yJ7_fill_d0a16 cJ7_fill_d0a16 5 none) B.pre w (List.mem_cons_of_mem _ h)
  have hown : s.vm.findClass RJ7 = some m.cls := findClass_of_methodNamed B.named
  have hlocks := B.notSynchronized
  subst hsz
  have hD := hD0.self (sz := s.heap.size)
  clear hD0
  generalize hAe : va_A [(h0, aJ cJ 22 f0)] s.heap.size = A at hD ⊢
  have hA : ∀ q : Nat, s.heap.size ≤ q → A q := fun q h => by rw [← hAe]; exact Or.inr h
  clear hAe
  have hS : va_S A s.heap s.heap [] := va_S.rf
  replace hP : va_P G vwCl [(h0, aJ cJ 22 f0)] s.heap := hP
  have hl := lv_entry ([.ref h0, .long p0]) (n := 5) (Nat.le_of_ble_eq_true rfl)
  rw [lg_entry_eq]
  generalize (lg_sl ([.ref h0, .long p0]) ++ List.replicate (5 - (lg_sl ([.ref h0, .long p0])).length) Slot.unset).toArray = ls at hl ⊢
  replace hl : lv_has ls 5 [(0, .ref h0), (1, .long p0)] := hl
  generalize hQQ : MQ below _ _ s 0 0 _ = QQ
  skip
  unfold wJ7_fill_d0a16 at hwp
  refine lv_iconst (v := 0) hx hb dJ7_fill_d0a16_0 (by decide) ?_
  refine lv_istore_n (lv' := [(3, .int 0), (0, .ref h0), (1, .long p0)]) hx hb dJ7_fill_d0a16_1 rfl hl (by decide) rfl (fun ls hl => ?_)
  refine lv_aload_n hx hb dJ7_fill_d0a16_2 rfl (lv_at hl 1 rfl) ?_
  refine va_alen (v := 22) hx hb hK hP 0 1 rfl rfl rfl dJ7_fill_d0a16_3 ?_
  refine lv_istore (lv' := [(4, .int 22), (3, .int 0), (0, .ref h0), (1, .long p0)]) hx hb dJ7_fill_d0a16_4 hl (by decide) rfl (fun ls hl => ?_)
  refine xgen (Pp := fun H locs => W p l e _ s m _ below meth c H locs _ _ _ _) (fun H locs hP hD hS => ?_) hP hD hS
  replace hl : lv_has ls 5 [(4, .int 22), (3, .int 0), (0, .ref h0), (1, .long p0)] := lv_sub hl [0, 1, 2, 3] rfl
  obtain ⟨n1, hwp⟩ := hwp
  have hs1 : ∀ (n1 : Nat) (H : Heap) (locs : List Loc) (ls : Array Slot) (t6_0 : Nat → Int64) (t6_1 : Int32), wLJ7_fill_d0a16_6 p0 K  n1 t6_0 t6_1 → va_P G vwCl [(h0, aJ cJ 22 t6_0)] H → va_D A [(h0, aJ cJ 22 t6_0)] → va_S A s.heap H locs → lv_has ls 5 [(4, .int 22), (3, .int t6_1), (0, .ref h0), (1, .long p0)] → W p l e ((headSpec (xw yJ7_fill_d0a16 cJ7_fill_d0a16 5 none) { frames := 0, cells := 0, slots := 0, locals := 0 }).room) s m ([.ref h0, .long p0] : List Value).toArray below meth c H locs 0 0 QQ (F0 m 6 ls []) := by
    intro n1
    induction n1 with
    | zero => intro H locs ls t6_0 t6_1 hwp; exact False.elim hwp
    | succ n1 ih1 =>
      intro H locs ls t6_0 t6_1 hwp hP hD hS hl
      rw [wLJ7_fill_d0a16_6] at hwp
      refine lv_iload_n hx hb dJ7_fill_d0a16_6 rfl (lv_at hl 1 rfl) ?_
      refine lv_iload hx hb dJ7_fill_d0a16_7 (lv_at hl 0 rfl) ?_
      refine lv_icmp_ge (tgt := 22) hx hb dJ7_fill_d0a16_9 (by decide) (fun c9 => ?_) (fun c9 => ?_)
      · replace hwp := hwp.1 c9
        have hP9 : va_P G vwCl [(h0, aJ cJ 22 t6_0)] H := hP.sub [0] rfl
        have hD9 : va_D A [(h0, aJ cJ 22 t6_0)] := hD.sub [0] (by decide) rfl
        rw [← hQQ]
        exact W.vret hx hb hr (fun t ht hW => ⟨⟨t6_0, rfl, hwp, by rw [ht]; exact hP9, hD9⟩, hS.F ht⟩) hS.2.2 dJ7_fill_d0a16_22
      · replace hwp := hwp.2 c9
        refine lv_aload_n hx hb dJ7_fill_d0a16_12 rfl (lv_at hl 2 rfl) ?_
        refine lv_iload_n hx hb dJ7_fill_d0a16_13 rfl (lv_at hl 1 rfl) ?_
        refine lv_lload_n hx hb dJ7_fill_d0a16_14 rfl (lv_at hl 3 rfl) ?_
        obtain ⟨hi, hwp⟩ := hwp
        refine va_last hx hb hK hP hD hS 0 1 rfl rfl hi dJ7_fill_d0a16_15 (fun H locs hP hD hS => ?_)
        obtain ⟨g15, eg15⟩ : ∃ z, z = vp_updL t6_0 (Int32.toNatClampNeg t6_1) p0 := ⟨_, rfl⟩
        replace hwp := hwp g15 eg15
        replace hP : va_P G vwCl [(h0, aJ cJ 22 g15)] H := by rw [eg15]; exact hP
        replace hD : va_D A [(h0, aJ cJ 22 g15)] := by rw [eg15]; exact hD
        clear eg15
        refine lv_iinc (v := (t6_1 + 1)) (lv' := [(3, .int (t6_1 + 1)), (4, .int 22), (0, .ref h0), (1, .long p0)]) hx hb dJ7_fill_d0a16_16 hl (k := 1) rfl rfl (by decide) rfl (fun ls hl => ?_)
        refine lv_goto (tgt := 6) hx hb dJ7_fill_d0a16_19 (by decide) ?_
        replace hl : lv_has ls 5 [(4, .int 22), (3, .int (t6_1 + 1)), (0, .ref h0), (1, .long p0)] := lv_sub hl [1, 0, 2, 3] rfl
        exact ih1 H locs ls g15 (t6_1 + 1) hwp hP hD hS hl
  exact hs1 n1 H locs ls f0 0 hwp hP hD hS hl
def wLX5_prepare_20 (f4 : Nat → Int32) (p0 : Int32) (u15 : (Nat → Int64)) (K : (Int32 × Int32 × (Nat → Int64) × (Nat → Int32) × (Nat → Int32) × (Nat → Int64) × (Nat → Int64)) → Prop)  : Nat → (Nat → Int32) → (Nat → Int32) → (Nat → Int64) → (Nat → Int64) → Int32 → Prop
  | 0, _, _, _, _, _ => False
  | n20 + 1, t20_0, t20_1, t20_2, t20_3, t20_4 => ((p0 ≤ t20_4 → K ((0 : Int32), (0 : Int32), u15, t20_0, t20_1, t20_2, t20_3)) ∧ (¬ p0 ≤ t20_4 → (vp_in t20_4 21 ∧ (∀ g31 : Nat → Int32, g31 = upd t20_0 (Int32.toNatClampNeg t20_4) (-1) → (vp_in t20_4 20 ∧ (vp_in t20_4 21 ∧ (∀ g40 : Nat → Int32, g40 = upd t20_1 (Int32.toNatClampNeg t20_4) (f4 (Int32.toNatClampNeg t20_4)) → (vp_in t20_4 21 ∧ (∀ g47 : Nat → Int64, g47 = vp_updL t20_2 (Int32.toNatClampNeg t20_4) (0 : Int64) → (vp_in t20_4 21 ∧ (∀ g54 : Nat → Int64, g54 = vp_updL t20_3 (Int32.toNatClampNeg t20_4) (0 : Int64) → (wLX5_prepare_20 f4 p0 u15 K  n20) g31 g40 g47 g54 (t20_4 + 1))))))))))))
def wX5_prepare (i0 : Int32) (i1 : Int32) (f2 : Nat → Int64) (f3 : Nat → Int32) (f4 : Nat → Int32) (f5 : Nat → Int32) (f6 : Nat → Int64) (f7 : Nat → Int64) (p0 : Int32) (K : (Int32 × Int32 × (Nat → Int64) × (Nat → Int32) × (Nat → Int32) × (Nat → Int64) × (Nat → Int64)) → Prop) : Prop := (wJ7_fill_d0a16 f2 ((0 : Int64) : Int64) (fun u15 => (∃ n20, wLX5_prepare_20 f4 p0 u15 K  n20 f3 f5 f6 f7 0)))
set_option maxHeartbeats 4000000 in
set_option maxRecDepth 100000 in
theorem zX5_prepare (l : Launch) (G : va_G) (cI cJ cZ : ClassId) (h0 h1 h2 h3 h4 h5 h6 k0 k1 k2 k3 k4 sz : Nat) (i0 : Int32) (i1 : Int32) (f2 : Nat → Int64) (f3 : Nat → Int32) (f4 : Nat → Int32) (f5 : Nat → Int32) (f6 : Nat → Int64) (f7 : Nat → Int64) (p0 : Int32) (K : (Int32 × Int32 × (Nat → Int64) × (Nat → Int32) × (Nat → Int32) × (Nat → Int64) × (Nat → Int64)) → Prop) (hwp : wX5_prepare i0 i1 f2 f3 f4 f5 f6 f7 p0 K) : Met l yX5_prepare (xw yX5_prepare cX5_prepare 4 none) ({ frames := 1, cells := 0, slots := 0, locals := 24 }) (xPc G cI cJ cZ [.ref h0, .ref h3, .int p0] [(h0, .inr (5, [.ref h2, .ref k0, .ref h4, .ref h5, .ref h6, .ref h1, .ref k1, .ref k2, .ref k3, .ref k4, .int i0, .int i1])), (h1, aJ cJ 22 f2), (h2, aI cI 21 f3), (h3, aI cI 20 f4), (h4, aI cI 21 f5), (h5, aJ cJ 21 f6), (h6, aJ cJ 21 f7)] sz) (va_Qv (fun (u : Int32 × Int32 × (Nat → Int64) × (Nat → Int32) × (Nat → Int32) × (Nat → Int64) × (Nat → Int64)) => K u) (fun (u : Int32 × Int32 × (Nat → Int64) × (Nat → Int32) × (Nat → Int32) × (Nat → Int64) × (Nat → Int64)) t => xB G (va_A [(h0, .inr (5, [.ref h2, .ref k0, .ref h4, .ref h5, .ref h6, .ref h1, .ref k1, .ref k2, .ref k3, .ref k4, .int i0, .int i1])), (h1, aJ cJ 22 f2), (h2, aI cI 21 f3), (h3, aI cI 20 f4), (h4, aI cI 21 f5), (h5, aJ cJ 21 f6), (h6, aJ cJ 21 f7)] sz) [(h0, .inr (5, [.ref h2, .ref k0, .ref h4, .ref h5, .ref h6, .ref h1, .ref k1, .ref k2, .ref k3, .ref k4, .int u.1, .int u.2.1])), (h1, aJ cJ 22 u.2.2.1), (h2, aI cI 21 u.2.2.2.1), (h3, aI cI 20 f4), (h4, aI cI 21 u.2.2.2.2.1), (h5, aJ cJ 21 u.2.2.2.2.2.1), (h6, aJ cJ 21 u.2.2.2.2.2.2)] t) (va_A [(h0, .inr (5, [.ref h2, .ref k0, .ref h4, .ref h5, .ref h6, .ref h1, .ref k1, .ref k2, .ref k3, .ref k4, .int i0, .int i1])), (h1, aJ cJ 22 f2), (h2, aI cI 21 f3), (h3, aI cI 20 f4), (h4, aI cI 21 f5), (h5, aJ cJ 21 f6), (h6, aJ cJ 21 f7)] sz)) 0 0 (va_A [(h0, .inr (5, [.ref h2, .ref k0, .ref h4, .ref h5, .ref h6, .ref h1, .ref k1, .ref k2, .ref k3, .ref k4, .int i0, .int i1])), (h1, aJ cJ 22 f2), (h2, aI cI 21 f3), (h3, aI cI 20 f4), (h4, aI cI 21 f5), (h5, aJ cJ 21 f6), (h6, aJ cJ 21 f7)] sz) := by
  refine Met.ofW (cc := cX5_prepare) (maxL := 4) (ret := none) (by decide) rfl ?_
  intro p e s m args below meth c s₁ B hml hv
  obtain ⟨rfl, hsz, hP, hK, hD0, hN⟩ := hv
  have hx := B.exec
  have hb := B.bytes
  have hr := B.returns
  have hts : ∀ w ∈ xW, w.before _ s = true := fun w h => atoms_spec (ws := xw yX5_prepare cX5_prepare 4 none) B.pre w (List.mem_cons_of_mem _ h)
  have hown : s.vm.findClass RX5 = some m.cls := findClass_of_methodNamed B.named
  have hlocks := B.notSynchronized
  subst hsz
  have hD := hD0.self (sz := s.heap.size)
  clear hD0
  generalize hAe : va_A [(h0, .inr (5, [.ref h2, .ref k0, .ref h4, .ref h5, .ref h6, .ref h1, .ref k1, .ref k2, .ref k3, .ref k4, .int i0, .int i1])), (h1, aJ cJ 22 f2), (h2, aI cI 21 f3), (h3, aI cI 20 f4), (h4, aI cI 21 f5), (h5, aJ cJ 21 f6), (h6, aJ cJ 21 f7)] s.heap.size = A at hD ⊢
  have hA : ∀ q : Nat, s.heap.size ≤ q → A q := fun q h => by rw [← hAe]; exact Or.inr h
  clear hAe
  have hS : va_S A s.heap s.heap [] := va_S.rf
  replace hP : va_P G vwCl [(h0, .inr (5, [.ref h2, .ref k0, .ref h4, .ref h5, .ref h6, .ref h1, .ref k1, .ref k2, .ref k3, .ref k4, .int i0, .int i1])), (h1, aJ cJ 22 f2), (h2, aI cI 21 f3), (h3, aI cI 20 f4), (h4, aI cI 21 f5), (h5, aJ cJ 21 f6), (h6, aJ cJ 21 f7)] s.heap := hP
  have hl := lv_entry ([.ref h0, .ref h3, .int p0]) (n := 4) (Nat.le_of_ble_eq_true rfl)
  rw [lg_entry_eq]
  generalize (lg_sl ([.ref h0, .ref h3, .int p0]) ++ List.replicate (4 - (lg_sl ([.ref h0, .ref h3, .int p0])).length) Slot.unset).toArray = ls at hl ⊢
  replace hl : lv_has ls 4 [(0, .ref h0), (1, .ref h3), (2, .int p0)] := hl
  generalize hQQ : MQ below _ _ s 0 0 _ = QQ
  skip
  unfold wX5_prepare at hwp
  refine lv_aload_n hx hb dX5_prepare_0 rfl (lv_at hl 0 rfl) ?_
  refine lv_iconst (v := 0) hx hb dX5_prepare_1 (by decide) ?_
  refine va_put (D := G) (ci := 5) (v := .int 0) (ty := .int) (C := RX5) (T := TX5) (N := 12) hx hb hts xinX5 tyX5 tyX5_ok nmX5 hown hK hP hD hS 0 rfl rfl 10 (by decide) (hts _ wo_96) (fun _ h9 => h9) rfl (by decide +kernel) rfl rfl (Nat.le_of_ble_eq_true rfl) dX5_prepare_2 (fun H locs hP hD hS => ?_)
  replace hP : va_P G vwCl [(h0, .inr (5, [.ref h2, .ref k0, .ref h4, .ref h5, .ref h6, .ref h1, .ref k1, .ref k2, .ref k3, .ref k4, .int 0, .int i1])), (h1, aJ cJ 22 f2), (h2, aI cI 21 f3), (h3, aI cI 20 f4), (h4, aI cI 21 f5), (h5, aJ cJ 21 f6), (h6, aJ cJ 21 f7)] H := hP
  replace hD : va_D A [(h0, .inr (5, [.ref h2, .ref k0, .ref h4, .ref h5, .ref h6, .ref h1, .ref k1, .ref k2, .ref k3, .ref k4, .int 0, .int i1])), (h1, aJ cJ 22 f2), (h2, aI cI 21 f3), (h3, aI cI 20 f4), (h4, aI cI 21 f5), (h5, aJ cJ 21 f6), (h6, aJ cJ 21 f7)] := hD
  refine lv_aload_n hx hb dX5_prepare_5 rfl (lv_at hl 0 rfl) ?_
  refine lv_iconst (v := 0) hx hb dX5_prepare_6 (by decide) ?_
  refine va_put (D := G) (ci := 5) (v := .int 0) (ty := .int) (C := RX5) (T := TX5) (N := 12) hx hb hts xinX5 tyX5 tyX5_ok nmX5 hown hK hP hD hS 0 rfl rfl 11 (by decide) (hts _ wo_118) (fun _ h9 => h9) rfl (by decide +kernel) rfl rfl (Nat.le_of_ble_eq_true rfl) dX5_prepare_7 (fun H locs hP hD hS => ?_)
  replace hP : va_P G vwCl [(h0, .inr (5, [.ref h2, .ref k0, .ref h4, .ref h5, .ref h6, .ref h1, .ref k1, .ref k2, .ref k3, .ref k4, .int 0, .int 0])), (h1, aJ cJ 22 f2), (h2, aI cI 21 f3), (h3, aI cI 20 f4), (h4, aI cI 21 f5), (h5, aJ cJ 21 f6), (h6, aJ cJ 21 f7)] H := hP
  replace hD : va_D A [(h0, .inr (5, [.ref h2, .ref k0, .ref h4, .ref h5, .ref h6, .ref h1, .ref k1, .ref k2, .ref k3, .ref k4, .int 0, .int 0])), (h1, aJ cJ 22 f2), (h2, aI cI 21 f3), (h3, aI cI 20 f4), (h4, aI cI 21 f5), (h5, aJ cJ 21 f6), (h6, aJ cJ 21 f7)] := hD
  refine lv_aload_n hx hb dX5_prepare_10 rfl (lv_at hl 0 rfl) ?_
  refine va_get (D := G) (ci := 5) (v := .ref h1) (C := RX5) (T := TX5) (N := 12) hx hb hts xinX5 hown hK hP 0 rfl rfl 5 (by decide) (hts _ wo_98) (fun _ h9 => h9) rfl dX5_prepare_11 ?_
  refine lv_lconst (v := 0) hx hb dX5_prepare_14 rfl ?_
  refine xcv (wr := [(h0, .inr (5, [.ref h2, .ref k0, .ref h4, .ref h5, .ref h6, .ref h1, .ref k1, .ref k2, .ref k3, .ref k4, .int 0, .int 0])), (h2, aI cI 21 f3), (h3, aI cI 20 f4), (h4, aI cI 21 f5), (h5, aJ cJ 21 f6), (h6, aJ cJ 21 f7)]) (va_runS (As := [.ref h1, .long (0 : Int64)]) (rest := []) ⟨hx, hb, hml, hown, hts⟩ (zJ7_fill_d0a16 l G cI cJ cZ h1 H.size f2 ((0 : Int64) : Int64) _ hwp) (va_cwS 2 hts (xgoodS wo_246 wo_247 wo_248 wo_7) rfl rfl rfl (by decide +kernel) ⟨Nat.le_of_ble_eq_true rfl, Nat.le_of_ble_eq_true rfl⟩) (xPreS hK hN hP hD [1] (by decide) rfl) rfl rfl hl.1 rfl (lv_room (Nat.le_of_ble_eq_true rfl)) dX5_prepare_15 ⟨Nat.le_of_ble_eq_true rfl, Nat.le_of_ble_eq_true rfl⟩) hP hD hS hA [1] [0, 2, 3, 4, 5, 6] rfl rfl (by decide) (by decide) (fun u15 H locs hwp hP hD hS => ?_)
  replace hP : va_P G vwCl [(h0, .inr (5, [.ref h2, .ref k0, .ref h4, .ref h5, .ref h6, .ref h1, .ref k1, .ref k2, .ref k3, .ref k4, .int 0, .int 0])), (h2, aI cI 21 f3), (h3, aI cI 20 f4), (h4, aI cI 21 f5), (h5, aJ cJ 21 f6), (h6, aJ cJ 21 f7), (h1, aJ cJ 22 u15)] H := hP
  replace hD : va_D A [(h0, .inr (5, [.ref h2, .ref k0, .ref h4, .ref h5, .ref h6, .ref h1, .ref k1, .ref k2, .ref k3, .ref k4, .int 0, .int 0])), (h2, aI cI 21 f3), (h3, aI cI 20 f4), (h4, aI cI 21 f5), (h5, aJ cJ 21 f6), (h6, aJ cJ 21 f7), (h1, aJ cJ 22 u15)] := hD
  refine lv_iconst (v := 0) hx hb dX5_prepare_18 (by decide) ?_
  refine lv_istore_n (lv' := [(3, .int 0), (0, .ref h0), (1, .ref h3), (2, .int p0)]) hx hb dX5_prepare_19 rfl hl (by decide) rfl (fun ls hl => ?_)
  replace hl : lv_has ls 4 [(3, .int 0), (0, .ref h0), (1, .ref h3), (2, .int p0)] := lv_sub hl [0, 1, 2, 3] rfl
  obtain ⟨n1, hwp⟩ := hwp
  have hs1 : ∀ (n1 : Nat) (H : Heap) (locs : List Loc) (ls : Array Slot) (t20_0 : Nat → Int32) (t20_1 : Nat → Int32) (t20_2 : Nat → Int64) (t20_3 : Nat → Int64) (t20_4 : Int32), wLX5_prepare_20 f4 p0 u15 K  n1 t20_0 t20_1 t20_2 t20_3 t20_4 → va_P G vwCl [(h0, .inr (5, [.ref h2, .ref k0, .ref h4, .ref h5, .ref h6, .ref h1, .ref k1, .ref k2, .ref k3, .ref k4, .int 0, .int 0])), (h2, aI cI 21 t20_0), (h3, aI cI 20 f4), (h4, aI cI 21 t20_1), (h5, aJ cJ 21 t20_2), (h6, aJ cJ 21 t20_3), (h1, aJ cJ 22 u15)] H → va_D A [(h0, .inr (5, [.ref h2, .ref k0, .ref h4, .ref h5, .ref h6, .ref h1, .ref k1, .ref k2, .ref k3, .ref k4, .int 0, .int 0])), (h2, aI cI 21 t20_0), (h3, aI cI 20 f4), (h4, aI cI 21 t20_1), (h5, aJ cJ 21 t20_2), (h6, aJ cJ 21 t20_3), (h1, aJ cJ 22 u15)] → va_S A s.heap H locs → lv_has ls 4 [(3, .int t20_4), (0, .ref h0), (1, .ref h3), (2, .int p0)] → W p l e ((headSpec (xw yX5_prepare cX5_prepare 4 none) { frames := 1, cells := 0, slots := 0, locals := 24 }).room) s m ([.ref h0, .ref h3, .int p0] : List Value).toArray below meth c H locs 0 0 QQ (F0 m 20 ls []) := by
    intro n1
    induction n1 with
    | zero => intro H locs ls t20_0 t20_1 t20_2 t20_3 t20_4 hwp; exact False.elim hwp
    | succ n1 ih1 =>
      intro H locs ls t20_0 t20_1 t20_2 t20_3 t20_4 hwp hP hD hS hl
      rw [wLX5_prepare_20] at hwp
      refine lv_iload_n hx hb dX5_prepare_20 rfl (lv_at hl 0 rfl) ?_
      refine lv_iload_n hx hb dX5_prepare_21 rfl (lv_at hl 3 rfl) ?_
      refine lv_icmp_ge (tgt := 61) hx hb dX5_prepare_22 (by decide) (fun c22 => ?_) (fun c22 => ?_)
      · replace hwp := hwp.1 c22
        have hP9 : va_P G vwCl [(h0, .inr (5, [.ref h2, .ref k0, .ref h4, .ref h5, .ref h6, .ref h1, .ref k1, .ref k2, .ref k3, .ref k4, .int 0, .int 0])), (h1, aJ cJ 22 u15), (h2, aI cI 21 t20_0), (h3, aI cI 20 f4), (h4, aI cI 21 t20_1), (h5, aJ cJ 21 t20_2), (h6, aJ cJ 21 t20_3)] H := hP.sub [0, 6, 1, 2, 3, 4, 5] rfl
        have hD9 : va_D A [(h0, .inr (5, [.ref h2, .ref k0, .ref h4, .ref h5, .ref h6, .ref h1, .ref k1, .ref k2, .ref k3, .ref k4, .int 0, .int 0])), (h1, aJ cJ 22 u15), (h2, aI cI 21 t20_0), (h3, aI cI 20 f4), (h4, aI cI 21 t20_1), (h5, aJ cJ 21 t20_2), (h6, aJ cJ 21 t20_3)] := hD.sub [0, 6, 1, 2, 3, 4, 5] (by decide) rfl
        rw [← hQQ]
        exact W.vret hx hb hr (fun t ht hW => ⟨⟨((0 : Int32), (0 : Int32), u15, t20_0, t20_1, t20_2, t20_3), rfl, hwp, by rw [ht]; exact hP9, hD9⟩, hS.F ht⟩) hS.2.2 dX5_prepare_61
      · replace hwp := hwp.2 c22
        refine lv_aload_n hx hb dX5_prepare_25 rfl (lv_at hl 1 rfl) ?_
        refine va_get (D := G) (ci := 5) (v := .ref h2) (C := RX5) (T := TX5) (N := 12) hx hb hts xinX5 hown hK hP 0 rfl rfl 0 (by decide) (hts _ wo_101) (fun _ h9 => h9) rfl dX5_prepare_26 ?_
        refine lv_iload_n hx hb dX5_prepare_29 rfl (lv_at hl 0 rfl) ?_
        refine lv_iconst (v := (-1)) hx hb dX5_prepare_30 (by decide) ?_
        obtain ⟨hi, hwp⟩ := hwp
        refine va_iast hx hb hK hP hD hS 1 0 rfl rfl hi dX5_prepare_31 (fun H locs hP hD hS => ?_)
        obtain ⟨g31, eg31⟩ : ∃ z, z = upd t20_0 (Int32.toNatClampNeg t20_4) (-1) := ⟨_, rfl⟩
        replace hwp := hwp g31 eg31
        replace hP : va_P G vwCl [(h0, .inr (5, [.ref h2, .ref k0, .ref h4, .ref h5, .ref h6, .ref h1, .ref k1, .ref k2, .ref k3, .ref k4, .int 0, .int 0])), (h2, aI cI 21 g31), (h3, aI cI 20 f4), (h4, aI cI 21 t20_1), (h5, aJ cJ 21 t20_2), (h6, aJ cJ 21 t20_3), (h1, aJ cJ 22 u15)] H := by rw [eg31]; exact hP
        replace hD : va_D A [(h0, .inr (5, [.ref h2, .ref k0, .ref h4, .ref h5, .ref h6, .ref h1, .ref k1, .ref k2, .ref k3, .ref k4, .int 0, .int 0])), (h2, aI cI 21 g31), (h3, aI cI 20 f4), (h4, aI cI 21 t20_1), (h5, aJ cJ 21 t20_2), (h6, aJ cJ 21 t20_3), (h1, aJ cJ 22 u15)] := by rw [eg31]; exact hD
        clear eg31
        refine lv_aload_n hx hb dX5_prepare_32 rfl (lv_at hl 1 rfl) ?_
        refine va_get (D := G) (ci := 5) (v := .ref h4) (C := RX5) (T := TX5) (N := 12) hx hb hts xinX5 hown hK hP 0 rfl rfl 2 (by decide) (hts _ wo_102) (fun _ h9 => h9) rfl dX5_prepare_33 ?_
        refine lv_iload_n hx hb dX5_prepare_36 rfl (lv_at hl 0 rfl) ?_
        refine lv_aload_n hx hb dX5_prepare_37 rfl (lv_at hl 2 rfl) ?_
        refine lv_iload_n hx hb dX5_prepare_38 rfl (lv_at hl 0 rfl) ?_
        obtain ⟨hi, hwp⟩ := hwp
        refine va_iald hx hb hK hP 2 0 rfl rfl hi dX5_prepare_39 ?_
        obtain ⟨hi, hwp⟩ := hwp
        refine va_iast hx hb hK hP hD hS 3 0 rfl rfl hi dX5_prepare_40 (fun H locs hP hD hS => ?_)
        obtain ⟨g40, eg40⟩ : ∃ z, z = upd t20_1 (Int32.toNatClampNeg t20_4) (f4 (Int32.toNatClampNeg t20_4)) := ⟨_, rfl⟩
        replace hwp := hwp g40 eg40
        replace hP : va_P G vwCl [(h0, .inr (5, [.ref h2, .ref k0, .ref h4, .ref h5, .ref h6, .ref h1, .ref k1, .ref k2, .ref k3, .ref k4, .int 0, .int 0])), (h2, aI cI 21 g31), (h3, aI cI 20 f4), (h4, aI cI 21 g40), (h5, aJ cJ 21 t20_2), (h6, aJ cJ 21 t20_3), (h1, aJ cJ 22 u15)] H := by rw [eg40]; exact hP
        replace hD : va_D A [(h0, .inr (5, [.ref h2, .ref k0, .ref h4, .ref h5, .ref h6, .ref h1, .ref k1, .ref k2, .ref k3, .ref k4, .int 0, .int 0])), (h2, aI cI 21 g31), (h3, aI cI 20 f4), (h4, aI cI 21 g40), (h5, aJ cJ 21 t20_2), (h6, aJ cJ 21 t20_3), (h1, aJ cJ 22 u15)] := by rw [eg40]; exact hD
        clear eg40
        refine lv_aload_n hx hb dX5_prepare_41 rfl (lv_at hl 1 rfl) ?_
        refine va_get (D := G) (ci := 5) (v := .ref h5) (C := RX5) (T := TX5) (N := 12) hx hb hts xinX5 hown hK hP 0 rfl rfl 3 (by decide) (hts _ wo_97) (fun _ h9 => h9) rfl dX5_prepare_42 ?_
        refine lv_iload_n hx hb dX5_prepare_45 rfl (lv_at hl 0 rfl) ?_
        refine lv_lconst (v := 0) hx hb dX5_prepare_46 rfl ?_
        obtain ⟨hi, hwp⟩ := hwp
        refine va_last hx hb hK hP hD hS 4 1 rfl rfl hi dX5_prepare_47 (fun H locs hP hD hS => ?_)
        obtain ⟨g47, eg47⟩ : ∃ z, z = vp_updL t20_2 (Int32.toNatClampNeg t20_4) (0 : Int64) := ⟨_, rfl⟩
        replace hwp := hwp g47 eg47
        replace hP : va_P G vwCl [(h0, .inr (5, [.ref h2, .ref k0, .ref h4, .ref h5, .ref h6, .ref h1, .ref k1, .ref k2, .ref k3, .ref k4, .int 0, .int 0])), (h2, aI cI 21 g31), (h3, aI cI 20 f4), (h4, aI cI 21 g40), (h5, aJ cJ 21 g47), (h6, aJ cJ 21 t20_3), (h1, aJ cJ 22 u15)] H := by rw [eg47]; exact hP
        replace hD : va_D A [(h0, .inr (5, [.ref h2, .ref k0, .ref h4, .ref h5, .ref h6, .ref h1, .ref k1, .ref k2, .ref k3, .ref k4, .int 0, .int 0])), (h2, aI cI 21 g31), (h3, aI cI 20 f4), (h4, aI cI 21 g40), (h5, aJ cJ 21 g47), (h6, aJ cJ 21 t20_3), (h1, aJ cJ 22 u15)] := by rw [eg47]; exact hD
        clear eg47
        refine lv_aload_n hx hb dX5_prepare_48 rfl (lv_at hl 1 rfl) ?_
        refine va_get (D := G) (ci := 5) (v := .ref h6) (C := RX5) (T := TX5) (N := 12) hx hb hts xinX5 hown hK hP 0 rfl rfl 4 (by decide) (hts _ wo_99) (fun _ h9 => h9) rfl dX5_prepare_49 ?_
        refine lv_iload_n hx hb dX5_prepare_52 rfl (lv_at hl 0 rfl) ?_
        refine lv_lconst (v := 0) hx hb dX5_prepare_53 rfl ?_
        obtain ⟨hi, hwp⟩ := hwp
        refine va_last hx hb hK hP hD hS 5 1 rfl rfl hi dX5_prepare_54 (fun H locs hP hD hS => ?_)
        obtain ⟨g54, eg54⟩ : ∃ z, z = vp_updL t20_3 (Int32.toNatClampNeg t20_4) (0 : Int64) := ⟨_, rfl⟩
        replace hwp := hwp g54 eg54
        replace hP : va_P G vwCl [(h0, .inr (5, [.ref h2, .ref k0, .ref h4, .ref h5, .ref h6, .ref h1, .ref k1, .ref k2, .ref k3, .ref k4, .int 0, .int 0])), (h2, aI cI 21 g31), (h3, aI cI 20 f4), (h4, aI cI 21 g40), (h5, aJ cJ 21 g47), (h6, aJ cJ 21 g54), (h1, aJ cJ 22 u15)] H := by rw [eg54]; exact hP
        replace hD : va_D A [(h0, .inr (5, [.ref h2, .ref k0, .ref h4, .ref h5, .ref h6, .ref h1, .ref k1, .ref k2, .ref k3, .ref k4, .int 0, .int 0])), (h2, aI cI 21 g31), (h3, aI cI 20 f4), (h4, aI cI 21 g40), (h5, aJ cJ 21 g47), (h6, aJ cJ 21 g54), (h1, aJ cJ 22 u15)] := by rw [eg54]; exact hD
        clear eg54
        refine lv_iinc (v := (t20_4 + 1)) (lv' := [(3, .int (t20_4 + 1)), (0, .ref h0), (1, .ref h3), (2, .int p0)]) hx hb dX5_prepare_55 hl (k := 0) rfl rfl (by decide) rfl (fun ls hl => ?_)
        refine lv_goto (tgt := 20) hx hb dX5_prepare_58 (by decide) ?_
        replace hl : lv_has ls 4 [(3, .int (t20_4 + 1)), (0, .ref h0), (1, .ref h3), (2, .int p0)] := lv_sub hl [0, 1, 2, 3] rfl
        exact ih1 H locs ls g31 g40 g47 g54 (t20_4 + 1) hwp hP hD hS hl
  exact hs1 n1 H locs ls f3 f5 f6 f7 0 hwp hP hD hS hl
def wLX5_accepts_122 (p0 : Int32) (t57_1 : Nat → Int32) (t57_2 : Nat → Int32) (t57_3 : Nat → Int64) (t57_4 : Nat → Int64) (t57_5 : Nat → Int32) (t57_6 : Int32) (t88_0 : Nat → Int64) (K : Int32 → (Int32 × Int32 × (Nat → Int64) × (Nat → Int32) × (Nat → Int32) × (Nat → Int64) × (Nat → Int64) × (Nat → Int32) × (Nat → Int64) × (Nat → Int32) × (Nat → Int64) × (Nat → Int64)) → Prop)  : Nat → (Nat → Int64) → (Nat → Int64) → (Nat → Int64) → (Nat → Int32) → Int32 → Int32 → Prop
  | 0, _, _, _, _, _, _ => False
  | n122 + 1, t122_0, t122_1, t122_2, t122_3, t122_4, t122_5 => ((p0 ≤ t122_5 → K (1 : Int32) (t57_6, t122_4, t88_0, t57_1, t57_2, t57_3, t57_4, t57_5, t122_2, t122_3, t122_0, t122_1)) ∧ (¬ p0 ≤ t122_5 → (wX5_findLeading t57_6 t122_4 t57_3 t57_5 t57_4 t57_1 t88_0 t122_2 t122_3 t122_5 p0 (fun r133 u133 => (wX5_sidesFit t57_6 t122_4 (u133.1) (u133.2) t88_0 t122_0 t122_1 r133 (fun r136 u136 => ((¬ r136 = 0 → (wLX5_accepts_122 p0 t57_1 t57_2 t57_3 t57_4 t57_5 t57_6 t88_0 K  n122) (u136.2.1) (u136.2.2) (u133.1) (u133.2) (u136.1) (t122_5 + 1)) ∧ (r136 = 0 → K (0 : Int32) (t57_6, u136.1, t88_0, t57_1, t57_2, t57_3, t57_4, t57_5, u133.1, u133.2, u136.2.1, u136.2.2)))))))))
def wLX5_accepts_88 (f9 : Nat → Int64) (f10 : Nat → Int32) (f11 : Nat → Int64) (f12 : Nat → Int64) (p0 : Int32) (u51 : Int32 × Int32 × (Nat → Int64) × (Nat → Int32) × (Nat → Int32) × (Nat → Int64) × (Nat → Int64)) (t57_1 : Nat → Int32) (t57_2 : Nat → Int32) (t57_3 : Nat → Int64) (t57_4 : Nat → Int64) (t57_5 : Nat → Int32) (t57_6 : Int32) (K : Int32 → (Int32 × Int32 × (Nat → Int64) × (Nat → Int32) × (Nat → Int32) × (Nat → Int64) × (Nat → Int64) × (Nat → Int32) × (Nat → Int64) × (Nat → Int32) × (Nat → Int64) × (Nat → Int64)) → Prop)  : Nat → (Nat → Int64) → Int32 → Prop
  | 0, _, _ => False
  | n88 + 1, t88_0, t88_1 => ((p0 < t88_1 → (∃ n122, wLX5_accepts_122 p0 t57_1 t57_2 t57_3 t57_4 t57_5 t57_6 t88_0 K  n122 f11 f12 f9 f10 (u51.2.1) 0)) ∧ (¬ p0 < t88_1 → (vp_in t88_1 22 ∧ (vp_in (t88_1 - 1) 22 ∧ (vp_in t88_1 22 ∧ (∀ g112 : Nat → Int64, g112 = vp_updL t88_0 (Int32.toNatClampNeg t88_1) ((t88_0 (Int32.toNatClampNeg t88_1)) ||| (t88_0 (Int32.toNatClampNeg (t88_1 - 1)))) → (wLX5_accepts_88 f9 f10 f11 f12 p0 u51 t57_1 t57_2 t57_3 t57_4 t57_5 t57_6 K  n88) g112 (t88_1 + 1)))))))
def wLX5_accepts_57 (f9 : Nat → Int64) (f10 : Nat → Int32) (f11 : Nat → Int64) (f12 : Nat → Int64) (p0 : Int32) (u51 : Int32 × Int32 × (Nat → Int64) × (Nat → Int32) × (Nat → Int32) × (Nat → Int64) × (Nat → Int64)) (K : Int32 → (Int32 × Int32 × (Nat → Int64) × (Nat → Int32) × (Nat → Int32) × (Nat → Int64) × (Nat → Int64) × (Nat → Int32) × (Nat → Int64) × (Nat → Int32) × (Nat → Int64) × (Nat → Int64)) → Prop)  : Nat → (Nat → Int64) → (Nat → Int32) → (Nat → Int32) → (Nat → Int64) → (Nat → Int64) → (Nat → Int32) → Int32 → Int32 → Prop
  | 0, _, _, _, _, _, _, _, _ => False
  | n57 + 1, t57_0, t57_1, t57_2, t57_3, t57_4, t57_5, t57_6, t57_7 => ((p0 ≤ t57_7 → (∃ n88, wLX5_accepts_88 f9 f10 f11 f12 p0 u51 t57_1 t57_2 t57_3 t57_4 t57_5 t57_6 K  n88 t57_0 1)) ∧ (¬ p0 ≤ t57_7 → (vp_in t57_7 21 ∧ ((0 ≤ (t57_1 (Int32.toNatClampNeg t57_7)) → (wLX5_accepts_57 f9 f10 f11 f12 p0 u51 K  n57) t57_0 t57_1 t57_2 t57_3 t57_4 t57_5 t57_6 (t57_7 + 1)) ∧ (¬ 0 ≤ (t57_1 (Int32.toNatClampNeg t57_7)) → (wX5_searchFrom t57_6 (u51.2.1) t57_1 t57_5 t57_2 t57_3 t57_0 t57_4 t57_7 (fun u76 => (wLX5_accepts_57 f9 f10 f11 f12 p0 u51 K  n57) (u76.2.2.2.2.2.1) (u76.2.1) (u76.2.2.2.1) (u76.2.2.2.2.1) (u76.2.2.2.2.2.2) (u76.2.2.1) (u76.1) (t57_7 + 1))))))))
def wLX5_accepts_12 (i0 : Int32) (i1 : Int32) (f2 : Nat → Int64) (f3 : Nat → Int32) (f4 : Nat → Int32) (f5 : Nat → Int32) (f6 : Nat → Int64) (f7 : Nat → Int64) (f8 : Nat → Int32) (f9 : Nat → Int64) (f10 : Nat → Int32) (f11 : Nat → Int64) (f12 : Nat → Int64) (p0 : Int32) (K : Int32 → (Int32 × Int32 × (Nat → Int64) × (Nat → Int32) × (Nat → Int32) × (Nat → Int64) × (Nat → Int64) × (Nat → Int32) × (Nat → Int64) × (Nat → Int32) × (Nat → Int64) × (Nat → Int64)) → Prop)  : Nat → Int32 → Int32 → Prop
  | 0, _, _ => False
  | n12 + 1, t12_0, t12_1 => ((p0 ≤ t12_1 → (((t12_0 / 2) ≤ (((3 : Int32) * p0) - 6) → (wX5_prepare i0 i1 f2 f3 f4 f5 f6 f7 p0 (fun u51 => (∃ n57, wLX5_accepts_57 f9 f10 f11 f12 p0 u51 K  n57 (u51.2.2.1) (u51.2.2.2.1) (u51.2.2.2.2.1) (u51.2.2.2.2.2.1) (u51.2.2.2.2.2.2) f8 (u51.1) 0)))) ∧ (¬ (t12_0 / 2) ≤ (((3 : Int32) * p0) - 6) → K (0 : Int32) (i0, i1, f2, f3, f5, f6, f7, f8, f9, f10, f11, f12)))) ∧ (¬ p0 ≤ t12_1 → (vp_in t12_1 20 ∧ (wJ6_bitCount_0f7a4 (f4 (Int32.toNatClampNeg t12_1)) (fun r23 _ => (∀ v27 : Int32, v27 = (t12_0 + r23) → (wLX5_accepts_12 i0 i1 f2 f3 f4 f5 f6 f7 f8 f9 f10 f11 f12 p0 K  n12) v27 (t12_1 + 1)))))))
def wX5_accepts (i0 : Int32) (i1 : Int32) (f2 : Nat → Int64) (f3 : Nat → Int32) (f4 : Nat → Int32) (f5 : Nat → Int32) (f6 : Nat → Int64) (f7 : Nat → Int64) (f8 : Nat → Int32) (f9 : Nat → Int64) (f10 : Nat → Int32) (f11 : Nat → Int64) (f12 : Nat → Int64) (p0 : Int32) (K : Int32 → (Int32 × Int32 × (Nat → Int64) × (Nat → Int32) × (Nat → Int32) × (Nat → Int64) × (Nat → Int64) × (Nat → Int32) × (Nat → Int64) × (Nat → Int32) × (Nat → Int64) × (Nat → Int64)) → Prop) : Prop := ((3 ≤ p0 → (∃ n12, wLX5_accepts_12 i0 i1 f2 f3 f4 f5 f6 f7 f8 f9 f10 f11 f12 p0 K  n12 0 0)) ∧ (¬ 3 ≤ p0 → K (1 : Int32) (i0, i1, f2, f3, f5, f6, f7, f8, f9, f10, f11, f12)))
set_option maxHeartbeats 4000000 in
set_option maxRecDepth 100000 in
theorem zX5_accepts (l : Launch) (G : va_G) (cI cJ cZ : ClassId) (h0 h1 h2 h3 h4 h5 h6 h7 h8 h9 h10 h11 sz : Nat) (i0 : Int32) (i1 : Int32) (f2 : Nat → Int64) (f3 : Nat → Int32) (f4 : Nat → Int32) (f5 : Nat → Int32) (f6 : Nat → Int64) (f7 : Nat → Int64) (f8 : Nat → Int32) (f9 : Nat → Int64) (f10 : Nat → Int32) (f11 : Nat → Int64) (f12 : Nat → Int64) (p0 : Int32) (K : Int32 → (Int32 × Int32 × (Nat → Int64) × (Nat → Int32) × (Nat → Int32) × (Nat → Int64) × (Nat → Int64) × (Nat → Int32) × (Nat → Int64) × (Nat → Int32) × (Nat → Int64) × (Nat → Int64)) → Prop) (hwp : wX5_accepts i0 i1 f2 f3 f4 f5 f6 f7 f8 f9 f10 f11 f12 p0 K) : Met l yX5_accepts (xw yX5_accepts cX5_accepts 5 (some .boolean)) ({ frames := 3, cells := 0, slots := 0, locals := 64 }) (xPc G cI cJ cZ [.ref h0, .ref h3, .int p0] [(h0, .inr (5, [.ref h2, .ref h7, .ref h4, .ref h5, .ref h6, .ref h1, .ref h8, .ref h9, .ref h10, .ref h11, .int i0, .int i1])), (h1, aJ cJ 22 f2), (h2, aI cI 21 f3), (h3, aI cI 20 f4), (h4, aI cI 21 f5), (h5, aJ cJ 21 f6), (h6, aJ cJ 21 f7), (h7, aI cI 21 f8), (h8, aJ cJ 21 f9), (h9, aI cI 21 f10), (h10, aJ cJ 58 f11), (h11, aJ cJ 58 f12)] sz) (va_Qi (fun (r : Int32) (u : Int32 × Int32 × (Nat → Int64) × (Nat → Int32) × (Nat → Int32) × (Nat → Int64) × (Nat → Int64) × (Nat → Int32) × (Nat → Int64) × (Nat → Int32) × (Nat → Int64) × (Nat → Int64)) => K r u) (fun (u : Int32 × Int32 × (Nat → Int64) × (Nat → Int32) × (Nat → Int32) × (Nat → Int64) × (Nat → Int64) × (Nat → Int32) × (Nat → Int64) × (Nat → Int32) × (Nat → Int64) × (Nat → Int64)) t => xB G (va_A [(h0, .inr (5, [.ref h2, .ref h7, .ref h4, .ref h5, .ref h6, .ref h1, .ref h8, .ref h9, .ref h10, .ref h11, .int i0, .int i1])), (h1, aJ cJ 22 f2), (h2, aI cI 21 f3), (h3, aI cI 20 f4), (h4, aI cI 21 f5), (h5, aJ cJ 21 f6), (h6, aJ cJ 21 f7), (h7, aI cI 21 f8), (h8, aJ cJ 21 f9), (h9, aI cI 21 f10), (h10, aJ cJ 58 f11), (h11, aJ cJ 58 f12)] sz) [(h0, .inr (5, [.ref h2, .ref h7, .ref h4, .ref h5, .ref h6, .ref h1, .ref h8, .ref h9, .ref h10, .ref h11, .int u.1, .int u.2.1])), (h1, aJ cJ 22 u.2.2.1), (h2, aI cI 21 u.2.2.2.1), (h3, aI cI 20 f4), (h4, aI cI 21 u.2.2.2.2.1), (h5, aJ cJ 21 u.2.2.2.2.2.1), (h6, aJ cJ 21 u.2.2.2.2.2.2.1), (h7, aI cI 21 u.2.2.2.2.2.2.2.1), (h8, aJ cJ 21 u.2.2.2.2.2.2.2.2.1), (h9, aI cI 21 u.2.2.2.2.2.2.2.2.2.1), (h10, aJ cJ 58 u.2.2.2.2.2.2.2.2.2.2.1), (h11, aJ cJ 58 u.2.2.2.2.2.2.2.2.2.2.2)] t) (va_A [(h0, .inr (5, [.ref h2, .ref h7, .ref h4, .ref h5, .ref h6, .ref h1, .ref h8, .ref h9, .ref h10, .ref h11, .int i0, .int i1])), (h1, aJ cJ 22 f2), (h2, aI cI 21 f3), (h3, aI cI 20 f4), (h4, aI cI 21 f5), (h5, aJ cJ 21 f6), (h6, aJ cJ 21 f7), (h7, aI cI 21 f8), (h8, aJ cJ 21 f9), (h9, aI cI 21 f10), (h10, aJ cJ 58 f11), (h11, aJ cJ 58 f12)] sz)) 0 0 (va_A [(h0, .inr (5, [.ref h2, .ref h7, .ref h4, .ref h5, .ref h6, .ref h1, .ref h8, .ref h9, .ref h10, .ref h11, .int i0, .int i1])), (h1, aJ cJ 22 f2), (h2, aI cI 21 f3), (h3, aI cI 20 f4), (h4, aI cI 21 f5), (h5, aJ cJ 21 f6), (h6, aJ cJ 21 f7), (h7, aI cI 21 f8), (h8, aJ cJ 21 f9), (h9, aI cI 21 f10), (h10, aJ cJ 58 f11), (h11, aJ cJ 58 f12)] sz) := by
  refine Met.ofW (cc := cX5_accepts) (maxL := 5) (ret := (some .boolean)) (by decide) rfl ?_
  intro p e s m args below meth c s₁ B hml hv
  obtain ⟨rfl, hsz, hP, hK, hD0, hN⟩ := hv
  have hx := B.exec
  have hb := B.bytes
  have hr := B.returns
  have hts : ∀ w ∈ xW, w.before _ s = true := fun w h => atoms_spec (ws := xw yX5_accepts cX5_accepts 5 (some .boolean)) B.pre w (List.mem_cons_of_mem _ h)
  have hown : s.vm.findClass RX5 = some m.cls := findClass_of_methodNamed B.named
  have hlocks := B.notSynchronized
  subst hsz
  have hD := hD0.self (sz := s.heap.size)
  clear hD0
  generalize hAe : va_A [(h0, .inr (5, [.ref h2, .ref h7, .ref h4, .ref h5, .ref h6, .ref h1, .ref h8, .ref h9, .ref h10, .ref h11, .int i0, .int i1])), (h1, aJ cJ 22 f2), (h2, aI cI 21 f3), (h3, aI cI 20 f4), (h4, aI cI 21 f5), (h5, aJ cJ 21 f6), (h6, aJ cJ 21 f7), (h7, aI cI 21 f8), (h8, aJ cJ 21 f9), (h9, aI cI 21 f10), (h10, aJ cJ 58 f11), (h11, aJ cJ 58 f12)] s.heap.size = A at hD ⊢
  have hA : ∀ q : Nat, s.heap.size ≤ q → A q := fun q h => by rw [← hAe]; exact Or.inr h
  clear hAe
  have hS : va_S A s.heap s.heap [] := va_S.rf
  replace hP : va_P G vwCl [(h0, .inr (5, [.ref h2, .ref h7, .ref h4, .ref h5, .ref h6, .ref h1, .ref h8, .ref h9, .ref h10, .ref h11, .int i0, .int i1])), (h1, aJ cJ 22 f2), (h2, aI cI 21 f3), (h3, aI cI 20 f4), (h4, aI cI 21 f5), (h5, aJ cJ 21 f6), (h6, aJ cJ 21 f7), (h7, aI cI 21 f8), (h8, aJ cJ 21 f9), (h9, aI cI 21 f10), (h10, aJ cJ 58 f11), (h11, aJ cJ 58 f12)] s.heap := hP
  have hl := lv_entry ([.ref h0, .ref h3, .int p0]) (n := 5) (Nat.le_of_ble_eq_true rfl)
  rw [lg_entry_eq]
  generalize (lg_sl ([.ref h0, .ref h3, .int p0]) ++ List.replicate (5 - (lg_sl ([.ref h0, .ref h3, .int p0])).length) Slot.unset).toArray = ls at hl ⊢
  replace hl : lv_has ls 5 [(0, .ref h0), (1, .ref h3), (2, .int p0)] := hl
  generalize hQQ : MQ below _ _ s 0 0 _ = QQ
  skip
  unfold wX5_accepts at hwp
  refine lv_iload_n hx hb dX5_accepts_0 rfl (lv_at hl 2 rfl) ?_
  refine lv_iconst (v := 3) hx hb dX5_accepts_1 (by decide) ?_
  refine lv_icmp_ge (tgt := 7) hx hb dX5_accepts_2 (by decide) (fun c2 => ?_) (fun c2 => ?_)
  · replace hwp := hwp.1 c2
    refine lv_iconst (v := 0) hx hb dX5_accepts_7 (by decide) ?_
    refine lv_istore_n (lv' := [(3, .int 0), (0, .ref h0), (1, .ref h3), (2, .int p0)]) hx hb dX5_accepts_8 rfl hl (by decide) rfl (fun ls hl => ?_)
    refine lv_iconst (v := 0) hx hb dX5_accepts_9 (by decide) ?_
    refine lv_istore (lv' := [(4, .int 0), (3, .int 0), (0, .ref h0), (1, .ref h3), (2, .int p0)]) hx hb dX5_accepts_10 hl (by decide) rfl (fun ls hl => ?_)
    refine xgen (Pp := fun H locs => W p l e _ s m _ below meth c H locs _ _ _ _) (fun H locs hP hD hS => ?_) hP hD hS
    replace hl : lv_has ls 5 [(4, .int 0), (3, .int 0), (0, .ref h0), (1, .ref h3), (2, .int p0)] := lv_sub hl [0, 1, 2, 3, 4] rfl
    obtain ⟨n1, hwp⟩ := hwp
    have hs1 : ∀ (n1 : Nat) (H : Heap) (locs : List Loc) (ls : Array Slot) (t12_0 : Int32) (t12_1 : Int32), wLX5_accepts_12 i0 i1 f2 f3 f4 f5 f6 f7 f8 f9 f10 f11 f12 p0 K  n1 t12_0 t12_1 → va_P G vwCl [(h0, .inr (5, [.ref h2, .ref h7, .ref h4, .ref h5, .ref h6, .ref h1, .ref h8, .ref h9, .ref h10, .ref h11, .int i0, .int i1])), (h1, aJ cJ 22 f2), (h2, aI cI 21 f3), (h3, aI cI 20 f4), (h4, aI cI 21 f5), (h5, aJ cJ 21 f6), (h6, aJ cJ 21 f7), (h7, aI cI 21 f8), (h8, aJ cJ 21 f9), (h9, aI cI 21 f10), (h10, aJ cJ 58 f11), (h11, aJ cJ 58 f12)] H → va_D A [(h0, .inr (5, [.ref h2, .ref h7, .ref h4, .ref h5, .ref h6, .ref h1, .ref h8, .ref h9, .ref h10, .ref h11, .int i0, .int i1])), (h1, aJ cJ 22 f2), (h2, aI cI 21 f3), (h3, aI cI 20 f4), (h4, aI cI 21 f5), (h5, aJ cJ 21 f6), (h6, aJ cJ 21 f7), (h7, aI cI 21 f8), (h8, aJ cJ 21 f9), (h9, aI cI 21 f10), (h10, aJ cJ 58 f11), (h11, aJ cJ 58 f12)] → va_S A s.heap H locs → lv_has ls 5 [(4, .int t12_1), (3, .int t12_0), (0, .ref h0), (1, .ref h3), (2, .int p0)] → W p l e ((headSpec (xw yX5_accepts cX5_accepts 5 (some .boolean)) { frames := 3, cells := 0, slots := 0, locals := 64 }).room) s m ([.ref h0, .ref h3, .int p0] : List Value).toArray below meth c H locs 0 0 QQ (F0 m 12 ls []) := by
      intro n1
      induction n1 with
      | zero => intro H locs ls t12_0 t12_1 hwp; exact False.elim hwp
      | succ n1 ih1 =>
        intro H locs ls t12_0 t12_1 hwp hP hD hS hl
        rw [wLX5_accepts_12] at hwp
        refine lv_iload hx hb dX5_accepts_12 (lv_at hl 0 rfl) ?_
        refine lv_iload_n hx hb dX5_accepts_14 rfl (lv_at hl 4 rfl) ?_
        refine lv_icmp_ge (tgt := 34) hx hb dX5_accepts_15 (by decide) (fun c15 => ?_) (fun c15 => ?_)
        · replace hwp := hwp.1 c15
          refine lv_iload_n hx hb dX5_accepts_34 rfl (lv_at hl 1 rfl) ?_
          refine lv_iconst (v := 2) hx hb dX5_accepts_35 (by decide) ?_
          refine lv_idiv hx hb dX5_accepts_36 (by decide) ?_
          refine lv_iconst (v := 3) hx hb dX5_accepts_37 (by decide) ?_
          refine lv_iload_n hx hb dX5_accepts_38 rfl (lv_at hl 4 rfl) ?_
          refine lv_imul hx hb dX5_accepts_39 ?_
          refine lv_bipush (v := 6) hx hb dX5_accepts_40 (by decide) ?_
          refine lv_isub hx hb dX5_accepts_42 ?_
          refine lv_icmp_le (tgt := 48) hx hb dX5_accepts_43 (by decide) (fun c43 => ?_) (fun c43 => ?_)
          · replace hwp := hwp.1 c43
            refine lv_aload_n hx hb dX5_accepts_48 rfl (lv_at hl 2 rfl) ?_
            refine lv_aload_n hx hb dX5_accepts_49 rfl (lv_at hl 3 rfl) ?_
            refine lv_iload_n hx hb dX5_accepts_50 rfl (lv_at hl 4 rfl) ?_
            refine xcv (wr := [(h7, aI cI 21 f8), (h8, aJ cJ 21 f9), (h9, aI cI 21 f10), (h10, aJ cJ 58 f11), (h11, aJ cJ 58 f12)]) (va_runV (As := [.ref h3, .int p0]) (rest := []) ⟨hx, hb, hml, hown, hts⟩ (zX5_prepare l G cI cJ cZ h0 h1 h2 h3 h4 h5 h6 h7 h8 h9 h10 h11 H.size i0 i1 f2 f3 f4 f5 f6 f7 p0 _ hwp) (cwV 2 hts (xgoodV wo_249 wo_250 wo_251 wo_252 wo_107) rfl rfl rfl (by decide +kernel) ⟨Nat.le_of_ble_eq_true rfl, Nat.le_of_ble_eq_true rfl⟩) (xPreV (q := (RX5, TX5, 12)) (q0 := 0) hK hN hP hD [0, 1, 2, 3, 4, 5, 6] (by decide) rfl rfl rfl) rfl rfl hl.1 rfl (lv_room (Nat.le_of_ble_eq_true rfl)) dX5_accepts_51 ⟨Nat.le_of_ble_eq_true rfl, Nat.le_of_ble_eq_true rfl⟩) hP hD hS hA [0, 1, 2, 3, 4, 5, 6] [7, 8, 9, 10, 11] rfl rfl (by decide) (by decide) (fun u51 H locs hwp hP hD hS => ?_)
            replace hP : va_P G vwCl [(h7, aI cI 21 f8), (h8, aJ cJ 21 f9), (h9, aI cI 21 f10), (h10, aJ cJ 58 f11), (h11, aJ cJ 58 f12), (h0, .inr (5, [.ref h2, .ref h7, .ref h4, .ref h5, .ref h6, .ref h1, .ref h8, .ref h9, .ref h10, .ref h11, .int u51.1, .int u51.2.1])), (h1, aJ cJ 22 u51.2.2.1), (h2, aI cI 21 u51.2.2.2.1), (h3, aI cI 20 f4), (h4, aI cI 21 u51.2.2.2.2.1), (h5, aJ cJ 21 u51.2.2.2.2.2.1), (h6, aJ cJ 21 u51.2.2.2.2.2.2)] H := hP
            replace hD : va_D A [(h7, aI cI 21 f8), (h8, aJ cJ 21 f9), (h9, aI cI 21 f10), (h10, aJ cJ 58 f11), (h11, aJ cJ 58 f12), (h0, .inr (5, [.ref h2, .ref h7, .ref h4, .ref h5, .ref h6, .ref h1, .ref h8, .ref h9, .ref h10, .ref h11, .int u51.1, .int u51.2.1])), (h1, aJ cJ 22 u51.2.2.1), (h2, aI cI 21 u51.2.2.2.1), (h3, aI cI 20 f4), (h4, aI cI 21 u51.2.2.2.2.1), (h5, aJ cJ 21 u51.2.2.2.2.2.1), (h6, aJ cJ 21 u51.2.2.2.2.2.2)] := hD
            refine lv_iconst (v := 0) hx hb dX5_accepts_54 (by decide) ?_
            refine lv_istore (lv' := [(4, .int 0), (3, .int t12_0), (0, .ref h0), (1, .ref h3), (2, .int p0)]) hx hb dX5_accepts_55 hl (by decide) rfl (fun ls hl => ?_)
            replace hl : lv_has ls 5 [(4, .int 0), (0, .ref h0), (2, .int p0)] := lv_sub hl [0, 2, 4] rfl
            obtain ⟨n2, hwp⟩ := hwp
            have hs2 : ∀ (n2 : Nat) (H : Heap) (locs : List Loc) (ls : Array Slot) (t57_0 : Nat → Int64) (t57_1 : Nat → Int32) (t57_2 : Nat → Int32) (t57_3 : Nat → Int64) (t57_4 : Nat → Int64) (t57_5 : Nat → Int32) (t57_6 : Int32) (t57_7 : Int32), wLX5_accepts_57 f9 f10 f11 f12 p0 u51 K  n2 t57_0 t57_1 t57_2 t57_3 t57_4 t57_5 t57_6 t57_7 → va_P G vwCl [(h7, aI cI 21 t57_5), (h8, aJ cJ 21 f9), (h9, aI cI 21 f10), (h10, aJ cJ 58 f11), (h11, aJ cJ 58 f12), (h0, .inr (5, [.ref h2, .ref h7, .ref h4, .ref h5, .ref h6, .ref h1, .ref h8, .ref h9, .ref h10, .ref h11, .int t57_6, .int u51.2.1])), (h1, aJ cJ 22 t57_0), (h2, aI cI 21 t57_1), (h3, aI cI 20 f4), (h4, aI cI 21 t57_2), (h5, aJ cJ 21 t57_3), (h6, aJ cJ 21 t57_4)] H → va_D A [(h7, aI cI 21 t57_5), (h8, aJ cJ 21 f9), (h9, aI cI 21 f10), (h10, aJ cJ 58 f11), (h11, aJ cJ 58 f12), (h0, .inr (5, [.ref h2, .ref h7, .ref h4, .ref h5, .ref h6, .ref h1, .ref h8, .ref h9, .ref h10, .ref h11, .int t57_6, .int u51.2.1])), (h1, aJ cJ 22 t57_0), (h2, aI cI 21 t57_1), (h3, aI cI 20 f4), (h4, aI cI 21 t57_2), (h5, aJ cJ 21 t57_3), (h6, aJ cJ 21 t57_4)] → va_S A s.heap H locs → lv_has ls 5 [(4, .int t57_7), (0, .ref h0), (2, .int p0)] → W p l e ((headSpec (xw yX5_accepts cX5_accepts 5 (some .boolean)) { frames := 3, cells := 0, slots := 0, locals := 64 }).room) s m ([.ref h0, .ref h3, .int p0] : List Value).toArray below meth c H locs 0 0 QQ (F0 m 57 ls []) := by
              intro n2
              induction n2 with
              | zero => intro H locs ls t57_0 t57_1 t57_2 t57_3 t57_4 t57_5 t57_6 t57_7 hwp; exact False.elim hwp
              | succ n2 ih2 =>
                intro H locs ls t57_0 t57_1 t57_2 t57_3 t57_4 t57_5 t57_6 t57_7 hwp hP hD hS hl
                rw [wLX5_accepts_57] at hwp
                refine lv_iload hx hb dX5_accepts_57 (lv_at hl 0 rfl) ?_
                refine lv_iload_n hx hb dX5_accepts_59 rfl (lv_at hl 2 rfl) ?_
                refine lv_icmp_ge (tgt := 85) hx hb dX5_accepts_60 (by decide) (fun c60 => ?_) (fun c60 => ?_)
                · replace hwp := hwp.1 c60
                  refine lv_iconst (v := 1) hx hb dX5_accepts_85 (by decide) ?_
                  refine lv_istore (lv' := [(4, .int 1), (0, .ref h0), (2, .int p0)]) hx hb dX5_accepts_86 hl (by decide) rfl (fun ls hl => ?_)
                  replace hl : lv_has ls 5 [(4, .int 1), (0, .ref h0), (2, .int p0)] := lv_sub hl [0, 1, 2] rfl
                  obtain ⟨n3, hwp⟩ := hwp
                  have hs3 : ∀ (n3 : Nat) (H : Heap) (locs : List Loc) (ls : Array Slot) (t88_0 : Nat → Int64) (t88_1 : Int32), wLX5_accepts_88 f9 f10 f11 f12 p0 u51 t57_1 t57_2 t57_3 t57_4 t57_5 t57_6 K  n3 t88_0 t88_1 → va_P G vwCl [(h7, aI cI 21 t57_5), (h8, aJ cJ 21 f9), (h9, aI cI 21 f10), (h10, aJ cJ 58 f11), (h11, aJ cJ 58 f12), (h0, .inr (5, [.ref h2, .ref h7, .ref h4, .ref h5, .ref h6, .ref h1, .ref h8, .ref h9, .ref h10, .ref h11, .int t57_6, .int u51.2.1])), (h1, aJ cJ 22 t88_0), (h2, aI cI 21 t57_1), (h3, aI cI 20 f4), (h4, aI cI 21 t57_2), (h5, aJ cJ 21 t57_3), (h6, aJ cJ 21 t57_4)] H → va_D A [(h7, aI cI 21 t57_5), (h8, aJ cJ 21 f9), (h9, aI cI 21 f10), (h10, aJ cJ 58 f11), (h11, aJ cJ 58 f12), (h0, .inr (5, [.ref h2, .ref h7, .ref h4, .ref h5, .ref h6, .ref h1, .ref h8, .ref h9, .ref h10, .ref h11, .int t57_6, .int u51.2.1])), (h1, aJ cJ 22 t88_0), (h2, aI cI 21 t57_1), (h3, aI cI 20 f4), (h4, aI cI 21 t57_2), (h5, aJ cJ 21 t57_3), (h6, aJ cJ 21 t57_4)] → va_S A s.heap H locs → lv_has ls 5 [(4, .int t88_1), (0, .ref h0), (2, .int p0)] → W p l e ((headSpec (xw yX5_accepts cX5_accepts 5 (some .boolean)) { frames := 3, cells := 0, slots := 0, locals := 64 }).room) s m ([.ref h0, .ref h3, .int p0] : List Value).toArray below meth c H locs 0 0 QQ (F0 m 88 ls []) := by
                    intro n3
                    induction n3 with
                    | zero => intro H locs ls t88_0 t88_1 hwp; exact False.elim hwp
                    | succ n3 ih3 =>
                      intro H locs ls t88_0 t88_1 hwp hP hD hS hl
                      rw [wLX5_accepts_88] at hwp
                      refine lv_iload hx hb dX5_accepts_88 (lv_at hl 0 rfl) ?_
                      refine lv_iload_n hx hb dX5_accepts_90 rfl (lv_at hl 2 rfl) ?_
                      refine lv_icmp_gt (tgt := 119) hx hb dX5_accepts_91 (by decide) (fun c91 => ?_) (fun c91 => ?_)
                      · replace hwp := hwp.1 c91
                        refine lv_iconst (v := 0) hx hb dX5_accepts_119 (by decide) ?_
                        refine lv_istore (lv' := [(4, .int 0), (0, .ref h0), (2, .int p0)]) hx hb dX5_accepts_120 hl (by decide) rfl (fun ls hl => ?_)
                        replace hl : lv_has ls 5 [(4, .int 0), (0, .ref h0), (2, .int p0)] := lv_sub hl [0, 1, 2] rfl
                        obtain ⟨n4, hwp⟩ := hwp
                        have hs4 : ∀ (n4 : Nat) (H : Heap) (locs : List Loc) (ls : Array Slot) (t122_0 : Nat → Int64) (t122_1 : Nat → Int64) (t122_2 : Nat → Int64) (t122_3 : Nat → Int32) (t122_4 : Int32) (t122_5 : Int32), wLX5_accepts_122 p0 t57_1 t57_2 t57_3 t57_4 t57_5 t57_6 t88_0 K  n4 t122_0 t122_1 t122_2 t122_3 t122_4 t122_5 → va_P G vwCl [(h7, aI cI 21 t57_5), (h8, aJ cJ 21 t122_2), (h9, aI cI 21 t122_3), (h10, aJ cJ 58 t122_0), (h11, aJ cJ 58 t122_1), (h0, .inr (5, [.ref h2, .ref h7, .ref h4, .ref h5, .ref h6, .ref h1, .ref h8, .ref h9, .ref h10, .ref h11, .int t57_6, .int t122_4])), (h1, aJ cJ 22 t88_0), (h2, aI cI 21 t57_1), (h3, aI cI 20 f4), (h4, aI cI 21 t57_2), (h5, aJ cJ 21 t57_3), (h6, aJ cJ 21 t57_4)] H → va_D A [(h7, aI cI 21 t57_5), (h8, aJ cJ 21 t122_2), (h9, aI cI 21 t122_3), (h10, aJ cJ 58 t122_0), (h11, aJ cJ 58 t122_1), (h0, .inr (5, [.ref h2, .ref h7, .ref h4, .ref h5, .ref h6, .ref h1, .ref h8, .ref h9, .ref h10, .ref h11, .int t57_6, .int t122_4])), (h1, aJ cJ 22 t88_0), (h2, aI cI 21 t57_1), (h3, aI cI 20 f4), (h4, aI cI 21 t57_2), (h5, aJ cJ 21 t57_3), (h6, aJ cJ 21 t57_4)] → va_S A s.heap H locs → lv_has ls 5 [(4, .int t122_5), (0, .ref h0), (2, .int p0)] → W p l e ((headSpec (xw yX5_accepts cX5_accepts 5 (some .boolean)) { frames := 3, cells := 0, slots := 0, locals := 64 }).room) s m ([.ref h0, .ref h3, .int p0] : List Value).toArray below meth c H locs 0 0 QQ (F0 m 122 ls []) := by
                          intro n4
                          induction n4 with
                          | zero => intro H locs ls t122_0 t122_1 t122_2 t122_3 t122_4 t122_5 hwp; exact False.elim hwp
                          | succ n4 ih4 =>
                            intro H locs ls t122_0 t122_1 t122_2 t122_3 t122_4 t122_5 hwp hP hD hS hl
                            rw [wLX5_accepts_122] at hwp
                            refine lv_iload hx hb dX5_accepts_122 (lv_at hl 0 rfl) ?_
                            refine lv_iload_n hx hb dX5_accepts_124 rfl (lv_at hl 2 rfl) ?_
                            refine lv_icmp_ge (tgt := 150) hx hb dX5_accepts_125 (by decide) (fun c125 => ?_) (fun c125 => ?_)
                            · replace hwp := hwp.1 c125
                              refine lv_iconst (v := 1) hx hb dX5_accepts_150 (by decide) ?_
                              have hP9 : va_P G vwCl [(h0, .inr (5, [.ref h2, .ref h7, .ref h4, .ref h5, .ref h6, .ref h1, .ref h8, .ref h9, .ref h10, .ref h11, .int t57_6, .int t122_4])), (h1, aJ cJ 22 t88_0), (h2, aI cI 21 t57_1), (h3, aI cI 20 f4), (h4, aI cI 21 t57_2), (h5, aJ cJ 21 t57_3), (h6, aJ cJ 21 t57_4), (h7, aI cI 21 t57_5), (h8, aJ cJ 21 t122_2), (h9, aI cI 21 t122_3), (h10, aJ cJ 58 t122_0), (h11, aJ cJ 58 t122_1)] H := hP.sub [5, 6, 7, 8, 9, 10, 11, 0, 1, 2, 3, 4] rfl
                              have hD9 : va_D A [(h0, .inr (5, [.ref h2, .ref h7, .ref h4, .ref h5, .ref h6, .ref h1, .ref h8, .ref h9, .ref h10, .ref h11, .int t57_6, .int t122_4])), (h1, aJ cJ 22 t88_0), (h2, aI cI 21 t57_1), (h3, aI cI 20 f4), (h4, aI cI 21 t57_2), (h5, aJ cJ 21 t57_3), (h6, aJ cJ 21 t57_4), (h7, aI cI 21 t57_5), (h8, aJ cJ 21 t122_2), (h9, aI cI 21 t122_3), (h10, aJ cJ 58 t122_0), (h11, aJ cJ 58 t122_1)] := hD.sub [5, 6, 7, 8, 9, 10, 11, 0, 1, 2, 3, 4] (by decide) rfl
                              rw [← hQQ]
                              exact W.zret (v := 1) hx hb hr rfl (fun t ht hW => ⟨⟨_, (t57_6, t122_4, t88_0, t57_1, t57_2, t57_3, t57_4, t57_5, t122_2, t122_3, t122_0, t122_1), rfl, hwp, by rw [ht]; exact hP9, hD9⟩, hS.F ht⟩) hS.2.2 dX5_accepts_151
                            · replace hwp := hwp.2 c125
                              refine lv_aload_n hx hb dX5_accepts_128 rfl (lv_at hl 1 rfl) ?_
                              refine lv_aload_n hx hb dX5_accepts_129 rfl (lv_at hl 1 rfl) ?_
                              refine lv_iload hx hb dX5_accepts_130 (lv_at hl 0 rfl) ?_
                              refine lv_iload_n hx hb dX5_accepts_132 rfl (lv_at hl 2 rfl) ?_
                              refine xci (wr := [(h10, aJ cJ 58 t122_0), (h11, aJ cJ 58 t122_1), (h3, aI cI 20 f4), (h4, aI cI 21 t57_2)]) (va_runV (As := [.int t122_5, .int p0]) (rest := [.ref h0]) ⟨hx, hb, hml, hown, hts⟩ (zX5_findLeading l G cI cJ cZ h0 h5 h7 h6 h2 h1 h8 h9 h4 h10 h11 H.size t57_6 t122_4 t57_3 t57_5 t57_4 t57_1 t88_0 t122_2 t122_3 t122_5 p0 _ hwp) (cwV 2 hts (xgoodV wo_253 wo_254 wo_255 wo_256 wo_107) rfl rfl rfl (by decide +kernel) ⟨Nat.le_of_ble_eq_true rfl, Nat.le_of_ble_eq_true rfl⟩) (xPreV (q := (RX5, TX5, 12)) (q0 := 5) hK hN hP hD [5, 10, 0, 11, 7, 6, 1, 2] (by decide) rfl rfl rfl) rfl rfl hl.1 rfl (lv_room (Nat.le_of_ble_eq_true rfl)) dX5_accepts_133 ⟨Nat.le_of_ble_eq_true rfl, Nat.le_of_ble_eq_true rfl⟩) hP hD hS hA [5, 10, 0, 11, 7, 6, 1, 2] [3, 4, 8, 9] rfl rfl (by decide) (by decide) (fun r133 u133 H locs hwp hP hD hS => ?_)
                              replace hP : va_P G vwCl [(h10, aJ cJ 58 t122_0), (h11, aJ cJ 58 t122_1), (h3, aI cI 20 f4), (h4, aI cI 21 t57_2), (h0, .inr (5, [.ref h2, .ref h7, .ref h4, .ref h5, .ref h6, .ref h1, .ref h8, .ref h9, .ref h10, .ref h11, .int t57_6, .int t122_4])), (h5, aJ cJ 21 t57_3), (h7, aI cI 21 t57_5), (h6, aJ cJ 21 t57_4), (h2, aI cI 21 t57_1), (h1, aJ cJ 22 t88_0), (h8, aJ cJ 21 u133.1), (h9, aI cI 21 u133.2)] H := hP
                              replace hD : va_D A [(h10, aJ cJ 58 t122_0), (h11, aJ cJ 58 t122_1), (h3, aI cI 20 f4), (h4, aI cI 21 t57_2), (h0, .inr (5, [.ref h2, .ref h7, .ref h4, .ref h5, .ref h6, .ref h1, .ref h8, .ref h9, .ref h10, .ref h11, .int t57_6, .int t122_4])), (h5, aJ cJ 21 t57_3), (h7, aI cI 21 t57_5), (h6, aJ cJ 21 t57_4), (h2, aI cI 21 t57_1), (h1, aJ cJ 22 t88_0), (h8, aJ cJ 21 u133.1), (h9, aI cI 21 u133.2)] := hD
                              refine xci (wr := [(h3, aI cI 20 f4), (h4, aI cI 21 t57_2), (h5, aJ cJ 21 t57_3), (h7, aI cI 21 t57_5), (h6, aJ cJ 21 t57_4), (h2, aI cI 21 t57_1)]) (va_runV (As := [.int r133]) (rest := []) ⟨hx, hb, hml, hown, hts⟩ (zX5_sidesFit l G cI cJ cZ h0 h8 h9 h1 h10 h11 h2 h7 h4 h5 h6 H.size t57_6 t122_4 (u133.1) (u133.2) t88_0 t122_0 t122_1 r133 _ hwp) (cwV 1 hts (xgoodV wo_257 wo_258 wo_259 wo_260 wo_107) rfl rfl rfl (by decide +kernel) ⟨Nat.le_of_ble_eq_true rfl, Nat.le_of_ble_eq_true rfl⟩) (xPreV (q := (RX5, TX5, 12)) (q0 := 4) hK hN hP hD [4, 10, 11, 9, 0, 1] (by decide) rfl rfl rfl) rfl rfl hl.1 rfl (lv_room (Nat.le_of_ble_eq_true rfl)) dX5_accepts_136 ⟨Nat.le_of_ble_eq_true rfl, Nat.le_of_ble_eq_true rfl⟩) hP hD hS hA [4, 10, 11, 9, 0, 1] [2, 3, 5, 6, 7, 8] rfl rfl (by decide) (by decide) (fun r136 u136 H locs hwp hP hD hS => ?_)
                              replace hP : va_P G vwCl [(h3, aI cI 20 f4), (h4, aI cI 21 t57_2), (h5, aJ cJ 21 t57_3), (h7, aI cI 21 t57_5), (h6, aJ cJ 21 t57_4), (h2, aI cI 21 t57_1), (h0, .inr (5, [.ref h2, .ref h7, .ref h4, .ref h5, .ref h6, .ref h1, .ref h8, .ref h9, .ref h10, .ref h11, .int t57_6, .int u136.1])), (h8, aJ cJ 21 u133.1), (h9, aI cI 21 u133.2), (h1, aJ cJ 22 t88_0), (h10, aJ cJ 58 u136.2.1), (h11, aJ cJ 58 u136.2.2)] H := hP
                              replace hD : va_D A [(h3, aI cI 20 f4), (h4, aI cI 21 t57_2), (h5, aJ cJ 21 t57_3), (h7, aI cI 21 t57_5), (h6, aJ cJ 21 t57_4), (h2, aI cI 21 t57_1), (h0, .inr (5, [.ref h2, .ref h7, .ref h4, .ref h5, .ref h6, .ref h1, .ref h8, .ref h9, .ref h10, .ref h11, .int t57_6, .int u136.1])), (h8, aJ cJ 21 u133.1), (h9, aI cI 21 u133.2), (h1, aJ cJ 22 t88_0), (h10, aJ cJ 58 u136.2.1), (h11, aJ cJ 58 u136.2.2)] := hD
                              refine lv_if_ne (tgt := 144) hx hb dX5_accepts_139 (by decide) (fun c139 => ?_) (fun c139 => ?_)
                              · replace hwp := hwp.1 c139
                                refine lv_iinc (v := (t122_5 + 1)) (lv' := [(4, .int (t122_5 + 1)), (0, .ref h0), (2, .int p0)]) hx hb dX5_accepts_144 hl (k := 0) rfl rfl (by decide) rfl (fun ls hl => ?_)
                                refine lv_goto (tgt := 122) hx hb dX5_accepts_147 (by decide) ?_
                                replace hl : lv_has ls 5 [(4, .int (t122_5 + 1)), (0, .ref h0), (2, .int p0)] := lv_sub hl [0, 1, 2] rfl
                                replace hP : va_P G vwCl [(h7, aI cI 21 t57_5), (h8, aJ cJ 21 u133.1), (h9, aI cI 21 u133.2), (h10, aJ cJ 58 u136.2.1), (h11, aJ cJ 58 u136.2.2), (h0, .inr (5, [.ref h2, .ref h7, .ref h4, .ref h5, .ref h6, .ref h1, .ref h8, .ref h9, .ref h10, .ref h11, .int t57_6, .int u136.1])), (h1, aJ cJ 22 t88_0), (h2, aI cI 21 t57_1), (h3, aI cI 20 f4), (h4, aI cI 21 t57_2), (h5, aJ cJ 21 t57_3), (h6, aJ cJ 21 t57_4)] H := hP.sub [3, 7, 8, 10, 11, 6, 9, 5, 0, 1, 2, 4] rfl
                                replace hD : va_D A [(h7, aI cI 21 t57_5), (h8, aJ cJ 21 u133.1), (h9, aI cI 21 u133.2), (h10, aJ cJ 58 u136.2.1), (h11, aJ cJ 58 u136.2.2), (h0, .inr (5, [.ref h2, .ref h7, .ref h4, .ref h5, .ref h6, .ref h1, .ref h8, .ref h9, .ref h10, .ref h11, .int t57_6, .int u136.1])), (h1, aJ cJ 22 t88_0), (h2, aI cI 21 t57_1), (h3, aI cI 20 f4), (h4, aI cI 21 t57_2), (h5, aJ cJ 21 t57_3), (h6, aJ cJ 21 t57_4)] := hD.sub [3, 7, 8, 10, 11, 6, 9, 5, 0, 1, 2, 4] (by decide) rfl
                                exact ih4 H locs ls (u136.2.1) (u136.2.2) (u133.1) (u133.2) (u136.1) (t122_5 + 1) hwp hP hD hS hl
                              · replace hwp := hwp.2 c139
                                refine lv_iconst (v := 0) hx hb dX5_accepts_142 (by decide) ?_
                                have hP9 : va_P G vwCl [(h0, .inr (5, [.ref h2, .ref h7, .ref h4, .ref h5, .ref h6, .ref h1, .ref h8, .ref h9, .ref h10, .ref h11, .int t57_6, .int u136.1])), (h1, aJ cJ 22 t88_0), (h2, aI cI 21 t57_1), (h3, aI cI 20 f4), (h4, aI cI 21 t57_2), (h5, aJ cJ 21 t57_3), (h6, aJ cJ 21 t57_4), (h7, aI cI 21 t57_5), (h8, aJ cJ 21 u133.1), (h9, aI cI 21 u133.2), (h10, aJ cJ 58 u136.2.1), (h11, aJ cJ 58 u136.2.2)] H := hP.sub [6, 9, 5, 0, 1, 2, 4, 3, 7, 8, 10, 11] rfl
                                have hD9 : va_D A [(h0, .inr (5, [.ref h2, .ref h7, .ref h4, .ref h5, .ref h6, .ref h1, .ref h8, .ref h9, .ref h10, .ref h11, .int t57_6, .int u136.1])), (h1, aJ cJ 22 t88_0), (h2, aI cI 21 t57_1), (h3, aI cI 20 f4), (h4, aI cI 21 t57_2), (h5, aJ cJ 21 t57_3), (h6, aJ cJ 21 t57_4), (h7, aI cI 21 t57_5), (h8, aJ cJ 21 u133.1), (h9, aI cI 21 u133.2), (h10, aJ cJ 58 u136.2.1), (h11, aJ cJ 58 u136.2.2)] := hD.sub [6, 9, 5, 0, 1, 2, 4, 3, 7, 8, 10, 11] (by decide) rfl
                                rw [← hQQ]
                                exact W.zret (v := 0) hx hb hr rfl (fun t ht hW => ⟨⟨_, (t57_6, u136.1, t88_0, t57_1, t57_2, t57_3, t57_4, t57_5, u133.1, u133.2, u136.2.1, u136.2.2), rfl, hwp, by rw [ht]; exact hP9, hD9⟩, hS.F ht⟩) hS.2.2 dX5_accepts_143
                        exact hs4 n4 H locs ls f11 f12 f9 f10 (u51.2.1) 0 hwp hP hD hS hl
                      · replace hwp := hwp.2 c91
                        refine lv_aload_n hx hb dX5_accepts_94 rfl (lv_at hl 1 rfl) ?_
                        refine va_get (D := G) (ci := 5) (v := .ref h1) (C := RX5) (T := TX5) (N := 12) hx hb hts xinX5 hown hK hP 5 rfl rfl 5 (by decide) (hts _ wo_98) (fun _ h9 => h9) rfl dX5_accepts_95 ?_
                        refine lv_iload hx hb dX5_accepts_98 (lv_at hl 0 rfl) ?_
                        refine lv_dup2_11 hx hb dX5_accepts_100 rfl rfl ?_
                        obtain ⟨hi, hwp⟩ := hwp
                        refine va_lald hx hb hK hP 6 1 rfl rfl hi dX5_accepts_101 ?_
                        refine lv_aload_n hx hb dX5_accepts_102 rfl (lv_at hl 1 rfl) ?_
                        refine va_get (D := G) (ci := 5) (v := .ref h1) (C := RX5) (T := TX5) (N := 12) hx hb hts xinX5 hown hK hP 5 rfl rfl 5 (by decide) (hts _ wo_98) (fun _ h9 => h9) rfl dX5_accepts_103 ?_
                        refine lv_iload hx hb dX5_accepts_106 (lv_at hl 0 rfl) ?_
                        refine lv_iconst (v := 1) hx hb dX5_accepts_108 (by decide) ?_
                        refine lv_isub hx hb dX5_accepts_109 ?_
                        obtain ⟨hi, hwp⟩ := hwp
                        refine va_lald hx hb hK hP 6 1 rfl rfl hi dX5_accepts_110 ?_
                        refine lv_lor hx hb dX5_accepts_111 ?_
                        obtain ⟨hi, hwp⟩ := hwp
                        refine va_last hx hb hK hP hD hS 6 1 rfl rfl hi dX5_accepts_112 (fun H locs hP hD hS => ?_)
                        obtain ⟨g112, eg112⟩ : ∃ z, z = vp_updL t88_0 (Int32.toNatClampNeg t88_1) ((t88_0 (Int32.toNatClampNeg t88_1)) ||| (t88_0 (Int32.toNatClampNeg (t88_1 - 1)))) := ⟨_, rfl⟩
                        replace hwp := hwp g112 eg112
                        replace hP : va_P G vwCl [(h7, aI cI 21 t57_5), (h8, aJ cJ 21 f9), (h9, aI cI 21 f10), (h10, aJ cJ 58 f11), (h11, aJ cJ 58 f12), (h0, .inr (5, [.ref h2, .ref h7, .ref h4, .ref h5, .ref h6, .ref h1, .ref h8, .ref h9, .ref h10, .ref h11, .int t57_6, .int u51.2.1])), (h1, aJ cJ 22 g112), (h2, aI cI 21 t57_1), (h3, aI cI 20 f4), (h4, aI cI 21 t57_2), (h5, aJ cJ 21 t57_3), (h6, aJ cJ 21 t57_4)] H := by rw [eg112]; exact hP
                        replace hD : va_D A [(h7, aI cI 21 t57_5), (h8, aJ cJ 21 f9), (h9, aI cI 21 f10), (h10, aJ cJ 58 f11), (h11, aJ cJ 58 f12), (h0, .inr (5, [.ref h2, .ref h7, .ref h4, .ref h5, .ref h6, .ref h1, .ref h8, .ref h9, .ref h10, .ref h11, .int t57_6, .int u51.2.1])), (h1, aJ cJ 22 g112), (h2, aI cI 21 t57_1), (h3, aI cI 20 f4), (h4, aI cI 21 t57_2), (h5, aJ cJ 21 t57_3), (h6, aJ cJ 21 t57_4)] := by rw [eg112]; exact hD
                        clear eg112
                        refine lv_iinc (v := (t88_1 + 1)) (lv' := [(4, .int (t88_1 + 1)), (0, .ref h0), (2, .int p0)]) hx hb dX5_accepts_113 hl (k := 0) rfl rfl (by decide) rfl (fun ls hl => ?_)
                        refine lv_goto (tgt := 88) hx hb dX5_accepts_116 (by decide) ?_
                        replace hl : lv_has ls 5 [(4, .int (t88_1 + 1)), (0, .ref h0), (2, .int p0)] := lv_sub hl [0, 1, 2] rfl
                        exact ih3 H locs ls g112 (t88_1 + 1) hwp hP hD hS hl
                  exact hs3 n3 H locs ls t57_0 1 hwp hP hD hS hl
                · replace hwp := hwp.2 c60
                  refine lv_aload_n hx hb dX5_accepts_63 rfl (lv_at hl 1 rfl) ?_
                  refine va_get (D := G) (ci := 5) (v := .ref h2) (C := RX5) (T := TX5) (N := 12) hx hb hts xinX5 hown hK hP 5 rfl rfl 0 (by decide) (hts _ wo_101) (fun _ h9 => h9) rfl dX5_accepts_64 ?_
                  refine lv_iload hx hb dX5_accepts_67 (lv_at hl 0 rfl) ?_
                  obtain ⟨hi, hwp⟩ := hwp
                  refine va_iald hx hb hK hP 7 0 rfl rfl hi dX5_accepts_69 ?_
                  refine lv_if_ge (tgt := 79) hx hb dX5_accepts_70 (by decide) (fun c70 => ?_) (fun c70 => ?_)
                  · replace hwp := hwp.1 c70
                    refine lv_iinc (v := (t57_7 + 1)) (lv' := [(4, .int (t57_7 + 1)), (0, .ref h0), (2, .int p0)]) hx hb dX5_accepts_79 hl (k := 0) rfl rfl (by decide) rfl (fun ls hl => ?_)
                    refine lv_goto (tgt := 57) hx hb dX5_accepts_82 (by decide) ?_
                    replace hl : lv_has ls 5 [(4, .int (t57_7 + 1)), (0, .ref h0), (2, .int p0)] := lv_sub hl [0, 1, 2] rfl
                    exact ih2 H locs ls t57_0 t57_1 t57_2 t57_3 t57_4 t57_5 t57_6 (t57_7 + 1) hwp hP hD hS hl
                  · replace hwp := hwp.2 c70
                    refine lv_aload_n hx hb dX5_accepts_73 rfl (lv_at hl 1 rfl) ?_
                    refine lv_iload hx hb dX5_accepts_74 (lv_at hl 0 rfl) ?_
                    refine xcv (wr := [(h8, aJ cJ 21 f9), (h9, aI cI 21 f10), (h10, aJ cJ 58 f11), (h11, aJ cJ 58 f12), (h3, aI cI 20 f4)]) (va_runV (As := [.int t57_7]) (rest := []) ⟨hx, hb, hml, hown, hts⟩ (zX5_searchFrom l G cI cJ cZ h0 h2 h7 h4 h5 h1 h6 h8 h9 h10 h11 H.size t57_6 (u51.2.1) t57_1 t57_5 t57_2 t57_3 t57_0 t57_4 t57_7 _ hwp) (cwV 1 hts (xgoodV wo_261 wo_262 wo_263 wo_264 wo_107) rfl rfl rfl (by decide +kernel) ⟨Nat.le_of_ble_eq_true rfl, Nat.le_of_ble_eq_true rfl⟩) (xPreV (q := (RX5, TX5, 12)) (q0 := 5) hK hN hP hD [5, 7, 0, 9, 10, 6, 11] (by decide) rfl rfl rfl) rfl rfl hl.1 rfl (lv_room (Nat.le_of_ble_eq_true rfl)) dX5_accepts_76 ⟨Nat.le_of_ble_eq_true rfl, Nat.le_of_ble_eq_true rfl⟩) hP hD hS hA [5, 7, 0, 9, 10, 6, 11] [1, 2, 3, 4, 8] rfl rfl (by decide) (by decide) (fun u76 H locs hwp hP hD hS => ?_)
                    replace hP : va_P G vwCl [(h8, aJ cJ 21 f9), (h9, aI cI 21 f10), (h10, aJ cJ 58 f11), (h11, aJ cJ 58 f12), (h3, aI cI 20 f4), (h0, .inr (5, [.ref h2, .ref h7, .ref h4, .ref h5, .ref h6, .ref h1, .ref h8, .ref h9, .ref h10, .ref h11, .int u76.1, .int u51.2.1])), (h2, aI cI 21 u76.2.1), (h7, aI cI 21 u76.2.2.1), (h4, aI cI 21 u76.2.2.2.1), (h5, aJ cJ 21 u76.2.2.2.2.1), (h1, aJ cJ 22 u76.2.2.2.2.2.1), (h6, aJ cJ 21 u76.2.2.2.2.2.2)] H := hP
                    replace hD : va_D A [(h8, aJ cJ 21 f9), (h9, aI cI 21 f10), (h10, aJ cJ 58 f11), (h11, aJ cJ 58 f12), (h3, aI cI 20 f4), (h0, .inr (5, [.ref h2, .ref h7, .ref h4, .ref h5, .ref h6, .ref h1, .ref h8, .ref h9, .ref h10, .ref h11, .int u76.1, .int u51.2.1])), (h2, aI cI 21 u76.2.1), (h7, aI cI 21 u76.2.2.1), (h4, aI cI 21 u76.2.2.2.1), (h5, aJ cJ 21 u76.2.2.2.2.1), (h1, aJ cJ 22 u76.2.2.2.2.2.1), (h6, aJ cJ 21 u76.2.2.2.2.2.2)] := hD
                    refine lv_iinc (v := (t57_7 + 1)) (lv' := [(4, .int (t57_7 + 1)), (0, .ref h0), (2, .int p0)]) hx hb dX5_accepts_79 hl (k := 0) rfl rfl (by decide) rfl (fun ls hl => ?_)
                    refine lv_goto (tgt := 57) hx hb dX5_accepts_82 (by decide) ?_
                    replace hl : lv_has ls 5 [(4, .int (t57_7 + 1)), (0, .ref h0), (2, .int p0)] := lv_sub hl [0, 1, 2] rfl
                    replace hP : va_P G vwCl [(h7, aI cI 21 u76.2.2.1), (h8, aJ cJ 21 f9), (h9, aI cI 21 f10), (h10, aJ cJ 58 f11), (h11, aJ cJ 58 f12), (h0, .inr (5, [.ref h2, .ref h7, .ref h4, .ref h5, .ref h6, .ref h1, .ref h8, .ref h9, .ref h10, .ref h11, .int u76.1, .int u51.2.1])), (h1, aJ cJ 22 u76.2.2.2.2.2.1), (h2, aI cI 21 u76.2.1), (h3, aI cI 20 f4), (h4, aI cI 21 u76.2.2.2.1), (h5, aJ cJ 21 u76.2.2.2.2.1), (h6, aJ cJ 21 u76.2.2.2.2.2.2)] H := hP.sub [7, 0, 1, 2, 3, 5, 10, 6, 4, 8, 9, 11] rfl
                    replace hD : va_D A [(h7, aI cI 21 u76.2.2.1), (h8, aJ cJ 21 f9), (h9, aI cI 21 f10), (h10, aJ cJ 58 f11), (h11, aJ cJ 58 f12), (h0, .inr (5, [.ref h2, .ref h7, .ref h4, .ref h5, .ref h6, .ref h1, .ref h8, .ref h9, .ref h10, .ref h11, .int u76.1, .int u51.2.1])), (h1, aJ cJ 22 u76.2.2.2.2.2.1), (h2, aI cI 21 u76.2.1), (h3, aI cI 20 f4), (h4, aI cI 21 u76.2.2.2.1), (h5, aJ cJ 21 u76.2.2.2.2.1), (h6, aJ cJ 21 u76.2.2.2.2.2.2)] := hD.sub [7, 0, 1, 2, 3, 5, 10, 6, 4, 8, 9, 11] (by decide) rfl
                    exact ih2 H locs ls (u76.2.2.2.2.2.1) (u76.2.1) (u76.2.2.2.1) (u76.2.2.2.2.1) (u76.2.2.2.2.2.2) (u76.2.2.1) (u76.1) (t57_7 + 1) hwp hP hD hS hl
            exact hs2 n2 H locs ls (u51.2.2.1) (u51.2.2.2.1) (u51.2.2.2.2.1) (u51.2.2.2.2.2.1) (u51.2.2.2.2.2.2) f8 (u51.1) 0 hwp hP hD hS hl
          · replace hwp := hwp.2 c43
            refine lv_iconst (v := 0) hx hb dX5_accepts_46 (by decide) ?_
            have hP9 : va_P G vwCl [(h0, .inr (5, [.ref h2, .ref h7, .ref h4, .ref h5, .ref h6, .ref h1, .ref h8, .ref h9, .ref h10, .ref h11, .int i0, .int i1])), (h1, aJ cJ 22 f2), (h2, aI cI 21 f3), (h3, aI cI 20 f4), (h4, aI cI 21 f5), (h5, aJ cJ 21 f6), (h6, aJ cJ 21 f7), (h7, aI cI 21 f8), (h8, aJ cJ 21 f9), (h9, aI cI 21 f10), (h10, aJ cJ 58 f11), (h11, aJ cJ 58 f12)] H := hP.sub [0, 1, 2, 3, 4, 5, 6, 7, 8, 9, 10, 11] rfl
            have hD9 : va_D A [(h0, .inr (5, [.ref h2, .ref h7, .ref h4, .ref h5, .ref h6, .ref h1, .ref h8, .ref h9, .ref h10, .ref h11, .int i0, .int i1])), (h1, aJ cJ 22 f2), (h2, aI cI 21 f3), (h3, aI cI 20 f4), (h4, aI cI 21 f5), (h5, aJ cJ 21 f6), (h6, aJ cJ 21 f7), (h7, aI cI 21 f8), (h8, aJ cJ 21 f9), (h9, aI cI 21 f10), (h10, aJ cJ 58 f11), (h11, aJ cJ 58 f12)] := hD.sub [0, 1, 2, 3, 4, 5, 6, 7, 8, 9, 10, 11] (by decide) rfl
            rw [← hQQ]
            exact W.zret (v := 0) hx hb hr rfl (fun t ht hW => ⟨⟨_, (i0, i1, f2, f3, f5, f6, f7, f8, f9, f10, f11, f12), rfl, hwp, by rw [ht]; exact hP9, hD9⟩, hS.F ht⟩) hS.2.2 dX5_accepts_47
        · replace hwp := hwp.2 c15
          refine lv_iload_n hx hb dX5_accepts_18 rfl (lv_at hl 1 rfl) ?_
          refine lv_aload_n hx hb dX5_accepts_19 rfl (lv_at hl 3 rfl) ?_
          refine lv_iload hx hb dX5_accepts_20 (lv_at hl 0 rfl) ?_
          obtain ⟨hi, hwp⟩ := hwp
          refine va_iald hx hb hK hP 3 0 rfl rfl hi dX5_accepts_22 ?_
          refine xci (wr := [(h0, .inr (5, [.ref h2, .ref h7, .ref h4, .ref h5, .ref h6, .ref h1, .ref h8, .ref h9, .ref h10, .ref h11, .int i0, .int i1])), (h1, aJ cJ 22 f2), (h2, aI cI 21 f3), (h3, aI cI 20 f4), (h4, aI cI 21 f5), (h5, aJ cJ 21 f6), (h6, aJ cJ 21 f7), (h7, aI cI 21 f8), (h8, aJ cJ 21 f9), (h9, aI cI 21 f10), (h10, aJ cJ 58 f11), (h11, aJ cJ 58 f12)]) (va_runS (As := [.int (f4 (Int32.toNatClampNeg t12_1))]) (rest := [.int t12_0]) ⟨hx, hb, hml, hown, hts⟩ (zJ6_bitCount_0f7a4 l G cI cJ cZ H.size (f4 (Int32.toNatClampNeg t12_1)) _ hwp) (va_cwS 1 hts (xgoodS wo_43 wo_265 wo_45 wo_46) rfl rfl rfl (by decide +kernel) ⟨Nat.le_of_ble_eq_true rfl, Nat.le_of_ble_eq_true rfl⟩) (xPreS hK hN hP hD [] (by decide) rfl) rfl rfl hl.1 rfl (lv_room (Nat.le_of_ble_eq_true rfl)) dX5_accepts_23 ⟨Nat.le_of_ble_eq_true rfl, Nat.le_of_ble_eq_true rfl⟩) hP hD hS hA [] [0, 1, 2, 3, 4, 5, 6, 7, 8, 9, 10, 11] rfl rfl (by decide) (by decide) (fun r23 u23 H locs hwp hP hD hS => ?_)
          replace hP : va_P G vwCl [(h0, .inr (5, [.ref h2, .ref h7, .ref h4, .ref h5, .ref h6, .ref h1, .ref h8, .ref h9, .ref h10, .ref h11, .int i0, .int i1])), (h1, aJ cJ 22 f2), (h2, aI cI 21 f3), (h3, aI cI 20 f4), (h4, aI cI 21 f5), (h5, aJ cJ 21 f6), (h6, aJ cJ 21 f7), (h7, aI cI 21 f8), (h8, aJ cJ 21 f9), (h9, aI cI 21 f10), (h10, aJ cJ 58 f11), (h11, aJ cJ 58 f12)] H := hP
          replace hD : va_D A [(h0, .inr (5, [.ref h2, .ref h7, .ref h4, .ref h5, .ref h6, .ref h1, .ref h8, .ref h9, .ref h10, .ref h11, .int i0, .int i1])), (h1, aJ cJ 22 f2), (h2, aI cI 21 f3), (h3, aI cI 20 f4), (h4, aI cI 21 f5), (h5, aJ cJ 21 f6), (h6, aJ cJ 21 f7), (h7, aI cI 21 f8), (h8, aJ cJ 21 f9), (h9, aI cI 21 f10), (h10, aJ cJ 58 f11), (h11, aJ cJ 58 f12)] := hD
          refine lv_iadd hx hb dX5_accepts_26 ?_
          refine lv_topi (fun v27 ev27 => ?_)
          replace hwp := hwp v27 ev27
          clear ev27
          refine lv_istore_n (lv' := [(3, .int v27), (4, .int t12_1), (0, .ref h0), (1, .ref h3), (2, .int p0)]) hx hb dX5_accepts_27 rfl hl (by decide) rfl (fun ls hl => ?_)
          refine lv_iinc (v := (t12_1 + 1)) (lv' := [(4, .int (t12_1 + 1)), (3, .int v27), (0, .ref h0), (1, .ref h3), (2, .int p0)]) hx hb dX5_accepts_28 hl (k := 1) rfl rfl (by decide) rfl (fun ls hl => ?_)
          refine lv_goto (tgt := 12) hx hb dX5_accepts_31 (by decide) ?_
          replace hl : lv_has ls 5 [(4, .int (t12_1 + 1)), (3, .int v27), (0, .ref h0), (1, .ref h3), (2, .int p0)] := lv_sub hl [0, 1, 2, 3, 4] rfl
          exact ih1 H locs ls v27 (t12_1 + 1) hwp hP hD hS hl
    exact hs1 n1 H locs ls 0 0 hwp hP hD hS hl
  · replace hwp := hwp.2 c2
    refine lv_iconst (v := 1) hx hb dX5_accepts_5 (by decide) ?_
    have hP9 : va_P G vwCl [(h0, .inr (5, [.ref h2, .ref h7, .ref h4, .ref h5, .ref h6, .ref h1, .ref h8, .ref h9, .ref h10, .ref h11, .int i0, .int i1])), (h1, aJ cJ 22 f2), (h2, aI cI 21 f3), (h3, aI cI 20 f4), (h4, aI cI 21 f5), (h5, aJ cJ 21 f6), (h6, aJ cJ 21 f7), (h7, aI cI 21 f8), (h8, aJ cJ 21 f9), (h9, aI cI 21 f10), (h10, aJ cJ 58 f11), (h11, aJ cJ 58 f12)] s.heap := hP.sub [0, 1, 2, 3, 4, 5, 6, 7, 8, 9, 10, 11] rfl
    have hD9 : va_D A [(h0, .inr (5, [.ref h2, .ref h7, .ref h4, .ref h5, .ref h6, .ref h1, .ref h8, .ref h9, .ref h10, .ref h11, .int i0, .int i1])), (h1, aJ cJ 22 f2), (h2, aI cI 21 f3), (h3, aI cI 20 f4), (h4, aI cI 21 f5), (h5, aJ cJ 21 f6), (h6, aJ cJ 21 f7), (h7, aI cI 21 f8), (h8, aJ cJ 21 f9), (h9, aI cI 21 f10), (h10, aJ cJ 58 f11), (h11, aJ cJ 58 f12)] := hD.sub [0, 1, 2, 3, 4, 5, 6, 7, 8, 9, 10, 11] (by decide) rfl
    rw [← hQQ]
    exact W.zret (v := 1) hx hb hr rfl (fun t ht hW => ⟨⟨_, (i0, i1, f2, f3, f5, f6, f7, f8, f9, f10, f11, f12), rfl, hwp, by rw [ht]; exact hP9, hD9⟩, hS.F ht⟩) hS.2.2 dX5_accepts_6
def wX8_isPlane (i0 : Int32) (i1 : Int32) (i2 : Int32) (i3 : Int32) (i4 : Int32) (i5 : Int32) (i6 : Int32) (i7 : Int32) (i8 : Int32) (f9 : Nat → Int32) (f10 : Nat → Int32) (f11 : Nat → Int32) (i12 : Int32) (i13 : Int32) (f14 : Nat → Int64) (f15 : Nat → Int32) (f16 : Nat → Int32) (f17 : Nat → Int64) (f18 : Nat → Int64) (f19 : Nat → Int32) (f20 : Nat → Int64) (f21 : Nat → Int32) (f22 : Nat → Int64) (f23 : Nat → Int64) (K : Int32 → (Int32 × Int32 × Int32 × Int32 × (Nat → Int64) × (Nat → Int32) × (Nat → Int32) × (Nat → Int64) × (Nat → Int64) × (Nat → Int32) × (Nat → Int64) × (Nat → Int32) × (Nat → Int64) × (Nat → Int64)) → Prop) : Prop := ((¬ i0 = 0 → (narrow .boolean (.int i1) = .int i1 ∧ K i1 (i0, i1, i12, i13, f14, f15, f16, f17, f18, f19, f20, f21, f22, f23))) ∧ (i0 = 0 → (wX2_isOf i8 f9 f10 f11 i5 (fun r28 _ => ((¬ r28 = 0 → K (1 : Int32) ((1 : Int32), (1 : Int32), i12, i13, f14, f15, f16, f17, f18, f19, f20, f21, f22, f23)) ∧ (r28 = 0 → (wX5_accepts i12 i13 f14 f15 f10 f16 f17 f18 f19 f20 f21 f22 f23 i5 (fun r46 u46 => ((r46 = 0 → K (0 : Int32) ((1 : Int32), (0 : Int32), u46.1, u46.2.1, u46.2.2.1, u46.2.2.2.1, u46.2.2.2.2.1, u46.2.2.2.2.2.1, u46.2.2.2.2.2.2.1, u46.2.2.2.2.2.2.2.1, u46.2.2.2.2.2.2.2.2.1, u46.2.2.2.2.2.2.2.2.2.1, u46.2.2.2.2.2.2.2.2.2.2.1, u46.2.2.2.2.2.2.2.2.2.2.2)) ∧ (¬ r46 = 0 → K (1 : Int32) ((1 : Int32), (1 : Int32), u46.1, u46.2.1, u46.2.2.1, u46.2.2.2.1, u46.2.2.2.2.1, u46.2.2.2.2.2.1, u46.2.2.2.2.2.2.1, u46.2.2.2.2.2.2.2.1, u46.2.2.2.2.2.2.2.2.1, u46.2.2.2.2.2.2.2.2.2.1, u46.2.2.2.2.2.2.2.2.2.2.1, u46.2.2.2.2.2.2.2.2.2.2.2)))))))))))
set_option maxHeartbeats 4000000 in
set_option maxRecDepth 100000 in
theorem zX8_isPlane (l : Launch) (G : va_G) (cI cJ cZ : ClassId) (h0 h1 h2 h3 h4 h5 h6 h7 h8 h9 h10 h11 h12 h13 h14 h15 h16 k0 k1 k2 k3 k4 k5 k6 k7 k8 k9 sz : Nat) (i0 : Int32) (i1 : Int32) (i2 : Int32) (i3 : Int32) (i4 : Int32) (i5 : Int32) (i6 : Int32) (i7 : Int32) (i8 : Int32) (f9 : Nat → Int32) (f10 : Nat → Int32) (f11 : Nat → Int32) (i12 : Int32) (i13 : Int32) (f14 : Nat → Int64) (f15 : Nat → Int32) (f16 : Nat → Int32) (f17 : Nat → Int64) (f18 : Nat → Int64) (f19 : Nat → Int32) (f20 : Nat → Int64) (f21 : Nat → Int32) (f22 : Nat → Int64) (f23 : Nat → Int64) (K : Int32 → (Int32 × Int32 × Int32 × Int32 × (Nat → Int64) × (Nat → Int32) × (Nat → Int32) × (Nat → Int64) × (Nat → Int64) × (Nat → Int32) × (Nat → Int64) × (Nat → Int32) × (Nat → Int64) × (Nat → Int64)) → Prop) (hwp : wX8_isPlane i0 i1 i2 i3 i4 i5 i6 i7 i8 f9 f10 f11 i12 i13 f14 f15 f16 f17 f18 f19 f20 f21 f22 f23 K) : Met l yX8_isPlane (xw yX8_isPlane cX8_isPlane 2 (some .boolean)) ({ frames := 4, cells := 0, slots := 0, locals := 88 }) (xPc G cI cJ cZ [.ref h0] [(h0, .inr (8, [.ref h1, .ref k0, .ref k1, .ref h6, .ref h2, .ref k2, .ref k3, .ref k4, .ref k5, .ref k6, .ref k7, .int i0, .int i1, .int i2, .int i3, .int i4])), (h1, .inr (3, [.ref k8, .ref k9, .ref h4, .int i5, .int i6, .int i7])), (h2, .inr (2, [.ref h3, .ref h5, .int i8])), (h3, aI cI 20 f9), (h4, aI cI 20 f10), (h5, aI cI 20 f11), (h6, .inr (5, [.ref h8, .ref h12, .ref h9, .ref h10, .ref h11, .ref h7, .ref h13, .ref h14, .ref h15, .ref h16, .int i12, .int i13])), (h7, aJ cJ 22 f14), (h8, aI cI 21 f15), (h9, aI cI 21 f16), (h10, aJ cJ 21 f17), (h11, aJ cJ 21 f18), (h12, aI cI 21 f19), (h13, aJ cJ 21 f20), (h14, aI cI 21 f21), (h15, aJ cJ 58 f22), (h16, aJ cJ 58 f23)] sz) (va_Qi (fun (r : Int32) (u : Int32 × Int32 × Int32 × Int32 × (Nat → Int64) × (Nat → Int32) × (Nat → Int32) × (Nat → Int64) × (Nat → Int64) × (Nat → Int32) × (Nat → Int64) × (Nat → Int32) × (Nat → Int64) × (Nat → Int64)) => K r u) (fun (u : Int32 × Int32 × Int32 × Int32 × (Nat → Int64) × (Nat → Int32) × (Nat → Int32) × (Nat → Int64) × (Nat → Int64) × (Nat → Int32) × (Nat → Int64) × (Nat → Int32) × (Nat → Int64) × (Nat → Int64)) t => xB G (va_A [(h0, .inr (8, [.ref h1, .ref k0, .ref k1, .ref h6, .ref h2, .ref k2, .ref k3, .ref k4, .ref k5, .ref k6, .ref k7, .int i0, .int i1, .int i2, .int i3, .int i4])), (h1, .inr (3, [.ref k8, .ref k9, .ref h4, .int i5, .int i6, .int i7])), (h2, .inr (2, [.ref h3, .ref h5, .int i8])), (h3, aI cI 20 f9), (h4, aI cI 20 f10), (h5, aI cI 20 f11), (h6, .inr (5, [.ref h8, .ref h12, .ref h9, .ref h10, .ref h11, .ref h7, .ref h13, .ref h14, .ref h15, .ref h16, .int i12, .int i13])), (h7, aJ cJ 22 f14), (h8, aI cI 21 f15), (h9, aI cI 21 f16), (h10, aJ cJ 21 f17), (h11, aJ cJ 21 f18), (h12, aI cI 21 f19), (h13, aJ cJ 21 f20), (h14, aI cI 21 f21), (h15, aJ cJ 58 f22), (h16, aJ cJ 58 f23)] sz) [(h0, .inr (8, [.ref h1, .ref k0, .ref k1, .ref h6, .ref h2, .ref k2, .ref k3, .ref k4, .ref k5, .ref k6, .ref k7, .int u.1, .int u.2.1, .int i2, .int i3, .int i4])), (h1, .inr (3, [.ref k8, .ref k9, .ref h4, .int i5, .int i6, .int i7])), (h2, .inr (2, [.ref h3, .ref h5, .int i8])), (h3, aI cI 20 f9), (h4, aI cI 20 f10), (h5, aI cI 20 f11), (h6, .inr (5, [.ref h8, .ref h12, .ref h9, .ref h10, .ref h11, .ref h7, .ref h13, .ref h14, .ref h15, .ref h16, .int u.2.2.1, .int u.2.2.2.1])), (h7, aJ cJ 22 u.2.2.2.2.1), (h8, aI cI 21 u.2.2.2.2.2.1), (h9, aI cI 21 u.2.2.2.2.2.2.1), (h10, aJ cJ 21 u.2.2.2.2.2.2.2.1), (h11, aJ cJ 21 u.2.2.2.2.2.2.2.2.1), (h12, aI cI 21 u.2.2.2.2.2.2.2.2.2.1), (h13, aJ cJ 21 u.2.2.2.2.2.2.2.2.2.2.1), (h14, aI cI 21 u.2.2.2.2.2.2.2.2.2.2.2.1), (h15, aJ cJ 58 u.2.2.2.2.2.2.2.2.2.2.2.2.1), (h16, aJ cJ 58 u.2.2.2.2.2.2.2.2.2.2.2.2.2)] t) (va_A [(h0, .inr (8, [.ref h1, .ref k0, .ref k1, .ref h6, .ref h2, .ref k2, .ref k3, .ref k4, .ref k5, .ref k6, .ref k7, .int i0, .int i1, .int i2, .int i3, .int i4])), (h1, .inr (3, [.ref k8, .ref k9, .ref h4, .int i5, .int i6, .int i7])), (h2, .inr (2, [.ref h3, .ref h5, .int i8])), (h3, aI cI 20 f9), (h4, aI cI 20 f10), (h5, aI cI 20 f11), (h6, .inr (5, [.ref h8, .ref h12, .ref h9, .ref h10, .ref h11, .ref h7, .ref h13, .ref h14, .ref h15, .ref h16, .int i12, .int i13])), (h7, aJ cJ 22 f14), (h8, aI cI 21 f15), (h9, aI cI 21 f16), (h10, aJ cJ 21 f17), (h11, aJ cJ 21 f18), (h12, aI cI 21 f19), (h13, aJ cJ 21 f20), (h14, aI cI 21 f21), (h15, aJ cJ 58 f22), (h16, aJ cJ 58 f23)] sz)) 0 0 (va_A [(h0, .inr (8, [.ref h1, .ref k0, .ref k1, .ref h6, .ref h2, .ref k2, .ref k3, .ref k4, .ref k5, .ref k6, .ref k7, .int i0, .int i1, .int i2, .int i3, .int i4])), (h1, .inr (3, [.ref k8, .ref k9, .ref h4, .int i5, .int i6, .int i7])), (h2, .inr (2, [.ref h3, .ref h5, .int i8])), (h3, aI cI 20 f9), (h4, aI cI 20 f10), (h5, aI cI 20 f11), (h6, .inr (5, [.ref h8, .ref h12, .ref h9, .ref h10, .ref h11, .ref h7, .ref h13, .ref h14, .ref h15, .ref h16, .int i12, .int i13])), (h7, aJ cJ 22 f14), (h8, aI cI 21 f15), (h9, aI cI 21 f16), (h10, aJ cJ 21 f17), (h11, aJ cJ 21 f18), (h12, aI cI 21 f19), (h13, aJ cJ 21 f20), (h14, aI cI 21 f21), (h15, aJ cJ 58 f22), (h16, aJ cJ 58 f23)] sz) := by
  refine Met.ofW (cc := cX8_isPlane) (maxL := 2) (ret := (some .boolean)) (by decide) rfl ?_
  intro p e s m args below meth c s₁ B hml hv
  obtain ⟨rfl, hsz, hP, hK, hD0, hN⟩ := hv
  have hx := B.exec
  have hb := B.bytes
  have hr := B.returns
  have hts : ∀ w ∈ xW, w.before _ s = true := fun w h => atoms_spec (ws := xw yX8_isPlane cX8_isPlane 2 (some .boolean)) B.pre w (List.mem_cons_of_mem _ h)
  have hown : s.vm.findClass RX8 = some m.cls := findClass_of_methodNamed B.named
  have hlocks := B.notSynchronized
  subst hsz
  have hD := hD0.self (sz := s.heap.size)
  clear hD0
  generalize hAe : va_A [(h0, .inr (8, [.ref h1, .ref k0, .ref k1, .ref h6, .ref h2, .ref k2, .ref k3, .ref k4, .ref k5, .ref k6, .ref k7, .int i0, .int i1, .int i2, .int i3, .int i4])), (h1, .inr (3, [.ref k8, .ref k9, .ref h4, .int i5, .int i6, .int i7])), (h2, .inr (2, [.ref h3, .ref h5, .int i8])), (h3, aI cI 20 f9), (h4, aI cI 20 f10), (h5, aI cI 20 f11), (h6, .inr (5, [.ref h8, .ref h12, .ref h9, .ref h10, .ref h11, .ref h7, .ref h13, .ref h14, .ref h15, .ref h16, .int i12, .int i13])), (h7, aJ cJ 22 f14), (h8, aI cI 21 f15), (h9, aI cI 21 f16), (h10, aJ cJ 21 f17), (h11, aJ cJ 21 f18), (h12, aI cI 21 f19), (h13, aJ cJ 21 f20), (h14, aI cI 21 f21), (h15, aJ cJ 58 f22), (h16, aJ cJ 58 f23)] s.heap.size = A at hD ⊢
  have hA : ∀ q : Nat, s.heap.size ≤ q → A q := fun q h => by rw [← hAe]; exact Or.inr h
  clear hAe
  have hS : va_S A s.heap s.heap [] := va_S.rf
  replace hP : va_P G vwCl [(h0, .inr (8, [.ref h1, .ref k0, .ref k1, .ref h6, .ref h2, .ref k2, .ref k3, .ref k4, .ref k5, .ref k6, .ref k7, .int i0, .int i1, .int i2, .int i3, .int i4])), (h1, .inr (3, [.ref k8, .ref k9, .ref h4, .int i5, .int i6, .int i7])), (h2, .inr (2, [.ref h3, .ref h5, .int i8])), (h3, aI cI 20 f9), (h4, aI cI 20 f10), (h5, aI cI 20 f11), (h6, .inr (5, [.ref h8, .ref h12, .ref h9, .ref h10, .ref h11, .ref h7, .ref h13, .ref h14, .ref h15, .ref h16, .int i12, .int i13])), (h7, aJ cJ 22 f14), (h8, aI cI 21 f15), (h9, aI cI 21 f16), (h10, aJ cJ 21 f17), (h11, aJ cJ 21 f18), (h12, aI cI 21 f19), (h13, aJ cJ 21 f20), (h14, aI cI 21 f21), (h15, aJ cJ 58 f22), (h16, aJ cJ 58 f23)] s.heap := hP
  have hl := lv_entry ([.ref h0]) (n := 2) (Nat.le_of_ble_eq_true rfl)
  rw [lg_entry_eq]
  generalize (lg_sl ([.ref h0]) ++ List.replicate (2 - (lg_sl ([.ref h0])).length) Slot.unset).toArray = ls at hl ⊢
  replace hl : lv_has ls 2 [(0, .ref h0)] := hl
  generalize hQQ : MQ below _ _ s 0 0 _ = QQ
  skip
  unfold wX8_isPlane at hwp
  refine lv_aload_n hx hb dX8_isPlane_0 rfl (lv_at hl 0 rfl) ?_
  refine va_get (D := G) (ci := 8) (v := .int i0) (C := RX8) (T := TX8) (N := 16) hx hb hts xinX8 hown hK hP 0 rfl rfl 11 (by decide) (hts _ wo_200) (fun _ h9 => h9) rfl dX8_isPlane_1 ?_
  refine lv_if_ne (tgt := 65) hx hb dX8_isPlane_4 (by decide) (fun c4 => ?_) (fun c4 => ?_)
  · replace hwp := hwp.1 c4
    refine lv_aload_n hx hb dX8_isPlane_65 rfl (lv_at hl 0 rfl) ?_
    refine va_get (D := G) (ci := 8) (v := .int i1) (C := RX8) (T := TX8) (N := 16) hx hb hts xinX8 hown hK hP 0 rfl rfl 12 (by decide) (hts _ wo_266) (fun _ h9 => h9) rfl dX8_isPlane_66 ?_
    obtain ⟨hi, hwp⟩ := hwp
    have hP9 : va_P G vwCl [(h0, .inr (8, [.ref h1, .ref k0, .ref k1, .ref h6, .ref h2, .ref k2, .ref k3, .ref k4, .ref k5, .ref k6, .ref k7, .int i0, .int i1, .int i2, .int i3, .int i4])), (h1, .inr (3, [.ref k8, .ref k9, .ref h4, .int i5, .int i6, .int i7])), (h2, .inr (2, [.ref h3, .ref h5, .int i8])), (h3, aI cI 20 f9), (h4, aI cI 20 f10), (h5, aI cI 20 f11), (h6, .inr (5, [.ref h8, .ref h12, .ref h9, .ref h10, .ref h11, .ref h7, .ref h13, .ref h14, .ref h15, .ref h16, .int i12, .int i13])), (h7, aJ cJ 22 f14), (h8, aI cI 21 f15), (h9, aI cI 21 f16), (h10, aJ cJ 21 f17), (h11, aJ cJ 21 f18), (h12, aI cI 21 f19), (h13, aJ cJ 21 f20), (h14, aI cI 21 f21), (h15, aJ cJ 58 f22), (h16, aJ cJ 58 f23)] s.heap := hP.sub [0, 1, 2, 3, 4, 5, 6, 7, 8, 9, 10, 11, 12, 13, 14, 15, 16] rfl
    have hD9 : va_D A [(h0, .inr (8, [.ref h1, .ref k0, .ref k1, .ref h6, .ref h2, .ref k2, .ref k3, .ref k4, .ref k5, .ref k6, .ref k7, .int i0, .int i1, .int i2, .int i3, .int i4])), (h1, .inr (3, [.ref k8, .ref k9, .ref h4, .int i5, .int i6, .int i7])), (h2, .inr (2, [.ref h3, .ref h5, .int i8])), (h3, aI cI 20 f9), (h4, aI cI 20 f10), (h5, aI cI 20 f11), (h6, .inr (5, [.ref h8, .ref h12, .ref h9, .ref h10, .ref h11, .ref h7, .ref h13, .ref h14, .ref h15, .ref h16, .int i12, .int i13])), (h7, aJ cJ 22 f14), (h8, aI cI 21 f15), (h9, aI cI 21 f16), (h10, aJ cJ 21 f17), (h11, aJ cJ 21 f18), (h12, aI cI 21 f19), (h13, aJ cJ 21 f20), (h14, aI cI 21 f21), (h15, aJ cJ 58 f22), (h16, aJ cJ 58 f23)] := hD.sub [0, 1, 2, 3, 4, 5, 6, 7, 8, 9, 10, 11, 12, 13, 14, 15, 16] (by decide) rfl
    rw [← hQQ]
    exact W.zret (v := i1) hx hb hr hi (fun t ht hW => ⟨⟨_, (i0, i1, i12, i13, f14, f15, f16, f17, f18, f19, f20, f21, f22, f23), rfl, hwp, by rw [ht]; exact hP9, hD9⟩, hS.F ht⟩) hS.2.2 dX8_isPlane_69
  · replace hwp := hwp.2 c4
    refine lv_aload_n hx hb dX8_isPlane_7 rfl (lv_at hl 0 rfl) ?_
    refine va_get (D := G) (ci := 8) (v := .ref h1) (C := RX8) (T := TX8) (N := 16) hx hb hts xinX8 hown hK hP 0 rfl rfl 0 (by decide) (hts _ wo_204) (fun _ h9 => h9) rfl dX8_isPlane_8 ?_
    refine va_getN (D := G) (ci := 3) (v := .int i5) (C := RX3) (T := TX3) (N := 6) hx hb hts xinX3 hown hK hP 1 rfl rfl 3 (by decide) (va_Nw.use rfl (hN.1 ("PlaneTests", 81, "PlaneTests$Graph", "nodes", "I", "PlaneTests") (by decide +kernel))) (fun _ h9 => h9) rfl dX8_isPlane_11 ?_
    refine lv_istore_n (lv' := [(1, .int i5), (0, .ref h0)]) hx hb dX8_isPlane_14 rfl hl (by decide) rfl (fun ls hl => ?_)
    refine lv_aload_n hx hb dX8_isPlane_15 rfl (lv_at hl 1 rfl) ?_
    refine lv_aload_n hx hb dX8_isPlane_16 rfl (lv_at hl 1 rfl) ?_
    refine va_get (D := G) (ci := 8) (v := .ref h2) (C := RX8) (T := TX8) (N := 16) hx hb hts xinX8 hown hK hP 0 rfl rfl 4 (by decide) (hts _ wo_267) (fun _ h9 => h9) rfl dX8_isPlane_17 ?_
    refine lv_aload_n hx hb dX8_isPlane_20 rfl (lv_at hl 1 rfl) ?_
    refine va_get (D := G) (ci := 8) (v := .ref h1) (C := RX8) (T := TX8) (N := 16) hx hb hts xinX8 hown hK hP 0 rfl rfl 0 (by decide) (hts _ wo_204) (fun _ h9 => h9) rfl dX8_isPlane_21 ?_
    refine va_getN (D := G) (ci := 3) (v := .ref h4) (C := RX3) (T := TX3) (N := 6) hx hb hts xinX3 hown hK hP 1 rfl rfl 2 (by decide) (va_Nw.use rfl (hN.1 ("PlaneTests", 131, "PlaneTests$Graph", "joined", "[I", "PlaneTests") (by decide +kernel))) (fun _ h9 => h9) rfl dX8_isPlane_24 ?_
    refine lv_iload_n hx hb dX8_isPlane_27 rfl (lv_at hl 0 rfl) ?_
    refine xci (wr := [(h0, .inr (8, [.ref h1, .ref k0, .ref k1, .ref h6, .ref h2, .ref k2, .ref k3, .ref k4, .ref k5, .ref k6, .ref k7, .int i0, .int i1, .int i2, .int i3, .int i4])), (h1, .inr (3, [.ref k8, .ref k9, .ref h4, .int i5, .int i6, .int i7])), (h6, .inr (5, [.ref h8, .ref h12, .ref h9, .ref h10, .ref h11, .ref h7, .ref h13, .ref h14, .ref h15, .ref h16, .int i12, .int i13])), (h7, aJ cJ 22 f14), (h8, aI cI 21 f15), (h9, aI cI 21 f16), (h10, aJ cJ 21 f17), (h11, aJ cJ 21 f18), (h12, aI cI 21 f19), (h13, aJ cJ 21 f20), (h14, aI cI 21 f21), (h15, aJ cJ 58 f22), (h16, aJ cJ 58 f23)]) (va_runV (As := [.ref h4, .int i5]) (rest := [.ref h0]) ⟨hx, hb, hml, hown, hts⟩ (zX2_isOf l G cI cJ cZ h2 h3 h4 h5 s.heap.size i8 f9 f10 f11 i5 _ hwp) (cwV 2 hts (xgoodV wo_268 wo_269 wo_270 wo_271 wo_272) rfl rfl rfl (by decide +kernel) ⟨Nat.le_of_ble_eq_true rfl, Nat.le_of_ble_eq_true rfl⟩) (xPreV (q := (RX2, TX2, 3)) (q0 := 2) hK hN hP hD [2, 3, 4, 5] (by decide) rfl rfl rfl) rfl rfl hl.1 rfl (lv_room (Nat.le_of_ble_eq_true rfl)) dX8_isPlane_28 ⟨Nat.le_of_ble_eq_true rfl, Nat.le_of_ble_eq_true rfl⟩) hP hD hS hA [2, 3, 4, 5] [0, 1, 6, 7, 8, 9, 10, 11, 12, 13, 14, 15, 16] rfl rfl (by decide) (by decide) (fun r28 u28 H locs hwp hP hD hS => ?_)
    replace hP : va_P G vwCl [(h0, .inr (8, [.ref h1, .ref k0, .ref k1, .ref h6, .ref h2, .ref k2, .ref k3, .ref k4, .ref k5, .ref k6, .ref k7, .int i0, .int i1, .int i2, .int i3, .int i4])), (h1, .inr (3, [.ref k8, .ref k9, .ref h4, .int i5, .int i6, .int i7])), (h6, .inr (5, [.ref h8, .ref h12, .ref h9, .ref h10, .ref h11, .ref h7, .ref h13, .ref h14, .ref h15, .ref h16, .int i12, .int i13])), (h7, aJ cJ 22 f14), (h8, aI cI 21 f15), (h9, aI cI 21 f16), (h10, aJ cJ 21 f17), (h11, aJ cJ 21 f18), (h12, aI cI 21 f19), (h13, aJ cJ 21 f20), (h14, aI cI 21 f21), (h15, aJ cJ 58 f22), (h16, aJ cJ 58 f23), (h2, .inr (2, [.ref h3, .ref h5, .int i8])), (h3, aI cI 20 f9), (h4, aI cI 20 f10), (h5, aI cI 20 f11)] H := hP
    replace hD : va_D A [(h0, .inr (8, [.ref h1, .ref k0, .ref k1, .ref h6, .ref h2, .ref k2, .ref k3, .ref k4, .ref k5, .ref k6, .ref k7, .int i0, .int i1, .int i2, .int i3, .int i4])), (h1, .inr (3, [.ref k8, .ref k9, .ref h4, .int i5, .int i6, .int i7])), (h6, .inr (5, [.ref h8, .ref h12, .ref h9, .ref h10, .ref h11, .ref h7, .ref h13, .ref h14, .ref h15, .ref h16, .int i12, .int i13])), (h7, aJ cJ 22 f14), (h8, aI cI 21 f15), (h9, aI cI 21 f16), (h10, aJ cJ 21 f17), (h11, aJ cJ 21 f18), (h12, aI cI 21 f19), (h13, aJ cJ 21 f20), (h14, aI cI 21 f21), (h15, aJ cJ 58 f22), (h16, aJ cJ 58 f23), (h2, .inr (2, [.ref h3, .ref h5, .int i8])), (h3, aI cI 20 f9), (h4, aI cI 20 f10), (h5, aI cI 20 f11)] := hD
    refine lv_if_ne (tgt := 52) hx hb dX8_isPlane_31 (by decide) (fun c31 => ?_) (fun c31 => ?_)
    · replace hwp := hwp.1 c31
      refine lv_iconst (v := 1) hx hb dX8_isPlane_52 (by decide) ?_
      refine lv_goto (tgt := 57) hx hb dX8_isPlane_53 (by decide) ?_
      refine va_put (D := G) (ci := 8) (v := .int 1) (ty := .boolean) (C := RX8) (T := TX8) (N := 16) hx hb hts xinX8 tyX8 tyX8_ok nmX8 hown hK hP hD hS 0 rfl rfl 12 (by decide) (hts _ wo_266) (fun _ h9 => h9) rfl (by decide +kernel) rfl rfl (Nat.le_of_ble_eq_true rfl) dX8_isPlane_57 (fun H locs hP hD hS => ?_)
      replace hP : va_P G vwCl [(h0, .inr (8, [.ref h1, .ref k0, .ref k1, .ref h6, .ref h2, .ref k2, .ref k3, .ref k4, .ref k5, .ref k6, .ref k7, .int i0, .int 1, .int i2, .int i3, .int i4])), (h1, .inr (3, [.ref k8, .ref k9, .ref h4, .int i5, .int i6, .int i7])), (h6, .inr (5, [.ref h8, .ref h12, .ref h9, .ref h10, .ref h11, .ref h7, .ref h13, .ref h14, .ref h15, .ref h16, .int i12, .int i13])), (h7, aJ cJ 22 f14), (h8, aI cI 21 f15), (h9, aI cI 21 f16), (h10, aJ cJ 21 f17), (h11, aJ cJ 21 f18), (h12, aI cI 21 f19), (h13, aJ cJ 21 f20), (h14, aI cI 21 f21), (h15, aJ cJ 58 f22), (h16, aJ cJ 58 f23), (h2, .inr (2, [.ref h3, .ref h5, .int i8])), (h3, aI cI 20 f9), (h4, aI cI 20 f10), (h5, aI cI 20 f11)] H := hP
      replace hD : va_D A [(h0, .inr (8, [.ref h1, .ref k0, .ref k1, .ref h6, .ref h2, .ref k2, .ref k3, .ref k4, .ref k5, .ref k6, .ref k7, .int i0, .int 1, .int i2, .int i3, .int i4])), (h1, .inr (3, [.ref k8, .ref k9, .ref h4, .int i5, .int i6, .int i7])), (h6, .inr (5, [.ref h8, .ref h12, .ref h9, .ref h10, .ref h11, .ref h7, .ref h13, .ref h14, .ref h15, .ref h16, .int i12, .int i13])), (h7, aJ cJ 22 f14), (h8, aI cI 21 f15), (h9, aI cI 21 f16), (h10, aJ cJ 21 f17), (h11, aJ cJ 21 f18), (h12, aI cI 21 f19), (h13, aJ cJ 21 f20), (h14, aI cI 21 f21), (h15, aJ cJ 58 f22), (h16, aJ cJ 58 f23), (h2, .inr (2, [.ref h3, .ref h5, .int i8])), (h3, aI cI 20 f9), (h4, aI cI 20 f10), (h5, aI cI 20 f11)] := hD
      refine lv_aload_n hx hb dX8_isPlane_60 rfl (lv_at hl 1 rfl) ?_
      refine lv_iconst (v := 1) hx hb dX8_isPlane_61 (by decide) ?_
      refine va_put (D := G) (ci := 8) (v := .int 1) (ty := .boolean) (C := RX8) (T := TX8) (N := 16) hx hb hts xinX8 tyX8 tyX8_ok nmX8 hown hK hP hD hS 0 rfl rfl 11 (by decide) (hts _ wo_200) (fun _ h9 => h9) rfl (by decide +kernel) rfl rfl (Nat.le_of_ble_eq_true rfl) dX8_isPlane_62 (fun H locs hP hD hS => ?_)
      replace hP : va_P G vwCl [(h0, .inr (8, [.ref h1, .ref k0, .ref k1, .ref h6, .ref h2, .ref k2, .ref k3, .ref k4, .ref k5, .ref k6, .ref k7, .int 1, .int 1, .int i2, .int i3, .int i4])), (h1, .inr (3, [.ref k8, .ref k9, .ref h4, .int i5, .int i6, .int i7])), (h6, .inr (5, [.ref h8, .ref h12, .ref h9, .ref h10, .ref h11, .ref h7, .ref h13, .ref h14, .ref h15, .ref h16, .int i12, .int i13])), (h7, aJ cJ 22 f14), (h8, aI cI 21 f15), (h9, aI cI 21 f16), (h10, aJ cJ 21 f17), (h11, aJ cJ 21 f18), (h12, aI cI 21 f19), (h13, aJ cJ 21 f20), (h14, aI cI 21 f21), (h15, aJ cJ 58 f22), (h16, aJ cJ 58 f23), (h2, .inr (2, [.ref h3, .ref h5, .int i8])), (h3, aI cI 20 f9), (h4, aI cI 20 f10), (h5, aI cI 20 f11)] H := hP
      replace hD : va_D A [(h0, .inr (8, [.ref h1, .ref k0, .ref k1, .ref h6, .ref h2, .ref k2, .ref k3, .ref k4, .ref k5, .ref k6, .ref k7, .int 1, .int 1, .int i2, .int i3, .int i4])), (h1, .inr (3, [.ref k8, .ref k9, .ref h4, .int i5, .int i6, .int i7])), (h6, .inr (5, [.ref h8, .ref h12, .ref h9, .ref h10, .ref h11, .ref h7, .ref h13, .ref h14, .ref h15, .ref h16, .int i12, .int i13])), (h7, aJ cJ 22 f14), (h8, aI cI 21 f15), (h9, aI cI 21 f16), (h10, aJ cJ 21 f17), (h11, aJ cJ 21 f18), (h12, aI cI 21 f19), (h13, aJ cJ 21 f20), (h14, aI cI 21 f21), (h15, aJ cJ 58 f22), (h16, aJ cJ 58 f23), (h2, .inr (2, [.ref h3, .ref h5, .int i8])), (h3, aI cI 20 f9), (h4, aI cI 20 f10), (h5, aI cI 20 f11)] := hD
      refine lv_aload_n hx hb dX8_isPlane_65 rfl (lv_at hl 1 rfl) ?_
      refine va_get (D := G) (ci := 8) (v := .int 1) (C := RX8) (T := TX8) (N := 16) hx hb hts xinX8 hown hK hP 0 rfl rfl 12 (by decide) (hts _ wo_266) (fun _ h9 => h9) rfl dX8_isPlane_66 ?_
      have hP9 : va_P G vwCl [(h0, .inr (8, [.ref h1, .ref k0, .ref k1, .ref h6, .ref h2, .ref k2, .ref k3, .ref k4, .ref k5, .ref k6, .ref k7, .int 1, .int 1, .int i2, .int i3, .int i4])), (h1, .inr (3, [.ref k8, .ref k9, .ref h4, .int i5, .int i6, .int i7])), (h2, .inr (2, [.ref h3, .ref h5, .int i8])), (h3, aI cI 20 f9), (h4, aI cI 20 f10), (h5, aI cI 20 f11), (h6, .inr (5, [.ref h8, .ref h12, .ref h9, .ref h10, .ref h11, .ref h7, .ref h13, .ref h14, .ref h15, .ref h16, .int i12, .int i13])), (h7, aJ cJ 22 f14), (h8, aI cI 21 f15), (h9, aI cI 21 f16), (h10, aJ cJ 21 f17), (h11, aJ cJ 21 f18), (h12, aI cI 21 f19), (h13, aJ cJ 21 f20), (h14, aI cI 21 f21), (h15, aJ cJ 58 f22), (h16, aJ cJ 58 f23)] H := hP.sub [0, 1, 13, 14, 15, 16, 2, 3, 4, 5, 6, 7, 8, 9, 10, 11, 12] rfl
      have hD9 : va_D A [(h0, .inr (8, [.ref h1, .ref k0, .ref k1, .ref h6, .ref h2, .ref k2, .ref k3, .ref k4, .ref k5, .ref k6, .ref k7, .int 1, .int 1, .int i2, .int i3, .int i4])), (h1, .inr (3, [.ref k8, .ref k9, .ref h4, .int i5, .int i6, .int i7])), (h2, .inr (2, [.ref h3, .ref h5, .int i8])), (h3, aI cI 20 f9), (h4, aI cI 20 f10), (h5, aI cI 20 f11), (h6, .inr (5, [.ref h8, .ref h12, .ref h9, .ref h10, .ref h11, .ref h7, .ref h13, .ref h14, .ref h15, .ref h16, .int i12, .int i13])), (h7, aJ cJ 22 f14), (h8, aI cI 21 f15), (h9, aI cI 21 f16), (h10, aJ cJ 21 f17), (h11, aJ cJ 21 f18), (h12, aI cI 21 f19), (h13, aJ cJ 21 f20), (h14, aI cI 21 f21), (h15, aJ cJ 58 f22), (h16, aJ cJ 58 f23)] := hD.sub [0, 1, 13, 14, 15, 16, 2, 3, 4, 5, 6, 7, 8, 9, 10, 11, 12] (by decide) rfl
      rw [← hQQ]
      exact W.zret (v := 1) hx hb hr rfl (fun t ht hW => ⟨⟨_, ((1 : Int32), (1 : Int32), i12, i13, f14, f15, f16, f17, f18, f19, f20, f21, f22, f23), rfl, hwp, by rw [ht]; exact hP9, hD9⟩, hS.F ht⟩) hS.2.2 dX8_isPlane_69
    · replace hwp := hwp.2 c31
      refine lv_aload_n hx hb dX8_isPlane_34 rfl (lv_at hl 1 rfl) ?_
      refine va_get (D := G) (ci := 8) (v := .ref h6) (C := RX8) (T := TX8) (N := 16) hx hb hts xinX8 hown hK hP 0 rfl rfl 3 (by decide) (hts _ wo_273) (fun _ h9 => h9) rfl dX8_isPlane_35 ?_
      refine lv_aload_n hx hb dX8_isPlane_38 rfl (lv_at hl 1 rfl) ?_
      refine va_get (D := G) (ci := 8) (v := .ref h1) (C := RX8) (T := TX8) (N := 16) hx hb hts xinX8 hown hK hP 0 rfl rfl 0 (by decide) (hts _ wo_204) (fun _ h9 => h9) rfl dX8_isPlane_39 ?_
      refine va_getN (D := G) (ci := 3) (v := .ref h4) (C := RX3) (T := TX3) (N := 6) hx hb hts xinX3 hown hK hP 1 rfl rfl 2 (by decide) (va_Nw.use rfl (hN.1 ("PlaneTests", 131, "PlaneTests$Graph", "joined", "[I", "PlaneTests") (by decide +kernel))) (fun _ h9 => h9) rfl dX8_isPlane_42 ?_
      refine lv_iload_n hx hb dX8_isPlane_45 rfl (lv_at hl 0 rfl) ?_
      refine xci (wr := [(h0, .inr (8, [.ref h1, .ref k0, .ref k1, .ref h6, .ref h2, .ref k2, .ref k3, .ref k4, .ref k5, .ref k6, .ref k7, .int i0, .int i1, .int i2, .int i3, .int i4])), (h1, .inr (3, [.ref k8, .ref k9, .ref h4, .int i5, .int i6, .int i7])), (h2, .inr (2, [.ref h3, .ref h5, .int i8])), (h3, aI cI 20 f9), (h5, aI cI 20 f11)]) (va_runV (As := [.ref h4, .int i5]) (rest := [.ref h0]) ⟨hx, hb, hml, hown, hts⟩ (zX5_accepts l G cI cJ cZ h6 h7 h8 h4 h9 h10 h11 h12 h13 h14 h15 h16 H.size i12 i13 f14 f15 f10 f16 f17 f18 f19 f20 f21 f22 f23 i5 _ hwp) (cwV 2 hts (xgoodV wo_274 wo_275 wo_276 wo_277 wo_107) rfl rfl rfl (by decide +kernel) ⟨Nat.le_of_ble_eq_true rfl, Nat.le_of_ble_eq_true rfl⟩) (xPreV (q := (RX5, TX5, 12)) (q0 := 2) hK hN hP hD [2, 3, 4, 15, 5, 6, 7, 8, 9, 10, 11, 12] (by decide) rfl rfl rfl) rfl rfl hl.1 rfl (lv_room (Nat.le_of_ble_eq_true rfl)) dX8_isPlane_46 ⟨Nat.le_of_ble_eq_true rfl, Nat.le_of_ble_eq_true rfl⟩) hP hD hS hA [2, 3, 4, 15, 5, 6, 7, 8, 9, 10, 11, 12] [0, 1, 13, 14, 16] rfl rfl (by decide) (by decide) (fun r46 u46 H locs hwp hP hD hS => ?_)
      replace hP : va_P G vwCl [(h0, .inr (8, [.ref h1, .ref k0, .ref k1, .ref h6, .ref h2, .ref k2, .ref k3, .ref k4, .ref k5, .ref k6, .ref k7, .int i0, .int i1, .int i2, .int i3, .int i4])), (h1, .inr (3, [.ref k8, .ref k9, .ref h4, .int i5, .int i6, .int i7])), (h2, .inr (2, [.ref h3, .ref h5, .int i8])), (h3, aI cI 20 f9), (h5, aI cI 20 f11), (h6, .inr (5, [.ref h8, .ref h12, .ref h9, .ref h10, .ref h11, .ref h7, .ref h13, .ref h14, .ref h15, .ref h16, .int u46.1, .int u46.2.1])), (h7, aJ cJ 22 u46.2.2.1), (h8, aI cI 21 u46.2.2.2.1), (h4, aI cI 20 f10), (h9, aI cI 21 u46.2.2.2.2.1), (h10, aJ cJ 21 u46.2.2.2.2.2.1), (h11, aJ cJ 21 u46.2.2.2.2.2.2.1), (h12, aI cI 21 u46.2.2.2.2.2.2.2.1), (h13, aJ cJ 21 u46.2.2.2.2.2.2.2.2.1), (h14, aI cI 21 u46.2.2.2.2.2.2.2.2.2.1), (h15, aJ cJ 58 u46.2.2.2.2.2.2.2.2.2.2.1), (h16, aJ cJ 58 u46.2.2.2.2.2.2.2.2.2.2.2)] H := hP
      replace hD : va_D A [(h0, .inr (8, [.ref h1, .ref k0, .ref k1, .ref h6, .ref h2, .ref k2, .ref k3, .ref k4, .ref k5, .ref k6, .ref k7, .int i0, .int i1, .int i2, .int i3, .int i4])), (h1, .inr (3, [.ref k8, .ref k9, .ref h4, .int i5, .int i6, .int i7])), (h2, .inr (2, [.ref h3, .ref h5, .int i8])), (h3, aI cI 20 f9), (h5, aI cI 20 f11), (h6, .inr (5, [.ref h8, .ref h12, .ref h9, .ref h10, .ref h11, .ref h7, .ref h13, .ref h14, .ref h15, .ref h16, .int u46.1, .int u46.2.1])), (h7, aJ cJ 22 u46.2.2.1), (h8, aI cI 21 u46.2.2.2.1), (h4, aI cI 20 f10), (h9, aI cI 21 u46.2.2.2.2.1), (h10, aJ cJ 21 u46.2.2.2.2.2.1), (h11, aJ cJ 21 u46.2.2.2.2.2.2.1), (h12, aI cI 21 u46.2.2.2.2.2.2.2.1), (h13, aJ cJ 21 u46.2.2.2.2.2.2.2.2.1), (h14, aI cI 21 u46.2.2.2.2.2.2.2.2.2.1), (h15, aJ cJ 58 u46.2.2.2.2.2.2.2.2.2.2.1), (h16, aJ cJ 58 u46.2.2.2.2.2.2.2.2.2.2.2)] := hD
      refine lv_if_eq (tgt := 56) hx hb dX8_isPlane_49 (by decide) (fun c49 => ?_) (fun c49 => ?_)
      · replace hwp := hwp.1 c49
        refine lv_iconst (v := 0) hx hb dX8_isPlane_56 (by decide) ?_
        refine va_put (D := G) (ci := 8) (v := .int 0) (ty := .boolean) (C := RX8) (T := TX8) (N := 16) hx hb hts xinX8 tyX8 tyX8_ok nmX8 hown hK hP hD hS 0 rfl rfl 12 (by decide) (hts _ wo_266) (fun _ h9 => h9) rfl (by decide +kernel) rfl rfl (Nat.le_of_ble_eq_true rfl) dX8_isPlane_57 (fun H locs hP hD hS => ?_)
        replace hP : va_P G vwCl [(h0, .inr (8, [.ref h1, .ref k0, .ref k1, .ref h6, .ref h2, .ref k2, .ref k3, .ref k4, .ref k5, .ref k6, .ref k7, .int i0, .int 0, .int i2, .int i3, .int i4])), (h1, .inr (3, [.ref k8, .ref k9, .ref h4, .int i5, .int i6, .int i7])), (h2, .inr (2, [.ref h3, .ref h5, .int i8])), (h3, aI cI 20 f9), (h5, aI cI 20 f11), (h6, .inr (5, [.ref h8, .ref h12, .ref h9, .ref h10, .ref h11, .ref h7, .ref h13, .ref h14, .ref h15, .ref h16, .int u46.1, .int u46.2.1])), (h7, aJ cJ 22 u46.2.2.1), (h8, aI cI 21 u46.2.2.2.1), (h4, aI cI 20 f10), (h9, aI cI 21 u46.2.2.2.2.1), (h10, aJ cJ 21 u46.2.2.2.2.2.1), (h11, aJ cJ 21 u46.2.2.2.2.2.2.1), (h12, aI cI 21 u46.2.2.2.2.2.2.2.1), (h13, aJ cJ 21 u46.2.2.2.2.2.2.2.2.1), (h14, aI cI 21 u46.2.2.2.2.2.2.2.2.2.1), (h15, aJ cJ 58 u46.2.2.2.2.2.2.2.2.2.2.1), (h16, aJ cJ 58 u46.2.2.2.2.2.2.2.2.2.2.2)] H := hP
        replace hD : va_D A [(h0, .inr (8, [.ref h1, .ref k0, .ref k1, .ref h6, .ref h2, .ref k2, .ref k3, .ref k4, .ref k5, .ref k6, .ref k7, .int i0, .int 0, .int i2, .int i3, .int i4])), (h1, .inr (3, [.ref k8, .ref k9, .ref h4, .int i5, .int i6, .int i7])), (h2, .inr (2, [.ref h3, .ref h5, .int i8])), (h3, aI cI 20 f9), (h5, aI cI 20 f11), (h6, .inr (5, [.ref h8, .ref h12, .ref h9, .ref h10, .ref h11, .ref h7, .ref h13, .ref h14, .ref h15, .ref h16, .int u46.1, .int u46.2.1])), (h7, aJ cJ 22 u46.2.2.1), (h8, aI cI 21 u46.2.2.2.1), (h4, aI cI 20 f10), (h9, aI cI 21 u46.2.2.2.2.1), (h10, aJ cJ 21 u46.2.2.2.2.2.1), (h11, aJ cJ 21 u46.2.2.2.2.2.2.1), (h12, aI cI 21 u46.2.2.2.2.2.2.2.1), (h13, aJ cJ 21 u46.2.2.2.2.2.2.2.2.1), (h14, aI cI 21 u46.2.2.2.2.2.2.2.2.2.1), (h15, aJ cJ 58 u46.2.2.2.2.2.2.2.2.2.2.1), (h16, aJ cJ 58 u46.2.2.2.2.2.2.2.2.2.2.2)] := hD
        refine lv_aload_n hx hb dX8_isPlane_60 rfl (lv_at hl 1 rfl) ?_
        refine lv_iconst (v := 1) hx hb dX8_isPlane_61 (by decide) ?_
        refine va_put (D := G) (ci := 8) (v := .int 1) (ty := .boolean) (C := RX8) (T := TX8) (N := 16) hx hb hts xinX8 tyX8 tyX8_ok nmX8 hown hK hP hD hS 0 rfl rfl 11 (by decide) (hts _ wo_200) (fun _ h9 => h9) rfl (by decide +kernel) rfl rfl (Nat.le_of_ble_eq_true rfl) dX8_isPlane_62 (fun H locs hP hD hS => ?_)
        replace hP : va_P G vwCl [(h0, .inr (8, [.ref h1, .ref k0, .ref k1, .ref h6, .ref h2, .ref k2, .ref k3, .ref k4, .ref k5, .ref k6, .ref k7, .int 1, .int 0, .int i2, .int i3, .int i4])), (h1, .inr (3, [.ref k8, .ref k9, .ref h4, .int i5, .int i6, .int i7])), (h2, .inr (2, [.ref h3, .ref h5, .int i8])), (h3, aI cI 20 f9), (h5, aI cI 20 f11), (h6, .inr (5, [.ref h8, .ref h12, .ref h9, .ref h10, .ref h11, .ref h7, .ref h13, .ref h14, .ref h15, .ref h16, .int u46.1, .int u46.2.1])), (h7, aJ cJ 22 u46.2.2.1), (h8, aI cI 21 u46.2.2.2.1), (h4, aI cI 20 f10), (h9, aI cI 21 u46.2.2.2.2.1), (h10, aJ cJ 21 u46.2.2.2.2.2.1), (h11, aJ cJ 21 u46.2.2.2.2.2.2.1), (h12, aI cI 21 u46.2.2.2.2.2.2.2.1), (h13, aJ cJ 21 u46.2.2.2.2.2.2.2.2.1), (h14, aI cI 21 u46.2.2.2.2.2.2.2.2.2.1), (h15, aJ cJ 58 u46.2.2.2.2.2.2.2.2.2.2.1), (h16, aJ cJ 58 u46.2.2.2.2.2.2.2.2.2.2.2)] H := hP
        replace hD : va_D A [(h0, .inr (8, [.ref h1, .ref k0, .ref k1, .ref h6, .ref h2, .ref k2, .ref k3, .ref k4, .ref k5, .ref k6, .ref k7, .int 1, .int 0, .int i2, .int i3, .int i4])), (h1, .inr (3, [.ref k8, .ref k9, .ref h4, .int i5, .int i6, .int i7])), (h2, .inr (2, [.ref h3, .ref h5, .int i8])), (h3, aI cI 20 f9), (h5, aI cI 20 f11), (h6, .inr (5, [.ref h8, .ref h12, .ref h9, .ref h10, .ref h11, .ref h7, .ref h13, .ref h14, .ref h15, .ref h16, .int u46.1, .int u46.2.1])), (h7, aJ cJ 22 u46.2.2.1), (h8, aI cI 21 u46.2.2.2.1), (h4, aI cI 20 f10), (h9, aI cI 21 u46.2.2.2.2.1), (h10, aJ cJ 21 u46.2.2.2.2.2.1), (h11, aJ cJ 21 u46.2.2.2.2.2.2.1), (h12, aI cI 21 u46.2.2.2.2.2.2.2.1), (h13, aJ cJ 21 u46.2.2.2.2.2.2.2.2.1), (h14, aI cI 21 u46.2.2.2.2.2.2.2.2.2.1), (h15, aJ cJ 58 u46.2.2.2.2.2.2.2.2.2.2.1), (h16, aJ cJ 58 u46.2.2.2.2.2.2.2.2.2.2.2)] := hD
        refine lv_aload_n hx hb dX8_isPlane_65 rfl (lv_at hl 1 rfl) ?_
        refine va_get (D := G) (ci := 8) (v := .int 0) (C := RX8) (T := TX8) (N := 16) hx hb hts xinX8 hown hK hP 0 rfl rfl 12 (by decide) (hts _ wo_266) (fun _ h9 => h9) rfl dX8_isPlane_66 ?_
        have hP9 : va_P G vwCl [(h0, .inr (8, [.ref h1, .ref k0, .ref k1, .ref h6, .ref h2, .ref k2, .ref k3, .ref k4, .ref k5, .ref k6, .ref k7, .int 1, .int 0, .int i2, .int i3, .int i4])), (h1, .inr (3, [.ref k8, .ref k9, .ref h4, .int i5, .int i6, .int i7])), (h2, .inr (2, [.ref h3, .ref h5, .int i8])), (h3, aI cI 20 f9), (h4, aI cI 20 f10), (h5, aI cI 20 f11), (h6, .inr (5, [.ref h8, .ref h12, .ref h9, .ref h10, .ref h11, .ref h7, .ref h13, .ref h14, .ref h15, .ref h16, .int u46.1, .int u46.2.1])), (h7, aJ cJ 22 u46.2.2.1), (h8, aI cI 21 u46.2.2.2.1), (h9, aI cI 21 u46.2.2.2.2.1), (h10, aJ cJ 21 u46.2.2.2.2.2.1), (h11, aJ cJ 21 u46.2.2.2.2.2.2.1), (h12, aI cI 21 u46.2.2.2.2.2.2.2.1), (h13, aJ cJ 21 u46.2.2.2.2.2.2.2.2.1), (h14, aI cI 21 u46.2.2.2.2.2.2.2.2.2.1), (h15, aJ cJ 58 u46.2.2.2.2.2.2.2.2.2.2.1), (h16, aJ cJ 58 u46.2.2.2.2.2.2.2.2.2.2.2)] H := hP.sub [0, 1, 2, 3, 8, 4, 5, 6, 7, 9, 10, 11, 12, 13, 14, 15, 16] rfl
        have hD9 : va_D A [(h0, .inr (8, [.ref h1, .ref k0, .ref k1, .ref h6, .ref h2, .ref k2, .ref k3, .ref k4, .ref k5, .ref k6, .ref k7, .int 1, .int 0, .int i2, .int i3, .int i4])), (h1, .inr (3, [.ref k8, .ref k9, .ref h4, .int i5, .int i6, .int i7])), (h2, .inr (2, [.ref h3, .ref h5, .int i8])), (h3, aI cI 20 f9), (h4, aI cI 20 f10), (h5, aI cI 20 f11), (h6, .inr (5, [.ref h8, .ref h12, .ref h9, .ref h10, .ref h11, .ref h7, .ref h13, .ref h14, .ref h15, .ref h16, .int u46.1, .int u46.2.1])), (h7, aJ cJ 22 u46.2.2.1), (h8, aI cI 21 u46.2.2.2.1), (h9, aI cI 21 u46.2.2.2.2.1), (h10, aJ cJ 21 u46.2.2.2.2.2.1), (h11, aJ cJ 21 u46.2.2.2.2.2.2.1), (h12, aI cI 21 u46.2.2.2.2.2.2.2.1), (h13, aJ cJ 21 u46.2.2.2.2.2.2.2.2.1), (h14, aI cI 21 u46.2.2.2.2.2.2.2.2.2.1), (h15, aJ cJ 58 u46.2.2.2.2.2.2.2.2.2.2.1), (h16, aJ cJ 58 u46.2.2.2.2.2.2.2.2.2.2.2)] := hD.sub [0, 1, 2, 3, 8, 4, 5, 6, 7, 9, 10, 11, 12, 13, 14, 15, 16] (by decide) rfl
        rw [← hQQ]
        exact W.zret (v := 0) hx hb hr rfl (fun t ht hW => ⟨⟨_, ((1 : Int32), (0 : Int32), u46.1, u46.2.1, u46.2.2.1, u46.2.2.2.1, u46.2.2.2.2.1, u46.2.2.2.2.2.1, u46.2.2.2.2.2.2.1, u46.2.2.2.2.2.2.2.1, u46.2.2.2.2.2.2.2.2.1, u46.2.2.2.2.2.2.2.2.2.1, u46.2.2.2.2.2.2.2.2.2.2.1, u46.2.2.2.2.2.2.2.2.2.2.2), rfl, hwp, by rw [ht]; exact hP9, hD9⟩, hS.F ht⟩) hS.2.2 dX8_isPlane_69
      · replace hwp := hwp.2 c49
        refine lv_iconst (v := 1) hx hb dX8_isPlane_52 (by decide) ?_
        refine lv_goto (tgt := 57) hx hb dX8_isPlane_53 (by decide) ?_
        refine va_put (D := G) (ci := 8) (v := .int 1) (ty := .boolean) (C := RX8) (T := TX8) (N := 16) hx hb hts xinX8 tyX8 tyX8_ok nmX8 hown hK hP hD hS 0 rfl rfl 12 (by decide) (hts _ wo_266) (fun _ h9 => h9) rfl (by decide +kernel) rfl rfl (Nat.le_of_ble_eq_true rfl) dX8_isPlane_57 (fun H locs hP hD hS => ?_)
        replace hP : va_P G vwCl [(h0, .inr (8, [.ref h1, .ref k0, .ref k1, .ref h6, .ref h2, .ref k2, .ref k3, .ref k4, .ref k5, .ref k6, .ref k7, .int i0, .int 1, .int i2, .int i3, .int i4])), (h1, .inr (3, [.ref k8, .ref k9, .ref h4, .int i5, .int i6, .int i7])), (h2, .inr (2, [.ref h3, .ref h5, .int i8])), (h3, aI cI 20 f9), (h5, aI cI 20 f11), (h6, .inr (5, [.ref h8, .ref h12, .ref h9, .ref h10, .ref h11, .ref h7, .ref h13, .ref h14, .ref h15, .ref h16, .int u46.1, .int u46.2.1])), (h7, aJ cJ 22 u46.2.2.1), (h8, aI cI 21 u46.2.2.2.1), (h4, aI cI 20 f10), (h9, aI cI 21 u46.2.2.2.2.1), (h10, aJ cJ 21 u46.2.2.2.2.2.1), (h11, aJ cJ 21 u46.2.2.2.2.2.2.1), (h12, aI cI 21 u46.2.2.2.2.2.2.2.1), (h13, aJ cJ 21 u46.2.2.2.2.2.2.2.2.1), (h14, aI cI 21 u46.2.2.2.2.2.2.2.2.2.1), (h15, aJ cJ 58 u46.2.2.2.2.2.2.2.2.2.2.1), (h16, aJ cJ 58 u46.2.2.2.2.2.2.2.2.2.2.2)] H := hP
        replace hD : va_D A [(h0, .inr (8, [.ref h1, .ref k0, .ref k1, .ref h6, .ref h2, .ref k2, .ref k3, .ref k4, .ref k5, .ref k6, .ref k7, .int i0, .int 1, .int i2, .int i3, .int i4])), (h1, .inr (3, [.ref k8, .ref k9, .ref h4, .int i5, .int i6, .int i7])), (h2, .inr (2, [.ref h3, .ref h5, .int i8])), (h3, aI cI 20 f9), (h5, aI cI 20 f11), (h6, .inr (5, [.ref h8, .ref h12, .ref h9, .ref h10, .ref h11, .ref h7, .ref h13, .ref h14, .ref h15, .ref h16, .int u46.1, .int u46.2.1])), (h7, aJ cJ 22 u46.2.2.1), (h8, aI cI 21 u46.2.2.2.1), (h4, aI cI 20 f10), (h9, aI cI 21 u46.2.2.2.2.1), (h10, aJ cJ 21 u46.2.2.2.2.2.1), (h11, aJ cJ 21 u46.2.2.2.2.2.2.1), (h12, aI cI 21 u46.2.2.2.2.2.2.2.1), (h13, aJ cJ 21 u46.2.2.2.2.2.2.2.2.1), (h14, aI cI 21 u46.2.2.2.2.2.2.2.2.2.1), (h15, aJ cJ 58 u46.2.2.2.2.2.2.2.2.2.2.1), (h16, aJ cJ 58 u46.2.2.2.2.2.2.2.2.2.2.2)] := hD
        refine lv_aload_n hx hb dX8_isPlane_60 rfl (lv_at hl 1 rfl) ?_
        refine lv_iconst (v := 1) hx hb dX8_isPlane_61 (by decide) ?_
        refine va_put (D := G) (ci := 8) (v := .int 1) (ty := .boolean) (C := RX8) (T := TX8) (N := 16) hx hb hts xinX8 tyX8 tyX8_ok nmX8 hown hK hP hD hS 0 rfl rfl 11 (by decide) (hts _ wo_200) (fun _ h9 => h9) rfl (by decide +kernel) rfl rfl (Nat.le_of_ble_eq_true rfl) dX8_isPlane_62 (fun H locs hP hD hS => ?_)
        replace hP : va_P G vwCl [(h0, .inr (8, [.ref h1, .ref k0, .ref k1, .ref h6, .ref h2, .ref k2, .ref k3, .ref k4, .ref k5, .ref k6, .ref k7, .int 1, .int 1, .int i2, .int i3, .int i4])), (h1, .inr (3, [.ref k8, .ref k9, .ref h4, .int i5, .int i6, .int i7])), (h2, .inr (2, [.ref h3, .ref h5, .int i8])), (h3, aI cI 20 f9), (h5, aI cI 20 f11), (h6, .inr (5, [.ref h8, .ref h12, .ref h9, .ref h10, .ref h11, .ref h7, .ref h13, .ref h14, .ref h15, .ref h16, .int u46.1, .int u46.2.1])), (h7, aJ cJ 22 u46.2.2.1), (h8, aI cI 21 u46.2.2.2.1), (h4, aI cI 20 f10), (h9, aI cI 21 u46.2.2.2.2.1), (h10, aJ cJ 21 u46.2.2.2.2.2.1), (h11, aJ cJ 21 u46.2.2.2.2.2.2.1), (h12, aI cI 21 u46.2.2.2.2.2.2.2.1), (h13, aJ cJ 21 u46.2.2.2.2.2.2.2.2.1), (h14, aI cI 21 u46.2.2.2.2.2.2.2.2.2.1), (h15, aJ cJ 58 u46.2.2.2.2.2.2.2.2.2.2.1), (h16, aJ cJ 58 u46.2.2.2.2.2.2.2.2.2.2.2)] H := hP
        replace hD : va_D A [(h0, .inr (8, [.ref h1, .ref k0, .ref k1, .ref h6, .ref h2, .ref k2, .ref k3, .ref k4, .ref k5, .ref k6, .ref k7, .int 1, .int 1, .int i2, .int i3, .int i4])), (h1, .inr (3, [.ref k8, .ref k9, .ref h4, .int i5, .int i6, .int i7])), (h2, .inr (2, [.ref h3, .ref h5, .int i8])), (h3, aI cI 20 f9), (h5, aI cI 20 f11), (h6, .inr (5, [.ref h8, .ref h12, .ref h9, .ref h10, .ref h11, .ref h7, .ref h13, .ref h14, .ref h15, .ref h16, .int u46.1, .int u46.2.1])), (h7, aJ cJ 22 u46.2.2.1), (h8, aI cI 21 u46.2.2.2.1), (h4, aI cI 20 f10), (h9, aI cI 21 u46.2.2.2.2.1), (h10, aJ cJ 21 u46.2.2.2.2.2.1), (h11, aJ cJ 21 u46.2.2.2.2.2.2.1), (h12, aI cI 21 u46.2.2.2.2.2.2.2.1), (h13, aJ cJ 21 u46.2.2.2.2.2.2.2.2.1), (h14, aI cI 21 u46.2.2.2.2.2.2.2.2.2.1), (h15, aJ cJ 58 u46.2.2.2.2.2.2.2.2.2.2.1), (h16, aJ cJ 58 u46.2.2.2.2.2.2.2.2.2.2.2)] := hD
        refine lv_aload_n hx hb dX8_isPlane_65 rfl (lv_at hl 1 rfl) ?_
        refine va_get (D := G) (ci := 8) (v := .int 1) (C := RX8) (T := TX8) (N := 16) hx hb hts xinX8 hown hK hP 0 rfl rfl 12 (by decide) (hts _ wo_266) (fun _ h9 => h9) rfl dX8_isPlane_66 ?_
        have hP9 : va_P G vwCl [(h0, .inr (8, [.ref h1, .ref k0, .ref k1, .ref h6, .ref h2, .ref k2, .ref k3, .ref k4, .ref k5, .ref k6, .ref k7, .int 1, .int 1, .int i2, .int i3, .int i4])), (h1, .inr (3, [.ref k8, .ref k9, .ref h4, .int i5, .int i6, .int i7])), (h2, .inr (2, [.ref h3, .ref h5, .int i8])), (h3, aI cI 20 f9), (h4, aI cI 20 f10), (h5, aI cI 20 f11), (h6, .inr (5, [.ref h8, .ref h12, .ref h9, .ref h10, .ref h11, .ref h7, .ref h13, .ref h14, .ref h15, .ref h16, .int u46.1, .int u46.2.1])), (h7, aJ cJ 22 u46.2.2.1), (h8, aI cI 21 u46.2.2.2.1), (h9, aI cI 21 u46.2.2.2.2.1), (h10, aJ cJ 21 u46.2.2.2.2.2.1), (h11, aJ cJ 21 u46.2.2.2.2.2.2.1), (h12, aI cI 21 u46.2.2.2.2.2.2.2.1), (h13, aJ cJ 21 u46.2.2.2.2.2.2.2.2.1), (h14, aI cI 21 u46.2.2.2.2.2.2.2.2.2.1), (h15, aJ cJ 58 u46.2.2.2.2.2.2.2.2.2.2.1), (h16, aJ cJ 58 u46.2.2.2.2.2.2.2.2.2.2.2)] H := hP.sub [0, 1, 2, 3, 8, 4, 5, 6, 7, 9, 10, 11, 12, 13, 14, 15, 16] rfl
        have hD9 : va_D A [(h0, .inr (8, [.ref h1, .ref k0, .ref k1, .ref h6, .ref h2, .ref k2, .ref k3, .ref k4, .ref k5, .ref k6, .ref k7, .int 1, .int 1, .int i2, .int i3, .int i4])), (h1, .inr (3, [.ref k8, .ref k9, .ref h4, .int i5, .int i6, .int i7])), (h2, .inr (2, [.ref h3, .ref h5, .int i8])), (h3, aI cI 20 f9), (h4, aI cI 20 f10), (h5, aI cI 20 f11), (h6, .inr (5, [.ref h8, .ref h12, .ref h9, .ref h10, .ref h11, .ref h7, .ref h13, .ref h14, .ref h15, .ref h16, .int u46.1, .int u46.2.1])), (h7, aJ cJ 22 u46.2.2.1), (h8, aI cI 21 u46.2.2.2.1), (h9, aI cI 21 u46.2.2.2.2.1), (h10, aJ cJ 21 u46.2.2.2.2.2.1), (h11, aJ cJ 21 u46.2.2.2.2.2.2.1), (h12, aI cI 21 u46.2.2.2.2.2.2.2.1), (h13, aJ cJ 21 u46.2.2.2.2.2.2.2.2.1), (h14, aI cI 21 u46.2.2.2.2.2.2.2.2.2.1), (h15, aJ cJ 58 u46.2.2.2.2.2.2.2.2.2.2.1), (h16, aJ cJ 58 u46.2.2.2.2.2.2.2.2.2.2.2)] := hD.sub [0, 1, 2, 3, 8, 4, 5, 6, 7, 9, 10, 11, 12, 13, 14, 15, 16] (by decide) rfl
        rw [← hQQ]
        exact W.zret (v := 1) hx hb hr rfl (fun t ht hW => ⟨⟨_, ((1 : Int32), (1 : Int32), u46.1, u46.2.1, u46.2.2.1, u46.2.2.2.1, u46.2.2.2.2.1, u46.2.2.2.2.2.1, u46.2.2.2.2.2.2.1, u46.2.2.2.2.2.2.2.1, u46.2.2.2.2.2.2.2.2.1, u46.2.2.2.2.2.2.2.2.2.1, u46.2.2.2.2.2.2.2.2.2.2.1, u46.2.2.2.2.2.2.2.2.2.2.2), rfl, hwp, by rw [ht]; exact hP9, hD9⟩, hS.F ht⟩) hS.2.2 dX8_isPlane_69
def wX8_test (i0 : Int32) (i1 : Int32) (i2 : Int32) (i3 : Int32) (i4 : Int32) (i5 : Int32) (i6 : Int32) (i7 : Int32) (i8 : Int32) (f9 : Nat → Int32) (f10 : Nat → Int32) (f11 : Nat → Int32) (i12 : Int32) (i13 : Int32) (f14 : Nat → Int64) (f15 : Nat → Int32) (f16 : Nat → Int32) (f17 : Nat → Int64) (f18 : Nat → Int64) (f19 : Nat → Int32) (f20 : Nat → Int64) (f21 : Nat → Int32) (f22 : Nat → Int64) (f23 : Nat → Int64) (K : Int32 → (Int32 × Int32 × Int32 × Int32 × (Nat → Int64) × (Nat → Int32) × (Nat → Int32) × (Nat → Int64) × (Nat → Int64) × (Nat → Int32) × (Nat → Int64) × (Nat → Int32) × (Nat → Int64) × (Nat → Int64)) → Prop) : Prop := (wX8_isPlane i0 i1 i2 i3 i4 i5 i6 i7 i8 f9 f10 f11 i12 i13 f14 f15 f16 f17 f18 f19 f20 f21 f22 f23 (fun r1 u1 => ((r1 = 0 → K (0 : Int32) (u1.1, u1.2.1, u1.2.2.1, u1.2.2.2.1, u1.2.2.2.2.1, u1.2.2.2.2.2.1, u1.2.2.2.2.2.2.1, u1.2.2.2.2.2.2.2.1, u1.2.2.2.2.2.2.2.2.1, u1.2.2.2.2.2.2.2.2.2.1, u1.2.2.2.2.2.2.2.2.2.2.1, u1.2.2.2.2.2.2.2.2.2.2.2.1, u1.2.2.2.2.2.2.2.2.2.2.2.2.1, u1.2.2.2.2.2.2.2.2.2.2.2.2.2)) ∧ (¬ r1 = 0 → K (1 : Int32) (u1.1, u1.2.1, u1.2.2.1, u1.2.2.2.1, u1.2.2.2.2.1, u1.2.2.2.2.2.1, u1.2.2.2.2.2.2.1, u1.2.2.2.2.2.2.2.1, u1.2.2.2.2.2.2.2.2.1, u1.2.2.2.2.2.2.2.2.2.1, u1.2.2.2.2.2.2.2.2.2.2.1, u1.2.2.2.2.2.2.2.2.2.2.2.1, u1.2.2.2.2.2.2.2.2.2.2.2.2.1, u1.2.2.2.2.2.2.2.2.2.2.2.2.2)))))
set_option maxHeartbeats 4000000 in
set_option maxRecDepth 100000 in
theorem zX8_test (l : Launch) (G : va_G) (cI cJ cZ : ClassId) (h0 h1 h2 h3 h4 h5 h6 h7 h8 h9 h10 h11 h12 h13 h14 h15 h16 k0 k1 k2 k3 k4 k5 k6 k7 k8 k9 sz : Nat) (i0 : Int32) (i1 : Int32) (i2 : Int32) (i3 : Int32) (i4 : Int32) (i5 : Int32) (i6 : Int32) (i7 : Int32) (i8 : Int32) (f9 : Nat → Int32) (f10 : Nat → Int32) (f11 : Nat → Int32) (i12 : Int32) (i13 : Int32) (f14 : Nat → Int64) (f15 : Nat → Int32) (f16 : Nat → Int32) (f17 : Nat → Int64) (f18 : Nat → Int64) (f19 : Nat → Int32) (f20 : Nat → Int64) (f21 : Nat → Int32) (f22 : Nat → Int64) (f23 : Nat → Int64) (K : Int32 → (Int32 × Int32 × Int32 × Int32 × (Nat → Int64) × (Nat → Int32) × (Nat → Int32) × (Nat → Int64) × (Nat → Int64) × (Nat → Int32) × (Nat → Int64) × (Nat → Int32) × (Nat → Int64) × (Nat → Int64)) → Prop) (hwp : wX8_test i0 i1 i2 i3 i4 i5 i6 i7 i8 f9 f10 f11 i12 i13 f14 f15 f16 f17 f18 f19 f20 f21 f22 f23 K) : Met l yX8_test (xw yX8_test cX8_test 1 (some .int)) ({ frames := 5, cells := 0, slots := 0, locals := 109 }) (xPc G cI cJ cZ [.ref h0] [(h0, .inr (8, [.ref h1, .ref k0, .ref k1, .ref h6, .ref h2, .ref k2, .ref k3, .ref k4, .ref k5, .ref k6, .ref k7, .int i0, .int i1, .int i2, .int i3, .int i4])), (h1, .inr (3, [.ref k8, .ref k9, .ref h4, .int i5, .int i6, .int i7])), (h2, .inr (2, [.ref h3, .ref h5, .int i8])), (h3, aI cI 20 f9), (h4, aI cI 20 f10), (h5, aI cI 20 f11), (h6, .inr (5, [.ref h8, .ref h12, .ref h9, .ref h10, .ref h11, .ref h7, .ref h13, .ref h14, .ref h15, .ref h16, .int i12, .int i13])), (h7, aJ cJ 22 f14), (h8, aI cI 21 f15), (h9, aI cI 21 f16), (h10, aJ cJ 21 f17), (h11, aJ cJ 21 f18), (h12, aI cI 21 f19), (h13, aJ cJ 21 f20), (h14, aI cI 21 f21), (h15, aJ cJ 58 f22), (h16, aJ cJ 58 f23)] sz) (va_Qi (fun (r : Int32) (u : Int32 × Int32 × Int32 × Int32 × (Nat → Int64) × (Nat → Int32) × (Nat → Int32) × (Nat → Int64) × (Nat → Int64) × (Nat → Int32) × (Nat → Int64) × (Nat → Int32) × (Nat → Int64) × (Nat → Int64)) => K r u) (fun (u : Int32 × Int32 × Int32 × Int32 × (Nat → Int64) × (Nat → Int32) × (Nat → Int32) × (Nat → Int64) × (Nat → Int64) × (Nat → Int32) × (Nat → Int64) × (Nat → Int32) × (Nat → Int64) × (Nat → Int64)) t => xB G (va_A [(h0, .inr (8, [.ref h1, .ref k0, .ref k1, .ref h6, .ref h2, .ref k2, .ref k3, .ref k4, .ref k5, .ref k6, .ref k7, .int i0, .int i1, .int i2, .int i3, .int i4])), (h1, .inr (3, [.ref k8, .ref k9, .ref h4, .int i5, .int i6, .int i7])), (h2, .inr (2, [.ref h3, .ref h5, .int i8])), (h3, aI cI 20 f9), (h4, aI cI 20 f10), (h5, aI cI 20 f11), (h6, .inr (5, [.ref h8, .ref h12, .ref h9, .ref h10, .ref h11, .ref h7, .ref h13, .ref h14, .ref h15, .ref h16, .int i12, .int i13])), (h7, aJ cJ 22 f14), (h8, aI cI 21 f15), (h9, aI cI 21 f16), (h10, aJ cJ 21 f17), (h11, aJ cJ 21 f18), (h12, aI cI 21 f19), (h13, aJ cJ 21 f20), (h14, aI cI 21 f21), (h15, aJ cJ 58 f22), (h16, aJ cJ 58 f23)] sz) [(h0, .inr (8, [.ref h1, .ref k0, .ref k1, .ref h6, .ref h2, .ref k2, .ref k3, .ref k4, .ref k5, .ref k6, .ref k7, .int u.1, .int u.2.1, .int i2, .int i3, .int i4])), (h1, .inr (3, [.ref k8, .ref k9, .ref h4, .int i5, .int i6, .int i7])), (h2, .inr (2, [.ref h3, .ref h5, .int i8])), (h3, aI cI 20 f9), (h4, aI cI 20 f10), (h5, aI cI 20 f11), (h6, .inr (5, [.ref h8, .ref h12, .ref h9, .ref h10, .ref h11, .ref h7, .ref h13, .ref h14, .ref h15, .ref h16, .int u.2.2.1, .int u.2.2.2.1])), (h7, aJ cJ 22 u.2.2.2.2.1), (h8, aI cI 21 u.2.2.2.2.2.1), (h9, aI cI 21 u.2.2.2.2.2.2.1), (h10, aJ cJ 21 u.2.2.2.2.2.2.2.1), (h11, aJ cJ 21 u.2.2.2.2.2.2.2.2.1), (h12, aI cI 21 u.2.2.2.2.2.2.2.2.2.1), (h13, aJ cJ 21 u.2.2.2.2.2.2.2.2.2.2.1), (h14, aI cI 21 u.2.2.2.2.2.2.2.2.2.2.2.1), (h15, aJ cJ 58 u.2.2.2.2.2.2.2.2.2.2.2.2.1), (h16, aJ cJ 58 u.2.2.2.2.2.2.2.2.2.2.2.2.2)] t) (va_A [(h0, .inr (8, [.ref h1, .ref k0, .ref k1, .ref h6, .ref h2, .ref k2, .ref k3, .ref k4, .ref k5, .ref k6, .ref k7, .int i0, .int i1, .int i2, .int i3, .int i4])), (h1, .inr (3, [.ref k8, .ref k9, .ref h4, .int i5, .int i6, .int i7])), (h2, .inr (2, [.ref h3, .ref h5, .int i8])), (h3, aI cI 20 f9), (h4, aI cI 20 f10), (h5, aI cI 20 f11), (h6, .inr (5, [.ref h8, .ref h12, .ref h9, .ref h10, .ref h11, .ref h7, .ref h13, .ref h14, .ref h15, .ref h16, .int i12, .int i13])), (h7, aJ cJ 22 f14), (h8, aI cI 21 f15), (h9, aI cI 21 f16), (h10, aJ cJ 21 f17), (h11, aJ cJ 21 f18), (h12, aI cI 21 f19), (h13, aJ cJ 21 f20), (h14, aI cI 21 f21), (h15, aJ cJ 58 f22), (h16, aJ cJ 58 f23)] sz)) 0 0 (va_A [(h0, .inr (8, [.ref h1, .ref k0, .ref k1, .ref h6, .ref h2, .ref k2, .ref k3, .ref k4, .ref k5, .ref k6, .ref k7, .int i0, .int i1, .int i2, .int i3, .int i4])), (h1, .inr (3, [.ref k8, .ref k9, .ref h4, .int i5, .int i6, .int i7])), (h2, .inr (2, [.ref h3, .ref h5, .int i8])), (h3, aI cI 20 f9), (h4, aI cI 20 f10), (h5, aI cI 20 f11), (h6, .inr (5, [.ref h8, .ref h12, .ref h9, .ref h10, .ref h11, .ref h7, .ref h13, .ref h14, .ref h15, .ref h16, .int i12, .int i13])), (h7, aJ cJ 22 f14), (h8, aI cI 21 f15), (h9, aI cI 21 f16), (h10, aJ cJ 21 f17), (h11, aJ cJ 21 f18), (h12, aI cI 21 f19), (h13, aJ cJ 21 f20), (h14, aI cI 21 f21), (h15, aJ cJ 58 f22), (h16, aJ cJ 58 f23)] sz) := by
  refine Met.ofW (cc := cX8_test) (maxL := 1) (ret := (some .int)) (by decide) rfl ?_
  intro p e s m args below meth c s₁ B hml hv
  obtain ⟨rfl, hsz, hP, hK, hD0, hN⟩ := hv
  have hx := B.exec
  have hb := B.bytes
  have hr := B.returns
  have hts : ∀ w ∈ xW, w.before _ s = true := fun w h => atoms_spec (ws := xw yX8_test cX8_test 1 (some .int)) B.pre w (List.mem_cons_of_mem _ h)
  have hown : s.vm.findClass RX8 = some m.cls := findClass_of_methodNamed B.named
  have hlocks := B.notSynchronized
  subst hsz
  have hD := hD0.self (sz := s.heap.size)
  clear hD0
  generalize hAe : va_A [(h0, .inr (8, [.ref h1, .ref k0, .ref k1, .ref h6, .ref h2, .ref k2, .ref k3, .ref k4, .ref k5, .ref k6, .ref k7, .int i0, .int i1, .int i2, .int i3, .int i4])), (h1, .inr (3, [.ref k8, .ref k9, .ref h4, .int i5, .int i6, .int i7])), (h2, .inr (2, [.ref h3, .ref h5, .int i8])), (h3, aI cI 20 f9), (h4, aI cI 20 f10), (h5, aI cI 20 f11), (h6, .inr (5, [.ref h8, .ref h12, .ref h9, .ref h10, .ref h11, .ref h7, .ref h13, .ref h14, .ref h15, .ref h16, .int i12, .int i13])), (h7, aJ cJ 22 f14), (h8, aI cI 21 f15), (h9, aI cI 21 f16), (h10, aJ cJ 21 f17), (h11, aJ cJ 21 f18), (h12, aI cI 21 f19), (h13, aJ cJ 21 f20), (h14, aI cI 21 f21), (h15, aJ cJ 58 f22), (h16, aJ cJ 58 f23)] s.heap.size = A at hD ⊢
  have hA : ∀ q : Nat, s.heap.size ≤ q → A q := fun q h => by rw [← hAe]; exact Or.inr h
  clear hAe
  have hS : va_S A s.heap s.heap [] := va_S.rf
  replace hP : va_P G vwCl [(h0, .inr (8, [.ref h1, .ref k0, .ref k1, .ref h6, .ref h2, .ref k2, .ref k3, .ref k4, .ref k5, .ref k6, .ref k7, .int i0, .int i1, .int i2, .int i3, .int i4])), (h1, .inr (3, [.ref k8, .ref k9, .ref h4, .int i5, .int i6, .int i7])), (h2, .inr (2, [.ref h3, .ref h5, .int i8])), (h3, aI cI 20 f9), (h4, aI cI 20 f10), (h5, aI cI 20 f11), (h6, .inr (5, [.ref h8, .ref h12, .ref h9, .ref h10, .ref h11, .ref h7, .ref h13, .ref h14, .ref h15, .ref h16, .int i12, .int i13])), (h7, aJ cJ 22 f14), (h8, aI cI 21 f15), (h9, aI cI 21 f16), (h10, aJ cJ 21 f17), (h11, aJ cJ 21 f18), (h12, aI cI 21 f19), (h13, aJ cJ 21 f20), (h14, aI cI 21 f21), (h15, aJ cJ 58 f22), (h16, aJ cJ 58 f23)] s.heap := hP
  have hl := lv_entry ([.ref h0]) (n := 1) (Nat.le_of_ble_eq_true rfl)
  rw [lg_entry_eq]
  generalize (lg_sl ([.ref h0]) ++ List.replicate (1 - (lg_sl ([.ref h0])).length) Slot.unset).toArray = ls at hl ⊢
  replace hl : lv_has ls 1 [(0, .ref h0)] := hl
  generalize hQQ : MQ below _ _ s 0 0 _ = QQ
  skip
  unfold wX8_test at hwp
  refine lv_aload_n hx hb dX8_test_0 rfl (lv_at hl 0 rfl) ?_
  refine xci (wr := []) (va_runV (As := []) (rest := []) ⟨hx, hb, hml, hown, hts⟩ (zX8_isPlane l G cI cJ cZ h0 h1 h2 h3 h4 h5 h6 h7 h8 h9 h10 h11 h12 h13 h14 h15 h16 k0 k1 k2 k3 k4 k5 k6 k7 k8 k9 s.heap.size i0 i1 i2 i3 i4 i5 i6 i7 i8 f9 f10 f11 i12 i13 f14 f15 f16 f17 f18 f19 f20 f21 f22 f23 _ hwp) (cwV 0 hts (xgoodV wo_278 wo_279 wo_280 wo_281 wo_49) rfl rfl rfl (by decide +kernel) ⟨Nat.le_of_ble_eq_true rfl, Nat.le_of_ble_eq_true rfl⟩) (xPreV (q := (RX8, TX8, 16)) (q0 := 0) hK hN hP hD [0, 1, 2, 3, 4, 5, 6, 7, 8, 9, 10, 11, 12, 13, 14, 15, 16] (by decide) rfl rfl rfl) rfl rfl hl.1 rfl (lv_room (Nat.le_of_ble_eq_true rfl)) dX8_test_1 ⟨Nat.le_of_ble_eq_true rfl, Nat.le_of_ble_eq_true rfl⟩) hP hD hS hA [0, 1, 2, 3, 4, 5, 6, 7, 8, 9, 10, 11, 12, 13, 14, 15, 16] [] rfl rfl (by decide) (by decide) (fun r1 u1 H locs hwp hP hD hS => ?_)
  replace hP : va_P G vwCl [(h0, .inr (8, [.ref h1, .ref k0, .ref k1, .ref h6, .ref h2, .ref k2, .ref k3, .ref k4, .ref k5, .ref k6, .ref k7, .int u1.1, .int u1.2.1, .int i2, .int i3, .int i4])), (h1, .inr (3, [.ref k8, .ref k9, .ref h4, .int i5, .int i6, .int i7])), (h2, .inr (2, [.ref h3, .ref h5, .int i8])), (h3, aI cI 20 f9), (h4, aI cI 20 f10), (h5, aI cI 20 f11), (h6, .inr (5, [.ref h8, .ref h12, .ref h9, .ref h10, .ref h11, .ref h7, .ref h13, .ref h14, .ref h15, .ref h16, .int u1.2.2.1, .int u1.2.2.2.1])), (h7, aJ cJ 22 u1.2.2.2.2.1), (h8, aI cI 21 u1.2.2.2.2.2.1), (h9, aI cI 21 u1.2.2.2.2.2.2.1), (h10, aJ cJ 21 u1.2.2.2.2.2.2.2.1), (h11, aJ cJ 21 u1.2.2.2.2.2.2.2.2.1), (h12, aI cI 21 u1.2.2.2.2.2.2.2.2.2.1), (h13, aJ cJ 21 u1.2.2.2.2.2.2.2.2.2.2.1), (h14, aI cI 21 u1.2.2.2.2.2.2.2.2.2.2.2.1), (h15, aJ cJ 58 u1.2.2.2.2.2.2.2.2.2.2.2.2.1), (h16, aJ cJ 58 u1.2.2.2.2.2.2.2.2.2.2.2.2.2)] H := hP
  replace hD : va_D A [(h0, .inr (8, [.ref h1, .ref k0, .ref k1, .ref h6, .ref h2, .ref k2, .ref k3, .ref k4, .ref k5, .ref k6, .ref k7, .int u1.1, .int u1.2.1, .int i2, .int i3, .int i4])), (h1, .inr (3, [.ref k8, .ref k9, .ref h4, .int i5, .int i6, .int i7])), (h2, .inr (2, [.ref h3, .ref h5, .int i8])), (h3, aI cI 20 f9), (h4, aI cI 20 f10), (h5, aI cI 20 f11), (h6, .inr (5, [.ref h8, .ref h12, .ref h9, .ref h10, .ref h11, .ref h7, .ref h13, .ref h14, .ref h15, .ref h16, .int u1.2.2.1, .int u1.2.2.2.1])), (h7, aJ cJ 22 u1.2.2.2.2.1), (h8, aI cI 21 u1.2.2.2.2.2.1), (h9, aI cI 21 u1.2.2.2.2.2.2.1), (h10, aJ cJ 21 u1.2.2.2.2.2.2.2.1), (h11, aJ cJ 21 u1.2.2.2.2.2.2.2.2.1), (h12, aI cI 21 u1.2.2.2.2.2.2.2.2.2.1), (h13, aJ cJ 21 u1.2.2.2.2.2.2.2.2.2.2.1), (h14, aI cI 21 u1.2.2.2.2.2.2.2.2.2.2.2.1), (h15, aJ cJ 58 u1.2.2.2.2.2.2.2.2.2.2.2.2.1), (h16, aJ cJ 58 u1.2.2.2.2.2.2.2.2.2.2.2.2.2)] := hD
  refine lv_if_eq (tgt := 11) hx hb dX8_test_4 (by decide) (fun c4 => ?_) (fun c4 => ?_)
  · replace hwp := hwp.1 c4
    refine lv_iconst (v := 0) hx hb dX8_test_11 (by decide) ?_
    have hP9 : va_P G vwCl [(h0, .inr (8, [.ref h1, .ref k0, .ref k1, .ref h6, .ref h2, .ref k2, .ref k3, .ref k4, .ref k5, .ref k6, .ref k7, .int u1.1, .int u1.2.1, .int i2, .int i3, .int i4])), (h1, .inr (3, [.ref k8, .ref k9, .ref h4, .int i5, .int i6, .int i7])), (h2, .inr (2, [.ref h3, .ref h5, .int i8])), (h3, aI cI 20 f9), (h4, aI cI 20 f10), (h5, aI cI 20 f11), (h6, .inr (5, [.ref h8, .ref h12, .ref h9, .ref h10, .ref h11, .ref h7, .ref h13, .ref h14, .ref h15, .ref h16, .int u1.2.2.1, .int u1.2.2.2.1])), (h7, aJ cJ 22 u1.2.2.2.2.1), (h8, aI cI 21 u1.2.2.2.2.2.1), (h9, aI cI 21 u1.2.2.2.2.2.2.1), (h10, aJ cJ 21 u1.2.2.2.2.2.2.2.1), (h11, aJ cJ 21 u1.2.2.2.2.2.2.2.2.1), (h12, aI cI 21 u1.2.2.2.2.2.2.2.2.2.1), (h13, aJ cJ 21 u1.2.2.2.2.2.2.2.2.2.2.1), (h14, aI cI 21 u1.2.2.2.2.2.2.2.2.2.2.2.1), (h15, aJ cJ 58 u1.2.2.2.2.2.2.2.2.2.2.2.2.1), (h16, aJ cJ 58 u1.2.2.2.2.2.2.2.2.2.2.2.2.2)] H := hP.sub [0, 1, 2, 3, 4, 5, 6, 7, 8, 9, 10, 11, 12, 13, 14, 15, 16] rfl
    have hD9 : va_D A [(h0, .inr (8, [.ref h1, .ref k0, .ref k1, .ref h6, .ref h2, .ref k2, .ref k3, .ref k4, .ref k5, .ref k6, .ref k7, .int u1.1, .int u1.2.1, .int i2, .int i3, .int i4])), (h1, .inr (3, [.ref k8, .ref k9, .ref h4, .int i5, .int i6, .int i7])), (h2, .inr (2, [.ref h3, .ref h5, .int i8])), (h3, aI cI 20 f9), (h4, aI cI 20 f10), (h5, aI cI 20 f11), (h6, .inr (5, [.ref h8, .ref h12, .ref h9, .ref h10, .ref h11, .ref h7, .ref h13, .ref h14, .ref h15, .ref h16, .int u1.2.2.1, .int u1.2.2.2.1])), (h7, aJ cJ 22 u1.2.2.2.2.1), (h8, aI cI 21 u1.2.2.2.2.2.1), (h9, aI cI 21 u1.2.2.2.2.2.2.1), (h10, aJ cJ 21 u1.2.2.2.2.2.2.2.1), (h11, aJ cJ 21 u1.2.2.2.2.2.2.2.2.1), (h12, aI cI 21 u1.2.2.2.2.2.2.2.2.2.1), (h13, aJ cJ 21 u1.2.2.2.2.2.2.2.2.2.2.1), (h14, aI cI 21 u1.2.2.2.2.2.2.2.2.2.2.2.1), (h15, aJ cJ 58 u1.2.2.2.2.2.2.2.2.2.2.2.2.1), (h16, aJ cJ 58 u1.2.2.2.2.2.2.2.2.2.2.2.2.2)] := hD.sub [0, 1, 2, 3, 4, 5, 6, 7, 8, 9, 10, 11, 12, 13, 14, 15, 16] (by decide) rfl
    rw [← hQQ]
    exact W.iret (v := 0) hx hb hr (fun t ht hW => ⟨⟨_, (u1.1, u1.2.1, u1.2.2.1, u1.2.2.2.1, u1.2.2.2.2.1, u1.2.2.2.2.2.1, u1.2.2.2.2.2.2.1, u1.2.2.2.2.2.2.2.1, u1.2.2.2.2.2.2.2.2.1, u1.2.2.2.2.2.2.2.2.2.1, u1.2.2.2.2.2.2.2.2.2.2.1, u1.2.2.2.2.2.2.2.2.2.2.2.1, u1.2.2.2.2.2.2.2.2.2.2.2.2.1, u1.2.2.2.2.2.2.2.2.2.2.2.2.2), rfl, hwp, by rw [ht]; exact hP9, hD9⟩, hS.F ht⟩) hS.2.2 dX8_test_12
  · replace hwp := hwp.2 c4
    refine lv_iconst (v := 1) hx hb dX8_test_7 (by decide) ?_
    refine lv_goto (tgt := 12) hx hb dX8_test_8 (by decide) ?_
    have hP9 : va_P G vwCl [(h0, .inr (8, [.ref h1, .ref k0, .ref k1, .ref h6, .ref h2, .ref k2, .ref k3, .ref k4, .ref k5, .ref k6, .ref k7, .int u1.1, .int u1.2.1, .int i2, .int i3, .int i4])), (h1, .inr (3, [.ref k8, .ref k9, .ref h4, .int i5, .int i6, .int i7])), (h2, .inr (2, [.ref h3, .ref h5, .int i8])), (h3, aI cI 20 f9), (h4, aI cI 20 f10), (h5, aI cI 20 f11), (h6, .inr (5, [.ref h8, .ref h12, .ref h9, .ref h10, .ref h11, .ref h7, .ref h13, .ref h14, .ref h15, .ref h16, .int u1.2.2.1, .int u1.2.2.2.1])), (h7, aJ cJ 22 u1.2.2.2.2.1), (h8, aI cI 21 u1.2.2.2.2.2.1), (h9, aI cI 21 u1.2.2.2.2.2.2.1), (h10, aJ cJ 21 u1.2.2.2.2.2.2.2.1), (h11, aJ cJ 21 u1.2.2.2.2.2.2.2.2.1), (h12, aI cI 21 u1.2.2.2.2.2.2.2.2.2.1), (h13, aJ cJ 21 u1.2.2.2.2.2.2.2.2.2.2.1), (h14, aI cI 21 u1.2.2.2.2.2.2.2.2.2.2.2.1), (h15, aJ cJ 58 u1.2.2.2.2.2.2.2.2.2.2.2.2.1), (h16, aJ cJ 58 u1.2.2.2.2.2.2.2.2.2.2.2.2.2)] H := hP.sub [0, 1, 2, 3, 4, 5, 6, 7, 8, 9, 10, 11, 12, 13, 14, 15, 16] rfl
    have hD9 : va_D A [(h0, .inr (8, [.ref h1, .ref k0, .ref k1, .ref h6, .ref h2, .ref k2, .ref k3, .ref k4, .ref k5, .ref k6, .ref k7, .int u1.1, .int u1.2.1, .int i2, .int i3, .int i4])), (h1, .inr (3, [.ref k8, .ref k9, .ref h4, .int i5, .int i6, .int i7])), (h2, .inr (2, [.ref h3, .ref h5, .int i8])), (h3, aI cI 20 f9), (h4, aI cI 20 f10), (h5, aI cI 20 f11), (h6, .inr (5, [.ref h8, .ref h12, .ref h9, .ref h10, .ref h11, .ref h7, .ref h13, .ref h14, .ref h15, .ref h16, .int u1.2.2.1, .int u1.2.2.2.1])), (h7, aJ cJ 22 u1.2.2.2.2.1), (h8, aI cI 21 u1.2.2.2.2.2.1), (h9, aI cI 21 u1.2.2.2.2.2.2.1), (h10, aJ cJ 21 u1.2.2.2.2.2.2.2.1), (h11, aJ cJ 21 u1.2.2.2.2.2.2.2.2.1), (h12, aI cI 21 u1.2.2.2.2.2.2.2.2.2.1), (h13, aJ cJ 21 u1.2.2.2.2.2.2.2.2.2.2.1), (h14, aI cI 21 u1.2.2.2.2.2.2.2.2.2.2.2.1), (h15, aJ cJ 58 u1.2.2.2.2.2.2.2.2.2.2.2.2.1), (h16, aJ cJ 58 u1.2.2.2.2.2.2.2.2.2.2.2.2.2)] := hD.sub [0, 1, 2, 3, 4, 5, 6, 7, 8, 9, 10, 11, 12, 13, 14, 15, 16] (by decide) rfl
    rw [← hQQ]
    exact W.iret (v := 1) hx hb hr (fun t ht hW => ⟨⟨_, (u1.1, u1.2.1, u1.2.2.1, u1.2.2.2.1, u1.2.2.2.2.1, u1.2.2.2.2.2.1, u1.2.2.2.2.2.2.1, u1.2.2.2.2.2.2.2.1, u1.2.2.2.2.2.2.2.2.1, u1.2.2.2.2.2.2.2.2.2.1, u1.2.2.2.2.2.2.2.2.2.2.1, u1.2.2.2.2.2.2.2.2.2.2.2.1, u1.2.2.2.2.2.2.2.2.2.2.2.2.1, u1.2.2.2.2.2.2.2.2.2.2.2.2.2), rfl, hwp, by rw [ht]; exact hP9, hD9⟩, hS.F ht⟩) hS.2.2 dX8_test_12
def wLX5_prepare_1_20 (f4 : Nat → Int32) (p0 : Int32) (u15 : (Nat → Int64)) (K : (Int32 × Int32 × (Nat → Int64) × (Nat → Int32) × (Nat → Int32) × (Nat → Int64) × (Nat → Int64)) → Prop)  : Nat → (Nat → Int32) → (Nat → Int32) → (Nat → Int64) → (Nat → Int64) → Int32 → Prop
  | 0, _, _, _, _, _ => False
  | n20 + 1, t20_0, t20_1, t20_2, t20_3, t20_4 => ((p0 ≤ t20_4 → K ((0 : Int32), (0 : Int32), u15, t20_0, t20_1, t20_2, t20_3)) ∧ (¬ p0 ≤ t20_4 → (vp_in t20_4 21 ∧ (∀ g31 : Nat → Int32, g31 = upd t20_0 (Int32.toNatClampNeg t20_4) (-1) → (vp_in t20_4 21 ∧ (vp_in t20_4 21 ∧ (∀ g40 : Nat → Int32, g40 = upd t20_1 (Int32.toNatClampNeg t20_4) (f4 (Int32.toNatClampNeg t20_4)) → (vp_in t20_4 21 ∧ (∀ g47 : Nat → Int64, g47 = vp_updL t20_2 (Int32.toNatClampNeg t20_4) (0 : Int64) → (vp_in t20_4 21 ∧ (∀ g54 : Nat → Int64, g54 = vp_updL t20_3 (Int32.toNatClampNeg t20_4) (0 : Int64) → (wLX5_prepare_1_20 f4 p0 u15 K  n20) g31 g40 g47 g54 (t20_4 + 1))))))))))))
def wX5_prepare_1 (i0 : Int32) (i1 : Int32) (f2 : Nat → Int64) (f3 : Nat → Int32) (f4 : Nat → Int32) (f5 : Nat → Int32) (f6 : Nat → Int64) (f7 : Nat → Int64) (p0 : Int32) (K : (Int32 × Int32 × (Nat → Int64) × (Nat → Int32) × (Nat → Int32) × (Nat → Int64) × (Nat → Int64)) → Prop) : Prop := (wJ7_fill_d0a16 f2 ((0 : Int64) : Int64) (fun u15 => (∃ n20, wLX5_prepare_1_20 f4 p0 u15 K  n20 f3 f5 f6 f7 0)))
set_option maxHeartbeats 4000000 in
set_option maxRecDepth 100000 in
theorem zX5_prepare_1 (l : Launch) (G : va_G) (cI cJ cZ : ClassId) (h0 h1 h2 h3 h4 h5 h6 k0 k1 k2 k3 k4 sz : Nat) (i0 : Int32) (i1 : Int32) (f2 : Nat → Int64) (f3 : Nat → Int32) (f4 : Nat → Int32) (f5 : Nat → Int32) (f6 : Nat → Int64) (f7 : Nat → Int64) (p0 : Int32) (K : (Int32 × Int32 × (Nat → Int64) × (Nat → Int32) × (Nat → Int32) × (Nat → Int64) × (Nat → Int64)) → Prop) (hwp : wX5_prepare_1 i0 i1 f2 f3 f4 f5 f6 f7 p0 K) : Met l yX5_prepare (xw yX5_prepare cX5_prepare 4 none) ({ frames := 1, cells := 0, slots := 0, locals := 24 }) (xPc G cI cJ cZ [.ref h0, .ref h3, .int p0] [(h0, .inr (5, [.ref h2, .ref k0, .ref h4, .ref h5, .ref h6, .ref h1, .ref k1, .ref k2, .ref k3, .ref k4, .int i0, .int i1])), (h1, aJ cJ 22 f2), (h2, aI cI 21 f3), (h3, aI cI 21 f4), (h4, aI cI 21 f5), (h5, aJ cJ 21 f6), (h6, aJ cJ 21 f7)] sz) (va_Qv (fun (u : Int32 × Int32 × (Nat → Int64) × (Nat → Int32) × (Nat → Int32) × (Nat → Int64) × (Nat → Int64)) => K u) (fun (u : Int32 × Int32 × (Nat → Int64) × (Nat → Int32) × (Nat → Int32) × (Nat → Int64) × (Nat → Int64)) t => xB G (va_A [(h0, .inr (5, [.ref h2, .ref k0, .ref h4, .ref h5, .ref h6, .ref h1, .ref k1, .ref k2, .ref k3, .ref k4, .int i0, .int i1])), (h1, aJ cJ 22 f2), (h2, aI cI 21 f3), (h3, aI cI 21 f4), (h4, aI cI 21 f5), (h5, aJ cJ 21 f6), (h6, aJ cJ 21 f7)] sz) [(h0, .inr (5, [.ref h2, .ref k0, .ref h4, .ref h5, .ref h6, .ref h1, .ref k1, .ref k2, .ref k3, .ref k4, .int u.1, .int u.2.1])), (h1, aJ cJ 22 u.2.2.1), (h2, aI cI 21 u.2.2.2.1), (h3, aI cI 21 f4), (h4, aI cI 21 u.2.2.2.2.1), (h5, aJ cJ 21 u.2.2.2.2.2.1), (h6, aJ cJ 21 u.2.2.2.2.2.2)] t) (va_A [(h0, .inr (5, [.ref h2, .ref k0, .ref h4, .ref h5, .ref h6, .ref h1, .ref k1, .ref k2, .ref k3, .ref k4, .int i0, .int i1])), (h1, aJ cJ 22 f2), (h2, aI cI 21 f3), (h3, aI cI 21 f4), (h4, aI cI 21 f5), (h5, aJ cJ 21 f6), (h6, aJ cJ 21 f7)] sz)) 0 0 (va_A [(h0, .inr (5, [.ref h2, .ref k0, .ref h4, .ref h5, .ref h6, .ref h1, .ref k1, .ref k2, .ref k3, .ref k4, .int i0, .int i1])), (h1, aJ cJ 22 f2), (h2, aI cI 21 f3), (h3, aI cI 21 f4), (h4, aI cI 21 f5), (h5, aJ cJ 21 f6), (h6, aJ cJ 21 f7)] sz) := by
  refine Met.ofW (cc := cX5_prepare) (maxL := 4) (ret := none) (by decide) rfl ?_
  intro p e s m args below meth c s₁ B hml hv
  obtain ⟨rfl, hsz, hP, hK, hD0, hN⟩ := hv
  have hx := B.exec
  have hb := B.bytes
  have hr := B.returns
  have hts : ∀ w ∈ xW, w.before _ s = true := fun w h => atoms_spec (ws := xw yX5_prepare cX5_prepare 4 none) B.pre w (List.mem_cons_of_mem _ h)
  have hown : s.vm.findClass RX5 = some m.cls := findClass_of_methodNamed B.named
  have hlocks := B.notSynchronized
  subst hsz
  have hD := hD0.self (sz := s.heap.size)
  clear hD0
  generalize hAe : va_A [(h0, .inr (5, [.ref h2, .ref k0, .ref h4, .ref h5, .ref h6, .ref h1, .ref k1, .ref k2, .ref k3, .ref k4, .int i0, .int i1])), (h1, aJ cJ 22 f2), (h2, aI cI 21 f3), (h3, aI cI 21 f4), (h4, aI cI 21 f5), (h5, aJ cJ 21 f6), (h6, aJ cJ 21 f7)] s.heap.size = A at hD ⊢
  have hA : ∀ q : Nat, s.heap.size ≤ q → A q := fun q h => by rw [← hAe]; exact Or.inr h
  clear hAe
  have hS : va_S A s.heap s.heap [] := va_S.rf
  replace hP : va_P G vwCl [(h0, .inr (5, [.ref h2, .ref k0, .ref h4, .ref h5, .ref h6, .ref h1, .ref k1, .ref k2, .ref k3, .ref k4, .int i0, .int i1])), (h1, aJ cJ 22 f2), (h2, aI cI 21 f3), (h3, aI cI 21 f4), (h4, aI cI 21 f5), (h5, aJ cJ 21 f6), (h6, aJ cJ 21 f7)] s.heap := hP
  have hl := lv_entry ([.ref h0, .ref h3, .int p0]) (n := 4) (Nat.le_of_ble_eq_true rfl)
  rw [lg_entry_eq]
  generalize (lg_sl ([.ref h0, .ref h3, .int p0]) ++ List.replicate (4 - (lg_sl ([.ref h0, .ref h3, .int p0])).length) Slot.unset).toArray = ls at hl ⊢
  replace hl : lv_has ls 4 [(0, .ref h0), (1, .ref h3), (2, .int p0)] := hl
  generalize hQQ : MQ below _ _ s 0 0 _ = QQ
  skip
  unfold wX5_prepare_1 at hwp
  refine lv_aload_n hx hb dX5_prepare_0 rfl (lv_at hl 0 rfl) ?_
  refine lv_iconst (v := 0) hx hb dX5_prepare_1 (by decide) ?_
  refine va_put (D := G) (ci := 5) (v := .int 0) (ty := .int) (C := RX5) (T := TX5) (N := 12) hx hb hts xinX5 tyX5 tyX5_ok nmX5 hown hK hP hD hS 0 rfl rfl 10 (by decide) (hts _ wo_96) (fun _ h9 => h9) rfl (by decide +kernel) rfl rfl (Nat.le_of_ble_eq_true rfl) dX5_prepare_2 (fun H locs hP hD hS => ?_)
  replace hP : va_P G vwCl [(h0, .inr (5, [.ref h2, .ref k0, .ref h4, .ref h5, .ref h6, .ref h1, .ref k1, .ref k2, .ref k3, .ref k4, .int 0, .int i1])), (h1, aJ cJ 22 f2), (h2, aI cI 21 f3), (h3, aI cI 21 f4), (h4, aI cI 21 f5), (h5, aJ cJ 21 f6), (h6, aJ cJ 21 f7)] H := hP
  replace hD : va_D A [(h0, .inr (5, [.ref h2, .ref k0, .ref h4, .ref h5, .ref h6, .ref h1, .ref k1, .ref k2, .ref k3, .ref k4, .int 0, .int i1])), (h1, aJ cJ 22 f2), (h2, aI cI 21 f3), (h3, aI cI 21 f4), (h4, aI cI 21 f5), (h5, aJ cJ 21 f6), (h6, aJ cJ 21 f7)] := hD
  refine lv_aload_n hx hb dX5_prepare_5 rfl (lv_at hl 0 rfl) ?_
  refine lv_iconst (v := 0) hx hb dX5_prepare_6 (by decide) ?_
  refine va_put (D := G) (ci := 5) (v := .int 0) (ty := .int) (C := RX5) (T := TX5) (N := 12) hx hb hts xinX5 tyX5 tyX5_ok nmX5 hown hK hP hD hS 0 rfl rfl 11 (by decide) (hts _ wo_118) (fun _ h9 => h9) rfl (by decide +kernel) rfl rfl (Nat.le_of_ble_eq_true rfl) dX5_prepare_7 (fun H locs hP hD hS => ?_)
  replace hP : va_P G vwCl [(h0, .inr (5, [.ref h2, .ref k0, .ref h4, .ref h5, .ref h6, .ref h1, .ref k1, .ref k2, .ref k3, .ref k4, .int 0, .int 0])), (h1, aJ cJ 22 f2), (h2, aI cI 21 f3), (h3, aI cI 21 f4), (h4, aI cI 21 f5), (h5, aJ cJ 21 f6), (h6, aJ cJ 21 f7)] H := hP
  replace hD : va_D A [(h0, .inr (5, [.ref h2, .ref k0, .ref h4, .ref h5, .ref h6, .ref h1, .ref k1, .ref k2, .ref k3, .ref k4, .int 0, .int 0])), (h1, aJ cJ 22 f2), (h2, aI cI 21 f3), (h3, aI cI 21 f4), (h4, aI cI 21 f5), (h5, aJ cJ 21 f6), (h6, aJ cJ 21 f7)] := hD
  refine lv_aload_n hx hb dX5_prepare_10 rfl (lv_at hl 0 rfl) ?_
  refine va_get (D := G) (ci := 5) (v := .ref h1) (C := RX5) (T := TX5) (N := 12) hx hb hts xinX5 hown hK hP 0 rfl rfl 5 (by decide) (hts _ wo_98) (fun _ h9 => h9) rfl dX5_prepare_11 ?_
  refine lv_lconst (v := 0) hx hb dX5_prepare_14 rfl ?_
  refine xcv (wr := [(h0, .inr (5, [.ref h2, .ref k0, .ref h4, .ref h5, .ref h6, .ref h1, .ref k1, .ref k2, .ref k3, .ref k4, .int 0, .int 0])), (h2, aI cI 21 f3), (h3, aI cI 21 f4), (h4, aI cI 21 f5), (h5, aJ cJ 21 f6), (h6, aJ cJ 21 f7)]) (va_runS (As := [.ref h1, .long (0 : Int64)]) (rest := []) ⟨hx, hb, hml, hown, hts⟩ (zJ7_fill_d0a16 l G cI cJ cZ h1 H.size f2 ((0 : Int64) : Int64) _ hwp) (va_cwS 2 hts (xgoodS wo_246 wo_247 wo_248 wo_7) rfl rfl rfl (by decide +kernel) ⟨Nat.le_of_ble_eq_true rfl, Nat.le_of_ble_eq_true rfl⟩) (xPreS hK hN hP hD [1] (by decide) rfl) rfl rfl hl.1 rfl (lv_room (Nat.le_of_ble_eq_true rfl)) dX5_prepare_15 ⟨Nat.le_of_ble_eq_true rfl, Nat.le_of_ble_eq_true rfl⟩) hP hD hS hA [1] [0, 2, 3, 4, 5, 6] rfl rfl (by decide) (by decide) (fun u15 H locs hwp hP hD hS => ?_)
  replace hP : va_P G vwCl [(h0, .inr (5, [.ref h2, .ref k0, .ref h4, .ref h5, .ref h6, .ref h1, .ref k1, .ref k2, .ref k3, .ref k4, .int 0, .int 0])), (h2, aI cI 21 f3), (h3, aI cI 21 f4), (h4, aI cI 21 f5), (h5, aJ cJ 21 f6), (h6, aJ cJ 21 f7), (h1, aJ cJ 22 u15)] H := hP
  replace hD : va_D A [(h0, .inr (5, [.ref h2, .ref k0, .ref h4, .ref h5, .ref h6, .ref h1, .ref k1, .ref k2, .ref k3, .ref k4, .int 0, .int 0])), (h2, aI cI 21 f3), (h3, aI cI 21 f4), (h4, aI cI 21 f5), (h5, aJ cJ 21 f6), (h6, aJ cJ 21 f7), (h1, aJ cJ 22 u15)] := hD
  refine lv_iconst (v := 0) hx hb dX5_prepare_18 (by decide) ?_
  refine lv_istore_n (lv' := [(3, .int 0), (0, .ref h0), (1, .ref h3), (2, .int p0)]) hx hb dX5_prepare_19 rfl hl (by decide) rfl (fun ls hl => ?_)
  replace hl : lv_has ls 4 [(3, .int 0), (0, .ref h0), (1, .ref h3), (2, .int p0)] := lv_sub hl [0, 1, 2, 3] rfl
  obtain ⟨n1, hwp⟩ := hwp
  have hs1 : ∀ (n1 : Nat) (H : Heap) (locs : List Loc) (ls : Array Slot) (t20_0 : Nat → Int32) (t20_1 : Nat → Int32) (t20_2 : Nat → Int64) (t20_3 : Nat → Int64) (t20_4 : Int32), wLX5_prepare_1_20 f4 p0 u15 K  n1 t20_0 t20_1 t20_2 t20_3 t20_4 → va_P G vwCl [(h0, .inr (5, [.ref h2, .ref k0, .ref h4, .ref h5, .ref h6, .ref h1, .ref k1, .ref k2, .ref k3, .ref k4, .int 0, .int 0])), (h2, aI cI 21 t20_0), (h3, aI cI 21 f4), (h4, aI cI 21 t20_1), (h5, aJ cJ 21 t20_2), (h6, aJ cJ 21 t20_3), (h1, aJ cJ 22 u15)] H → va_D A [(h0, .inr (5, [.ref h2, .ref k0, .ref h4, .ref h5, .ref h6, .ref h1, .ref k1, .ref k2, .ref k3, .ref k4, .int 0, .int 0])), (h2, aI cI 21 t20_0), (h3, aI cI 21 f4), (h4, aI cI 21 t20_1), (h5, aJ cJ 21 t20_2), (h6, aJ cJ 21 t20_3), (h1, aJ cJ 22 u15)] → va_S A s.heap H locs → lv_has ls 4 [(3, .int t20_4), (0, .ref h0), (1, .ref h3), (2, .int p0)] → W p l e ((headSpec (xw yX5_prepare cX5_prepare 4 none) { frames := 1, cells := 0, slots := 0, locals := 24 }).room) s m ([.ref h0, .ref h3, .int p0] : List Value).toArray below meth c H locs 0 0 QQ (F0 m 20 ls []) := by
    intro n1
    induction n1 with
    | zero => intro H locs ls t20_0 t20_1 t20_2 t20_3 t20_4 hwp; exact False.elim hwp
    | succ n1 ih1 =>
      intro H locs ls t20_0 t20_1 t20_2 t20_3 t20_4 hwp hP hD hS hl
      rw [wLX5_prepare_1_20] at hwp
      refine lv_iload_n hx hb dX5_prepare_20 rfl (lv_at hl 0 rfl) ?_
      refine lv_iload_n hx hb dX5_prepare_21 rfl (lv_at hl 3 rfl) ?_
      refine lv_icmp_ge (tgt := 61) hx hb dX5_prepare_22 (by decide) (fun c22 => ?_) (fun c22 => ?_)
      · replace hwp := hwp.1 c22
        have hP9 : va_P G vwCl [(h0, .inr (5, [.ref h2, .ref k0, .ref h4, .ref h5, .ref h6, .ref h1, .ref k1, .ref k2, .ref k3, .ref k4, .int 0, .int 0])), (h1, aJ cJ 22 u15), (h2, aI cI 21 t20_0), (h3, aI cI 21 f4), (h4, aI cI 21 t20_1), (h5, aJ cJ 21 t20_2), (h6, aJ cJ 21 t20_3)] H := hP.sub [0, 6, 1, 2, 3, 4, 5] rfl
        have hD9 : va_D A [(h0, .inr (5, [.ref h2, .ref k0, .ref h4, .ref h5, .ref h6, .ref h1, .ref k1, .ref k2, .ref k3, .ref k4, .int 0, .int 0])), (h1, aJ cJ 22 u15), (h2, aI cI 21 t20_0), (h3, aI cI 21 f4), (h4, aI cI 21 t20_1), (h5, aJ cJ 21 t20_2), (h6, aJ cJ 21 t20_3)] := hD.sub [0, 6, 1, 2, 3, 4, 5] (by decide) rfl
        rw [← hQQ]
        exact W.vret hx hb hr (fun t ht hW => ⟨⟨((0 : Int32), (0 : Int32), u15, t20_0, t20_1, t20_2, t20_3), rfl, hwp, by rw [ht]; exact hP9, hD9⟩, hS.F ht⟩) hS.2.2 dX5_prepare_61
      · replace hwp := hwp.2 c22
        refine lv_aload_n hx hb dX5_prepare_25 rfl (lv_at hl 1 rfl) ?_
        refine va_get (D := G) (ci := 5) (v := .ref h2) (C := RX5) (T := TX5) (N := 12) hx hb hts xinX5 hown hK hP 0 rfl rfl 0 (by decide) (hts _ wo_101) (fun _ h9 => h9) rfl dX5_prepare_26 ?_
        refine lv_iload_n hx hb dX5_prepare_29 rfl (lv_at hl 0 rfl) ?_
        refine lv_iconst (v := (-1)) hx hb dX5_prepare_30 (by decide) ?_
        obtain ⟨hi, hwp⟩ := hwp
        refine va_iast hx hb hK hP hD hS 1 0 rfl rfl hi dX5_prepare_31 (fun H locs hP hD hS => ?_)
        obtain ⟨g31, eg31⟩ : ∃ z, z = upd t20_0 (Int32.toNatClampNeg t20_4) (-1) := ⟨_, rfl⟩
        replace hwp := hwp g31 eg31
        replace hP : va_P G vwCl [(h0, .inr (5, [.ref h2, .ref k0, .ref h4, .ref h5, .ref h6, .ref h1, .ref k1, .ref k2, .ref k3, .ref k4, .int 0, .int 0])), (h2, aI cI 21 g31), (h3, aI cI 21 f4), (h4, aI cI 21 t20_1), (h5, aJ cJ 21 t20_2), (h6, aJ cJ 21 t20_3), (h1, aJ cJ 22 u15)] H := by rw [eg31]; exact hP
        replace hD : va_D A [(h0, .inr (5, [.ref h2, .ref k0, .ref h4, .ref h5, .ref h6, .ref h1, .ref k1, .ref k2, .ref k3, .ref k4, .int 0, .int 0])), (h2, aI cI 21 g31), (h3, aI cI 21 f4), (h4, aI cI 21 t20_1), (h5, aJ cJ 21 t20_2), (h6, aJ cJ 21 t20_3), (h1, aJ cJ 22 u15)] := by rw [eg31]; exact hD
        clear eg31
        refine lv_aload_n hx hb dX5_prepare_32 rfl (lv_at hl 1 rfl) ?_
        refine va_get (D := G) (ci := 5) (v := .ref h4) (C := RX5) (T := TX5) (N := 12) hx hb hts xinX5 hown hK hP 0 rfl rfl 2 (by decide) (hts _ wo_102) (fun _ h9 => h9) rfl dX5_prepare_33 ?_
        refine lv_iload_n hx hb dX5_prepare_36 rfl (lv_at hl 0 rfl) ?_
        refine lv_aload_n hx hb dX5_prepare_37 rfl (lv_at hl 2 rfl) ?_
        refine lv_iload_n hx hb dX5_prepare_38 rfl (lv_at hl 0 rfl) ?_
        obtain ⟨hi, hwp⟩ := hwp
        refine va_iald hx hb hK hP 2 0 rfl rfl hi dX5_prepare_39 ?_
        obtain ⟨hi, hwp⟩ := hwp
        refine va_iast hx hb hK hP hD hS 3 0 rfl rfl hi dX5_prepare_40 (fun H locs hP hD hS => ?_)
        obtain ⟨g40, eg40⟩ : ∃ z, z = upd t20_1 (Int32.toNatClampNeg t20_4) (f4 (Int32.toNatClampNeg t20_4)) := ⟨_, rfl⟩
        replace hwp := hwp g40 eg40
        replace hP : va_P G vwCl [(h0, .inr (5, [.ref h2, .ref k0, .ref h4, .ref h5, .ref h6, .ref h1, .ref k1, .ref k2, .ref k3, .ref k4, .int 0, .int 0])), (h2, aI cI 21 g31), (h3, aI cI 21 f4), (h4, aI cI 21 g40), (h5, aJ cJ 21 t20_2), (h6, aJ cJ 21 t20_3), (h1, aJ cJ 22 u15)] H := by rw [eg40]; exact hP
        replace hD : va_D A [(h0, .inr (5, [.ref h2, .ref k0, .ref h4, .ref h5, .ref h6, .ref h1, .ref k1, .ref k2, .ref k3, .ref k4, .int 0, .int 0])), (h2, aI cI 21 g31), (h3, aI cI 21 f4), (h4, aI cI 21 g40), (h5, aJ cJ 21 t20_2), (h6, aJ cJ 21 t20_3), (h1, aJ cJ 22 u15)] := by rw [eg40]; exact hD
        clear eg40
        refine lv_aload_n hx hb dX5_prepare_41 rfl (lv_at hl 1 rfl) ?_
        refine va_get (D := G) (ci := 5) (v := .ref h5) (C := RX5) (T := TX5) (N := 12) hx hb hts xinX5 hown hK hP 0 rfl rfl 3 (by decide) (hts _ wo_97) (fun _ h9 => h9) rfl dX5_prepare_42 ?_
        refine lv_iload_n hx hb dX5_prepare_45 rfl (lv_at hl 0 rfl) ?_
        refine lv_lconst (v := 0) hx hb dX5_prepare_46 rfl ?_
        obtain ⟨hi, hwp⟩ := hwp
        refine va_last hx hb hK hP hD hS 4 1 rfl rfl hi dX5_prepare_47 (fun H locs hP hD hS => ?_)
        obtain ⟨g47, eg47⟩ : ∃ z, z = vp_updL t20_2 (Int32.toNatClampNeg t20_4) (0 : Int64) := ⟨_, rfl⟩
        replace hwp := hwp g47 eg47
        replace hP : va_P G vwCl [(h0, .inr (5, [.ref h2, .ref k0, .ref h4, .ref h5, .ref h6, .ref h1, .ref k1, .ref k2, .ref k3, .ref k4, .int 0, .int 0])), (h2, aI cI 21 g31), (h3, aI cI 21 f4), (h4, aI cI 21 g40), (h5, aJ cJ 21 g47), (h6, aJ cJ 21 t20_3), (h1, aJ cJ 22 u15)] H := by rw [eg47]; exact hP
        replace hD : va_D A [(h0, .inr (5, [.ref h2, .ref k0, .ref h4, .ref h5, .ref h6, .ref h1, .ref k1, .ref k2, .ref k3, .ref k4, .int 0, .int 0])), (h2, aI cI 21 g31), (h3, aI cI 21 f4), (h4, aI cI 21 g40), (h5, aJ cJ 21 g47), (h6, aJ cJ 21 t20_3), (h1, aJ cJ 22 u15)] := by rw [eg47]; exact hD
        clear eg47
        refine lv_aload_n hx hb dX5_prepare_48 rfl (lv_at hl 1 rfl) ?_
        refine va_get (D := G) (ci := 5) (v := .ref h6) (C := RX5) (T := TX5) (N := 12) hx hb hts xinX5 hown hK hP 0 rfl rfl 4 (by decide) (hts _ wo_99) (fun _ h9 => h9) rfl dX5_prepare_49 ?_
        refine lv_iload_n hx hb dX5_prepare_52 rfl (lv_at hl 0 rfl) ?_
        refine lv_lconst (v := 0) hx hb dX5_prepare_53 rfl ?_
        obtain ⟨hi, hwp⟩ := hwp
        refine va_last hx hb hK hP hD hS 5 1 rfl rfl hi dX5_prepare_54 (fun H locs hP hD hS => ?_)
        obtain ⟨g54, eg54⟩ : ∃ z, z = vp_updL t20_3 (Int32.toNatClampNeg t20_4) (0 : Int64) := ⟨_, rfl⟩
        replace hwp := hwp g54 eg54
        replace hP : va_P G vwCl [(h0, .inr (5, [.ref h2, .ref k0, .ref h4, .ref h5, .ref h6, .ref h1, .ref k1, .ref k2, .ref k3, .ref k4, .int 0, .int 0])), (h2, aI cI 21 g31), (h3, aI cI 21 f4), (h4, aI cI 21 g40), (h5, aJ cJ 21 g47), (h6, aJ cJ 21 g54), (h1, aJ cJ 22 u15)] H := by rw [eg54]; exact hP
        replace hD : va_D A [(h0, .inr (5, [.ref h2, .ref k0, .ref h4, .ref h5, .ref h6, .ref h1, .ref k1, .ref k2, .ref k3, .ref k4, .int 0, .int 0])), (h2, aI cI 21 g31), (h3, aI cI 21 f4), (h4, aI cI 21 g40), (h5, aJ cJ 21 g47), (h6, aJ cJ 21 g54), (h1, aJ cJ 22 u15)] := by rw [eg54]; exact hD
        clear eg54
        refine lv_iinc (v := (t20_4 + 1)) (lv' := [(3, .int (t20_4 + 1)), (0, .ref h0), (1, .ref h3), (2, .int p0)]) hx hb dX5_prepare_55 hl (k := 0) rfl rfl (by decide) rfl (fun ls hl => ?_)
        refine lv_goto (tgt := 20) hx hb dX5_prepare_58 (by decide) ?_
        replace hl : lv_has ls 4 [(3, .int (t20_4 + 1)), (0, .ref h0), (1, .ref h3), (2, .int p0)] := lv_sub hl [0, 1, 2, 3] rfl
        exact ih1 H locs ls g31 g40 g47 g54 (t20_4 + 1) hwp hP hD hS hl
  exact hs1 n1 H locs ls f3 f5 f6 f7 0 hwp hP hD hS hl

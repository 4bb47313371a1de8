def wLX9_least_2 (p0 : Int32) (K : Int32 → Unit → Prop)  : Nat → Int32 → Prop
  | 0, _ => False
  | n2 + 1, t2_0 => ((¬ ((p0 >>> (t2_0 &&& 31)) &&& 1) = 0 → K t2_0 ()) ∧ (((p0 >>> (t2_0 &&& 31)) &&& 1) = 0 → (wLX9_least_2 p0 K  n2) (t2_0 + 1)))
def wX9_least (p0 : Int32) (K : Int32 → Unit → Prop) : Prop := (∃ n2, wLX9_least_2 p0 K  n2 0)
set_option maxHeartbeats 4000000 in
set_option maxRecDepth 100000 in
theorem zX9_least (l : Launch) (G : va_G) (cI cJ cZ : ClassId) ( sz : Nat) (p0 : Int32) (K : Int32 → Unit → Prop) (hwp : wX9_least p0 K) : Met l yX9_least (xw yX9_least cX9_least 2 (some .int)) ({ frames := 0, cells := 0, slots := 0, locals := 0 }) (xPc G cI cJ cZ [.int p0] [] sz) (va_Qi (fun (r : Int32) (u : Unit) => K r u) (fun (u : Unit) t => xB G (va_A [] sz) [] t) (va_A [] sz)) 0 0 (va_A [] sz) := by
  refine Met.ofW (cc := cX9_least) (maxL := 2) (ret := (some .int)) (by decide) rfl ?_
  intro p e s m args below meth c s₁ B hml hv
  obtain ⟨rfl, hsz, hP, hK, hD0, hN⟩ := hv
  have hx := B.exec
  have hb := B.bytes
  have hr := B.returns
  have hts : ∀ w ∈ xW, w.before _ s = true := fun w h => atoms_spec (ws := xw yX9_least cX9_least 2 (some .int)) B.pre w (List.mem_cons_of_mem _ h)
  have hown : s.vm.findClass RX9 = some m.cls := findClass_of_methodNamed B.named
  have hlocks := B.notSynchronized
  subst hsz
  have hD := hD0.self (sz := s.heap.size)
  clear hD0
  generalize hAe : va_A [] s.heap.size = A at hD ⊢
  have hA : ∀ q : Nat, s.heap.size ≤ q → A q := fun q h => by rw [← hAe]; exact Or.inr h
  clear hAe
  have hS : va_S A s.heap s.heap [] := va_S.rf
  replace hP : va_P G vwCl [] s.heap := hP
  have hl := lv_entry ([.int p0]) (n := 2) (Nat.le_of_ble_eq_true rfl)
  rw [lg_entry_eq]
  generalize (lg_sl ([.int p0]) ++ List.replicate (2 - (lg_sl ([.int p0])).length) Slot.unset).toArray = ls at hl ⊢
  replace hl : lv_has ls 2 [(0, .int p0)] := hl
  generalize hQQ : MQ below _ _ s 0 0 _ = QQ
  skip
  unfold wX9_least at hwp
  refine lv_iconst (v := 0) hx hb dX9_least_0 (by decide) ?_
  refine lv_istore_n (lv' := [(1, .int 0), (0, .int p0)]) hx hb dX9_least_1 rfl hl (by decide) rfl (fun ls hl => ?_)
  refine xgen (Pp := fun H locs => W p l e _ s m _ below meth c H locs _ _ _ _) (fun H locs hP hD hS => ?_) hP hD hS
  replace hl : lv_has ls 2 [(1, .int 0), (0, .int p0)] := lv_sub hl [0, 1] rfl
  obtain ⟨n1, hwp⟩ := hwp
  have hs1 : ∀ (n1 : Nat) (H : Heap) (locs : List Loc) (ls : Array Slot) (t2_0 : Int32), wLX9_least_2 p0 K  n1 t2_0 → va_P G vwCl [] H → va_D A [] → va_S A s.heap H locs → lv_has ls 2 [(1, .int t2_0), (0, .int p0)] → W p l e ((headSpec (xw yX9_least cX9_least 2 (some .int)) { frames := 0, cells := 0, slots := 0, locals := 0 }).room) s m ([.int p0] : List Value).toArray below meth c H locs 0 0 QQ (F0 m 2 ls []) := by
    intro n1
    induction n1 with
    | zero => intro H locs ls t2_0 hwp; exact False.elim hwp
    | succ n1 ih1 =>
      intro H locs ls t2_0 hwp hP hD hS hl
      rw [wLX9_least_2] at hwp
      refine lv_iload_n hx hb dX9_least_2 rfl (lv_at hl 1 rfl) ?_
      refine lv_iload_n hx hb dX9_least_3 rfl (lv_at hl 0 rfl) ?_
      refine lv_ishr hx hb dX9_least_4 ?_
      refine lv_iconst (v := 1) hx hb dX9_least_5 (by decide) ?_
      refine lv_iand hx hb dX9_least_6 ?_
      refine lv_if_ne (tgt := 16) hx hb dX9_least_7 (by decide) (fun c7 => ?_) (fun c7 => ?_)
      · replace hwp := hwp.1 c7
        refine lv_iload_n hx hb dX9_least_16 rfl (lv_at hl 0 rfl) ?_
        have hP9 : va_P G vwCl [] H := hP.sub [] rfl
        have hD9 : va_D A [] := hD.sub [] (by decide) rfl
        rw [← hQQ]
        exact W.iret (v := t2_0) hx hb hr (fun t ht hW => ⟨⟨_, (), rfl, hwp, by rw [ht]; exact hP9, hD9⟩, hS.F ht⟩) hS.2.2 dX9_least_17
      · replace hwp := hwp.2 c7
        refine lv_iinc (v := (t2_0 + 1)) (lv' := [(1, .int (t2_0 + 1)), (0, .int p0)]) hx hb dX9_least_10 hl (k := 0) rfl rfl (by decide) rfl (fun ls hl => ?_)
        refine lv_goto (tgt := 2) hx hb dX9_least_13 (by decide) ?_
        replace hl : lv_has ls 2 [(1, .int (t2_0 + 1)), (0, .int p0)] := lv_sub hl [0, 1] rfl
        exact ih1 H locs ls (t2_0 + 1) hwp hP hD hS hl
  exact hs1 n1 H locs ls 0 hwp hP hD hS hl
def wLX9_beforeOf_2 (f18 : Nat → Int32) (p0 : Int32) (p1 : Int32) (K : Int32 → Unit → Prop)  : Nat → Int32 → Prop
  | 0, _ => False
  | n2 + 1, t2_0 => (vp_in (((21 : Int32) * p0) + t2_0) 441 ∧ (((f18 (Int32.toNatClampNeg (((21 : Int32) * p0) + t2_0))) = p1 → K t2_0 ()) ∧ (¬ (f18 (Int32.toNatClampNeg (((21 : Int32) * p0) + t2_0))) = p1 → (vp_in (((21 : Int32) * p0) + t2_0) 441 ∧ (∀ v28 : Int32, v28 = (f18 (Int32.toNatClampNeg (((21 : Int32) * p0) + t2_0))) → (wLX9_beforeOf_2 f18 p0 p1 K  n2) v28)))))
def wX9_beforeOf (i0 : Int32) (i1 : Int32) (i2 : Int32) (i3 : Int32) (i4 : Int32) (i5 : Int32) (i6 : Int32) (i7 : Int32) (i8 : Int32) (i9 : Int32) (i10 : Int32) (i11 : Int32) (i12 : Int32) (i13 : Int32) (i14 : Int32) (i15 : Int32) (i16 : Int32) (i17 : Int32) (f18 : Nat → Int32) (p0 : Int32) (p1 : Int32) (K : Int32 → Unit → Prop) : Prop := (∃ n2, wLX9_beforeOf_2 f18 p0 p1 K  n2 p1)
set_option maxHeartbeats 4000000 in
set_option maxRecDepth 100000 in
theorem zX9_beforeOf (l : Launch) (G : va_G) (cI cJ cZ : ClassId) (h0 h1 k0 k1 k2 k3 k4 k5 k6 k7 k8 k9 k10 k11 k12 k13 k14 k15 k16 k17 k18 k19 k20 k21 k22 k23 k24 k25 k26 k27 k28 k29 k30 k31 k32 k33 k34 k35 k36 k37 k38 sz : Nat) (i0 : Int32) (i1 : Int32) (i2 : Int32) (i3 : Int32) (i4 : Int32) (i5 : Int32) (i6 : Int32) (i7 : Int32) (i8 : Int32) (i9 : Int32) (i10 : Int32) (i11 : Int32) (i12 : Int32) (i13 : Int32) (i14 : Int32) (i15 : Int32) (i16 : Int32) (i17 : Int32) (f18 : Nat → Int32) (p0 : Int32) (p1 : Int32) (K : Int32 → Unit → Prop) (hwp : wX9_beforeOf i0 i1 i2 i3 i4 i5 i6 i7 i8 i9 i10 i11 i12 i13 i14 i15 i16 i17 f18 p0 p1 K) : Met l yX9_beforeOf (xw yX9_beforeOf cX9_beforeOf 4 (some .int)) ({ frames := 0, cells := 0, slots := 0, locals := 0 }) (xPc G cI cJ cZ [.ref h0, .int p0, .int p1] [(h0, .inr (9, [.int i0, .int i1, .ref k0, .ref k1, .ref k2, .ref k3, .ref k4, .int i2, .ref k5, .int i3, .ref k6, .ref k7, .ref k8, .int i4, .ref k9, .ref k10, .int i5, .ref k11, .ref k12, .ref k13, .int i6, .ref k14, .int i7, .ref k15, .ref k16, .int i8, .int i9, .int i10, .ref k17, .int i11, .ref k18, .ref k19, .ref h1, .ref k20, .ref k21, .ref k22, .ref k23, .ref k24, .ref k25, .ref k26, .ref k27, .ref k28, .ref k29, .ref k30, .ref k31, .int i12, .int i13, .int i14, .int i15, .int i16, .ref k32, .ref k33, .ref k34, .ref k35, .ref k36, .ref k37, .int i17, .ref k38])), (h1, aI cI 441 f18)] sz) (va_Qi (fun (r : Int32) (u : Unit) => K r u) (fun (u : Unit) t => xB G (va_A [(h0, .inr (9, [.int i0, .int i1, .ref k0, .ref k1, .ref k2, .ref k3, .ref k4, .int i2, .ref k5, .int i3, .ref k6, .ref k7, .ref k8, .int i4, .ref k9, .ref k10, .int i5, .ref k11, .ref k12, .ref k13, .int i6, .ref k14, .int i7, .ref k15, .ref k16, .int i8, .int i9, .int i10, .ref k17, .int i11, .ref k18, .ref k19, .ref h1, .ref k20, .ref k21, .ref k22, .ref k23, .ref k24, .ref k25, .ref k26, .ref k27, .ref k28, .ref k29, .ref k30, .ref k31, .int i12, .int i13, .int i14, .int i15, .int i16, .ref k32, .ref k33, .ref k34, .ref k35, .ref k36, .ref k37, .int i17, .ref k38])), (h1, aI cI 441 f18)] sz) [(h0, .inr (9, [.int i0, .int i1, .ref k0, .ref k1, .ref k2, .ref k3, .ref k4, .int i2, .ref k5, .int i3, .ref k6, .ref k7, .ref k8, .int i4, .ref k9, .ref k10, .int i5, .ref k11, .ref k12, .ref k13, .int i6, .ref k14, .int i7, .ref k15, .ref k16, .int i8, .int i9, .int i10, .ref k17, .int i11, .ref k18, .ref k19, .ref h1, .ref k20, .ref k21, .ref k22, .ref k23, .ref k24, .ref k25, .ref k26, .ref k27, .ref k28, .ref k29, .ref k30, .ref k31, .int i12, .int i13, .int i14, .int i15, .int i16, .ref k32, .ref k33, .ref k34, .ref k35, .ref k36, .ref k37, .int i17, .ref k38])), (h1, aI cI 441 f18)] t) (va_A [(h0, .inr (9, [.int i0, .int i1, .ref k0, .ref k1, .ref k2, .ref k3, .ref k4, .int i2, .ref k5, .int i3, .ref k6, .ref k7, .ref k8, .int i4, .ref k9, .ref k10, .int i5, .ref k11, .ref k12, .ref k13, .int i6, .ref k14, .int i7, .ref k15, .ref k16, .int i8, .int i9, .int i10, .ref k17, .int i11, .ref k18, .ref k19, .ref h1, .ref k20, .ref k21, .ref k22, .ref k23, .ref k24, .ref k25, .ref k26, .ref k27, .ref k28, .ref k29, .ref k30, .ref k31, .int i12, .int i13, .int i14, .int i15, .int i16, .ref k32, .ref k33, .ref k34, .ref k35, .ref k36, .ref k37, .int i17, .ref k38])), (h1, aI cI 441 f18)] sz)) 0 0 (va_A [(h0, .inr (9, [.int i0, .int i1, .ref k0, .ref k1, .ref k2, .ref k3, .ref k4, .int i2, .ref k5, .int i3, .ref k6, .ref k7, .ref k8, .int i4, .ref k9, .ref k10, .int i5, .ref k11, .ref k12, .ref k13, .int i6, .ref k14, .int i7, .ref k15, .ref k16, .int i8, .int i9, .int i10, .ref k17, .int i11, .ref k18, .ref k19, .ref h1, .ref k20, .ref k21, .ref k22, .ref k23, .ref k24, .ref k25, .ref k26, .ref k27, .ref k28, .ref k29, .ref k30, .ref k31, .int i12, .int i13, .int i14, .int i15, .int i16, .ref k32, .ref k33, .ref k34, .ref k35, .ref k36, .ref k37, .int i17, .ref k38])), (h1, aI cI 441 f18)] sz) := by
  refine Met.ofW (cc := cX9_beforeOf) (maxL := 4) (ret := (some .int)) (by decide) rfl ?_
  intro p e s m args below meth c s₁ B hml hv
  obtain ⟨rfl, hsz, hP, hK, hD0, hN⟩ := hv
  have hx := B.exec
  have hb := B.bytes
  have hr := B.returns
  have hts : ∀ w ∈ xW, w.before _ s = true := fun w h => atoms_spec (ws := xw yX9_beforeOf cX9_beforeOf 4 (some .int)) B.pre w (List.mem_cons_of_mem _ h)
  have hown : s.vm.findClass RX9 = some m.cls := findClass_of_methodNamed B.named
  have hlocks := B.notSynchronized
  subst hsz
  have hD := hD0.self (sz := s.heap.size)
  clear hD0
  generalize hAe : va_A [(h0, .inr (9, [.int i0, .int i1, .ref k0, .ref k1, .ref k2, .ref k3, .ref k4, .int i2, .ref k5, .int i3, .ref k6, .ref k7, .ref k8, .int i4, .ref k9, .ref k10, .int i5, .ref k11, .ref k12, .ref k13, .int i6, .ref k14, .int i7, .ref k15, .ref k16, .int i8, .int i9, .int i10, .ref k17, .int i11, .ref k18, .ref k19, .ref h1, .ref k20, .ref k21, .ref k22, .ref k23, .ref k24, .ref k25, .ref k26, .ref k27, .ref k28, .ref k29, .ref k30, .ref k31, .int i12, .int i13, .int i14, .int i15, .int i16, .ref k32, .ref k33, .ref k34, .ref k35, .ref k36, .ref k37, .int i17, .ref k38])), (h1, aI cI 441 f18)] s.heap.size = A at hD ⊢
  have hA : ∀ q : Nat, s.heap.size ≤ q → A q := fun q h => by rw [← hAe]; exact Or.inr h
  clear hAe
  have hS : va_S A s.heap s.heap [] := va_S.rf
  replace hP : va_P G vwCl [(h0, .inr (9, [.int i0, .int i1, .ref k0, .ref k1, .ref k2, .ref k3, .ref k4, .int i2, .ref k5, .int i3, .ref k6, .ref k7, .ref k8, .int i4, .ref k9, .ref k10, .int i5, .ref k11, .ref k12, .ref k13, .int i6, .ref k14, .int i7, .ref k15, .ref k16, .int i8, .int i9, .int i10, .ref k17, .int i11, .ref k18, .ref k19, .ref h1, .ref k20, .ref k21, .ref k22, .ref k23, .ref k24, .ref k25, .ref k26, .ref k27, .ref k28, .ref k29, .ref k30, .ref k31, .int i12, .int i13, .int i14, .int i15, .int i16, .ref k32, .ref k33, .ref k34, .ref k35, .ref k36, .ref k37, .int i17, .ref k38])), (h1, aI cI 441 f18)] s.heap := hP
  have hl := lv_entry ([.ref h0, .int p0, .int p1]) (n := 4) (Nat.le_of_ble_eq_true rfl)
  rw [lg_entry_eq]
  generalize (lg_sl ([.ref h0, .int p0, .int p1]) ++ List.replicate (4 - (lg_sl ([.ref h0, .int p0, .int p1])).length) Slot.unset).toArray = ls at hl ⊢
  replace hl : lv_has ls 4 [(0, .ref h0), (1, .int p0), (2, .int p1)] := hl
  generalize hQQ : MQ below _ _ s 0 0 _ = QQ
  skip
  unfold wX9_beforeOf at hwp
  refine lv_iload_n hx hb dX9_beforeOf_0 rfl (lv_at hl 2 rfl) ?_
  refine lv_istore_n (lv' := [(3, .int p1), (0, .ref h0), (1, .int p0), (2, .int p1)]) hx hb dX9_beforeOf_1 rfl hl (by decide) rfl (fun ls hl => ?_)
  refine xgen (Pp := fun H locs => W p l e _ s m _ below meth c H locs _ _ _ _) (fun H locs hP hD hS => ?_) hP hD hS
  replace hl : lv_has ls 4 [(3, .int p1), (0, .ref h0), (1, .int p0), (2, .int p1)] := lv_sub hl [0, 1, 2, 3] rfl
  obtain ⟨n1, hwp⟩ := hwp
  have hs1 : ∀ (n1 : Nat) (H : Heap) (locs : List Loc) (ls : Array Slot) (t2_0 : Int32), wLX9_beforeOf_2 f18 p0 p1 K  n1 t2_0 → va_P G vwCl [(h0, .inr (9, [.int i0, .int i1, .ref k0, .ref k1, .ref k2, .ref k3, .ref k4, .int i2, .ref k5, .int i3, .ref k6, .ref k7, .ref k8, .int i4, .ref k9, .ref k10, .int i5, .ref k11, .ref k12, .ref k13, .int i6, .ref k14, .int i7, .ref k15, .ref k16, .int i8, .int i9, .int i10, .ref k17, .int i11, .ref k18, .ref k19, .ref h1, .ref k20, .ref k21, .ref k22, .ref k23, .ref k24, .ref k25, .ref k26, .ref k27, .ref k28, .ref k29, .ref k30, .ref k31, .int i12, .int i13, .int i14, .int i15, .int i16, .ref k32, .ref k33, .ref k34, .ref k35, .ref k36, .ref k37, .int i17, .ref k38])), (h1, aI cI 441 f18)] H → va_D A [(h0, .inr (9, [.int i0, .int i1, .ref k0, .ref k1, .ref k2, .ref k3, .ref k4, .int i2, .ref k5, .int i3, .ref k6, .ref k7, .ref k8, .int i4, .ref k9, .ref k10, .int i5, .ref k11, .ref k12, .ref k13, .int i6, .ref k14, .int i7, .ref k15, .ref k16, .int i8, .int i9, .int i10, .ref k17, .int i11, .ref k18, .ref k19, .ref h1, .ref k20, .ref k21, .ref k22, .ref k23, .ref k24, .ref k25, .ref k26, .ref k27, .ref k28, .ref k29, .ref k30, .ref k31, .int i12, .int i13, .int i14, .int i15, .int i16, .ref k32, .ref k33, .ref k34, .ref k35, .ref k36, .ref k37, .int i17, .ref k38])), (h1, aI cI 441 f18)] → va_S A s.heap H locs → lv_has ls 4 [(3, .int t2_0), (0, .ref h0), (1, .int p0), (2, .int p1)] → W p l e ((headSpec (xw yX9_beforeOf cX9_beforeOf 4 (some .int)) { frames := 0, cells := 0, slots := 0, locals := 0 }).room) s m ([.ref h0, .int p0, .int p1] : List Value).toArray below meth c H locs 0 0 QQ (F0 m 2 ls []) := by
    intro n1
    induction n1 with
    | zero => intro H locs ls t2_0 hwp; exact False.elim hwp
    | succ n1 ih1 =>
      intro H locs ls t2_0 hwp hP hD hS hl
      rw [wLX9_beforeOf_2] at hwp
      refine lv_aload_n hx hb dX9_beforeOf_2 rfl (lv_at hl 1 rfl) ?_
      refine va_get (D := G) (ci := 9) (v := .ref h1) (C := RX9) (T := TX9) (N := 58) hx hb hts xinX9 hown hK hP 0 rfl rfl 32 (by decide) (hts _ wo_547) (fun _ h9 => h9) rfl dX9_beforeOf_3 ?_
      refine lv_bipush (v := 21) hx hb dX9_beforeOf_6 (by decide) ?_
      refine lv_iload_n hx hb dX9_beforeOf_8 rfl (lv_at hl 2 rfl) ?_
      refine lv_imul hx hb dX9_beforeOf_9 ?_
      refine lv_iload_n hx hb dX9_beforeOf_10 rfl (lv_at hl 0 rfl) ?_
      refine lv_iadd hx hb dX9_beforeOf_11 ?_
      obtain ⟨hi, hwp⟩ := hwp
      refine va_iald hx hb hK hP 1 0 rfl rfl hi dX9_beforeOf_12 ?_
      refine lv_iload_n hx hb dX9_beforeOf_13 rfl (lv_at hl 3 rfl) ?_
      refine lv_icmp_eq (tgt := 32) hx hb dX9_beforeOf_14 (by decide) (fun c14 => ?_) (fun c14 => ?_)
      · replace hwp := hwp.1 c14
        refine lv_iload_n hx hb dX9_beforeOf_32 rfl (lv_at hl 0 rfl) ?_
        have hP9 : va_P G vwCl [(h0, .inr (9, [.int i0, .int i1, .ref k0, .ref k1, .ref k2, .ref k3, .ref k4, .int i2, .ref k5, .int i3, .ref k6, .ref k7, .ref k8, .int i4, .ref k9, .ref k10, .int i5, .ref k11, .ref k12, .ref k13, .int i6, .ref k14, .int i7, .ref k15, .ref k16, .int i8, .int i9, .int i10, .ref k17, .int i11, .ref k18, .ref k19, .ref h1, .ref k20, .ref k21, .ref k22, .ref k23, .ref k24, .ref k25, .ref k26, .ref k27, .ref k28, .ref k29, .ref k30, .ref k31, .int i12, .int i13, .int i14, .int i15, .int i16, .ref k32, .ref k33, .ref k34, .ref k35, .ref k36, .ref k37, .int i17, .ref k38])), (h1, aI cI 441 f18)] H := hP.sub [0, 1] rfl
        have hD9 : va_D A [(h0, .inr (9, [.int i0, .int i1, .ref k0, .ref k1, .ref k2, .ref k3, .ref k4, .int i2, .ref k5, .int i3, .ref k6, .ref k7, .ref k8, .int i4, .ref k9, .ref k10, .int i5, .ref k11, .ref k12, .ref k13, .int i6, .ref k14, .int i7, .ref k15, .ref k16, .int i8, .int i9, .int i10, .ref k17, .int i11, .ref k18, .ref k19, .ref h1, .ref k20, .ref k21, .ref k22, .ref k23, .ref k24, .ref k25, .ref k26, .ref k27, .ref k28, .ref k29, .ref k30, .ref k31, .int i12, .int i13, .int i14, .int i15, .int i16, .ref k32, .ref k33, .ref k34, .ref k35, .ref k36, .ref k37, .int i17, .ref k38])), (h1, aI cI 441 f18)] := hD.sub [0, 1] (by decide) rfl
        rw [← hQQ]
        exact W.iret (v := t2_0) hx hb hr (fun t ht hW => ⟨⟨_, (), rfl, hwp, by rw [ht]; exact hP9, hD9⟩, hS.F ht⟩) hS.2.2 dX9_beforeOf_33
      · replace hwp := hwp.2 c14
        refine lv_aload_n hx hb dX9_beforeOf_17 rfl (lv_at hl 1 rfl) ?_
        refine va_get (D := G) (ci := 9) (v := .ref h1) (C := RX9) (T := TX9) (N := 58) hx hb hts xinX9 hown hK hP 0 rfl rfl 32 (by decide) (hts _ wo_547) (fun _ h9 => h9) rfl dX9_beforeOf_18 ?_
        refine lv_bipush (v := 21) hx hb dX9_beforeOf_21 (by decide) ?_
        refine lv_iload_n hx hb dX9_beforeOf_23 rfl (lv_at hl 2 rfl) ?_
        refine lv_imul hx hb dX9_beforeOf_24 ?_
        refine lv_iload_n hx hb dX9_beforeOf_25 rfl (lv_at hl 0 rfl) ?_
        refine lv_iadd hx hb dX9_beforeOf_26 ?_
        obtain ⟨hi, hwp⟩ := hwp
        refine va_iald hx hb hK hP 1 0 rfl rfl hi dX9_beforeOf_27 ?_
        refine lv_topi (fun v28 ev28 => ?_)
        replace hwp := hwp v28 ev28
        clear ev28
        refine lv_istore_n (lv' := [(3, .int v28), (0, .ref h0), (1, .int p0), (2, .int p1)]) hx hb dX9_beforeOf_28 rfl hl (by decide) rfl (fun ls hl => ?_)
        refine lv_goto (tgt := 2) hx hb dX9_beforeOf_29 (by decide) ?_
        replace hl : lv_has ls 4 [(3, .int v28), (0, .ref h0), (1, .int p0), (2, .int p1)] := lv_sub hl [0, 1, 2, 3] rfl
        exact ih1 H locs ls v28 hwp hP hD hS hl
  exact hs1 n1 H locs ls p1 hwp hP hD hS hl
def wLX9_findRounds_229 (t77_0 : Nat → Int32) (t205_1 : Nat → Int32) (t205_2 : Int32) (K : ((Nat → Int32) × (Nat → Int32) × (Nat → Int32)) → Prop) (B205_4 : (Nat → Int32) → (Nat → Int32) → Int32 → Prop) : Nat → (Nat → Int32) → Int32 → Int32 → Prop
  | 0, _, _, _ => False
  | n229 + 1, t229_0, t229_1, t229_2 => (vp_in (((20 : Int32) * t205_2) + t229_2) 400 ∧ (∀ g243 : Nat → Int32, g243 = upd t229_0 (Int32.toNatClampNeg (((20 : Int32) * t205_2) + t229_2)) t229_1 → (vp_in (((21 : Int32) * t205_2) + t229_1) 441 ∧ (∀ v275 : Int32, v275 = (t77_0 (Int32.toNatClampNeg (((21 : Int32) * t205_2) + t229_1))) → (vp_in ((20 : Int32) * t205_2) 400 ∧ ((¬ v275 = (g243 (Int32.toNatClampNeg ((20 : Int32) * t205_2))) → (wLX9_findRounds_229 t77_0 t205_1 t205_2 K B205_4 n229) g243 v275 (t229_2 + 1)) ∧ (v275 = (g243 (Int32.toNatClampNeg ((20 : Int32) * t205_2))) → (vp_in t205_2 20 ∧ (∀ g300 : Nat → Int32, g300 = upd t205_1 (Int32.toNatClampNeg t205_2) (t229_2 + 1) → B205_4 g243 g300 (t205_2 + 1))))))))))
def wLX9_findRounds_205 (i0 : Int32) (f18 : Nat → Int32) (t77_0 : Nat → Int32) (K : ((Nat → Int32) × (Nat → Int32) × (Nat → Int32)) → Prop)  : Nat → (Nat → Int32) → (Nat → Int32) → Int32 → Prop
  | 0, _, _, _ => False
  | n205 + 1, t205_0, t205_1, t205_2 => ((i0 ≤ t205_2 → K (t77_0, t205_0, t205_1)) ∧ (¬ i0 ≤ t205_2 → (vp_in t205_2 20 ∧ (wX9_least (f18 (Int32.toNatClampNeg t205_2)) (fun r221 _ => (∃ n229, wLX9_findRounds_229 t77_0 t205_1 t205_2 K (fun z0 z1 z2 => (wLX9_findRounds_205 i0 f18 t77_0 K  n205) z0 z1 z2) n229 t205_0 r221 0))))))
def wLX9_findRounds_229_1 (i0 : Int32) (i1 : Int32) (i2 : Int32) (i3 : Int32) (i4 : Int32) (i5 : Int32) (i6 : Int32) (i7 : Int32) (i8 : Int32) (i9 : Int32) (i10 : Int32) (i11 : Int32) (i12 : Int32) (i13 : Int32) (i14 : Int32) (i15 : Int32) (i16 : Int32) (i17 : Int32) (t77_0 : Nat → Int32) (t205_1 : Nat → Int32) (t205_2 : Int32) (K : ((Nat → Int32) × (Nat → Int32) × (Nat → Int32)) → Prop) (B205_6 : (Nat → Int32) → (Nat → Int32) → Int32 → Prop) : Nat → (Nat → Int32) → Int32 → Int32 → Prop
  | 0, _, _, _ => False
  | n229 + 1, t229_0, t229_1, t229_2 => (vp_in (((20 : Int32) * t205_2) + t229_2) 400 ∧ (∀ g243 : Nat → Int32, g243 = upd t229_0 (Int32.toNatClampNeg (((20 : Int32) * t205_2) + t229_2)) t229_1 → (wX9_beforeOf i0 i1 i2 i3 i4 i5 i6 i7 i8 i9 i10 i11 i12 i13 i14 i15 i16 i17 t77_0 t205_2 t229_1 (fun r256 _ => (vp_in ((20 : Int32) * t205_2) 400 ∧ ((¬ r256 = (g243 (Int32.toNatClampNeg ((20 : Int32) * t205_2))) → (wLX9_findRounds_229_1 i0 i1 i2 i3 i4 i5 i6 i7 i8 i9 i10 i11 i12 i13 i14 i15 i16 i17 t77_0 t205_1 t205_2 K B205_6 n229) g243 r256 (t229_2 + 1)) ∧ (r256 = (g243 (Int32.toNatClampNeg ((20 : Int32) * t205_2))) → (vp_in t205_2 20 ∧ (∀ g300 : Nat → Int32, g300 = upd t205_1 (Int32.toNatClampNeg t205_2) (t229_2 + 1) → B205_6 g243 g300 (t205_2 + 1))))))))))
def wLX9_findRounds_205_1 (i0 : Int32) (i1 : Int32) (i2 : Int32) (i3 : Int32) (i4 : Int32) (i5 : Int32) (i6 : Int32) (i7 : Int32) (i8 : Int32) (i9 : Int32) (i10 : Int32) (i11 : Int32) (i12 : Int32) (i13 : Int32) (i14 : Int32) (i15 : Int32) (i16 : Int32) (i17 : Int32) (f18 : Nat → Int32) (t77_0 : Nat → Int32) (K : ((Nat → Int32) × (Nat → Int32) × (Nat → Int32)) → Prop)  : Nat → (Nat → Int32) → (Nat → Int32) → Int32 → Prop
  | 0, _, _, _ => False
  | n205 + 1, t205_0, t205_1, t205_2 => ((i0 ≤ t205_2 → K (t77_0, t205_0, t205_1)) ∧ (¬ i0 ≤ t205_2 → (vp_in t205_2 20 ∧ (wX9_least (f18 (Int32.toNatClampNeg t205_2)) (fun r221 _ => (∃ n229, wLX9_findRounds_229_1 i0 i1 i2 i3 i4 i5 i6 i7 i8 i9 i10 i11 i12 i13 i14 i15 i16 i17 t77_0 t205_1 t205_2 K (fun z0 z1 z2 => (wLX9_findRounds_205_1 i0 i1 i2 i3 i4 i5 i6 i7 i8 i9 i10 i11 i12 i13 i14 i15 i16 i17 f18 t77_0 K  n205) z0 z1 z2) n229 t205_0 r221 0))))))
def wLX9_findRounds_166 (i0 : Int32) (i1 : Int32) (i2 : Int32) (i3 : Int32) (i4 : Int32) (i5 : Int32) (i6 : Int32) (i7 : Int32) (i8 : Int32) (i9 : Int32) (i10 : Int32) (i11 : Int32) (i12 : Int32) (i13 : Int32) (i14 : Int32) (i15 : Int32) (i16 : Int32) (i17 : Int32) (f18 : Nat → Int32) (f20 : Nat → Int32) (t2_0 : Nat → Int32) (t77_0 : Nat → Int32) (r160 : Int32) (K : ((Nat → Int32) × (Nat → Int32) × (Nat → Int32)) → Prop)  : Nat → Int32 → Prop
  | 0, _ => False
  | n166 + 1, t166_0 => (vp_in t166_0 441 ∧ (((t77_0 (Int32.toNatClampNeg t166_0)) = r160 → (vp_in r160 441 ∧ (((t77_0 (Int32.toNatClampNeg r160)) ≤ t166_0 → (∃ n205, wLX9_findRounds_205 i0 f18 t77_0 K  n205 f20 t2_0 0)) ∧ (¬ (t77_0 (Int32.toNatClampNeg r160)) ≤ t166_0 → (∃ n205, wLX9_findRounds_205_1 i0 i1 i2 i3 i4 i5 i6 i7 i8 i9 i10 i11 i12 i13 i14 i15 i16 i17 f18 t77_0 K  n205 f20 t2_0 0))))) ∧ (¬ (t77_0 (Int32.toNatClampNeg t166_0)) = r160 → (vp_in t166_0 441 ∧ (∀ v182 : Int32, v182 = (t77_0 (Int32.toNatClampNeg t166_0)) → (wLX9_findRounds_166 i0 i1 i2 i3 i4 i5 i6 i7 i8 i9 i10 i11 i12 i13 i14 i15 i16 i17 f18 f20 t2_0 t77_0 r160 K  n166) v182)))))
def wLX9_findRounds_87 (f22 : Nat → Int32) (t77_1 : Int32) (K : ((Nat → Int32) × (Nat → Int32) × (Nat → Int32)) → Prop) (B77_2 : (Nat → Int32) → Int32 → Prop) : Nat → (Nat → Int32) → Int32 → Prop
  | 0, _, _ => False
  | n87 + 1, t87_0, t87_1 => ((3 ≤ t87_1 → B77_2 t87_0 (t77_1 + 1)) ∧ (¬ 3 ≤ t87_1 → (vp_in (((21 : Int32) * t77_1) + t87_1) 2560 ∧ (vp_in (((21 : Int32) * t77_1) + ((t87_1 + 1) - (t87_1 + 1) / 3 * 3)) 2560 ∧ (vp_in (((21 : Int32) * t77_1) + ((t87_1 + 2) - (t87_1 + 2) / 3 * 3)) 2560 ∧ (vp_in (((21 : Int32) * (f22 (Int32.toNatClampNeg (((21 : Int32) * t77_1) + t87_1)))) + (f22 (Int32.toNatClampNeg (((21 : Int32) * t77_1) + ((t87_1 + 1) - (t87_1 + 1) / 3 * 3))))) 441 ∧ (∀ g141 : Nat → Int32, g141 = upd t87_0 (Int32.toNatClampNeg (((21 : Int32) * (f22 (Int32.toNatClampNeg (((21 : Int32) * t77_1) + t87_1)))) + (f22 (Int32.toNatClampNeg (((21 : Int32) * t77_1) + ((t87_1 + 1) - (t87_1 + 1) / 3 * 3)))))) (f22 (Int32.toNatClampNeg (((21 : Int32) * t77_1) + ((t87_1 + 2) - (t87_1 + 2) / 3 * 3)))) → (wLX9_findRounds_87 f22 t77_1 K B77_2 n87) g141 (t87_1 + 1))))))))
def wLX9_findRounds_77 (i0 : Int32) (i1 : Int32) (i2 : Int32) (i3 : Int32) (i4 : Int32) (i5 : Int32) (i6 : Int32) (i7 : Int32) (i8 : Int32) (i9 : Int32) (i10 : Int32) (i11 : Int32) (i12 : Int32) (i13 : Int32) (i14 : Int32) (i15 : Int32) (i16 : Int32) (i17 : Int32) (f18 : Nat → Int32) (f20 : Nat → Int32) (f22 : Nat → Int32) (t2_0 : Nat → Int32) (K : ((Nat → Int32) × (Nat → Int32) × (Nat → Int32)) → Prop)  : Nat → (Nat → Int32) → Int32 → Prop
  | 0, _, _ => False
  | n77 + 1, t77_0, t77_1 => ((i6 ≤ t77_1 → (wX9_least (f18 (Int32.toNatClampNeg (0 : Int32))) (fun r160 _ => (∃ n166, wLX9_findRounds_166 i0 i1 i2 i3 i4 i5 i6 i7 i8 i9 i10 i11 i12 i13 i14 i15 i16 i17 f18 f20 t2_0 t77_0 r160 K  n166 r160)))) ∧ (¬ i6 ≤ t77_1 → (∃ n87, wLX9_findRounds_87 f22 t77_1 K (fun z0 z1 => (wLX9_findRounds_77 i0 i1 i2 i3 i4 i5 i6 i7 i8 i9 i10 i11 i12 i13 i14 i15 i16 i17 f18 f20 f22 t2_0 K  n77) z0 z1) n87 t77_0 0)))
def wLX9_findRounds_33 (i0 : Int32) (f19 : Nat → Int32) (K : ((Nat → Int32) × (Nat → Int32) × (Nat → Int32)) → Prop)  : Nat → (Nat → Int32) → (Nat → Int32) → Int32 → Prop
  | 0, _, _, _ => False
  | n33 + 1, t33_0, t33_1, t33_2 => ((i0 ≤ t33_2 → K (f19, t33_0, t33_1)) ∧ (¬ i0 ≤ t33_2 → ((¬ i0 = 2 → K (f19, t33_0, t33_1)) ∧ (i0 = 2 → (vp_in ((20 : Int32) * t33_2) 400 ∧ (∀ g60 : Nat → Int32, g60 = upd t33_0 (Int32.toNatClampNeg ((20 : Int32) * t33_2)) ((1 : Int32) - t33_2) → (vp_in t33_2 20 ∧ (∀ g67 : Nat → Int32, g67 = upd t33_1 (Int32.toNatClampNeg t33_2) 1 → (wLX9_findRounds_33 i0 f19 K  n33) g60 g67 (t33_2 + 1)))))))))
def wLX9_findRounds_2 (i0 : Int32) (i1 : Int32) (i2 : Int32) (i3 : Int32) (i4 : Int32) (i5 : Int32) (i6 : Int32) (i7 : Int32) (i8 : Int32) (i9 : Int32) (i10 : Int32) (i11 : Int32) (i12 : Int32) (i13 : Int32) (i14 : Int32) (i15 : Int32) (i16 : Int32) (i17 : Int32) (f18 : Nat → Int32) (f19 : Nat → Int32) (f20 : Nat → Int32) (f22 : Nat → Int32) (K : ((Nat → Int32) × (Nat → Int32) × (Nat → Int32)) → Prop)  : Nat → (Nat → Int32) → Int32 → Prop
  | 0, _, _ => False
  | n2 + 1, t2_0, t2_1 => ((i0 ≤ t2_1 → ((3 ≤ i0 → (∃ n77, wLX9_findRounds_77 i0 i1 i2 i3 i4 i5 i6 i7 i8 i9 i10 i11 i12 i13 i14 i15 i16 i17 f18 f20 f22 t2_0 K  n77 f19 0)) ∧ (¬ 3 ≤ i0 → (∃ n33, wLX9_findRounds_33 i0 f19 K  n33 f20 t2_0 0)))) ∧ (¬ i0 ≤ t2_1 → (vp_in t2_1 20 ∧ (∀ g16 : Nat → Int32, g16 = upd t2_0 (Int32.toNatClampNeg t2_1) 0 → (wLX9_findRounds_2 i0 i1 i2 i3 i4 i5 i6 i7 i8 i9 i10 i11 i12 i13 i14 i15 i16 i17 f18 f19 f20 f22 K  n2) g16 (t2_1 + 1)))))
def wX9_findRounds (i0 : Int32) (i1 : Int32) (i2 : Int32) (i3 : Int32) (i4 : Int32) (i5 : Int32) (i6 : Int32) (i7 : Int32) (i8 : Int32) (i9 : Int32) (i10 : Int32) (i11 : Int32) (i12 : Int32) (i13 : Int32) (i14 : Int32) (i15 : Int32) (i16 : Int32) (i17 : Int32) (f18 : Nat → Int32) (f19 : Nat → Int32) (f20 : Nat → Int32) (f21 : Nat → Int32) (f22 : Nat → Int32) (K : ((Nat → Int32) × (Nat → Int32) × (Nat → Int32)) → Prop) : Prop := (∃ n2, wLX9_findRounds_2 i0 i1 i2 i3 i4 i5 i6 i7 i8 i9 i10 i11 i12 i13 i14 i15 i16 i17 f18 f19 f20 f22 K  n2 f21 0)
set_option maxHeartbeats 4000000 in
set_option maxRecDepth 100000 in
theorem zX9_findRounds (l : Launch) (G : va_G) (cI cJ cZ : ClassId) (h0 h1 h2 h3 h4 h5 k0 k1 k2 k3 k4 k5 k6 k7 k8 k9 k10 k11 k12 k13 k14 k15 k16 k17 k18 k19 k20 k21 k22 k23 k24 k25 k26 k27 k28 k29 k30 k31 k32 k33 k34 sz : Nat) (i0 : Int32) (i1 : Int32) (i2 : Int32) (i3 : Int32) (i4 : Int32) (i5 : Int32) (i6 : Int32) (i7 : Int32) (i8 : Int32) (i9 : Int32) (i10 : Int32) (i11 : Int32) (i12 : Int32) (i13 : Int32) (i14 : Int32) (i15 : Int32) (i16 : Int32) (i17 : Int32) (f18 : Nat → Int32) (f19 : Nat → Int32) (f20 : Nat → Int32) (f21 : Nat → Int32) (f22 : Nat → Int32) (K : ((Nat → Int32) × (Nat → Int32) × (Nat → Int32)) → Prop) (hwp : wX9_findRounds i0 i1 i2 i3 i4 i5 i6 i7 i8 i9 i10 i11 i12 i13 i14 i15 i16 i17 f18 f19 f20 f21 f22 K) : Met l yX9_findRounds (xw yX9_findRounds cX9_findRounds 7 none) ({ frames := 1, cells := 0, slots := 0, locals := 23 }) (xPc G cI cJ cZ [.ref h0] [(h0, .inr (9, [.int i0, .int i1, .ref k0, .ref k1, .ref k2, .ref k3, .ref k4, .int i2, .ref k5, .int i3, .ref k6, .ref k7, .ref k8, .int i4, .ref k9, .ref k10, .int i5, .ref h5, .ref k11, .ref k12, .int i6, .ref k13, .int i7, .ref k14, .ref k15, .int i8, .int i9, .int i10, .ref k16, .int i11, .ref k17, .ref h1, .ref h2, .ref h3, .ref h4, .ref k18, .ref k19, .ref k20, .ref k21, .ref k22, .ref k23, .ref k24, .ref k25, .ref k26, .ref k27, .int i12, .int i13, .int i14, .int i15, .int i16, .ref k28, .ref k29, .ref k30, .ref k31, .ref k32, .ref k33, .int i17, .ref k34])), (h1, aI cI 20 f18), (h2, aI cI 441 f19), (h3, aI cI 400 f20), (h4, aI cI 20 f21), (h5, aI cI 2560 f22)] sz) (va_Qv (fun (u : (Nat → Int32) × (Nat → Int32) × (Nat → Int32)) => K u) (fun (u : (Nat → Int32) × (Nat → Int32) × (Nat → Int32)) t => xB G (va_A [(h0, .inr (9, [.int i0, .int i1, .ref k0, .ref k1, .ref k2, .ref k3, .ref k4, .int i2, .ref k5, .int i3, .ref k6, .ref k7, .ref k8, .int i4, .ref k9, .ref k10, .int i5, .ref h5, .ref k11, .ref k12, .int i6, .ref k13, .int i7, .ref k14, .ref k15, .int i8, .int i9, .int i10, .ref k16, .int i11, .ref k17, .ref h1, .ref h2, .ref h3, .ref h4, .ref k18, .ref k19, .ref k20, .ref k21, .ref k22, .ref k23, .ref k24, .ref k25, .ref k26, .ref k27, .int i12, .int i13, .int i14, .int i15, .int i16, .ref k28, .ref k29, .ref k30, .ref k31, .ref k32, .ref k33, .int i17, .ref k34])), (h1, aI cI 20 f18), (h2, aI cI 441 f19), (h3, aI cI 400 f20), (h4, aI cI 20 f21), (h5, aI cI 2560 f22)] sz) [(h0, .inr (9, [.int i0, .int i1, .ref k0, .ref k1, .ref k2, .ref k3, .ref k4, .int i2, .ref k5, .int i3, .ref k6, .ref k7, .ref k8, .int i4, .ref k9, .ref k10, .int i5, .ref h5, .ref k11, .ref k12, .int i6, .ref k13, .int i7, .ref k14, .ref k15, .int i8, .int i9, .int i10, .ref k16, .int i11, .ref k17, .ref h1, .ref h2, .ref h3, .ref h4, .ref k18, .ref k19, .ref k20, .ref k21, .ref k22, .ref k23, .ref k24, .ref k25, .ref k26, .ref k27, .int i12, .int i13, .int i14, .int i15, .int i16, .ref k28, .ref k29, .ref k30, .ref k31, .ref k32, .ref k33, .int i17, .ref k34])), (h1, aI cI 20 f18), (h2, aI cI 441 u.1), (h3, aI cI 400 u.2.1), (h4, aI cI 20 u.2.2), (h5, aI cI 2560 f22)] t) (va_A [(h0, .inr (9, [.int i0, .int i1, .ref k0, .ref k1, .ref k2, .ref k3, .ref k4, .int i2, .ref k5, .int i3, .ref k6, .ref k7, .ref k8, .int i4, .ref k9, .ref k10, .int i5, .ref h5, .ref k11, .ref k12, .int i6, .ref k13, .int i7, .ref k14, .ref k15, .int i8, .int i9, .int i10, .ref k16, .int i11, .ref k17, .ref h1, .ref h2, .ref h3, .ref h4, .ref k18, .ref k19, .ref k20, .ref k21, .ref k22, .ref k23, .ref k24, .ref k25, .ref k26, .ref k27, .int i12, .int i13, .int i14, .int i15, .int i16, .ref k28, .ref k29, .ref k30, .ref k31, .ref k32, .ref k33, .int i17, .ref k34])), (h1, aI cI 20 f18), (h2, aI cI 441 f19), (h3, aI cI 400 f20), (h4, aI cI 20 f21), (h5, aI cI 2560 f22)] sz)) 0 0 (va_A [(h0, .inr (9, [.int i0, .int i1, .ref k0, .ref k1, .ref k2, .ref k3, .ref k4, .int i2, .ref k5, .int i3, .ref k6, .ref k7, .ref k8, .int i4, .ref k9, .ref k10, .int i5, .ref h5, .ref k11, .ref k12, .int i6, .ref k13, .int i7, .ref k14, .ref k15, .int i8, .int i9, .int i10, .ref k16, .int i11, .ref k17, .ref h1, .ref h2, .ref h3, .ref h4, .ref k18, .ref k19, .ref k20, .ref k21, .ref k22, .ref k23, .ref k24, .ref k25, .ref k26, .ref k27, .int i12, .int i13, .int i14, .int i15, .int i16, .ref k28, .ref k29, .ref k30, .ref k31, .ref k32, .ref k33, .int i17, .ref k34])), (h1, aI cI 20 f18), (h2, aI cI 441 f19), (h3, aI cI 400 f20), (h4, aI cI 20 f21), (h5, aI cI 2560 f22)] sz) := by
  refine Met.ofW (cc := cX9_findRounds) (maxL := 7) (ret := none) (by decide) rfl ?_
  intro p e s m args below meth c s₁ B hml hv
  obtain ⟨rfl, hsz, hP, hK, hD0, hN⟩ := hv
  have hx := B.exec
  have hb := B.bytes
  have hr := B.returns
  have hts : ∀ w ∈ xW, w.before _ s = true := fun w h => atoms_spec (ws := xw yX9_findRounds cX9_findRounds 7 none) B.pre w (List.mem_cons_of_mem _ h)
  have hown : s.vm.findClass RX9 = some m.cls := findClass_of_methodNamed B.named
  have hlocks := B.notSynchronized
  subst hsz
  have hD := hD0.self (sz := s.heap.size)
  clear hD0
  generalize hAe : va_A [(h0, .inr (9, [.int i0, .int i1, .ref k0, .ref k1, .ref k2, .ref k3, .ref k4, .int i2, .ref k5, .int i3, .ref k6, .ref k7, .ref k8, .int i4, .ref k9, .ref k10, .int i5, .ref h5, .ref k11, .ref k12, .int i6, .ref k13, .int i7, .ref k14, .ref k15, .int i8, .int i9, .int i10, .ref k16, .int i11, .ref k17, .ref h1, .ref h2, .ref h3, .ref h4, .ref k18, .ref k19, .ref k20, .ref k21, .ref k22, .ref k23, .ref k24, .ref k25, .ref k26, .ref k27, .int i12, .int i13, .int i14, .int i15, .int i16, .ref k28, .ref k29, .ref k30, .ref k31, .ref k32, .ref k33, .int i17, .ref k34])), (h1, aI cI 20 f18), (h2, aI cI 441 f19), (h3, aI cI 400 f20), (h4, aI cI 20 f21), (h5, aI cI 2560 f22)] s.heap.size = A at hD ⊢
  have hA : ∀ q : Nat, s.heap.size ≤ q → A q := fun q h => by rw [← hAe]; exact Or.inr h
  clear hAe
  have hS : va_S A s.heap s.heap [] := va_S.rf
  replace hP : va_P G vwCl [(h0, .inr (9, [.int i0, .int i1, .ref k0, .ref k1, .ref k2, .ref k3, .ref k4, .int i2, .ref k5, .int i3, .ref k6, .ref k7, .ref k8, .int i4, .ref k9, .ref k10, .int i5, .ref h5, .ref k11, .ref k12, .int i6, .ref k13, .int i7, .ref k14, .ref k15, .int i8, .int i9, .int i10, .ref k16, .int i11, .ref k17, .ref h1, .ref h2, .ref h3, .ref h4, .ref k18, .ref k19, .ref k20, .ref k21, .ref k22, .ref k23, .ref k24, .ref k25, .ref k26, .ref k27, .int i12, .int i13, .int i14, .int i15, .int i16, .ref k28, .ref k29, .ref k30, .ref k31, .ref k32, .ref k33, .int i17, .ref k34])), (h1, aI cI 20 f18), (h2, aI cI 441 f19), (h3, aI cI 400 f20), (h4, aI cI 20 f21), (h5, aI cI 2560 f22)] s.heap := hP
  have hl := lv_entry ([.ref h0]) (n := 7) (Nat.le_of_ble_eq_true rfl)
  rw [lg_entry_eq]
  generalize (lg_sl ([.ref h0]) ++ List.replicate (7 - (lg_sl ([.ref h0])).length) Slot.unset).toArray = ls at hl ⊢
  replace hl : lv_has ls 7 [(0, .ref h0)] := hl
  generalize hQQ : MQ below _ _ s 0 0 _ = QQ
  skip
  unfold wX9_findRounds at hwp
  refine lv_iconst (v := 0) hx hb dX9_findRounds_0 (by decide) ?_
  refine lv_istore_n (lv' := [(1, .int 0), (0, .ref h0)]) hx hb dX9_findRounds_1 rfl hl (by decide) rfl (fun ls hl => ?_)
  refine xgen (Pp := fun H locs => W p l e _ s m _ below meth c H locs _ _ _ _) (fun H locs hP hD hS => ?_) hP hD hS
  replace hl : lv_has ls 7 [(1, .int 0), (0, .ref h0)] := lv_sub hl [0, 1] rfl
  obtain ⟨n1, hwp⟩ := hwp
  have hs1 : ∀ (n1 : Nat) (H : Heap) (locs : List Loc) (ls : Array Slot) (t2_0 : Nat → Int32) (t2_1 : Int32), wLX9_findRounds_2 i0 i1 i2 i3 i4 i5 i6 i7 i8 i9 i10 i11 i12 i13 i14 i15 i16 i17 f18 f19 f20 f22 K  n1 t2_0 t2_1 → va_P G vwCl [(h0, .inr (9, [.int i0, .int i1, .ref k0, .ref k1, .ref k2, .ref k3, .ref k4, .int i2, .ref k5, .int i3, .ref k6, .ref k7, .ref k8, .int i4, .ref k9, .ref k10, .int i5, .ref h5, .ref k11, .ref k12, .int i6, .ref k13, .int i7, .ref k14, .ref k15, .int i8, .int i9, .int i10, .ref k16, .int i11, .ref k17, .ref h1, .ref h2, .ref h3, .ref h4, .ref k18, .ref k19, .ref k20, .ref k21, .ref k22, .ref k23, .ref k24, .ref k25, .ref k26, .ref k27, .int i12, .int i13, .int i14, .int i15, .int i16, .ref k28, .ref k29, .ref k30, .ref k31, .ref k32, .ref k33, .int i17, .ref k34])), (h1, aI cI 20 f18), (h2, aI cI 441 f19), (h3, aI cI 400 f20), (h4, aI cI 20 t2_0), (h5, aI cI 2560 f22)] H → va_D A [(h0, .inr (9, [.int i0, .int i1, .ref k0, .ref k1, .ref k2, .ref k3, .ref k4, .int i2, .ref k5, .int i3, .ref k6, .ref k7, .ref k8, .int i4, .ref k9, .ref k10, .int i5, .ref h5, .ref k11, .ref k12, .int i6, .ref k13, .int i7, .ref k14, .ref k15, .int i8, .int i9, .int i10, .ref k16, .int i11, .ref k17, .ref h1, .ref h2, .ref h3, .ref h4, .ref k18, .ref k19, .ref k20, .ref k21, .ref k22, .ref k23, .ref k24, .ref k25, .ref k26, .ref k27, .int i12, .int i13, .int i14, .int i15, .int i16, .ref k28, .ref k29, .ref k30, .ref k31, .ref k32, .ref k33, .int i17, .ref k34])), (h1, aI cI 20 f18), (h2, aI cI 441 f19), (h3, aI cI 400 f20), (h4, aI cI 20 t2_0), (h5, aI cI 2560 f22)] → va_S A s.heap H locs → lv_has ls 7 [(1, .int t2_1), (0, .ref h0)] → W p l e ((headSpec (xw yX9_findRounds cX9_findRounds 7 none) { frames := 1, cells := 0, slots := 0, locals := 23 }).room) s m ([.ref h0] : List Value).toArray below meth c H locs 0 0 QQ (F0 m 2 ls []) := by
    intro n1
    induction n1 with
    | zero => intro H locs ls t2_0 t2_1 hwp; exact False.elim hwp
    | succ n1 ih1 =>
      intro H locs ls t2_0 t2_1 hwp hP hD hS hl
      rw [wLX9_findRounds_2] at hwp
      refine lv_iload_n hx hb dX9_findRounds_2 rfl (lv_at hl 0 rfl) ?_
      refine lv_aload_n hx hb dX9_findRounds_3 rfl (lv_at hl 1 rfl) ?_
      refine va_get (D := G) (ci := 9) (v := .int i0) (C := RX9) (T := TX9) (N := 58) hx hb hts xinX9 hown hK hP 0 rfl rfl 0 (by decide) (hts _ wo_526) (fun _ h9 => h9) rfl dX9_findRounds_4 ?_
      refine lv_icmp_ge (tgt := 23) hx hb dX9_findRounds_7 (by decide) (fun c7 => ?_) (fun c7 => ?_)
      · replace hwp := hwp.1 c7
        refine lv_aload_n hx hb dX9_findRounds_23 rfl (lv_at hl 1 rfl) ?_
        refine va_get (D := G) (ci := 9) (v := .int i0) (C := RX9) (T := TX9) (N := 58) hx hb hts xinX9 hown hK hP 0 rfl rfl 0 (by decide) (hts _ wo_526) (fun _ h9 => h9) rfl dX9_findRounds_24 ?_
        refine lv_iconst (v := 3) hx hb dX9_findRounds_27 (by decide) ?_
        refine lv_icmp_ge (tgt := 75) hx hb dX9_findRounds_28 (by decide) (fun c28 => ?_) (fun c28 => ?_)
        · replace hwp := hwp.1 c28
          refine lv_iconst (v := 0) hx hb dX9_findRounds_75 (by decide) ?_
          refine lv_istore_n (lv' := [(1, .int 0), (0, .ref h0)]) hx hb dX9_findRounds_76 rfl hl (by decide) rfl (fun ls hl => ?_)
          replace hl : lv_has ls 7 [(1, .int 0), (0, .ref h0)] := lv_sub hl [0, 1] rfl
          obtain ⟨n2, hwp⟩ := hwp
          have hs2 : ∀ (n2 : Nat) (H : Heap) (locs : List Loc) (ls : Array Slot) (t77_0 : Nat → Int32) (t77_1 : Int32), wLX9_findRounds_77 i0 i1 i2 i3 i4 i5 i6 i7 i8 i9 i10 i11 i12 i13 i14 i15 i16 i17 f18 f20 f22 t2_0 K  n2 t77_0 t77_1 → va_P G vwCl [(h0, .inr (9, [.int i0, .int i1, .ref k0, .ref k1, .ref k2, .ref k3, .ref k4, .int i2, .ref k5, .int i3, .ref k6, .ref k7, .ref k8, .int i4, .ref k9, .ref k10, .int i5, .ref h5, .ref k11, .ref k12, .int i6, .ref k13, .int i7, .ref k14, .ref k15, .int i8, .int i9, .int i10, .ref k16, .int i11, .ref k17, .ref h1, .ref h2, .ref h3, .ref h4, .ref k18, .ref k19, .ref k20, .ref k21, .ref k22, .ref k23, .ref k24, .ref k25, .ref k26, .ref k27, .int i12, .int i13, .int i14, .int i15, .int i16, .ref k28, .ref k29, .ref k30, .ref k31, .ref k32, .ref k33, .int i17, .ref k34])), (h1, aI cI 20 f18), (h2, aI cI 441 t77_0), (h3, aI cI 400 f20), (h4, aI cI 20 t2_0), (h5, aI cI 2560 f22)] H → va_D A [(h0, .inr (9, [.int i0, .int i1, .ref k0, .ref k1, .ref k2, .ref k3, .ref k4, .int i2, .ref k5, .int i3, .ref k6, .ref k7, .ref k8, .int i4, .ref k9, .ref k10, .int i5, .ref h5, .ref k11, .ref k12, .int i6, .ref k13, .int i7, .ref k14, .ref k15, .int i8, .int i9, .int i10, .ref k16, .int i11, .ref k17, .ref h1, .ref h2, .ref h3, .ref h4, .ref k18, .ref k19, .ref k20, .ref k21, .ref k22, .ref k23, .ref k24, .ref k25, .ref k26, .ref k27, .int i12, .int i13, .int i14, .int i15, .int i16, .ref k28, .ref k29, .ref k30, .ref k31, .ref k32, .ref k33, .int i17, .ref k34])), (h1, aI cI 20 f18), (h2, aI cI 441 t77_0), (h3, aI cI 400 f20), (h4, aI cI 20 t2_0), (h5, aI cI 2560 f22)] → va_S A s.heap H locs → lv_has ls 7 [(1, .int t77_1), (0, .ref h0)] → W p l e ((headSpec (xw yX9_findRounds cX9_findRounds 7 none) { frames := 1, cells := 0, slots := 0, locals := 23 }).room) s m ([.ref h0] : List Value).toArray below meth c H locs 0 0 QQ (F0 m 77 ls []) := by
            intro n2
            induction n2 with
            | zero => intro H locs ls t77_0 t77_1 hwp; exact False.elim hwp
            | succ n2 ih2 =>
              intro H locs ls t77_0 t77_1 hwp hP hD hS hl
              rw [wLX9_findRounds_77] at hwp
              refine lv_iload_n hx hb dX9_findRounds_77 rfl (lv_at hl 0 rfl) ?_
              refine lv_aload_n hx hb dX9_findRounds_78 rfl (lv_at hl 1 rfl) ?_
              refine va_get (D := G) (ci := 9) (v := .int i6) (C := RX9) (T := TX9) (N := 58) hx hb hts xinX9 hown hK hP 0 rfl rfl 20 (by decide) (hts _ wo_485) (fun _ h9 => h9) rfl dX9_findRounds_79 ?_
              refine lv_icmp_ge (tgt := 154) hx hb dX9_findRounds_82 (by decide) (fun c82 => ?_) (fun c82 => ?_)
              · replace hwp := hwp.1 c82
                refine lv_aload_n hx hb dX9_findRounds_154 rfl (lv_at hl 1 rfl) ?_
                refine va_get (D := G) (ci := 9) (v := .ref h1) (C := RX9) (T := TX9) (N := 58) hx hb hts xinX9 hown hK hP 0 rfl rfl 31 (by decide) (hts _ wo_541) (fun _ h9 => h9) rfl dX9_findRounds_155 ?_
                refine lv_iconst (v := 0) hx hb dX9_findRounds_158 (by decide) ?_
                refine va_iald hx hb hK hP 1 0 rfl rfl (by unfold vp_in; decide) dX9_findRounds_159 ?_
                refine xci (wr := [(h0, .inr (9, [.int i0, .int i1, .ref k0, .ref k1, .ref k2, .ref k3, .ref k4, .int i2, .ref k5, .int i3, .ref k6, .ref k7, .ref k8, .int i4, .ref k9, .ref k10, .int i5, .ref h5, .ref k11, .ref k12, .int i6, .ref k13, .int i7, .ref k14, .ref k15, .int i8, .int i9, .int i10, .ref k16, .int i11, .ref k17, .ref h1, .ref h2, .ref h3, .ref h4, .ref k18, .ref k19, .ref k20, .ref k21, .ref k22, .ref k23, .ref k24, .ref k25, .ref k26, .ref k27, .int i12, .int i13, .int i14, .int i15, .int i16, .ref k28, .ref k29, .ref k30, .ref k31, .ref k32, .ref k33, .int i17, .ref k34])), (h1, aI cI 20 f18), (h2, aI cI 441 t77_0), (h3, aI cI 400 f20), (h4, aI cI 20 t2_0), (h5, aI cI 2560 f22)]) (va_runS (As := [.int (f18 (Int32.toNatClampNeg (0 : Int32)))]) (rest := []) ⟨hx, hb, hml, hown, hts⟩ (zX9_least l G cI cJ cZ H.size (f18 (Int32.toNatClampNeg (0 : Int32))) _ hwp) (va_cwS 1 hts (xgoodS wo_548 wo_549 wo_550 wo_454) rfl rfl rfl (by decide +kernel) ⟨Nat.le_of_ble_eq_true rfl, Nat.le_of_ble_eq_true rfl⟩) (xPreS hK hN hP hD [] (by decide) rfl) rfl rfl hl.1 rfl (lv_room (Nat.le_of_ble_eq_true rfl)) dX9_findRounds_160 ⟨Nat.le_of_ble_eq_true rfl, Nat.le_of_ble_eq_true rfl⟩) hP hD hS hA [] [0, 1, 2, 3, 4, 5] rfl rfl (by decide) (by decide) (fun r160 u160 H locs hwp hP hD hS => ?_)
                replace hP : va_P G vwCl [(h0, .inr (9, [.int i0, .int i1, .ref k0, .ref k1, .ref k2, .ref k3, .ref k4, .int i2, .ref k5, .int i3, .ref k6, .ref k7, .ref k8, .int i4, .ref k9, .ref k10, .int i5, .ref h5, .ref k11, .ref k12, .int i6, .ref k13, .int i7, .ref k14, .ref k15, .int i8, .int i9, .int i10, .ref k16, .int i11, .ref k17, .ref h1, .ref h2, .ref h3, .ref h4, .ref k18, .ref k19, .ref k20, .ref k21, .ref k22, .ref k23, .ref k24, .ref k25, .ref k26, .ref k27, .int i12, .int i13, .int i14, .int i15, .int i16, .ref k28, .ref k29, .ref k30, .ref k31, .ref k32, .ref k33, .int i17, .ref k34])), (h1, aI cI 20 f18), (h2, aI cI 441 t77_0), (h3, aI cI 400 f20), (h4, aI cI 20 t2_0), (h5, aI cI 2560 f22)] H := hP
                replace hD : va_D A [(h0, .inr (9, [.int i0, .int i1, .ref k0, .ref k1, .ref k2, .ref k3, .ref k4, .int i2, .ref k5, .int i3, .ref k6, .ref k7, .ref k8, .int i4, .ref k9, .ref k10, .int i5, .ref h5, .ref k11, .ref k12, .int i6, .ref k13, .int i7, .ref k14, .ref k15, .int i8, .int i9, .int i10, .ref k16, .int i11, .ref k17, .ref h1, .ref h2, .ref h3, .ref h4, .ref k18, .ref k19, .ref k20, .ref k21, .ref k22, .ref k23, .ref k24, .ref k25, .ref k26, .ref k27, .int i12, .int i13, .int i14, .int i15, .int i16, .ref k28, .ref k29, .ref k30, .ref k31, .ref k32, .ref k33, .int i17, .ref k34])), (h1, aI cI 20 f18), (h2, aI cI 441 t77_0), (h3, aI cI 400 f20), (h4, aI cI 20 t2_0), (h5, aI cI 2560 f22)] := hD
                refine lv_istore_n (lv' := [(1, .int r160), (0, .ref h0)]) hx hb dX9_findRounds_163 rfl hl (by decide) rfl (fun ls hl => ?_)
                refine lv_iload_n hx hb dX9_findRounds_164 rfl (lv_at hl 0 rfl) ?_
                refine lv_istore_n (lv' := [(2, .int r160), (1, .int r160), (0, .ref h0)]) hx hb dX9_findRounds_165 rfl hl (by decide) rfl (fun ls hl => ?_)
                replace hl : lv_has ls 7 [(2, .int r160), (1, .int r160), (0, .ref h0)] := lv_sub hl [0, 1, 2] rfl
                obtain ⟨n3, hwp⟩ := hwp
                have hs3 : ∀ (n3 : Nat) (H : Heap) (locs : List Loc) (ls : Array Slot) (t166_0 : Int32), wLX9_findRounds_166 i0 i1 i2 i3 i4 i5 i6 i7 i8 i9 i10 i11 i12 i13 i14 i15 i16 i17 f18 f20 t2_0 t77_0 r160 K  n3 t166_0 → va_P G vwCl [(h0, .inr (9, [.int i0, .int i1, .ref k0, .ref k1, .ref k2, .ref k3, .ref k4, .int i2, .ref k5, .int i3, .ref k6, .ref k7, .ref k8, .int i4, .ref k9, .ref k10, .int i5, .ref h5, .ref k11, .ref k12, .int i6, .ref k13, .int i7, .ref k14, .ref k15, .int i8, .int i9, .int i10, .ref k16, .int i11, .ref k17, .ref h1, .ref h2, .ref h3, .ref h4, .ref k18, .ref k19, .ref k20, .ref k21, .ref k22, .ref k23, .ref k24, .ref k25, .ref k26, .ref k27, .int i12, .int i13, .int i14, .int i15, .int i16, .ref k28, .ref k29, .ref k30, .ref k31, .ref k32, .ref k33, .int i17, .ref k34])), (h1, aI cI 20 f18), (h2, aI cI 441 t77_0), (h3, aI cI 400 f20), (h4, aI cI 20 t2_0), (h5, aI cI 2560 f22)] H → va_D A [(h0, .inr (9, [.int i0, .int i1, .ref k0, .ref k1, .ref k2, .ref k3, .ref k4, .int i2, .ref k5, .int i3, .ref k6, .ref k7, .ref k8, .int i4, .ref k9, .ref k10, .int i5, .ref h5, .ref k11, .ref k12, .int i6, .ref k13, .int i7, .ref k14, .ref k15, .int i8, .int i9, .int i10, .ref k16, .int i11, .ref k17, .ref h1, .ref h2, .ref h3, .ref h4, .ref k18, .ref k19, .ref k20, .ref k21, .ref k22, .ref k23, .ref k24, .ref k25, .ref k26, .ref k27, .int i12, .int i13, .int i14, .int i15, .int i16, .ref k28, .ref k29, .ref k30, .ref k31, .ref k32, .ref k33, .int i17, .ref k34])), (h1, aI cI 20 f18), (h2, aI cI 441 t77_0), (h3, aI cI 400 f20), (h4, aI cI 20 t2_0), (h5, aI cI 2560 f22)] → va_S A s.heap H locs → lv_has ls 7 [(2, .int t166_0), (1, .int r160), (0, .ref h0)] → W p l e ((headSpec (xw yX9_findRounds cX9_findRounds 7 none) { frames := 1, cells := 0, slots := 0, locals := 23 }).room) s m ([.ref h0] : List Value).toArray below meth c H locs 0 0 QQ (F0 m 166 ls []) := by
                  intro n3
                  induction n3 with
                  | zero => intro H locs ls t166_0 hwp; exact False.elim hwp
                  | succ n3 ih3 =>
                    intro H locs ls t166_0 hwp hP hD hS hl
                    rw [wLX9_findRounds_166] at hwp
                    refine lv_aload_n hx hb dX9_findRounds_166 rfl (lv_at hl 2 rfl) ?_
                    refine va_get (D := G) (ci := 9) (v := .ref h2) (C := RX9) (T := TX9) (N := 58) hx hb hts xinX9 hown hK hP 0 rfl rfl 32 (by decide) (hts _ wo_547) (fun _ h9 => h9) rfl dX9_findRounds_167 ?_
                    refine lv_iload_n hx hb dX9_findRounds_170 rfl (lv_at hl 0 rfl) ?_
                    obtain ⟨hi, hwp⟩ := hwp
                    refine va_iald hx hb hK hP 2 0 rfl rfl hi dX9_findRounds_171 ?_
                    refine lv_iload_n hx hb dX9_findRounds_172 rfl (lv_at hl 1 rfl) ?_
                    refine lv_icmp_eq (tgt := 186) hx hb dX9_findRounds_173 (by decide) (fun c173 => ?_) (fun c173 => ?_)
                    · replace hwp := hwp.1 c173
                      refine lv_aload_n hx hb dX9_findRounds_186 rfl (lv_at hl 2 rfl) ?_
                      refine va_get (D := G) (ci := 9) (v := .ref h2) (C := RX9) (T := TX9) (N := 58) hx hb hts xinX9 hown hK hP 0 rfl rfl 32 (by decide) (hts _ wo_547) (fun _ h9 => h9) rfl dX9_findRounds_187 ?_
                      refine lv_iload_n hx hb dX9_findRounds_190 rfl (lv_at hl 1 rfl) ?_
                      obtain ⟨hi, hwp⟩ := hwp
                      refine va_iald hx hb hK hP 2 0 rfl rfl hi dX9_findRounds_191 ?_
                      refine lv_iload_n hx hb dX9_findRounds_192 rfl (lv_at hl 0 rfl) ?_
                      refine lv_icmp_le (tgt := 200) hx hb dX9_findRounds_193 (by decide) (fun c193 => ?_) (fun c193 => ?_)
                      · replace hwp := hwp.1 c193
                        refine lv_iconst (v := 0) hx hb dX9_findRounds_200 (by decide) ?_
                        refine lv_istore_n (lv' := [(3, .int 0), (2, .int t166_0), (1, .int r160), (0, .ref h0)]) hx hb dX9_findRounds_201 rfl hl (by decide) rfl (fun ls hl => ?_)
                        refine lv_iconst (v := 0) hx hb dX9_findRounds_202 (by decide) ?_
                        refine lv_istore (lv' := [(4, .int 0), (3, .int 0), (2, .int t166_0), (1, .int r160), (0, .ref h0)]) hx hb dX9_findRounds_203 hl (by decide) rfl (fun ls hl => ?_)
                        replace hl : lv_has ls 7 [(4, .int 0), (3, .int 0), (0, .ref h0)] := lv_sub hl [0, 1, 4] rfl
                        obtain ⟨n4, hwp⟩ := hwp
                        have hs4 : ∀ (n4 : Nat) (H : Heap) (locs : List Loc) (ls : Array Slot) (t205_0 : Nat → Int32) (t205_1 : Nat → Int32) (t205_2 : Int32), wLX9_findRounds_205 i0 f18 t77_0 K  n4 t205_0 t205_1 t205_2 → va_P G vwCl [(h0, .inr (9, [.int i0, .int i1, .ref k0, .ref k1, .ref k2, .ref k3, .ref k4, .int i2, .ref k5, .int i3, .ref k6, .ref k7, .ref k8, .int i4, .ref k9, .ref k10, .int i5, .ref h5, .ref k11, .ref k12, .int i6, .ref k13, .int i7, .ref k14, .ref k15, .int i8, .int i9, .int i10, .ref k16, .int i11, .ref k17, .ref h1, .ref h2, .ref h3, .ref h4, .ref k18, .ref k19, .ref k20, .ref k21, .ref k22, .ref k23, .ref k24, .ref k25, .ref k26, .ref k27, .int i12, .int i13, .int i14, .int i15, .int i16, .ref k28, .ref k29, .ref k30, .ref k31, .ref k32, .ref k33, .int i17, .ref k34])), (h1, aI cI 20 f18), (h2, aI cI 441 t77_0), (h3, aI cI 400 t205_0), (h4, aI cI 20 t205_1), (h5, aI cI 2560 f22)] H → va_D A [(h0, .inr (9, [.int i0, .int i1, .ref k0, .ref k1, .ref k2, .ref k3, .ref k4, .int i2, .ref k5, .int i3, .ref k6, .ref k7, .ref k8, .int i4, .ref k9, .ref k10, .int i5, .ref h5, .ref k11, .ref k12, .int i6, .ref k13, .int i7, .ref k14, .ref k15, .int i8, .int i9, .int i10, .ref k16, .int i11, .ref k17, .ref h1, .ref h2, .ref h3, .ref h4, .ref k18, .ref k19, .ref k20, .ref k21, .ref k22, .ref k23, .ref k24, .ref k25, .ref k26, .ref k27, .int i12, .int i13, .int i14, .int i15, .int i16, .ref k28, .ref k29, .ref k30, .ref k31, .ref k32, .ref k33, .int i17, .ref k34])), (h1, aI cI 20 f18), (h2, aI cI 441 t77_0), (h3, aI cI 400 t205_0), (h4, aI cI 20 t205_1), (h5, aI cI 2560 f22)] → va_S A s.heap H locs → lv_has ls 7 [(4, .int t205_2), (3, .int 0), (0, .ref h0)] → W p l e ((headSpec (xw yX9_findRounds cX9_findRounds 7 none) { frames := 1, cells := 0, slots := 0, locals := 23 }).room) s m ([.ref h0] : List Value).toArray below meth c H locs 0 0 QQ (F0 m 205 ls []) := by
                          intro n4
                          induction n4 with
                          | zero => intro H locs ls t205_0 t205_1 t205_2 hwp; exact False.elim hwp
                          | succ n4 ih4 =>
                            intro H locs ls t205_0 t205_1 t205_2 hwp hP hD hS hl
                            rw [wLX9_findRounds_205] at hwp
                            refine lv_iload hx hb dX9_findRounds_205 (lv_at hl 0 rfl) ?_
                            refine lv_aload_n hx hb dX9_findRounds_207 rfl (lv_at hl 2 rfl) ?_
                            refine va_get (D := G) (ci := 9) (v := .int i0) (C := RX9) (T := TX9) (N := 58) hx hb hts xinX9 hown hK hP 0 rfl rfl 0 (by decide) (hts _ wo_526) (fun _ h9 => h9) rfl dX9_findRounds_208 ?_
                            refine lv_icmp_ge (tgt := 307) hx hb dX9_findRounds_211 (by decide) (fun c211 => ?_) (fun c211 => ?_)
                            · replace hwp := hwp.1 c211
                              have hP9 : va_P G vwCl [(h0, .inr (9, [.int i0, .int i1, .ref k0, .ref k1, .ref k2, .ref k3, .ref k4, .int i2, .ref k5, .int i3, .ref k6, .ref k7, .ref k8, .int i4, .ref k9, .ref k10, .int i5, .ref h5, .ref k11, .ref k12, .int i6, .ref k13, .int i7, .ref k14, .ref k15, .int i8, .int i9, .int i10, .ref k16, .int i11, .ref k17, .ref h1, .ref h2, .ref h3, .ref h4, .ref k18, .ref k19, .ref k20, .ref k21, .ref k22, .ref k23, .ref k24, .ref k25, .ref k26, .ref k27, .int i12, .int i13, .int i14, .int i15, .int i16, .ref k28, .ref k29, .ref k30, .ref k31, .ref k32, .ref k33, .int i17, .ref k34])), (h1, aI cI 20 f18), (h2, aI cI 441 t77_0), (h3, aI cI 400 t205_0), (h4, aI cI 20 t205_1), (h5, aI cI 2560 f22)] H := hP.sub [0, 1, 2, 3, 4, 5] rfl
                              have hD9 : va_D A [(h0, .inr (9, [.int i0, .int i1, .ref k0, .ref k1, .ref k2, .ref k3, .ref k4, .int i2, .ref k5, .int i3, .ref k6, .ref k7, .ref k8, .int i4, .ref k9, .ref k10, .int i5, .ref h5, .ref k11, .ref k12, .int i6, .ref k13, .int i7, .ref k14, .ref k15, .int i8, .int i9, .int i10, .ref k16, .int i11, .ref k17, .ref h1, .ref h2, .ref h3, .ref h4, .ref k18, .ref k19, .ref k20, .ref k21, .ref k22, .ref k23, .ref k24, .ref k25, .ref k26, .ref k27, .int i12, .int i13, .int i14, .int i15, .int i16, .ref k28, .ref k29, .ref k30, .ref k31, .ref k32, .ref k33, .int i17, .ref k34])), (h1, aI cI 20 f18), (h2, aI cI 441 t77_0), (h3, aI cI 400 t205_0), (h4, aI cI 20 t205_1), (h5, aI cI 2560 f22)] := hD.sub [0, 1, 2, 3, 4, 5] (by decide) rfl
                              rw [← hQQ]
                              exact W.vret hx hb hr (fun t ht hW => ⟨⟨(t77_0, t205_0, t205_1), rfl, hwp, by rw [ht]; exact hP9, hD9⟩, hS.F ht⟩) hS.2.2 dX9_findRounds_307
                            · replace hwp := hwp.2 c211
                              refine lv_aload_n hx hb dX9_findRounds_214 rfl (lv_at hl 2 rfl) ?_
                              refine va_get (D := G) (ci := 9) (v := .ref h1) (C := RX9) (T := TX9) (N := 58) hx hb hts xinX9 hown hK hP 0 rfl rfl 31 (by decide) (hts _ wo_541) (fun _ h9 => h9) rfl dX9_findRounds_215 ?_
                              refine lv_iload hx hb dX9_findRounds_218 (lv_at hl 0 rfl) ?_
                              obtain ⟨hi, hwp⟩ := hwp
                              refine va_iald hx hb hK hP 1 0 rfl rfl hi dX9_findRounds_220 ?_
                              refine xci (wr := [(h0, .inr (9, [.int i0, .int i1, .ref k0, .ref k1, .ref k2, .ref k3, .ref k4, .int i2, .ref k5, .int i3, .ref k6, .ref k7, .ref k8, .int i4, .ref k9, .ref k10, .int i5, .ref h5, .ref k11, .ref k12, .int i6, .ref k13, .int i7, .ref k14, .ref k15, .int i8, .int i9, .int i10, .ref k16, .int i11, .ref k17, .ref h1, .ref h2, .ref h3, .ref h4, .ref k18, .ref k19, .ref k20, .ref k21, .ref k22, .ref k23, .ref k24, .ref k25, .ref k26, .ref k27, .int i12, .int i13, .int i14, .int i15, .int i16, .ref k28, .ref k29, .ref k30, .ref k31, .ref k32, .ref k33, .int i17, .ref k34])), (h1, aI cI 20 f18), (h2, aI cI 441 t77_0), (h3, aI cI 400 t205_0), (h4, aI cI 20 t205_1), (h5, aI cI 2560 f22)]) (va_runS (As := [.int (f18 (Int32.toNatClampNeg t205_2))]) (rest := []) ⟨hx, hb, hml, hown, hts⟩ (zX9_least l G cI cJ cZ H.size (f18 (Int32.toNatClampNeg t205_2)) _ hwp) (va_cwS 1 hts (xgoodS wo_548 wo_549 wo_550 wo_454) rfl rfl rfl (by decide +kernel) ⟨Nat.le_of_ble_eq_true rfl, Nat.le_of_ble_eq_true rfl⟩) (xPreS hK hN hP hD [] (by decide) rfl) rfl rfl hl.1 rfl (lv_room (Nat.le_of_ble_eq_true rfl)) dX9_findRounds_221 ⟨Nat.le_of_ble_eq_true rfl, Nat.le_of_ble_eq_true rfl⟩) hP hD hS hA [] [0, 1, 2, 3, 4, 5] rfl rfl (by decide) (by decide) (fun r221 u221 H locs hwp hP hD hS => ?_)
                              replace hP : va_P G vwCl [(h0, .inr (9, [.int i0, .int i1, .ref k0, .ref k1, .ref k2, .ref k3, .ref k4, .int i2, .ref k5, .int i3, .ref k6, .ref k7, .ref k8, .int i4, .ref k9, .ref k10, .int i5, .ref h5, .ref k11, .ref k12, .int i6, .ref k13, .int i7, .ref k14, .ref k15, .int i8, .int i9, .int i10, .ref k16, .int i11, .ref k17, .ref h1, .ref h2, .ref h3, .ref h4, .ref k18, .ref k19, .ref k20, .ref k21, .ref k22, .ref k23, .ref k24, .ref k25, .ref k26, .ref k27, .int i12, .int i13, .int i14, .int i15, .int i16, .ref k28, .ref k29, .ref k30, .ref k31, .ref k32, .ref k33, .int i17, .ref k34])), (h1, aI cI 20 f18), (h2, aI cI 441 t77_0), (h3, aI cI 400 t205_0), (h4, aI cI 20 t205_1), (h5, aI cI 2560 f22)] H := hP
                              replace hD : va_D A [(h0, .inr (9, [.int i0, .int i1, .ref k0, .ref k1, .ref k2, .ref k3, .ref k4, .int i2, .ref k5, .int i3, .ref k6, .ref k7, .ref k8, .int i4, .ref k9, .ref k10, .int i5, .ref h5, .ref k11, .ref k12, .int i6, .ref k13, .int i7, .ref k14, .ref k15, .int i8, .int i9, .int i10, .ref k16, .int i11, .ref k17, .ref h1, .ref h2, .ref h3, .ref h4, .ref k18, .ref k19, .ref k20, .ref k21, .ref k22, .ref k23, .ref k24, .ref k25, .ref k26, .ref k27, .int i12, .int i13, .int i14, .int i15, .int i16, .ref k28, .ref k29, .ref k30, .ref k31, .ref k32, .ref k33, .int i17, .ref k34])), (h1, aI cI 20 f18), (h2, aI cI 441 t77_0), (h3, aI cI 400 t205_0), (h4, aI cI 20 t205_1), (h5, aI cI 2560 f22)] := hD
                              refine lv_istore (lv' := [(5, .int r221), (4, .int t205_2), (3, .int 0), (0, .ref h0)]) hx hb dX9_findRounds_224 hl (by decide) rfl (fun ls hl => ?_)
                              refine lv_iconst (v := 0) hx hb dX9_findRounds_226 (by decide) ?_
                              refine lv_istore (lv' := [(6, .int 0), (5, .int r221), (4, .int t205_2), (3, .int 0), (0, .ref h0)]) hx hb dX9_findRounds_227 hl (by decide) rfl (fun ls hl => ?_)
                              replace hl : lv_has ls 7 [(6, .int 0), (5, .int r221), (4, .int t205_2), (3, .int 0), (0, .ref h0)] := lv_sub hl [0, 1, 2, 3, 4] rfl
                              obtain ⟨n5, hwp⟩ := hwp
                              have hs5 : ∀ (n5 : Nat) (H : Heap) (locs : List Loc) (ls : Array Slot) (t229_0 : Nat → Int32) (t229_1 : Int32) (t229_2 : Int32), wLX9_findRounds_229 t77_0 t205_1 t205_2 K (fun z0 z1 z2 => wLX9_findRounds_205 i0 f18 t77_0 K  n4 z0 z1 z2) n5 t229_0 t229_1 t229_2 → va_P G vwCl [(h0, .inr (9, [.int i0, .int i1, .ref k0, .ref k1, .ref k2, .ref k3, .ref k4, .int i2, .ref k5, .int i3, .ref k6, .ref k7, .ref k8, .int i4, .ref k9, .ref k10, .int i5, .ref h5, .ref k11, .ref k12, .int i6, .ref k13, .int i7, .ref k14, .ref k15, .int i8, .int i9, .int i10, .ref k16, .int i11, .ref k17, .ref h1, .ref h2, .ref h3, .ref h4, .ref k18, .ref k19, .ref k20, .ref k21, .ref k22, .ref k23, .ref k24, .ref k25, .ref k26, .ref k27, .int i12, .int i13, .int i14, .int i15, .int i16, .ref k28, .ref k29, .ref k30, .ref k31, .ref k32, .ref k33, .int i17, .ref k34])), (h1, aI cI 20 f18), (h2, aI cI 441 t77_0), (h3, aI cI 400 t229_0), (h4, aI cI 20 t205_1), (h5, aI cI 2560 f22)] H → va_D A [(h0, .inr (9, [.int i0, .int i1, .ref k0, .ref k1, .ref k2, .ref k3, .ref k4, .int i2, .ref k5, .int i3, .ref k6, .ref k7, .ref k8, .int i4, .ref k9, .ref k10, .int i5, .ref h5, .ref k11, .ref k12, .int i6, .ref k13, .int i7, .ref k14, .ref k15, .int i8, .int i9, .int i10, .ref k16, .int i11, .ref k17, .ref h1, .ref h2, .ref h3, .ref h4, .ref k18, .ref k19, .ref k20, .ref k21, .ref k22, .ref k23, .ref k24, .ref k25, .ref k26, .ref k27, .int i12, .int i13, .int i14, .int i15, .int i16, .ref k28, .ref k29, .ref k30, .ref k31, .ref k32, .ref k33, .int i17, .ref k34])), (h1, aI cI 20 f18), (h2, aI cI 441 t77_0), (h3, aI cI 400 t229_0), (h4, aI cI 20 t205_1), (h5, aI cI 2560 f22)] → va_S A s.heap H locs → lv_has ls 7 [(6, .int t229_2), (5, .int t229_1), (4, .int t205_2), (3, .int 0), (0, .ref h0)] → W p l e ((headSpec (xw yX9_findRounds cX9_findRounds 7 none) { frames := 1, cells := 0, slots := 0, locals := 23 }).room) s m ([.ref h0] : List Value).toArray below meth c H locs 0 0 QQ (F0 m 229 ls []) := by
                                intro n5
                                induction n5 with
                                | zero => intro H locs ls t229_0 t229_1 t229_2 hwp; exact False.elim hwp
                                | succ n5 ih5 =>
                                  intro H locs ls t229_0 t229_1 t229_2 hwp hP hD hS hl
                                  rw [wLX9_findRounds_229] at hwp
                                  refine lv_aload_n hx hb dX9_findRounds_229 rfl (lv_at hl 4 rfl) ?_
                                  refine va_get (D := G) (ci := 9) (v := .ref h3) (C := RX9) (T := TX9) (N := 58) hx hb hts xinX9 hown hK hP 0 rfl rfl 33 (by decide) (hts _ wo_551) (fun _ h9 => h9) rfl dX9_findRounds_230 ?_
                                  refine lv_bipush (v := 20) hx hb dX9_findRounds_233 (by decide) ?_
                                  refine lv_iload hx hb dX9_findRounds_235 (lv_at hl 2 rfl) ?_
                                  refine lv_imul hx hb dX9_findRounds_237 ?_
                                  refine lv_iload hx hb dX9_findRounds_238 (lv_at hl 0 rfl) ?_
                                  refine lv_iadd hx hb dX9_findRounds_240 ?_
                                  refine lv_iload hx hb dX9_findRounds_241 (lv_at hl 1 rfl) ?_
                                  obtain ⟨hi, hwp⟩ := hwp
                                  refine va_iast hx hb hK hP hD hS 3 0 rfl rfl hi dX9_findRounds_243 (fun H locs hP hD hS => ?_)
                                  obtain ⟨g243, eg243⟩ : ∃ z, z = upd t229_0 (Int32.toNatClampNeg (((20 : Int32) * t205_2) + t229_2)) t229_1 := ⟨_, rfl⟩
                                  replace hwp := hwp g243 eg243
                                  replace hP : va_P G vwCl [(h0, .inr (9, [.int i0, .int i1, .ref k0, .ref k1, .ref k2, .ref k3, .ref k4, .int i2, .ref k5, .int i3, .ref k6, .ref k7, .ref k8, .int i4, .ref k9, .ref k10, .int i5, .ref h5, .ref k11, .ref k12, .int i6, .ref k13, .int i7, .ref k14, .ref k15, .int i8, .int i9, .int i10, .ref k16, .int i11, .ref k17, .ref h1, .ref h2, .ref h3, .ref h4, .ref k18, .ref k19, .ref k20, .ref k21, .ref k22, .ref k23, .ref k24, .ref k25, .ref k26, .ref k27, .int i12, .int i13, .int i14, .int i15, .int i16, .ref k28, .ref k29, .ref k30, .ref k31, .ref k32, .ref k33, .int i17, .ref k34])), (h1, aI cI 20 f18), (h2, aI cI 441 t77_0), (h3, aI cI 400 g243), (h4, aI cI 20 t205_1), (h5, aI cI 2560 f22)] H := by rw [eg243]; exact hP
                                  replace hD : va_D A [(h0, .inr (9, [.int i0, .int i1, .ref k0, .ref k1, .ref k2, .ref k3, .ref k4, .int i2, .ref k5, .int i3, .ref k6, .ref k7, .ref k8, .int i4, .ref k9, .ref k10, .int i5, .ref h5, .ref k11, .ref k12, .int i6, .ref k13, .int i7, .ref k14, .ref k15, .int i8, .int i9, .int i10, .ref k16, .int i11, .ref k17, .ref h1, .ref h2, .ref h3, .ref h4, .ref k18, .ref k19, .ref k20, .ref k21, .ref k22, .ref k23, .ref k24, .ref k25, .ref k26, .ref k27, .int i12, .int i13, .int i14, .int i15, .int i16, .ref k28, .ref k29, .ref k30, .ref k31, .ref k32, .ref k33, .int i17, .ref k34])), (h1, aI cI 20 f18), (h2, aI cI 441 t77_0), (h3, aI cI 400 g243), (h4, aI cI 20 t205_1), (h5, aI cI 2560 f22)] := by rw [eg243]; exact hD
                                  clear eg243
                                  refine lv_iinc (v := (t229_2 + 1)) (lv' := [(6, .int (t229_2 + 1)), (5, .int t229_1), (4, .int t205_2), (3, .int 0), (0, .ref h0)]) hx hb dX9_findRounds_244 hl (k := 0) rfl rfl (by decide) rfl (fun ls hl => ?_)
                                  refine lv_iload_n hx hb dX9_findRounds_247 rfl (lv_at hl 3 rfl) ?_
                                  refine lv_if_eq (tgt := 262) hx hb dX9_findRounds_248 (by decide) (fun c248 => ?_) (fun c248 => ?_)
                                  rotate_left
                                  · exact absurd c248 (by decide)
                                  refine lv_aload_n hx hb dX9_findRounds_262 rfl (lv_at hl 4 rfl) ?_
                                  refine va_get (D := G) (ci := 9) (v := .ref h2) (C := RX9) (T := TX9) (N := 58) hx hb hts xinX9 hown hK hP 0 rfl rfl 32 (by decide) (hts _ wo_547) (fun _ h9 => h9) rfl dX9_findRounds_263 ?_
                                  refine lv_bipush (v := 21) hx hb dX9_findRounds_266 (by decide) ?_
                                  refine lv_iload hx hb dX9_findRounds_268 (lv_at hl 2 rfl) ?_
                                  refine lv_imul hx hb dX9_findRounds_270 ?_
                                  refine lv_iload hx hb dX9_findRounds_271 (lv_at hl 1 rfl) ?_
                                  refine lv_iadd hx hb dX9_findRounds_273 ?_
                                  obtain ⟨hi, hwp⟩ := hwp
                                  refine va_iald hx hb hK hP 2 0 rfl rfl hi dX9_findRounds_274 ?_
                                  refine lv_topi (fun v275 ev275 => ?_)
                                  replace hwp := hwp v275 ev275
                                  clear ev275
                                  refine lv_istore (lv' := [(5, .int v275), (6, .int (t229_2 + 1)), (4, .int t205_2), (3, .int 0), (0, .ref h0)]) hx hb dX9_findRounds_275 hl (by decide) rfl (fun ls hl => ?_)
                                  refine lv_iload hx hb dX9_findRounds_277 (lv_at hl 0 rfl) ?_
                                  refine lv_aload_n hx hb dX9_findRounds_279 rfl (lv_at hl 4 rfl) ?_
                                  refine va_get (D := G) (ci := 9) (v := .ref h3) (C := RX9) (T := TX9) (N := 58) hx hb hts xinX9 hown hK hP 0 rfl rfl 33 (by decide) (hts _ wo_551) (fun _ h9 => h9) rfl dX9_findRounds_280 ?_
                                  refine lv_bipush (v := 20) hx hb dX9_findRounds_283 (by decide) ?_
                                  refine lv_iload hx hb dX9_findRounds_285 (lv_at hl 2 rfl) ?_
                                  refine lv_imul hx hb dX9_findRounds_287 ?_
                                  obtain ⟨hi, hwp⟩ := hwp
                                  refine va_iald hx hb hK hP 3 0 rfl rfl hi dX9_findRounds_288 ?_
                                  refine lv_icmp_ne (tgt := 229) hx hb dX9_findRounds_289 (by decide) (fun c289 => ?_) (fun c289 => ?_)
                                  · replace hwp := hwp.1 c289
                                    replace hl : lv_has ls 7 [(6, .int (t229_2 + 1)), (5, .int v275), (4, .int t205_2), (3, .int 0), (0, .ref h0)] := lv_sub hl [1, 0, 2, 3, 4] rfl
                                    exact ih5 H locs ls g243 v275 (t229_2 + 1) hwp hP hD hS hl
                                  · replace hwp := hwp.2 c289
                                    refine lv_aload_n hx hb dX9_findRounds_292 rfl (lv_at hl 4 rfl) ?_
                                    refine va_get (D := G) (ci := 9) (v := .ref h4) (C := RX9) (T := TX9) (N := 58) hx hb hts xinX9 hown hK hP 0 rfl rfl 34 (by decide) (hts _ wo_552) (fun _ h9 => h9) rfl dX9_findRounds_293 ?_
                                    refine lv_iload hx hb dX9_findRounds_296 (lv_at hl 2 rfl) ?_
                                    refine lv_iload hx hb dX9_findRounds_298 (lv_at hl 1 rfl) ?_
                                    obtain ⟨hi, hwp⟩ := hwp
                                    refine va_iast hx hb hK hP hD hS 4 0 rfl rfl hi dX9_findRounds_300 (fun H locs hP hD hS => ?_)
                                    obtain ⟨g300, eg300⟩ : ∃ z, z = upd t205_1 (Int32.toNatClampNeg t205_2) (t229_2 + 1) := ⟨_, rfl⟩
                                    replace hwp := hwp g300 eg300
                                    replace hP : va_P G vwCl [(h0, .inr (9, [.int i0, .int i1, .ref k0, .ref k1, .ref k2, .ref k3, .ref k4, .int i2, .ref k5, .int i3, .ref k6, .ref k7, .ref k8, .int i4, .ref k9, .ref k10, .int i5, .ref h5, .ref k11, .ref k12, .int i6, .ref k13, .int i7, .ref k14, .ref k15, .int i8, .int i9, .int i10, .ref k16, .int i11, .ref k17, .ref h1, .ref h2, .ref h3, .ref h4, .ref k18, .ref k19, .ref k20, .ref k21, .ref k22, .ref k23, .ref k24, .ref k25, .ref k26, .ref k27, .int i12, .int i13, .int i14, .int i15, .int i16, .ref k28, .ref k29, .ref k30, .ref k31, .ref k32, .ref k33, .int i17, .ref k34])), (h1, aI cI 20 f18), (h2, aI cI 441 t77_0), (h3, aI cI 400 g243), (h4, aI cI 20 g300), (h5, aI cI 2560 f22)] H := by rw [eg300]; exact hP
                                    replace hD : va_D A [(h0, .inr (9, [.int i0, .int i1, .ref k0, .ref k1, .ref k2, .ref k3, .ref k4, .int i2, .ref k5, .int i3, .ref k6, .ref k7, .ref k8, .int i4, .ref k9, .ref k10, .int i5, .ref h5, .ref k11, .ref k12, .int i6, .ref k13, .int i7, .ref k14, .ref k15, .int i8, .int i9, .int i10, .ref k16, .int i11, .ref k17, .ref h1, .ref h2, .ref h3, .ref h4, .ref k18, .ref k19, .ref k20, .ref k21, .ref k22, .ref k23, .ref k24, .ref k25, .ref k26, .ref k27, .int i12, .int i13, .int i14, .int i15, .int i16, .ref k28, .ref k29, .ref k30, .ref k31, .ref k32, .ref k33, .int i17, .ref k34])), (h1, aI cI 20 f18), (h2, aI cI 441 t77_0), (h3, aI cI 400 g243), (h4, aI cI 20 g300), (h5, aI cI 2560 f22)] := by rw [eg300]; exact hD
                                    clear eg300
                                    refine lv_iinc (v := (t205_2 + 1)) (lv' := [(4, .int (t205_2 + 1)), (5, .int v275), (6, .int (t229_2 + 1)), (3, .int 0), (0, .ref h0)]) hx hb dX9_findRounds_301 hl (k := 2) rfl rfl (by decide) rfl (fun ls hl => ?_)
                                    refine lv_goto (tgt := 205) hx hb dX9_findRounds_304 (by decide) ?_
                                    replace hl : lv_has ls 7 [(4, .int (t205_2 + 1)), (3, .int 0), (0, .ref h0)] := lv_sub hl [0, 3, 4] rfl
                                    exact ih4 H locs ls g243 g300 (t205_2 + 1) hwp hP hD hS hl
                              exact hs5 n5 H locs ls t205_0 r221 0 hwp hP hD hS hl
                        exact hs4 n4 H locs ls f20 t2_0 0 hwp hP hD hS hl
                      · replace hwp := hwp.2 c193
                        refine lv_iconst (v := 1) hx hb dX9_findRounds_196 (by decide) ?_
                        refine lv_goto (tgt := 201) hx hb dX9_findRounds_197 (by decide) ?_
                        refine lv_istore_n (lv' := [(3, .int 1), (2, .int t166_0), (1, .int r160), (0, .ref h0)]) hx hb dX9_findRounds_201 rfl hl (by decide) rfl (fun ls hl => ?_)
                        refine lv_iconst (v := 0) hx hb dX9_findRounds_202 (by decide) ?_
                        refine lv_istore (lv' := [(4, .int 0), (3, .int 1), (2, .int t166_0), (1, .int r160), (0, .ref h0)]) hx hb dX9_findRounds_203 hl (by decide) rfl (fun ls hl => ?_)
                        replace hl : lv_has ls 7 [(4, .int 0), (3, .int 1), (0, .ref h0)] := lv_sub hl [0, 1, 4] rfl
                        obtain ⟨n6, hwp⟩ := hwp
                        have hs6 : ∀ (n6 : Nat) (H : Heap) (locs : List Loc) (ls : Array Slot) (t205_0 : Nat → Int32) (t205_1 : Nat → Int32) (t205_2 : Int32), wLX9_findRounds_205_1 i0 i1 i2 i3 i4 i5 i6 i7 i8 i9 i10 i11 i12 i13 i14 i15 i16 i17 f18 t77_0 K  n6 t205_0 t205_1 t205_2 → va_P G vwCl [(h0, .inr (9, [.int i0, .int i1, .ref k0, .ref k1, .ref k2, .ref k3, .ref k4, .int i2, .ref k5, .int i3, .ref k6, .ref k7, .ref k8, .int i4, .ref k9, .ref k10, .int i5, .ref h5, .ref k11, .ref k12, .int i6, .ref k13, .int i7, .ref k14, .ref k15, .int i8, .int i9, .int i10, .ref k16, .int i11, .ref k17, .ref h1, .ref h2, .ref h3, .ref h4, .ref k18, .ref k19, .ref k20, .ref k21, .ref k22, .ref k23, .ref k24, .ref k25, .ref k26, .ref k27, .int i12, .int i13, .int i14, .int i15, .int i16, .ref k28, .ref k29, .ref k30, .ref k31, .ref k32, .ref k33, .int i17, .ref k34])), (h1, aI cI 20 f18), (h2, aI cI 441 t77_0), (h3, aI cI 400 t205_0), (h4, aI cI 20 t205_1), (h5, aI cI 2560 f22)] H → va_D A [(h0, .inr (9, [.int i0, .int i1, .ref k0, .ref k1, .ref k2, .ref k3, .ref k4, .int i2, .ref k5, .int i3, .ref k6, .ref k7, .ref k8, .int i4, .ref k9, .ref k10, .int i5, .ref h5, .ref k11, .ref k12, .int i6, .ref k13, .int i7, .ref k14, .ref k15, .int i8, .int i9, .int i10, .ref k16, .int i11, .ref k17, .ref h1, .ref h2, .ref h3, .ref h4, .ref k18, .ref k19, .ref k20, .ref k21, .ref k22, .ref k23, .ref k24, .ref k25, .ref k26, .ref k27, .int i12, .int i13, .int i14, .int i15, .int i16, .ref k28, .ref k29, .ref k30, .ref k31, .ref k32, .ref k33, .int i17, .ref k34])), (h1, aI cI 20 f18), (h2, aI cI 441 t77_0), (h3, aI cI 400 t205_0), (h4, aI cI 20 t205_1), (h5, aI cI 2560 f22)] → va_S A s.heap H locs → lv_has ls 7 [(4, .int t205_2), (3, .int 1), (0, .ref h0)] → W p l e ((headSpec (xw yX9_findRounds cX9_findRounds 7 none) { frames := 1, cells := 0, slots := 0, locals := 23 }).room) s m ([.ref h0] : List Value).toArray below meth c H locs 0 0 QQ (F0 m 205 ls []) := by
                          intro n6
                          induction n6 with
                          | zero => intro H locs ls t205_0 t205_1 t205_2 hwp; exact False.elim hwp
                          | succ n6 ih6 =>
                            intro H locs ls t205_0 t205_1 t205_2 hwp hP hD hS hl
                            rw [wLX9_findRounds_205_1] at hwp
                            refine lv_iload hx hb dX9_findRounds_205 (lv_at hl 0 rfl) ?_
                            refine lv_aload_n hx hb dX9_findRounds_207 rfl (lv_at hl 2 rfl) ?_
                            refine va_get (D := G) (ci := 9) (v := .int i0) (C := RX9) (T := TX9) (N := 58) hx hb hts xinX9 hown hK hP 0 rfl rfl 0 (by decide) (hts _ wo_526) (fun _ h9 => h9) rfl dX9_findRounds_208 ?_
                            refine lv_icmp_ge (tgt := 307) hx hb dX9_findRounds_211 (by decide) (fun c211 => ?_) (fun c211 => ?_)
                            · replace hwp := hwp.1 c211
                              have hP9 : va_P G vwCl [(h0, .inr (9, [.int i0, .int i1, .ref k0, .ref k1, .ref k2, .ref k3, .ref k4, .int i2, .ref k5, .int i3, .ref k6, .ref k7, .ref k8, .int i4, .ref k9, .ref k10, .int i5, .ref h5, .ref k11, .ref k12, .int i6, .ref k13, .int i7, .ref k14, .ref k15, .int i8, .int i9, .int i10, .ref k16, .int i11, .ref k17, .ref h1, .ref h2, .ref h3, .ref h4, .ref k18, .ref k19, .ref k20, .ref k21, .ref k22, .ref k23, .ref k24, .ref k25, .ref k26, .ref k27, .int i12, .int i13, .int i14, .int i15, .int i16, .ref k28, .ref k29, .ref k30, .ref k31, .ref k32, .ref k33, .int i17, .ref k34])), (h1, aI cI 20 f18), (h2, aI cI 441 t77_0), (h3, aI cI 400 t205_0), (h4, aI cI 20 t205_1), (h5, aI cI 2560 f22)] H := hP.sub [0, 1, 2, 3, 4, 5] rfl
                              have hD9 : va_D A [(h0, .inr (9, [.int i0, .int i1, .ref k0, .ref k1, .ref k2, .ref k3, .ref k4, .int i2, .ref k5, .int i3, .ref k6, .ref k7, .ref k8, .int i4, .ref k9, .ref k10, .int i5, .ref h5, .ref k11, .ref k12, .int i6, .ref k13, .int i7, .ref k14, .ref k15, .int i8, .int i9, .int i10, .ref k16, .int i11, .ref k17, .ref h1, .ref h2, .ref h3, .ref h4, .ref k18, .ref k19, .ref k20, .ref k21, .ref k22, .ref k23, .ref k24, .ref k25, .ref k26, .ref k27, .int i12, .int i13, .int i14, .int i15, .int i16, .ref k28, .ref k29, .ref k30, .ref k31, .ref k32, .ref k33, .int i17, .ref k34])), (h1, aI cI 20 f18), (h2, aI cI 441 t77_0), (h3, aI cI 400 t205_0), (h4, aI cI 20 t205_1), (h5, aI cI 2560 f22)] := hD.sub [0, 1, 2, 3, 4, 5] (by decide) rfl
                              rw [← hQQ]
                              exact W.vret hx hb hr (fun t ht hW => ⟨⟨(t77_0, t205_0, t205_1), rfl, hwp, by rw [ht]; exact hP9, hD9⟩, hS.F ht⟩) hS.2.2 dX9_findRounds_307
                            · replace hwp := hwp.2 c211
                              refine lv_aload_n hx hb dX9_findRounds_214 rfl (lv_at hl 2 rfl) ?_
                              refine va_get (D := G) (ci := 9) (v := .ref h1) (C := RX9) (T := TX9) (N := 58) hx hb hts xinX9 hown hK hP 0 rfl rfl 31 (by decide) (hts _ wo_541) (fun _ h9 => h9) rfl dX9_findRounds_215 ?_
                              refine lv_iload hx hb dX9_findRounds_218 (lv_at hl 0 rfl) ?_
                              obtain ⟨hi, hwp⟩ := hwp
                              refine va_iald hx hb hK hP 1 0 rfl rfl hi dX9_findRounds_220 ?_
                              refine xci (wr := [(h0, .inr (9, [.int i0, .int i1, .ref k0, .ref k1, .ref k2, .ref k3, .ref k4, .int i2, .ref k5, .int i3, .ref k6, .ref k7, .ref k8, .int i4, .ref k9, .ref k10, .int i5, .ref h5, .ref k11, .ref k12, .int i6, .ref k13, .int i7, .ref k14, .ref k15, .int i8, .int i9, .int i10, .ref k16, .int i11, .ref k17, .ref h1, .ref h2, .ref h3, .ref h4, .ref k18, .ref k19, .ref k20, .ref k21, .ref k22, .ref k23, .ref k24, .ref k25, .ref k26, .ref k27, .int i12, .int i13, .int i14, .int i15, .int i16, .ref k28, .ref k29, .ref k30, .ref k31, .ref k32, .ref k33, .int i17, .ref k34])), (h1, aI cI 20 f18), (h2, aI cI 441 t77_0), (h3, aI cI 400 t205_0), (h4, aI cI 20 t205_1), (h5, aI cI 2560 f22)]) (va_runS (As := [.int (f18 (Int32.toNatClampNeg t205_2))]) (rest := []) ⟨hx, hb, hml, hown, hts⟩ (zX9_least l G cI cJ cZ H.size (f18 (Int32.toNatClampNeg t205_2)) _ hwp) (va_cwS 1 hts (xgoodS wo_548 wo_549 wo_550 wo_454) rfl rfl rfl (by decide +kernel) ⟨Nat.le_of_ble_eq_true rfl, Nat.le_of_ble_eq_true rfl⟩) (xPreS hK hN hP hD [] (by decide) rfl) rfl rfl hl.1 rfl (lv_room (Nat.le_of_ble_eq_true rfl)) dX9_findRounds_221 ⟨Nat.le_of_ble_eq_true rfl, Nat.le_of_ble_eq_true rfl⟩) hP hD hS hA [] [0, 1, 2, 3, 4, 5] rfl rfl (by decide) (by decide) (fun r221 u221 H locs hwp hP hD hS => ?_)
                              replace hP : va_P G vwCl [(h0, .inr (9, [.int i0, .int i1, .ref k0, .ref k1, .ref k2, .ref k3, .ref k4, .int i2, .ref k5, .int i3, .ref k6, .ref k7, .ref k8, .int i4, .ref k9, .ref k10, .int i5, .ref h5, .ref k11, .ref k12, .int i6, .ref k13, .int i7, .ref k14, .ref k15, .int i8, .int i9, .int i10, .ref k16, .int i11, .ref k17, .ref h1, .ref h2, .ref h3, .ref h4, .ref k18, .ref k19, .ref k20, .ref k21, .ref k22, .ref k23, .ref k24, .ref k25, .ref k26, .ref k27, .int i12, .int i13, .int i14, .int i15, .int i16, .ref k28, .ref k29, .ref k30, .ref k31, .ref k32, .ref k33, .int i17, .ref k34])), (h1, aI cI 20 f18), (h2, aI cI 441 t77_0), (h3, aI cI 400 t205_0), (h4, aI cI 20 t205_1), (h5, aI cI 2560 f22)] H := hP
                              replace hD : va_D A [(h0, .inr (9, [.int i0, .int i1, .ref k0, .ref k1, .ref k2, .ref k3, .ref k4, .int i2, .ref k5, .int i3, .ref k6, .ref k7, .ref k8, .int i4, .ref k9, .ref k10, .int i5, .ref h5, .ref k11, .ref k12, .int i6, .ref k13, .int i7, .ref k14, .ref k15, .int i8, .int i9, .int i10, .ref k16, .int i11, .ref k17, .ref h1, .ref h2, .ref h3, .ref h4, .ref k18, .ref k19, .ref k20, .ref k21, .ref k22, .ref k23, .ref k24, .ref k25, .ref k26, .ref k27, .int i12, .int i13, .int i14, .int i15, .int i16, .ref k28, .ref k29, .ref k30, .ref k31, .ref k32, .ref k33, .int i17, .ref k34])), (h1, aI cI 20 f18), (h2, aI cI 441 t77_0), (h3, aI cI 400 t205_0), (h4, aI cI 20 t205_1), (h5, aI cI 2560 f22)] := hD
                              refine lv_istore (lv' := [(5, .int r221), (4, .int t205_2), (3, .int 1), (0, .ref h0)]) hx hb dX9_findRounds_224 hl (by decide) rfl (fun ls hl => ?_)
                              refine lv_iconst (v := 0) hx hb dX9_findRounds_226 (by decide) ?_
                              refine lv_istore (lv' := [(6, .int 0), (5, .int r221), (4, .int t205_2), (3, .int 1), (0, .ref h0)]) hx hb dX9_findRounds_227 hl (by decide) rfl (fun ls hl => ?_)
                              replace hl : lv_has ls 7 [(6, .int 0), (5, .int r221), (4, .int t205_2), (3, .int 1), (0, .ref h0)] := lv_sub hl [0, 1, 2, 3, 4] rfl
                              obtain ⟨n7, hwp⟩ := hwp
                              have hs7 : ∀ (n7 : Nat) (H : Heap) (locs : List Loc) (ls : Array Slot) (t229_0 : Nat → Int32) (t229_1 : Int32) (t229_2 : Int32), wLX9_findRounds_229_1 i0 i1 i2 i3 i4 i5 i6 i7 i8 i9 i10 i11 i12 i13 i14 i15 i16 i17 t77_0 t205_1 t205_2 K (fun z0 z1 z2 => wLX9_findRounds_205_1 i0 i1 i2 i3 i4 i5 i6 i7 i8 i9 i10 i11 i12 i13 i14 i15 i16 i17 f18 t77_0 K  n6 z0 z1 z2) n7 t229_0 t229_1 t229_2 → va_P G vwCl [(h0, .inr (9, [.int i0, .int i1, .ref k0, .ref k1, .ref k2, .ref k3, .ref k4, .int i2, .ref k5, .int i3, .ref k6, .ref k7, .ref k8, .int i4, .ref k9, .ref k10, .int i5, .ref h5, .ref k11, .ref k12, .int i6, .ref k13, .int i7, .ref k14, .ref k15, .int i8, .int i9, .int i10, .ref k16, .int i11, .ref k17, .ref h1, .ref h2, .ref h3, .ref h4, .ref k18, .ref k19, .ref k20, .ref k21, .ref k22, .ref k23, .ref k24, .ref k25, .ref k26, .ref k27, .int i12, .int i13, .int i14, .int i15, .int i16, .ref k28, .ref k29, .ref k30, .ref k31, .ref k32, .ref k33, .int i17, .ref k34])), (h1, aI cI 20 f18), (h2, aI cI 441 t77_0), (h3, aI cI 400 t229_0), (h4, aI cI 20 t205_1), (h5, aI cI 2560 f22)] H → va_D A [(h0, .inr (9, [.int i0, .int i1, .ref k0, .ref k1, .ref k2, .ref k3, .ref k4, .int i2, .ref k5, .int i3, .ref k6, .ref k7, .ref k8, .int i4, .ref k9, .ref k10, .int i5, .ref h5, .ref k11, .ref k12, .int i6, .ref k13, .int i7, .ref k14, .ref k15, .int i8, .int i9, .int i10, .ref k16, .int i11, .ref k17, .ref h1, .ref h2, .ref h3, .ref h4, .ref k18, .ref k19, .ref k20, .ref k21, .ref k22, .ref k23, .ref k24, .ref k25, .ref k26, .ref k27, .int i12, .int i13, .int i14, .int i15, .int i16, .ref k28, .ref k29, .ref k30, .ref k31, .ref k32, .ref k33, .int i17, .ref k34])), (h1, aI cI 20 f18), (h2, aI cI 441 t77_0), (h3, aI cI 400 t229_0), (h4, aI cI 20 t205_1), (h5, aI cI 2560 f22)] → va_S A s.heap H locs → lv_has ls 7 [(6, .int t229_2), (5, .int t229_1), (4, .int t205_2), (3, .int 1), (0, .ref h0)] → W p l e ((headSpec (xw yX9_findRounds cX9_findRounds 7 none) { frames := 1, cells := 0, slots := 0, locals := 23 }).room) s m ([.ref h0] : List Value).toArray below meth c H locs 0 0 QQ (F0 m 229 ls []) := by
                                intro n7
                                induction n7 with
                                | zero => intro H locs ls t229_0 t229_1 t229_2 hwp; exact False.elim hwp
                                | succ n7 ih7 =>
                                  intro H locs ls t229_0 t229_1 t229_2 hwp hP hD hS hl
                                  rw [wLX9_findRounds_229_1] at hwp
                                  refine lv_aload_n hx hb dX9_findRounds_229 rfl (lv_at hl 4 rfl) ?_
                                  refine va_get (D := G) (ci := 9) (v := .ref h3) (C := RX9) (T := TX9) (N := 58) hx hb hts xinX9 hown hK hP 0 rfl rfl 33 (by decide) (hts _ wo_551) (fun _ h9 => h9) rfl dX9_findRounds_230 ?_
                                  refine lv_bipush (v := 20) hx hb dX9_findRounds_233 (by decide) ?_
                                  refine lv_iload hx hb dX9_findRounds_235 (lv_at hl 2 rfl) ?_
                                  refine lv_imul hx hb dX9_findRounds_237 ?_
                                  refine lv_iload hx hb dX9_findRounds_238 (lv_at hl 0 rfl) ?_
                                  refine lv_iadd hx hb dX9_findRounds_240 ?_
                                  refine lv_iload hx hb dX9_findRounds_241 (lv_at hl 1 rfl) ?_
                                  obtain ⟨hi, hwp⟩ := hwp
                                  refine va_iast hx hb hK hP hD hS 3 0 rfl rfl hi dX9_findRounds_243 (fun H locs hP hD hS => ?_)
                                  obtain ⟨g243, eg243⟩ : ∃ z, z = upd t229_0 (Int32.toNatClampNeg (((20 : Int32) * t205_2) + t229_2)) t229_1 := ⟨_, rfl⟩
                                  replace hwp := hwp g243 eg243
                                  replace hP : va_P G vwCl [(h0, .inr (9, [.int i0, .int i1, .ref k0, .ref k1, .ref k2, .ref k3, .ref k4, .int i2, .ref k5, .int i3, .ref k6, .ref k7, .ref k8, .int i4, .ref k9, .ref k10, .int i5, .ref h5, .ref k11, .ref k12, .int i6, .ref k13, .int i7, .ref k14, .ref k15, .int i8, .int i9, .int i10, .ref k16, .int i11, .ref k17, .ref h1, .ref h2, .ref h3, .ref h4, .ref k18, .ref k19, .ref k20, .ref k21, .ref k22, .ref k23, .ref k24, .ref k25, .ref k26, .ref k27, .int i12, .int i13, .int i14, .int i15, .int i16, .ref k28, .ref k29, .ref k30, .ref k31, .ref k32, .ref k33, .int i17, .ref k34])), (h1, aI cI 20 f18), (h2, aI cI 441 t77_0), (h3, aI cI 400 g243), (h4, aI cI 20 t205_1), (h5, aI cI 2560 f22)] H := by rw [eg243]; exact hP
                                  replace hD : va_D A [(h0, .inr (9, [.int i0, .int i1, .ref k0, .ref k1, .ref k2, .ref k3, .ref k4, .int i2, .ref k5, .int i3, .ref k6, .ref k7, .ref k8, .int i4, .ref k9, .ref k10, .int i5, .ref h5, .ref k11, .ref k12, .int i6, .ref k13, .int i7, .ref k14, .ref k15, .int i8, .int i9, .int i10, .ref k16, .int i11, .ref k17, .ref h1, .ref h2, .ref h3, .ref h4, .ref k18, .ref k19, .ref k20, .ref k21, .ref k22, .ref k23, .ref k24, .ref k25, .ref k26, .ref k27, .int i12, .int i13, .int i14, .int i15, .int i16, .ref k28, .ref k29, .ref k30, .ref k31, .ref k32, .ref k33, .int i17, .ref k34])), (h1, aI cI 20 f18), (h2, aI cI 441 t77_0), (h3, aI cI 400 g243), (h4, aI cI 20 t205_1), (h5, aI cI 2560 f22)] := by rw [eg243]; exact hD
                                  clear eg243
                                  refine lv_iinc (v := (t229_2 + 1)) (lv' := [(6, .int (t229_2 + 1)), (5, .int t229_1), (4, .int t205_2), (3, .int 1), (0, .ref h0)]) hx hb dX9_findRounds_244 hl (k := 0) rfl rfl (by decide) rfl (fun ls hl => ?_)
                                  refine lv_iload_n hx hb dX9_findRounds_247 rfl (lv_at hl 3 rfl) ?_
                                  refine lv_if_eq (tgt := 262) hx hb dX9_findRounds_248 (by decide) (fun c248 => ?_) (fun c248 => ?_)
                                  · exact absurd c248 (by decide)
                                  refine lv_aload_n hx hb dX9_findRounds_251 rfl (lv_at hl 4 rfl) ?_
                                  refine lv_iload hx hb dX9_findRounds_252 (lv_at hl 2 rfl) ?_
                                  refine lv_iload hx hb dX9_findRounds_254 (lv_at hl 1 rfl) ?_
                                  refine xci (wr := [(h1, aI cI 20 f18), (h3, aI cI 400 g243), (h4, aI cI 20 t205_1), (h5, aI cI 2560 f22)]) (va_runV (As := [.int t205_2, .int t229_1]) (rest := []) ⟨hx, hb, hml, hown, hts⟩ (zX9_beforeOf l G cI cJ cZ h0 h2 k0 k1 k2 k3 k4 k5 k6 k7 k8 k9 k10 h5 k11 k12 k13 k14 k15 k16 k17 h1 h3 h4 k18 k19 k20 k21 k22 k23 k24 k25 k26 k27 k28 k29 k30 k31 k32 k33 k34 H.size i0 i1 i2 i3 i4 i5 i6 i7 i8 i9 i10 i11 i12 i13 i14 i15 i16 i17 t77_0 t205_2 t229_1 _ hwp) (cwV 2 hts (xgoodV wo_553 wo_554 wo_555 wo_556 wo_454) rfl rfl rfl (by decide +kernel) ⟨Nat.le_of_ble_eq_true rfl, Nat.le_of_ble_eq_true rfl⟩) (xPreV (q := (RX9, TX9, 58)) (q0 := 0) hK hN hP hD [0, 2] (by decide) rfl rfl rfl) rfl rfl hl.1 rfl (lv_room (Nat.le_of_ble_eq_true rfl)) dX9_findRounds_256 ⟨Nat.le_of_ble_eq_true rfl, Nat.le_of_ble_eq_true rfl⟩) hP hD hS hA [0, 2] [1, 3, 4, 5] rfl rfl (by decide) (by decide) (fun r256 u256 H locs hwp hP hD hS => ?_)
                                  replace hP : va_P G vwCl [(h1, aI cI 20 f18), (h3, aI cI 400 g243), (h4, aI cI 20 t205_1), (h5, aI cI 2560 f22), (h0, .inr (9, [.int i0, .int i1, .ref k0, .ref k1, .ref k2, .ref k3, .ref k4, .int i2, .ref k5, .int i3, .ref k6, .ref k7, .ref k8, .int i4, .ref k9, .ref k10, .int i5, .ref h5, .ref k11, .ref k12, .int i6, .ref k13, .int i7, .ref k14, .ref k15, .int i8, .int i9, .int i10, .ref k16, .int i11, .ref k17, .ref h1, .ref h2, .ref h3, .ref h4, .ref k18, .ref k19, .ref k20, .ref k21, .ref k22, .ref k23, .ref k24, .ref k25, .ref k26, .ref k27, .int i12, .int i13, .int i14, .int i15, .int i16, .ref k28, .ref k29, .ref k30, .ref k31, .ref k32, .ref k33, .int i17, .ref k34])), (h2, aI cI 441 t77_0)] H := hP
                                  replace hD : va_D A [(h1, aI cI 20 f18), (h3, aI cI 400 g243), (h4, aI cI 20 t205_1), (h5, aI cI 2560 f22), (h0, .inr (9, [.int i0, .int i1, .ref k0, .ref k1, .ref k2, .ref k3, .ref k4, .int i2, .ref k5, .int i3, .ref k6, .ref k7, .ref k8, .int i4, .ref k9, .ref k10, .int i5, .ref h5, .ref k11, .ref k12, .int i6, .ref k13, .int i7, .ref k14, .ref k15, .int i8, .int i9, .int i10, .ref k16, .int i11, .ref k17, .ref h1, .ref h2, .ref h3, .ref h4, .ref k18, .ref k19, .ref k20, .ref k21, .ref k22, .ref k23, .ref k24, .ref k25, .ref k26, .ref k27, .int i12, .int i13, .int i14, .int i15, .int i16, .ref k28, .ref k29, .ref k30, .ref k31, .ref k32, .ref k33, .int i17, .ref k34])), (h2, aI cI 441 t77_0)] := hD
                                  refine lv_goto (tgt := 275) hx hb dX9_findRounds_259 (by decide) ?_
                                  refine lv_istore (lv' := [(5, .int r256), (6, .int (t229_2 + 1)), (4, .int t205_2), (3, .int 1), (0, .ref h0)]) hx hb dX9_findRounds_275 hl (by decide) rfl (fun ls hl => ?_)
                                  refine lv_iload hx hb dX9_findRounds_277 (lv_at hl 0 rfl) ?_
                                  refine lv_aload_n hx hb dX9_findRounds_279 rfl (lv_at hl 4 rfl) ?_
                                  refine va_get (D := G) (ci := 9) (v := .ref h3) (C := RX9) (T := TX9) (N := 58) hx hb hts xinX9 hown hK hP 4 rfl rfl 33 (by decide) (hts _ wo_551) (fun _ h9 => h9) rfl dX9_findRounds_280 ?_
                                  refine lv_bipush (v := 20) hx hb dX9_findRounds_283 (by decide) ?_
                                  refine lv_iload hx hb dX9_findRounds_285 (lv_at hl 2 rfl) ?_
                                  refine lv_imul hx hb dX9_findRounds_287 ?_
                                  obtain ⟨hi, hwp⟩ := hwp
                                  refine va_iald hx hb hK hP 1 0 rfl rfl hi dX9_findRounds_288 ?_
                                  refine lv_icmp_ne (tgt := 229) hx hb dX9_findRounds_289 (by decide) (fun c289 => ?_) (fun c289 => ?_)
                                  · replace hwp := hwp.1 c289
                                    replace hl : lv_has ls 7 [(6, .int (t229_2 + 1)), (5, .int r256), (4, .int t205_2), (3, .int 1), (0, .ref h0)] := lv_sub hl [1, 0, 2, 3, 4] rfl
                                    replace hP : va_P G vwCl [(h0, .inr (9, [.int i0, .int i1, .ref k0, .ref k1, .ref k2, .ref k3, .ref k4, .int i2, .ref k5, .int i3, .ref k6, .ref k7, .ref k8, .int i4, .ref k9, .ref k10, .int i5, .ref h5, .ref k11, .ref k12, .int i6, .ref k13, .int i7, .ref k14, .ref k15, .int i8, .int i9, .int i10, .ref k16, .int i11, .ref k17, .ref h1, .ref h2, .ref h3, .ref h4, .ref k18, .ref k19, .ref k20, .ref k21, .ref k22, .ref k23, .ref k24, .ref k25, .ref k26, .ref k27, .int i12, .int i13, .int i14, .int i15, .int i16, .ref k28, .ref k29, .ref k30, .ref k31, .ref k32, .ref k33, .int i17, .ref k34])), (h1, aI cI 20 f18), (h2, aI cI 441 t77_0), (h3, aI cI 400 g243), (h4, aI cI 20 t205_1), (h5, aI cI 2560 f22)] H := hP.sub [4, 0, 5, 1, 2, 3] rfl
                                    replace hD : va_D A [(h0, .inr (9, [.int i0, .int i1, .ref k0, .ref k1, .ref k2, .ref k3, .ref k4, .int i2, .ref k5, .int i3, .ref k6, .ref k7, .ref k8, .int i4, .ref k9, .ref k10, .int i5, .ref h5, .ref k11, .ref k12, .int i6, .ref k13, .int i7, .ref k14, .ref k15, .int i8, .int i9, .int i10, .ref k16, .int i11, .ref k17, .ref h1, .ref h2, .ref h3, .ref h4, .ref k18, .ref k19, .ref k20, .ref k21, .ref k22, .ref k23, .ref k24, .ref k25, .ref k26, .ref k27, .int i12, .int i13, .int i14, .int i15, .int i16, .ref k28, .ref k29, .ref k30, .ref k31, .ref k32, .ref k33, .int i17, .ref k34])), (h1, aI cI 20 f18), (h2, aI cI 441 t77_0), (h3, aI cI 400 g243), (h4, aI cI 20 t205_1), (h5, aI cI 2560 f22)] := hD.sub [4, 0, 5, 1, 2, 3] (by decide) rfl
                                    exact ih7 H locs ls g243 r256 (t229_2 + 1) hwp hP hD hS hl
                                  · replace hwp := hwp.2 c289
                                    refine lv_aload_n hx hb dX9_findRounds_292 rfl (lv_at hl 4 rfl) ?_
                                    refine va_get (D := G) (ci := 9) (v := .ref h4) (C := RX9) (T := TX9) (N := 58) hx hb hts xinX9 hown hK hP 4 rfl rfl 34 (by decide) (hts _ wo_552) (fun _ h9 => h9) rfl dX9_findRounds_293 ?_
                                    refine lv_iload hx hb dX9_findRounds_296 (lv_at hl 2 rfl) ?_
                                    refine lv_iload hx hb dX9_findRounds_298 (lv_at hl 1 rfl) ?_
                                    obtain ⟨hi, hwp⟩ := hwp
                                    refine va_iast hx hb hK hP hD hS 2 0 rfl rfl hi dX9_findRounds_300 (fun H locs hP hD hS => ?_)
                                    obtain ⟨g300, eg300⟩ : ∃ z, z = upd t205_1 (Int32.toNatClampNeg t205_2) (t229_2 + 1) := ⟨_, rfl⟩
                                    replace hwp := hwp g300 eg300
                                    replace hP : va_P G vwCl [(h1, aI cI 20 f18), (h3, aI cI 400 g243), (h4, aI cI 20 g300), (h5, aI cI 2560 f22), (h0, .inr (9, [.int i0, .int i1, .ref k0, .ref k1, .ref k2, .ref k3, .ref k4, .int i2, .ref k5, .int i3, .ref k6, .ref k7, .ref k8, .int i4, .ref k9, .ref k10, .int i5, .ref h5, .ref k11, .ref k12, .int i6, .ref k13, .int i7, .ref k14, .ref k15, .int i8, .int i9, .int i10, .ref k16, .int i11, .ref k17, .ref h1, .ref h2, .ref h3, .ref h4, .ref k18, .ref k19, .ref k20, .ref k21, .ref k22, .ref k23, .ref k24, .ref k25, .ref k26, .ref k27, .int i12, .int i13, .int i14, .int i15, .int i16, .ref k28, .ref k29, .ref k30, .ref k31, .ref k32, .ref k33, .int i17, .ref k34])), (h2, aI cI 441 t77_0)] H := by rw [eg300]; exact hP
                                    replace hD : va_D A [(h1, aI cI 20 f18), (h3, aI cI 400 g243), (h4, aI cI 20 g300), (h5, aI cI 2560 f22), (h0, .inr (9, [.int i0, .int i1, .ref k0, .ref k1, .ref k2, .ref k3, .ref k4, .int i2, .ref k5, .int i3, .ref k6, .ref k7, .ref k8, .int i4, .ref k9, .ref k10, .int i5, .ref h5, .ref k11, .ref k12, .int i6, .ref k13, .int i7, .ref k14, .ref k15, .int i8, .int i9, .int i10, .ref k16, .int i11, .ref k17, .ref h1, .ref h2, .ref h3, .ref h4, .ref k18, .ref k19, .ref k20, .ref k21, .ref k22, .ref k23, .ref k24, .ref k25, .ref k26, .ref k27, .int i12, .int i13, .int i14, .int i15, .int i16, .ref k28, .ref k29, .ref k30, .ref k31, .ref k32, .ref k33, .int i17, .ref k34])), (h2, aI cI 441 t77_0)] := by rw [eg300]; exact hD
                                    clear eg300
                                    refine lv_iinc (v := (t205_2 + 1)) (lv' := [(4, .int (t205_2 + 1)), (5, .int r256), (6, .int (t229_2 + 1)), (3, .int 1), (0, .ref h0)]) hx hb dX9_findRounds_301 hl (k := 2) rfl rfl (by decide) rfl (fun ls hl => ?_)
                                    refine lv_goto (tgt := 205) hx hb dX9_findRounds_304 (by decide) ?_
                                    replace hl : lv_has ls 7 [(4, .int (t205_2 + 1)), (3, .int 1), (0, .ref h0)] := lv_sub hl [0, 3, 4] rfl
                                    replace hP : va_P G vwCl [(h0, .inr (9, [.int i0, .int i1, .ref k0, .ref k1, .ref k2, .ref k3, .ref k4, .int i2, .ref k5, .int i3, .ref k6, .ref k7, .ref k8, .int i4, .ref k9, .ref k10, .int i5, .ref h5, .ref k11, .ref k12, .int i6, .ref k13, .int i7, .ref k14, .ref k15, .int i8, .int i9, .int i10, .ref k16, .int i11, .ref k17, .ref h1, .ref h2, .ref h3, .ref h4, .ref k18, .ref k19, .ref k20, .ref k21, .ref k22, .ref k23, .ref k24, .ref k25, .ref k26, .ref k27, .int i12, .int i13, .int i14, .int i15, .int i16, .ref k28, .ref k29, .ref k30, .ref k31, .ref k32, .ref k33, .int i17, .ref k34])), (h1, aI cI 20 f18), (h2, aI cI 441 t77_0), (h3, aI cI 400 g243), (h4, aI cI 20 g300), (h5, aI cI 2560 f22)] H := hP.sub [4, 0, 5, 1, 2, 3] rfl
                                    replace hD : va_D A [(h0, .inr (9, [.int i0, .int i1, .ref k0, .ref k1, .ref k2, .ref k3, .ref k4, .int i2, .ref k5, .int i3, .ref k6, .ref k7, .ref k8, .int i4, .ref k9, .ref k10, .int i5, .ref h5, .ref k11, .ref k12, .int i6, .ref k13, .int i7, .ref k14, .ref k15, .int i8, .int i9, .int i10, .ref k16, .int i11, .ref k17, .ref h1, .ref h2, .ref h3, .ref h4, .ref k18, .ref k19, .ref k20, .ref k21, .ref k22, .ref k23, .ref k24, .ref k25, .ref k26, .ref k27, .int i12, .int i13, .int i14, .int i15, .int i16, .ref k28, .ref k29, .ref k30, .ref k31, .ref k32, .ref k33, .int i17, .ref k34])), (h1, aI cI 20 f18), (h2, aI cI 441 t77_0), (h3, aI cI 400 g243), (h4, aI cI 20 g300), (h5, aI cI 2560 f22)] := hD.sub [4, 0, 5, 1, 2, 3] (by decide) rfl
                                    exact ih6 H locs ls g243 g300 (t205_2 + 1) hwp hP hD hS hl
                              exact hs7 n7 H locs ls t205_0 r221 0 hwp hP hD hS hl
                        exact hs6 n6 H locs ls f20 t2_0 0 hwp hP hD hS hl
                    · replace hwp := hwp.2 c173
                      refine lv_aload_n hx hb dX9_findRounds_176 rfl (lv_at hl 2 rfl) ?_
                      refine va_get (D := G) (ci := 9) (v := .ref h2) (C := RX9) (T := TX9) (N := 58) hx hb hts xinX9 hown hK hP 0 rfl rfl 32 (by decide) (hts _ wo_547) (fun _ h9 => h9) rfl dX9_findRounds_177 ?_
                      refine lv_iload_n hx hb dX9_findRounds_180 rfl (lv_at hl 0 rfl) ?_
                      obtain ⟨hi, hwp⟩ := hwp
                      refine va_iald hx hb hK hP 2 0 rfl rfl hi dX9_findRounds_181 ?_
                      refine lv_topi (fun v182 ev182 => ?_)
                      replace hwp := hwp v182 ev182
                      clear ev182
                      refine lv_istore_n (lv' := [(2, .int v182), (1, .int r160), (0, .ref h0)]) hx hb dX9_findRounds_182 rfl hl (by decide) rfl (fun ls hl => ?_)
                      refine lv_goto (tgt := 166) hx hb dX9_findRounds_183 (by decide) ?_
                      replace hl : lv_has ls 7 [(2, .int v182), (1, .int r160), (0, .ref h0)] := lv_sub hl [0, 1, 2] rfl
                      exact ih3 H locs ls v182 hwp hP hD hS hl
                exact hs3 n3 H locs ls r160 hwp hP hD hS hl
              · replace hwp := hwp.2 c82
                refine lv_iconst (v := 0) hx hb dX9_findRounds_85 (by decide) ?_
                refine lv_istore_n (lv' := [(2, .int 0), (1, .int t77_1), (0, .ref h0)]) hx hb dX9_findRounds_86 rfl hl (by decide) rfl (fun ls hl => ?_)
                replace hl : lv_has ls 7 [(2, .int 0), (1, .int t77_1), (0, .ref h0)] := lv_sub hl [0, 1, 2] rfl
                obtain ⟨n8, hwp⟩ := hwp
                have hs8 : ∀ (n8 : Nat) (H : Heap) (locs : List Loc) (ls : Array Slot) (t87_0 : Nat → Int32) (t87_1 : Int32), wLX9_findRounds_87 f22 t77_1 K (fun z0 z1 => wLX9_findRounds_77 i0 i1 i2 i3 i4 i5 i6 i7 i8 i9 i10 i11 i12 i13 i14 i15 i16 i17 f18 f20 f22 t2_0 K  n2 z0 z1) n8 t87_0 t87_1 → va_P G vwCl [(h0, .inr (9, [.int i0, .int i1, .ref k0, .ref k1, .ref k2, .ref k3, .ref k4, .int i2, .ref k5, .int i3, .ref k6, .ref k7, .ref k8, .int i4, .ref k9, .ref k10, .int i5, .ref h5, .ref k11, .ref k12, .int i6, .ref k13, .int i7, .ref k14, .ref k15, .int i8, .int i9, .int i10, .ref k16, .int i11, .ref k17, .ref h1, .ref h2, .ref h3, .ref h4, .ref k18, .ref k19, .ref k20, .ref k21, .ref k22, .ref k23, .ref k24, .ref k25, .ref k26, .ref k27, .int i12, .int i13, .int i14, .int i15, .int i16, .ref k28, .ref k29, .ref k30, .ref k31, .ref k32, .ref k33, .int i17, .ref k34])), (h1, aI cI 20 f18), (h2, aI cI 441 t87_0), (h3, aI cI 400 f20), (h4, aI cI 20 t2_0), (h5, aI cI 2560 f22)] H → va_D A [(h0, .inr (9, [.int i0, .int i1, .ref k0, .ref k1, .ref k2, .ref k3, .ref k4, .int i2, .ref k5, .int i3, .ref k6, .ref k7, .ref k8, .int i4, .ref k9, .ref k10, .int i5, .ref h5, .ref k11, .ref k12, .int i6, .ref k13, .int i7, .ref k14, .ref k15, .int i8, .int i9, .int i10, .ref k16, .int i11, .ref k17, .ref h1, .ref h2, .ref h3, .ref h4, .ref k18, .ref k19, .ref k20, .ref k21, .ref k22, .ref k23, .ref k24, .ref k25, .ref k26, .ref k27, .int i12, .int i13, .int i14, .int i15, .int i16, .ref k28, .ref k29, .ref k30, .ref k31, .ref k32, .ref k33, .int i17, .ref k34])), (h1, aI cI 20 f18), (h2, aI cI 441 t87_0), (h3, aI cI 400 f20), (h4, aI cI 20 t2_0), (h5, aI cI 2560 f22)] → va_S A s.heap H locs → lv_has ls 7 [(2, .int t87_1), (1, .int t77_1), (0, .ref h0)] → W p l e ((headSpec (xw yX9_findRounds cX9_findRounds 7 none) { frames := 1, cells := 0, slots := 0, locals := 23 }).room) s m ([.ref h0] : List Value).toArray below meth c H locs 0 0 QQ (F0 m 87 ls []) := by
                  intro n8
                  induction n8 with
                  | zero => intro H locs ls t87_0 t87_1 hwp; exact False.elim hwp
                  | succ n8 ih8 =>
                    intro H locs ls t87_0 t87_1 hwp hP hD hS hl
                    rw [wLX9_findRounds_87] at hwp
                    refine lv_iload_n hx hb dX9_findRounds_87 rfl (lv_at hl 0 rfl) ?_
                    refine lv_iconst (v := 3) hx hb dX9_findRounds_88 (by decide) ?_
                    refine lv_icmp_ge (tgt := 148) hx hb dX9_findRounds_89 (by decide) (fun c89 => ?_) (fun c89 => ?_)
                    · replace hwp := hwp.1 c89
                      refine lv_iinc (v := (t77_1 + 1)) (lv' := [(1, .int (t77_1 + 1)), (2, .int t87_1), (0, .ref h0)]) hx hb dX9_findRounds_148 hl (k := 1) rfl rfl (by decide) rfl (fun ls hl => ?_)
                      refine lv_goto (tgt := 77) hx hb dX9_findRounds_151 (by decide) ?_
                      replace hl : lv_has ls 7 [(1, .int (t77_1 + 1)), (0, .ref h0)] := lv_sub hl [0, 2] rfl
                      exact ih2 H locs ls t87_0 (t77_1 + 1) hwp hP hD hS hl
                    · replace hwp := hwp.2 c89
                      refine lv_aload_n hx hb dX9_findRounds_92 rfl (lv_at hl 2 rfl) ?_
                      refine va_get (D := G) (ci := 9) (v := .ref h2) (C := RX9) (T := TX9) (N := 58) hx hb hts xinX9 hown hK hP 0 rfl rfl 32 (by decide) (hts _ wo_547) (fun _ h9 => h9) rfl dX9_findRounds_93 ?_
                      refine lv_bipush (v := 21) hx hb dX9_findRounds_96 (by decide) ?_
                      refine lv_aload_n hx hb dX9_findRounds_98 rfl (lv_at hl 2 rfl) ?_
                      refine va_get (D := G) (ci := 9) (v := .ref h5) (C := RX9) (T := TX9) (N := 58) hx hb hts xinX9 hown hK hP 0 rfl rfl 17 (by decide) (hts _ wo_474) (fun _ h9 => h9) rfl dX9_findRounds_99 ?_
                      refine lv_bipush (v := 21) hx hb dX9_findRounds_102 (by decide) ?_
                      refine lv_iload_n hx hb dX9_findRounds_104 rfl (lv_at hl 1 rfl) ?_
                      refine lv_imul hx hb dX9_findRounds_105 ?_
                      refine lv_iload_n hx hb dX9_findRounds_106 rfl (lv_at hl 0 rfl) ?_
                      refine lv_iadd hx hb dX9_findRounds_107 ?_
                      obtain ⟨hi, hwp⟩ := hwp
                      refine va_iald hx hb hK hP 5 0 rfl rfl hi dX9_findRounds_108 ?_
                      refine lv_imul hx hb dX9_findRounds_109 ?_
                      refine lv_aload_n hx hb dX9_findRounds_110 rfl (lv_at hl 2 rfl) ?_
                      refine va_get (D := G) (ci := 9) (v := .ref h5) (C := RX9) (T := TX9) (N := 58) hx hb hts xinX9 hown hK hP 0 rfl rfl 17 (by decide) (hts _ wo_474) (fun _ h9 => h9) rfl dX9_findRounds_111 ?_
                      refine lv_bipush (v := 21) hx hb dX9_findRounds_114 (by decide) ?_
                      refine lv_iload_n hx hb dX9_findRounds_116 rfl (lv_at hl 1 rfl) ?_
                      refine lv_imul hx hb dX9_findRounds_117 ?_
                      refine lv_iload_n hx hb dX9_findRounds_118 rfl (lv_at hl 0 rfl) ?_
                      refine lv_iconst (v := 1) hx hb dX9_findRounds_119 (by decide) ?_
                      refine lv_iadd hx hb dX9_findRounds_120 ?_
                      refine lv_iconst (v := 3) hx hb dX9_findRounds_121 (by decide) ?_
                      refine lv_irem hx hb dX9_findRounds_122 (by decide) ?_
                      refine lv_iadd hx hb dX9_findRounds_123 ?_
                      obtain ⟨hi, hwp⟩ := hwp
                      refine va_iald hx hb hK hP 5 0 rfl rfl hi dX9_findRounds_124 ?_
                      refine lv_iadd hx hb dX9_findRounds_125 ?_
                      refine lv_aload_n hx hb dX9_findRounds_126 rfl (lv_at hl 2 rfl) ?_
                      refine va_get (D := G) (ci := 9) (v := .ref h5) (C := RX9) (T := TX9) (N := 58) hx hb hts xinX9 hown hK hP 0 rfl rfl 17 (by decide) (hts _ wo_474) (fun _ h9 => h9) rfl dX9_findRounds_127 ?_
                      refine lv_bipush (v := 21) hx hb dX9_findRounds_130 (by decide) ?_
                      refine lv_iload_n hx hb dX9_findRounds_132 rfl (lv_at hl 1 rfl) ?_
                      refine lv_imul hx hb dX9_findRounds_133 ?_
                      refine lv_iload_n hx hb dX9_findRounds_134 rfl (lv_at hl 0 rfl) ?_
                      refine lv_iconst (v := 2) hx hb dX9_findRounds_135 (by decide) ?_
                      refine lv_iadd hx hb dX9_findRounds_136 ?_
                      refine lv_iconst (v := 3) hx hb dX9_findRounds_137 (by decide) ?_
                      refine lv_irem hx hb dX9_findRounds_138 (by decide) ?_
                      refine lv_iadd hx hb dX9_findRounds_139 ?_
                      obtain ⟨hi, hwp⟩ := hwp
                      refine va_iald hx hb hK hP 5 0 rfl rfl hi dX9_findRounds_140 ?_
                      obtain ⟨hi, hwp⟩ := hwp
                      refine va_iast hx hb hK hP hD hS 2 0 rfl rfl hi dX9_findRounds_141 (fun H locs hP hD hS => ?_)
                      obtain ⟨g141, eg141⟩ : ∃ z, z = upd t87_0 (Int32.toNatClampNeg (((21 : Int32) * (f22 (Int32.toNatClampNeg (((21 : Int32) * t77_1) + t87_1)))) + (f22 (Int32.toNatClampNeg (((21 : Int32) * t77_1) + ((t87_1 + 1) - (t87_1 + 1) / 3 * 3)))))) (f22 (Int32.toNatClampNeg (((21 : Int32) * t77_1) + ((t87_1 + 2) - (t87_1 + 2) / 3 * 3)))) := ⟨_, rfl⟩
                      replace hwp := hwp g141 eg141
                      replace hP : va_P G vwCl [(h0, .inr (9, [.int i0, .int i1, .ref k0, .ref k1, .ref k2, .ref k3, .ref k4, .int i2, .ref k5, .int i3, .ref k6, .ref k7, .ref k8, .int i4, .ref k9, .ref k10, .int i5, .ref h5, .ref k11, .ref k12, .int i6, .ref k13, .int i7, .ref k14, .ref k15, .int i8, .int i9, .int i10, .ref k16, .int i11, .ref k17, .ref h1, .ref h2, .ref h3, .ref h4, .ref k18, .ref k19, .ref k20, .ref k21, .ref k22, .ref k23, .ref k24, .ref k25, .ref k26, .ref k27, .int i12, .int i13, .int i14, .int i15, .int i16, .ref k28, .ref k29, .ref k30, .ref k31, .ref k32, .ref k33, .int i17, .ref k34])), (h1, aI cI 20 f18), (h2, aI cI 441 g141), (h3, aI cI 400 f20), (h4, aI cI 20 t2_0), (h5, aI cI 2560 f22)] H := by rw [eg141]; exact hP
                      replace hD : va_D A [(h0, .inr (9, [.int i0, .int i1, .ref k0, .ref k1, .ref k2, .ref k3, .ref k4, .int i2, .ref k5, .int i3, .ref k6, .ref k7, .ref k8, .int i4, .ref k9, .ref k10, .int i5, .ref h5, .ref k11, .ref k12, .int i6, .ref k13, .int i7, .ref k14, .ref k15, .int i8, .int i9, .int i10, .ref k16, .int i11, .ref k17, .ref h1, .ref h2, .ref h3, .ref h4, .ref k18, .ref k19, .ref k20, .ref k21, .ref k22, .ref k23, .ref k24, .ref k25, .ref k26, .ref k27, .int i12, .int i13, .int i14, .int i15, .int i16, .ref k28, .ref k29, .ref k30, .ref k31, .ref k32, .ref k33, .int i17, .ref k34])), (h1, aI cI 20 f18), (h2, aI cI 441 g141), (h3, aI cI 400 f20), (h4, aI cI 20 t2_0), (h5, aI cI 2560 f22)] := by rw [eg141]; exact hD
                      clear eg141
                      refine lv_iinc (v := (t87_1 + 1)) (lv' := [(2, .int (t87_1 + 1)), (1, .int t77_1), (0, .ref h0)]) hx hb dX9_findRounds_142 hl (k := 0) rfl rfl (by decide) rfl (fun ls hl => ?_)
                      refine lv_goto (tgt := 87) hx hb dX9_findRounds_145 (by decide) ?_
                      replace hl : lv_has ls 7 [(2, .int (t87_1 + 1)), (1, .int t77_1), (0, .ref h0)] := lv_sub hl [0, 1, 2] rfl
                      exact ih8 H locs ls g141 (t87_1 + 1) hwp hP hD hS hl
                exact hs8 n8 H locs ls t77_0 0 hwp hP hD hS hl
          exact hs2 n2 H locs ls f19 0 hwp hP hD hS hl
        · replace hwp := hwp.2 c28
          refine lv_iconst (v := 0) hx hb dX9_findRounds_31 (by decide) ?_
          refine lv_istore_n (lv' := [(1, .int 0), (0, .ref h0)]) hx hb dX9_findRounds_32 rfl hl (by decide) rfl (fun ls hl => ?_)
          replace hl : lv_has ls 7 [(1, .int 0), (0, .ref h0)] := lv_sub hl [0, 1] rfl
          obtain ⟨n9, hwp⟩ := hwp
          have hs9 : ∀ (n9 : Nat) (H : Heap) (locs : List Loc) (ls : Array Slot) (t33_0 : Nat → Int32) (t33_1 : Nat → Int32) (t33_2 : Int32), wLX9_findRounds_33 i0 f19 K  n9 t33_0 t33_1 t33_2 → va_P G vwCl [(h0, .inr (9, [.int i0, .int i1, .ref k0, .ref k1, .ref k2, .ref k3, .ref k4, .int i2, .ref k5, .int i3, .ref k6, .ref k7, .ref k8, .int i4, .ref k9, .ref k10, .int i5, .ref h5, .ref k11, .ref k12, .int i6, .ref k13, .int i7, .ref k14, .ref k15, .int i8, .int i9, .int i10, .ref k16, .int i11, .ref k17, .ref h1, .ref h2, .ref h3, .ref h4, .ref k18, .ref k19, .ref k20, .ref k21, .ref k22, .ref k23, .ref k24, .ref k25, .ref k26, .ref k27, .int i12, .int i13, .int i14, .int i15, .int i16, .ref k28, .ref k29, .ref k30, .ref k31, .ref k32, .ref k33, .int i17, .ref k34])), (h1, aI cI 20 f18), (h2, aI cI 441 f19), (h3, aI cI 400 t33_0), (h4, aI cI 20 t33_1), (h5, aI cI 2560 f22)] H → va_D A [(h0, .inr (9, [.int i0, .int i1, .ref k0, .ref k1, .ref k2, .ref k3, .ref k4, .int i2, .ref k5, .int i3, .ref k6, .ref k7, .ref k8, .int i4, .ref k9, .ref k10, .int i5, .ref h5, .ref k11, .ref k12, .int i6, .ref k13, .int i7, .ref k14, .ref k15, .int i8, .int i9, .int i10, .ref k16, .int i11, .ref k17, .ref h1, .ref h2, .ref h3, .ref h4, .ref k18, .ref k19, .ref k20, .ref k21, .ref k22, .ref k23, .ref k24, .ref k25, .ref k26, .ref k27, .int i12, .int i13, .int i14, .int i15, .int i16, .ref k28, .ref k29, .ref k30, .ref k31, .ref k32, .ref k33, .int i17, .ref k34])), (h1, aI cI 20 f18), (h2, aI cI 441 f19), (h3, aI cI 400 t33_0), (h4, aI cI 20 t33_1), (h5, aI cI 2560 f22)] → va_S A s.heap H locs → lv_has ls 7 [(1, .int t33_2), (0, .ref h0)] → W p l e ((headSpec (xw yX9_findRounds cX9_findRounds 7 none) { frames := 1, cells := 0, slots := 0, locals := 23 }).room) s m ([.ref h0] : List Value).toArray below meth c H locs 0 0 QQ (F0 m 33 ls []) := by
            intro n9
            induction n9 with
            | zero => intro H locs ls t33_0 t33_1 t33_2 hwp; exact False.elim hwp
            | succ n9 ih9 =>
              intro H locs ls t33_0 t33_1 t33_2 hwp hP hD hS hl
              rw [wLX9_findRounds_33] at hwp
              refine lv_iload_n hx hb dX9_findRounds_33 rfl (lv_at hl 0 rfl) ?_
              refine lv_aload_n hx hb dX9_findRounds_34 rfl (lv_at hl 1 rfl) ?_
              refine va_get (D := G) (ci := 9) (v := .int i0) (C := RX9) (T := TX9) (N := 58) hx hb hts xinX9 hown hK hP 0 rfl rfl 0 (by decide) (hts _ wo_526) (fun _ h9 => h9) rfl dX9_findRounds_35 ?_
              refine lv_icmp_ge (tgt := 74) hx hb dX9_findRounds_38 (by decide) (fun c38 => ?_) (fun c38 => ?_)
              · replace hwp := hwp.1 c38
                have hP9 : va_P G vwCl [(h0, .inr (9, [.int i0, .int i1, .ref k0, .ref k1, .ref k2, .ref k3, .ref k4, .int i2, .ref k5, .int i3, .ref k6, .ref k7, .ref k8, .int i4, .ref k9, .ref k10, .int i5, .ref h5, .ref k11, .ref k12, .int i6, .ref k13, .int i7, .ref k14, .ref k15, .int i8, .int i9, .int i10, .ref k16, .int i11, .ref k17, .ref h1, .ref h2, .ref h3, .ref h4, .ref k18, .ref k19, .ref k20, .ref k21, .ref k22, .ref k23, .ref k24, .ref k25, .ref k26, .ref k27, .int i12, .int i13, .int i14, .int i15, .int i16, .ref k28, .ref k29, .ref k30, .ref k31, .ref k32, .ref k33, .int i17, .ref k34])), (h1, aI cI 20 f18), (h2, aI cI 441 f19), (h3, aI cI 400 t33_0), (h4, aI cI 20 t33_1), (h5, aI cI 2560 f22)] H := hP.sub [0, 1, 2, 3, 4, 5] rfl
                have hD9 : va_D A [(h0, .inr (9, [.int i0, .int i1, .ref k0, .ref k1, .ref k2, .ref k3, .ref k4, .int i2, .ref k5, .int i3, .ref k6, .ref k7, .ref k8, .int i4, .ref k9, .ref k10, .int i5, .ref h5, .ref k11, .ref k12, .int i6, .ref k13, .int i7, .ref k14, .ref k15, .int i8, .int i9, .int i10, .ref k16, .int i11, .ref k17, .ref h1, .ref h2, .ref h3, .ref h4, .ref k18, .ref k19, .ref k20, .ref k21, .ref k22, .ref k23, .ref k24, .ref k25, .ref k26, .ref k27, .int i12, .int i13, .int i14, .int i15, .int i16, .ref k28, .ref k29, .ref k30, .ref k31, .ref k32, .ref k33, .int i17, .ref k34])), (h1, aI cI 20 f18), (h2, aI cI 441 f19), (h3, aI cI 400 t33_0), (h4, aI cI 20 t33_1), (h5, aI cI 2560 f22)] := hD.sub [0, 1, 2, 3, 4, 5] (by decide) rfl
                rw [← hQQ]
                exact W.vret hx hb hr (fun t ht hW => ⟨⟨(f19, t33_0, t33_1), rfl, hwp, by rw [ht]; exact hP9, hD9⟩, hS.F ht⟩) hS.2.2 dX9_findRounds_74
              · replace hwp := hwp.2 c38
                refine lv_aload_n hx hb dX9_findRounds_41 rfl (lv_at hl 1 rfl) ?_
                refine va_get (D := G) (ci := 9) (v := .int i0) (C := RX9) (T := TX9) (N := 58) hx hb hts xinX9 hown hK hP 0 rfl rfl 0 (by decide) (hts _ wo_526) (fun _ h9 => h9) rfl dX9_findRounds_42 ?_
                refine lv_iconst (v := 2) hx hb dX9_findRounds_45 (by decide) ?_
                refine lv_icmp_ne (tgt := 74) hx hb dX9_findRounds_46 (by decide) (fun c46 => ?_) (fun c46 => ?_)
                · replace hwp := hwp.1 c46
                  have hP9 : va_P G vwCl [(h0, .inr (9, [.int i0, .int i1, .ref k0, .ref k1, .ref k2, .ref k3, .ref k4, .int i2, .ref k5, .int i3, .ref k6, .ref k7, .ref k8, .int i4, .ref k9, .ref k10, .int i5, .ref h5, .ref k11, .ref k12, .int i6, .ref k13, .int i7, .ref k14, .ref k15, .int i8, .int i9, .int i10, .ref k16, .int i11, .ref k17, .ref h1, .ref h2, .ref h3, .ref h4, .ref k18, .ref k19, .ref k20, .ref k21, .ref k22, .ref k23, .ref k24, .ref k25, .ref k26, .ref k27, .int i12, .int i13, .int i14, .int i15, .int i16, .ref k28, .ref k29, .ref k30, .ref k31, .ref k32, .ref k33, .int i17, .ref k34])), (h1, aI cI 20 f18), (h2, aI cI 441 f19), (h3, aI cI 400 t33_0), (h4, aI cI 20 t33_1), (h5, aI cI 2560 f22)] H := hP.sub [0, 1, 2, 3, 4, 5] rfl
                  have hD9 : va_D A [(h0, .inr (9, [.int i0, .int i1, .ref k0, .ref k1, .ref k2, .ref k3, .ref k4, .int i2, .ref k5, .int i3, .ref k6, .ref k7, .ref k8, .int i4, .ref k9, .ref k10, .int i5, .ref h5, .ref k11, .ref k12, .int i6, .ref k13, .int i7, .ref k14, .ref k15, .int i8, .int i9, .int i10, .ref k16, .int i11, .ref k17, .ref h1, .ref h2, .ref h3, .ref h4, .ref k18, .ref k19, .ref k20, .ref k21, .ref k22, .ref k23, .ref k24, .ref k25, .ref k26, .ref k27, .int i12, .int i13, .int i14, .int i15, .int i16, .ref k28, .ref k29, .ref k30, .ref k31, .ref k32, .ref k33, .int i17, .ref k34])), (h1, aI cI 20 f18), (h2, aI cI 441 f19), (h3, aI cI 400 t33_0), (h4, aI cI 20 t33_1), (h5, aI cI 2560 f22)] := hD.sub [0, 1, 2, 3, 4, 5] (by decide) rfl
                  rw [← hQQ]
                  exact W.vret hx hb hr (fun t ht hW => ⟨⟨(f19, t33_0, t33_1), rfl, hwp, by rw [ht]; exact hP9, hD9⟩, hS.F ht⟩) hS.2.2 dX9_findRounds_74
                · replace hwp := hwp.2 c46
                  refine lv_aload_n hx hb dX9_findRounds_49 rfl (lv_at hl 1 rfl) ?_
                  refine va_get (D := G) (ci := 9) (v := .ref h3) (C := RX9) (T := TX9) (N := 58) hx hb hts xinX9 hown hK hP 0 rfl rfl 33 (by decide) (hts _ wo_551) (fun _ h9 => h9) rfl dX9_findRounds_50 ?_
                  refine lv_bipush (v := 20) hx hb dX9_findRounds_53 (by decide) ?_
                  refine lv_iload_n hx hb dX9_findRounds_55 rfl (lv_at hl 0 rfl) ?_
                  refine lv_imul hx hb dX9_findRounds_56 ?_
                  refine lv_iconst (v := 1) hx hb dX9_findRounds_57 (by decide) ?_
                  refine lv_iload_n hx hb dX9_findRounds_58 rfl (lv_at hl 0 rfl) ?_
                  refine lv_isub hx hb dX9_findRounds_59 ?_
                  obtain ⟨hi, hwp⟩ := hwp
                  refine va_iast hx hb hK hP hD hS 3 0 rfl rfl hi dX9_findRounds_60 (fun H locs hP hD hS => ?_)
                  obtain ⟨g60, eg60⟩ : ∃ z, z = upd t33_0 (Int32.toNatClampNeg ((20 : Int32) * t33_2)) ((1 : Int32) - t33_2) := ⟨_, rfl⟩
                  replace hwp := hwp g60 eg60
                  replace hP : va_P G vwCl [(h0, .inr (9, [.int i0, .int i1, .ref k0, .ref k1, .ref k2, .ref k3, .ref k4, .int i2, .ref k5, .int i3, .ref k6, .ref k7, .ref k8, .int i4, .ref k9, .ref k10, .int i5, .ref h5, .ref k11, .ref k12, .int i6, .ref k13, .int i7, .ref k14, .ref k15, .int i8, .int i9, .int i10, .ref k16, .int i11, .ref k17, .ref h1, .ref h2, .ref h3, .ref h4, .ref k18, .ref k19, .ref k20, .ref k21, .ref k22, .ref k23, .ref k24, .ref k25, .ref k26, .ref k27, .int i12, .int i13, .int i14, .int i15, .int i16, .ref k28, .ref k29, .ref k30, .ref k31, .ref k32, .ref k33, .int i17, .ref k34])), (h1, aI cI 20 f18), (h2, aI cI 441 f19), (h3, aI cI 400 g60), (h4, aI cI 20 t33_1), (h5, aI cI 2560 f22)] H := by rw [eg60]; exact hP
                  replace hD : va_D A [(h0, .inr (9, [.int i0, .int i1, .ref k0, .ref k1, .ref k2, .ref k3, .ref k4, .int i2, .ref k5, .int i3, .ref k6, .ref k7, .ref k8, .int i4, .ref k9, .ref k10, .int i5, .ref h5, .ref k11, .ref k12, .int i6, .ref k13, .int i7, .ref k14, .ref k15, .int i8, .int i9, .int i10, .ref k16, .int i11, .ref k17, .ref h1, .ref h2, .ref h3, .ref h4, .ref k18, .ref k19, .ref k20, .ref k21, .ref k22, .ref k23, .ref k24, .ref k25, .ref k26, .ref k27, .int i12, .int i13, .int i14, .int i15, .int i16, .ref k28, .ref k29, .ref k30, .ref k31, .ref k32, .ref k33, .int i17, .ref k34])), (h1, aI cI 20 f18), (h2, aI cI 441 f19), (h3, aI cI 400 g60), (h4, aI cI 20 t33_1), (h5, aI cI 2560 f22)] := by rw [eg60]; exact hD
                  clear eg60
                  refine lv_aload_n hx hb dX9_findRounds_61 rfl (lv_at hl 1 rfl) ?_
                  refine va_get (D := G) (ci := 9) (v := .ref h4) (C := RX9) (T := TX9) (N := 58) hx hb hts xinX9 hown hK hP 0 rfl rfl 34 (by decide) (hts _ wo_552) (fun _ h9 => h9) rfl dX9_findRounds_62 ?_
                  refine lv_iload_n hx hb dX9_findRounds_65 rfl (lv_at hl 0 rfl) ?_
                  refine lv_iconst (v := 1) hx hb dX9_findRounds_66 (by decide) ?_
                  obtain ⟨hi, hwp⟩ := hwp
                  refine va_iast hx hb hK hP hD hS 4 0 rfl rfl hi dX9_findRounds_67 (fun H locs hP hD hS => ?_)
                  obtain ⟨g67, eg67⟩ : ∃ z, z = upd t33_1 (Int32.toNatClampNeg t33_2) 1 := ⟨_, rfl⟩
                  replace hwp := hwp g67 eg67
                  replace hP : va_P G vwCl [(h0, .inr (9, [.int i0, .int i1, .ref k0, .ref k1, .ref k2, .ref k3, .ref k4, .int i2, .ref k5, .int i3, .ref k6, .ref k7, .ref k8, .int i4, .ref k9, .ref k10, .int i5, .ref h5, .ref k11, .ref k12, .int i6, .ref k13, .int i7, .ref k14, .ref k15, .int i8, .int i9, .int i10, .ref k16, .int i11, .ref k17, .ref h1, .ref h2, .ref h3, .ref h4, .ref k18, .ref k19, .ref k20, .ref k21, .ref k22, .ref k23, .ref k24, .ref k25, .ref k26, .ref k27, .int i12, .int i13, .int i14, .int i15, .int i16, .ref k28, .ref k29, .ref k30, .ref k31, .ref k32, .ref k33, .int i17, .ref k34])), (h1, aI cI 20 f18), (h2, aI cI 441 f19), (h3, aI cI 400 g60), (h4, aI cI 20 g67), (h5, aI cI 2560 f22)] H := by rw [eg67]; exact hP
                  replace hD : va_D A [(h0, .inr (9, [.int i0, .int i1, .ref k0, .ref k1, .ref k2, .ref k3, .ref k4, .int i2, .ref k5, .int i3, .ref k6, .ref k7, .ref k8, .int i4, .ref k9, .ref k10, .int i5, .ref h5, .ref k11, .ref k12, .int i6, .ref k13, .int i7, .ref k14, .ref k15, .int i8, .int i9, .int i10, .ref k16, .int i11, .ref k17, .ref h1, .ref h2, .ref h3, .ref h4, .ref k18, .ref k19, .ref k20, .ref k21, .ref k22, .ref k23, .ref k24, .ref k25, .ref k26, .ref k27, .int i12, .int i13, .int i14, .int i15, .int i16, .ref k28, .ref k29, .ref k30, .ref k31, .ref k32, .ref k33, .int i17, .ref k34])), (h1, aI cI 20 f18), (h2, aI cI 441 f19), (h3, aI cI 400 g60), (h4, aI cI 20 g67), (h5, aI cI 2560 f22)] := by rw [eg67]; exact hD
                  clear eg67
                  refine lv_iinc (v := (t33_2 + 1)) (lv' := [(1, .int (t33_2 + 1)), (0, .ref h0)]) hx hb dX9_findRounds_68 hl (k := 0) rfl rfl (by decide) rfl (fun ls hl => ?_)
                  refine lv_goto (tgt := 33) hx hb dX9_findRounds_71 (by decide) ?_
                  replace hl : lv_has ls 7 [(1, .int (t33_2 + 1)), (0, .ref h0)] := lv_sub hl [0, 1] rfl
                  exact ih9 H locs ls g60 g67 (t33_2 + 1) hwp hP hD hS hl
          exact hs9 n9 H locs ls f20 t2_0 0 hwp hP hD hS hl
      · replace hwp := hwp.2 c7
        refine lv_aload_n hx hb dX9_findRounds_10 rfl (lv_at hl 1 rfl) ?_
        refine va_get (D := G) (ci := 9) (v := .ref h4) (C := RX9) (T := TX9) (N := 58) hx hb hts xinX9 hown hK hP 0 rfl rfl 34 (by decide) (hts _ wo_552) (fun _ h9 => h9) rfl dX9_findRounds_11 ?_
        refine lv_iload_n hx hb dX9_findRounds_14 rfl (lv_at hl 0 rfl) ?_
        refine lv_iconst (v := 0) hx hb dX9_findRounds_15 (by decide) ?_
        obtain ⟨hi, hwp⟩ := hwp
        refine va_iast hx hb hK hP hD hS 4 0 rfl rfl hi dX9_findRounds_16 (fun H locs hP hD hS => ?_)
        obtain ⟨g16, eg16⟩ : ∃ z, z = upd t2_0 (Int32.toNatClampNeg t2_1) 0 := ⟨_, rfl⟩
        replace hwp := hwp g16 eg16
        replace hP : va_P G vwCl [(h0, .inr (9, [.int i0, .int i1, .ref k0, .ref k1, .ref k2, .ref k3, .ref k4, .int i2, .ref k5, .int i3, .ref k6, .ref k7, .ref k8, .int i4, .ref k9, .ref k10, .int i5, .ref h5, .ref k11, .ref k12, .int i6, .ref k13, .int i7, .ref k14, .ref k15, .int i8, .int i9, .int i10, .ref k16, .int i11, .ref k17, .ref h1, .ref h2, .ref h3, .ref h4, .ref k18, .ref k19, .ref k20, .ref k21, .ref k22, .ref k23, .ref k24, .ref k25, .ref k26, .ref k27, .int i12, .int i13, .int i14, .int i15, .int i16, .ref k28, .ref k29, .ref k30, .ref k31, .ref k32, .ref k33, .int i17, .ref k34])), (h1, aI cI 20 f18), (h2, aI cI 441 f19), (h3, aI cI 400 f20), (h4, aI cI 20 g16), (h5, aI cI 2560 f22)] H := by rw [eg16]; exact hP
        replace hD : va_D A [(h0, .inr (9, [.int i0, .int i1, .ref k0, .ref k1, .ref k2, .ref k3, .ref k4, .int i2, .ref k5, .int i3, .ref k6, .ref k7, .ref k8, .int i4, .ref k9, .ref k10, .int i5, .ref h5, .ref k11, .ref k12, .int i6, .ref k13, .int i7, .ref k14, .ref k15, .int i8, .int i9, .int i10, .ref k16, .int i11, .ref k17, .ref h1, .ref h2, .ref h3, .ref h4, .ref k18, .ref k19, .ref k20, .ref k21, .ref k22, .ref k23, .ref k24, .ref k25, .ref k26, .ref k27, .int i12, .int i13, .int i14, .int i15, .int i16, .ref k28, .ref k29, .ref k30, .ref k31, .ref k32, .ref k33, .int i17, .ref k34])), (h1, aI cI 20 f18), (h2, aI cI 441 f19), (h3, aI cI 400 f20), (h4, aI cI 20 g16), (h5, aI cI 2560 f22)] := by rw [eg16]; exact hD
        clear eg16
        refine lv_iinc (v := (t2_1 + 1)) (lv' := [(1, .int (t2_1 + 1)), (0, .ref h0)]) hx hb dX9_findRounds_17 hl (k := 0) rfl rfl (by decide) rfl (fun ls hl => ?_)
        refine lv_goto (tgt := 2) hx hb dX9_findRounds_20 (by decide) ?_
        replace hl : lv_has ls 7 [(1, .int (t2_1 + 1)), (0, .ref h0)] := lv_sub hl [0, 1] rfl
        exact ih1 H locs ls g16 (t2_1 + 1) hwp hP hD hS hl
  exact hs1 n1 H locs ls f21 0 hwp hP hD hS hl
def wLX9_findTurns_180 (i1 : Int32) (f20 : Nat → Int32) (f21 : Nat → Int32) (f22 : Nat → Int32) (t2_0 : Nat → Int32) (t2_2 : Int32) (K : ((Nat → Int32) × (Nat → Int32)) → Prop) (B2_1 : (Nat → Int32) → (Nat → Int32) → Int32 → Prop) : Nat → (Nat → Int32) → Int32 → Int32 → Prop
  | 0, _, _, _ => False
  | n180 + 1, t180_0, t180_1, t180_2 => ((i1 ≤ t180_2 → (vp_in t2_2 20 ∧ (∀ g266 : Nat → Int32, g266 = upd t2_0 (Int32.toNatClampNeg t2_2) t180_1 → B2_1 g266 t180_0 (t2_2 + 1)))) ∧ (¬ i1 ≤ t180_2 → (vp_in t180_2 80 ∧ (((f20 (Int32.toNatClampNeg t180_2)) = 0 → (wLX9_findTurns_180 i1 f20 f21 f22 t2_0 t2_2 K B2_1 n180) t180_0 t180_1 (t180_2 + 1)) ∧ (¬ (f20 (Int32.toNatClampNeg t180_2)) = 0 → (vp_in t180_2 80 ∧ ((¬ (f21 (Int32.toNatClampNeg t180_2)) = t2_2 → (wLX9_findTurns_180 i1 f20 f21 f22 t2_0 t2_2 K B2_1 n180) t180_0 t180_1 (t180_2 + 1)) ∧ ((f21 (Int32.toNatClampNeg t180_2)) = t2_2 → (vp_in t180_2 80 ∧ ((¬ (f22 (Int32.toNatClampNeg t180_2)) = t2_2 → (wLX9_findTurns_180 i1 f20 f21 f22 t2_0 t2_2 K B2_1 n180) t180_0 t180_1 (t180_2 + 1)) ∧ ((f22 (Int32.toNatClampNeg t180_2)) = t2_2 → (vp_in (((160 : Int32) * t2_2) + t180_1) 3200 ∧ (∀ g231 : Nat → Int32, g231 = upd t180_0 (Int32.toNatClampNeg (((160 : Int32) * t2_2) + t180_1)) ((2 : Int32) * t180_2) → (vp_in ((((160 : Int32) * t2_2) + t180_1) + 1) 3200 ∧ (∀ g250 : Nat → Int32, g250 = upd g231 (Int32.toNatClampNeg ((((160 : Int32) * t2_2) + t180_1) + 1)) (((2 : Int32) * t180_2) + 1) → (wLX9_findTurns_180 i1 f20 f21 f22 t2_0 t2_2 K B2_1 n180) g250 (t180_1 + 2) (t180_2 + 1))))))))))))))))
def wLX9_findTurns_40 (i1 : Int32) (f20 : Nat → Int32) (f21 : Nat → Int32) (f22 : Nat → Int32) (t2_2 : Int32) (t14_2 : Int32) (v35 : Int32) (K : ((Nat → Int32) × (Nat → Int32)) → Prop) (B14_2 : (Nat → Int32) → Int32 → Int32 → Prop) : Nat → (Nat → Int32) → Int32 → Int32 → Prop
  | 0, _, _, _ => False
  | n40 + 1, t40_0, t40_1, t40_2 => ((i1 ≤ t40_2 → B14_2 t40_0 t40_1 (t14_2 + 1)) ∧ (¬ i1 ≤ t40_2 → ((v35 ≤ t2_2 → (∀ v69 : Int32, v69 = ((i1 - 1) - t40_2) → (vp_in v69 80 ∧ (((f20 (Int32.toNatClampNeg v69)) = 0 → (wLX9_findTurns_40 i1 f20 f21 f22 t2_2 t14_2 v35 K B14_2 n40) t40_0 t40_1 (t40_2 + 1)) ∧ (¬ (f20 (Int32.toNatClampNeg v69)) = 0 → (vp_in v69 80 ∧ ((¬ (f21 (Int32.toNatClampNeg v69)) = t2_2 → (vp_in v69 80 ∧ ((¬ (f21 (Int32.toNatClampNeg v69)) = v35 → (wLX9_findTurns_40 i1 f20 f21 f22 t2_2 t14_2 v35 K B14_2 n40) t40_0 t40_1 (t40_2 + 1)) ∧ ((f21 (Int32.toNatClampNeg v69)) = v35 → (vp_in v69 80 ∧ ((¬ (f22 (Int32.toNatClampNeg v69)) = t2_2 → (wLX9_findTurns_40 i1 f20 f21 f22 t2_2 t14_2 v35 K B14_2 n40) t40_0 t40_1 (t40_2 + 1)) ∧ ((f22 (Int32.toNatClampNeg v69)) = t2_2 → (vp_in v69 80 ∧ ((¬ (f21 (Int32.toNatClampNeg v69)) = t2_2 → (vp_in (((160 : Int32) * t2_2) + t40_1) 3200 ∧ (∀ g162 : Nat → Int32, g162 = upd t40_0 (Int32.toNatClampNeg (((160 : Int32) * t2_2) + t40_1)) (((2 : Int32) * v69) + 1) → (wLX9_findTurns_40 i1 f20 f21 f22 t2_2 t14_2 v35 K B14_2 n40) g162 (t40_1 + 1) (t40_2 + 1)))) ∧ ((f21 (Int32.toNatClampNeg v69)) = t2_2 → (vp_in (((160 : Int32) * t2_2) + t40_1) 3200 ∧ (∀ g162 : Nat → Int32, g162 = upd t40_0 (Int32.toNatClampNeg (((160 : Int32) * t2_2) + t40_1)) ((2 : Int32) * v69) → (wLX9_findTurns_40 i1 f20 f21 f22 t2_2 t14_2 v35 K B14_2 n40) g162 (t40_1 + 1) (t40_2 + 1))))))))))))) ∧ ((f21 (Int32.toNatClampNeg v69)) = t2_2 → (vp_in v69 80 ∧ (((f22 (Int32.toNatClampNeg v69)) = v35 → (vp_in v69 80 ∧ ((¬ (f21 (Int32.toNatClampNeg v69)) = t2_2 → (vp_in (((160 : Int32) * t2_2) + t40_1) 3200 ∧ (∀ g162 : Nat → Int32, g162 = upd t40_0 (Int32.toNatClampNeg (((160 : Int32) * t2_2) + t40_1)) (((2 : Int32) * v69) + 1) → (wLX9_findTurns_40 i1 f20 f21 f22 t2_2 t14_2 v35 K B14_2 n40) g162 (t40_1 + 1) (t40_2 + 1)))) ∧ ((f21 (Int32.toNatClampNeg v69)) = t2_2 → (vp_in (((160 : Int32) * t2_2) + t40_1) 3200 ∧ (∀ g162 : Nat → Int32, g162 = upd t40_0 (Int32.toNatClampNeg (((160 : Int32) * t2_2) + t40_1)) ((2 : Int32) * v69) → (wLX9_findTurns_40 i1 f20 f21 f22 t2_2 t14_2 v35 K B14_2 n40) g162 (t40_1 + 1) (t40_2 + 1))))))) ∧ (¬ (f22 (Int32.toNatClampNeg v69)) = v35 → (vp_in v69 80 ∧ ((¬ (f21 (Int32.toNatClampNeg v69)) = v35 → (wLX9_findTurns_40 i1 f20 f21 f22 t2_2 t14_2 v35 K B14_2 n40) t40_0 t40_1 (t40_2 + 1)) ∧ ((f21 (Int32.toNatClampNeg v69)) = v35 → (vp_in v69 80 ∧ ((¬ (f22 (Int32.toNatClampNeg v69)) = t2_2 → (wLX9_findTurns_40 i1 f20 f21 f22 t2_2 t14_2 v35 K B14_2 n40) t40_0 t40_1 (t40_2 + 1)) ∧ ((f22 (Int32.toNatClampNeg v69)) = t2_2 → (vp_in v69 80 ∧ ((¬ (f21 (Int32.toNatClampNeg v69)) = t2_2 → (vp_in (((160 : Int32) * t2_2) + t40_1) 3200 ∧ (∀ g162 : Nat → Int32, g162 = upd t40_0 (Int32.toNatClampNeg (((160 : Int32) * t2_2) + t40_1)) (((2 : Int32) * v69) + 1) → (wLX9_findTurns_40 i1 f20 f21 f22 t2_2 t14_2 v35 K B14_2 n40) g162 (t40_1 + 1) (t40_2 + 1)))) ∧ ((f21 (Int32.toNatClampNeg v69)) = t2_2 → (vp_in (((160 : Int32) * t2_2) + t40_1) 3200 ∧ (∀ g162 : Nat → Int32, g162 = upd t40_0 (Int32.toNatClampNeg (((160 : Int32) * t2_2) + t40_1)) ((2 : Int32) * v69) → (wLX9_findTurns_40 i1 f20 f21 f22 t2_2 t14_2 v35 K B14_2 n40) g162 (t40_1 + 1) (t40_2 + 1))))))))))))))))))))))) ∧ (¬ v35 ≤ t2_2 → (vp_in t40_2 80 ∧ (((f20 (Int32.toNatClampNeg t40_2)) = 0 → (wLX9_findTurns_40 i1 f20 f21 f22 t2_2 t14_2 v35 K B14_2 n40) t40_0 t40_1 (t40_2 + 1)) ∧ (¬ (f20 (Int32.toNatClampNeg t40_2)) = 0 → (vp_in t40_2 80 ∧ ((¬ (f21 (Int32.toNatClampNeg t40_2)) = t2_2 → (vp_in t40_2 80 ∧ ((¬ (f21 (Int32.toNatClampNeg t40_2)) = v35 → (wLX9_findTurns_40 i1 f20 f21 f22 t2_2 t14_2 v35 K B14_2 n40) t40_0 t40_1 (t40_2 + 1)) ∧ ((f21 (Int32.toNatClampNeg t40_2)) = v35 → (vp_in t40_2 80 ∧ ((¬ (f22 (Int32.toNatClampNeg t40_2)) = t2_2 → (wLX9_findTurns_40 i1 f20 f21 f22 t2_2 t14_2 v35 K B14_2 n40) t40_0 t40_1 (t40_2 + 1)) ∧ ((f22 (Int32.toNatClampNeg t40_2)) = t2_2 → (vp_in t40_2 80 ∧ ((¬ (f21 (Int32.toNatClampNeg t40_2)) = t2_2 → (vp_in (((160 : Int32) * t2_2) + t40_1) 3200 ∧ (∀ g162 : Nat → Int32, g162 = upd t40_0 (Int32.toNatClampNeg (((160 : Int32) * t2_2) + t40_1)) (((2 : Int32) * t40_2) + 1) → (wLX9_findTurns_40 i1 f20 f21 f22 t2_2 t14_2 v35 K B14_2 n40) g162 (t40_1 + 1) (t40_2 + 1)))) ∧ ((f21 (Int32.toNatClampNeg t40_2)) = t2_2 → (vp_in (((160 : Int32) * t2_2) + t40_1) 3200 ∧ (∀ g162 : Nat → Int32, g162 = upd t40_0 (Int32.toNatClampNeg (((160 : Int32) * t2_2) + t40_1)) ((2 : Int32) * t40_2) → (wLX9_findTurns_40 i1 f20 f21 f22 t2_2 t14_2 v35 K B14_2 n40) g162 (t40_1 + 1) (t40_2 + 1))))))))))))) ∧ ((f21 (Int32.toNatClampNeg t40_2)) = t2_2 → (vp_in t40_2 80 ∧ (((f22 (Int32.toNatClampNeg t40_2)) = v35 → (vp_in t40_2 80 ∧ ((¬ (f21 (Int32.toNatClampNeg t40_2)) = t2_2 → (vp_in (((160 : Int32) * t2_2) + t40_1) 3200 ∧ (∀ g162 : Nat → Int32, g162 = upd t40_0 (Int32.toNatClampNeg (((160 : Int32) * t2_2) + t40_1)) (((2 : Int32) * t40_2) + 1) → (wLX9_findTurns_40 i1 f20 f21 f22 t2_2 t14_2 v35 K B14_2 n40) g162 (t40_1 + 1) (t40_2 + 1)))) ∧ ((f21 (Int32.toNatClampNeg t40_2)) = t2_2 → (vp_in (((160 : Int32) * t2_2) + t40_1) 3200 ∧ (∀ g162 : Nat → Int32, g162 = upd t40_0 (Int32.toNatClampNeg (((160 : Int32) * t2_2) + t40_1)) ((2 : Int32) * t40_2) → (wLX9_findTurns_40 i1 f20 f21 f22 t2_2 t14_2 v35 K B14_2 n40) g162 (t40_1 + 1) (t40_2 + 1))))))) ∧ (¬ (f22 (Int32.toNatClampNeg t40_2)) = v35 → (vp_in t40_2 80 ∧ ((¬ (f21 (Int32.toNatClampNeg t40_2)) = v35 → (wLX9_findTurns_40 i1 f20 f21 f22 t2_2 t14_2 v35 K B14_2 n40) t40_0 t40_1 (t40_2 + 1)) ∧ ((f21 (Int32.toNatClampNeg t40_2)) = v35 → (vp_in t40_2 80 ∧ ((¬ (f22 (Int32.toNatClampNeg t40_2)) = t2_2 → (wLX9_findTurns_40 i1 f20 f21 f22 t2_2 t14_2 v35 K B14_2 n40) t40_0 t40_1 (t40_2 + 1)) ∧ ((f22 (Int32.toNatClampNeg t40_2)) = t2_2 → (vp_in t40_2 80 ∧ ((¬ (f21 (Int32.toNatClampNeg t40_2)) = t2_2 → (vp_in (((160 : Int32) * t2_2) + t40_1) 3200 ∧ (∀ g162 : Nat → Int32, g162 = upd t40_0 (Int32.toNatClampNeg (((160 : Int32) * t2_2) + t40_1)) (((2 : Int32) * t40_2) + 1) → (wLX9_findTurns_40 i1 f20 f21 f22 t2_2 t14_2 v35 K B14_2 n40) g162 (t40_1 + 1) (t40_2 + 1)))) ∧ ((f21 (Int32.toNatClampNeg t40_2)) = t2_2 → (vp_in (((160 : Int32) * t2_2) + t40_1) 3200 ∧ (∀ g162 : Nat → Int32, g162 = upd t40_0 (Int32.toNatClampNeg (((160 : Int32) * t2_2) + t40_1)) ((2 : Int32) * t40_2) → (wLX9_findTurns_40 i1 f20 f21 f22 t2_2 t14_2 v35 K B14_2 n40) g162 (t40_1 + 1) (t40_2 + 1)))))))))))))))))))))))))
def wLX9_findTurns_14 (i1 : Int32) (f18 : Nat → Int32) (f20 : Nat → Int32) (f21 : Nat → Int32) (f22 : Nat → Int32) (f24 : Nat → Int32) (t2_0 : Nat → Int32) (t2_2 : Int32) (K : ((Nat → Int32) × (Nat → Int32)) → Prop) (B2_1 : (Nat → Int32) → (Nat → Int32) → Int32 → Prop) : Nat → (Nat → Int32) → Int32 → Int32 → Prop
  | 0, _, _, _ => False
  | n14 + 1, t14_0, t14_1, t14_2 => (vp_in t2_2 20 ∧ (((f18 (Int32.toNatClampNeg t2_2)) ≤ t14_2 → (∃ n180, wLX9_findTurns_180 i1 f20 f21 f22 t2_0 t2_2 K (fun z0 z1 z2 => B2_1 z0 z1 z2) n180 t14_0 t14_1 0)) ∧ (¬ (f18 (Int32.toNatClampNeg t2_2)) ≤ t14_2 → (vp_in (((20 : Int32) * t2_2) + t14_2) 400 ∧ (∀ v35 : Int32, v35 = (f24 (Int32.toNatClampNeg (((20 : Int32) * t2_2) + t14_2))) → (∃ n40, wLX9_findTurns_40 i1 f20 f21 f22 t2_2 t14_2 v35 K (fun z0 z1 z2 => (wLX9_findTurns_14 i1 f18 f20 f21 f22 f24 t2_0 t2_2 K B2_1 n14) z0 z1 z2) n40 t14_0 t14_1 0))))))
def wLX9_findTurns_2 (i0 : Int32) (i1 : Int32) (f18 : Nat → Int32) (f20 : Nat → Int32) (f21 : Nat → Int32) (f22 : Nat → Int32) (f24 : Nat → Int32) (K : ((Nat → Int32) × (Nat → Int32)) → Prop)  : Nat → (Nat → Int32) → (Nat → Int32) → Int32 → Prop
  | 0, _, _, _ => False
  | n2 + 1, t2_0, t2_1, t2_2 => ((i0 ≤ t2_2 → K (t2_0, t2_1)) ∧ (¬ i0 ≤ t2_2 → (∃ n14, wLX9_findTurns_14 i1 f18 f20 f21 f22 f24 t2_0 t2_2 K (fun z0 z1 z2 => (wLX9_findTurns_2 i0 i1 f18 f20 f21 f22 f24 K  n2) z0 z1 z2) n14 t2_1 0 0)))
def wX9_findTurns (i0 : Int32) (i1 : Int32) (i2 : Int32) (i3 : Int32) (i4 : Int32) (i5 : Int32) (i6 : Int32) (i7 : Int32) (i8 : Int32) (i9 : Int32) (i10 : Int32) (i11 : Int32) (i12 : Int32) (i13 : Int32) (i14 : Int32) (i15 : Int32) (i16 : Int32) (i17 : Int32) (f18 : Nat → Int32) (f19 : Nat → Int32) (f20 : Nat → Int32) (f21 : Nat → Int32) (f22 : Nat → Int32) (f23 : Nat → Int32) (f24 : Nat → Int32) (K : ((Nat → Int32) × (Nat → Int32)) → Prop) : Prop := (∃ n2, wLX9_findTurns_2 i0 i1 f18 f20 f21 f22 f24 K  n2 f19 f23 0)
set_option maxHeartbeats 4000000 in
set_option maxRecDepth 100000 in
theorem zX9_findTurns (l : Launch) (G : va_G) (cI cJ cZ : ClassId) (h0 h1 h2 h3 h4 h5 h6 h7 k0 k1 k2 k3 k4 k5 k6 k7 k8 k9 k10 k11 k12 k13 k14 k15 k16 k17 k18 k19 k20 k21 k22 k23 k24 k25 k26 k27 k28 k29 k30 k31 k32 sz : Nat) (i0 : Int32) (i1 : Int32) (i2 : Int32) (i3 : Int32) (i4 : Int32) (i5 : Int32) (i6 : Int32) (i7 : Int32) (i8 : Int32) (i9 : Int32) (i10 : Int32) (i11 : Int32) (i12 : Int32) (i13 : Int32) (i14 : Int32) (i15 : Int32) (i16 : Int32) (i17 : Int32) (f18 : Nat → Int32) (f19 : Nat → Int32) (f20 : Nat → Int32) (f21 : Nat → Int32) (f22 : Nat → Int32) (f23 : Nat → Int32) (f24 : Nat → Int32) (K : ((Nat → Int32) × (Nat → Int32)) → Prop) (hwp : wX9_findTurns i0 i1 i2 i3 i4 i5 i6 i7 i8 i9 i10 i11 i12 i13 i14 i15 i16 i17 f18 f19 f20 f21 f22 f23 f24 K) : Met l yX9_findTurns (xw yX9_findTurns cX9_findTurns 7 none) ({ frames := 0, cells := 0, slots := 0, locals := 0 }) (xPc G cI cJ cZ [.ref h0] [(h0, .inr (9, [.int i0, .int i1, .ref h4, .ref h5, .ref h3, .ref k0, .ref k1, .int i2, .ref k2, .int i3, .ref k3, .ref k4, .ref k5, .int i4, .ref k6, .ref k7, .int i5, .ref k8, .ref k9, .ref k10, .int i6, .ref k11, .int i7, .ref k12, .ref k13, .int i8, .int i9, .int i10, .ref k14, .int i11, .ref k15, .ref k16, .ref k17, .ref h7, .ref h1, .ref h6, .ref h2, .ref k18, .ref k19, .ref k20, .ref k21, .ref k22, .ref k23, .ref k24, .ref k25, .int i12, .int i13, .int i14, .int i15, .int i16, .ref k26, .ref k27, .ref k28, .ref k29, .ref k30, .ref k31, .int i17, .ref k32])), (h1, aI cI 20 f18), (h2, aI cI 20 f19), (h3, aI cZ 80 f20), (h4, aI cI 80 f21), (h5, aI cI 80 f22), (h6, aI cI 3200 f23), (h7, aI cI 400 f24)] sz) (va_Qv (fun (u : (Nat → Int32) × (Nat → Int32)) => K u) (fun (u : (Nat → Int32) × (Nat → Int32)) t => xB G (va_A [(h0, .inr (9, [.int i0, .int i1, .ref h4, .ref h5, .ref h3, .ref k0, .ref k1, .int i2, .ref k2, .int i3, .ref k3, .ref k4, .ref k5, .int i4, .ref k6, .ref k7, .int i5, .ref k8, .ref k9, .ref k10, .int i6, .ref k11, .int i7, .ref k12, .ref k13, .int i8, .int i9, .int i10, .ref k14, .int i11, .ref k15, .ref k16, .ref k17, .ref h7, .ref h1, .ref h6, .ref h2, .ref k18, .ref k19, .ref k20, .ref k21, .ref k22, .ref k23, .ref k24, .ref k25, .int i12, .int i13, .int i14, .int i15, .int i16, .ref k26, .ref k27, .ref k28, .ref k29, .ref k30, .ref k31, .int i17, .ref k32])), (h1, aI cI 20 f18), (h2, aI cI 20 f19), (h3, aI cZ 80 f20), (h4, aI cI 80 f21), (h5, aI cI 80 f22), (h6, aI cI 3200 f23), (h7, aI cI 400 f24)] sz) [(h0, .inr (9, [.int i0, .int i1, .ref h4, .ref h5, .ref h3, .ref k0, .ref k1, .int i2, .ref k2, .int i3, .ref k3, .ref k4, .ref k5, .int i4, .ref k6, .ref k7, .int i5, .ref k8, .ref k9, .ref k10, .int i6, .ref k11, .int i7, .ref k12, .ref k13, .int i8, .int i9, .int i10, .ref k14, .int i11, .ref k15, .ref k16, .ref k17, .ref h7, .ref h1, .ref h6, .ref h2, .ref k18, .ref k19, .ref k20, .ref k21, .ref k22, .ref k23, .ref k24, .ref k25, .int i12, .int i13, .int i14, .int i15, .int i16, .ref k26, .ref k27, .ref k28, .ref k29, .ref k30, .ref k31, .int i17, .ref k32])), (h1, aI cI 20 f18), (h2, aI cI 20 u.1), (h3, aI cZ 80 f20), (h4, aI cI 80 f21), (h5, aI cI 80 f22), (h6, aI cI 3200 u.2), (h7, aI cI 400 f24)] t) (va_A [(h0, .inr (9, [.int i0, .int i1, .ref h4, .ref h5, .ref h3, .ref k0, .ref k1, .int i2, .ref k2, .int i3, .ref k3, .ref k4, .ref k5, .int i4, .ref k6, .ref k7, .int i5, .ref k8, .ref k9, .ref k10, .int i6, .ref k11, .int i7, .ref k12, .ref k13, .int i8, .int i9, .int i10, .ref k14, .int i11, .ref k15, .ref k16, .ref k17, .ref h7, .ref h1, .ref h6, .ref h2, .ref k18, .ref k19, .ref k20, .ref k21, .ref k22, .ref k23, .ref k24, .ref k25, .int i12, .int i13, .int i14, .int i15, .int i16, .ref k26, .ref k27, .ref k28, .ref k29, .ref k30, .ref k31, .int i17, .ref k32])), (h1, aI cI 20 f18), (h2, aI cI 20 f19), (h3, aI cZ 80 f20), (h4, aI cI 80 f21), (h5, aI cI 80 f22), (h6, aI cI 3200 f23), (h7, aI cI 400 f24)] sz)) 0 0 (va_A [(h0, .inr (9, [.int i0, .int i1, .ref h4, .ref h5, .ref h3, .ref k0, .ref k1, .int i2, .ref k2, .int i3, .ref k3, .ref k4, .ref k5, .int i4, .ref k6, .ref k7, .int i5, .ref k8, .ref k9, .ref k10, .int i6, .ref k11, .int i7, .ref k12, .ref k13, .int i8, .int i9, .int i10, .ref k14, .int i11, .ref k15, .ref k16, .ref k17, .ref h7, .ref h1, .ref h6, .ref h2, .ref k18, .ref k19, .ref k20, .ref k21, .ref k22, .ref k23, .ref k24, .ref k25, .int i12, .int i13, .int i14, .int i15, .int i16, .ref k26, .ref k27, .ref k28, .ref k29, .ref k30, .ref k31, .int i17, .ref k32])), (h1, aI cI 20 f18), (h2, aI cI 20 f19), (h3, aI cZ 80 f20), (h4, aI cI 80 f21), (h5, aI cI 80 f22), (h6, aI cI 3200 f23), (h7, aI cI 400 f24)] sz) := by
  refine Met.ofW (cc := cX9_findTurns) (maxL := 7) (ret := none) (by decide) rfl ?_
  intro p e s m args below meth c s₁ B hml hv
  obtain ⟨rfl, hsz, hP, hK, hD0, hN⟩ := hv
  have hx := B.exec
  have hb := B.bytes
  have hr := B.returns
  have hts : ∀ w ∈ xW, w.before _ s = true := fun w h => atoms_spec (ws := xw yX9_findTurns cX9_findTurns 7 none) B.pre w (List.mem_cons_of_mem _ h)
  have hown : s.vm.findClass RX9 = some m.cls := findClass_of_methodNamed B.named
  have hlocks := B.notSynchronized
  subst hsz
  have hD := hD0.self (sz := s.heap.size)
  clear hD0
  generalize hAe : va_A [(h0, .inr (9, [.int i0, .int i1, .ref h4, .ref h5, .ref h3, .ref k0, .ref k1, .int i2, .ref k2, .int i3, .ref k3, .ref k4, .ref k5, .int i4, .ref k6, .ref k7, .int i5, .ref k8, .ref k9, .ref k10, .int i6, .ref k11, .int i7, .ref k12, .ref k13, .int i8, .int i9, .int i10, .ref k14, .int i11, .ref k15, .ref k16, .ref k17, .ref h7, .ref h1, .ref h6, .ref h2, .ref k18, .ref k19, .ref k20, .ref k21, .ref k22, .ref k23, .ref k24, .ref k25, .int i12, .int i13, .int i14, .int i15, .int i16, .ref k26, .ref k27, .ref k28, .ref k29, .ref k30, .ref k31, .int i17, .ref k32])), (h1, aI cI 20 f18), (h2, aI cI 20 f19), (h3, aI cZ 80 f20), (h4, aI cI 80 f21), (h5, aI cI 80 f22), (h6, aI cI 3200 f23), (h7, aI cI 400 f24)] s.heap.size = A at hD ⊢
  have hA : ∀ q : Nat, s.heap.size ≤ q → A q := fun q h => by rw [← hAe]; exact Or.inr h
  clear hAe
  have hS : va_S A s.heap s.heap [] := va_S.rf
  replace hP : va_P G vwCl [(h0, .inr (9, [.int i0, .int i1, .ref h4, .ref h5, .ref h3, .ref k0, .ref k1, .int i2, .ref k2, .int i3, .ref k3, .ref k4, .ref k5, .int i4, .ref k6, .ref k7, .int i5, .ref k8, .ref k9, .ref k10, .int i6, .ref k11, .int i7, .ref k12, .ref k13, .int i8, .int i9, .int i10, .ref k14, .int i11, .ref k15, .ref k16, .ref k17, .ref h7, .ref h1, .ref h6, .ref h2, .ref k18, .ref k19, .ref k20, .ref k21, .ref k22, .ref k23, .ref k24, .ref k25, .int i12, .int i13, .int i14, .int i15, .int i16, .ref k26, .ref k27, .ref k28, .ref k29, .ref k30, .ref k31, .int i17, .ref k32])), (h1, aI cI 20 f18), (h2, aI cI 20 f19), (h3, aI cZ 80 f20), (h4, aI cI 80 f21), (h5, aI cI 80 f22), (h6, aI cI 3200 f23), (h7, aI cI 400 f24)] s.heap := hP
  have hl := lv_entry ([.ref h0]) (n := 7) (Nat.le_of_ble_eq_true rfl)
  rw [lg_entry_eq]
  generalize (lg_sl ([.ref h0]) ++ List.replicate (7 - (lg_sl ([.ref h0])).length) Slot.unset).toArray = ls at hl ⊢
  replace hl : lv_has ls 7 [(0, .ref h0)] := hl
  generalize hQQ : MQ below _ _ s 0 0 _ = QQ
  skip
  unfold wX9_findTurns at hwp
  refine lv_iconst (v := 0) hx hb dX9_findTurns_0 (by decide) ?_
  refine lv_istore_n (lv' := [(1, .int 0), (0, .ref h0)]) hx hb dX9_findTurns_1 rfl hl (by decide) rfl (fun ls hl => ?_)
  refine xgen (Pp := fun H locs => W p l e _ s m _ below meth c H locs _ _ _ _) (fun H locs hP hD hS => ?_) hP hD hS
  replace hl : lv_has ls 7 [(1, .int 0), (0, .ref h0)] := lv_sub hl [0, 1] rfl
  obtain ⟨n1, hwp⟩ := hwp
  have hs1 : ∀ (n1 : Nat) (H : Heap) (locs : List Loc) (ls : Array Slot) (t2_0 : Nat → Int32) (t2_1 : Nat → Int32) (t2_2 : Int32), wLX9_findTurns_2 i0 i1 f18 f20 f21 f22 f24 K  n1 t2_0 t2_1 t2_2 → va_P G vwCl [(h0, .inr (9, [.int i0, .int i1, .ref h4, .ref h5, .ref h3, .ref k0, .ref k1, .int i2, .ref k2, .int i3, .ref k3, .ref k4, .ref k5, .int i4, .ref k6, .ref k7, .int i5, .ref k8, .ref k9, .ref k10, .int i6, .ref k11, .int i7, .ref k12, .ref k13, .int i8, .int i9, .int i10, .ref k14, .int i11, .ref k15, .ref k16, .ref k17, .ref h7, .ref h1, .ref h6, .ref h2, .ref k18, .ref k19, .ref k20, .ref k21, .ref k22, .ref k23, .ref k24, .ref k25, .int i12, .int i13, .int i14, .int i15, .int i16, .ref k26, .ref k27, .ref k28, .ref k29, .ref k30, .ref k31, .int i17, .ref k32])), (h1, aI cI 20 f18), (h2, aI cI 20 t2_0), (h3, aI cZ 80 f20), (h4, aI cI 80 f21), (h5, aI cI 80 f22), (h6, aI cI 3200 t2_1), (h7, aI cI 400 f24)] H → va_D A [(h0, .inr (9, [.int i0, .int i1, .ref h4, .ref h5, .ref h3, .ref k0, .ref k1, .int i2, .ref k2, .int i3, .ref k3, .ref k4, .ref k5, .int i4, .ref k6, .ref k7, .int i5, .ref k8, .ref k9, .ref k10, .int i6, .ref k11, .int i7, .ref k12, .ref k13, .int i8, .int i9, .int i10, .ref k14, .int i11, .ref k15, .ref k16, .ref k17, .ref h7, .ref h1, .ref h6, .ref h2, .ref k18, .ref k19, .ref k20, .ref k21, .ref k22, .ref k23, .ref k24, .ref k25, .int i12, .int i13, .int i14, .int i15, .int i16, .ref k26, .ref k27, .ref k28, .ref k29, .ref k30, .ref k31, .int i17, .ref k32])), (h1, aI cI 20 f18), (h2, aI cI 20 t2_0), (h3, aI cZ 80 f20), (h4, aI cI 80 f21), (h5, aI cI 80 f22), (h6, aI cI 3200 t2_1), (h7, aI cI 400 f24)] → va_S A s.heap H locs → lv_has ls 7 [(1, .int t2_2), (0, .ref h0)] → W p l e ((headSpec (xw yX9_findTurns cX9_findTurns 7 none) { frames := 0, cells := 0, slots := 0, locals := 0 }).room) s m ([.ref h0] : List Value).toArray below meth c H locs 0 0 QQ (F0 m 2 ls []) := by
    intro n1
    induction n1 with
    | zero => intro H locs ls t2_0 t2_1 t2_2 hwp; exact False.elim hwp
    | succ n1 ih1 =>
      intro H locs ls t2_0 t2_1 t2_2 hwp hP hD hS hl
      rw [wLX9_findTurns_2] at hwp
      refine lv_iload_n hx hb dX9_findTurns_2 rfl (lv_at hl 0 rfl) ?_
      refine lv_aload_n hx hb dX9_findTurns_3 rfl (lv_at hl 1 rfl) ?_
      refine va_get (D := G) (ci := 9) (v := .int i0) (C := RX9) (T := TX9) (N := 58) hx hb hts xinX9 hown hK hP 0 rfl rfl 0 (by decide) (hts _ wo_526) (fun _ h9 => h9) rfl dX9_findTurns_4 ?_
      refine lv_icmp_ge (tgt := 273) hx hb dX9_findTurns_7 (by decide) (fun c7 => ?_) (fun c7 => ?_)
      · replace hwp := hwp.1 c7
        have hP9 : va_P G vwCl [(h0, .inr (9, [.int i0, .int i1, .ref h4, .ref h5, .ref h3, .ref k0, .ref k1, .int i2, .ref k2, .int i3, .ref k3, .ref k4, .ref k5, .int i4, .ref k6, .ref k7, .int i5, .ref k8, .ref k9, .ref k10, .int i6, .ref k11, .int i7, .ref k12, .ref k13, .int i8, .int i9, .int i10, .ref k14, .int i11, .ref k15, .ref k16, .ref k17, .ref h7, .ref h1, .ref h6, .ref h2, .ref k18, .ref k19, .ref k20, .ref k21, .ref k22, .ref k23, .ref k24, .ref k25, .int i12, .int i13, .int i14, .int i15, .int i16, .ref k26, .ref k27, .ref k28, .ref k29, .ref k30, .ref k31, .int i17, .ref k32])), (h1, aI cI 20 f18), (h2, aI cI 20 t2_0), (h3, aI cZ 80 f20), (h4, aI cI 80 f21), (h5, aI cI 80 f22), (h6, aI cI 3200 t2_1), (h7, aI cI 400 f24)] H := hP.sub [0, 1, 2, 3, 4, 5, 6, 7] rfl
        have hD9 : va_D A [(h0, .inr (9, [.int i0, .int i1, .ref h4, .ref h5, .ref h3, .ref k0, .ref k1, .int i2, .ref k2, .int i3, .ref k3, .ref k4, .ref k5, .int i4, .ref k6, .ref k7, .int i5, .ref k8, .ref k9, .ref k10, .int i6, .ref k11, .int i7, .ref k12, .ref k13, .int i8, .int i9, .int i10, .ref k14, .int i11, .ref k15, .ref k16, .ref k17, .ref h7, .ref h1, .ref h6, .ref h2, .ref k18, .ref k19, .ref k20, .ref k21, .ref k22, .ref k23, .ref k24, .ref k25, .int i12, .int i13, .int i14, .int i15, .int i16, .ref k26, .ref k27, .ref k28, .ref k29, .ref k30, .ref k31, .int i17, .ref k32])), (h1, aI cI 20 f18), (h2, aI cI 20 t2_0), (h3, aI cZ 80 f20), (h4, aI cI 80 f21), (h5, aI cI 80 f22), (h6, aI cI 3200 t2_1), (h7, aI cI 400 f24)] := hD.sub [0, 1, 2, 3, 4, 5, 6, 7] (by decide) rfl
        rw [← hQQ]
        exact W.vret hx hb hr (fun t ht hW => ⟨⟨(t2_0, t2_1), rfl, hwp, by rw [ht]; exact hP9, hD9⟩, hS.F ht⟩) hS.2.2 dX9_findTurns_273
      · replace hwp := hwp.2 c7
        refine lv_iconst (v := 0) hx hb dX9_findTurns_10 (by decide) ?_
        refine lv_istore_n (lv' := [(2, .int 0), (1, .int t2_2), (0, .ref h0)]) hx hb dX9_findTurns_11 rfl hl (by decide) rfl (fun ls hl => ?_)
        refine lv_iconst (v := 0) hx hb dX9_findTurns_12 (by decide) ?_
        refine lv_istore_n (lv' := [(3, .int 0), (2, .int 0), (1, .int t2_2), (0, .ref h0)]) hx hb dX9_findTurns_13 rfl hl (by decide) rfl (fun ls hl => ?_)
        replace hl : lv_has ls 7 [(3, .int 0), (2, .int 0), (1, .int t2_2), (0, .ref h0)] := lv_sub hl [0, 1, 2, 3] rfl
        obtain ⟨n2, hwp⟩ := hwp
        have hs2 : ∀ (n2 : Nat) (H : Heap) (locs : List Loc) (ls : Array Slot) (t14_0 : Nat → Int32) (t14_1 : Int32) (t14_2 : Int32), wLX9_findTurns_14 i1 f18 f20 f21 f22 f24 t2_0 t2_2 K (fun z0 z1 z2 => wLX9_findTurns_2 i0 i1 f18 f20 f21 f22 f24 K  n1 z0 z1 z2) n2 t14_0 t14_1 t14_2 → va_P G vwCl [(h0, .inr (9, [.int i0, .int i1, .ref h4, .ref h5, .ref h3, .ref k0, .ref k1, .int i2, .ref k2, .int i3, .ref k3, .ref k4, .ref k5, .int i4, .ref k6, .ref k7, .int i5, .ref k8, .ref k9, .ref k10, .int i6, .ref k11, .int i7, .ref k12, .ref k13, .int i8, .int i9, .int i10, .ref k14, .int i11, .ref k15, .ref k16, .ref k17, .ref h7, .ref h1, .ref h6, .ref h2, .ref k18, .ref k19, .ref k20, .ref k21, .ref k22, .ref k23, .ref k24, .ref k25, .int i12, .int i13, .int i14, .int i15, .int i16, .ref k26, .ref k27, .ref k28, .ref k29, .ref k30, .ref k31, .int i17, .ref k32])), (h1, aI cI 20 f18), (h2, aI cI 20 t2_0), (h3, aI cZ 80 f20), (h4, aI cI 80 f21), (h5, aI cI 80 f22), (h6, aI cI 3200 t14_0), (h7, aI cI 400 f24)] H → va_D A [(h0, .inr (9, [.int i0, .int i1, .ref h4, .ref h5, .ref h3, .ref k0, .ref k1, .int i2, .ref k2, .int i3, .ref k3, .ref k4, .ref k5, .int i4, .ref k6, .ref k7, .int i5, .ref k8, .ref k9, .ref k10, .int i6, .ref k11, .int i7, .ref k12, .ref k13, .int i8, .int i9, .int i10, .ref k14, .int i11, .ref k15, .ref k16, .ref k17, .ref h7, .ref h1, .ref h6, .ref h2, .ref k18, .ref k19, .ref k20, .ref k21, .ref k22, .ref k23, .ref k24, .ref k25, .int i12, .int i13, .int i14, .int i15, .int i16, .ref k26, .ref k27, .ref k28, .ref k29, .ref k30, .ref k31, .int i17, .ref k32])), (h1, aI cI 20 f18), (h2, aI cI 20 t2_0), (h3, aI cZ 80 f20), (h4, aI cI 80 f21), (h5, aI cI 80 f22), (h6, aI cI 3200 t14_0), (h7, aI cI 400 f24)] → va_S A s.heap H locs → lv_has ls 7 [(3, .int t14_2), (2, .int t14_1), (1, .int t2_2), (0, .ref h0)] → W p l e ((headSpec (xw yX9_findTurns cX9_findTurns 7 none) { frames := 0, cells := 0, slots := 0, locals := 0 }).room) s m ([.ref h0] : List Value).toArray below meth c H locs 0 0 QQ (F0 m 14 ls []) := by
          intro n2
          induction n2 with
          | zero => intro H locs ls t14_0 t14_1 t14_2 hwp; exact False.elim hwp
          | succ n2 ih2 =>
            intro H locs ls t14_0 t14_1 t14_2 hwp hP hD hS hl
            rw [wLX9_findTurns_14] at hwp
            refine lv_iload_n hx hb dX9_findTurns_14 rfl (lv_at hl 0 rfl) ?_
            refine lv_aload_n hx hb dX9_findTurns_15 rfl (lv_at hl 3 rfl) ?_
            refine va_get (D := G) (ci := 9) (v := .ref h1) (C := RX9) (T := TX9) (N := 58) hx hb hts xinX9 hown hK hP 0 rfl rfl 34 (by decide) (hts _ wo_552) (fun _ h9 => h9) rfl dX9_findTurns_16 ?_
            refine lv_iload_n hx hb dX9_findTurns_19 rfl (lv_at hl 2 rfl) ?_
            obtain ⟨hi, hwp⟩ := hwp
            refine va_iald hx hb hK hP 1 0 rfl rfl hi dX9_findTurns_20 ?_
            refine lv_icmp_ge (tgt := 178) hx hb dX9_findTurns_21 (by decide) (fun c21 => ?_) (fun c21 => ?_)
            · replace hwp := hwp.1 c21
              refine lv_iconst (v := 0) hx hb dX9_findTurns_178 (by decide) ?_
              refine lv_istore_n (lv' := [(3, .int 0), (2, .int t14_1), (1, .int t2_2), (0, .ref h0)]) hx hb dX9_findTurns_179 rfl hl (by decide) rfl (fun ls hl => ?_)
              replace hl : lv_has ls 7 [(3, .int 0), (2, .int t14_1), (1, .int t2_2), (0, .ref h0)] := lv_sub hl [0, 1, 2, 3] rfl
              obtain ⟨n3, hwp⟩ := hwp
              have hs3 : ∀ (n3 : Nat) (H : Heap) (locs : List Loc) (ls : Array Slot) (t180_0 : Nat → Int32) (t180_1 : Int32) (t180_2 : Int32), wLX9_findTurns_180 i1 f20 f21 f22 t2_0 t2_2 K (fun z0 z1 z2 => wLX9_findTurns_2 i0 i1 f18 f20 f21 f22 f24 K  n1 z0 z1 z2) n3 t180_0 t180_1 t180_2 → va_P G vwCl [(h0, .inr (9, [.int i0, .int i1, .ref h4, .ref h5, .ref h3, .ref k0, .ref k1, .int i2, .ref k2, .int i3, .ref k3, .ref k4, .ref k5, .int i4, .ref k6, .ref k7, .int i5, .ref k8, .ref k9, .ref k10, .int i6, .ref k11, .int i7, .ref k12, .ref k13, .int i8, .int i9, .int i10, .ref k14, .int i11, .ref k15, .ref k16, .ref k17, .ref h7, .ref h1, .ref h6, .ref h2, .ref k18, .ref k19, .ref k20, .ref k21, .ref k22, .ref k23, .ref k24, .ref k25, .int i12, .int i13, .int i14, .int i15, .int i16, .ref k26, .ref k27, .ref k28, .ref k29, .ref k30, .ref k31, .int i17, .ref k32])), (h1, aI cI 20 f18), (h2, aI cI 20 t2_0), (h3, aI cZ 80 f20), (h4, aI cI 80 f21), (h5, aI cI 80 f22), (h6, aI cI 3200 t180_0), (h7, aI cI 400 f24)] H → va_D A [(h0, .inr (9, [.int i0, .int i1, .ref h4, .ref h5, .ref h3, .ref k0, .ref k1, .int i2, .ref k2, .int i3, .ref k3, .ref k4, .ref k5, .int i4, .ref k6, .ref k7, .int i5, .ref k8, .ref k9, .ref k10, .int i6, .ref k11, .int i7, .ref k12, .ref k13, .int i8, .int i9, .int i10, .ref k14, .int i11, .ref k15, .ref k16, .ref k17, .ref h7, .ref h1, .ref h6, .ref h2, .ref k18, .ref k19, .ref k20, .ref k21, .ref k22, .ref k23, .ref k24, .ref k25, .int i12, .int i13, .int i14, .int i15, .int i16, .ref k26, .ref k27, .ref k28, .ref k29, .ref k30, .ref k31, .int i17, .ref k32])), (h1, aI cI 20 f18), (h2, aI cI 20 t2_0), (h3, aI cZ 80 f20), (h4, aI cI 80 f21), (h5, aI cI 80 f22), (h6, aI cI 3200 t180_0), (h7, aI cI 400 f24)] → va_S A s.heap H locs → lv_has ls 7 [(3, .int t180_2), (2, .int t180_1), (1, .int t2_2), (0, .ref h0)] → W p l e ((headSpec (xw yX9_findTurns cX9_findTurns 7 none) { frames := 0, cells := 0, slots := 0, locals := 0 }).room) s m ([.ref h0] : List Value).toArray below meth c H locs 0 0 QQ (F0 m 180 ls []) := by
                intro n3
                induction n3 with
                | zero => intro H locs ls t180_0 t180_1 t180_2 hwp; exact False.elim hwp
                | succ n3 ih3 =>
                  intro H locs ls t180_0 t180_1 t180_2 hwp hP hD hS hl
                  rw [wLX9_findTurns_180] at hwp
                  refine lv_iload_n hx hb dX9_findTurns_180 rfl (lv_at hl 0 rfl) ?_
                  refine lv_aload_n hx hb dX9_findTurns_181 rfl (lv_at hl 3 rfl) ?_
                  refine va_get (D := G) (ci := 9) (v := .int i1) (C := RX9) (T := TX9) (N := 58) hx hb hts xinX9 hown hK hP 0 rfl rfl 1 (by decide) (hts _ wo_527) (fun _ h9 => h9) rfl dX9_findTurns_182 ?_
                  refine lv_icmp_ge (tgt := 260) hx hb dX9_findTurns_185 (by decide) (fun c185 => ?_) (fun c185 => ?_)
                  · replace hwp := hwp.1 c185
                    refine lv_aload_n hx hb dX9_findTurns_260 rfl (lv_at hl 3 rfl) ?_
                    refine va_get (D := G) (ci := 9) (v := .ref h2) (C := RX9) (T := TX9) (N := 58) hx hb hts xinX9 hown hK hP 0 rfl rfl 36 (by decide) (hts _ wo_557) (fun _ h9 => h9) rfl dX9_findTurns_261 ?_
                    refine lv_iload_n hx hb dX9_findTurns_264 rfl (lv_at hl 2 rfl) ?_
                    refine lv_iload_n hx hb dX9_findTurns_265 rfl (lv_at hl 1 rfl) ?_
                    obtain ⟨hi, hwp⟩ := hwp
                    refine va_iast hx hb hK hP hD hS 2 0 rfl rfl hi dX9_findTurns_266 (fun H locs hP hD hS => ?_)
                    obtain ⟨g266, eg266⟩ : ∃ z, z = upd t2_0 (Int32.toNatClampNeg t2_2) t180_1 := ⟨_, rfl⟩
                    replace hwp := hwp g266 eg266
                    replace hP : va_P G vwCl [(h0, .inr (9, [.int i0, .int i1, .ref h4, .ref h5, .ref h3, .ref k0, .ref k1, .int i2, .ref k2, .int i3, .ref k3, .ref k4, .ref k5, .int i4, .ref k6, .ref k7, .int i5, .ref k8, .ref k9, .ref k10, .int i6, .ref k11, .int i7, .ref k12, .ref k13, .int i8, .int i9, .int i10, .ref k14, .int i11, .ref k15, .ref k16, .ref k17, .ref h7, .ref h1, .ref h6, .ref h2, .ref k18, .ref k19, .ref k20, .ref k21, .ref k22, .ref k23, .ref k24, .ref k25, .int i12, .int i13, .int i14, .int i15, .int i16, .ref k26, .ref k27, .ref k28, .ref k29, .ref k30, .ref k31, .int i17, .ref k32])), (h1, aI cI 20 f18), (h2, aI cI 20 g266), (h3, aI cZ 80 f20), (h4, aI cI 80 f21), (h5, aI cI 80 f22), (h6, aI cI 3200 t180_0), (h7, aI cI 400 f24)] H := by rw [eg266]; exact hP
                    replace hD : va_D A [(h0, .inr (9, [.int i0, .int i1, .ref h4, .ref h5, .ref h3, .ref k0, .ref k1, .int i2, .ref k2, .int i3, .ref k3, .ref k4, .ref k5, .int i4, .ref k6, .ref k7, .int i5, .ref k8, .ref k9, .ref k10, .int i6, .ref k11, .int i7, .ref k12, .ref k13, .int i8, .int i9, .int i10, .ref k14, .int i11, .ref k15, .ref k16, .ref k17, .ref h7, .ref h1, .ref h6, .ref h2, .ref k18, .ref k19, .ref k20, .ref k21, .ref k22, .ref k23, .ref k24, .ref k25, .int i12, .int i13, .int i14, .int i15, .int i16, .ref k26, .ref k27, .ref k28, .ref k29, .ref k30, .ref k31, .int i17, .ref k32])), (h1, aI cI 20 f18), (h2, aI cI 20 g266), (h3, aI cZ 80 f20), (h4, aI cI 80 f21), (h5, aI cI 80 f22), (h6, aI cI 3200 t180_0), (h7, aI cI 400 f24)] := by rw [eg266]; exact hD
                    clear eg266
                    refine lv_iinc (v := (t2_2 + 1)) (lv' := [(1, .int (t2_2 + 1)), (3, .int t180_2), (2, .int t180_1), (0, .ref h0)]) hx hb dX9_findTurns_267 hl (k := 2) rfl rfl (by decide) rfl (fun ls hl => ?_)
                    refine lv_goto (tgt := 2) hx hb dX9_findTurns_270 (by decide) ?_
                    replace hl : lv_has ls 7 [(1, .int (t2_2 + 1)), (0, .ref h0)] := lv_sub hl [0, 3] rfl
                    exact ih1 H locs ls g266 t180_0 (t2_2 + 1) hwp hP hD hS hl
                  · replace hwp := hwp.2 c185
                    refine lv_aload_n hx hb dX9_findTurns_188 rfl (lv_at hl 3 rfl) ?_
                    refine va_get (D := G) (ci := 9) (v := .ref h3) (C := RX9) (T := TX9) (N := 58) hx hb hts xinX9 hown hK hP 0 rfl rfl 4 (by decide) (hts _ wo_528) (fun _ h9 => h9) rfl dX9_findTurns_189 ?_
                    refine lv_iload_n hx hb dX9_findTurns_192 rfl (lv_at hl 0 rfl) ?_
                    obtain ⟨hi, hwp⟩ := hwp
                    refine va_zald hx hb hK hP 3 2 rfl rfl hi dX9_findTurns_193 ?_
                    refine lv_if_eq (tgt := 254) hx hb dX9_findTurns_194 (by decide) (fun c194 => ?_) (fun c194 => ?_)
                    · replace hwp := hwp.1 c194
                      refine lv_iinc (v := (t180_2 + 1)) (lv' := [(3, .int (t180_2 + 1)), (2, .int t180_1), (1, .int t2_2), (0, .ref h0)]) hx hb dX9_findTurns_254 hl (k := 0) rfl rfl (by decide) rfl (fun ls hl => ?_)
                      refine lv_goto (tgt := 180) hx hb dX9_findTurns_257 (by decide) ?_
                      replace hl : lv_has ls 7 [(3, .int (t180_2 + 1)), (2, .int t180_1), (1, .int t2_2), (0, .ref h0)] := lv_sub hl [0, 1, 2, 3] rfl
                      exact ih3 H locs ls t180_0 t180_1 (t180_2 + 1) hwp hP hD hS hl
                    · replace hwp := hwp.2 c194
                      refine lv_aload_n hx hb dX9_findTurns_197 rfl (lv_at hl 3 rfl) ?_
                      refine va_get (D := G) (ci := 9) (v := .ref h4) (C := RX9) (T := TX9) (N := 58) hx hb hts xinX9 hown hK hP 0 rfl rfl 2 (by decide) (hts _ wo_529) (fun _ h9 => h9) rfl dX9_findTurns_198 ?_
                      refine lv_iload_n hx hb dX9_findTurns_201 rfl (lv_at hl 0 rfl) ?_
                      obtain ⟨hi, hwp⟩ := hwp
                      refine va_iald hx hb hK hP 4 0 rfl rfl hi dX9_findTurns_202 ?_
                      refine lv_iload_n hx hb dX9_findTurns_203 rfl (lv_at hl 2 rfl) ?_
                      refine lv_icmp_ne (tgt := 254) hx hb dX9_findTurns_204 (by decide) (fun c204 => ?_) (fun c204 => ?_)
                      · replace hwp := hwp.1 c204
                        refine lv_iinc (v := (t180_2 + 1)) (lv' := [(3, .int (t180_2 + 1)), (2, .int t180_1), (1, .int t2_2), (0, .ref h0)]) hx hb dX9_findTurns_254 hl (k := 0) rfl rfl (by decide) rfl (fun ls hl => ?_)
                        refine lv_goto (tgt := 180) hx hb dX9_findTurns_257 (by decide) ?_
                        replace hl : lv_has ls 7 [(3, .int (t180_2 + 1)), (2, .int t180_1), (1, .int t2_2), (0, .ref h0)] := lv_sub hl [0, 1, 2, 3] rfl
                        exact ih3 H locs ls t180_0 t180_1 (t180_2 + 1) hwp hP hD hS hl
                      · replace hwp := hwp.2 c204
                        refine lv_aload_n hx hb dX9_findTurns_207 rfl (lv_at hl 3 rfl) ?_
                        refine va_get (D := G) (ci := 9) (v := .ref h5) (C := RX9) (T := TX9) (N := 58) hx hb hts xinX9 hown hK hP 0 rfl rfl 3 (by decide) (hts _ wo_530) (fun _ h9 => h9) rfl dX9_findTurns_208 ?_
                        refine lv_iload_n hx hb dX9_findTurns_211 rfl (lv_at hl 0 rfl) ?_
                        obtain ⟨hi, hwp⟩ := hwp
                        refine va_iald hx hb hK hP 5 0 rfl rfl hi dX9_findTurns_212 ?_
                        refine lv_iload_n hx hb dX9_findTurns_213 rfl (lv_at hl 2 rfl) ?_
                        refine lv_icmp_ne (tgt := 254) hx hb dX9_findTurns_214 (by decide) (fun c214 => ?_) (fun c214 => ?_)
                        · replace hwp := hwp.1 c214
                          refine lv_iinc (v := (t180_2 + 1)) (lv' := [(3, .int (t180_2 + 1)), (2, .int t180_1), (1, .int t2_2), (0, .ref h0)]) hx hb dX9_findTurns_254 hl (k := 0) rfl rfl (by decide) rfl (fun ls hl => ?_)
                          refine lv_goto (tgt := 180) hx hb dX9_findTurns_257 (by decide) ?_
                          replace hl : lv_has ls 7 [(3, .int (t180_2 + 1)), (2, .int t180_1), (1, .int t2_2), (0, .ref h0)] := lv_sub hl [0, 1, 2, 3] rfl
                          exact ih3 H locs ls t180_0 t180_1 (t180_2 + 1) hwp hP hD hS hl
                        · replace hwp := hwp.2 c214
                          refine lv_aload_n hx hb dX9_findTurns_217 rfl (lv_at hl 3 rfl) ?_
                          refine va_get (D := G) (ci := 9) (v := .ref h6) (C := RX9) (T := TX9) (N := 58) hx hb hts xinX9 hown hK hP 0 rfl rfl 35 (by decide) (hts _ wo_558) (fun _ h9 => h9) rfl dX9_findTurns_218 ?_
                          refine lv_sipush (v := 160) hx hb dX9_findTurns_221 (by decide) ?_
                          refine lv_iload_n hx hb dX9_findTurns_224 rfl (lv_at hl 2 rfl) ?_
                          refine lv_imul hx hb dX9_findTurns_225 ?_
                          refine lv_iload_n hx hb dX9_findTurns_226 rfl (lv_at hl 1 rfl) ?_
                          refine lv_iadd hx hb dX9_findTurns_227 ?_
                          refine lv_iconst (v := 2) hx hb dX9_findTurns_228 (by decide) ?_
                          refine lv_iload_n hx hb dX9_findTurns_229 rfl (lv_at hl 0 rfl) ?_
                          refine lv_imul hx hb dX9_findTurns_230 ?_
                          obtain ⟨hi, hwp⟩ := hwp
                          refine va_iast hx hb hK hP hD hS 6 0 rfl rfl hi dX9_findTurns_231 (fun H locs hP hD hS => ?_)
                          obtain ⟨g231, eg231⟩ : ∃ z, z = upd t180_0 (Int32.toNatClampNeg (((160 : Int32) * t2_2) + t180_1)) ((2 : Int32) * t180_2) := ⟨_, rfl⟩
                          replace hwp := hwp g231 eg231
                          replace hP : va_P G vwCl [(h0, .inr (9, [.int i0, .int i1, .ref h4, .ref h5, .ref h3, .ref k0, .ref k1, .int i2, .ref k2, .int i3, .ref k3, .ref k4, .ref k5, .int i4, .ref k6, .ref k7, .int i5, .ref k8, .ref k9, .ref k10, .int i6, .ref k11, .int i7, .ref k12, .ref k13, .int i8, .int i9, .int i10, .ref k14, .int i11, .ref k15, .ref k16, .ref k17, .ref h7, .ref h1, .ref h6, .ref h2, .ref k18, .ref k19, .ref k20, .ref k21, .ref k22, .ref k23, .ref k24, .ref k25, .int i12, .int i13, .int i14, .int i15, .int i16, .ref k26, .ref k27, .ref k28, .ref k29, .ref k30, .ref k31, .int i17, .ref k32])), (h1, aI cI 20 f18), (h2, aI cI 20 t2_0), (h3, aI cZ 80 f20), (h4, aI cI 80 f21), (h5, aI cI 80 f22), (h6, aI cI 3200 g231), (h7, aI cI 400 f24)] H := by rw [eg231]; exact hP
                          replace hD : va_D A [(h0, .inr (9, [.int i0, .int i1, .ref h4, .ref h5, .ref h3, .ref k0, .ref k1, .int i2, .ref k2, .int i3, .ref k3, .ref k4, .ref k5, .int i4, .ref k6, .ref k7, .int i5, .ref k8, .ref k9, .ref k10, .int i6, .ref k11, .int i7, .ref k12, .ref k13, .int i8, .int i9, .int i10, .ref k14, .int i11, .ref k15, .ref k16, .ref k17, .ref h7, .ref h1, .ref h6, .ref h2, .ref k18, .ref k19, .ref k20, .ref k21, .ref k22, .ref k23, .ref k24, .ref k25, .int i12, .int i13, .int i14, .int i15, .int i16, .ref k26, .ref k27, .ref k28, .ref k29, .ref k30, .ref k31, .int i17, .ref k32])), (h1, aI cI 20 f18), (h2, aI cI 20 t2_0), (h3, aI cZ 80 f20), (h4, aI cI 80 f21), (h5, aI cI 80 f22), (h6, aI cI 3200 g231), (h7, aI cI 400 f24)] := by rw [eg231]; exact hD
                          clear eg231
                          refine lv_aload_n hx hb dX9_findTurns_232 rfl (lv_at hl 3 rfl) ?_
                          refine va_get (D := G) (ci := 9) (v := .ref h6) (C := RX9) (T := TX9) (N := 58) hx hb hts xinX9 hown hK hP 0 rfl rfl 35 (by decide) (hts _ wo_558) (fun _ h9 => h9) rfl dX9_findTurns_233 ?_
                          refine lv_sipush (v := 160) hx hb dX9_findTurns_236 (by decide) ?_
                          refine lv_iload_n hx hb dX9_findTurns_239 rfl (lv_at hl 2 rfl) ?_
                          refine lv_imul hx hb dX9_findTurns_240 ?_
                          refine lv_iload_n hx hb dX9_findTurns_241 rfl (lv_at hl 1 rfl) ?_
                          refine lv_iadd hx hb dX9_findTurns_242 ?_
                          refine lv_iconst (v := 1) hx hb dX9_findTurns_243 (by decide) ?_
                          refine lv_iadd hx hb dX9_findTurns_244 ?_
                          refine lv_iconst (v := 2) hx hb dX9_findTurns_245 (by decide) ?_
                          refine lv_iload_n hx hb dX9_findTurns_246 rfl (lv_at hl 0 rfl) ?_
                          refine lv_imul hx hb dX9_findTurns_247 ?_
                          refine lv_iconst (v := 1) hx hb dX9_findTurns_248 (by decide) ?_
                          refine lv_iadd hx hb dX9_findTurns_249 ?_
                          obtain ⟨hi, hwp⟩ := hwp
                          refine va_iast hx hb hK hP hD hS 6 0 rfl rfl hi dX9_findTurns_250 (fun H locs hP hD hS => ?_)
                          obtain ⟨g250, eg250⟩ : ∃ z, z = upd g231 (Int32.toNatClampNeg ((((160 : Int32) * t2_2) + t180_1) + 1)) (((2 : Int32) * t180_2) + 1) := ⟨_, rfl⟩
                          replace hwp := hwp g250 eg250
                          replace hP : va_P G vwCl [(h0, .inr (9, [.int i0, .int i1, .ref h4, .ref h5, .ref h3, .ref k0, .ref k1, .int i2, .ref k2, .int i3, .ref k3, .ref k4, .ref k5, .int i4, .ref k6, .ref k7, .int i5, .ref k8, .ref k9, .ref k10, .int i6, .ref k11, .int i7, .ref k12, .ref k13, .int i8, .int i9, .int i10, .ref k14, .int i11, .ref k15, .ref k16, .ref k17, .ref h7, .ref h1, .ref h6, .ref h2, .ref k18, .ref k19, .ref k20, .ref k21, .ref k22, .ref k23, .ref k24, .ref k25, .int i12, .int i13, .int i14, .int i15, .int i16, .ref k26, .ref k27, .ref k28, .ref k29, .ref k30, .ref k31, .int i17, .ref k32])), (h1, aI cI 20 f18), (h2, aI cI 20 t2_0), (h3, aI cZ 80 f20), (h4, aI cI 80 f21), (h5, aI cI 80 f22), (h6, aI cI 3200 g250), (h7, aI cI 400 f24)] H := by rw [eg250]; exact hP
                          replace hD : va_D A [(h0, .inr (9, [.int i0, .int i1, .ref h4, .ref h5, .ref h3, .ref k0, .ref k1, .int i2, .ref k2, .int i3, .ref k3, .ref k4, .ref k5, .int i4, .ref k6, .ref k7, .int i5, .ref k8, .ref k9, .ref k10, .int i6, .ref k11, .int i7, .ref k12, .ref k13, .int i8, .int i9, .int i10, .ref k14, .int i11, .ref k15, .ref k16, .ref k17, .ref h7, .ref h1, .ref h6, .ref h2, .ref k18, .ref k19, .ref k20, .ref k21, .ref k22, .ref k23, .ref k24, .ref k25, .int i12, .int i13, .int i14, .int i15, .int i16, .ref k26, .ref k27, .ref k28, .ref k29, .ref k30, .ref k31, .int i17, .ref k32])), (h1, aI cI 20 f18), (h2, aI cI 20 t2_0), (h3, aI cZ 80 f20), (h4, aI cI 80 f21), (h5, aI cI 80 f22), (h6, aI cI 3200 g250), (h7, aI cI 400 f24)] := by rw [eg250]; exact hD
                          clear eg250
                          refine lv_iinc (v := (t180_1 + 2)) (lv' := [(2, .int (t180_1 + 2)), (3, .int t180_2), (1, .int t2_2), (0, .ref h0)]) hx hb dX9_findTurns_251 hl (k := 1) rfl rfl (by decide) rfl (fun ls hl => ?_)
                          refine lv_iinc (v := (t180_2 + 1)) (lv' := [(3, .int (t180_2 + 1)), (2, .int (t180_1 + 2)), (1, .int t2_2), (0, .ref h0)]) hx hb dX9_findTurns_254 hl (k := 1) rfl rfl (by decide) rfl (fun ls hl => ?_)
                          refine lv_goto (tgt := 180) hx hb dX9_findTurns_257 (by decide) ?_
                          replace hl : lv_has ls 7 [(3, .int (t180_2 + 1)), (2, .int (t180_1 + 2)), (1, .int t2_2), (0, .ref h0)] := lv_sub hl [0, 1, 2, 3] rfl
                          exact ih3 H locs ls g250 (t180_1 + 2) (t180_2 + 1) hwp hP hD hS hl
              exact hs3 n3 H locs ls t14_0 t14_1 0 hwp hP hD hS hl
            · replace hwp := hwp.2 c21
              refine lv_aload_n hx hb dX9_findTurns_24 rfl (lv_at hl 3 rfl) ?_
              refine va_get (D := G) (ci := 9) (v := .ref h7) (C := RX9) (T := TX9) (N := 58) hx hb hts xinX9 hown hK hP 0 rfl rfl 33 (by decide) (hts _ wo_551) (fun _ h9 => h9) rfl dX9_findTurns_25 ?_
              refine lv_bipush (v := 20) hx hb dX9_findTurns_28 (by decide) ?_
              refine lv_iload_n hx hb dX9_findTurns_30 rfl (lv_at hl 2 rfl) ?_
              refine lv_imul hx hb dX9_findTurns_31 ?_
              refine lv_iload_n hx hb dX9_findTurns_32 rfl (lv_at hl 0 rfl) ?_
              refine lv_iadd hx hb dX9_findTurns_33 ?_
              obtain ⟨hi, hwp⟩ := hwp
              refine va_iald hx hb hK hP 7 0 rfl rfl hi dX9_findTurns_34 ?_
              refine lv_topi (fun v35 ev35 => ?_)
              replace hwp := hwp v35 ev35
              clear ev35
              refine lv_istore (lv' := [(4, .int v35), (3, .int t14_2), (2, .int t14_1), (1, .int t2_2), (0, .ref h0)]) hx hb dX9_findTurns_35 hl (by decide) rfl (fun ls hl => ?_)
              refine lv_iconst (v := 0) hx hb dX9_findTurns_37 (by decide) ?_
              refine lv_istore (lv' := [(5, .int 0), (4, .int v35), (3, .int t14_2), (2, .int t14_1), (1, .int t2_2), (0, .ref h0)]) hx hb dX9_findTurns_38 hl (by decide) rfl (fun ls hl => ?_)
              replace hl : lv_has ls 7 [(5, .int 0), (4, .int v35), (3, .int t14_2), (2, .int t14_1), (1, .int t2_2), (0, .ref h0)] := lv_sub hl [0, 1, 2, 3, 4, 5] rfl
              obtain ⟨n4, hwp⟩ := hwp
              have hs4 : ∀ (n4 : Nat) (H : Heap) (locs : List Loc) (ls : Array Slot) (t40_0 : Nat → Int32) (t40_1 : Int32) (t40_2 : Int32), wLX9_findTurns_40 i1 f20 f21 f22 t2_2 t14_2 v35 K (fun z0 z1 z2 => wLX9_findTurns_14 i1 f18 f20 f21 f22 f24 t2_0 t2_2 K (fun z0 z1 z2 => wLX9_findTurns_2 i0 i1 f18 f20 f21 f22 f24 K  n1 z0 z1 z2) n2 z0 z1 z2) n4 t40_0 t40_1 t40_2 → va_P G vwCl [(h0, .inr (9, [.int i0, .int i1, .ref h4, .ref h5, .ref h3, .ref k0, .ref k1, .int i2, .ref k2, .int i3, .ref k3, .ref k4, .ref k5, .int i4, .ref k6, .ref k7, .int i5, .ref k8, .ref k9, .ref k10, .int i6, .ref k11, .int i7, .ref k12, .ref k13, .int i8, .int i9, .int i10, .ref k14, .int i11, .ref k15, .ref k16, .ref k17, .ref h7, .ref h1, .ref h6, .ref h2, .ref k18, .ref k19, .ref k20, .ref k21, .ref k22, .ref k23, .ref k24, .ref k25, .int i12, .int i13, .int i14, .int i15, .int i16, .ref k26, .ref k27, .ref k28, .ref k29, .ref k30, .ref k31, .int i17, .ref k32])), (h1, aI cI 20 f18), (h2, aI cI 20 t2_0), (h3, aI cZ 80 f20), (h4, aI cI 80 f21), (h5, aI cI 80 f22), (h6, aI cI 3200 t40_0), (h7, aI cI 400 f24)] H → va_D A [(h0, .inr (9, [.int i0, .int i1, .ref h4, .ref h5, .ref h3, .ref k0, .ref k1, .int i2, .ref k2, .int i3, .ref k3, .ref k4, .ref k5, .int i4, .ref k6, .ref k7, .int i5, .ref k8, .ref k9, .ref k10, .int i6, .ref k11, .int i7, .ref k12, .ref k13, .int i8, .int i9, .int i10, .ref k14, .int i11, .ref k15, .ref k16, .ref k17, .ref h7, .ref h1, .ref h6, .ref h2, .ref k18, .ref k19, .ref k20, .ref k21, .ref k22, .ref k23, .ref k24, .ref k25, .int i12, .int i13, .int i14, .int i15, .int i16, .ref k26, .ref k27, .ref k28, .ref k29, .ref k30, .ref k31, .int i17, .ref k32])), (h1, aI cI 20 f18), (h2, aI cI 20 t2_0), (h3, aI cZ 80 f20), (h4, aI cI 80 f21), (h5, aI cI 80 f22), (h6, aI cI 3200 t40_0), (h7, aI cI 400 f24)] → va_S A s.heap H locs → lv_has ls 7 [(5, .int t40_2), (4, .int v35), (3, .int t14_2), (2, .int t40_1), (1, .int t2_2), (0, .ref h0)] → W p l e ((headSpec (xw yX9_findTurns cX9_findTurns 7 none) { frames := 0, cells := 0, slots := 0, locals := 0 }).room) s m ([.ref h0] : List Value).toArray below meth c H locs 0 0 QQ (F0 m 40 ls []) := by
                intro n4
                induction n4 with
                | zero => intro H locs ls t40_0 t40_1 t40_2 hwp; exact False.elim hwp
                | succ n4 ih4 =>
                  intro H locs ls t40_0 t40_1 t40_2 hwp hP hD hS hl
                  rw [wLX9_findTurns_40] at hwp
                  refine lv_iload hx hb dX9_findTurns_40 (lv_at hl 0 rfl) ?_
                  refine lv_aload_n hx hb dX9_findTurns_42 rfl (lv_at hl 5 rfl) ?_
                  refine va_get (D := G) (ci := 9) (v := .int i1) (C := RX9) (T := TX9) (N := 58) hx hb hts xinX9 hown hK hP 0 rfl rfl 1 (by decide) (hts _ wo_527) (fun _ h9 => h9) rfl dX9_findTurns_43 ?_
                  refine lv_icmp_ge (tgt := 172) hx hb dX9_findTurns_46 (by decide) (fun c46 => ?_) (fun c46 => ?_)
                  · replace hwp := hwp.1 c46
                    refine lv_iinc (v := (t14_2 + 1)) (lv' := [(3, .int (t14_2 + 1)), (5, .int t40_2), (4, .int v35), (2, .int t40_1), (1, .int t2_2), (0, .ref h0)]) hx hb dX9_findTurns_172 hl (k := 2) rfl rfl (by decide) rfl (fun ls hl => ?_)
                    refine lv_goto (tgt := 14) hx hb dX9_findTurns_175 (by decide) ?_
                    replace hl : lv_has ls 7 [(3, .int (t14_2 + 1)), (2, .int t40_1), (1, .int t2_2), (0, .ref h0)] := lv_sub hl [0, 3, 4, 5] rfl
                    exact ih2 H locs ls t40_0 t40_1 (t14_2 + 1) hwp hP hD hS hl
                  · replace hwp := hwp.2 c46
                    refine lv_iload_n hx hb dX9_findTurns_49 rfl (lv_at hl 4 rfl) ?_
                    refine lv_iload hx hb dX9_findTurns_50 (lv_at hl 1 rfl) ?_
                    refine lv_icmp_ge (tgt := 60) hx hb dX9_findTurns_52 (by decide) (fun c52 => ?_) (fun c52 => ?_)
                    · replace hwp := hwp.1 c52
                      refine lv_aload_n hx hb dX9_findTurns_60 rfl (lv_at hl 5 rfl) ?_
                      refine va_get (D := G) (ci := 9) (v := .int i1) (C := RX9) (T := TX9) (N := 58) hx hb hts xinX9 hown hK hP 0 rfl rfl 1 (by decide) (hts _ wo_527) (fun _ h9 => h9) rfl dX9_findTurns_61 ?_
                      refine lv_iconst (v := 1) hx hb dX9_findTurns_64 (by decide) ?_
                      refine lv_isub hx hb dX9_findTurns_65 ?_
                      refine lv_iload hx hb dX9_findTurns_66 (lv_at hl 0 rfl) ?_
                      refine lv_isub hx hb dX9_findTurns_68 ?_
                      refine lv_topi (fun v69 ev69 => ?_)
                      replace hwp := hwp v69 ev69
                      clear ev69
                      refine lv_istore (lv' := [(6, .int v69), (5, .int t40_2), (4, .int v35), (3, .int t14_2), (2, .int t40_1), (1, .int t2_2), (0, .ref h0)]) hx hb dX9_findTurns_69 hl (by decide) rfl (fun ls hl => ?_)
                      refine lv_aload_n hx hb dX9_findTurns_71 rfl (lv_at hl 6 rfl) ?_
                      refine va_get (D := G) (ci := 9) (v := .ref h3) (C := RX9) (T := TX9) (N := 58) hx hb hts xinX9 hown hK hP 0 rfl rfl 4 (by decide) (hts _ wo_528) (fun _ h9 => h9) rfl dX9_findTurns_72 ?_
                      refine lv_iload hx hb dX9_findTurns_75 (lv_at hl 0 rfl) ?_
                      obtain ⟨hi, hwp⟩ := hwp
                      refine va_zald hx hb hK hP 3 2 rfl rfl hi dX9_findTurns_77 ?_
                      refine lv_if_eq (tgt := 166) hx hb dX9_findTurns_78 (by decide) (fun c78 => ?_) (fun c78 => ?_)
                      · replace hwp := hwp.1 c78
                        refine lv_iinc (v := (t40_2 + 1)) (lv' := [(5, .int (t40_2 + 1)), (6, .int v69), (4, .int v35), (3, .int t14_2), (2, .int t40_1), (1, .int t2_2), (0, .ref h0)]) hx hb dX9_findTurns_166 hl (k := 1) rfl rfl (by decide) rfl (fun ls hl => ?_)
                        refine lv_goto (tgt := 40) hx hb dX9_findTurns_169 (by decide) ?_
                        replace hl : lv_has ls 7 [(5, .int (t40_2 + 1)), (4, .int v35), (3, .int t14_2), (2, .int t40_1), (1, .int t2_2), (0, .ref h0)] := lv_sub hl [0, 2, 3, 4, 5, 6] rfl
                        exact ih4 H locs ls t40_0 t40_1 (t40_2 + 1) hwp hP hD hS hl
                      · replace hwp := hwp.2 c78
                        refine lv_aload_n hx hb dX9_findTurns_81 rfl (lv_at hl 6 rfl) ?_
                        refine va_get (D := G) (ci := 9) (v := .ref h4) (C := RX9) (T := TX9) (N := 58) hx hb hts xinX9 hown hK hP 0 rfl rfl 2 (by decide) (hts _ wo_529) (fun _ h9 => h9) rfl dX9_findTurns_82 ?_
                        refine lv_iload hx hb dX9_findTurns_85 (lv_at hl 0 rfl) ?_
                        obtain ⟨hi, hwp⟩ := hwp
                        refine va_iald hx hb hK hP 4 0 rfl rfl hi dX9_findTurns_87 ?_
                        refine lv_iload_n hx hb dX9_findTurns_88 rfl (lv_at hl 5 rfl) ?_
                        refine lv_icmp_ne (tgt := 104) hx hb dX9_findTurns_89 (by decide) (fun c89 => ?_) (fun c89 => ?_)
                        · replace hwp := hwp.1 c89
                          refine lv_aload_n hx hb dX9_findTurns_104 rfl (lv_at hl 6 rfl) ?_
                          refine va_get (D := G) (ci := 9) (v := .ref h4) (C := RX9) (T := TX9) (N := 58) hx hb hts xinX9 hown hK hP 0 rfl rfl 2 (by decide) (hts _ wo_529) (fun _ h9 => h9) rfl dX9_findTurns_105 ?_
                          refine lv_iload hx hb dX9_findTurns_108 (lv_at hl 0 rfl) ?_
                          obtain ⟨hi, hwp⟩ := hwp
                          refine va_iald hx hb hK hP 4 0 rfl rfl hi dX9_findTurns_110 ?_
                          refine lv_iload hx hb dX9_findTurns_111 (lv_at hl 2 rfl) ?_
                          refine lv_icmp_ne (tgt := 166) hx hb dX9_findTurns_113 (by decide) (fun c113 => ?_) (fun c113 => ?_)
                          · replace hwp := hwp.1 c113
                            refine lv_iinc (v := (t40_2 + 1)) (lv' := [(5, .int (t40_2 + 1)), (6, .int v69), (4, .int v35), (3, .int t14_2), (2, .int t40_1), (1, .int t2_2), (0, .ref h0)]) hx hb dX9_findTurns_166 hl (k := 1) rfl rfl (by decide) rfl (fun ls hl => ?_)
                            refine lv_goto (tgt := 40) hx hb dX9_findTurns_169 (by decide) ?_
                            replace hl : lv_has ls 7 [(5, .int (t40_2 + 1)), (4, .int v35), (3, .int t14_2), (2, .int t40_1), (1, .int t2_2), (0, .ref h0)] := lv_sub hl [0, 2, 3, 4, 5, 6] rfl
                            exact ih4 H locs ls t40_0 t40_1 (t40_2 + 1) hwp hP hD hS hl
                          · replace hwp := hwp.2 c113
                            refine lv_aload_n hx hb dX9_findTurns_116 rfl (lv_at hl 6 rfl) ?_
                            refine va_get (D := G) (ci := 9) (v := .ref h5) (C := RX9) (T := TX9) (N := 58) hx hb hts xinX9 hown hK hP 0 rfl rfl 3 (by decide) (hts _ wo_530) (fun _ h9 => h9) rfl dX9_findTurns_117 ?_
                            refine lv_iload hx hb dX9_findTurns_120 (lv_at hl 0 rfl) ?_
                            obtain ⟨hi, hwp⟩ := hwp
                            refine va_iald hx hb hK hP 5 0 rfl rfl hi dX9_findTurns_122 ?_
                            refine lv_iload_n hx hb dX9_findTurns_123 rfl (lv_at hl 5 rfl) ?_
                            refine lv_icmp_ne (tgt := 166) hx hb dX9_findTurns_124 (by decide) (fun c124 => ?_) (fun c124 => ?_)
                            · replace hwp := hwp.1 c124
                              refine lv_iinc (v := (t40_2 + 1)) (lv' := [(5, .int (t40_2 + 1)), (6, .int v69), (4, .int v35), (3, .int t14_2), (2, .int t40_1), (1, .int t2_2), (0, .ref h0)]) hx hb dX9_findTurns_166 hl (k := 1) rfl rfl (by decide) rfl (fun ls hl => ?_)
                              refine lv_goto (tgt := 40) hx hb dX9_findTurns_169 (by decide) ?_
                              replace hl : lv_has ls 7 [(5, .int (t40_2 + 1)), (4, .int v35), (3, .int t14_2), (2, .int t40_1), (1, .int t2_2), (0, .ref h0)] := lv_sub hl [0, 2, 3, 4, 5, 6] rfl
                              exact ih4 H locs ls t40_0 t40_1 (t40_2 + 1) hwp hP hD hS hl
                            · replace hwp := hwp.2 c124
                              refine lv_aload_n hx hb dX9_findTurns_127 rfl (lv_at hl 6 rfl) ?_
                              refine va_get (D := G) (ci := 9) (v := .ref h6) (C := RX9) (T := TX9) (N := 58) hx hb hts xinX9 hown hK hP 0 rfl rfl 35 (by decide) (hts _ wo_558) (fun _ h9 => h9) rfl dX9_findTurns_128 ?_
                              refine lv_sipush (v := 160) hx hb dX9_findTurns_131 (by decide) ?_
                              refine lv_iload_n hx hb dX9_findTurns_134 rfl (lv_at hl 5 rfl) ?_
                              refine lv_imul hx hb dX9_findTurns_135 ?_
                              refine lv_iload_n hx hb dX9_findTurns_136 rfl (lv_at hl 4 rfl) ?_
                              refine lv_iadd hx hb dX9_findTurns_137 ?_
                              refine lv_aload_n hx hb dX9_findTurns_138 rfl (lv_at hl 6 rfl) ?_
                              refine va_get (D := G) (ci := 9) (v := .ref h4) (C := RX9) (T := TX9) (N := 58) hx hb hts xinX9 hown hK hP 0 rfl rfl 2 (by decide) (hts _ wo_529) (fun _ h9 => h9) rfl dX9_findTurns_139 ?_
                              refine lv_iload hx hb dX9_findTurns_142 (lv_at hl 0 rfl) ?_
                              obtain ⟨hi, hwp⟩ := hwp
                              refine va_iald hx hb hK hP 4 0 rfl rfl hi dX9_findTurns_144 ?_
                              refine lv_iload_n hx hb dX9_findTurns_145 rfl (lv_at hl 5 rfl) ?_
                              refine lv_icmp_ne (tgt := 156) hx hb dX9_findTurns_146 (by decide) (fun c146 => ?_) (fun c146 => ?_)
                              · replace hwp := hwp.1 c146
                                refine lv_iconst (v := 2) hx hb dX9_findTurns_156 (by decide) ?_
                                refine lv_iload hx hb dX9_findTurns_157 (lv_at hl 0 rfl) ?_
                                refine lv_imul hx hb dX9_findTurns_159 ?_
                                refine lv_iconst (v := 1) hx hb dX9_findTurns_160 (by decide) ?_
                                refine lv_iadd hx hb dX9_findTurns_161 ?_
                                obtain ⟨hi, hwp⟩ := hwp
                                refine va_iast hx hb hK hP hD hS 6 0 rfl rfl hi dX9_findTurns_162 (fun H locs hP hD hS => ?_)
                                obtain ⟨g162, eg162⟩ : ∃ z, z = upd t40_0 (Int32.toNatClampNeg (((160 : Int32) * t2_2) + t40_1)) (((2 : Int32) * v69) + 1) := ⟨_, rfl⟩
                                replace hwp := hwp g162 eg162
                                replace hP : va_P G vwCl [(h0, .inr (9, [.int i0, .int i1, .ref h4, .ref h5, .ref h3, .ref k0, .ref k1, .int i2, .ref k2, .int i3, .ref k3, .ref k4, .ref k5, .int i4, .ref k6, .ref k7, .int i5, .ref k8, .ref k9, .ref k10, .int i6, .ref k11, .int i7, .ref k12, .ref k13, .int i8, .int i9, .int i10, .ref k14, .int i11, .ref k15, .ref k16, .ref k17, .ref h7, .ref h1, .ref h6, .ref h2, .ref k18, .ref k19, .ref k20, .ref k21, .ref k22, .ref k23, .ref k24, .ref k25, .int i12, .int i13, .int i14, .int i15, .int i16, .ref k26, .ref k27, .ref k28, .ref k29, .ref k30, .ref k31, .int i17, .ref k32])), (h1, aI cI 20 f18), (h2, aI cI 20 t2_0), (h3, aI cZ 80 f20), (h4, aI cI 80 f21), (h5, aI cI 80 f22), (h6, aI cI 3200 g162), (h7, aI cI 400 f24)] H := by rw [eg162]; exact hP
                                replace hD : va_D A [(h0, .inr (9, [.int i0, .int i1, .ref h4, .ref h5, .ref h3, .ref k0, .ref k1, .int i2, .ref k2, .int i3, .ref k3, .ref k4, .ref k5, .int i4, .ref k6, .ref k7, .int i5, .ref k8, .ref k9, .ref k10, .int i6, .ref k11, .int i7, .ref k12, .ref k13, .int i8, .int i9, .int i10, .ref k14, .int i11, .ref k15, .ref k16, .ref k17, .ref h7, .ref h1, .ref h6, .ref h2, .ref k18, .ref k19, .ref k20, .ref k21, .ref k22, .ref k23, .ref k24, .ref k25, .int i12, .int i13, .int i14, .int i15, .int i16, .ref k26, .ref k27, .ref k28, .ref k29, .ref k30, .ref k31, .int i17, .ref k32])), (h1, aI cI 20 f18), (h2, aI cI 20 t2_0), (h3, aI cZ 80 f20), (h4, aI cI 80 f21), (h5, aI cI 80 f22), (h6, aI cI 3200 g162), (h7, aI cI 400 f24)] := by rw [eg162]; exact hD
                                clear eg162
                                refine lv_iinc (v := (t40_1 + 1)) (lv' := [(2, .int (t40_1 + 1)), (6, .int v69), (5, .int t40_2), (4, .int v35), (3, .int t14_2), (1, .int t2_2), (0, .ref h0)]) hx hb dX9_findTurns_163 hl (k := 4) rfl rfl (by decide) rfl (fun ls hl => ?_)
                                refine lv_iinc (v := (t40_2 + 1)) (lv' := [(5, .int (t40_2 + 1)), (2, .int (t40_1 + 1)), (6, .int v69), (4, .int v35), (3, .int t14_2), (1, .int t2_2), (0, .ref h0)]) hx hb dX9_findTurns_166 hl (k := 2) rfl rfl (by decide) rfl (fun ls hl => ?_)
                                refine lv_goto (tgt := 40) hx hb dX9_findTurns_169 (by decide) ?_
                                replace hl : lv_has ls 7 [(5, .int (t40_2 + 1)), (4, .int v35), (3, .int t14_2), (2, .int (t40_1 + 1)), (1, .int t2_2), (0, .ref h0)] := lv_sub hl [0, 3, 4, 1, 5, 6] rfl
                                exact ih4 H locs ls g162 (t40_1 + 1) (t40_2 + 1) hwp hP hD hS hl
                              · replace hwp := hwp.2 c146
                                refine lv_iconst (v := 2) hx hb dX9_findTurns_149 (by decide) ?_
                                refine lv_iload hx hb dX9_findTurns_150 (lv_at hl 0 rfl) ?_
                                refine lv_imul hx hb dX9_findTurns_152 ?_
                                refine lv_goto (tgt := 162) hx hb dX9_findTurns_153 (by decide) ?_
                                obtain ⟨hi, hwp⟩ := hwp
                                refine va_iast hx hb hK hP hD hS 6 0 rfl rfl hi dX9_findTurns_162 (fun H locs hP hD hS => ?_)
                                obtain ⟨g162, eg162⟩ : ∃ z, z = upd t40_0 (Int32.toNatClampNeg (((160 : Int32) * t2_2) + t40_1)) ((2 : Int32) * v69) := ⟨_, rfl⟩
                                replace hwp := hwp g162 eg162
                                replace hP : va_P G vwCl [(h0, .inr (9, [.int i0, .int i1, .ref h4, .ref h5, .ref h3, .ref k0, .ref k1, .int i2, .ref k2, .int i3, .ref k3, .ref k4, .ref k5, .int i4, .ref k6, .ref k7, .int i5, .ref k8, .ref k9, .ref k10, .int i6, .ref k11, .int i7, .ref k12, .ref k13, .int i8, .int i9, .int i10, .ref k14, .int i11, .ref k15, .ref k16, .ref k17, .ref h7, .ref h1, .ref h6, .ref h2, .ref k18, .ref k19, .ref k20, .ref k21, .ref k22, .ref k23, .ref k24, .ref k25, .int i12, .int i13, .int i14, .int i15, .int i16, .ref k26, .ref k27, .ref k28, .ref k29, .ref k30, .ref k31, .int i17, .ref k32])), (h1, aI cI 20 f18), (h2, aI cI 20 t2_0), (h3, aI cZ 80 f20), (h4, aI cI 80 f21), (h5, aI cI 80 f22), (h6, aI cI 3200 g162), (h7, aI cI 400 f24)] H := by rw [eg162]; exact hP
                                replace hD : va_D A [(h0, .inr (9, [.int i0, .int i1, .ref h4, .ref h5, .ref h3, .ref k0, .ref k1, .int i2, .ref k2, .int i3, .ref k3, .ref k4, .ref k5, .int i4, .ref k6, .ref k7, .int i5, .ref k8, .ref k9, .ref k10, .int i6, .ref k11, .int i7, .ref k12, .ref k13, .int i8, .int i9, .int i10, .ref k14, .int i11, .ref k15, .ref k16, .ref k17, .ref h7, .ref h1, .ref h6, .ref h2, .ref k18, .ref k19, .ref k20, .ref k21, .ref k22, .ref k23, .ref k24, .ref k25, .int i12, .int i13, .int i14, .int i15, .int i16, .ref k26, .ref k27, .ref k28, .ref k29, .ref k30, .ref k31, .int i17, .ref k32])), (h1, aI cI 20 f18), (h2, aI cI 20 t2_0), (h3, aI cZ 80 f20), (h4, aI cI 80 f21), (h5, aI cI 80 f22), (h6, aI cI 3200 g162), (h7, aI cI 400 f24)] := by rw [eg162]; exact hD
                                clear eg162
                                refine lv_iinc (v := (t40_1 + 1)) (lv' := [(2, .int (t40_1 + 1)), (6, .int v69), (5, .int t40_2), (4, .int v35), (3, .int t14_2), (1, .int t2_2), (0, .ref h0)]) hx hb dX9_findTurns_163 hl (k := 4) rfl rfl (by decide) rfl (fun ls hl => ?_)
                                refine lv_iinc (v := (t40_2 + 1)) (lv' := [(5, .int (t40_2 + 1)), (2, .int (t40_1 + 1)), (6, .int v69), (4, .int v35), (3, .int t14_2), (1, .int t2_2), (0, .ref h0)]) hx hb dX9_findTurns_166 hl (k := 2) rfl rfl (by decide) rfl (fun ls hl => ?_)
                                refine lv_goto (tgt := 40) hx hb dX9_findTurns_169 (by decide) ?_
                                replace hl : lv_has ls 7 [(5, .int (t40_2 + 1)), (4, .int v35), (3, .int t14_2), (2, .int (t40_1 + 1)), (1, .int t2_2), (0, .ref h0)] := lv_sub hl [0, 3, 4, 1, 5, 6] rfl
                                exact ih4 H locs ls g162 (t40_1 + 1) (t40_2 + 1) hwp hP hD hS hl
                        · replace hwp := hwp.2 c89
                          refine lv_aload_n hx hb dX9_findTurns_92 rfl (lv_at hl 6 rfl) ?_
                          refine va_get (D := G) (ci := 9) (v := .ref h5) (C := RX9) (T := TX9) (N := 58) hx hb hts xinX9 hown hK hP 0 rfl rfl 3 (by decide) (hts _ wo_530) (fun _ h9 => h9) rfl dX9_findTurns_93 ?_
                          refine lv_iload hx hb dX9_findTurns_96 (lv_at hl 0 rfl) ?_
                          obtain ⟨hi, hwp⟩ := hwp
                          refine va_iald hx hb hK hP 5 0 rfl rfl hi dX9_findTurns_98 ?_
                          refine lv_iload hx hb dX9_findTurns_99 (lv_at hl 2 rfl) ?_
                          refine lv_icmp_eq (tgt := 127) hx hb dX9_findTurns_101 (by decide) (fun c101 => ?_) (fun c101 => ?_)
                          · replace hwp := hwp.1 c101
                            refine lv_aload_n hx hb dX9_findTurns_127 rfl (lv_at hl 6 rfl) ?_
                            refine va_get (D := G) (ci := 9) (v := .ref h6) (C := RX9) (T := TX9) (N := 58) hx hb hts xinX9 hown hK hP 0 rfl rfl 35 (by decide) (hts _ wo_558) (fun _ h9 => h9) rfl dX9_findTurns_128 ?_
                            refine lv_sipush (v := 160) hx hb dX9_findTurns_131 (by decide) ?_
                            refine lv_iload_n hx hb dX9_findTurns_134 rfl (lv_at hl 5 rfl) ?_
                            refine lv_imul hx hb dX9_findTurns_135 ?_
                            refine lv_iload_n hx hb dX9_findTurns_136 rfl (lv_at hl 4 rfl) ?_
                            refine lv_iadd hx hb dX9_findTurns_137 ?_
                            refine lv_aload_n hx hb dX9_findTurns_138 rfl (lv_at hl 6 rfl) ?_
                            refine va_get (D := G) (ci := 9) (v := .ref h4) (C := RX9) (T := TX9) (N := 58) hx hb hts xinX9 hown hK hP 0 rfl rfl 2 (by decide) (hts _ wo_529) (fun _ h9 => h9) rfl dX9_findTurns_139 ?_
                            refine lv_iload hx hb dX9_findTurns_142 (lv_at hl 0 rfl) ?_
                            obtain ⟨hi, hwp⟩ := hwp
                            refine va_iald hx hb hK hP 4 0 rfl rfl hi dX9_findTurns_144 ?_
                            refine lv_iload_n hx hb dX9_findTurns_145 rfl (lv_at hl 5 rfl) ?_
                            refine lv_icmp_ne (tgt := 156) hx hb dX9_findTurns_146 (by decide) (fun c146 => ?_) (fun c146 => ?_)
                            · replace hwp := hwp.1 c146
                              refine lv_iconst (v := 2) hx hb dX9_findTurns_156 (by decide) ?_
                              refine lv_iload hx hb dX9_findTurns_157 (lv_at hl 0 rfl) ?_
                              refine lv_imul hx hb dX9_findTurns_159 ?_
                              refine lv_iconst (v := 1) hx hb dX9_findTurns_160 (by decide) ?_
                              refine lv_iadd hx hb dX9_findTurns_161 ?_
                              obtain ⟨hi, hwp⟩ := hwp
                              refine va_iast hx hb hK hP hD hS 6 0 rfl rfl hi dX9_findTurns_162 (fun H locs hP hD hS => ?_)
                              obtain ⟨g162, eg162⟩ : ∃ z, z = upd t40_0 (Int32.toNatClampNeg (((160 : Int32) * t2_2) + t40_1)) (((2 : Int32) * v69) + 1) := ⟨_, rfl⟩
                              replace hwp := hwp g162 eg162
                              replace hP : va_P G vwCl [(h0, .inr (9, [.int i0, .int i1, .ref h4, .ref h5, .ref h3, .ref k0, .ref k1, .int i2, .ref k2, .int i3, .ref k3, .ref k4, .ref k5, .int i4, .ref k6, .ref k7, .int i5, .ref k8, .ref k9, .ref k10, .int i6, .ref k11, .int i7, .ref k12, .ref k13, .int i8, .int i9, .int i10, .ref k14, .int i11, .ref k15, .ref k16, .ref k17, .ref h7, .ref h1, .ref h6, .ref h2, .ref k18, .ref k19, .ref k20, .ref k21, .ref k22, .ref k23, .ref k24, .ref k25, .int i12, .int i13, .int i14, .int i15, .int i16, .ref k26, .ref k27, .ref k28, .ref k29, .ref k30, .ref k31, .int i17, .ref k32])), (h1, aI cI 20 f18), (h2, aI cI 20 t2_0), (h3, aI cZ 80 f20), (h4, aI cI 80 f21), (h5, aI cI 80 f22), (h6, aI cI 3200 g162), (h7, aI cI 400 f24)] H := by rw [eg162]; exact hP
                              replace hD : va_D A [(h0, .inr (9, [.int i0, .int i1, .ref h4, .ref h5, .ref h3, .ref k0, .ref k1, .int i2, .ref k2, .int i3, .ref k3, .ref k4, .ref k5, .int i4, .ref k6, .ref k7, .int i5, .ref k8, .ref k9, .ref k10, .int i6, .ref k11, .int i7, .ref k12, .ref k13, .int i8, .int i9, .int i10, .ref k14, .int i11, .ref k15, .ref k16, .ref k17, .ref h7, .ref h1, .ref h6, .ref h2, .ref k18, .ref k19, .ref k20, .ref k21, .ref k22, .ref k23, .ref k24, .ref k25, .int i12, .int i13, .int i14, .int i15, .int i16, .ref k26, .ref k27, .ref k28, .ref k29, .ref k30, .ref k31, .int i17, .ref k32])), (h1, aI cI 20 f18), (h2, aI cI 20 t2_0), (h3, aI cZ 80 f20), (h4, aI cI 80 f21), (h5, aI cI 80 f22), (h6, aI cI 3200 g162), (h7, aI cI 400 f24)] := by rw [eg162]; exact hD
                              clear eg162
                              refine lv_iinc (v := (t40_1 + 1)) (lv' := [(2, .int (t40_1 + 1)), (6, .int v69), (5, .int t40_2), (4, .int v35), (3, .int t14_2), (1, .int t2_2), (0, .ref h0)]) hx hb dX9_findTurns_163 hl (k := 4) rfl rfl (by decide) rfl (fun ls hl => ?_)
                              refine lv_iinc (v := (t40_2 + 1)) (lv' := [(5, .int (t40_2 + 1)), (2, .int (t40_1 + 1)), (6, .int v69), (4, .int v35), (3, .int t14_2), (1, .int t2_2), (0, .ref h0)]) hx hb dX9_findTurns_166 hl (k := 2) rfl rfl (by decide) rfl (fun ls hl => ?_)
                              refine lv_goto (tgt := 40) hx hb dX9_findTurns_169 (by decide) ?_
                              replace hl : lv_has ls 7 [(5, .int (t40_2 + 1)), (4, .int v35), (3, .int t14_2), (2, .int (t40_1 + 1)), (1, .int t2_2), (0, .ref h0)] := lv_sub hl [0, 3, 4, 1, 5, 6] rfl
                              exact ih4 H locs ls g162 (t40_1 + 1) (t40_2 + 1) hwp hP hD hS hl
                            · replace hwp := hwp.2 c146
                              refine lv_iconst (v := 2) hx hb dX9_findTurns_149 (by decide) ?_
                              refine lv_iload hx hb dX9_findTurns_150 (lv_at hl 0 rfl) ?_
                              refine lv_imul hx hb dX9_findTurns_152 ?_
                              refine lv_goto (tgt := 162) hx hb dX9_findTurns_153 (by decide) ?_
                              obtain ⟨hi, hwp⟩ := hwp
                              refine va_iast hx hb hK hP hD hS 6 0 rfl rfl hi dX9_findTurns_162 (fun H locs hP hD hS => ?_)
                              obtain ⟨g162, eg162⟩ : ∃ z, z = upd t40_0 (Int32.toNatClampNeg (((160 : Int32) * t2_2) + t40_1)) ((2 : Int32) * v69) := ⟨_, rfl⟩
                              replace hwp := hwp g162 eg162
                              replace hP : va_P G vwCl [(h0, .inr (9, [.int i0, .int i1, .ref h4, .ref h5, .ref h3, .ref k0, .ref k1, .int i2, .ref k2, .int i3, .ref k3, .ref k4, .ref k5, .int i4, .ref k6, .ref k7, .int i5, .ref k8, .ref k9, .ref k10, .int i6, .ref k11, .int i7, .ref k12, .ref k13, .int i8, .int i9, .int i10, .ref k14, .int i11, .ref k15, .ref k16, .ref k17, .ref h7, .ref h1, .ref h6, .ref h2, .ref k18, .ref k19, .ref k20, .ref k21, .ref k22, .ref k23, .ref k24, .ref k25, .int i12, .int i13, .int i14, .int i15, .int i16, .ref k26, .ref k27, .ref k28, .ref k29, .ref k30, .ref k31, .int i17, .ref k32])), (h1, aI cI 20 f18), (h2, aI cI 20 t2_0), (h3, aI cZ 80 f20), (h4, aI cI 80 f21), (h5, aI cI 80 f22), (h6, aI cI 3200 g162), (h7, aI cI 400 f24)] H := by rw [eg162]; exact hP
                              replace hD : va_D A [(h0, .inr (9, [.int i0, .int i1, .ref h4, .ref h5, .ref h3, .ref k0, .ref k1, .int i2, .ref k2, .int i3, .ref k3, .ref k4, .ref k5, .int i4, .ref k6, .ref k7, .int i5, .ref k8, .ref k9, .ref k10, .int i6, .ref k11, .int i7, .ref k12, .ref k13, .int i8, .int i9, .int i10, .ref k14, .int i11, .ref k15, .ref k16, .ref k17, .ref h7, .ref h1, .ref h6, .ref h2, .ref k18, .ref k19, .ref k20, .ref k21, .ref k22, .ref k23, .ref k24, .ref k25, .int i12, .int i13, .int i14, .int i15, .int i16, .ref k26, .ref k27, .ref k28, .ref k29, .ref k30, .ref k31, .int i17, .ref k32])), (h1, aI cI 20 f18), (h2, aI cI 20 t2_0), (h3, aI cZ 80 f20), (h4, aI cI 80 f21), (h5, aI cI 80 f22), (h6, aI cI 3200 g162), (h7, aI cI 400 f24)] := by rw [eg162]; exact hD
                              clear eg162
                              refine lv_iinc (v := (t40_1 + 1)) (lv' := [(2, .int (t40_1 + 1)), (6, .int v69), (5, .int t40_2), (4, .int v35), (3, .int t14_2), (1, .int t2_2), (0, .ref h0)]) hx hb dX9_findTurns_163 hl (k := 4) rfl rfl (by decide) rfl (fun ls hl => ?_)
                              refine lv_iinc (v := (t40_2 + 1)) (lv' := [(5, .int (t40_2 + 1)), (2, .int (t40_1 + 1)), (6, .int v69), (4, .int v35), (3, .int t14_2), (1, .int t2_2), (0, .ref h0)]) hx hb dX9_findTurns_166 hl (k := 2) rfl rfl (by decide) rfl (fun ls hl => ?_)
                              refine lv_goto (tgt := 40) hx hb dX9_findTurns_169 (by decide) ?_
                              replace hl : lv_has ls 7 [(5, .int (t40_2 + 1)), (4, .int v35), (3, .int t14_2), (2, .int (t40_1 + 1)), (1, .int t2_2), (0, .ref h0)] := lv_sub hl [0, 3, 4, 1, 5, 6] rfl
                              exact ih4 H locs ls g162 (t40_1 + 1) (t40_2 + 1) hwp hP hD hS hl
                          · replace hwp := hwp.2 c101
                            refine lv_aload_n hx hb dX9_findTurns_104 rfl (lv_at hl 6 rfl) ?_
                            refine va_get (D := G) (ci := 9) (v := .ref h4) (C := RX9) (T := TX9) (N := 58) hx hb hts xinX9 hown hK hP 0 rfl rfl 2 (by decide) (hts _ wo_529) (fun _ h9 => h9) rfl dX9_findTurns_105 ?_
                            refine lv_iload hx hb dX9_findTurns_108 (lv_at hl 0 rfl) ?_
                            obtain ⟨hi, hwp⟩ := hwp
                            refine va_iald hx hb hK hP 4 0 rfl rfl hi dX9_findTurns_110 ?_
                            refine lv_iload hx hb dX9_findTurns_111 (lv_at hl 2 rfl) ?_
                            refine lv_icmp_ne (tgt := 166) hx hb dX9_findTurns_113 (by decide) (fun c113 => ?_) (fun c113 => ?_)
                            · replace hwp := hwp.1 c113
                              refine lv_iinc (v := (t40_2 + 1)) (lv' := [(5, .int (t40_2 + 1)), (6, .int v69), (4, .int v35), (3, .int t14_2), (2, .int t40_1), (1, .int t2_2), (0, .ref h0)]) hx hb dX9_findTurns_166 hl (k := 1) rfl rfl (by decide) rfl (fun ls hl => ?_)
                              refine lv_goto (tgt := 40) hx hb dX9_findTurns_169 (by decide) ?_
                              replace hl : lv_has ls 7 [(5, .int (t40_2 + 1)), (4, .int v35), (3, .int t14_2), (2, .int t40_1), (1, .int t2_2), (0, .ref h0)] := lv_sub hl [0, 2, 3, 4, 5, 6] rfl
                              exact ih4 H locs ls t40_0 t40_1 (t40_2 + 1) hwp hP hD hS hl
                            · replace hwp := hwp.2 c113
                              refine lv_aload_n hx hb dX9_findTurns_116 rfl (lv_at hl 6 rfl) ?_
                              refine va_get (D := G) (ci := 9) (v := .ref h5) (C := RX9) (T := TX9) (N := 58) hx hb hts xinX9 hown hK hP 0 rfl rfl 3 (by decide) (hts _ wo_530) (fun _ h9 => h9) rfl dX9_findTurns_117 ?_
                              refine lv_iload hx hb dX9_findTurns_120 (lv_at hl 0 rfl) ?_
                              obtain ⟨hi, hwp⟩ := hwp
                              refine va_iald hx hb hK hP 5 0 rfl rfl hi dX9_findTurns_122 ?_
                              refine lv_iload_n hx hb dX9_findTurns_123 rfl (lv_at hl 5 rfl) ?_
                              refine lv_icmp_ne (tgt := 166) hx hb dX9_findTurns_124 (by decide) (fun c124 => ?_) (fun c124 => ?_)
                              · replace hwp := hwp.1 c124
                                refine lv_iinc (v := (t40_2 + 1)) (lv' := [(5, .int (t40_2 + 1)), (6, .int v69), (4, .int v35), (3, .int t14_2), (2, .int t40_1), (1, .int t2_2), (0, .ref h0)]) hx hb dX9_findTurns_166 hl (k := 1) rfl rfl (by decide) rfl (fun ls hl => ?_)
                                refine lv_goto (tgt := 40) hx hb dX9_findTurns_169 (by decide) ?_
                                replace hl : lv_has ls 7 [(5, .int (t40_2 + 1)), (4, .int v35), (3, .int t14_2), (2, .int t40_1), (1, .int t2_2), (0, .ref h0)] := lv_sub hl [0, 2, 3, 4, 5, 6] rfl
                                exact ih4 H locs ls t40_0 t40_1 (t40_2 + 1) hwp hP hD hS hl
                              · replace hwp := hwp.2 c124
                                refine lv_aload_n hx hb dX9_findTurns_127 rfl (lv_at hl 6 rfl) ?_
                                refine va_get (D := G) (ci := 9) (v := .ref h6) (C := RX9) (T := TX9) (N := 58) hx hb hts xinX9 hown hK hP 0 rfl rfl 35 (by decide) (hts _ wo_558) (fun _ h9 => h9) rfl dX9_findTurns_128 ?_
                                refine lv_sipush (v := 160) hx hb dX9_findTurns_131 (by decide) ?_
                                refine lv_iload_n hx hb dX9_findTurns_134 rfl (lv_at hl 5 rfl) ?_
                                refine lv_imul hx hb dX9_findTurns_135 ?_
                                refine lv_iload_n hx hb dX9_findTurns_136 rfl (lv_at hl 4 rfl) ?_
                                refine lv_iadd hx hb dX9_findTurns_137 ?_
                                refine lv_aload_n hx hb dX9_findTurns_138 rfl (lv_at hl 6 rfl) ?_
                                refine va_get (D := G) (ci := 9) (v := .ref h4) (C := RX9) (T := TX9) (N := 58) hx hb hts xinX9 hown hK hP 0 rfl rfl 2 (by decide) (hts _ wo_529) (fun _ h9 => h9) rfl dX9_findTurns_139 ?_
                                refine lv_iload hx hb dX9_findTurns_142 (lv_at hl 0 rfl) ?_
                                obtain ⟨hi, hwp⟩ := hwp
                                refine va_iald hx hb hK hP 4 0 rfl rfl hi dX9_findTurns_144 ?_
                                refine lv_iload_n hx hb dX9_findTurns_145 rfl (lv_at hl 5 rfl) ?_
                                refine lv_icmp_ne (tgt := 156) hx hb dX9_findTurns_146 (by decide) (fun c146 => ?_) (fun c146 => ?_)
                                · replace hwp := hwp.1 c146
                                  refine lv_iconst (v := 2) hx hb dX9_findTurns_156 (by decide) ?_
                                  refine lv_iload hx hb dX9_findTurns_157 (lv_at hl 0 rfl) ?_
                                  refine lv_imul hx hb dX9_findTurns_159 ?_
                                  refine lv_iconst (v := 1) hx hb dX9_findTurns_160 (by decide) ?_
                                  refine lv_iadd hx hb dX9_findTurns_161 ?_
                                  obtain ⟨hi, hwp⟩ := hwp
                                  refine va_iast hx hb hK hP hD hS 6 0 rfl rfl hi dX9_findTurns_162 (fun H locs hP hD hS => ?_)
                                  obtain ⟨g162, eg162⟩ : ∃ z, z = upd t40_0 (Int32.toNatClampNeg (((160 : Int32) * t2_2) + t40_1)) (((2 : Int32) * v69) + 1) := ⟨_, rfl⟩
                                  replace hwp := hwp g162 eg162
                                  replace hP : va_P G vwCl [(h0, .inr (9, [.int i0, .int i1, .ref h4, .ref h5, .ref h3, .ref k0, .ref k1, .int i2, .ref k2, .int i3, .ref k3, .ref k4, .ref k5, .int i4, .ref k6, .ref k7, .int i5, .ref k8, .ref k9, .ref k10, .int i6, .ref k11, .int i7, .ref k12, .ref k13, .int i8, .int i9, .int i10, .ref k14, .int i11, .ref k15, .ref k16, .ref k17, .ref h7, .ref h1, .ref h6, .ref h2, .ref k18, .ref k19, .ref k20, .ref k21, .ref k22, .ref k23, .ref k24, .ref k25, .int i12, .int i13, .int i14, .int i15, .int i16, .ref k26, .ref k27, .ref k28, .ref k29, .ref k30, .ref k31, .int i17, .ref k32])), (h1, aI cI 20 f18), (h2, aI cI 20 t2_0), (h3, aI cZ 80 f20), (h4, aI cI 80 f21), (h5, aI cI 80 f22), (h6, aI cI 3200 g162), (h7, aI cI 400 f24)] H := by rw [eg162]; exact hP
                                  replace hD : va_D A [(h0, .inr (9, [.int i0, .int i1, .ref h4, .ref h5, .ref h3, .ref k0, .ref k1, .int i2, .ref k2, .int i3, .ref k3, .ref k4, .ref k5, .int i4, .ref k6, .ref k7, .int i5, .ref k8, .ref k9, .ref k10, .int i6, .ref k11, .int i7, .ref k12, .ref k13, .int i8, .int i9, .int i10, .ref k14, .int i11, .ref k15, .ref k16, .ref k17, .ref h7, .ref h1, .ref h6, .ref h2, .ref k18, .ref k19, .ref k20, .ref k21, .ref k22, .ref k23, .ref k24, .ref k25, .int i12, .int i13, .int i14, .int i15, .int i16, .ref k26, .ref k27, .ref k28, .ref k29, .ref k30, .ref k31, .int i17, .ref k32])), (h1, aI cI 20 f18), (h2, aI cI 20 t2_0), (h3, aI cZ 80 f20), (h4, aI cI 80 f21), (h5, aI cI 80 f22), (h6, aI cI 3200 g162), (h7, aI cI 400 f24)] := by rw [eg162]; exact hD
                                  clear eg162
                                  refine lv_iinc (v := (t40_1 + 1)) (lv' := [(2, .int (t40_1 + 1)), (6, .int v69), (5, .int t40_2), (4, .int v35), (3, .int t14_2), (1, .int t2_2), (0, .ref h0)]) hx hb dX9_findTurns_163 hl (k := 4) rfl rfl (by decide) rfl (fun ls hl => ?_)
                                  refine lv_iinc (v := (t40_2 + 1)) (lv' := [(5, .int (t40_2 + 1)), (2, .int (t40_1 + 1)), (6, .int v69), (4, .int v35), (3, .int t14_2), (1, .int t2_2), (0, .ref h0)]) hx hb dX9_findTurns_166 hl (k := 2) rfl rfl (by decide) rfl (fun ls hl => ?_)
                                  refine lv_goto (tgt := 40) hx hb dX9_findTurns_169 (by decide) ?_
                                  replace hl : lv_has ls 7 [(5, .int (t40_2 + 1)), (4, .int v35), (3, .int t14_2), (2, .int (t40_1 + 1)), (1, .int t2_2), (0, .ref h0)] := lv_sub hl [0, 3, 4, 1, 5, 6] rfl
                                  exact ih4 H locs ls g162 (t40_1 + 1) (t40_2 + 1) hwp hP hD hS hl
                                · replace hwp := hwp.2 c146
                                  refine lv_iconst (v := 2) hx hb dX9_findTurns_149 (by decide) ?_
                                  refine lv_iload hx hb dX9_findTurns_150 (lv_at hl 0 rfl) ?_
                                  refine lv_imul hx hb dX9_findTurns_152 ?_
                                  refine lv_goto (tgt := 162) hx hb dX9_findTurns_153 (by decide) ?_
                                  obtain ⟨hi, hwp⟩ := hwp
                                  refine va_iast hx hb hK hP hD hS 6 0 rfl rfl hi dX9_findTurns_162 (fun H locs hP hD hS => ?_)
                                  obtain ⟨g162, eg162⟩ : ∃ z, z = upd t40_0 (Int32.toNatClampNeg (((160 : Int32) * t2_2) + t40_1)) ((2 : Int32) * v69) := ⟨_, rfl⟩
                                  replace hwp := hwp g162 eg162
                                  replace hP : va_P G vwCl [(h0, .inr (9, [.int i0, .int i1, .ref h4, .ref h5, .ref h3, .ref k0, .ref k1, .int i2, .ref k2, .int i3, .ref k3, .ref k4, .ref k5, .int i4, .ref k6, .ref k7, .int i5, .ref k8, .ref k9, .ref k10, .int i6, .ref k11, .int i7, .ref k12, .ref k13, .int i8, .int i9, .int i10, .ref k14, .int i11, .ref k15, .ref k16, .ref k17, .ref h7, .ref h1, .ref h6, .ref h2, .ref k18, .ref k19, .ref k20, .ref k21, .ref k22, .ref k23, .ref k24, .ref k25, .int i12, .int i13, .int i14, .int i15, .int i16, .ref k26, .ref k27, .ref k28, .ref k29, .ref k30, .ref k31, .int i17, .ref k32])), (h1, aI cI 20 f18), (h2, aI cI 20 t2_0), (h3, aI cZ 80 f20), (h4, aI cI 80 f21), (h5, aI cI 80 f22), (h6, aI cI 3200 g162), (h7, aI cI 400 f24)] H := by rw [eg162]; exact hP
                                  replace hD : va_D A [(h0, .inr (9, [.int i0, .int i1, .ref h4, .ref h5, .ref h3, .ref k0, .ref k1, .int i2, .ref k2, .int i3, .ref k3, .ref k4, .ref k5, .int i4, .ref k6, .ref k7, .int i5, .ref k8, .ref k9, .ref k10, .int i6, .ref k11, .int i7, .ref k12, .ref k13, .int i8, .int i9, .int i10, .ref k14, .int i11, .ref k15, .ref k16, .ref k17, .ref h7, .ref h1, .ref h6, .ref h2, .ref k18, .ref k19, .ref k20, .ref k21, .ref k22, .ref k23, .ref k24, .ref k25, .int i12, .int i13, .int i14, .int i15, .int i16, .ref k26, .ref k27, .ref k28, .ref k29, .ref k30, .ref k31, .int i17, .ref k32])), (h1, aI cI 20 f18), (h2, aI cI 20 t2_0), (h3, aI cZ 80 f20), (h4, aI cI 80 f21), (h5, aI cI 80 f22), (h6, aI cI 3200 g162), (h7, aI cI 400 f24)] := by rw [eg162]; exact hD
                                  clear eg162
                                  refine lv_iinc (v := (t40_1 + 1)) (lv' := [(2, .int (t40_1 + 1)), (6, .int v69), (5, .int t40_2), (4, .int v35), (3, .int t14_2), (1, .int t2_2), (0, .ref h0)]) hx hb dX9_findTurns_163 hl (k := 4) rfl rfl (by decide) rfl (fun ls hl => ?_)
                                  refine lv_iinc (v := (t40_2 + 1)) (lv' := [(5, .int (t40_2 + 1)), (2, .int (t40_1 + 1)), (6, .int v69), (4, .int v35), (3, .int t14_2), (1, .int t2_2), (0, .ref h0)]) hx hb dX9_findTurns_166 hl (k := 2) rfl rfl (by decide) rfl (fun ls hl => ?_)
                                  refine lv_goto (tgt := 40) hx hb dX9_findTurns_169 (by decide) ?_
                                  replace hl : lv_has ls 7 [(5, .int (t40_2 + 1)), (4, .int v35), (3, .int t14_2), (2, .int (t40_1 + 1)), (1, .int t2_2), (0, .ref h0)] := lv_sub hl [0, 3, 4, 1, 5, 6] rfl
                                  exact ih4 H locs ls g162 (t40_1 + 1) (t40_2 + 1) hwp hP hD hS hl
                    · replace hwp := hwp.2 c52
                      refine lv_iload hx hb dX9_findTurns_55 (lv_at hl 0 rfl) ?_
                      refine lv_goto (tgt := 69) hx hb dX9_findTurns_57 (by decide) ?_
                      refine lv_istore (lv' := [(6, .int t40_2), (5, .int t40_2), (4, .int v35), (3, .int t14_2), (2, .int t40_1), (1, .int t2_2), (0, .ref h0)]) hx hb dX9_findTurns_69 hl (by decide) rfl (fun ls hl => ?_)
                      refine lv_aload_n hx hb dX9_findTurns_71 rfl (lv_at hl 6 rfl) ?_
                      refine va_get (D := G) (ci := 9) (v := .ref h3) (C := RX9) (T := TX9) (N := 58) hx hb hts xinX9 hown hK hP 0 rfl rfl 4 (by decide) (hts _ wo_528) (fun _ h9 => h9) rfl dX9_findTurns_72 ?_
                      refine lv_iload hx hb dX9_findTurns_75 (lv_at hl 0 rfl) ?_
                      obtain ⟨hi, hwp⟩ := hwp
                      refine va_zald hx hb hK hP 3 2 rfl rfl hi dX9_findTurns_77 ?_
                      refine lv_if_eq (tgt := 166) hx hb dX9_findTurns_78 (by decide) (fun c78 => ?_) (fun c78 => ?_)
                      · replace hwp := hwp.1 c78
                        refine lv_iinc (v := (t40_2 + 1)) (lv' := [(5, .int (t40_2 + 1)), (6, .int t40_2), (4, .int v35), (3, .int t14_2), (2, .int t40_1), (1, .int t2_2), (0, .ref h0)]) hx hb dX9_findTurns_166 hl (k := 1) rfl rfl (by decide) rfl (fun ls hl => ?_)
                        refine lv_goto (tgt := 40) hx hb dX9_findTurns_169 (by decide) ?_
                        replace hl : lv_has ls 7 [(5, .int (t40_2 + 1)), (4, .int v35), (3, .int t14_2), (2, .int t40_1), (1, .int t2_2), (0, .ref h0)] := lv_sub hl [0, 2, 3, 4, 5, 6] rfl
                        exact ih4 H locs ls t40_0 t40_1 (t40_2 + 1) hwp hP hD hS hl
                      · replace hwp := hwp.2 c78
                        refine lv_aload_n hx hb dX9_findTurns_81 rfl (lv_at hl 6 rfl) ?_
                        refine va_get (D := G) (ci := 9) (v := .ref h4) (C := RX9) (T := TX9) (N := 58) hx hb hts xinX9 hown hK hP 0 rfl rfl 2 (by decide) (hts _ wo_529) (fun _ h9 => h9) rfl dX9_findTurns_82 ?_
                        refine lv_iload hx hb dX9_findTurns_85 (lv_at hl 0 rfl) ?_
                        obtain ⟨hi, hwp⟩ := hwp
                        refine va_iald hx hb hK hP 4 0 rfl rfl hi dX9_findTurns_87 ?_
                        refine lv_iload_n hx hb dX9_findTurns_88 rfl (lv_at hl 5 rfl) ?_
                        refine lv_icmp_ne (tgt := 104) hx hb dX9_findTurns_89 (by decide) (fun c89 => ?_) (fun c89 => ?_)
                        · replace hwp := hwp.1 c89
                          refine lv_aload_n hx hb dX9_findTurns_104 rfl (lv_at hl 6 rfl) ?_
                          refine va_get (D := G) (ci := 9) (v := .ref h4) (C := RX9) (T := TX9) (N := 58) hx hb hts xinX9 hown hK hP 0 rfl rfl 2 (by decide) (hts _ wo_529) (fun _ h9 => h9) rfl dX9_findTurns_105 ?_
                          refine lv_iload hx hb dX9_findTurns_108 (lv_at hl 0 rfl) ?_
                          obtain ⟨hi, hwp⟩ := hwp
                          refine va_iald hx hb hK hP 4 0 rfl rfl hi dX9_findTurns_110 ?_
                          refine lv_iload hx hb dX9_findTurns_111 (lv_at hl 2 rfl) ?_
                          refine lv_icmp_ne (tgt := 166) hx hb dX9_findTurns_113 (by decide) (fun c113 => ?_) (fun c113 => ?_)
                          · replace hwp := hwp.1 c113
                            refine lv_iinc (v := (t40_2 + 1)) (lv' := [(5, .int (t40_2 + 1)), (6, .int t40_2), (4, .int v35), (3, .int t14_2), (2, .int t40_1), (1, .int t2_2), (0, .ref h0)]) hx hb dX9_findTurns_166 hl (k := 1) rfl rfl (by decide) rfl (fun ls hl => ?_)
                            refine lv_goto (tgt := 40) hx hb dX9_findTurns_169 (by decide) ?_
                            replace hl : lv_has ls 7 [(5, .int (t40_2 + 1)), (4, .int v35), (3, .int t14_2), (2, .int t40_1), (1, .int t2_2), (0, .ref h0)] := lv_sub hl [0, 2, 3, 4, 5, 6] rfl
                            exact ih4 H locs ls t40_0 t40_1 (t40_2 + 1) hwp hP hD hS hl
                          · replace hwp := hwp.2 c113
                            refine lv_aload_n hx hb dX9_findTurns_116 rfl (lv_at hl 6 rfl) ?_
                            refine va_get (D := G) (ci := 9) (v := .ref h5) (C := RX9) (T := TX9) (N := 58) hx hb hts xinX9 hown hK hP 0 rfl rfl 3 (by decide) (hts _ wo_530) (fun _ h9 => h9) rfl dX9_findTurns_117 ?_
                            refine lv_iload hx hb dX9_findTurns_120 (lv_at hl 0 rfl) ?_
                            obtain ⟨hi, hwp⟩ := hwp
                            refine va_iald hx hb hK hP 5 0 rfl rfl hi dX9_findTurns_122 ?_
                            refine lv_iload_n hx hb dX9_findTurns_123 rfl (lv_at hl 5 rfl) ?_
                            refine lv_icmp_ne (tgt := 166) hx hb dX9_findTurns_124 (by decide) (fun c124 => ?_) (fun c124 => ?_)
                            · replace hwp := hwp.1 c124
                              refine lv_iinc (v := (t40_2 + 1)) (lv' := [(5, .int (t40_2 + 1)), (6, .int t40_2), (4, .int v35), (3, .int t14_2), (2, .int t40_1), (1, .int t2_2), (0, .ref h0)]) hx hb dX9_findTurns_166 hl (k := 1) rfl rfl (by decide) rfl (fun ls hl => ?_)
                              refine lv_goto (tgt := 40) hx hb dX9_findTurns_169 (by decide) ?_
                              replace hl : lv_has ls 7 [(5, .int (t40_2 + 1)), (4, .int v35), (3, .int t14_2), (2, .int t40_1), (1, .int t2_2), (0, .ref h0)] := lv_sub hl [0, 2, 3, 4, 5, 6] rfl
                              exact ih4 H locs ls t40_0 t40_1 (t40_2 + 1) hwp hP hD hS hl
                            · replace hwp := hwp.2 c124
                              refine lv_aload_n hx hb dX9_findTurns_127 rfl (lv_at hl 6 rfl) ?_
                              refine va_get (D := G) (ci := 9) (v := .ref h6) (C := RX9) (T := TX9) (N := 58) hx hb hts xinX9 hown hK hP 0 rfl rfl 35 (by decide) (hts _ wo_558) (fun _ h9 => h9) rfl dX9_findTurns_128 ?_
                              refine lv_sipush (v := 160) hx hb dX9_findTurns_131 (by decide) ?_
                              refine lv_iload_n hx hb dX9_findTurns_134 rfl (lv_at hl 5 rfl) ?_
                              refine lv_imul hx hb dX9_findTurns_135 ?_
                              refine lv_iload_n hx hb dX9_findTurns_136 rfl (lv_at hl 4 rfl) ?_
                              refine lv_iadd hx hb dX9_findTurns_137 ?_
                              refine lv_aload_n hx hb dX9_findTurns_138 rfl (lv_at hl 6 rfl) ?_
                              refine va_get (D := G) (ci := 9) (v := .ref h4) (C := RX9) (T := TX9) (N := 58) hx hb hts xinX9 hown hK hP 0 rfl rfl 2 (by decide) (hts _ wo_529) (fun _ h9 => h9) rfl dX9_findTurns_139 ?_
                              refine lv_iload hx hb dX9_findTurns_142 (lv_at hl 0 rfl) ?_
                              obtain ⟨hi, hwp⟩ := hwp
                              refine va_iald hx hb hK hP 4 0 rfl rfl hi dX9_findTurns_144 ?_
                              refine lv_iload_n hx hb dX9_findTurns_145 rfl (lv_at hl 5 rfl) ?_
                              refine lv_icmp_ne (tgt := 156) hx hb dX9_findTurns_146 (by decide) (fun c146 => ?_) (fun c146 => ?_)
                              · replace hwp := hwp.1 c146
                                refine lv_iconst (v := 2) hx hb dX9_findTurns_156 (by decide) ?_
                                refine lv_iload hx hb dX9_findTurns_157 (lv_at hl 0 rfl) ?_
                                refine lv_imul hx hb dX9_findTurns_159 ?_
                                refine lv_iconst (v := 1) hx hb dX9_findTurns_160 (by decide) ?_
                                refine lv_iadd hx hb dX9_findTurns_161 ?_
                                obtain ⟨hi, hwp⟩ := hwp
                                refine va_iast hx hb hK hP hD hS 6 0 rfl rfl hi dX9_findTurns_162 (fun H locs hP hD hS => ?_)
                                obtain ⟨g162, eg162⟩ : ∃ z, z = upd t40_0 (Int32.toNatClampNeg (((160 : Int32) * t2_2) + t40_1)) (((2 : Int32) * t40_2) + 1) := ⟨_, rfl⟩
                                replace hwp := hwp g162 eg162
                                replace hP : va_P G vwCl [(h0, .inr (9, [.int i0, .int i1, .ref h4, .ref h5, .ref h3, .ref k0, .ref k1, .int i2, .ref k2, .int i3, .ref k3, .ref k4, .ref k5, .int i4, .ref k6, .ref k7, .int i5, .ref k8, .ref k9, .ref k10, .int i6, .ref k11, .int i7, .ref k12, .ref k13, .int i8, .int i9, .int i10, .ref k14, .int i11, .ref k15, .ref k16, .ref k17, .ref h7, .ref h1, .ref h6, .ref h2, .ref k18, .ref k19, .ref k20, .ref k21, .ref k22, .ref k23, .ref k24, .ref k25, .int i12, .int i13, .int i14, .int i15, .int i16, .ref k26, .ref k27, .ref k28, .ref k29, .ref k30, .ref k31, .int i17, .ref k32])), (h1, aI cI 20 f18), (h2, aI cI 20 t2_0), (h3, aI cZ 80 f20), (h4, aI cI 80 f21), (h5, aI cI 80 f22), (h6, aI cI 3200 g162), (h7, aI cI 400 f24)] H := by rw [eg162]; exact hP
                                replace hD : va_D A [(h0, .inr (9, [.int i0, .int i1, .ref h4, .ref h5, .ref h3, .ref k0, .ref k1, .int i2, .ref k2, .int i3, .ref k3, .ref k4, .ref k5, .int i4, .ref k6, .ref k7, .int i5, .ref k8, .ref k9, .ref k10, .int i6, .ref k11, .int i7, .ref k12, .ref k13, .int i8, .int i9, .int i10, .ref k14, .int i11, .ref k15, .ref k16, .ref k17, .ref h7, .ref h1, .ref h6, .ref h2, .ref k18, .ref k19, .ref k20, .ref k21, .ref k22, .ref k23, .ref k24, .ref k25, .int i12, .int i13, .int i14, .int i15, .int i16, .ref k26, .ref k27, .ref k28, .ref k29, .ref k30, .ref k31, .int i17, .ref k32])), (h1, aI cI 20 f18), (h2, aI cI 20 t2_0), (h3, aI cZ 80 f20), (h4, aI cI 80 f21), (h5, aI cI 80 f22), (h6, aI cI 3200 g162), (h7, aI cI 400 f24)] := by rw [eg162]; exact hD
                                clear eg162
                                refine lv_iinc (v := (t40_1 + 1)) (lv' := [(2, .int (t40_1 + 1)), (6, .int t40_2), (5, .int t40_2), (4, .int v35), (3, .int t14_2), (1, .int t2_2), (0, .ref h0)]) hx hb dX9_findTurns_163 hl (k := 4) rfl rfl (by decide) rfl (fun ls hl => ?_)
                                refine lv_iinc (v := (t40_2 + 1)) (lv' := [(5, .int (t40_2 + 1)), (2, .int (t40_1 + 1)), (6, .int t40_2), (4, .int v35), (3, .int t14_2), (1, .int t2_2), (0, .ref h0)]) hx hb dX9_findTurns_166 hl (k := 2) rfl rfl (by decide) rfl (fun ls hl => ?_)
                                refine lv_goto (tgt := 40) hx hb dX9_findTurns_169 (by decide) ?_
                                replace hl : lv_has ls 7 [(5, .int (t40_2 + 1)), (4, .int v35), (3, .int t14_2), (2, .int (t40_1 + 1)), (1, .int t2_2), (0, .ref h0)] := lv_sub hl [0, 3, 4, 1, 5, 6] rfl
                                exact ih4 H locs ls g162 (t40_1 + 1) (t40_2 + 1) hwp hP hD hS hl
                              · replace hwp := hwp.2 c146
                                refine lv_iconst (v := 2) hx hb dX9_findTurns_149 (by decide) ?_
                                refine lv_iload hx hb dX9_findTurns_150 (lv_at hl 0 rfl) ?_
                                refine lv_imul hx hb dX9_findTurns_152 ?_
                                refine lv_goto (tgt := 162) hx hb dX9_findTurns_153 (by decide) ?_
                                obtain ⟨hi, hwp⟩ := hwp
                                refine va_iast hx hb hK hP hD hS 6 0 rfl rfl hi dX9_findTurns_162 (fun H locs hP hD hS => ?_)
                                obtain ⟨g162, eg162⟩ : ∃ z, z = upd t40_0 (Int32.toNatClampNeg (((160 : Int32) * t2_2) + t40_1)) ((2 : Int32) * t40_2) := ⟨_, rfl⟩
                                replace hwp := hwp g162 eg162
                                replace hP : va_P G vwCl [(h0, .inr (9, [.int i0, .int i1, .ref h4, .ref h5, .ref h3, .ref k0, .ref k1, .int i2, .ref k2, .int i3, .ref k3, .ref k4, .ref k5, .int i4, .ref k6, .ref k7, .int i5, .ref k8, .ref k9, .ref k10, .int i6, .ref k11, .int i7, .ref k12, .ref k13, .int i8, .int i9, .int i10, .ref k14, .int i11, .ref k15, .ref k16, .ref k17, .ref h7, .ref h1, .ref h6, .ref h2, .ref k18, .ref k19, .ref k20, .ref k21, .ref k22, .ref k23, .ref k24, .ref k25, .int i12, .int i13, .int i14, .int i15, .int i16, .ref k26, .ref k27, .ref k28, .ref k29, .ref k30, .ref k31, .int i17, .ref k32])), (h1, aI cI 20 f18), (h2, aI cI 20 t2_0), (h3, aI cZ 80 f20), (h4, aI cI 80 f21), (h5, aI cI 80 f22), (h6, aI cI 3200 g162), (h7, aI cI 400 f24)] H := by rw [eg162]; exact hP
                                replace hD : va_D A [(h0, .inr (9, [.int i0, .int i1, .ref h4, .ref h5, .ref h3, .ref k0, .ref k1, .int i2, .ref k2, .int i3, .ref k3, .ref k4, .ref k5, .int i4, .ref k6, .ref k7, .int i5, .ref k8, .ref k9, .ref k10, .int i6, .ref k11, .int i7, .ref k12, .ref k13, .int i8, .int i9, .int i10, .ref k14, .int i11, .ref k15, .ref k16, .ref k17, .ref h7, .ref h1, .ref h6, .ref h2, .ref k18, .ref k19, .ref k20, .ref k21, .ref k22, .ref k23, .ref k24, .ref k25, .int i12, .int i13, .int i14, .int i15, .int i16, .ref k26, .ref k27, .ref k28, .ref k29, .ref k30, .ref k31, .int i17, .ref k32])), (h1, aI cI 20 f18), (h2, aI cI 20 t2_0), (h3, aI cZ 80 f20), (h4, aI cI 80 f21), (h5, aI cI 80 f22), (h6, aI cI 3200 g162), (h7, aI cI 400 f24)] := by rw [eg162]; exact hD
                                clear eg162
                                refine lv_iinc (v := (t40_1 + 1)) (lv' := [(2, .int (t40_1 + 1)), (6, .int t40_2), (5, .int t40_2), (4, .int v35), (3, .int t14_2), (1, .int t2_2), (0, .ref h0)]) hx hb dX9_findTurns_163 hl (k := 4) rfl rfl (by decide) rfl (fun ls hl => ?_)
                                refine lv_iinc (v := (t40_2 + 1)) (lv' := [(5, .int (t40_2 + 1)), (2, .int (t40_1 + 1)), (6, .int t40_2), (4, .int v35), (3, .int t14_2), (1, .int t2_2), (0, .ref h0)]) hx hb dX9_findTurns_166 hl (k := 2) rfl rfl (by decide) rfl (fun ls hl => ?_)
                                refine lv_goto (tgt := 40) hx hb dX9_findTurns_169 (by decide) ?_
                                replace hl : lv_has ls 7 [(5, .int (t40_2 + 1)), (4, .int v35), (3, .int t14_2), (2, .int (t40_1 + 1)), (1, .int t2_2), (0, .ref h0)] := lv_sub hl [0, 3, 4, 1, 5, 6] rfl
                                exact ih4 H locs ls g162 (t40_1 + 1) (t40_2 + 1) hwp hP hD hS hl
                        · replace hwp := hwp.2 c89
                          refine lv_aload_n hx hb dX9_findTurns_92 rfl (lv_at hl 6 rfl) ?_
                          refine va_get (D := G) (ci := 9) (v := .ref h5) (C := RX9) (T := TX9) (N := 58) hx hb hts xinX9 hown hK hP 0 rfl rfl 3 (by decide) (hts _ wo_530) (fun _ h9 => h9) rfl dX9_findTurns_93 ?_
                          refine lv_iload hx hb dX9_findTurns_96 (lv_at hl 0 rfl) ?_
                          obtain ⟨hi, hwp⟩ := hwp
                          refine va_iald hx hb hK hP 5 0 rfl rfl hi dX9_findTurns_98 ?_
                          refine lv_iload hx hb dX9_findTurns_99 (lv_at hl 2 rfl) ?_
                          refine lv_icmp_eq (tgt := 127) hx hb dX9_findTurns_101 (by decide) (fun c101 => ?_) (fun c101 => ?_)
                          · replace hwp := hwp.1 c101
                            refine lv_aload_n hx hb dX9_findTurns_127 rfl (lv_at hl 6 rfl) ?_
                            refine va_get (D := G) (ci := 9) (v := .ref h6) (C := RX9) (T := TX9) (N := 58) hx hb hts xinX9 hown hK hP 0 rfl rfl 35 (by decide) (hts _ wo_558) (fun _ h9 => h9) rfl dX9_findTurns_128 ?_
                            refine lv_sipush (v := 160) hx hb dX9_findTurns_131 (by decide) ?_
                            refine lv_iload_n hx hb dX9_findTurns_134 rfl (lv_at hl 5 rfl) ?_
                            refine lv_imul hx hb dX9_findTurns_135 ?_
                            refine lv_iload_n hx hb dX9_findTurns_136 rfl (lv_at hl 4 rfl) ?_
                            refine lv_iadd hx hb dX9_findTurns_137 ?_
                            refine lv_aload_n hx hb dX9_findTurns_138 rfl (lv_at hl 6 rfl) ?_
                            refine va_get (D := G) (ci := 9) (v := .ref h4) (C := RX9) (T := TX9) (N := 58) hx hb hts xinX9 hown hK hP 0 rfl rfl 2 (by decide) (hts _ wo_529) (fun _ h9 => h9) rfl dX9_findTurns_139 ?_
                            refine lv_iload hx hb dX9_findTurns_142 (lv_at hl 0 rfl) ?_
                            obtain ⟨hi, hwp⟩ := hwp
                            refine va_iald hx hb hK hP 4 0 rfl rfl hi dX9_findTurns_144 ?_
                            refine lv_iload_n hx hb dX9_findTurns_145 rfl (lv_at hl 5 rfl) ?_
                            refine lv_icmp_ne (tgt := 156) hx hb dX9_findTurns_146 (by decide) (fun c146 => ?_) (fun c146 => ?_)
                            · replace hwp := hwp.1 c146
                              refine lv_iconst (v := 2) hx hb dX9_findTurns_156 (by decide) ?_
                              refine lv_iload hx hb dX9_findTurns_157 (lv_at hl 0 rfl) ?_
                              refine lv_imul hx hb dX9_findTurns_159 ?_
                              refine lv_iconst (v := 1) hx hb dX9_findTurns_160 (by decide) ?_
                              refine lv_iadd hx hb dX9_findTurns_161 ?_
                              obtain ⟨hi, hwp⟩ := hwp
                              refine va_iast hx hb hK hP hD hS 6 0 rfl rfl hi dX9_findTurns_162 (fun H locs hP hD hS => ?_)
                              obtain ⟨g162, eg162⟩ : ∃ z, z = upd t40_0 (Int32.toNatClampNeg (((160 : Int32) * t2_2) + t40_1)) (((2 : Int32) * t40_2) + 1) := ⟨_, rfl⟩
                              replace hwp := hwp g162 eg162
                              replace hP : va_P G vwCl [(h0, .inr (9, [.int i0, .int i1, .ref h4, .ref h5, .ref h3, .ref k0, .ref k1, .int i2, .ref k2, .int i3, .ref k3, .ref k4, .ref k5, .int i4, .ref k6, .ref k7, .int i5, .ref k8, .ref k9, .ref k10, .int i6, .ref k11, .int i7, .ref k12, .ref k13, .int i8, .int i9, .int i10, .ref k14, .int i11, .ref k15, .ref k16, .ref k17, .ref h7, .ref h1, .ref h6, .ref h2, .ref k18, .ref k19, .ref k20, .ref k21, .ref k22, .ref k23, .ref k24, .ref k25, .int i12, .int i13, .int i14, .int i15, .int i16, .ref k26, .ref k27, .ref k28, .ref k29, .ref k30, .ref k31, .int i17, .ref k32])), (h1, aI cI 20 f18), (h2, aI cI 20 t2_0), (h3, aI cZ 80 f20), (h4, aI cI 80 f21), (h5, aI cI 80 f22), (h6, aI cI 3200 g162), (h7, aI cI 400 f24)] H := by rw [eg162]; exact hP
                              replace hD : va_D A [(h0, .inr (9, [.int i0, .int i1, .ref h4, .ref h5, .ref h3, .ref k0, .ref k1, .int i2, .ref k2, .int i3, .ref k3, .ref k4, .ref k5, .int i4, .ref k6, .ref k7, .int i5, .ref k8, .ref k9, .ref k10, .int i6, .ref k11, .int i7, .ref k12, .ref k13, .int i8, .int i9, .int i10, .ref k14, .int i11, .ref k15, .ref k16, .ref k17, .ref h7, .ref h1, .ref h6, .ref h2, .ref k18, .ref k19, .ref k20, .ref k21, .ref k22, .ref k23, .ref k24, .ref k25, .int i12, .int i13, .int i14, .int i15, .int i16, .ref k26, .ref k27, .ref k28, .ref k29, .ref k30, .ref k31, .int i17, .ref k32])), (h1, aI cI 20 f18), (h2, aI cI 20 t2_0), (h3, aI cZ 80 f20), (h4, aI cI 80 f21), (h5, aI cI 80 f22), (h6, aI cI 3200 g162), (h7, aI cI 400 f24)] := by rw [eg162]; exact hD
                              clear eg162
                              refine lv_iinc (v := (t40_1 + 1)) (lv' := [(2, .int (t40_1 + 1)), (6, .int t40_2), (5, .int t40_2), (4, .int v35), (3, .int t14_2), (1, .int t2_2), (0, .ref h0)]) hx hb dX9_findTurns_163 hl (k := 4) rfl rfl (by decide) rfl (fun ls hl => ?_)
                              refine lv_iinc (v := (t40_2 + 1)) (lv' := [(5, .int (t40_2 + 1)), (2, .int (t40_1 + 1)), (6, .int t40_2), (4, .int v35), (3, .int t14_2), (1, .int t2_2), (0, .ref h0)]) hx hb dX9_findTurns_166 hl (k := 2) rfl rfl (by decide) rfl (fun ls hl => ?_)
                              refine lv_goto (tgt := 40) hx hb dX9_findTurns_169 (by decide) ?_
                              replace hl : lv_has ls 7 [(5, .int (t40_2 + 1)), (4, .int v35), (3, .int t14_2), (2, .int (t40_1 + 1)), (1, .int t2_2), (0, .ref h0)] := lv_sub hl [0, 3, 4, 1, 5, 6] rfl
                              exact ih4 H locs ls g162 (t40_1 + 1) (t40_2 + 1) hwp hP hD hS hl
                            · replace hwp := hwp.2 c146
                              refine lv_iconst (v := 2) hx hb dX9_findTurns_149 (by decide) ?_
                              refine lv_iload hx hb dX9_findTurns_150 (lv_at hl 0 rfl) ?_
                              refine lv_imul hx hb dX9_findTurns_152 ?_
                              refine lv_goto (tgt := 162) hx hb dX9_findTurns_153 (by decide) ?_
                              obtain ⟨hi, hwp⟩ := hwp
                              refine va_iast hx hb hK hP hD hS 6 0 rfl rfl hi dX9_findTurns_162 (fun H locs hP hD hS => ?_)
                              obtain ⟨g162, eg162⟩ : ∃ z, z = upd t40_0 (Int32.toNatClampNeg (((160 : Int32) * t2_2) + t40_1)) ((2 : Int32) * t40_2) := ⟨_, rfl⟩
                              replace hwp := hwp g162 eg162
                              replace hP : va_P G vwCl [(h0, .inr (9, [.int i0, .int i1, .ref h4, .ref h5, .ref h3, .ref k0, .ref k1, .int i2, .ref k2, .int i3, .ref k3, .ref k4, .ref k5, .int i4, .ref k6, .ref k7, .int i5, .ref k8, .ref k9, .ref k10, .int i6, .ref k11, .int i7, .ref k12, .ref k13, .int i8, .int i9, .int i10, .ref k14, .int i11, .ref k15, .ref k16, .ref k17, .ref h7, .ref h1, .ref h6, .ref h2, .ref k18, .ref k19, .ref k20, .ref k21, .ref k22, .ref k23, .ref k24, .ref k25, .int i12, .int i13, .int i14, .int i15, .int i16, .ref k26, .ref k27, .ref k28, .ref k29, .ref k30, .ref k31, .int i17, .ref k32])), (h1, aI cI 20 f18), (h2, aI cI 20 t2_0), (h3, aI cZ 80 f20), (h4, aI cI 80 f21), (h5, aI cI 80 f22), (h6, aI cI 3200 g162), (h7, aI cI 400 f24)] H := by rw [eg162]; exact hP
                              replace hD : va_D A [(h0, .inr (9, [.int i0, .int i1, .ref h4, .ref h5, .ref h3, .ref k0, .ref k1, .int i2, .ref k2, .int i3, .ref k3, .ref k4, .ref k5, .int i4, .ref k6, .ref k7, .int i5, .ref k8, .ref k9, .ref k10, .int i6, .ref k11, .int i7, .ref k12, .ref k13, .int i8, .int i9, .int i10, .ref k14, .int i11, .ref k15, .ref k16, .ref k17, .ref h7, .ref h1, .ref h6, .ref h2, .ref k18, .ref k19, .ref k20, .ref k21, .ref k22, .ref k23, .ref k24, .ref k25, .int i12, .int i13, .int i14, .int i15, .int i16, .ref k26, .ref k27, .ref k28, .ref k29, .ref k30, .ref k31, .int i17, .ref k32])), (h1, aI cI 20 f18), (h2, aI cI 20 t2_0), (h3, aI cZ 80 f20), (h4, aI cI 80 f21), (h5, aI cI 80 f22), (h6, aI cI 3200 g162), (h7, aI cI 400 f24)] := by rw [eg162]; exact hD
                              clear eg162
                              refine lv_iinc (v := (t40_1 + 1)) (lv' := [(2, .int (t40_1 + 1)), (6, .int t40_2), (5, .int t40_2), (4, .int v35), (3, .int t14_2), (1, .int t2_2), (0, .ref h0)]) hx hb dX9_findTurns_163 hl (k := 4) rfl rfl (by decide) rfl (fun ls hl => ?_)
                              refine lv_iinc (v := (t40_2 + 1)) (lv' := [(5, .int (t40_2 + 1)), (2, .int (t40_1 + 1)), (6, .int t40_2), (4, .int v35), (3, .int t14_2), (1, .int t2_2), (0, .ref h0)]) hx hb dX9_findTurns_166 hl (k := 2) rfl rfl (by decide) rfl (fun ls hl => ?_)
                              refine lv_goto (tgt := 40) hx hb dX9_findTurns_169 (by decide) ?_
                              replace hl : lv_has ls 7 [(5, .int (t40_2 + 1)), (4, .int v35), (3, .int t14_2), (2, .int (t40_1 + 1)), (1, .int t2_2), (0, .ref h0)] := lv_sub hl [0, 3, 4, 1, 5, 6] rfl
                              exact ih4 H locs ls g162 (t40_1 + 1) (t40_2 + 1) hwp hP hD hS hl
                          · replace hwp := hwp.2 c101
                            refine lv_aload_n hx hb dX9_findTurns_104 rfl (lv_at hl 6 rfl) ?_
                            refine va_get (D := G) (ci := 9) (v := .ref h4) (C := RX9) (T := TX9) (N := 58) hx hb hts xinX9 hown hK hP 0 rfl rfl 2 (by decide) (hts _ wo_529) (fun _ h9 => h9) rfl dX9_findTurns_105 ?_
                            refine lv_iload hx hb dX9_findTurns_108 (lv_at hl 0 rfl) ?_
                            obtain ⟨hi, hwp⟩ := hwp
                            refine va_iald hx hb hK hP 4 0 rfl rfl hi dX9_findTurns_110 ?_
                            refine lv_iload hx hb dX9_findTurns_111 (lv_at hl 2 rfl) ?_
                            refine lv_icmp_ne (tgt := 166) hx hb dX9_findTurns_113 (by decide) (fun c113 => ?_) (fun c113 => ?_)
                            · replace hwp := hwp.1 c113
                              refine lv_iinc (v := (t40_2 + 1)) (lv' := [(5, .int (t40_2 + 1)), (6, .int t40_2), (4, .int v35), (3, .int t14_2), (2, .int t40_1), (1, .int t2_2), (0, .ref h0)]) hx hb dX9_findTurns_166 hl (k := 1) rfl rfl (by decide) rfl (fun ls hl => ?_)
                              refine lv_goto (tgt := 40) hx hb dX9_findTurns_169 (by decide) ?_
                              replace hl : lv_has ls 7 [(5, .int (t40_2 + 1)), (4, .int v35), (3, .int t14_2), (2, .int t40_1), (1, .int t2_2), (0, .ref h0)] := lv_sub hl [0, 2, 3, 4, 5, 6] rfl
                              exact ih4 H locs ls t40_0 t40_1 (t40_2 + 1) hwp hP hD hS hl
                            · replace hwp := hwp.2 c113
                              refine lv_aload_n hx hb dX9_findTurns_116 rfl (lv_at hl 6 rfl) ?_
                              refine va_get (D := G) (ci := 9) (v := .ref h5) (C := RX9) (T := TX9) (N := 58) hx hb hts xinX9 hown hK hP 0 rfl rfl 3 (by decide) (hts _ wo_530) (fun _ h9 => h9) rfl dX9_findTurns_117 ?_
                              refine lv_iload hx hb dX9_findTurns_120 (lv_at hl 0 rfl) ?_
                              obtain ⟨hi, hwp⟩ := hwp
                              refine va_iald hx hb hK hP 5 0 rfl rfl hi dX9_findTurns_122 ?_
                              refine lv_iload_n hx hb dX9_findTurns_123 rfl (lv_at hl 5 rfl) ?_
                              refine lv_icmp_ne (tgt := 166) hx hb dX9_findTurns_124 (by decide) (fun c124 => ?_) (fun c124 => ?_)
                              · replace hwp := hwp.1 c124
                                refine lv_iinc (v := (t40_2 + 1)) (lv' := [(5, .int (t40_2 + 1)), (6, .int t40_2), (4, .int v35), (3, .int t14_2), (2, .int t40_1), (1, .int t2_2), (0, .ref h0)]) hx hb dX9_findTurns_166 hl (k := 1) rfl rfl (by decide) rfl (fun ls hl => ?_)
                                refine lv_goto (tgt := 40) hx hb dX9_findTurns_169 (by decide) ?_
                                replace hl : lv_has ls 7 [(5, .int (t40_2 + 1)), (4, .int v35), (3, .int t14_2), (2, .int t40_1), (1, .int t2_2), (0, .ref h0)] := lv_sub hl [0, 2, 3, 4, 5, 6] rfl
                                exact ih4 H locs ls t40_0 t40_1 (t40_2 + 1) hwp hP hD hS hl
                              · replace hwp := hwp.2 c124
                                refine lv_aload_n hx hb dX9_findTurns_127 rfl (lv_at hl 6 rfl) ?_
                                refine va_get (D := G) (ci := 9) (v := .ref h6) (C := RX9) (T := TX9) (N := 58) hx hb hts xinX9 hown hK hP 0 rfl rfl 35 (by decide) (hts _ wo_558) (fun _ h9 => h9) rfl dX9_findTurns_128 ?_
                                refine lv_sipush (v := 160) hx hb dX9_findTurns_131 (by decide) ?_
                                refine lv_iload_n hx hb dX9_findTurns_134 rfl (lv_at hl 5 rfl) ?_
                                refine lv_imul hx hb dX9_findTurns_135 ?_
                                refine lv_iload_n hx hb dX9_findTurns_136 rfl (lv_at hl 4 rfl) ?_
                                refine lv_iadd hx hb dX9_findTurns_137 ?_
                                refine lv_aload_n hx hb dX9_findTurns_138 rfl (lv_at hl 6 rfl) ?_
                                refine va_get (D := G) (ci := 9) (v := .ref h4) (C := RX9) (T := TX9) (N := 58) hx hb hts xinX9 hown hK hP 0 rfl rfl 2 (by decide) (hts _ wo_529) (fun _ h9 => h9) rfl dX9_findTurns_139 ?_
                                refine lv_iload hx hb dX9_findTurns_142 (lv_at hl 0 rfl) ?_
                                obtain ⟨hi, hwp⟩ := hwp
                                refine va_iald hx hb hK hP 4 0 rfl rfl hi dX9_findTurns_144 ?_
                                refine lv_iload_n hx hb dX9_findTurns_145 rfl (lv_at hl 5 rfl) ?_
                                refine lv_icmp_ne (tgt := 156) hx hb dX9_findTurns_146 (by decide) (fun c146 => ?_) (fun c146 => ?_)
                                · replace hwp := hwp.1 c146
                                  refine lv_iconst (v := 2) hx hb dX9_findTurns_156 (by decide) ?_
                                  refine lv_iload hx hb dX9_findTurns_157 (lv_at hl 0 rfl) ?_
                                  refine lv_imul hx hb dX9_findTurns_159 ?_
                                  refine lv_iconst (v := 1) hx hb dX9_findTurns_160 (by decide) ?_
                                  refine lv_iadd hx hb dX9_findTurns_161 ?_
                                  obtain ⟨hi, hwp⟩ := hwp
                                  refine va_iast hx hb hK hP hD hS 6 0 rfl rfl hi dX9_findTurns_162 (fun H locs hP hD hS => ?_)
                                  obtain ⟨g162, eg162⟩ : ∃ z, z = upd t40_0 (Int32.toNatClampNeg (((160 : Int32) * t2_2) + t40_1)) (((2 : Int32) * t40_2) + 1) := ⟨_, rfl⟩
                                  replace hwp := hwp g162 eg162
                                  replace hP : va_P G vwCl [(h0, .inr (9, [.int i0, .int i1, .ref h4, .ref h5, .ref h3, .ref k0, .ref k1, .int i2, .ref k2, .int i3, .ref k3, .ref k4, .ref k5, .int i4, .ref k6, .ref k7, .int i5, .ref k8, .ref k9, .ref k10, .int i6, .ref k11, .int i7, .ref k12, .ref k13, .int i8, .int i9, .int i10, .ref k14, .int i11, .ref k15, .ref k16, .ref k17, .ref h7, .ref h1, .ref h6, .ref h2, .ref k18, .ref k19, .ref k20, .ref k21, .ref k22, .ref k23, .ref k24, .ref k25, .int i12, .int i13, .int i14, .int i15, .int i16, .ref k26, .ref k27, .ref k28, .ref k29, .ref k30, .ref k31, .int i17, .ref k32])), (h1, aI cI 20 f18), (h2, aI cI 20 t2_0), (h3, aI cZ 80 f20), (h4, aI cI 80 f21), (h5, aI cI 80 f22), (h6, aI cI 3200 g162), (h7, aI cI 400 f24)] H := by rw [eg162]; exact hP
                                  replace hD : va_D A [(h0, .inr (9, [.int i0, .int i1, .ref h4, .ref h5, .ref h3, .ref k0, .ref k1, .int i2, .ref k2, .int i3, .ref k3, .ref k4, .ref k5, .int i4, .ref k6, .ref k7, .int i5, .ref k8, .ref k9, .ref k10, .int i6, .ref k11, .int i7, .ref k12, .ref k13, .int i8, .int i9, .int i10, .ref k14, .int i11, .ref k15, .ref k16, .ref k17, .ref h7, .ref h1, .ref h6, .ref h2, .ref k18, .ref k19, .ref k20, .ref k21, .ref k22, .ref k23, .ref k24, .ref k25, .int i12, .int i13, .int i14, .int i15, .int i16, .ref k26, .ref k27, .ref k28, .ref k29, .ref k30, .ref k31, .int i17, .ref k32])), (h1, aI cI 20 f18), (h2, aI cI 20 t2_0), (h3, aI cZ 80 f20), (h4, aI cI 80 f21), (h5, aI cI 80 f22), (h6, aI cI 3200 g162), (h7, aI cI 400 f24)] := by rw [eg162]; exact hD
                                  clear eg162
                                  refine lv_iinc (v := (t40_1 + 1)) (lv' := [(2, .int (t40_1 + 1)), (6, .int t40_2), (5, .int t40_2), (4, .int v35), (3, .int t14_2), (1, .int t2_2), (0, .ref h0)]) hx hb dX9_findTurns_163 hl (k := 4) rfl rfl (by decide) rfl (fun ls hl => ?_)
                                  refine lv_iinc (v := (t40_2 + 1)) (lv' := [(5, .int (t40_2 + 1)), (2, .int (t40_1 + 1)), (6, .int t40_2), (4, .int v35), (3, .int t14_2), (1, .int t2_2), (0, .ref h0)]) hx hb dX9_findTurns_166 hl (k := 2) rfl rfl (by decide) rfl (fun ls hl => ?_)
                                  refine lv_goto (tgt := 40) hx hb dX9_findTurns_169 (by decide) ?_
                                  replace hl : lv_has ls 7 [(5, .int (t40_2 + 1)), (4, .int v35), (3, .int t14_2), (2, .int (t40_1 + 1)), (1, .int t2_2), (0, .ref h0)] := lv_sub hl [0, 3, 4, 1, 5, 6] rfl
                                  exact ih4 H locs ls g162 (t40_1 + 1) (t40_2 + 1) hwp hP hD hS hl
                                · replace hwp := hwp.2 c146
                                  refine lv_iconst (v := 2) hx hb dX9_findTurns_149 (by decide) ?_
                                  refine lv_iload hx hb dX9_findTurns_150 (lv_at hl 0 rfl) ?_
                                  refine lv_imul hx hb dX9_findTurns_152 ?_
                                  refine lv_goto (tgt := 162) hx hb dX9_findTurns_153 (by decide) ?_
                                  obtain ⟨hi, hwp⟩ := hwp
                                  refine va_iast hx hb hK hP hD hS 6 0 rfl rfl hi dX9_findTurns_162 (fun H locs hP hD hS => ?_)
                                  obtain ⟨g162, eg162⟩ : ∃ z, z = upd t40_0 (Int32.toNatClampNeg (((160 : Int32) * t2_2) + t40_1)) ((2 : Int32) * t40_2) := ⟨_, rfl⟩
                                  replace hwp := hwp g162 eg162
                                  replace hP : va_P G vwCl [(h0, .inr (9, [.int i0, .int i1, .ref h4, .ref h5, .ref h3, .ref k0, .ref k1, .int i2, .ref k2, .int i3, .ref k3, .ref k4, .ref k5, .int i4, .ref k6, .ref k7, .int i5, .ref k8, .ref k9, .ref k10, .int i6, .ref k11, .int i7, .ref k12, .ref k13, .int i8, .int i9, .int i10, .ref k14, .int i11, .ref k15, .ref k16, .ref k17, .ref h7, .ref h1, .ref h6, .ref h2, .ref k18, .ref k19, .ref k20, .ref k21, .ref k22, .ref k23, .ref k24, .ref k25, .int i12, .int i13, .int i14, .int i15, .int i16, .ref k26, .ref k27, .ref k28, .ref k29, .ref k30, .ref k31, .int i17, .ref k32])), (h1, aI cI 20 f18), (h2, aI cI 20 t2_0), (h3, aI cZ 80 f20), (h4, aI cI 80 f21), (h5, aI cI 80 f22), (h6, aI cI 3200 g162), (h7, aI cI 400 f24)] H := by rw [eg162]; exact hP
                                  replace hD : va_D A [(h0, .inr (9, [.int i0, .int i1, .ref h4, .ref h5, .ref h3, .ref k0, .ref k1, .int i2, .ref k2, .int i3, .ref k3, .ref k4, .ref k5, .int i4, .ref k6, .ref k7, .int i5, .ref k8, .ref k9, .ref k10, .int i6, .ref k11, .int i7, .ref k12, .ref k13, .int i8, .int i9, .int i10, .ref k14, .int i11, .ref k15, .ref k16, .ref k17, .ref h7, .ref h1, .ref h6, .ref h2, .ref k18, .ref k19, .ref k20, .ref k21, .ref k22, .ref k23, .ref k24, .ref k25, .int i12, .int i13, .int i14, .int i15, .int i16, .ref k26, .ref k27, .ref k28, .ref k29, .ref k30, .ref k31, .int i17, .ref k32])), (h1, aI cI 20 f18), (h2, aI cI 20 t2_0), (h3, aI cZ 80 f20), (h4, aI cI 80 f21), (h5, aI cI 80 f22), (h6, aI cI 3200 g162), (h7, aI cI 400 f24)] := by rw [eg162]; exact hD
                                  clear eg162
                                  refine lv_iinc (v := (t40_1 + 1)) (lv' := [(2, .int (t40_1 + 1)), (6, .int t40_2), (5, .int t40_2), (4, .int v35), (3, .int t14_2), (1, .int t2_2), (0, .ref h0)]) hx hb dX9_findTurns_163 hl (k := 4) rfl rfl (by decide) rfl (fun ls hl => ?_)
                                  refine lv_iinc (v := (t40_2 + 1)) (lv' := [(5, .int (t40_2 + 1)), (2, .int (t40_1 + 1)), (6, .int t40_2), (4, .int v35), (3, .int t14_2), (1, .int t2_2), (0, .ref h0)]) hx hb dX9_findTurns_166 hl (k := 2) rfl rfl (by decide) rfl (fun ls hl => ?_)
                                  refine lv_goto (tgt := 40) hx hb dX9_findTurns_169 (by decide) ?_
                                  replace hl : lv_has ls 7 [(5, .int (t40_2 + 1)), (4, .int v35), (3, .int t14_2), (2, .int (t40_1 + 1)), (1, .int t2_2), (0, .ref h0)] := lv_sub hl [0, 3, 4, 1, 5, 6] rfl
                                  exact ih4 H locs ls g162 (t40_1 + 1) (t40_2 + 1) hwp hP hD hS hl
              exact hs4 n4 H locs ls t14_0 t14_1 0 hwp hP hD hS hl
        exact hs2 n2 H locs ls t2_1 0 0 hwp hP hD hS hl
  exact hs1 n1 H locs ls f19 f23 0 hwp hP hD hS hl

def wLX9_findOuter_5 (i6 : Int32) (f18 : Nat → Int32) (K : (Int32 × Int32 × Int32 × Int32) → Prop)  : Nat → Int32 → Int32 → Int32 → Int32 → Int32 → Int32 → Prop
  | 0, _, _, _, _, _, _ => False
  | n5 + 1, t5_0, t5_1, t5_2, t5_3, t5_4, t5_5 => ((i6 ≤ t5_5 → K (t5_0, t5_1, t5_2, t5_3)) ∧ (¬ i6 ≤ t5_5 → (vp_in t5_5 120 ∧ (wX9_least (f18 (Int32.toNatClampNeg t5_5)) (fun r19 _ => (vp_in t5_5 120 ∧ (wX9_least ((f18 (Int32.toNatClampNeg t5_5)) &&& (((1 : Int32) <<< (r19 &&& 31)) ^^^ (-1))) (fun r35 _ => (vp_in t5_5 120 ∧ (wX9_least (((f18 (Int32.toNatClampNeg t5_5)) &&& (((1 : Int32) <<< (r19 &&& 31)) ^^^ (-1))) &&& (((1 : Int32) <<< (r35 &&& 31)) ^^^ (-1))) (fun r59 _ => (∀ v78 : Int32, v78 = (((r19 * 441) + (r35 * 21)) + r59) → ((t5_4 ≤ v78 → (wLX9_findOuter_5 i6 f18 K  n5) t5_0 t5_1 t5_2 t5_3 t5_4 (t5_5 + 1)) ∧ (¬ t5_4 ≤ v78 → (wLX9_findOuter_5 i6 f18 K  n5) r19 r35 r59 t5_5 v78 (t5_5 + 1)))))))))))))))
def wX9_findOuter (i0 : Int32) (i1 : Int32) (i2 : Int32) (i3 : Int32) (i4 : Int32) (i5 : Int32) (i6 : Int32) (i7 : Int32) (i8 : Int32) (i9 : Int32) (i10 : Int32) (i11 : Int32) (i12 : Int32) (i13 : Int32) (i14 : Int32) (i15 : Int32) (i16 : Int32) (i17 : Int32) (f18 : Nat → Int32) (K : (Int32 × Int32 × Int32 × Int32) → Prop) : Prop := (∃ n5, wLX9_findOuter_5 i6 f18 K  n5 i13 i14 i15 i16 1000000 0)
set_option maxHeartbeats 4000000 in
set_option maxRecDepth 100000 in
theorem zX9_findOuter (l : Launch) (G : va_G) (cI cJ cZ : ClassId) (h0 h1 k0 k1 k2 k3 k4 k5 k6 k7 k8 k9 k10 k11 k12 k13 k14 k15 k16 k17 k18 k19 k20 k21 k22 k23 k24 k25 k26 k27 k28 k29 k30 k31 k32 k33 k34 k35 k36 k37 k38 sz : Nat) (i0 : Int32) (i1 : Int32) (i2 : Int32) (i3 : Int32) (i4 : Int32) (i5 : Int32) (i6 : Int32) (i7 : Int32) (i8 : Int32) (i9 : Int32) (i10 : Int32) (i11 : Int32) (i12 : Int32) (i13 : Int32) (i14 : Int32) (i15 : Int32) (i16 : Int32) (i17 : Int32) (f18 : Nat → Int32) (K : (Int32 × Int32 × Int32 × Int32) → Prop) (hwp : wX9_findOuter i0 i1 i2 i3 i4 i5 i6 i7 i8 i9 i10 i11 i12 i13 i14 i15 i16 i17 f18 K) : Met l yX9_findOuter (xw yX9_findOuter cX9_findOuter 7 none) ({ frames := 1, cells := 0, slots := 0, locals := 21 }) (xPc G cI cJ cZ [.ref h0] [(h0, .inr (9, [.int i0, .int i1, .ref k0, .ref k1, .ref k2, .ref k3, .ref k4, .int i2, .ref k5, .int i3, .ref k6, .ref k7, .ref k8, .int i4, .ref k9, .ref k10, .int i5, .ref k11, .ref k12, .ref h1, .int i6, .ref k13, .int i7, .ref k14, .ref k15, .int i8, .int i9, .int i10, .ref k16, .int i11, .ref k17, .ref k18, .ref k19, .ref k20, .ref k21, .ref k22, .ref k23, .ref k24, .ref k25, .ref k26, .ref k27, .ref k28, .ref k29, .ref k30, .ref k31, .int i12, .int i13, .int i14, .int i15, .int i16, .ref k32, .ref k33, .ref k34, .ref k35, .ref k36, .ref k37, .int i17, .ref k38])), (h1, aI cI 120 f18)] sz) (va_Qv (fun (u : Int32 × Int32 × Int32 × Int32) => K u) (fun (u : Int32 × Int32 × Int32 × Int32) t => xB G (va_A [(h0, .inr (9, [.int i0, .int i1, .ref k0, .ref k1, .ref k2, .ref k3, .ref k4, .int i2, .ref k5, .int i3, .ref k6, .ref k7, .ref k8, .int i4, .ref k9, .ref k10, .int i5, .ref k11, .ref k12, .ref h1, .int i6, .ref k13, .int i7, .ref k14, .ref k15, .int i8, .int i9, .int i10, .ref k16, .int i11, .ref k17, .ref k18, .ref k19, .ref k20, .ref k21, .ref k22, .ref k23, .ref k24, .ref k25, .ref k26, .ref k27, .ref k28, .ref k29, .ref k30, .ref k31, .int i12, .int i13, .int i14, .int i15, .int i16, .ref k32, .ref k33, .ref k34, .ref k35, .ref k36, .ref k37, .int i17, .ref k38])), (h1, aI cI 120 f18)] sz) [(h0, .inr (9, [.int i0, .int i1, .ref k0, .ref k1, .ref k2, .ref k3, .ref k4, .int i2, .ref k5, .int i3, .ref k6, .ref k7, .ref k8, .int i4, .ref k9, .ref k10, .int i5, .ref k11, .ref k12, .ref h1, .int i6, .ref k13, .int i7, .ref k14, .ref k15, .int i8, .int i9, .int i10, .ref k16, .int i11, .ref k17, .ref k18, .ref k19, .ref k20, .ref k21, .ref k22, .ref k23, .ref k24, .ref k25, .ref k26, .ref k27, .ref k28, .ref k29, .ref k30, .ref k31, .int i12, .int u.1, .int u.2.1, .int u.2.2.1, .int u.2.2.2, .ref k32, .ref k33, .ref k34, .ref k35, .ref k36, .ref k37, .int i17, .ref k38])), (h1, aI cI 120 f18)] t) (va_A [(h0, .inr (9, [.int i0, .int i1, .ref k0, .ref k1, .ref k2, .ref k3, .ref k4, .int i2, .ref k5, .int i3, .ref k6, .ref k7, .ref k8, .int i4, .ref k9, .ref k10, .int i5, .ref k11, .ref k12, .ref h1, .int i6, .ref k13, .int i7, .ref k14, .ref k15, .int i8, .int i9, .int i10, .ref k16, .int i11, .ref k17, .ref k18, .ref k19, .ref k20, .ref k21, .ref k22, .ref k23, .ref k24, .ref k25, .ref k26, .ref k27, .ref k28, .ref k29, .ref k30, .ref k31, .int i12, .int i13, .int i14, .int i15, .int i16, .ref k32, .ref k33, .ref k34, .ref k35, .ref k36, .ref k37, .int i17, .ref k38])), (h1, aI cI 120 f18)] sz)) 0 0 (va_A [(h0, .inr (9, [.int i0, .int i1, .ref k0, .ref k1, .ref k2, .ref k3, .ref k4, .int i2, .ref k5, .int i3, .ref k6, .ref k7, .ref k8, .int i4, .ref k9, .ref k10, .int i5, .ref k11, .ref k12, .ref h1, .int i6, .ref k13, .int i7, .ref k14, .ref k15, .int i8, .int i9, .int i10, .ref k16, .int i11, .ref k17, .ref k18, .ref k19, .ref k20, .ref k21, .ref k22, .ref k23, .ref k24, .ref k25, .ref k26, .ref k27, .ref k28, .ref k29, .ref k30, .ref k31, .int i12, .int i13, .int i14, .int i15, .int i16, .ref k32, .ref k33, .ref k34, .ref k35, .ref k36, .ref k37, .int i17, .ref k38])), (h1, aI cI 120 f18)] sz) := by
  refine Met.ofW (cc := cX9_findOuter) (maxL := 7) (ret := none) (by decide) rfl ?_
  intro p e s m args below meth c s₁ B hml hv
  obtain ⟨rfl, hsz, hP, hK, hD0, hN⟩ := hv
  have hx := B.exec
  have hb := B.bytes
  have hr := B.returns
  have hts : ∀ w ∈ xW, w.before _ s = true := fun w h => atoms_spec (ws := xw yX9_findOuter cX9_findOuter 7 none) B.pre w (List.mem_cons_of_mem _ h)
  have hown : s.vm.findClass RX9 = some m.cls := findClass_of_methodNamed B.named
  have hlocks := B.notSynchronized
  subst hsz
  have hD := hD0.self (sz := s.heap.size)
  clear hD0
  generalize hAe : va_A [(h0, .inr (9, [.int i0, .int i1, .ref k0, .ref k1, .ref k2, .ref k3, .ref k4, .int i2, .ref k5, .int i3, .ref k6, .ref k7, .ref k8, .int i4, .ref k9, .ref k10, .int i5, .ref k11, .ref k12, .ref h1, .int i6, .ref k13, .int i7, .ref k14, .ref k15, .int i8, .int i9, .int i10, .ref k16, .int i11, .ref k17, .ref k18, .ref k19, .ref k20, .ref k21, .ref k22, .ref k23, .ref k24, .ref k25, .ref k26, .ref k27, .ref k28, .ref k29, .ref k30, .ref k31, .int i12, .int i13, .int i14, .int i15, .int i16, .ref k32, .ref k33, .ref k34, .ref k35, .ref k36, .ref k37, .int i17, .ref k38])), (h1, aI cI 120 f18)] s.heap.size = A at hD ⊢
  have hA : ∀ q : Nat, s.heap.size ≤ q → A q := fun q h => by rw [← hAe]; exact Or.inr h
  clear hAe
  have hS : va_S A s.heap s.heap [] := va_S.rf
  replace hP : va_P G vwCl [(h0, .inr (9, [.int i0, .int i1, .ref k0, .ref k1, .ref k2, .ref k3, .ref k4, .int i2, .ref k5, .int i3, .ref k6, .ref k7, .ref k8, .int i4, .ref k9, .ref k10, .int i5, .ref k11, .ref k12, .ref h1, .int i6, .ref k13, .int i7, .ref k14, .ref k15, .int i8, .int i9, .int i10, .ref k16, .int i11, .ref k17, .ref k18, .ref k19, .ref k20, .ref k21, .ref k22, .ref k23, .ref k24, .ref k25, .ref k26, .ref k27, .ref k28, .ref k29, .ref k30, .ref k31, .int i12, .int i13, .int i14, .int i15, .int i16, .ref k32, .ref k33, .ref k34, .ref k35, .ref k36, .ref k37, .int i17, .ref k38])), (h1, aI cI 120 f18)] s.heap := hP
  have hl := lv_entry ([.ref h0]) (n := 7) (Nat.le_of_ble_eq_true rfl)
  rw [lg_entry_eq]
  generalize (lg_sl ([.ref h0]) ++ List.replicate (7 - (lg_sl ([.ref h0])).length) Slot.unset).toArray = ls at hl ⊢
  replace hl : lv_has ls 7 [(0, .ref h0)] := hl
  generalize hQQ : MQ below _ _ s 0 0 _ = QQ
  skip
  unfold wX9_findOuter at hwp
  refine lv_ldc (v := 1000000) hx hb hown (hts _ wo_559) dX9_findOuter_0 ?_
  refine lv_istore_n (lv' := [(1, .int 1000000), (0, .ref h0)]) hx hb dX9_findOuter_2 rfl hl (by decide) rfl (fun ls hl => ?_)
  refine lv_iconst (v := 0) hx hb dX9_findOuter_3 (by decide) ?_
  refine lv_istore_n (lv' := [(2, .int 0), (1, .int 1000000), (0, .ref h0)]) hx hb dX9_findOuter_4 rfl hl (by decide) rfl (fun ls hl => ?_)
  refine xgen (Pp := fun H locs => W p l e _ s m _ below meth c H locs _ _ _ _) (fun H locs hP hD hS => ?_) hP hD hS
  replace hl : lv_has ls 7 [(2, .int 0), (1, .int 1000000), (0, .ref h0)] := lv_sub hl [0, 1, 2] rfl
  obtain ⟨n1, hwp⟩ := hwp
  have hs1 : ∀ (n1 : Nat) (H : Heap) (locs : List Loc) (ls : Array Slot) (t5_0 : Int32) (t5_1 : Int32) (t5_2 : Int32) (t5_3 : Int32) (t5_4 : Int32) (t5_5 : Int32), wLX9_findOuter_5 i6 f18 K  n1 t5_0 t5_1 t5_2 t5_3 t5_4 t5_5 → va_P G vwCl [(h0, .inr (9, [.int i0, .int i1, .ref k0, .ref k1, .ref k2, .ref k3, .ref k4, .int i2, .ref k5, .int i3, .ref k6, .ref k7, .ref k8, .int i4, .ref k9, .ref k10, .int i5, .ref k11, .ref k12, .ref h1, .int i6, .ref k13, .int i7, .ref k14, .ref k15, .int i8, .int i9, .int i10, .ref k16, .int i11, .ref k17, .ref k18, .ref k19, .ref k20, .ref k21, .ref k22, .ref k23, .ref k24, .ref k25, .ref k26, .ref k27, .ref k28, .ref k29, .ref k30, .ref k31, .int i12, .int t5_0, .int t5_1, .int t5_2, .int t5_3, .ref k32, .ref k33, .ref k34, .ref k35, .ref k36, .ref k37, .int i17, .ref k38])), (h1, aI cI 120 f18)] H → va_D A [(h0, .inr (9, [.int i0, .int i1, .ref k0, .ref k1, .ref k2, .ref k3, .ref k4, .int i2, .ref k5, .int i3, .ref k6, .ref k7, .ref k8, .int i4, .ref k9, .ref k10, .int i5, .ref k11, .ref k12, .ref h1, .int i6, .ref k13, .int i7, .ref k14, .ref k15, .int i8, .int i9, .int i10, .ref k16, .int i11, .ref k17, .ref k18, .ref k19, .ref k20, .ref k21, .ref k22, .ref k23, .ref k24, .ref k25, .ref k26, .ref k27, .ref k28, .ref k29, .ref k30, .ref k31, .int i12, .int t5_0, .int t5_1, .int t5_2, .int t5_3, .ref k32, .ref k33, .ref k34, .ref k35, .ref k36, .ref k37, .int i17, .ref k38])), (h1, aI cI 120 f18)] → va_S A s.heap H locs → lv_has ls 7 [(2, .int t5_5), (1, .int t5_4), (0, .ref h0)] → W p l e ((headSpec (xw yX9_findOuter cX9_findOuter 7 none) { frames := 1, cells := 0, slots := 0, locals := 21 }).room) s m ([.ref h0] : List Value).toArray below meth c H locs 0 0 QQ (F0 m 5 ls []) := by
    intro n1
    induction n1 with
    | zero => intro H locs ls t5_0 t5_1 t5_2 t5_3 t5_4 t5_5 hwp; exact False.elim hwp
    | succ n1 ih1 =>
      intro H locs ls t5_0 t5_1 t5_2 t5_3 t5_4 t5_5 hwp hP hD hS hl
      rw [wLX9_findOuter_5] at hwp
      refine lv_iload_n hx hb dX9_findOuter_5 rfl (lv_at hl 0 rfl) ?_
      refine lv_aload_n hx hb dX9_findOuter_6 rfl (lv_at hl 2 rfl) ?_
      refine va_get (D := G) (ci := 9) (v := .int i6) (C := RX9) (T := TX9) (N := 58) hx hb hts xinX9 hown hK hP 0 rfl rfl 20 (by decide) (hts _ wo_485) (fun _ h9 => h9) rfl dX9_findOuter_7 ?_
      refine lv_icmp_ge (tgt := 117) hx hb dX9_findOuter_10 (by decide) (fun c10 => ?_) (fun c10 => ?_)
      · replace hwp := hwp.1 c10
        have hP9 : va_P G vwCl [(h0, .inr (9, [.int i0, .int i1, .ref k0, .ref k1, .ref k2, .ref k3, .ref k4, .int i2, .ref k5, .int i3, .ref k6, .ref k7, .ref k8, .int i4, .ref k9, .ref k10, .int i5, .ref k11, .ref k12, .ref h1, .int i6, .ref k13, .int i7, .ref k14, .ref k15, .int i8, .int i9, .int i10, .ref k16, .int i11, .ref k17, .ref k18, .ref k19, .ref k20, .ref k21, .ref k22, .ref k23, .ref k24, .ref k25, .ref k26, .ref k27, .ref k28, .ref k29, .ref k30, .ref k31, .int i12, .int t5_0, .int t5_1, .int t5_2, .int t5_3, .ref k32, .ref k33, .ref k34, .ref k35, .ref k36, .ref k37, .int i17, .ref k38])), (h1, aI cI 120 f18)] H := hP.sub [0, 1] rfl
        have hD9 : va_D A [(h0, .inr (9, [.int i0, .int i1, .ref k0, .ref k1, .ref k2, .ref k3, .ref k4, .int i2, .ref k5, .int i3, .ref k6, .ref k7, .ref k8, .int i4, .ref k9, .ref k10, .int i5, .ref k11, .ref k12, .ref h1, .int i6, .ref k13, .int i7, .ref k14, .ref k15, .int i8, .int i9, .int i10, .ref k16, .int i11, .ref k17, .ref k18, .ref k19, .ref k20, .ref k21, .ref k22, .ref k23, .ref k24, .ref k25, .ref k26, .ref k27, .ref k28, .ref k29, .ref k30, .ref k31, .int i12, .int t5_0, .int t5_1, .int t5_2, .int t5_3, .ref k32, .ref k33, .ref k34, .ref k35, .ref k36, .ref k37, .int i17, .ref k38])), (h1, aI cI 120 f18)] := hD.sub [0, 1] (by decide) rfl
        rw [← hQQ]
        exact W.vret hx hb hr (fun t ht hW => ⟨⟨(t5_0, t5_1, t5_2, t5_3), rfl, hwp, by rw [ht]; exact hP9, hD9⟩, hS.F ht⟩) hS.2.2 dX9_findOuter_117
      · replace hwp := hwp.2 c10
        refine lv_aload_n hx hb dX9_findOuter_13 rfl (lv_at hl 2 rfl) ?_
        refine va_get (D := G) (ci := 9) (v := .ref h1) (C := RX9) (T := TX9) (N := 58) hx hb hts xinX9 hown hK hP 0 rfl rfl 19 (by decide) (hts _ wo_476) (fun _ h9 => h9) rfl dX9_findOuter_14 ?_
        refine lv_iload_n hx hb dX9_findOuter_17 rfl (lv_at hl 0 rfl) ?_
        obtain ⟨hi, hwp⟩ := hwp
        refine va_iald hx hb hK hP 1 0 rfl rfl hi dX9_findOuter_18 ?_
        refine xci (wr := [(h0, .inr (9, [.int i0, .int i1, .ref k0, .ref k1, .ref k2, .ref k3, .ref k4, .int i2, .ref k5, .int i3, .ref k6, .ref k7, .ref k8, .int i4, .ref k9, .ref k10, .int i5, .ref k11, .ref k12, .ref h1, .int i6, .ref k13, .int i7, .ref k14, .ref k15, .int i8, .int i9, .int i10, .ref k16, .int i11, .ref k17, .ref k18, .ref k19, .ref k20, .ref k21, .ref k22, .ref k23, .ref k24, .ref k25, .ref k26, .ref k27, .ref k28, .ref k29, .ref k30, .ref k31, .int i12, .int t5_0, .int t5_1, .int t5_2, .int t5_3, .ref k32, .ref k33, .ref k34, .ref k35, .ref k36, .ref k37, .int i17, .ref k38])), (h1, aI cI 120 f18)]) (va_runS (As := [.int (f18 (Int32.toNatClampNeg t5_5))]) (rest := []) ⟨hx, hb, hml, hown, hts⟩ (zX9_least l G cI cJ cZ H.size (f18 (Int32.toNatClampNeg t5_5)) _ hwp) (va_cwS 1 hts (xgoodS wo_548 wo_549 wo_550 wo_454) rfl rfl rfl (by decide +kernel) ⟨Nat.le_of_ble_eq_true rfl, Nat.le_of_ble_eq_true rfl⟩) (xPreS hK hN hP hD [] (by decide) rfl) rfl rfl hl.1 rfl (lv_room (Nat.le_of_ble_eq_true rfl)) dX9_findOuter_19 ⟨Nat.le_of_ble_eq_true rfl, Nat.le_of_ble_eq_true rfl⟩) hP hD hS hA [] [0, 1] rfl rfl (by decide) (by decide) (fun r19 u19 H locs hwp hP hD hS => ?_)
        replace hP : va_P G vwCl [(h0, .inr (9, [.int i0, .int i1, .ref k0, .ref k1, .ref k2, .ref k3, .ref k4, .int i2, .ref k5, .int i3, .ref k6, .ref k7, .ref k8, .int i4, .ref k9, .ref k10, .int i5, .ref k11, .ref k12, .ref h1, .int i6, .ref k13, .int i7, .ref k14, .ref k15, .int i8, .int i9, .int i10, .ref k16, .int i11, .ref k17, .ref k18, .ref k19, .ref k20, .ref k21, .ref k22, .ref k23, .ref k24, .ref k25, .ref k26, .ref k27, .ref k28, .ref k29, .ref k30, .ref k31, .int i12, .int t5_0, .int t5_1, .int t5_2, .int t5_3, .ref k32, .ref k33, .ref k34, .ref k35, .ref k36, .ref k37, .int i17, .ref k38])), (h1, aI cI 120 f18)] H := hP
        replace hD : va_D A [(h0, .inr (9, [.int i0, .int i1, .ref k0, .ref k1, .ref k2, .ref k3, .ref k4, .int i2, .ref k5, .int i3, .ref k6, .ref k7, .ref k8, .int i4, .ref k9, .ref k10, .int i5, .ref k11, .ref k12, .ref h1, .int i6, .ref k13, .int i7, .ref k14, .ref k15, .int i8, .int i9, .int i10, .ref k16, .int i11, .ref k17, .ref k18, .ref k19, .ref k20, .ref k21, .ref k22, .ref k23, .ref k24, .ref k25, .ref k26, .ref k27, .ref k28, .ref k29, .ref k30, .ref k31, .int i12, .int t5_0, .int t5_1, .int t5_2, .int t5_3, .ref k32, .ref k33, .ref k34, .ref k35, .ref k36, .ref k37, .int i17, .ref k38])), (h1, aI cI 120 f18)] := hD
        refine lv_istore_n (lv' := [(3, .int r19), (2, .int t5_5), (1, .int t5_4), (0, .ref h0)]) hx hb dX9_findOuter_22 rfl hl (by decide) rfl (fun ls hl => ?_)
        refine lv_aload_n hx hb dX9_findOuter_23 rfl (lv_at hl 3 rfl) ?_
        refine va_get (D := G) (ci := 9) (v := .ref h1) (C := RX9) (T := TX9) (N := 58) hx hb hts xinX9 hown hK hP 0 rfl rfl 19 (by decide) (hts _ wo_476) (fun _ h9 => h9) rfl dX9_findOuter_24 ?_
        refine lv_iload_n hx hb dX9_findOuter_27 rfl (lv_at hl 1 rfl) ?_
        obtain ⟨hi, hwp⟩ := hwp
        refine va_iald hx hb hK hP 1 0 rfl rfl hi dX9_findOuter_28 ?_
        refine lv_iconst (v := 1) hx hb dX9_findOuter_29 (by decide) ?_
        refine lv_iload_n hx hb dX9_findOuter_30 rfl (lv_at hl 0 rfl) ?_
        refine lv_ishl hx hb dX9_findOuter_31 ?_
        refine lv_iconst (v := (-1)) hx hb dX9_findOuter_32 (by decide) ?_
        refine lv_ixor hx hb dX9_findOuter_33 ?_
        refine lv_iand hx hb dX9_findOuter_34 ?_
        refine xci (wr := [(h0, .inr (9, [.int i0, .int i1, .ref k0, .ref k1, .ref k2, .ref k3, .ref k4, .int i2, .ref k5, .int i3, .ref k6, .ref k7, .ref k8, .int i4, .ref k9, .ref k10, .int i5, .ref k11, .ref k12, .ref h1, .int i6, .ref k13, .int i7, .ref k14, .ref k15, .int i8, .int i9, .int i10, .ref k16, .int i11, .ref k17, .ref k18, .ref k19, .ref k20, .ref k21, .ref k22, .ref k23, .ref k24, .ref k25, .ref k26, .ref k27, .ref k28, .ref k29, .ref k30, .ref k31, .int i12, .int t5_0, .int t5_1, .int t5_2, .int t5_3, .ref k32, .ref k33, .ref k34, .ref k35, .ref k36, .ref k37, .int i17, .ref k38])), (h1, aI cI 120 f18)]) (va_runS (As := [.int ((f18 (Int32.toNatClampNeg t5_5)) &&& (((1 : Int32) <<< (r19 &&& 31)) ^^^ (-1)))]) (rest := []) ⟨hx, hb, hml, hown, hts⟩ (zX9_least l G cI cJ cZ H.size ((f18 (Int32.toNatClampNeg t5_5)) &&& (((1 : Int32) <<< (r19 &&& 31)) ^^^ (-1))) _ hwp) (va_cwS 1 hts (xgoodS wo_548 wo_549 wo_550 wo_454) rfl rfl rfl (by decide +kernel) ⟨Nat.le_of_ble_eq_true rfl, Nat.le_of_ble_eq_true rfl⟩) (xPreS hK hN hP hD [] (by decide) rfl) rfl rfl hl.1 rfl (lv_room (Nat.le_of_ble_eq_true rfl)) dX9_findOuter_35 ⟨Nat.le_of_ble_eq_true rfl, Nat.le_of_ble_eq_true rfl⟩) hP hD hS hA [] [0, 1] rfl rfl (by decide) (by decide) (fun r35 u35 H locs hwp hP hD hS => ?_)
        replace hP : va_P G vwCl [(h0, .inr (9, [.int i0, .int i1, .ref k0, .ref k1, .ref k2, .ref k3, .ref k4, .int i2, .ref k5, .int i3, .ref k6, .ref k7, .ref k8, .int i4, .ref k9, .ref k10, .int i5, .ref k11, .ref k12, .ref h1, .int i6, .ref k13, .int i7, .ref k14, .ref k15, .int i8, .int i9, .int i10, .ref k16, .int i11, .ref k17, .ref k18, .ref k19, .ref k20, .ref k21, .ref k22, .ref k23, .ref k24, .ref k25, .ref k26, .ref k27, .ref k28, .ref k29, .ref k30, .ref k31, .int i12, .int t5_0, .int t5_1, .int t5_2, .int t5_3, .ref k32, .ref k33, .ref k34, .ref k35, .ref k36, .ref k37, .int i17, .ref k38])), (h1, aI cI 120 f18)] H := hP
        replace hD : va_D A [(h0, .inr (9, [.int i0, .int i1, .ref k0, .ref k1, .ref k2, .ref k3, .ref k4, .int i2, .ref k5, .int i3, .ref k6, .ref k7, .ref k8, .int i4, .ref k9, .ref k10, .int i5, .ref k11, .ref k12, .ref h1, .int i6, .ref k13, .int i7, .ref k14, .ref k15, .int i8, .int i9, .int i10, .ref k16, .int i11, .ref k17, .ref k18, .ref k19, .ref k20, .ref k21, .ref k22, .ref k23, .ref k24, .ref k25, .ref k26, .ref k27, .ref k28, .ref k29, .ref k30, .ref k31, .int i12, .int t5_0, .int t5_1, .int t5_2, .int t5_3, .ref k32, .ref k33, .ref k34, .ref k35, .ref k36, .ref k37, .int i17, .ref k38])), (h1, aI cI 120 f18)] := hD
        refine lv_istore (lv' := [(4, .int r35), (3, .int r19), (2, .int t5_5), (1, .int t5_4), (0, .ref h0)]) hx hb dX9_findOuter_38 hl (by decide) rfl (fun ls hl => ?_)
        refine lv_aload_n hx hb dX9_findOuter_40 rfl (lv_at hl 4 rfl) ?_
        refine va_get (D := G) (ci := 9) (v := .ref h1) (C := RX9) (T := TX9) (N := 58) hx hb hts xinX9 hown hK hP 0 rfl rfl 19 (by decide) (hts _ wo_476) (fun _ h9 => h9) rfl dX9_findOuter_41 ?_
        refine lv_iload_n hx hb dX9_findOuter_44 rfl (lv_at hl 2 rfl) ?_
        obtain ⟨hi, hwp⟩ := hwp
        refine va_iald hx hb hK hP 1 0 rfl rfl hi dX9_findOuter_45 ?_
        refine lv_iconst (v := 1) hx hb dX9_findOuter_46 (by decide) ?_
        refine lv_iload_n hx hb dX9_findOuter_47 rfl (lv_at hl 1 rfl) ?_
        refine lv_ishl hx hb dX9_findOuter_48 ?_
        refine lv_iconst (v := (-1)) hx hb dX9_findOuter_49 (by decide) ?_
        refine lv_ixor hx hb dX9_findOuter_50 ?_
        refine lv_iand hx hb dX9_findOuter_51 ?_
        refine lv_iconst (v := 1) hx hb dX9_findOuter_52 (by decide) ?_
        refine lv_iload hx hb dX9_findOuter_53 (lv_at hl 0 rfl) ?_
        refine lv_ishl hx hb dX9_findOuter_55 ?_
        refine lv_iconst (v := (-1)) hx hb dX9_findOuter_56 (by decide) ?_
        refine lv_ixor hx hb dX9_findOuter_57 ?_
        refine lv_iand hx hb dX9_findOuter_58 ?_
        refine xci (wr := [(h0, .inr (9, [.int i0, .int i1, .ref k0, .ref k1, .ref k2, .ref k3, .ref k4, .int i2, .ref k5, .int i3, .ref k6, .ref k7, .ref k8, .int i4, .ref k9, .ref k10, .int i5, .ref k11, .ref k12, .ref h1, .int i6, .ref k13, .int i7, .ref k14, .ref k15, .int i8, .int i9, .int i10, .ref k16, .int i11, .ref k17, .ref k18, .ref k19, .ref k20, .ref k21, .ref k22, .ref k23, .ref k24, .ref k25, .ref k26, .ref k27, .ref k28, .ref k29, .ref k30, .ref k31, .int i12, .int t5_0, .int t5_1, .int t5_2, .int t5_3, .ref k32, .ref k33, .ref k34, .ref k35, .ref k36, .ref k37, .int i17, .ref k38])), (h1, aI cI 120 f18)]) (va_runS (As := [.int (((f18 (Int32.toNatClampNeg t5_5)) &&& (((1 : Int32) <<< (r19 &&& 31)) ^^^ (-1))) &&& (((1 : Int32) <<< (r35 &&& 31)) ^^^ (-1)))]) (rest := []) ⟨hx, hb, hml, hown, hts⟩ (zX9_least l G cI cJ cZ H.size (((f18 (Int32.toNatClampNeg t5_5)) &&& (((1 : Int32) <<< (r19 &&& 31)) ^^^ (-1))) &&& (((1 : Int32) <<< (r35 &&& 31)) ^^^ (-1))) _ hwp) (va_cwS 1 hts (xgoodS wo_548 wo_549 wo_550 wo_454) rfl rfl rfl (by decide +kernel) ⟨Nat.le_of_ble_eq_true rfl, Nat.le_of_ble_eq_true rfl⟩) (xPreS hK hN hP hD [] (by decide) rfl) rfl rfl hl.1 rfl (lv_room (Nat.le_of_ble_eq_true rfl)) dX9_findOuter_59 ⟨Nat.le_of_ble_eq_true rfl, Nat.le_of_ble_eq_true rfl⟩) hP hD hS hA [] [0, 1] rfl rfl (by decide) (by decide) (fun r59 u59 H locs hwp hP hD hS => ?_)
        replace hP : va_P G vwCl [(h0, .inr (9, [.int i0, .int i1, .ref k0, .ref k1, .ref k2, .ref k3, .ref k4, .int i2, .ref k5, .int i3, .ref k6, .ref k7, .ref k8, .int i4, .ref k9, .ref k10, .int i5, .ref k11, .ref k12, .ref h1, .int i6, .ref k13, .int i7, .ref k14, .ref k15, .int i8, .int i9, .int i10, .ref k16, .int i11, .ref k17, .ref k18, .ref k19, .ref k20, .ref k21, .ref k22, .ref k23, .ref k24, .ref k25, .ref k26, .ref k27, .ref k28, .ref k29, .ref k30, .ref k31, .int i12, .int t5_0, .int t5_1, .int t5_2, .int t5_3, .ref k32, .ref k33, .ref k34, .ref k35, .ref k36, .ref k37, .int i17, .ref k38])), (h1, aI cI 120 f18)] H := hP
        replace hD : va_D A [(h0, .inr (9, [.int i0, .int i1, .ref k0, .ref k1, .ref k2, .ref k3, .ref k4, .int i2, .ref k5, .int i3, .ref k6, .ref k7, .ref k8, .int i4, .ref k9, .ref k10, .int i5, .ref k11, .ref k12, .ref h1, .int i6, .ref k13, .int i7, .ref k14, .ref k15, .int i8, .int i9, .int i10, .ref k16, .int i11, .ref k17, .ref k18, .ref k19, .ref k20, .ref k21, .ref k22, .ref k23, .ref k24, .ref k25, .ref k26, .ref k27, .ref k28, .ref k29, .ref k30, .ref k31, .int i12, .int t5_0, .int t5_1, .int t5_2, .int t5_3, .ref k32, .ref k33, .ref k34, .ref k35, .ref k36, .ref k37, .int i17, .ref k38])), (h1, aI cI 120 f18)] := hD
        refine lv_istore (lv' := [(5, .int r59), (4, .int r35), (3, .int r19), (2, .int t5_5), (1, .int t5_4), (0, .ref h0)]) hx hb dX9_findOuter_62 hl (by decide) rfl (fun ls hl => ?_)
        refine lv_iload_n hx hb dX9_findOuter_64 rfl (lv_at hl 2 rfl) ?_
        refine lv_sipush (v := 441) hx hb dX9_findOuter_65 (by decide) ?_
        refine lv_imul hx hb dX9_findOuter_68 ?_
        refine lv_iload hx hb dX9_findOuter_69 (lv_at hl 1 rfl) ?_
        refine lv_bipush (v := 21) hx hb dX9_findOuter_71 (by decide) ?_
        refine lv_imul hx hb dX9_findOuter_73 ?_
        refine lv_iadd hx hb dX9_findOuter_74 ?_
        refine lv_iload hx hb dX9_findOuter_75 (lv_at hl 0 rfl) ?_
        refine lv_iadd hx hb dX9_findOuter_77 ?_
        refine lv_topi (fun v78 ev78 => ?_)
        replace hwp := hwp v78 ev78
        clear ev78
        refine lv_istore (lv' := [(6, .int v78), (5, .int r59), (4, .int r35), (3, .int r19), (2, .int t5_5), (1, .int t5_4), (0, .ref h0)]) hx hb dX9_findOuter_78 hl (by decide) rfl (fun ls hl => ?_)
        refine lv_iload hx hb dX9_findOuter_80 (lv_at hl 0 rfl) ?_
        refine lv_iload_n hx hb dX9_findOuter_82 rfl (lv_at hl 5 rfl) ?_
        refine lv_icmp_ge (tgt := 111) hx hb dX9_findOuter_83 (by decide) (fun c83 => ?_) (fun c83 => ?_)
        · replace hwp := hwp.1 c83
          refine lv_iinc (v := (t5_5 + 1)) (lv' := [(2, .int (t5_5 + 1)), (6, .int v78), (5, .int r59), (4, .int r35), (3, .int r19), (1, .int t5_4), (0, .ref h0)]) hx hb dX9_findOuter_111 hl (k := 4) rfl rfl (by decide) rfl (fun ls hl => ?_)
          refine lv_goto (tgt := 5) hx hb dX9_findOuter_114 (by decide) ?_
          replace hl : lv_has ls 7 [(2, .int (t5_5 + 1)), (1, .int t5_4), (0, .ref h0)] := lv_sub hl [0, 5, 6] rfl
          exact ih1 H locs ls t5_0 t5_1 t5_2 t5_3 t5_4 (t5_5 + 1) hwp hP hD hS hl
        · replace hwp := hwp.2 c83
          refine lv_iload hx hb dX9_findOuter_86 (lv_at hl 0 rfl) ?_
          refine lv_istore_n (lv' := [(1, .int v78), (6, .int v78), (5, .int r59), (4, .int r35), (3, .int r19), (2, .int t5_5), (0, .ref h0)]) hx hb dX9_findOuter_88 rfl hl (by decide) rfl (fun ls hl => ?_)
          refine lv_aload_n hx hb dX9_findOuter_89 rfl (lv_at hl 6 rfl) ?_
          refine lv_iload_n hx hb dX9_findOuter_90 rfl (lv_at hl 5 rfl) ?_
          refine va_put (D := G) (ci := 9) (v := .int t5_5) (ty := .int) (C := RX9) (T := TX9) (N := 58) hx hb hts xinX9 tyX9 tyX9_ok nmX9 hown hK hP hD hS 0 rfl rfl 49 (by decide) (hts _ wo_560) (fun _ h9 => h9) rfl (by decide +kernel) rfl rfl (Nat.le_of_ble_eq_true rfl) dX9_findOuter_91 (fun H locs hP hD hS => ?_)
          replace hP : va_P G vwCl [(h0, .inr (9, [.int i0, .int i1, .ref k0, .ref k1, .ref k2, .ref k3, .ref k4, .int i2, .ref k5, .int i3, .ref k6, .ref k7, .ref k8, .int i4, .ref k9, .ref k10, .int i5, .ref k11, .ref k12, .ref h1, .int i6, .ref k13, .int i7, .ref k14, .ref k15, .int i8, .int i9, .int i10, .ref k16, .int i11, .ref k17, .ref k18, .ref k19, .ref k20, .ref k21, .ref k22, .ref k23, .ref k24, .ref k25, .ref k26, .ref k27, .ref k28, .ref k29, .ref k30, .ref k31, .int i12, .int t5_0, .int t5_1, .int t5_2, .int t5_5, .ref k32, .ref k33, .ref k34, .ref k35, .ref k36, .ref k37, .int i17, .ref k38])), (h1, aI cI 120 f18)] H := hP
          replace hD : va_D A [(h0, .inr (9, [.int i0, .int i1, .ref k0, .ref k1, .ref k2, .ref k3, .ref k4, .int i2, .ref k5, .int i3, .ref k6, .ref k7, .ref k8, .int i4, .ref k9, .ref k10, .int i5, .ref k11, .ref k12, .ref h1, .int i6, .ref k13, .int i7, .ref k14, .ref k15, .int i8, .int i9, .int i10, .ref k16, .int i11, .ref k17, .ref k18, .ref k19, .ref k20, .ref k21, .ref k22, .ref k23, .ref k24, .ref k25, .ref k26, .ref k27, .ref k28, .ref k29, .ref k30, .ref k31, .int i12, .int t5_0, .int t5_1, .int t5_2, .int t5_5, .ref k32, .ref k33, .ref k34, .ref k35, .ref k36, .ref k37, .int i17, .ref k38])), (h1, aI cI 120 f18)] := hD
          refine lv_aload_n hx hb dX9_findOuter_94 rfl (lv_at hl 6 rfl) ?_
          refine lv_iload_n hx hb dX9_findOuter_95 rfl (lv_at hl 4 rfl) ?_
          refine va_put (D := G) (ci := 9) (v := .int r19) (ty := .int) (C := RX9) (T := TX9) (N := 58) hx hb hts xinX9 tyX9 tyX9_ok nmX9 hown hK hP hD hS 0 rfl rfl 46 (by decide) (hts _ wo_561) (fun _ h9 => h9) rfl (by decide +kernel) rfl rfl (Nat.le_of_ble_eq_true rfl) dX9_findOuter_96 (fun H locs hP hD hS => ?_)
          replace hP : va_P G vwCl [(h0, .inr (9, [.int i0, .int i1, .ref k0, .ref k1, .ref k2, .ref k3, .ref k4, .int i2, .ref k5, .int i3, .ref k6, .ref k7, .ref k8, .int i4, .ref k9, .ref k10, .int i5, .ref k11, .ref k12, .ref h1, .int i6, .ref k13, .int i7, .ref k14, .ref k15, .int i8, .int i9, .int i10, .ref k16, .int i11, .ref k17, .ref k18, .ref k19, .ref k20, .ref k21, .ref k22, .ref k23, .ref k24, .ref k25, .ref k26, .ref k27, .ref k28, .ref k29, .ref k30, .ref k31, .int i12, .int r19, .int t5_1, .int t5_2, .int t5_5, .ref k32, .ref k33, .ref k34, .ref k35, .ref k36, .ref k37, .int i17, .ref k38])), (h1, aI cI 120 f18)] H := hP
          replace hD : va_D A [(h0, .inr (9, [.int i0, .int i1, .ref k0, .ref k1, .ref k2, .ref k3, .ref k4, .int i2, .ref k5, .int i3, .ref k6, .ref k7, .ref k8, .int i4, .ref k9, .ref k10, .int i5, .ref k11, .ref k12, .ref h1, .int i6, .ref k13, .int i7, .ref k14, .ref k15, .int i8, .int i9, .int i10, .ref k16, .int i11, .ref k17, .ref k18, .ref k19, .ref k20, .ref k21, .ref k22, .ref k23, .ref k24, .ref k25, .ref k26, .ref k27, .ref k28, .ref k29, .ref k30, .ref k31, .int i12, .int r19, .int t5_1, .int t5_2, .int t5_5, .ref k32, .ref k33, .ref k34, .ref k35, .ref k36, .ref k37, .int i17, .ref k38])), (h1, aI cI 120 f18)] := hD
          refine lv_aload_n hx hb dX9_findOuter_99 rfl (lv_at hl 6 rfl) ?_
          refine lv_iload hx hb dX9_findOuter_100 (lv_at hl 3 rfl) ?_
          refine va_put (D := G) (ci := 9) (v := .int r35) (ty := .int) (C := RX9) (T := TX9) (N := 58) hx hb hts xinX9 tyX9 tyX9_ok nmX9 hown hK hP hD hS 0 rfl rfl 47 (by decide) (hts _ wo_562) (fun _ h9 => h9) rfl (by decide +kernel) rfl rfl (Nat.le_of_ble_eq_true rfl) dX9_findOuter_102 (fun H locs hP hD hS => ?_)
          replace hP : va_P G vwCl [(h0, .inr (9, [.int i0, .int i1, .ref k0, .ref k1, .ref k2, .ref k3, .ref k4, .int i2, .ref k5, .int i3, .ref k6, .ref k7, .ref k8, .int i4, .ref k9, .ref k10, .int i5, .ref k11, .ref k12, .ref h1, .int i6, .ref k13, .int i7, .ref k14, .ref k15, .int i8, .int i9, .int i10, .ref k16, .int i11, .ref k17, .ref k18, .ref k19, .ref k20, .ref k21, .ref k22, .ref k23, .ref k24, .ref k25, .ref k26, .ref k27, .ref k28, .ref k29, .ref k30, .ref k31, .int i12, .int r19, .int r35, .int t5_2, .int t5_5, .ref k32, .ref k33, .ref k34, .ref k35, .ref k36, .ref k37, .int i17, .ref k38])), (h1, aI cI 120 f18)] H := hP
          replace hD : va_D A [(h0, .inr (9, [.int i0, .int i1, .ref k0, .ref k1, .ref k2, .ref k3, .ref k4, .int i2, .ref k5, .int i3, .ref k6, .ref k7, .ref k8, .int i4, .ref k9, .ref k10, .int i5, .ref k11, .ref k12, .ref h1, .int i6, .ref k13, .int i7, .ref k14, .ref k15, .int i8, .int i9, .int i10, .ref k16, .int i11, .ref k17, .ref k18, .ref k19, .ref k20, .ref k21, .ref k22, .ref k23, .ref k24, .ref k25, .ref k26, .ref k27, .ref k28, .ref k29, .ref k30, .ref k31, .int i12, .int r19, .int r35, .int t5_2, .int t5_5, .ref k32, .ref k33, .ref k34, .ref k35, .ref k36, .ref k37, .int i17, .ref k38])), (h1, aI cI 120 f18)] := hD
          refine lv_aload_n hx hb dX9_findOuter_105 rfl (lv_at hl 6 rfl) ?_
          refine lv_iload hx hb dX9_findOuter_106 (lv_at hl 2 rfl) ?_
          refine va_put (D := G) (ci := 9) (v := .int r59) (ty := .int) (C := RX9) (T := TX9) (N := 58) hx hb hts xinX9 tyX9 tyX9_ok nmX9 hown hK hP hD hS 0 rfl rfl 48 (by decide) (hts _ wo_563) (fun _ h9 => h9) rfl (by decide +kernel) rfl rfl (Nat.le_of_ble_eq_true rfl) dX9_findOuter_108 (fun H locs hP hD hS => ?_)
          replace hP : va_P G vwCl [(h0, .inr (9, [.int i0, .int i1, .ref k0, .ref k1, .ref k2, .ref k3, .ref k4, .int i2, .ref k5, .int i3, .ref k6, .ref k7, .ref k8, .int i4, .ref k9, .ref k10, .int i5, .ref k11, .ref k12, .ref h1, .int i6, .ref k13, .int i7, .ref k14, .ref k15, .int i8, .int i9, .int i10, .ref k16, .int i11, .ref k17, .ref k18, .ref k19, .ref k20, .ref k21, .ref k22, .ref k23, .ref k24, .ref k25, .ref k26, .ref k27, .ref k28, .ref k29, .ref k30, .ref k31, .int i12, .int r19, .int r35, .int r59, .int t5_5, .ref k32, .ref k33, .ref k34, .ref k35, .ref k36, .ref k37, .int i17, .ref k38])), (h1, aI cI 120 f18)] H := hP
          replace hD : va_D A [(h0, .inr (9, [.int i0, .int i1, .ref k0, .ref k1, .ref k2, .ref k3, .ref k4, .int i2, .ref k5, .int i3, .ref k6, .ref k7, .ref k8, .int i4, .ref k9, .ref k10, .int i5, .ref k11, .ref k12, .ref h1, .int i6, .ref k13, .int i7, .ref k14, .ref k15, .int i8, .int i9, .int i10, .ref k16, .int i11, .ref k17, .ref k18, .ref k19, .ref k20, .ref k21, .ref k22, .ref k23, .ref k24, .ref k25, .ref k26, .ref k27, .ref k28, .ref k29, .ref k30, .ref k31, .int i12, .int r19, .int r35, .int r59, .int t5_5, .ref k32, .ref k33, .ref k34, .ref k35, .ref k36, .ref k37, .int i17, .ref k38])), (h1, aI cI 120 f18)] := hD
          refine lv_iinc (v := (t5_5 + 1)) (lv' := [(2, .int (t5_5 + 1)), (1, .int v78), (6, .int v78), (5, .int r59), (4, .int r35), (3, .int r19), (0, .ref h0)]) hx hb dX9_findOuter_111 hl (k := 5) rfl rfl (by decide) rfl (fun ls hl => ?_)
          refine lv_goto (tgt := 5) hx hb dX9_findOuter_114 (by decide) ?_
          replace hl : lv_has ls 7 [(2, .int (t5_5 + 1)), (1, .int v78), (0, .ref h0)] := lv_sub hl [0, 1, 6] rfl
          exact ih1 H locs ls r19 r35 r59 t5_5 v78 (t5_5 + 1) hwp hP hD hS hl
  exact hs1 n1 H locs ls i13 i14 i15 i16 1000000 0 hwp hP hD hS hl
def wLX9_takeOff_295 (i12 : Int32) (p0 : Int32) (g34 : Nat → Int32) (g42 : Nat → Int32) (t83_0 : Nat → Int32) (t83_1 : Nat → Int32) (t83_2 : Int32) (K : (Int32 × (Nat → Int32) × (Nat → Int32) × (Nat → Int32) × (Nat → Int32) × (Nat → Int32)) → Prop)  : Nat → (Nat → Int32) → Int32 → Prop
  | 0, _, _ => False
  | n295 + 1, t295_0, t295_1 => ((t83_2 ≤ t295_1 → (∀ v334 : Int32, v334 = (i12 + (t83_2 - 1)) → K (v334, t295_0, g34, g42, t83_0, t83_1))) ∧ (¬ t83_2 ≤ t295_1 → (vp_in t295_1 20 ∧ (vp_in (p0 + t295_1) 24 ∧ (∀ g317 : Nat → Int32, g317 = upd t295_0 (Int32.toNatClampNeg (p0 + t295_1)) (t83_0 (Int32.toNatClampNeg t295_1)) → (wLX9_takeOff_295 i12 p0 g34 g42 t83_0 t83_1 t83_2 K  n295) g317 (t295_1 + 1))))))
def wLX9_takeOff_261 (i12 : Int32) (p0 : Int32) (g34 : Nat → Int32) (g42 : Nat → Int32) (t83_0 : Nat → Int32) (t83_1 : Nat → Int32) (t83_2 : Int32) (K : (Int32 × (Nat → Int32) × (Nat → Int32) × (Nat → Int32) × (Nat → Int32) × (Nat → Int32)) → Prop)  : Nat → (Nat → Int32) → Int32 → Prop
  | 0, _, _ => False
  | n261 + 1, t261_0, t261_1 => ((t261_1 ≤ p0 → (∃ n295, wLX9_takeOff_295 i12 p0 g34 g42 t83_0 t83_1 t83_2 K  n295 t261_0 0)) ∧ (¬ t261_1 ≤ p0 → (vp_in t261_1 24 ∧ (vp_in ((t261_1 + t83_2) - 1) 24 ∧ (∀ g285 : Nat → Int32, g285 = upd t261_0 (Int32.toNatClampNeg ((t261_1 + t83_2) - 1)) (t261_0 (Int32.toNatClampNeg t261_1)) → (wLX9_takeOff_261 i12 p0 g34 g42 t83_0 t83_1 t83_2 K  n261) g285 (t261_1 + (-1)))))))
def wLX9_takeOff_217 (i12 : Int32) (g34 : Nat → Int32) (g42 : Nat → Int32) (t83_0 : Nat → Int32) (t83_1 : Nat → Int32) (t83_2 : Int32) (K : (Int32 × (Nat → Int32) × (Nat → Int32) × (Nat → Int32) × (Nat → Int32) × (Nat → Int32)) → Prop)  : Nat → (Nat → Int32) → Int32 → Prop
  | 0, _, _ => False
  | n217 + 1, t217_0, t217_1 => ((i12 ≤ (t217_1 + 1) → (∀ v334 : Int32, v334 = (i12 + (t83_2 - 1)) → K (v334, t217_0, g34, g42, t83_0, t83_1))) ∧ (¬ i12 ≤ (t217_1 + 1) → (vp_in (t217_1 + 1) 24 ∧ (vp_in t217_1 24 ∧ (∀ g243 : Nat → Int32, g243 = upd t217_0 (Int32.toNatClampNeg t217_1) (t217_0 (Int32.toNatClampNeg (t217_1 + 1))) → (wLX9_takeOff_217 i12 g34 g42 t83_0 t83_1 t83_2 K  n217) g243 (t217_1 + 1))))))
def wLX9_takeOff_295_1 (i12 : Int32) (p0 : Int32) (g34 : Nat → Int32) (g42 : Nat → Int32) (t83_0 : Nat → Int32) (t83_1 : Nat → Int32) (t83_2 : Int32) (K : (Int32 × (Nat → Int32) × (Nat → Int32) × (Nat → Int32) × (Nat → Int32) × (Nat → Int32)) → Prop)  : Nat → (Nat → Int32) → Int32 → Prop
  | 0, _, _ => False
  | n295 + 1, t295_0, t295_1 => ((t83_2 ≤ t295_1 → (∀ v334 : Int32, v334 = (i12 + (t83_2 - 1)) → K (v334, t295_0, g34, g42, t83_0, t83_1))) ∧ (¬ t83_2 ≤ t295_1 → (vp_in t295_1 20 ∧ (vp_in (p0 + t295_1) 24 ∧ (∀ g317 : Nat → Int32, g317 = upd t295_0 (Int32.toNatClampNeg (p0 + t295_1)) (t83_0 (Int32.toNatClampNeg t295_1)) → (wLX9_takeOff_295_1 i12 p0 g34 g42 t83_0 t83_1 t83_2 K  n295) g317 (t295_1 + 1))))))
def wLX9_takeOff_261_1 (i12 : Int32) (p0 : Int32) (g34 : Nat → Int32) (g42 : Nat → Int32) (t83_0 : Nat → Int32) (t83_1 : Nat → Int32) (t83_2 : Int32) (K : (Int32 × (Nat → Int32) × (Nat → Int32) × (Nat → Int32) × (Nat → Int32) × (Nat → Int32)) → Prop)  : Nat → (Nat → Int32) → Int32 → Prop
  | 0, _, _ => False
  | n261 + 1, t261_0, t261_1 => ((t261_1 ≤ p0 → (∃ n295, wLX9_takeOff_295_1 i12 p0 g34 g42 t83_0 t83_1 t83_2 K  n295 t261_0 0)) ∧ (¬ t261_1 ≤ p0 → (vp_in t261_1 24 ∧ (vp_in ((t261_1 + t83_2) - 1) 24 ∧ (∀ g285 : Nat → Int32, g285 = upd t261_0 (Int32.toNatClampNeg ((t261_1 + t83_2) - 1)) (t261_0 (Int32.toNatClampNeg t261_1)) → (wLX9_takeOff_261_1 i12 p0 g34 g42 t83_0 t83_1 t83_2 K  n261) g285 (t261_1 + (-1)))))))
def wLX9_takeOff_217_1 (i12 : Int32) (g34 : Nat → Int32) (g42 : Nat → Int32) (t83_0 : Nat → Int32) (t83_1 : Nat → Int32) (t83_2 : Int32) (K : (Int32 × (Nat → Int32) × (Nat → Int32) × (Nat → Int32) × (Nat → Int32) × (Nat → Int32)) → Prop)  : Nat → (Nat → Int32) → Int32 → Prop
  | 0, _, _ => False
  | n217 + 1, t217_0, t217_1 => ((i12 ≤ (t217_1 + 1) → (∀ v334 : Int32, v334 = (i12 + (t83_2 - 1)) → K (v334, t217_0, g34, g42, t83_0, t83_1))) ∧ (¬ i12 ≤ (t217_1 + 1) → (vp_in (t217_1 + 1) 24 ∧ (vp_in t217_1 24 ∧ (∀ g243 : Nat → Int32, g243 = upd t217_0 (Int32.toNatClampNeg t217_1) (t217_0 (Int32.toNatClampNeg (t217_1 + 1))) → (wLX9_takeOff_217_1 i12 g34 g42 t83_0 t83_1 t83_2 K  n217) g243 (t217_1 + 1))))))
def wLX9_takeOff_119 (f21 : Nat → Int32) (p1 : Int32) (v6 : Int32) (v25 : Int32) (v75 : Int32) (t83_3 : Int32) (v107 : Int32) (K : (Int32 × (Nat → Int32) × (Nat → Int32) × (Nat → Int32) × (Nat → Int32) × (Nat → Int32)) → Prop) (B83_2 : (Nat → Int32) → (Nat → Int32) → Int32 → Int32 → Prop) : Nat → (Nat → Int32) → (Nat → Int32) → Int32 → Int32 → Prop
  | 0, _, _, _, _ => False
  | n119 + 1, t119_0, t119_1, t119_2, t119_3 => (vp_in (((20 : Int32) * v6) + t119_2) 400 ∧ (((f21 (Int32.toNatClampNeg (((20 : Int32) * v6) + t119_2))) = v25 → B83_2 t119_0 t119_1 t119_3 (t83_3 + 1)) ∧ (¬ (f21 (Int32.toNatClampNeg (((20 : Int32) * v6) + t119_2))) = v25 → (vp_in (((20 : Int32) * v6) + t119_2) 400 ∧ ((¬ ((p1 >>> ((f21 (Int32.toNatClampNeg (((20 : Int32) * v6) + t119_2))) &&& 31)) &&& 1) = 0 → (¬ v75 = 0 ∧ (∀ v198 : Int32, v198 = ((t119_2 + v107) - (t119_2 + v107) / v75 * v75) → (wLX9_takeOff_119 f21 p1 v6 v25 v75 t83_3 v107 K B83_2 n119) t119_0 t119_1 v198 t119_3))) ∧ (((p1 >>> ((f21 (Int32.toNatClampNeg (((20 : Int32) * v6) + t119_2))) &&& 31)) &&& 1) = 0 → (vp_in (((20 : Int32) * v6) + t119_2) 400 ∧ (vp_in t119_3 20 ∧ (∀ g173 : Nat → Int32, g173 = upd t119_0 (Int32.toNatClampNeg t119_3) (f21 (Int32.toNatClampNeg (((20 : Int32) * v6) + t119_2))) → (vp_in t119_3 20 ∧ (vp_in (g173 (Int32.toNatClampNeg t119_3)) 20 ∧ (∀ g186 : Nat → Int32, g186 = upd t119_1 (Int32.toNatClampNeg (g173 (Int32.toNatClampNeg t119_3))) v6 → (¬ v75 = 0 ∧ (∀ v198 : Int32, v198 = ((t119_2 + v107) - (t119_2 + v107) / v75 * v75) → (wLX9_takeOff_119 f21 p1 v6 v25 v75 t83_3 v107 K B83_2 n119) g173 g186 v198 (t119_3 + 1)))))))))))))))
def wLX9_takeOff_119_1 (f21 : Nat → Int32) (p1 : Int32) (v6 : Int32) (v25 : Int32) (v75 : Int32) (t83_3 : Int32) (K : (Int32 × (Nat → Int32) × (Nat → Int32) × (Nat → Int32) × (Nat → Int32) × (Nat → Int32)) → Prop) (B83_2 : (Nat → Int32) → (Nat → Int32) → Int32 → Int32 → Prop) : Nat → (Nat → Int32) → (Nat → Int32) → Int32 → Int32 → Prop
  | 0, _, _, _, _ => False
  | n119 + 1, t119_0, t119_1, t119_2, t119_3 => (vp_in (((20 : Int32) * v6) + t119_2) 400 ∧ (((f21 (Int32.toNatClampNeg (((20 : Int32) * v6) + t119_2))) = v25 → B83_2 t119_0 t119_1 t119_3 (t83_3 + 1)) ∧ (¬ (f21 (Int32.toNatClampNeg (((20 : Int32) * v6) + t119_2))) = v25 → (vp_in (((20 : Int32) * v6) + t119_2) 400 ∧ ((¬ ((p1 >>> ((f21 (Int32.toNatClampNeg (((20 : Int32) * v6) + t119_2))) &&& 31)) &&& 1) = 0 → (¬ v75 = 0 ∧ (∀ v198 : Int32, v198 = ((t119_2 + 1) - (t119_2 + 1) / v75 * v75) → (wLX9_takeOff_119_1 f21 p1 v6 v25 v75 t83_3 K B83_2 n119) t119_0 t119_1 v198 t119_3))) ∧ (((p1 >>> ((f21 (Int32.toNatClampNeg (((20 : Int32) * v6) + t119_2))) &&& 31)) &&& 1) = 0 → (vp_in (((20 : Int32) * v6) + t119_2) 400 ∧ (vp_in t119_3 20 ∧ (∀ g173 : Nat → Int32, g173 = upd t119_0 (Int32.toNatClampNeg t119_3) (f21 (Int32.toNatClampNeg (((20 : Int32) * v6) + t119_2))) → (vp_in t119_3 20 ∧ (vp_in (g173 (Int32.toNatClampNeg t119_3)) 20 ∧ (∀ g186 : Nat → Int32, g186 = upd t119_1 (Int32.toNatClampNeg (g173 (Int32.toNatClampNeg t119_3))) v6 → (¬ v75 = 0 ∧ (∀ v198 : Int32, v198 = ((t119_2 + 1) - (t119_2 + 1) / v75 * v75) → (wLX9_takeOff_119_1 f21 p1 v6 v25 v75 t83_3 K B83_2 n119) g173 g186 v198 (t119_3 + 1)))))))))))))))
def wLX9_takeOff_83 (i12 : Int32) (f18 : Nat → Int32) (f21 : Nat → Int32) (p0 : Int32) (p1 : Int32) (v6 : Int32) (v25 : Int32) (g34 : Nat → Int32) (g42 : Nat → Int32) (t46_0 : Int32) (v75 : Int32) (K : (Int32 × (Nat → Int32) × (Nat → Int32) × (Nat → Int32) × (Nat → Int32) × (Nat → Int32)) → Prop)  : Nat → (Nat → Int32) → (Nat → Int32) → Int32 → Int32 → Prop
  | 0, _, _, _, _ => False
  | n83 + 1, t83_0, t83_1, t83_2, t83_3 => ((2 ≤ t83_3 → ((¬ t83_2 = 0 → (∀ v259 : Int32, v259 = (i12 - 1) → (∃ n261, wLX9_takeOff_261 i12 p0 g34 g42 t83_0 t83_1 t83_2 K  n261 f18 v259))) ∧ (t83_2 = 0 → (∃ n217, wLX9_takeOff_217 i12 g34 g42 t83_0 t83_1 t83_2 K  n217 f18 p0)))) ∧ (¬ 2 ≤ t83_3 → ((¬ t83_2 = 0 → ((¬ t83_2 = 0 → (∀ v259 : Int32, v259 = (i12 - 1) → (∃ n261, wLX9_takeOff_261_1 i12 p0 g34 g42 t83_0 t83_1 t83_2 K  n261 f18 v259))) ∧ (t83_2 = 0 → (∃ n217, wLX9_takeOff_217_1 i12 g34 g42 t83_0 t83_1 t83_2 K  n217 f18 p0)))) ∧ (t83_2 = 0 → ((¬ t83_3 = 0 → (∀ v107 : Int32, v107 = (v75 - 1) → (¬ v75 = 0 ∧ (∀ v117 : Int32, v117 = ((t46_0 + v107) - (t46_0 + v107) / v75 * v75) → (∃ n119, wLX9_takeOff_119 f21 p1 v6 v25 v75 t83_3 v107 K (fun z0 z1 z2 z3 => (wLX9_takeOff_83 i12 f18 f21 p0 p1 v6 v25 g34 g42 t46_0 v75 K  n83) z0 z1 z2 z3) n119 t83_0 t83_1 v117 t83_2))))) ∧ (t83_3 = 0 → (¬ v75 = 0 ∧ (∀ v117 : Int32, v117 = ((t46_0 + 1) - (t46_0 + 1) / v75 * v75) → (∃ n119, wLX9_takeOff_119_1 f21 p1 v6 v25 v75 t83_3 K (fun z0 z1 z2 z3 => (wLX9_takeOff_83 i12 f18 f21 p0 p1 v6 v25 g34 g42 t46_0 v75 K  n83) z0 z1 z2 z3) n119 t83_0 t83_1 v117 t83_2)))))))))
def wLX9_takeOff_46 (i12 : Int32) (f18 : Nat → Int32) (f21 : Nat → Int32) (f22 : Nat → Int32) (f23 : Nat → Int32) (f24 : Nat → Int32) (p0 : Int32) (p1 : Int32) (v6 : Int32) (v15 : Int32) (v25 : Int32) (g34 : Nat → Int32) (g42 : Nat → Int32) (K : (Int32 × (Nat → Int32) × (Nat → Int32) × (Nat → Int32) × (Nat → Int32) × (Nat → Int32)) → Prop)  : Nat → Int32 → Prop
  | 0, _ => False
  | n46 + 1, t46_0 => (vp_in (((20 : Int32) * v6) + t46_0) 400 ∧ (((f21 (Int32.toNatClampNeg (((20 : Int32) * v6) + t46_0))) = v15 → (vp_in v6 20 ∧ (∀ v75 : Int32, v75 = (f22 (Int32.toNatClampNeg v6)) → (∃ n83, wLX9_takeOff_83 i12 f18 f21 p0 p1 v6 v25 g34 g42 t46_0 v75 K  n83 f23 f24 0 0)))) ∧ (¬ (f21 (Int32.toNatClampNeg (((20 : Int32) * v6) + t46_0))) = v15 → (wLX9_takeOff_46 i12 f18 f21 f22 f23 f24 p0 p1 v6 v15 v25 g34 g42 K  n46) (t46_0 + 1))))
def wX9_takeOff (i0 : Int32) (i1 : Int32) (i2 : Int32) (i3 : Int32) (i4 : Int32) (i5 : Int32) (i6 : Int32) (i7 : Int32) (i8 : Int32) (i9 : Int32) (i10 : Int32) (i11 : Int32) (i12 : Int32) (i13 : Int32) (i14 : Int32) (i15 : Int32) (i16 : Int32) (i17 : Int32) (f18 : Nat → Int32) (f19 : Nat → Int32) (f20 : Nat → Int32) (f21 : Nat → Int32) (f22 : Nat → Int32) (f23 : Nat → Int32) (f24 : Nat → Int32) (p0 : Int32) (p1 : Int32) (K : (Int32 × (Nat → Int32) × (Nat → Int32) × (Nat → Int32) × (Nat → Int32) × (Nat → Int32)) → Prop) : Prop := (vp_in p0 24 ∧ (∀ v6 : Int32, v6 = (f18 (Int32.toNatClampNeg p0)) → (vp_in (p0 - 1) 24 ∧ (∀ v15 : Int32, v15 = (f18 (Int32.toNatClampNeg (p0 - 1))) → (vp_in (p0 + 1) 24 ∧ (∀ v25 : Int32, v25 = (f18 (Int32.toNatClampNeg (p0 + 1))) → (vp_in v6 20 ∧ (∀ g34 : Nat → Int32, g34 = upd f19 (Int32.toNatClampNeg v6) v15 → (vp_in v6 20 ∧ (∀ g42 : Nat → Int32, g42 = upd f20 (Int32.toNatClampNeg v6) v25 → (∃ n46, wLX9_takeOff_46 i12 f18 f21 f22 f23 f24 p0 p1 v6 v15 v25 g34 g42 K  n46 0)))))))))))
set_option maxHeartbeats 4000000 in
set_option maxRecDepth 100000 in
theorem zX9_takeOff (l : Launch) (G : va_G) (cI cJ cZ : ClassId) (h0 h1 h2 h3 h4 h5 h6 h7 k0 k1 k2 k3 k4 k5 k6 k7 k8 k9 k10 k11 k12 k13 k14 k15 k16 k17 k18 k19 k20 k21 k22 k23 k24 k25 k26 k27 k28 k29 k30 k31 k32 sz : Nat) (i0 : Int32) (i1 : Int32) (i2 : Int32) (i3 : Int32) (i4 : Int32) (i5 : Int32) (i6 : Int32) (i7 : Int32) (i8 : Int32) (i9 : Int32) (i10 : Int32) (i11 : Int32) (i12 : Int32) (i13 : Int32) (i14 : Int32) (i15 : Int32) (i16 : Int32) (i17 : Int32) (f18 : Nat → Int32) (f19 : Nat → Int32) (f20 : Nat → Int32) (f21 : Nat → Int32) (f22 : Nat → Int32) (f23 : Nat → Int32) (f24 : Nat → Int32) (p0 : Int32) (p1 : Int32) (K : (Int32 × (Nat → Int32) × (Nat → Int32) × (Nat → Int32) × (Nat → Int32) × (Nat → Int32)) → Prop) (hwp : wX9_takeOff i0 i1 i2 i3 i4 i5 i6 i7 i8 i9 i10 i11 i12 i13 i14 i15 i16 i17 f18 f19 f20 f21 f22 f23 f24 p0 p1 K) : Met l yX9_takeOff (xw yX9_takeOff cX9_takeOff 12 none) ({ frames := 0, cells := 0, slots := 0, locals := 0 }) (xPc G cI cJ cZ [.ref h0, .int p0, .int p1] [(h0, .inr (9, [.int i0, .int i1, .ref k0, .ref k1, .ref k2, .ref k3, .ref k4, .int i2, .ref k5, .int i3, .ref k6, .ref k7, .ref k8, .int i4, .ref k9, .ref k10, .int i5, .ref k11, .ref k12, .ref k13, .int i6, .ref k14, .int i7, .ref k15, .ref k16, .int i8, .int i9, .int i10, .ref k17, .int i11, .ref k18, .ref k19, .ref k20, .ref h4, .ref h5, .ref k21, .ref k22, .ref k23, .ref k24, .ref k25, .ref k26, .ref h2, .ref h3, .ref h7, .ref h1, .int i12, .int i13, .int i14, .int i15, .int i16, .ref h6, .ref k27, .ref k28, .ref k29, .ref k30, .ref k31, .int i17, .ref k32])), (h1, aI cI 24 f18), (h2, aI cI 20 f19), (h3, aI cI 20 f20), (h4, aI cI 400 f21), (h5, aI cI 20 f22), (h6, aI cI 20 f23), (h7, aI cI 20 f24)] sz) (va_Qv (fun (u : Int32 × (Nat → Int32) × (Nat → Int32) × (Nat → Int32) × (Nat → Int32) × (Nat → Int32)) => K u) (fun (u : Int32 × (Nat → Int32) × (Nat → Int32) × (Nat → Int32) × (Nat → Int32) × (Nat → Int32)) t => xB G (va_A [(h0, .inr (9, [.int i0, .int i1, .ref k0, .ref k1, .ref k2, .ref k3, .ref k4, .int i2, .ref k5, .int i3, .ref k6, .ref k7, .ref k8, .int i4, .ref k9, .ref k10, .int i5, .ref k11, .ref k12, .ref k13, .int i6, .ref k14, .int i7, .ref k15, .ref k16, .int i8, .int i9, .int i10, .ref k17, .int i11, .ref k18, .ref k19, .ref k20, .ref h4, .ref h5, .ref k21, .ref k22, .ref k23, .ref k24, .ref k25, .ref k26, .ref h2, .ref h3, .ref h7, .ref h1, .int i12, .int i13, .int i14, .int i15, .int i16, .ref h6, .ref k27, .ref k28, .ref k29, .ref k30, .ref k31, .int i17, .ref k32])), (h1, aI cI 24 f18), (h2, aI cI 20 f19), (h3, aI cI 20 f20), (h4, aI cI 400 f21), (h5, aI cI 20 f22), (h6, aI cI 20 f23), (h7, aI cI 20 f24)] sz) [(h0, .inr (9, [.int i0, .int i1, .ref k0, .ref k1, .ref k2, .ref k3, .ref k4, .int i2, .ref k5, .int i3, .ref k6, .ref k7, .ref k8, .int i4, .ref k9, .ref k10, .int i5, .ref k11, .ref k12, .ref k13, .int i6, .ref k14, .int i7, .ref k15, .ref k16, .int i8, .int i9, .int i10, .ref k17, .int i11, .ref k18, .ref k19, .ref k20, .ref h4, .ref h5, .ref k21, .ref k22, .ref k23, .ref k24, .ref k25, .ref k26, .ref h2, .ref h3, .ref h7, .ref h1, .int u.1, .int i13, .int i14, .int i15, .int i16, .ref h6, .ref k27, .ref k28, .ref k29, .ref k30, .ref k31, .int i17, .ref k32])), (h1, aI cI 24 u.2.1), (h2, aI cI 20 u.2.2.1), (h3, aI cI 20 u.2.2.2.1), (h4, aI cI 400 f21), (h5, aI cI 20 f22), (h6, aI cI 20 u.2.2.2.2.1), (h7, aI cI 20 u.2.2.2.2.2)] t) (va_A [(h0, .inr (9, [.int i0, .int i1, .ref k0, .ref k1, .ref k2, .ref k3, .ref k4, .int i2, .ref k5, .int i3, .ref k6, .ref k7, .ref k8, .int i4, .ref k9, .ref k10, .int i5, .ref k11, .ref k12, .ref k13, .int i6, .ref k14, .int i7, .ref k15, .ref k16, .int i8, .int i9, .int i10, .ref k17, .int i11, .ref k18, .ref k19, .ref k20, .ref h4, .ref h5, .ref k21, .ref k22, .ref k23, .ref k24, .ref k25, .ref k26, .ref h2, .ref h3, .ref h7, .ref h1, .int i12, .int i13, .int i14, .int i15, .int i16, .ref h6, .ref k27, .ref k28, .ref k29, .ref k30, .ref k31, .int i17, .ref k32])), (h1, aI cI 24 f18), (h2, aI cI 20 f19), (h3, aI cI 20 f20), (h4, aI cI 400 f21), (h5, aI cI 20 f22), (h6, aI cI 20 f23), (h7, aI cI 20 f24)] sz)) 0 0 (va_A [(h0, .inr (9, [.int i0, .int i1, .ref k0, .ref k1, .ref k2, .ref k3, .ref k4, .int i2, .ref k5, .int i3, .ref k6, .ref k7, .ref k8, .int i4, .ref k9, .ref k10, .int i5, .ref k11, .ref k12, .ref k13, .int i6, .ref k14, .int i7, .ref k15, .ref k16, .int i8, .int i9, .int i10, .ref k17, .int i11, .ref k18, .ref k19, .ref k20, .ref h4, .ref h5, .ref k21, .ref k22, .ref k23, .ref k24, .ref k25, .ref k26, .ref h2, .ref h3, .ref h7, .ref h1, .int i12, .int i13, .int i14, .int i15, .int i16, .ref h6, .ref k27, .ref k28, .ref k29, .ref k30, .ref k31, .int i17, .ref k32])), (h1, aI cI 24 f18), (h2, aI cI 20 f19), (h3, aI cI 20 f20), (h4, aI cI 400 f21), (h5, aI cI 20 f22), (h6, aI cI 20 f23), (h7, aI cI 20 f24)] sz) := by
  refine Met.ofW (cc := cX9_takeOff) (maxL := 12) (ret := none) (by decide) rfl ?_
  intro p e s m args below meth c s₁ B hml hv
  obtain ⟨rfl, hsz, hP, hK, hD0, hN⟩ := hv
  have hx := B.exec
  have hb := B.bytes
  have hr := B.returns
  have hts : ∀ w ∈ xW, w.before _ s = true := fun w h => atoms_spec (ws := xw yX9_takeOff cX9_takeOff 12 none) B.pre w (List.mem_cons_of_mem _ h)
  have hown : s.vm.findClass RX9 = some m.cls := findClass_of_methodNamed B.named
  have hlocks := B.notSynchronized
  subst hsz
  have hD := hD0.self (sz := s.heap.size)
  clear hD0
  generalize hAe : va_A [(h0, .inr (9, [.int i0, .int i1, .ref k0, .ref k1, .ref k2, .ref k3, .ref k4, .int i2, .ref k5, .int i3, .ref k6, .ref k7, .ref k8, .int i4, .ref k9, .ref k10, .int i5, .ref k11, .ref k12, .ref k13, .int i6, .ref k14, .int i7, .ref k15, .ref k16, .int i8, .int i9, .int i10, .ref k17, .int i11, .ref k18, .ref k19, .ref k20, .ref h4, .ref h5, .ref k21, .ref k22, .ref k23, .ref k24, .ref k25, .ref k26, .ref h2, .ref h3, .ref h7, .ref h1, .int i12, .int i13, .int i14, .int i15, .int i16, .ref h6, .ref k27, .ref k28, .ref k29, .ref k30, .ref k31, .int i17, .ref k32])), (h1, aI cI 24 f18), (h2, aI cI 20 f19), (h3, aI cI 20 f20), (h4, aI cI 400 f21), (h5, aI cI 20 f22), (h6, aI cI 20 f23), (h7, aI cI 20 f24)] s.heap.size = A at hD ⊢
  have hA : ∀ q : Nat, s.heap.size ≤ q → A q := fun q h => by rw [← hAe]; exact Or.inr h
  clear hAe
  have hS : va_S A s.heap s.heap [] := va_S.rf
  replace hP : va_P G vwCl [(h0, .inr (9, [.int i0, .int i1, .ref k0, .ref k1, .ref k2, .ref k3, .ref k4, .int i2, .ref k5, .int i3, .ref k6, .ref k7, .ref k8, .int i4, .ref k9, .ref k10, .int i5, .ref k11, .ref k12, .ref k13, .int i6, .ref k14, .int i7, .ref k15, .ref k16, .int i8, .int i9, .int i10, .ref k17, .int i11, .ref k18, .ref k19, .ref k20, .ref h4, .ref h5, .ref k21, .ref k22, .ref k23, .ref k24, .ref k25, .ref k26, .ref h2, .ref h3, .ref h7, .ref h1, .int i12, .int i13, .int i14, .int i15, .int i16, .ref h6, .ref k27, .ref k28, .ref k29, .ref k30, .ref k31, .int i17, .ref k32])), (h1, aI cI 24 f18), (h2, aI cI 20 f19), (h3, aI cI 20 f20), (h4, aI cI 400 f21), (h5, aI cI 20 f22), (h6, aI cI 20 f23), (h7, aI cI 20 f24)] s.heap := hP
  have hl := lv_entry ([.ref h0, .int p0, .int p1]) (n := 12) (Nat.le_of_ble_eq_true rfl)
  rw [lg_entry_eq]
  generalize (lg_sl ([.ref h0, .int p0, .int p1]) ++ List.replicate (12 - (lg_sl ([.ref h0, .int p0, .int p1])).length) Slot.unset).toArray = ls at hl ⊢
  replace hl : lv_has ls 12 [(0, .ref h0), (1, .int p0), (2, .int p1)] := hl
  generalize hQQ : MQ below _ _ s 0 0 _ = QQ
  skip
  unfold wX9_takeOff at hwp
  refine lv_aload_n hx hb dX9_takeOff_0 rfl (lv_at hl 0 rfl) ?_
  refine va_get (D := G) (ci := 9) (v := .ref h1) (C := RX9) (T := TX9) (N := 58) hx hb hts xinX9 hown hK hP 0 rfl rfl 44 (by decide) (hts _ wo_564) (fun _ h9 => h9) rfl dX9_takeOff_1 ?_
  refine lv_iload_n hx hb dX9_takeOff_4 rfl (lv_at hl 1 rfl) ?_
  obtain ⟨hi, hwp⟩ := hwp
  refine va_iald hx hb hK hP 1 0 rfl rfl hi dX9_takeOff_5 ?_
  refine lv_topi (fun v6 ev6 => ?_)
  replace hwp := hwp v6 ev6
  clear ev6
  refine lv_istore_n (lv' := [(3, .int v6), (0, .ref h0), (1, .int p0), (2, .int p1)]) hx hb dX9_takeOff_6 rfl hl (by decide) rfl (fun ls hl => ?_)
  refine lv_aload_n hx hb dX9_takeOff_7 rfl (lv_at hl 1 rfl) ?_
  refine va_get (D := G) (ci := 9) (v := .ref h1) (C := RX9) (T := TX9) (N := 58) hx hb hts xinX9 hown hK hP 0 rfl rfl 44 (by decide) (hts _ wo_564) (fun _ h9 => h9) rfl dX9_takeOff_8 ?_
  refine lv_iload_n hx hb dX9_takeOff_11 rfl (lv_at hl 2 rfl) ?_
  refine lv_iconst (v := 1) hx hb dX9_takeOff_12 (by decide) ?_
  refine lv_isub hx hb dX9_takeOff_13 ?_
  obtain ⟨hi, hwp⟩ := hwp
  refine va_iald hx hb hK hP 1 0 rfl rfl hi dX9_takeOff_14 ?_
  refine lv_topi (fun v15 ev15 => ?_)
  replace hwp := hwp v15 ev15
  clear ev15
  refine lv_istore (lv' := [(4, .int v15), (3, .int v6), (0, .ref h0), (1, .int p0), (2, .int p1)]) hx hb dX9_takeOff_15 hl (by decide) rfl (fun ls hl => ?_)
  refine lv_aload_n hx hb dX9_takeOff_17 rfl (lv_at hl 2 rfl) ?_
  refine va_get (D := G) (ci := 9) (v := .ref h1) (C := RX9) (T := TX9) (N := 58) hx hb hts xinX9 hown hK hP 0 rfl rfl 44 (by decide) (hts _ wo_564) (fun _ h9 => h9) rfl dX9_takeOff_18 ?_
  refine lv_iload_n hx hb dX9_takeOff_21 rfl (lv_at hl 3 rfl) ?_
  refine lv_iconst (v := 1) hx hb dX9_takeOff_22 (by decide) ?_
  refine lv_iadd hx hb dX9_takeOff_23 ?_
  obtain ⟨hi, hwp⟩ := hwp
  refine va_iald hx hb hK hP 1 0 rfl rfl hi dX9_takeOff_24 ?_
  refine lv_topi (fun v25 ev25 => ?_)
  replace hwp := hwp v25 ev25
  clear ev25
  refine lv_istore (lv' := [(5, .int v25), (4, .int v15), (3, .int v6), (0, .ref h0), (1, .int p0), (2, .int p1)]) hx hb dX9_takeOff_25 hl (by decide) rfl (fun ls hl => ?_)
  refine lv_aload_n hx hb dX9_takeOff_27 rfl (lv_at hl 3 rfl) ?_
  refine va_get (D := G) (ci := 9) (v := .ref h2) (C := RX9) (T := TX9) (N := 58) hx hb hts xinX9 hown hK hP 0 rfl rfl 41 (by decide) (hts _ wo_565) (fun _ h9 => h9) rfl dX9_takeOff_28 ?_
  refine lv_iload_n hx hb dX9_takeOff_31 rfl (lv_at hl 2 rfl) ?_
  refine lv_iload hx hb dX9_takeOff_32 (lv_at hl 1 rfl) ?_
  obtain ⟨hi, hwp⟩ := hwp
  refine va_iast hx hb hK hP hD hS 2 0 rfl rfl hi dX9_takeOff_34 (fun H locs hP hD hS => ?_)
  obtain ⟨g34, eg34⟩ : ∃ z, z = upd f19 (Int32.toNatClampNeg v6) v15 := ⟨_, rfl⟩
  replace hwp := hwp g34 eg34
  replace hP : va_P G vwCl [(h0, .inr (9, [.int i0, .int i1, .ref k0, .ref k1, .ref k2, .ref k3, .ref k4, .int i2, .ref k5, .int i3, .ref k6, .ref k7, .ref k8, .int i4, .ref k9, .ref k10, .int i5, .ref k11, .ref k12, .ref k13, .int i6, .ref k14, .int i7, .ref k15, .ref k16, .int i8, .int i9, .int i10, .ref k17, .int i11, .ref k18, .ref k19, .ref k20, .ref h4, .ref h5, .ref k21, .ref k22, .ref k23, .ref k24, .ref k25, .ref k26, .ref h2, .ref h3, .ref h7, .ref h1, .int i12, .int i13, .int i14, .int i15, .int i16, .ref h6, .ref k27, .ref k28, .ref k29, .ref k30, .ref k31, .int i17, .ref k32])), (h1, aI cI 24 f18), (h2, aI cI 20 g34), (h3, aI cI 20 f20), (h4, aI cI 400 f21), (h5, aI cI 20 f22), (h6, aI cI 20 f23), (h7, aI cI 20 f24)] H := by rw [eg34]; exact hP
  replace hD : va_D A [(h0, .inr (9, [.int i0, .int i1, .ref k0, .ref k1, .ref k2, .ref k3, .ref k4, .int i2, .ref k5, .int i3, .ref k6, .ref k7, .ref k8, .int i4, .ref k9, .ref k10, .int i5, .ref k11, .ref k12, .ref k13, .int i6, .ref k14, .int i7, .ref k15, .ref k16, .int i8, .int i9, .int i10, .ref k17, .int i11, .ref k18, .ref k19, .ref k20, .ref h4, .ref h5, .ref k21, .ref k22, .ref k23, .ref k24, .ref k25, .ref k26, .ref h2, .ref h3, .ref h7, .ref h1, .int i12, .int i13, .int i14, .int i15, .int i16, .ref h6, .ref k27, .ref k28, .ref k29, .ref k30, .ref k31, .int i17, .ref k32])), (h1, aI cI 24 f18), (h2, aI cI 20 g34), (h3, aI cI 20 f20), (h4, aI cI 400 f21), (h5, aI cI 20 f22), (h6, aI cI 20 f23), (h7, aI cI 20 f24)] := by rw [eg34]; exact hD
  clear eg34
  refine lv_aload_n hx hb dX9_takeOff_35 rfl (lv_at hl 3 rfl) ?_
  refine va_get (D := G) (ci := 9) (v := .ref h3) (C := RX9) (T := TX9) (N := 58) hx hb hts xinX9 hown hK hP 0 rfl rfl 42 (by decide) (hts _ wo_566) (fun _ h9 => h9) rfl dX9_takeOff_36 ?_
  refine lv_iload_n hx hb dX9_takeOff_39 rfl (lv_at hl 2 rfl) ?_
  refine lv_iload hx hb dX9_takeOff_40 (lv_at hl 0 rfl) ?_
  obtain ⟨hi, hwp⟩ := hwp
  refine va_iast hx hb hK hP hD hS 3 0 rfl rfl hi dX9_takeOff_42 (fun H locs hP hD hS => ?_)
  obtain ⟨g42, eg42⟩ : ∃ z, z = upd f20 (Int32.toNatClampNeg v6) v25 := ⟨_, rfl⟩
  replace hwp := hwp g42 eg42
  replace hP : va_P G vwCl [(h0, .inr (9, [.int i0, .int i1, .ref k0, .ref k1, .ref k2, .ref k3, .ref k4, .int i2, .ref k5, .int i3, .ref k6, .ref k7, .ref k8, .int i4, .ref k9, .ref k10, .int i5, .ref k11, .ref k12, .ref k13, .int i6, .ref k14, .int i7, .ref k15, .ref k16, .int i8, .int i9, .int i10, .ref k17, .int i11, .ref k18, .ref k19, .ref k20, .ref h4, .ref h5, .ref k21, .ref k22, .ref k23, .ref k24, .ref k25, .ref k26, .ref h2, .ref h3, .ref h7, .ref h1, .int i12, .int i13, .int i14, .int i15, .int i16, .ref h6, .ref k27, .ref k28, .ref k29, .ref k30, .ref k31, .int i17, .ref k32])), (h1, aI cI 24 f18), (h2, aI cI 20 g34), (h3, aI cI 20 g42), (h4, aI cI 400 f21), (h5, aI cI 20 f22), (h6, aI cI 20 f23), (h7, aI cI 20 f24)] H := by rw [eg42]; exact hP
  replace hD : va_D A [(h0, .inr (9, [.int i0, .int i1, .ref k0, .ref k1, .ref k2, .ref k3, .ref k4, .int i2, .ref k5, .int i3, .ref k6, .ref k7, .ref k8, .int i4, .ref k9, .ref k10, .int i5, .ref k11, .ref k12, .ref k13, .int i6, .ref k14, .int i7, .ref k15, .ref k16, .int i8, .int i9, .int i10, .ref k17, .int i11, .ref k18, .ref k19, .ref k20, .ref h4, .ref h5, .ref k21, .ref k22, .ref k23, .ref k24, .ref k25, .ref k26, .ref h2, .ref h3, .ref h7, .ref h1, .int i12, .int i13, .int i14, .int i15, .int i16, .ref h6, .ref k27, .ref k28, .ref k29, .ref k30, .ref k31, .int i17, .ref k32])), (h1, aI cI 24 f18), (h2, aI cI 20 g34), (h3, aI cI 20 g42), (h4, aI cI 400 f21), (h5, aI cI 20 f22), (h6, aI cI 20 f23), (h7, aI cI 20 f24)] := by rw [eg42]; exact hD
  clear eg42
  refine lv_iconst (v := 0) hx hb dX9_takeOff_43 (by decide) ?_
  refine lv_istore (lv' := [(6, .int 0), (5, .int v25), (4, .int v15), (3, .int v6), (0, .ref h0), (1, .int p0), (2, .int p1)]) hx hb dX9_takeOff_44 hl (by decide) rfl (fun ls hl => ?_)
  replace hl : lv_has ls 12 [(6, .int 0), (5, .int v25), (4, .int v15), (3, .int v6), (0, .ref h0), (1, .int p0), (2, .int p1)] := lv_sub hl [0, 1, 2, 3, 4, 5, 6] rfl
  obtain ⟨n1, hwp⟩ := hwp
  have hs1 : ∀ (n1 : Nat) (H : Heap) (locs : List Loc) (ls : Array Slot) (t46_0 : Int32), wLX9_takeOff_46 i12 f18 f21 f22 f23 f24 p0 p1 v6 v15 v25 g34 g42 K  n1 t46_0 → va_P G vwCl [(h0, .inr (9, [.int i0, .int i1, .ref k0, .ref k1, .ref k2, .ref k3, .ref k4, .int i2, .ref k5, .int i3, .ref k6, .ref k7, .ref k8, .int i4, .ref k9, .ref k10, .int i5, .ref k11, .ref k12, .ref k13, .int i6, .ref k14, .int i7, .ref k15, .ref k16, .int i8, .int i9, .int i10, .ref k17, .int i11, .ref k18, .ref k19, .ref k20, .ref h4, .ref h5, .ref k21, .ref k22, .ref k23, .ref k24, .ref k25, .ref k26, .ref h2, .ref h3, .ref h7, .ref h1, .int i12, .int i13, .int i14, .int i15, .int i16, .ref h6, .ref k27, .ref k28, .ref k29, .ref k30, .ref k31, .int i17, .ref k32])), (h1, aI cI 24 f18), (h2, aI cI 20 g34), (h3, aI cI 20 g42), (h4, aI cI 400 f21), (h5, aI cI 20 f22), (h6, aI cI 20 f23), (h7, aI cI 20 f24)] H → va_D A [(h0, .inr (9, [.int i0, .int i1, .ref k0, .ref k1, .ref k2, .ref k3, .ref k4, .int i2, .ref k5, .int i3, .ref k6, .ref k7, .ref k8, .int i4, .ref k9, .ref k10, .int i5, .ref k11, .ref k12, .ref k13, .int i6, .ref k14, .int i7, .ref k15, .ref k16, .int i8, .int i9, .int i10, .ref k17, .int i11, .ref k18, .ref k19, .ref k20, .ref h4, .ref h5, .ref k21, .ref k22, .ref k23, .ref k24, .ref k25, .ref k26, .ref h2, .ref h3, .ref h7, .ref h1, .int i12, .int i13, .int i14, .int i15, .int i16, .ref h6, .ref k27, .ref k28, .ref k29, .ref k30, .ref k31, .int i17, .ref k32])), (h1, aI cI 24 f18), (h2, aI cI 20 g34), (h3, aI cI 20 g42), (h4, aI cI 400 f21), (h5, aI cI 20 f22), (h6, aI cI 20 f23), (h7, aI cI 20 f24)] → va_S A s.heap H locs → lv_has ls 12 [(6, .int t46_0), (5, .int v25), (4, .int v15), (3, .int v6), (0, .ref h0), (1, .int p0), (2, .int p1)] → W p l e ((headSpec (xw yX9_takeOff cX9_takeOff 12 none) { frames := 0, cells := 0, slots := 0, locals := 0 }).room) s m ([.ref h0, .int p0, .int p1] : List Value).toArray below meth c H locs 0 0 QQ (F0 m 46 ls []) := by
    intro n1
    induction n1 with
    | zero => intro H locs ls t46_0 hwp; exact False.elim hwp
    | succ n1 ih1 =>
      intro H locs ls t46_0 hwp hP hD hS hl
      rw [wLX9_takeOff_46] at hwp
      refine lv_aload_n hx hb dX9_takeOff_46 rfl (lv_at hl 4 rfl) ?_
      refine va_get (D := G) (ci := 9) (v := .ref h4) (C := RX9) (T := TX9) (N := 58) hx hb hts xinX9 hown hK hP 0 rfl rfl 33 (by decide) (hts _ wo_551) (fun _ h9 => h9) rfl dX9_takeOff_47 ?_
      refine lv_bipush (v := 20) hx hb dX9_takeOff_50 (by decide) ?_
      refine lv_iload_n hx hb dX9_takeOff_52 rfl (lv_at hl 3 rfl) ?_
      refine lv_imul hx hb dX9_takeOff_53 ?_
      refine lv_iload hx hb dX9_takeOff_54 (lv_at hl 0 rfl) ?_
      refine lv_iadd hx hb dX9_takeOff_56 ?_
      obtain ⟨hi, hwp⟩ := hwp
      refine va_iald hx hb hK hP 4 0 rfl rfl hi dX9_takeOff_57 ?_
      refine lv_iload hx hb dX9_takeOff_58 (lv_at hl 2 rfl) ?_
      refine lv_icmp_eq (tgt := 69) hx hb dX9_takeOff_60 (by decide) (fun c60 => ?_) (fun c60 => ?_)
      · replace hwp := hwp.1 c60
        refine lv_aload_n hx hb dX9_takeOff_69 rfl (lv_at hl 4 rfl) ?_
        refine va_get (D := G) (ci := 9) (v := .ref h5) (C := RX9) (T := TX9) (N := 58) hx hb hts xinX9 hown hK hP 0 rfl rfl 34 (by decide) (hts _ wo_552) (fun _ h9 => h9) rfl dX9_takeOff_70 ?_
        refine lv_iload_n hx hb dX9_takeOff_73 rfl (lv_at hl 3 rfl) ?_
        obtain ⟨hi, hwp⟩ := hwp
        refine va_iald hx hb hK hP 5 0 rfl rfl hi dX9_takeOff_74 ?_
        refine lv_topi (fun v75 ev75 => ?_)
        replace hwp := hwp v75 ev75
        clear ev75
        refine lv_istore (lv' := [(7, .int v75), (6, .int t46_0), (5, .int v25), (4, .int v15), (3, .int v6), (0, .ref h0), (1, .int p0), (2, .int p1)]) hx hb dX9_takeOff_75 hl (by decide) rfl (fun ls hl => ?_)
        refine lv_iconst (v := 0) hx hb dX9_takeOff_77 (by decide) ?_
        refine lv_istore (lv' := [(8, .int 0), (7, .int v75), (6, .int t46_0), (5, .int v25), (4, .int v15), (3, .int v6), (0, .ref h0), (1, .int p0), (2, .int p1)]) hx hb dX9_takeOff_78 hl (by decide) rfl (fun ls hl => ?_)
        refine lv_iconst (v := 0) hx hb dX9_takeOff_80 (by decide) ?_
        refine lv_istore (lv' := [(9, .int 0), (8, .int 0), (7, .int v75), (6, .int t46_0), (5, .int v25), (4, .int v15), (3, .int v6), (0, .ref h0), (1, .int p0), (2, .int p1)]) hx hb dX9_takeOff_81 hl (by decide) rfl (fun ls hl => ?_)
        replace hl : lv_has ls 12 [(9, .int 0), (8, .int 0), (7, .int v75), (6, .int t46_0), (5, .int v25), (3, .int v6), (0, .ref h0), (1, .int p0), (2, .int p1)] := lv_sub hl [0, 1, 2, 3, 4, 6, 7, 8, 9] rfl
        obtain ⟨n2, hwp⟩ := hwp
        have hs2 : ∀ (n2 : Nat) (H : Heap) (locs : List Loc) (ls : Array Slot) (t83_0 : Nat → Int32) (t83_1 : Nat → Int32) (t83_2 : Int32) (t83_3 : Int32), wLX9_takeOff_83 i12 f18 f21 p0 p1 v6 v25 g34 g42 t46_0 v75 K  n2 t83_0 t83_1 t83_2 t83_3 → va_P G vwCl [(h0, .inr (9, [.int i0, .int i1, .ref k0, .ref k1, .ref k2, .ref k3, .ref k4, .int i2, .ref k5, .int i3, .ref k6, .ref k7, .ref k8, .int i4, .ref k9, .ref k10, .int i5, .ref k11, .ref k12, .ref k13, .int i6, .ref k14, .int i7, .ref k15, .ref k16, .int i8, .int i9, .int i10, .ref k17, .int i11, .ref k18, .ref k19, .ref k20, .ref h4, .ref h5, .ref k21, .ref k22, .ref k23, .ref k24, .ref k25, .ref k26, .ref h2, .ref h3, .ref h7, .ref h1, .int i12, .int i13, .int i14, .int i15, .int i16, .ref h6, .ref k27, .ref k28, .ref k29, .ref k30, .ref k31, .int i17, .ref k32])), (h1, aI cI 24 f18), (h2, aI cI 20 g34), (h3, aI cI 20 g42), (h4, aI cI 400 f21), (h5, aI cI 20 f22), (h6, aI cI 20 t83_0), (h7, aI cI 20 t83_1)] H → va_D A [(h0, .inr (9, [.int i0, .int i1, .ref k0, .ref k1, .ref k2, .ref k3, .ref k4, .int i2, .ref k5, .int i3, .ref k6, .ref k7, .ref k8, .int i4, .ref k9, .ref k10, .int i5, .ref k11, .ref k12, .ref k13, .int i6, .ref k14, .int i7, .ref k15, .ref k16, .int i8, .int i9, .int i10, .ref k17, .int i11, .ref k18, .ref k19, .ref k20, .ref h4, .ref h5, .ref k21, .ref k22, .ref k23, .ref k24, .ref k25, .ref k26, .ref h2, .ref h3, .ref h7, .ref h1, .int i12, .int i13, .int i14, .int i15, .int i16, .ref h6, .ref k27, .ref k28, .ref k29, .ref k30, .ref k31, .int i17, .ref k32])), (h1, aI cI 24 f18), (h2, aI cI 20 g34), (h3, aI cI 20 g42), (h4, aI cI 400 f21), (h5, aI cI 20 f22), (h6, aI cI 20 t83_0), (h7, aI cI 20 t83_1)] → va_S A s.heap H locs → lv_has ls 12 [(9, .int t83_3), (8, .int t83_2), (7, .int v75), (6, .int t46_0), (5, .int v25), (3, .int v6), (0, .ref h0), (1, .int p0), (2, .int p1)] → W p l e ((headSpec (xw yX9_takeOff cX9_takeOff 12 none) { frames := 0, cells := 0, slots := 0, locals := 0 }).room) s m ([.ref h0, .int p0, .int p1] : List Value).toArray below meth c H locs 0 0 QQ (F0 m 83 ls []) := by
          intro n2
          induction n2 with
          | zero => intro H locs ls t83_0 t83_1 t83_2 t83_3 hwp; exact False.elim hwp
          | succ n2 ih2 =>
            intro H locs ls t83_0 t83_1 t83_2 t83_3 hwp hP hD hS hl
            rw [wLX9_takeOff_83] at hwp
            refine lv_iload hx hb dX9_takeOff_83 (lv_at hl 0 rfl) ?_
            refine lv_iconst (v := 2) hx hb dX9_takeOff_85 (by decide) ?_
            refine lv_icmp_ge (tgt := 209) hx hb dX9_takeOff_86 (by decide) (fun c86 => ?_) (fun c86 => ?_)
            · replace hwp := hwp.1 c86
              refine lv_iload hx hb dX9_takeOff_209 (lv_at hl 1 rfl) ?_
              refine lv_if_ne (tgt := 253) hx hb dX9_takeOff_211 (by decide) (fun c211 => ?_) (fun c211 => ?_)
              · replace hwp := hwp.1 c211
                refine lv_aload_n hx hb dX9_takeOff_253 rfl (lv_at hl 6 rfl) ?_
                refine va_get (D := G) (ci := 9) (v := .int i12) (C := RX9) (T := TX9) (N := 58) hx hb hts xinX9 hown hK hP 0 rfl rfl 45 (by decide) (hts _ wo_567) (fun _ h9 => h9) rfl dX9_takeOff_254 ?_
                refine lv_iconst (v := 1) hx hb dX9_takeOff_257 (by decide) ?_
                refine lv_isub hx hb dX9_takeOff_258 ?_
                refine lv_topi (fun v259 ev259 => ?_)
                replace hwp := hwp v259 ev259
                clear ev259
                refine lv_istore (lv' := [(9, .int v259), (8, .int t83_2), (7, .int v75), (6, .int t46_0), (5, .int v25), (3, .int v6), (0, .ref h0), (1, .int p0), (2, .int p1)]) hx hb dX9_takeOff_259 hl (by decide) rfl (fun ls hl => ?_)
                replace hl : lv_has ls 12 [(9, .int v259), (8, .int t83_2), (0, .ref h0), (1, .int p0)] := lv_sub hl [0, 1, 6, 7] rfl
                obtain ⟨n3, hwp⟩ := hwp
                have hs3 : ∀ (n3 : Nat) (H : Heap) (locs : List Loc) (ls : Array Slot) (t261_0 : Nat → Int32) (t261_1 : Int32), wLX9_takeOff_261 i12 p0 g34 g42 t83_0 t83_1 t83_2 K  n3 t261_0 t261_1 → va_P G vwCl [(h0, .inr (9, [.int i0, .int i1, .ref k0, .ref k1, .ref k2, .ref k3, .ref k4, .int i2, .ref k5, .int i3, .ref k6, .ref k7, .ref k8, .int i4, .ref k9, .ref k10, .int i5, .ref k11, .ref k12, .ref k13, .int i6, .ref k14, .int i7, .ref k15, .ref k16, .int i8, .int i9, .int i10, .ref k17, .int i11, .ref k18, .ref k19, .ref k20, .ref h4, .ref h5, .ref k21, .ref k22, .ref k23, .ref k24, .ref k25, .ref k26, .ref h2, .ref h3, .ref h7, .ref h1, .int i12, .int i13, .int i14, .int i15, .int i16, .ref h6, .ref k27, .ref k28, .ref k29, .ref k30, .ref k31, .int i17, .ref k32])), (h1, aI cI 24 t261_0), (h2, aI cI 20 g34), (h3, aI cI 20 g42), (h4, aI cI 400 f21), (h5, aI cI 20 f22), (h6, aI cI 20 t83_0), (h7, aI cI 20 t83_1)] H → va_D A [(h0, .inr (9, [.int i0, .int i1, .ref k0, .ref k1, .ref k2, .ref k3, .ref k4, .int i2, .ref k5, .int i3, .ref k6, .ref k7, .ref k8, .int i4, .ref k9, .ref k10, .int i5, .ref k11, .ref k12, .ref k13, .int i6, .ref k14, .int i7, .ref k15, .ref k16, .int i8, .int i9, .int i10, .ref k17, .int i11, .ref k18, .ref k19, .ref k20, .ref h4, .ref h5, .ref k21, .ref k22, .ref k23, .ref k24, .ref k25, .ref k26, .ref h2, .ref h3, .ref h7, .ref h1, .int i12, .int i13, .int i14, .int i15, .int i16, .ref h6, .ref k27, .ref k28, .ref k29, .ref k30, .ref k31, .int i17, .ref k32])), (h1, aI cI 24 t261_0), (h2, aI cI 20 g34), (h3, aI cI 20 g42), (h4, aI cI 400 f21), (h5, aI cI 20 f22), (h6, aI cI 20 t83_0), (h7, aI cI 20 t83_1)] → va_S A s.heap H locs → lv_has ls 12 [(9, .int t261_1), (8, .int t83_2), (0, .ref h0), (1, .int p0)] → W p l e ((headSpec (xw yX9_takeOff cX9_takeOff 12 none) { frames := 0, cells := 0, slots := 0, locals := 0 }).room) s m ([.ref h0, .int p0, .int p1] : List Value).toArray below meth c H locs 0 0 QQ (F0 m 261 ls []) := by
                  intro n3
                  induction n3 with
                  | zero => intro H locs ls t261_0 t261_1 hwp; exact False.elim hwp
                  | succ n3 ih3 =>
                    intro H locs ls t261_0 t261_1 hwp hP hD hS hl
                    rw [wLX9_takeOff_261] at hwp
                    refine lv_iload hx hb dX9_takeOff_261 (lv_at hl 0 rfl) ?_
                    refine lv_iload_n hx hb dX9_takeOff_263 rfl (lv_at hl 3 rfl) ?_
                    refine lv_icmp_le (tgt := 292) hx hb dX9_takeOff_264 (by decide) (fun c264 => ?_) (fun c264 => ?_)
                    · replace hwp := hwp.1 c264
                      refine lv_iconst (v := 0) hx hb dX9_takeOff_292 (by decide) ?_
                      refine lv_istore (lv' := [(9, .int 0), (8, .int t83_2), (0, .ref h0), (1, .int p0)]) hx hb dX9_takeOff_293 hl (by decide) rfl (fun ls hl => ?_)
                      replace hl : lv_has ls 12 [(9, .int 0), (8, .int t83_2), (0, .ref h0), (1, .int p0)] := lv_sub hl [0, 1, 2, 3] rfl
                      obtain ⟨n4, hwp⟩ := hwp
                      have hs4 : ∀ (n4 : Nat) (H : Heap) (locs : List Loc) (ls : Array Slot) (t295_0 : Nat → Int32) (t295_1 : Int32), wLX9_takeOff_295 i12 p0 g34 g42 t83_0 t83_1 t83_2 K  n4 t295_0 t295_1 → va_P G vwCl [(h0, .inr (9, [.int i0, .int i1, .ref k0, .ref k1, .ref k2, .ref k3, .ref k4, .int i2, .ref k5, .int i3, .ref k6, .ref k7, .ref k8, .int i4, .ref k9, .ref k10, .int i5, .ref k11, .ref k12, .ref k13, .int i6, .ref k14, .int i7, .ref k15, .ref k16, .int i8, .int i9, .int i10, .ref k17, .int i11, .ref k18, .ref k19, .ref k20, .ref h4, .ref h5, .ref k21, .ref k22, .ref k23, .ref k24, .ref k25, .ref k26, .ref h2, .ref h3, .ref h7, .ref h1, .int i12, .int i13, .int i14, .int i15, .int i16, .ref h6, .ref k27, .ref k28, .ref k29, .ref k30, .ref k31, .int i17, .ref k32])), (h1, aI cI 24 t295_0), (h2, aI cI 20 g34), (h3, aI cI 20 g42), (h4, aI cI 400 f21), (h5, aI cI 20 f22), (h6, aI cI 20 t83_0), (h7, aI cI 20 t83_1)] H → va_D A [(h0, .inr (9, [.int i0, .int i1, .ref k0, .ref k1, .ref k2, .ref k3, .ref k4, .int i2, .ref k5, .int i3, .ref k6, .ref k7, .ref k8, .int i4, .ref k9, .ref k10, .int i5, .ref k11, .ref k12, .ref k13, .int i6, .ref k14, .int i7, .ref k15, .ref k16, .int i8, .int i9, .int i10, .ref k17, .int i11, .ref k18, .ref k19, .ref k20, .ref h4, .ref h5, .ref k21, .ref k22, .ref k23, .ref k24, .ref k25, .ref k26, .ref h2, .ref h3, .ref h7, .ref h1, .int i12, .int i13, .int i14, .int i15, .int i16, .ref h6, .ref k27, .ref k28, .ref k29, .ref k30, .ref k31, .int i17, .ref k32])), (h1, aI cI 24 t295_0), (h2, aI cI 20 g34), (h3, aI cI 20 g42), (h4, aI cI 400 f21), (h5, aI cI 20 f22), (h6, aI cI 20 t83_0), (h7, aI cI 20 t83_1)] → va_S A s.heap H locs → lv_has ls 12 [(9, .int t295_1), (8, .int t83_2), (0, .ref h0), (1, .int p0)] → W p l e ((headSpec (xw yX9_takeOff cX9_takeOff 12 none) { frames := 0, cells := 0, slots := 0, locals := 0 }).room) s m ([.ref h0, .int p0, .int p1] : List Value).toArray below meth c H locs 0 0 QQ (F0 m 295 ls []) := by
                        intro n4
                        induction n4 with
                        | zero => intro H locs ls t295_0 t295_1 hwp; exact False.elim hwp
                        | succ n4 ih4 =>
                          intro H locs ls t295_0 t295_1 hwp hP hD hS hl
                          rw [wLX9_takeOff_295] at hwp
                          refine lv_iload hx hb dX9_takeOff_295 (lv_at hl 0 rfl) ?_
                          refine lv_iload hx hb dX9_takeOff_297 (lv_at hl 1 rfl) ?_
                          refine lv_icmp_ge (tgt := 324) hx hb dX9_takeOff_299 (by decide) (fun c299 => ?_) (fun c299 => ?_)
                          · replace hwp := hwp.1 c299
                            refine lv_aload_n hx hb dX9_takeOff_324 rfl (lv_at hl 2 rfl) ?_
                            refine lv_dup hx hb dX9_takeOff_325 rfl ?_
                            refine va_get (D := G) (ci := 9) (v := .int i12) (C := RX9) (T := TX9) (N := 58) hx hb hts xinX9 hown hK hP 0 rfl rfl 45 (by decide) (hts _ wo_567) (fun _ h9 => h9) rfl dX9_takeOff_326 ?_
                            refine lv_iload hx hb dX9_takeOff_329 (lv_at hl 1 rfl) ?_
                            refine lv_iconst (v := 1) hx hb dX9_takeOff_331 (by decide) ?_
                            refine lv_isub hx hb dX9_takeOff_332 ?_
                            refine lv_iadd hx hb dX9_takeOff_333 ?_
                            refine lv_topi (fun v334 ev334 => ?_)
                            replace hwp := hwp v334 ev334
                            clear ev334
                            refine va_put (D := G) (ci := 9) (v := .int v334) (ty := .int) (C := RX9) (T := TX9) (N := 58) hx hb hts xinX9 tyX9 tyX9_ok nmX9 hown hK hP hD hS 0 rfl rfl 45 (by decide) (hts _ wo_567) (fun _ h9 => h9) rfl (by decide +kernel) rfl rfl (Nat.le_of_ble_eq_true rfl) dX9_takeOff_334 (fun H locs hP hD hS => ?_)
                            replace hP : va_P G vwCl [(h0, .inr (9, [.int i0, .int i1, .ref k0, .ref k1, .ref k2, .ref k3, .ref k4, .int i2, .ref k5, .int i3, .ref k6, .ref k7, .ref k8, .int i4, .ref k9, .ref k10, .int i5, .ref k11, .ref k12, .ref k13, .int i6, .ref k14, .int i7, .ref k15, .ref k16, .int i8, .int i9, .int i10, .ref k17, .int i11, .ref k18, .ref k19, .ref k20, .ref h4, .ref h5, .ref k21, .ref k22, .ref k23, .ref k24, .ref k25, .ref k26, .ref h2, .ref h3, .ref h7, .ref h1, .int v334, .int i13, .int i14, .int i15, .int i16, .ref h6, .ref k27, .ref k28, .ref k29, .ref k30, .ref k31, .int i17, .ref k32])), (h1, aI cI 24 t295_0), (h2, aI cI 20 g34), (h3, aI cI 20 g42), (h4, aI cI 400 f21), (h5, aI cI 20 f22), (h6, aI cI 20 t83_0), (h7, aI cI 20 t83_1)] H := hP
                            replace hD : va_D A [(h0, .inr (9, [.int i0, .int i1, .ref k0, .ref k1, .ref k2, .ref k3, .ref k4, .int i2, .ref k5, .int i3, .ref k6, .ref k7, .ref k8, .int i4, .ref k9, .ref k10, .int i5, .ref k11, .ref k12, .ref k13, .int i6, .ref k14, .int i7, .ref k15, .ref k16, .int i8, .int i9, .int i10, .ref k17, .int i11, .ref k18, .ref k19, .ref k20, .ref h4, .ref h5, .ref k21, .ref k22, .ref k23, .ref k24, .ref k25, .ref k26, .ref h2, .ref h3, .ref h7, .ref h1, .int v334, .int i13, .int i14, .int i15, .int i16, .ref h6, .ref k27, .ref k28, .ref k29, .ref k30, .ref k31, .int i17, .ref k32])), (h1, aI cI 24 t295_0), (h2, aI cI 20 g34), (h3, aI cI 20 g42), (h4, aI cI 400 f21), (h5, aI cI 20 f22), (h6, aI cI 20 t83_0), (h7, aI cI 20 t83_1)] := hD
                            have hP9 : va_P G vwCl [(h0, .inr (9, [.int i0, .int i1, .ref k0, .ref k1, .ref k2, .ref k3, .ref k4, .int i2, .ref k5, .int i3, .ref k6, .ref k7, .ref k8, .int i4, .ref k9, .ref k10, .int i5, .ref k11, .ref k12, .ref k13, .int i6, .ref k14, .int i7, .ref k15, .ref k16, .int i8, .int i9, .int i10, .ref k17, .int i11, .ref k18, .ref k19, .ref k20, .ref h4, .ref h5, .ref k21, .ref k22, .ref k23, .ref k24, .ref k25, .ref k26, .ref h2, .ref h3, .ref h7, .ref h1, .int v334, .int i13, .int i14, .int i15, .int i16, .ref h6, .ref k27, .ref k28, .ref k29, .ref k30, .ref k31, .int i17, .ref k32])), (h1, aI cI 24 t295_0), (h2, aI cI 20 g34), (h3, aI cI 20 g42), (h4, aI cI 400 f21), (h5, aI cI 20 f22), (h6, aI cI 20 t83_0), (h7, aI cI 20 t83_1)] H := hP.sub [0, 1, 2, 3, 4, 5, 6, 7] rfl
                            have hD9 : va_D A [(h0, .inr (9, [.int i0, .int i1, .ref k0, .ref k1, .ref k2, .ref k3, .ref k4, .int i2, .ref k5, .int i3, .ref k6, .ref k7, .ref k8, .int i4, .ref k9, .ref k10, .int i5, .ref k11, .ref k12, .ref k13, .int i6, .ref k14, .int i7, .ref k15, .ref k16, .int i8, .int i9, .int i10, .ref k17, .int i11, .ref k18, .ref k19, .ref k20, .ref h4, .ref h5, .ref k21, .ref k22, .ref k23, .ref k24, .ref k25, .ref k26, .ref h2, .ref h3, .ref h7, .ref h1, .int v334, .int i13, .int i14, .int i15, .int i16, .ref h6, .ref k27, .ref k28, .ref k29, .ref k30, .ref k31, .int i17, .ref k32])), (h1, aI cI 24 t295_0), (h2, aI cI 20 g34), (h3, aI cI 20 g42), (h4, aI cI 400 f21), (h5, aI cI 20 f22), (h6, aI cI 20 t83_0), (h7, aI cI 20 t83_1)] := hD.sub [0, 1, 2, 3, 4, 5, 6, 7] (by decide) rfl
                            rw [← hQQ]
                            exact W.vret hx hb hr (fun t ht hW => ⟨⟨(v334, t295_0, g34, g42, t83_0, t83_1), rfl, hwp, by rw [ht]; exact hP9, hD9⟩, hS.F ht⟩) hS.2.2 dX9_takeOff_337
                          · replace hwp := hwp.2 c299
                            refine lv_aload_n hx hb dX9_takeOff_302 rfl (lv_at hl 2 rfl) ?_
                            refine va_get (D := G) (ci := 9) (v := .ref h1) (C := RX9) (T := TX9) (N := 58) hx hb hts xinX9 hown hK hP 0 rfl rfl 44 (by decide) (hts _ wo_564) (fun _ h9 => h9) rfl dX9_takeOff_303 ?_
                            refine lv_iload_n hx hb dX9_takeOff_306 rfl (lv_at hl 3 rfl) ?_
                            refine lv_iload hx hb dX9_takeOff_307 (lv_at hl 0 rfl) ?_
                            refine lv_iadd hx hb dX9_takeOff_309 ?_
                            refine lv_aload_n hx hb dX9_takeOff_310 rfl (lv_at hl 2 rfl) ?_
                            refine va_get (D := G) (ci := 9) (v := .ref h6) (C := RX9) (T := TX9) (N := 58) hx hb hts xinX9 hown hK hP 0 rfl rfl 50 (by decide) (hts _ wo_568) (fun _ h9 => h9) rfl dX9_takeOff_311 ?_
                            refine lv_iload hx hb dX9_takeOff_314 (lv_at hl 0 rfl) ?_
                            obtain ⟨hi, hwp⟩ := hwp
                            refine va_iald hx hb hK hP 6 0 rfl rfl hi dX9_takeOff_316 ?_
                            obtain ⟨hi, hwp⟩ := hwp
                            refine va_iast hx hb hK hP hD hS 1 0 rfl rfl hi dX9_takeOff_317 (fun H locs hP hD hS => ?_)
                            obtain ⟨g317, eg317⟩ : ∃ z, z = upd t295_0 (Int32.toNatClampNeg (p0 + t295_1)) (t83_0 (Int32.toNatClampNeg t295_1)) := ⟨_, rfl⟩
                            replace hwp := hwp g317 eg317
                            replace hP : va_P G vwCl [(h0, .inr (9, [.int i0, .int i1, .ref k0, .ref k1, .ref k2, .ref k3, .ref k4, .int i2, .ref k5, .int i3, .ref k6, .ref k7, .ref k8, .int i4, .ref k9, .ref k10, .int i5, .ref k11, .ref k12, .ref k13, .int i6, .ref k14, .int i7, .ref k15, .ref k16, .int i8, .int i9, .int i10, .ref k17, .int i11, .ref k18, .ref k19, .ref k20, .ref h4, .ref h5, .ref k21, .ref k22, .ref k23, .ref k24, .ref k25, .ref k26, .ref h2, .ref h3, .ref h7, .ref h1, .int i12, .int i13, .int i14, .int i15, .int i16, .ref h6, .ref k27, .ref k28, .ref k29, .ref k30, .ref k31, .int i17, .ref k32])), (h1, aI cI 24 g317), (h2, aI cI 20 g34), (h3, aI cI 20 g42), (h4, aI cI 400 f21), (h5, aI cI 20 f22), (h6, aI cI 20 t83_0), (h7, aI cI 20 t83_1)] H := by rw [eg317]; exact hP
                            replace hD : va_D A [(h0, .inr (9, [.int i0, .int i1, .ref k0, .ref k1, .ref k2, .ref k3, .ref k4, .int i2, .ref k5, .int i3, .ref k6, .ref k7, .ref k8, .int i4, .ref k9, .ref k10, .int i5, .ref k11, .ref k12, .ref k13, .int i6, .ref k14, .int i7, .ref k15, .ref k16, .int i8, .int i9, .int i10, .ref k17, .int i11, .ref k18, .ref k19, .ref k20, .ref h4, .ref h5, .ref k21, .ref k22, .ref k23, .ref k24, .ref k25, .ref k26, .ref h2, .ref h3, .ref h7, .ref h1, .int i12, .int i13, .int i14, .int i15, .int i16, .ref h6, .ref k27, .ref k28, .ref k29, .ref k30, .ref k31, .int i17, .ref k32])), (h1, aI cI 24 g317), (h2, aI cI 20 g34), (h3, aI cI 20 g42), (h4, aI cI 400 f21), (h5, aI cI 20 f22), (h6, aI cI 20 t83_0), (h7, aI cI 20 t83_1)] := by rw [eg317]; exact hD
                            clear eg317
                            refine lv_iinc (v := (t295_1 + 1)) (lv' := [(9, .int (t295_1 + 1)), (8, .int t83_2), (0, .ref h0), (1, .int p0)]) hx hb dX9_takeOff_318 hl (k := 0) rfl rfl (by decide) rfl (fun ls hl => ?_)
                            refine lv_goto (tgt := 295) hx hb dX9_takeOff_321 (by decide) ?_
                            replace hl : lv_has ls 12 [(9, .int (t295_1 + 1)), (8, .int t83_2), (0, .ref h0), (1, .int p0)] := lv_sub hl [0, 1, 2, 3] rfl
                            exact ih4 H locs ls g317 (t295_1 + 1) hwp hP hD hS hl
                      exact hs4 n4 H locs ls t261_0 0 hwp hP hD hS hl
                    · replace hwp := hwp.2 c264
                      refine lv_aload_n hx hb dX9_takeOff_267 rfl (lv_at hl 2 rfl) ?_
                      refine va_get (D := G) (ci := 9) (v := .ref h1) (C := RX9) (T := TX9) (N := 58) hx hb hts xinX9 hown hK hP 0 rfl rfl 44 (by decide) (hts _ wo_564) (fun _ h9 => h9) rfl dX9_takeOff_268 ?_
                      refine lv_iload hx hb dX9_takeOff_271 (lv_at hl 0 rfl) ?_
                      refine lv_iload hx hb dX9_takeOff_273 (lv_at hl 1 rfl) ?_
                      refine lv_iadd hx hb dX9_takeOff_275 ?_
                      refine lv_iconst (v := 1) hx hb dX9_takeOff_276 (by decide) ?_
                      refine lv_isub hx hb dX9_takeOff_277 ?_
                      refine lv_aload_n hx hb dX9_takeOff_278 rfl (lv_at hl 2 rfl) ?_
                      refine va_get (D := G) (ci := 9) (v := .ref h1) (C := RX9) (T := TX9) (N := 58) hx hb hts xinX9 hown hK hP 0 rfl rfl 44 (by decide) (hts _ wo_564) (fun _ h9 => h9) rfl dX9_takeOff_279 ?_
                      refine lv_iload hx hb dX9_takeOff_282 (lv_at hl 0 rfl) ?_
                      obtain ⟨hi, hwp⟩ := hwp
                      refine va_iald hx hb hK hP 1 0 rfl rfl hi dX9_takeOff_284 ?_
                      obtain ⟨hi, hwp⟩ := hwp
                      refine va_iast hx hb hK hP hD hS 1 0 rfl rfl hi dX9_takeOff_285 (fun H locs hP hD hS => ?_)
                      obtain ⟨g285, eg285⟩ : ∃ z, z = upd t261_0 (Int32.toNatClampNeg ((t261_1 + t83_2) - 1)) (t261_0 (Int32.toNatClampNeg t261_1)) := ⟨_, rfl⟩
                      replace hwp := hwp g285 eg285
                      replace hP : va_P G vwCl [(h0, .inr (9, [.int i0, .int i1, .ref k0, .ref k1, .ref k2, .ref k3, .ref k4, .int i2, .ref k5, .int i3, .ref k6, .ref k7, .ref k8, .int i4, .ref k9, .ref k10, .int i5, .ref k11, .ref k12, .ref k13, .int i6, .ref k14, .int i7, .ref k15, .ref k16, .int i8, .int i9, .int i10, .ref k17, .int i11, .ref k18, .ref k19, .ref k20, .ref h4, .ref h5, .ref k21, .ref k22, .ref k23, .ref k24, .ref k25, .ref k26, .ref h2, .ref h3, .ref h7, .ref h1, .int i12, .int i13, .int i14, .int i15, .int i16, .ref h6, .ref k27, .ref k28, .ref k29, .ref k30, .ref k31, .int i17, .ref k32])), (h1, aI cI 24 g285), (h2, aI cI 20 g34), (h3, aI cI 20 g42), (h4, aI cI 400 f21), (h5, aI cI 20 f22), (h6, aI cI 20 t83_0), (h7, aI cI 20 t83_1)] H := by rw [eg285]; exact hP
                      replace hD : va_D A [(h0, .inr (9, [.int i0, .int i1, .ref k0, .ref k1, .ref k2, .ref k3, .ref k4, .int i2, .ref k5, .int i3, .ref k6, .ref k7, .ref k8, .int i4, .ref k9, .ref k10, .int i5, .ref k11, .ref k12, .ref k13, .int i6, .ref k14, .int i7, .ref k15, .ref k16, .int i8, .int i9, .int i10, .ref k17, .int i11, .ref k18, .ref k19, .ref k20, .ref h4, .ref h5, .ref k21, .ref k22, .ref k23, .ref k24, .ref k25, .ref k26, .ref h2, .ref h3, .ref h7, .ref h1, .int i12, .int i13, .int i14, .int i15, .int i16, .ref h6, .ref k27, .ref k28, .ref k29, .ref k30, .ref k31, .int i17, .ref k32])), (h1, aI cI 24 g285), (h2, aI cI 20 g34), (h3, aI cI 20 g42), (h4, aI cI 400 f21), (h5, aI cI 20 f22), (h6, aI cI 20 t83_0), (h7, aI cI 20 t83_1)] := by rw [eg285]; exact hD
                      clear eg285
                      refine lv_iinc (v := (t261_1 + (-1))) (lv' := [(9, .int (t261_1 + (-1))), (8, .int t83_2), (0, .ref h0), (1, .int p0)]) hx hb dX9_takeOff_286 hl (k := 0) rfl rfl (by decide) rfl (fun ls hl => ?_)
                      refine lv_goto (tgt := 261) hx hb dX9_takeOff_289 (by decide) ?_
                      replace hl : lv_has ls 12 [(9, .int (t261_1 + (-1))), (8, .int t83_2), (0, .ref h0), (1, .int p0)] := lv_sub hl [0, 1, 2, 3] rfl
                      exact ih3 H locs ls g285 (t261_1 + (-1)) hwp hP hD hS hl
                exact hs3 n3 H locs ls f18 v259 hwp hP hD hS hl
              · replace hwp := hwp.2 c211
                refine lv_iload_n hx hb dX9_takeOff_214 rfl (lv_at hl 7 rfl) ?_
                refine lv_istore (lv' := [(9, .int p0), (8, .int t83_2), (7, .int v75), (6, .int t46_0), (5, .int v25), (3, .int v6), (0, .ref h0), (1, .int p0), (2, .int p1)]) hx hb dX9_takeOff_215 hl (by decide) rfl (fun ls hl => ?_)
                replace hl : lv_has ls 12 [(9, .int p0), (8, .int t83_2), (0, .ref h0)] := lv_sub hl [0, 1, 6] rfl
                obtain ⟨n5, hwp⟩ := hwp
                have hs5 : ∀ (n5 : Nat) (H : Heap) (locs : List Loc) (ls : Array Slot) (t217_0 : Nat → Int32) (t217_1 : Int32), wLX9_takeOff_217 i12 g34 g42 t83_0 t83_1 t83_2 K  n5 t217_0 t217_1 → va_P G vwCl [(h0, .inr (9, [.int i0, .int i1, .ref k0, .ref k1, .ref k2, .ref k3, .ref k4, .int i2, .ref k5, .int i3, .ref k6, .ref k7, .ref k8, .int i4, .ref k9, .ref k10, .int i5, .ref k11, .ref k12, .ref k13, .int i6, .ref k14, .int i7, .ref k15, .ref k16, .int i8, .int i9, .int i10, .ref k17, .int i11, .ref k18, .ref k19, .ref k20, .ref h4, .ref h5, .ref k21, .ref k22, .ref k23, .ref k24, .ref k25, .ref k26, .ref h2, .ref h3, .ref h7, .ref h1, .int i12, .int i13, .int i14, .int i15, .int i16, .ref h6, .ref k27, .ref k28, .ref k29, .ref k30, .ref k31, .int i17, .ref k32])), (h1, aI cI 24 t217_0), (h2, aI cI 20 g34), (h3, aI cI 20 g42), (h4, aI cI 400 f21), (h5, aI cI 20 f22), (h6, aI cI 20 t83_0), (h7, aI cI 20 t83_1)] H → va_D A [(h0, .inr (9, [.int i0, .int i1, .ref k0, .ref k1, .ref k2, .ref k3, .ref k4, .int i2, .ref k5, .int i3, .ref k6, .ref k7, .ref k8, .int i4, .ref k9, .ref k10, .int i5, .ref k11, .ref k12, .ref k13, .int i6, .ref k14, .int i7, .ref k15, .ref k16, .int i8, .int i9, .int i10, .ref k17, .int i11, .ref k18, .ref k19, .ref k20, .ref h4, .ref h5, .ref k21, .ref k22, .ref k23, .ref k24, .ref k25, .ref k26, .ref h2, .ref h3, .ref h7, .ref h1, .int i12, .int i13, .int i14, .int i15, .int i16, .ref h6, .ref k27, .ref k28, .ref k29, .ref k30, .ref k31, .int i17, .ref k32])), (h1, aI cI 24 t217_0), (h2, aI cI 20 g34), (h3, aI cI 20 g42), (h4, aI cI 400 f21), (h5, aI cI 20 f22), (h6, aI cI 20 t83_0), (h7, aI cI 20 t83_1)] → va_S A s.heap H locs → lv_has ls 12 [(9, .int t217_1), (8, .int t83_2), (0, .ref h0)] → W p l e ((headSpec (xw yX9_takeOff cX9_takeOff 12 none) { frames := 0, cells := 0, slots := 0, locals := 0 }).room) s m ([.ref h0, .int p0, .int p1] : List Value).toArray below meth c H locs 0 0 QQ (F0 m 217 ls []) := by
                  intro n5
                  induction n5 with
                  | zero => intro H locs ls t217_0 t217_1 hwp; exact False.elim hwp
                  | succ n5 ih5 =>
                    intro H locs ls t217_0 t217_1 hwp hP hD hS hl
                    rw [wLX9_takeOff_217] at hwp
                    refine lv_iload hx hb dX9_takeOff_217 (lv_at hl 0 rfl) ?_
                    refine lv_iconst (v := 1) hx hb dX9_takeOff_219 (by decide) ?_
                    refine lv_iadd hx hb dX9_takeOff_220 ?_
                    refine lv_aload_n hx hb dX9_takeOff_221 rfl (lv_at hl 2 rfl) ?_
                    refine va_get (D := G) (ci := 9) (v := .int i12) (C := RX9) (T := TX9) (N := 58) hx hb hts xinX9 hown hK hP 0 rfl rfl 45 (by decide) (hts _ wo_567) (fun _ h9 => h9) rfl dX9_takeOff_222 ?_
                    refine lv_icmp_ge (tgt := 250) hx hb dX9_takeOff_225 (by decide) (fun c225 => ?_) (fun c225 => ?_)
                    · replace hwp := hwp.1 c225
                      refine lv_goto (tgt := 324) hx hb dX9_takeOff_250 (by decide) ?_
                      refine lv_aload_n hx hb dX9_takeOff_324 rfl (lv_at hl 2 rfl) ?_
                      refine lv_dup hx hb dX9_takeOff_325 rfl ?_
                      refine va_get (D := G) (ci := 9) (v := .int i12) (C := RX9) (T := TX9) (N := 58) hx hb hts xinX9 hown hK hP 0 rfl rfl 45 (by decide) (hts _ wo_567) (fun _ h9 => h9) rfl dX9_takeOff_326 ?_
                      refine lv_iload hx hb dX9_takeOff_329 (lv_at hl 1 rfl) ?_
                      refine lv_iconst (v := 1) hx hb dX9_takeOff_331 (by decide) ?_
                      refine lv_isub hx hb dX9_takeOff_332 ?_
                      refine lv_iadd hx hb dX9_takeOff_333 ?_
                      refine lv_topi (fun v334 ev334 => ?_)
                      replace hwp := hwp v334 ev334
                      clear ev334
                      refine va_put (D := G) (ci := 9) (v := .int v334) (ty := .int) (C := RX9) (T := TX9) (N := 58) hx hb hts xinX9 tyX9 tyX9_ok nmX9 hown hK hP hD hS 0 rfl rfl 45 (by decide) (hts _ wo_567) (fun _ h9 => h9) rfl (by decide +kernel) rfl rfl (Nat.le_of_ble_eq_true rfl) dX9_takeOff_334 (fun H locs hP hD hS => ?_)
                      replace hP : va_P G vwCl [(h0, .inr (9, [.int i0, .int i1, .ref k0, .ref k1, .ref k2, .ref k3, .ref k4, .int i2, .ref k5, .int i3, .ref k6, .ref k7, .ref k8, .int i4, .ref k9, .ref k10, .int i5, .ref k11, .ref k12, .ref k13, .int i6, .ref k14, .int i7, .ref k15, .ref k16, .int i8, .int i9, .int i10, .ref k17, .int i11, .ref k18, .ref k19, .ref k20, .ref h4, .ref h5, .ref k21, .ref k22, .ref k23, .ref k24, .ref k25, .ref k26, .ref h2, .ref h3, .ref h7, .ref h1, .int v334, .int i13, .int i14, .int i15, .int i16, .ref h6, .ref k27, .ref k28, .ref k29, .ref k30, .ref k31, .int i17, .ref k32])), (h1, aI cI 24 t217_0), (h2, aI cI 20 g34), (h3, aI cI 20 g42), (h4, aI cI 400 f21), (h5, aI cI 20 f22), (h6, aI cI 20 t83_0), (h7, aI cI 20 t83_1)] H := hP
                      replace hD : va_D A [(h0, .inr (9, [.int i0, .int i1, .ref k0, .ref k1, .ref k2, .ref k3, .ref k4, .int i2, .ref k5, .int i3, .ref k6, .ref k7, .ref k8, .int i4, .ref k9, .ref k10, .int i5, .ref k11, .ref k12, .ref k13, .int i6, .ref k14, .int i7, .ref k15, .ref k16, .int i8, .int i9, .int i10, .ref k17, .int i11, .ref k18, .ref k19, .ref k20, .ref h4, .ref h5, .ref k21, .ref k22, .ref k23, .ref k24, .ref k25, .ref k26, .ref h2, .ref h3, .ref h7, .ref h1, .int v334, .int i13, .int i14, .int i15, .int i16, .ref h6, .ref k27, .ref k28, .ref k29, .ref k30, .ref k31, .int i17, .ref k32])), (h1, aI cI 24 t217_0), (h2, aI cI 20 g34), (h3, aI cI 20 g42), (h4, aI cI 400 f21), (h5, aI cI 20 f22), (h6, aI cI 20 t83_0), (h7, aI cI 20 t83_1)] := hD
                      have hP9 : va_P G vwCl [(h0, .inr (9, [.int i0, .int i1, .ref k0, .ref k1, .ref k2, .ref k3, .ref k4, .int i2, .ref k5, .int i3, .ref k6, .ref k7, .ref k8, .int i4, .ref k9, .ref k10, .int i5, .ref k11, .ref k12, .ref k13, .int i6, .ref k14, .int i7, .ref k15, .ref k16, .int i8, .int i9, .int i10, .ref k17, .int i11, .ref k18, .ref k19, .ref k20, .ref h4, .ref h5, .ref k21, .ref k22, .ref k23, .ref k24, .ref k25, .ref k26, .ref h2, .ref h3, .ref h7, .ref h1, .int v334, .int i13, .int i14, .int i15, .int i16, .ref h6, .ref k27, .ref k28, .ref k29, .ref k30, .ref k31, .int i17, .ref k32])), (h1, aI cI 24 t217_0), (h2, aI cI 20 g34), (h3, aI cI 20 g42), (h4, aI cI 400 f21), (h5, aI cI 20 f22), (h6, aI cI 20 t83_0), (h7, aI cI 20 t83_1)] H := hP.sub [0, 1, 2, 3, 4, 5, 6, 7] rfl
                      have hD9 : va_D A [(h0, .inr (9, [.int i0, .int i1, .ref k0, .ref k1, .ref k2, .ref k3, .ref k4, .int i2, .ref k5, .int i3, .ref k6, .ref k7, .ref k8, .int i4, .ref k9, .ref k10, .int i5, .ref k11, .ref k12, .ref k13, .int i6, .ref k14, .int i7, .ref k15, .ref k16, .int i8, .int i9, .int i10, .ref k17, .int i11, .ref k18, .ref k19, .ref k20, .ref h4, .ref h5, .ref k21, .ref k22, .ref k23, .ref k24, .ref k25, .ref k26, .ref h2, .ref h3, .ref h7, .ref h1, .int v334, .int i13, .int i14, .int i15, .int i16, .ref h6, .ref k27, .ref k28, .ref k29, .ref k30, .ref k31, .int i17, .ref k32])), (h1, aI cI 24 t217_0), (h2, aI cI 20 g34), (h3, aI cI 20 g42), (h4, aI cI 400 f21), (h5, aI cI 20 f22), (h6, aI cI 20 t83_0), (h7, aI cI 20 t83_1)] := hD.sub [0, 1, 2, 3, 4, 5, 6, 7] (by decide) rfl
                      rw [← hQQ]
                      exact W.vret hx hb hr (fun t ht hW => ⟨⟨(v334, t217_0, g34, g42, t83_0, t83_1), rfl, hwp, by rw [ht]; exact hP9, hD9⟩, hS.F ht⟩) hS.2.2 dX9_takeOff_337
                    · replace hwp := hwp.2 c225
                      refine lv_aload_n hx hb dX9_takeOff_228 rfl (lv_at hl 2 rfl) ?_
                      refine va_get (D := G) (ci := 9) (v := .ref h1) (C := RX9) (T := TX9) (N := 58) hx hb hts xinX9 hown hK hP 0 rfl rfl 44 (by decide) (hts _ wo_564) (fun _ h9 => h9) rfl dX9_takeOff_229 ?_
                      refine lv_iload hx hb dX9_takeOff_232 (lv_at hl 0 rfl) ?_
                      refine lv_aload_n hx hb dX9_takeOff_234 rfl (lv_at hl 2 rfl) ?_
                      refine va_get (D := G) (ci := 9) (v := .ref h1) (C := RX9) (T := TX9) (N := 58) hx hb hts xinX9 hown hK hP 0 rfl rfl 44 (by decide) (hts _ wo_564) (fun _ h9 => h9) rfl dX9_takeOff_235 ?_
                      refine lv_iload hx hb dX9_takeOff_238 (lv_at hl 0 rfl) ?_
                      refine lv_iconst (v := 1) hx hb dX9_takeOff_240 (by decide) ?_
                      refine lv_iadd hx hb dX9_takeOff_241 ?_
                      obtain ⟨hi, hwp⟩ := hwp
                      refine va_iald hx hb hK hP 1 0 rfl rfl hi dX9_takeOff_242 ?_
                      obtain ⟨hi, hwp⟩ := hwp
                      refine va_iast hx hb hK hP hD hS 1 0 rfl rfl hi dX9_takeOff_243 (fun H locs hP hD hS => ?_)
                      obtain ⟨g243, eg243⟩ : ∃ z, z = upd t217_0 (Int32.toNatClampNeg t217_1) (t217_0 (Int32.toNatClampNeg (t217_1 + 1))) := ⟨_, rfl⟩
                      replace hwp := hwp g243 eg243
                      replace hP : va_P G vwCl [(h0, .inr (9, [.int i0, .int i1, .ref k0, .ref k1, .ref k2, .ref k3, .ref k4, .int i2, .ref k5, .int i3, .ref k6, .ref k7, .ref k8, .int i4, .ref k9, .ref k10, .int i5, .ref k11, .ref k12, .ref k13, .int i6, .ref k14, .int i7, .ref k15, .ref k16, .int i8, .int i9, .int i10, .ref k17, .int i11, .ref k18, .ref k19, .ref k20, .ref h4, .ref h5, .ref k21, .ref k22, .ref k23, .ref k24, .ref k25, .ref k26, .ref h2, .ref h3, .ref h7, .ref h1, .int i12, .int i13, .int i14, .int i15, .int i16, .ref h6, .ref k27, .ref k28, .ref k29, .ref k30, .ref k31, .int i17, .ref k32])), (h1, aI cI 24 g243), (h2, aI cI 20 g34), (h3, aI cI 20 g42), (h4, aI cI 400 f21), (h5, aI cI 20 f22), (h6, aI cI 20 t83_0), (h7, aI cI 20 t83_1)] H := by rw [eg243]; exact hP
                      replace hD : va_D A [(h0, .inr (9, [.int i0, .int i1, .ref k0, .ref k1, .ref k2, .ref k3, .ref k4, .int i2, .ref k5, .int i3, .ref k6, .ref k7, .ref k8, .int i4, .ref k9, .ref k10, .int i5, .ref k11, .ref k12, .ref k13, .int i6, .ref k14, .int i7, .ref k15, .ref k16, .int i8, .int i9, .int i10, .ref k17, .int i11, .ref k18, .ref k19, .ref k20, .ref h4, .ref h5, .ref k21, .ref k22, .ref k23, .ref k24, .ref k25, .ref k26, .ref h2, .ref h3, .ref h7, .ref h1, .int i12, .int i13, .int i14, .int i15, .int i16, .ref h6, .ref k27, .ref k28, .ref k29, .ref k30, .ref k31, .int i17, .ref k32])), (h1, aI cI 24 g243), (h2, aI cI 20 g34), (h3, aI cI 20 g42), (h4, aI cI 400 f21), (h5, aI cI 20 f22), (h6, aI cI 20 t83_0), (h7, aI cI 20 t83_1)] := by rw [eg243]; exact hD
                      clear eg243
                      refine lv_iinc (v := (t217_1 + 1)) (lv' := [(9, .int (t217_1 + 1)), (8, .int t83_2), (0, .ref h0)]) hx hb dX9_takeOff_244 hl (k := 0) rfl rfl (by decide) rfl (fun ls hl => ?_)
                      refine lv_goto (tgt := 217) hx hb dX9_takeOff_247 (by decide) ?_
                      replace hl : lv_has ls 12 [(9, .int (t217_1 + 1)), (8, .int t83_2), (0, .ref h0)] := lv_sub hl [0, 1, 2] rfl
                      exact ih5 H locs ls g243 (t217_1 + 1) hwp hP hD hS hl
                exact hs5 n5 H locs ls f18 p0 hwp hP hD hS hl
            · replace hwp := hwp.2 c86
              refine lv_iload hx hb dX9_takeOff_89 (lv_at hl 1 rfl) ?_
              refine lv_if_ne (tgt := 209) hx hb dX9_takeOff_91 (by decide) (fun c91 => ?_) (fun c91 => ?_)
              · replace hwp := hwp.1 c91
                refine lv_iload hx hb dX9_takeOff_209 (lv_at hl 1 rfl) ?_
                refine lv_if_ne (tgt := 253) hx hb dX9_takeOff_211 (by decide) (fun c211 => ?_) (fun c211 => ?_)
                · replace hwp := hwp.1 c211
                  refine lv_aload_n hx hb dX9_takeOff_253 rfl (lv_at hl 6 rfl) ?_
                  refine va_get (D := G) (ci := 9) (v := .int i12) (C := RX9) (T := TX9) (N := 58) hx hb hts xinX9 hown hK hP 0 rfl rfl 45 (by decide) (hts _ wo_567) (fun _ h9 => h9) rfl dX9_takeOff_254 ?_
                  refine lv_iconst (v := 1) hx hb dX9_takeOff_257 (by decide) ?_
                  refine lv_isub hx hb dX9_takeOff_258 ?_
                  refine lv_topi (fun v259 ev259 => ?_)
                  replace hwp := hwp v259 ev259
                  clear ev259
                  refine lv_istore (lv' := [(9, .int v259), (8, .int t83_2), (7, .int v75), (6, .int t46_0), (5, .int v25), (3, .int v6), (0, .ref h0), (1, .int p0), (2, .int p1)]) hx hb dX9_takeOff_259 hl (by decide) rfl (fun ls hl => ?_)
                  replace hl : lv_has ls 12 [(9, .int v259), (8, .int t83_2), (0, .ref h0), (1, .int p0)] := lv_sub hl [0, 1, 6, 7] rfl
                  obtain ⟨n6, hwp⟩ := hwp
                  have hs6 : ∀ (n6 : Nat) (H : Heap) (locs : List Loc) (ls : Array Slot) (t261_0 : Nat → Int32) (t261_1 : Int32), wLX9_takeOff_261_1 i12 p0 g34 g42 t83_0 t83_1 t83_2 K  n6 t261_0 t261_1 → va_P G vwCl [(h0, .inr (9, [.int i0, .int i1, .ref k0, .ref k1, .ref k2, .ref k3, .ref k4, .int i2, .ref k5, .int i3, .ref k6, .ref k7, .ref k8, .int i4, .ref k9, .ref k10, .int i5, .ref k11, .ref k12, .ref k13, .int i6, .ref k14, .int i7, .ref k15, .ref k16, .int i8, .int i9, .int i10, .ref k17, .int i11, .ref k18, .ref k19, .ref k20, .ref h4, .ref h5, .ref k21, .ref k22, .ref k23, .ref k24, .ref k25, .ref k26, .ref h2, .ref h3, .ref h7, .ref h1, .int i12, .int i13, .int i14, .int i15, .int i16, .ref h6, .ref k27, .ref k28, .ref k29, .ref k30, .ref k31, .int i17, .ref k32])), (h1, aI cI 24 t261_0), (h2, aI cI 20 g34), (h3, aI cI 20 g42), (h4, aI cI 400 f21), (h5, aI cI 20 f22), (h6, aI cI 20 t83_0), (h7, aI cI 20 t83_1)] H → va_D A [(h0, .inr (9, [.int i0, .int i1, .ref k0, .ref k1, .ref k2, .ref k3, .ref k4, .int i2, .ref k5, .int i3, .ref k6, .ref k7, .ref k8, .int i4, .ref k9, .ref k10, .int i5, .ref k11, .ref k12, .ref k13, .int i6, .ref k14, .int i7, .ref k15, .ref k16, .int i8, .int i9, .int i10, .ref k17, .int i11, .ref k18, .ref k19, .ref k20, .ref h4, .ref h5, .ref k21, .ref k22, .ref k23, .ref k24, .ref k25, .ref k26, .ref h2, .ref h3, .ref h7, .ref h1, .int i12, .int i13, .int i14, .int i15, .int i16, .ref h6, .ref k27, .ref k28, .ref k29, .ref k30, .ref k31, .int i17, .ref k32])), (h1, aI cI 24 t261_0), (h2, aI cI 20 g34), (h3, aI cI 20 g42), (h4, aI cI 400 f21), (h5, aI cI 20 f22), (h6, aI cI 20 t83_0), (h7, aI cI 20 t83_1)] → va_S A s.heap H locs → lv_has ls 12 [(9, .int t261_1), (8, .int t83_2), (0, .ref h0), (1, .int p0)] → W p l e ((headSpec (xw yX9_takeOff cX9_takeOff 12 none) { frames := 0, cells := 0, slots := 0, locals := 0 }).room) s m ([.ref h0, .int p0, .int p1] : List Value).toArray below meth c H locs 0 0 QQ (F0 m 261 ls []) := by
                    intro n6
                    induction n6 with
                    | zero => intro H locs ls t261_0 t261_1 hwp; exact False.elim hwp
                    | succ n6 ih6 =>
                      intro H locs ls t261_0 t261_1 hwp hP hD hS hl
                      rw [wLX9_takeOff_261_1] at hwp
                      refine lv_iload hx hb dX9_takeOff_261 (lv_at hl 0 rfl) ?_
                      refine lv_iload_n hx hb dX9_takeOff_263 rfl (lv_at hl 3 rfl) ?_
                      refine lv_icmp_le (tgt := 292) hx hb dX9_takeOff_264 (by decide) (fun c264 => ?_) (fun c264 => ?_)
                      · replace hwp := hwp.1 c264
                        refine lv_iconst (v := 0) hx hb dX9_takeOff_292 (by decide) ?_
                        refine lv_istore (lv' := [(9, .int 0), (8, .int t83_2), (0, .ref h0), (1, .int p0)]) hx hb dX9_takeOff_293 hl (by decide) rfl (fun ls hl => ?_)
                        replace hl : lv_has ls 12 [(9, .int 0), (8, .int t83_2), (0, .ref h0), (1, .int p0)] := lv_sub hl [0, 1, 2, 3] rfl
                        obtain ⟨n7, hwp⟩ := hwp
                        have hs7 : ∀ (n7 : Nat) (H : Heap) (locs : List Loc) (ls : Array Slot) (t295_0 : Nat → Int32) (t295_1 : Int32), wLX9_takeOff_295_1 i12 p0 g34 g42 t83_0 t83_1 t83_2 K  n7 t295_0 t295_1 → va_P G vwCl [(h0, .inr (9, [.int i0, .int i1, .ref k0, .ref k1, .ref k2, .ref k3, .ref k4, .int i2, .ref k5, .int i3, .ref k6, .ref k7, .ref k8, .int i4, .ref k9, .ref k10, .int i5, .ref k11, .ref k12, .ref k13, .int i6, .ref k14, .int i7, .ref k15, .ref k16, .int i8, .int i9, .int i10, .ref k17, .int i11, .ref k18, .ref k19, .ref k20, .ref h4, .ref h5, .ref k21, .ref k22, .ref k23, .ref k24, .ref k25, .ref k26, .ref h2, .ref h3, .ref h7, .ref h1, .int i12, .int i13, .int i14, .int i15, .int i16, .ref h6, .ref k27, .ref k28, .ref k29, .ref k30, .ref k31, .int i17, .ref k32])), (h1, aI cI 24 t295_0), (h2, aI cI 20 g34), (h3, aI cI 20 g42), (h4, aI cI 400 f21), (h5, aI cI 20 f22), (h6, aI cI 20 t83_0), (h7, aI cI 20 t83_1)] H → va_D A [(h0, .inr (9, [.int i0, .int i1, .ref k0, .ref k1, .ref k2, .ref k3, .ref k4, .int i2, .ref k5, .int i3, .ref k6, .ref k7, .ref k8, .int i4, .ref k9, .ref k10, .int i5, .ref k11, .ref k12, .ref k13, .int i6, .ref k14, .int i7, .ref k15, .ref k16, .int i8, .int i9, .int i10, .ref k17, .int i11, .ref k18, .ref k19, .ref k20, .ref h4, .ref h5, .ref k21, .ref k22, .ref k23, .ref k24, .ref k25, .ref k26, .ref h2, .ref h3, .ref h7, .ref h1, .int i12, .int i13, .int i14, .int i15, .int i16, .ref h6, .ref k27, .ref k28, .ref k29, .ref k30, .ref k31, .int i17, .ref k32])), (h1, aI cI 24 t295_0), (h2, aI cI 20 g34), (h3, aI cI 20 g42), (h4, aI cI 400 f21), (h5, aI cI 20 f22), (h6, aI cI 20 t83_0), (h7, aI cI 20 t83_1)] → va_S A s.heap H locs → lv_has ls 12 [(9, .int t295_1), (8, .int t83_2), (0, .ref h0), (1, .int p0)] → W p l e ((headSpec (xw yX9_takeOff cX9_takeOff 12 none) { frames := 0, cells := 0, slots := 0, locals := 0 }).room) s m ([.ref h0, .int p0, .int p1] : List Value).toArray below meth c H locs 0 0 QQ (F0 m 295 ls []) := by
                          intro n7
                          induction n7 with
                          | zero => intro H locs ls t295_0 t295_1 hwp; exact False.elim hwp
                          | succ n7 ih7 =>
                            intro H locs ls t295_0 t295_1 hwp hP hD hS hl
                            rw [wLX9_takeOff_295_1] at hwp
                            refine lv_iload hx hb dX9_takeOff_295 (lv_at hl 0 rfl) ?_
                            refine lv_iload hx hb dX9_takeOff_297 (lv_at hl 1 rfl) ?_
                            refine lv_icmp_ge (tgt := 324) hx hb dX9_takeOff_299 (by decide) (fun c299 => ?_) (fun c299 => ?_)
                            · replace hwp := hwp.1 c299
                              refine lv_aload_n hx hb dX9_takeOff_324 rfl (lv_at hl 2 rfl) ?_
                              refine lv_dup hx hb dX9_takeOff_325 rfl ?_
                              refine va_get (D := G) (ci := 9) (v := .int i12) (C := RX9) (T := TX9) (N := 58) hx hb hts xinX9 hown hK hP 0 rfl rfl 45 (by decide) (hts _ wo_567) (fun _ h9 => h9) rfl dX9_takeOff_326 ?_
                              refine lv_iload hx hb dX9_takeOff_329 (lv_at hl 1 rfl) ?_
                              refine lv_iconst (v := 1) hx hb dX9_takeOff_331 (by decide) ?_
                              refine lv_isub hx hb dX9_takeOff_332 ?_
                              refine lv_iadd hx hb dX9_takeOff_333 ?_
                              refine lv_topi (fun v334 ev334 => ?_)
                              replace hwp := hwp v334 ev334
                              clear ev334
                              refine va_put (D := G) (ci := 9) (v := .int v334) (ty := .int) (C := RX9) (T := TX9) (N := 58) hx hb hts xinX9 tyX9 tyX9_ok nmX9 hown hK hP hD hS 0 rfl rfl 45 (by decide) (hts _ wo_567) (fun _ h9 => h9) rfl (by decide +kernel) rfl rfl (Nat.le_of_ble_eq_true rfl) dX9_takeOff_334 (fun H locs hP hD hS => ?_)
                              replace hP : va_P G vwCl [(h0, .inr (9, [.int i0, .int i1, .ref k0, .ref k1, .ref k2, .ref k3, .ref k4, .int i2, .ref k5, .int i3, .ref k6, .ref k7, .ref k8, .int i4, .ref k9, .ref k10, .int i5, .ref k11, .ref k12, .ref k13, .int i6, .ref k14, .int i7, .ref k15, .ref k16, .int i8, .int i9, .int i10, .ref k17, .int i11, .ref k18, .ref k19, .ref k20, .ref h4, .ref h5, .ref k21, .ref k22, .ref k23, .ref k24, .ref k25, .ref k26, .ref h2, .ref h3, .ref h7, .ref h1, .int v334, .int i13, .int i14, .int i15, .int i16, .ref h6, .ref k27, .ref k28, .ref k29, .ref k30, .ref k31, .int i17, .ref k32])), (h1, aI cI 24 t295_0), (h2, aI cI 20 g34), (h3, aI cI 20 g42), (h4, aI cI 400 f21), (h5, aI cI 20 f22), (h6, aI cI 20 t83_0), (h7, aI cI 20 t83_1)] H := hP
                              replace hD : va_D A [(h0, .inr (9, [.int i0, .int i1, .ref k0, .ref k1, .ref k2, .ref k3, .ref k4, .int i2, .ref k5, .int i3, .ref k6, .ref k7, .ref k8, .int i4, .ref k9, .ref k10, .int i5, .ref k11, .ref k12, .ref k13, .int i6, .ref k14, .int i7, .ref k15, .ref k16, .int i8, .int i9, .int i10, .ref k17, .int i11, .ref k18, .ref k19, .ref k20, .ref h4, .ref h5, .ref k21, .ref k22, .ref k23, .ref k24, .ref k25, .ref k26, .ref h2, .ref h3, .ref h7, .ref h1, .int v334, .int i13, .int i14, .int i15, .int i16, .ref h6, .ref k27, .ref k28, .ref k29, .ref k30, .ref k31, .int i17, .ref k32])), (h1, aI cI 24 t295_0), (h2, aI cI 20 g34), (h3, aI cI 20 g42), (h4, aI cI 400 f21), (h5, aI cI 20 f22), (h6, aI cI 20 t83_0), (h7, aI cI 20 t83_1)] := hD
                              have hP9 : va_P G vwCl [(h0, .inr (9, [.int i0, .int i1, .ref k0, .ref k1, .ref k2, .ref k3, .ref k4, .int i2, .ref k5, .int i3, .ref k6, .ref k7, .ref k8, .int i4, .ref k9, .ref k10, .int i5, .ref k11, .ref k12, .ref k13, .int i6, .ref k14, .int i7, .ref k15, .ref k16, .int i8, .int i9, .int i10, .ref k17, .int i11, .ref k18, .ref k19, .ref k20, .ref h4, .ref h5, .ref k21, .ref k22, .ref k23, .ref k24, .ref k25, .ref k26, .ref h2, .ref h3, .ref h7, .ref h1, .int v334, .int i13, .int i14, .int i15, .int i16, .ref h6, .ref k27, .ref k28, .ref k29, .ref k30, .ref k31, .int i17, .ref k32])), (h1, aI cI 24 t295_0), (h2, aI cI 20 g34), (h3, aI cI 20 g42), (h4, aI cI 400 f21), (h5, aI cI 20 f22), (h6, aI cI 20 t83_0), (h7, aI cI 20 t83_1)] H := hP.sub [0, 1, 2, 3, 4, 5, 6, 7] rfl
                              have hD9 : va_D A [(h0, .inr (9, [.int i0, .int i1, .ref k0, .ref k1, .ref k2, .ref k3, .ref k4, .int i2, .ref k5, .int i3, .ref k6, .ref k7, .ref k8, .int i4, .ref k9, .ref k10, .int i5, .ref k11, .ref k12, .ref k13, .int i6, .ref k14, .int i7, .ref k15, .ref k16, .int i8, .int i9, .int i10, .ref k17, .int i11, .ref k18, .ref k19, .ref k20, .ref h4, .ref h5, .ref k21, .ref k22, .ref k23, .ref k24, .ref k25, .ref k26, .ref h2, .ref h3, .ref h7, .ref h1, .int v334, .int i13, .int i14, .int i15, .int i16, .ref h6, .ref k27, .ref k28, .ref k29, .ref k30, .ref k31, .int i17, .ref k32])), (h1, aI cI 24 t295_0), (h2, aI cI 20 g34), (h3, aI cI 20 g42), (h4, aI cI 400 f21), (h5, aI cI 20 f22), (h6, aI cI 20 t83_0), (h7, aI cI 20 t83_1)] := hD.sub [0, 1, 2, 3, 4, 5, 6, 7] (by decide) rfl
                              rw [← hQQ]
                              exact W.vret hx hb hr (fun t ht hW => ⟨⟨(v334, t295_0, g34, g42, t83_0, t83_1), rfl, hwp, by rw [ht]; exact hP9, hD9⟩, hS.F ht⟩) hS.2.2 dX9_takeOff_337
                            · replace hwp := hwp.2 c299
                              refine lv_aload_n hx hb dX9_takeOff_302 rfl (lv_at hl 2 rfl) ?_
                              refine va_get (D := G) (ci := 9) (v := .ref h1) (C := RX9) (T := TX9) (N := 58) hx hb hts xinX9 hown hK hP 0 rfl rfl 44 (by decide) (hts _ wo_564) (fun _ h9 => h9) rfl dX9_takeOff_303 ?_
                              refine lv_iload_n hx hb dX9_takeOff_306 rfl (lv_at hl 3 rfl) ?_
                              refine lv_iload hx hb dX9_takeOff_307 (lv_at hl 0 rfl) ?_
                              refine lv_iadd hx hb dX9_takeOff_309 ?_
                              refine lv_aload_n hx hb dX9_takeOff_310 rfl (lv_at hl 2 rfl) ?_
                              refine va_get (D := G) (ci := 9) (v := .ref h6) (C := RX9) (T := TX9) (N := 58) hx hb hts xinX9 hown hK hP 0 rfl rfl 50 (by decide) (hts _ wo_568) (fun _ h9 => h9) rfl dX9_takeOff_311 ?_
                              refine lv_iload hx hb dX9_takeOff_314 (lv_at hl 0 rfl) ?_
                              obtain ⟨hi, hwp⟩ := hwp
                              refine va_iald hx hb hK hP 6 0 rfl rfl hi dX9_takeOff_316 ?_
                              obtain ⟨hi, hwp⟩ := hwp
                              refine va_iast hx hb hK hP hD hS 1 0 rfl rfl hi dX9_takeOff_317 (fun H locs hP hD hS => ?_)
                              obtain ⟨g317, eg317⟩ : ∃ z, z = upd t295_0 (Int32.toNatClampNeg (p0 + t295_1)) (t83_0 (Int32.toNatClampNeg t295_1)) := ⟨_, rfl⟩
                              replace hwp := hwp g317 eg317
                              replace hP : va_P G vwCl [(h0, .inr (9, [.int i0, .int i1, .ref k0, .ref k1, .ref k2, .ref k3, .ref k4, .int i2, .ref k5, .int i3, .ref k6, .ref k7, .ref k8, .int i4, .ref k9, .ref k10, .int i5, .ref k11, .ref k12, .ref k13, .int i6, .ref k14, .int i7, .ref k15, .ref k16, .int i8, .int i9, .int i10, .ref k17, .int i11, .ref k18, .ref k19, .ref k20, .ref h4, .ref h5, .ref k21, .ref k22, .ref k23, .ref k24, .ref k25, .ref k26, .ref h2, .ref h3, .ref h7, .ref h1, .int i12, .int i13, .int i14, .int i15, .int i16, .ref h6, .ref k27, .ref k28, .ref k29, .ref k30, .ref k31, .int i17, .ref k32])), (h1, aI cI 24 g317), (h2, aI cI 20 g34), (h3, aI cI 20 g42), (h4, aI cI 400 f21), (h5, aI cI 20 f22), (h6, aI cI 20 t83_0), (h7, aI cI 20 t83_1)] H := by rw [eg317]; exact hP
                              replace hD : va_D A [(h0, .inr (9, [.int i0, .int i1, .ref k0, .ref k1, .ref k2, .ref k3, .ref k4, .int i2, .ref k5, .int i3, .ref k6, .ref k7, .ref k8, .int i4, .ref k9, .ref k10, .int i5, .ref k11, .ref k12, .ref k13, .int i6, .ref k14, .int i7, .ref k15, .ref k16, .int i8, .int i9, .int i10, .ref k17, .int i11, .ref k18, .ref k19, .ref k20, .ref h4, .ref h5, .ref k21, .ref k22, .ref k23, .ref k24, .ref k25, .ref k26, .ref h2, .ref h3, .ref h7, .ref h1, .int i12, .int i13, .int i14, .int i15, .int i16, .ref h6, .ref k27, .ref k28, .ref k29, .ref k30, .ref k31, .int i17, .ref k32])), (h1, aI cI 24 g317), (h2, aI cI 20 g34), (h3, aI cI 20 g42), (h4, aI cI 400 f21), (h5, aI cI 20 f22), (h6, aI cI 20 t83_0), (h7, aI cI 20 t83_1)] := by rw [eg317]; exact hD
                              clear eg317
                              refine lv_iinc (v := (t295_1 + 1)) (lv' := [(9, .int (t295_1 + 1)), (8, .int t83_2), (0, .ref h0), (1, .int p0)]) hx hb dX9_takeOff_318 hl (k := 0) rfl rfl (by decide) rfl (fun ls hl => ?_)
                              refine lv_goto (tgt := 295) hx hb dX9_takeOff_321 (by decide) ?_
                              replace hl : lv_has ls 12 [(9, .int (t295_1 + 1)), (8, .int t83_2), (0, .ref h0), (1, .int p0)] := lv_sub hl [0, 1, 2, 3] rfl
                              exact ih7 H locs ls g317 (t295_1 + 1) hwp hP hD hS hl
                        exact hs7 n7 H locs ls t261_0 0 hwp hP hD hS hl
                      · replace hwp := hwp.2 c264
                        refine lv_aload_n hx hb dX9_takeOff_267 rfl (lv_at hl 2 rfl) ?_
                        refine va_get (D := G) (ci := 9) (v := .ref h1) (C := RX9) (T := TX9) (N := 58) hx hb hts xinX9 hown hK hP 0 rfl rfl 44 (by decide) (hts _ wo_564) (fun _ h9 => h9) rfl dX9_takeOff_268 ?_
                        refine lv_iload hx hb dX9_takeOff_271 (lv_at hl 0 rfl) ?_
                        refine lv_iload hx hb dX9_takeOff_273 (lv_at hl 1 rfl) ?_
                        refine lv_iadd hx hb dX9_takeOff_275 ?_
                        refine lv_iconst (v := 1) hx hb dX9_takeOff_276 (by decide) ?_
                        refine lv_isub hx hb dX9_takeOff_277 ?_
                        refine lv_aload_n hx hb dX9_takeOff_278 rfl (lv_at hl 2 rfl) ?_
                        refine va_get (D := G) (ci := 9) (v := .ref h1) (C := RX9) (T := TX9) (N := 58) hx hb hts xinX9 hown hK hP 0 rfl rfl 44 (by decide) (hts _ wo_564) (fun _ h9 => h9) rfl dX9_takeOff_279 ?_
                        refine lv_iload hx hb dX9_takeOff_282 (lv_at hl 0 rfl) ?_
                        obtain ⟨hi, hwp⟩ := hwp
                        refine va_iald hx hb hK hP 1 0 rfl rfl hi dX9_takeOff_284 ?_
                        obtain ⟨hi, hwp⟩ := hwp
                        refine va_iast hx hb hK hP hD hS 1 0 rfl rfl hi dX9_takeOff_285 (fun H locs hP hD hS => ?_)
                        obtain ⟨g285, eg285⟩ : ∃ z, z = upd t261_0 (Int32.toNatClampNeg ((t261_1 + t83_2) - 1)) (t261_0 (Int32.toNatClampNeg t261_1)) := ⟨_, rfl⟩
                        replace hwp := hwp g285 eg285
                        replace hP : va_P G vwCl [(h0, .inr (9, [.int i0, .int i1, .ref k0, .ref k1, .ref k2, .ref k3, .ref k4, .int i2, .ref k5, .int i3, .ref k6, .ref k7, .ref k8, .int i4, .ref k9, .ref k10, .int i5, .ref k11, .ref k12, .ref k13, .int i6, .ref k14, .int i7, .ref k15, .ref k16, .int i8, .int i9, .int i10, .ref k17, .int i11, .ref k18, .ref k19, .ref k20, .ref h4, .ref h5, .ref k21, .ref k22, .ref k23, .ref k24, .ref k25, .ref k26, .ref h2, .ref h3, .ref h7, .ref h1, .int i12, .int i13, .int i14, .int i15, .int i16, .ref h6, .ref k27, .ref k28, .ref k29, .ref k30, .ref k31, .int i17, .ref k32])), (h1, aI cI 24 g285), (h2, aI cI 20 g34), (h3, aI cI 20 g42), (h4, aI cI 400 f21), (h5, aI cI 20 f22), (h6, aI cI 20 t83_0), (h7, aI cI 20 t83_1)] H := by rw [eg285]; exact hP
                        replace hD : va_D A [(h0, .inr (9, [.int i0, .int i1, .ref k0, .ref k1, .ref k2, .ref k3, .ref k4, .int i2, .ref k5, .int i3, .ref k6, .ref k7, .ref k8, .int i4, .ref k9, .ref k10, .int i5, .ref k11, .ref k12, .ref k13, .int i6, .ref k14, .int i7, .ref k15, .ref k16, .int i8, .int i9, .int i10, .ref k17, .int i11, .ref k18, .ref k19, .ref k20, .ref h4, .ref h5, .ref k21, .ref k22, .ref k23, .ref k24, .ref k25, .ref k26, .ref h2, .ref h3, .ref h7, .ref h1, .int i12, .int i13, .int i14, .int i15, .int i16, .ref h6, .ref k27, .ref k28, .ref k29, .ref k30, .ref k31, .int i17, .ref k32])), (h1, aI cI 24 g285), (h2, aI cI 20 g34), (h3, aI cI 20 g42), (h4, aI cI 400 f21), (h5, aI cI 20 f22), (h6, aI cI 20 t83_0), (h7, aI cI 20 t83_1)] := by rw [eg285]; exact hD
                        clear eg285
                        refine lv_iinc (v := (t261_1 + (-1))) (lv' := [(9, .int (t261_1 + (-1))), (8, .int t83_2), (0, .ref h0), (1, .int p0)]) hx hb dX9_takeOff_286 hl (k := 0) rfl rfl (by decide) rfl (fun ls hl => ?_)
                        refine lv_goto (tgt := 261) hx hb dX9_takeOff_289 (by decide) ?_
                        replace hl : lv_has ls 12 [(9, .int (t261_1 + (-1))), (8, .int t83_2), (0, .ref h0), (1, .int p0)] := lv_sub hl [0, 1, 2, 3] rfl
                        exact ih6 H locs ls g285 (t261_1 + (-1)) hwp hP hD hS hl
                  exact hs6 n6 H locs ls f18 v259 hwp hP hD hS hl
                · replace hwp := hwp.2 c211
                  refine lv_iload_n hx hb dX9_takeOff_214 rfl (lv_at hl 7 rfl) ?_
                  refine lv_istore (lv' := [(9, .int p0), (8, .int t83_2), (7, .int v75), (6, .int t46_0), (5, .int v25), (3, .int v6), (0, .ref h0), (1, .int p0), (2, .int p1)]) hx hb dX9_takeOff_215 hl (by decide) rfl (fun ls hl => ?_)
                  replace hl : lv_has ls 12 [(9, .int p0), (8, .int t83_2), (0, .ref h0)] := lv_sub hl [0, 1, 6] rfl
                  obtain ⟨n8, hwp⟩ := hwp
                  have hs8 : ∀ (n8 : Nat) (H : Heap) (locs : List Loc) (ls : Array Slot) (t217_0 : Nat → Int32) (t217_1 : Int32), wLX9_takeOff_217_1 i12 g34 g42 t83_0 t83_1 t83_2 K  n8 t217_0 t217_1 → va_P G vwCl [(h0, .inr (9, [.int i0, .int i1, .ref k0, .ref k1, .ref k2, .ref k3, .ref k4, .int i2, .ref k5, .int i3, .ref k6, .ref k7, .ref k8, .int i4, .ref k9, .ref k10, .int i5, .ref k11, .ref k12, .ref k13, .int i6, .ref k14, .int i7, .ref k15, .ref k16, .int i8, .int i9, .int i10, .ref k17, .int i11, .ref k18, .ref k19, .ref k20, .ref h4, .ref h5, .ref k21, .ref k22, .ref k23, .ref k24, .ref k25, .ref k26, .ref h2, .ref h3, .ref h7, .ref h1, .int i12, .int i13, .int i14, .int i15, .int i16, .ref h6, .ref k27, .ref k28, .ref k29, .ref k30, .ref k31, .int i17, .ref k32])), (h1, aI cI 24 t217_0), (h2, aI cI 20 g34), (h3, aI cI 20 g42), (h4, aI cI 400 f21), (h5, aI cI 20 f22), (h6, aI cI 20 t83_0), (h7, aI cI 20 t83_1)] H → va_D A [(h0, .inr (9, [.int i0, .int i1, .ref k0, .ref k1, .ref k2, .ref k3, .ref k4, .int i2, .ref k5, .int i3, .ref k6, .ref k7, .ref k8, .int i4, .ref k9, .ref k10, .int i5, .ref k11, .ref k12, .ref k13, .int i6, .ref k14, .int i7, .ref k15, .ref k16, .int i8, .int i9, .int i10, .ref k17, .int i11, .ref k18, .ref k19, .ref k20, .ref h4, .ref h5, .ref k21, .ref k22, .ref k23, .ref k24, .ref k25, .ref k26, .ref h2, .ref h3, .ref h7, .ref h1, .int i12, .int i13, .int i14, .int i15, .int i16, .ref h6, .ref k27, .ref k28, .ref k29, .ref k30, .ref k31, .int i17, .ref k32])), (h1, aI cI 24 t217_0), (h2, aI cI 20 g34), (h3, aI cI 20 g42), (h4, aI cI 400 f21), (h5, aI cI 20 f22), (h6, aI cI 20 t83_0), (h7, aI cI 20 t83_1)] → va_S A s.heap H locs → lv_has ls 12 [(9, .int t217_1), (8, .int t83_2), (0, .ref h0)] → W p l e ((headSpec (xw yX9_takeOff cX9_takeOff 12 none) { frames := 0, cells := 0, slots := 0, locals := 0 }).room) s m ([.ref h0, .int p0, .int p1] : List Value).toArray below meth c H locs 0 0 QQ (F0 m 217 ls []) := by
                    intro n8
                    induction n8 with
                    | zero => intro H locs ls t217_0 t217_1 hwp; exact False.elim hwp
                    | succ n8 ih8 =>
                      intro H locs ls t217_0 t217_1 hwp hP hD hS hl
                      rw [wLX9_takeOff_217_1] at hwp
                      refine lv_iload hx hb dX9_takeOff_217 (lv_at hl 0 rfl) ?_
                      refine lv_iconst (v := 1) hx hb dX9_takeOff_219 (by decide) ?_
                      refine lv_iadd hx hb dX9_takeOff_220 ?_
                      refine lv_aload_n hx hb dX9_takeOff_221 rfl (lv_at hl 2 rfl) ?_
                      refine va_get (D := G) (ci := 9) (v := .int i12) (C := RX9) (T := TX9) (N := 58) hx hb hts xinX9 hown hK hP 0 rfl rfl 45 (by decide) (hts _ wo_567) (fun _ h9 => h9) rfl dX9_takeOff_222 ?_
                      refine lv_icmp_ge (tgt := 250) hx hb dX9_takeOff_225 (by decide) (fun c225 => ?_) (fun c225 => ?_)
                      · replace hwp := hwp.1 c225
                        refine lv_goto (tgt := 324) hx hb dX9_takeOff_250 (by decide) ?_
                        refine lv_aload_n hx hb dX9_takeOff_324 rfl (lv_at hl 2 rfl) ?_
                        refine lv_dup hx hb dX9_takeOff_325 rfl ?_
                        refine va_get (D := G) (ci := 9) (v := .int i12) (C := RX9) (T := TX9) (N := 58) hx hb hts xinX9 hown hK hP 0 rfl rfl 45 (by decide) (hts _ wo_567) (fun _ h9 => h9) rfl dX9_takeOff_326 ?_
                        refine lv_iload hx hb dX9_takeOff_329 (lv_at hl 1 rfl) ?_
                        refine lv_iconst (v := 1) hx hb dX9_takeOff_331 (by decide) ?_
                        refine lv_isub hx hb dX9_takeOff_332 ?_
                        refine lv_iadd hx hb dX9_takeOff_333 ?_
                        refine lv_topi (fun v334 ev334 => ?_)
                        replace hwp := hwp v334 ev334
                        clear ev334
                        refine va_put (D := G) (ci := 9) (v := .int v334) (ty := .int) (C := RX9) (T := TX9) (N := 58) hx hb hts xinX9 tyX9 tyX9_ok nmX9 hown hK hP hD hS 0 rfl rfl 45 (by decide) (hts _ wo_567) (fun _ h9 => h9) rfl (by decide +kernel) rfl rfl (Nat.le_of_ble_eq_true rfl) dX9_takeOff_334 (fun H locs hP hD hS => ?_)
                        replace hP : va_P G vwCl [(h0, .inr (9, [.int i0, .int i1, .ref k0, .ref k1, .ref k2, .ref k3, .ref k4, .int i2, .ref k5, .int i3, .ref k6, .ref k7, .ref k8, .int i4, .ref k9, .ref k10, .int i5, .ref k11, .ref k12, .ref k13, .int i6, .ref k14, .int i7, .ref k15, .ref k16, .int i8, .int i9, .int i10, .ref k17, .int i11, .ref k18, .ref k19, .ref k20, .ref h4, .ref h5, .ref k21, .ref k22, .ref k23, .ref k24, .ref k25, .ref k26, .ref h2, .ref h3, .ref h7, .ref h1, .int v334, .int i13, .int i14, .int i15, .int i16, .ref h6, .ref k27, .ref k28, .ref k29, .ref k30, .ref k31, .int i17, .ref k32])), (h1, aI cI 24 t217_0), (h2, aI cI 20 g34), (h3, aI cI 20 g42), (h4, aI cI 400 f21), (h5, aI cI 20 f22), (h6, aI cI 20 t83_0), (h7, aI cI 20 t83_1)] H := hP
                        replace hD : va_D A [(h0, .inr (9, [.int i0, .int i1, .ref k0, .ref k1, .ref k2, .ref k3, .ref k4, .int i2, .ref k5, .int i3, .ref k6, .ref k7, .ref k8, .int i4, .ref k9, .ref k10, .int i5, .ref k11, .ref k12, .ref k13, .int i6, .ref k14, .int i7, .ref k15, .ref k16, .int i8, .int i9, .int i10, .ref k17, .int i11, .ref k18, .ref k19, .ref k20, .ref h4, .ref h5, .ref k21, .ref k22, .ref k23, .ref k24, .ref k25, .ref k26, .ref h2, .ref h3, .ref h7, .ref h1, .int v334, .int i13, .int i14, .int i15, .int i16, .ref h6, .ref k27, .ref k28, .ref k29, .ref k30, .ref k31, .int i17, .ref k32])), (h1, aI cI 24 t217_0), (h2, aI cI 20 g34), (h3, aI cI 20 g42), (h4, aI cI 400 f21), (h5, aI cI 20 f22), (h6, aI cI 20 t83_0), (h7, aI cI 20 t83_1)] := hD
                        have hP9 : va_P G vwCl [(h0, .inr (9, [.int i0, .int i1, .ref k0, .ref k1, .ref k2, .ref k3, .ref k4, .int i2, .ref k5, .int i3, .ref k6, .ref k7, .ref k8, .int i4, .ref k9, .ref k10, .int i5, .ref k11, .ref k12, .ref k13, .int i6, .ref k14, .int i7, .ref k15, .ref k16, .int i8, .int i9, .int i10, .ref k17, .int i11, .ref k18, .ref k19, .ref k20, .ref h4, .ref h5, .ref k21, .ref k22, .ref k23, .ref k24, .ref k25, .ref k26, .ref h2, .ref h3, .ref h7, .ref h1, .int v334, .int i13, .int i14, .int i15, .int i16, .ref h6, .ref k27, .ref k28, .ref k29, .ref k30, .ref k31, .int i17, .ref k32])), (h1, aI cI 24 t217_0), (h2, aI cI 20 g34), (h3, aI cI 20 g42), (h4, aI cI 400 f21), (h5, aI cI 20 f22), (h6, aI cI 20 t83_0), (h7, aI cI 20 t83_1)] H := hP.sub [0, 1, 2, 3, 4, 5, 6, 7] rfl
                        have hD9 : va_D A [(h0, .inr (9, [.int i0, .int i1, .ref k0, .ref k1, .ref k2, .ref k3, .ref k4, .int i2, .ref k5, .int i3, .ref k6, .ref k7, .ref k8, .int i4, .ref k9, .ref k10, .int i5, .ref k11, .ref k12, .ref k13, .int i6, .ref k14, .int i7, .ref k15, .ref k16, .int i8, .int i9, .int i10, .ref k17, .int i11, .ref k18, .ref k19, .ref k20, .ref h4, .ref h5, .ref k21, .ref k22, .ref k23, .ref k24, .ref k25, .ref k26, .ref h2, .ref h3, .ref h7, .ref h1, .int v334, .int i13, .int i14, .int i15, .int i16, .ref h6, .ref k27, .ref k28, .ref k29, .ref k30, .ref k31, .int i17, .ref k32])), (h1, aI cI 24 t217_0), (h2, aI cI 20 g34), (h3, aI cI 20 g42), (h4, aI cI 400 f21), (h5, aI cI 20 f22), (h6, aI cI 20 t83_0), (h7, aI cI 20 t83_1)] := hD.sub [0, 1, 2, 3, 4, 5, 6, 7] (by decide) rfl
                        rw [← hQQ]
                        exact W.vret hx hb hr (fun t ht hW => ⟨⟨(v334, t217_0, g34, g42, t83_0, t83_1), rfl, hwp, by rw [ht]; exact hP9, hD9⟩, hS.F ht⟩) hS.2.2 dX9_takeOff_337
                      · replace hwp := hwp.2 c225
                        refine lv_aload_n hx hb dX9_takeOff_228 rfl (lv_at hl 2 rfl) ?_
                        refine va_get (D := G) (ci := 9) (v := .ref h1) (C := RX9) (T := TX9) (N := 58) hx hb hts xinX9 hown hK hP 0 rfl rfl 44 (by decide) (hts _ wo_564) (fun _ h9 => h9) rfl dX9_takeOff_229 ?_
                        refine lv_iload hx hb dX9_takeOff_232 (lv_at hl 0 rfl) ?_
                        refine lv_aload_n hx hb dX9_takeOff_234 rfl (lv_at hl 2 rfl) ?_
                        refine va_get (D := G) (ci := 9) (v := .ref h1) (C := RX9) (T := TX9) (N := 58) hx hb hts xinX9 hown hK hP 0 rfl rfl 44 (by decide) (hts _ wo_564) (fun _ h9 => h9) rfl dX9_takeOff_235 ?_
                        refine lv_iload hx hb dX9_takeOff_238 (lv_at hl 0 rfl) ?_
                        refine lv_iconst (v := 1) hx hb dX9_takeOff_240 (by decide) ?_
                        refine lv_iadd hx hb dX9_takeOff_241 ?_
                        obtain ⟨hi, hwp⟩ := hwp
                        refine va_iald hx hb hK hP 1 0 rfl rfl hi dX9_takeOff_242 ?_
                        obtain ⟨hi, hwp⟩ := hwp
                        refine va_iast hx hb hK hP hD hS 1 0 rfl rfl hi dX9_takeOff_243 (fun H locs hP hD hS => ?_)
                        obtain ⟨g243, eg243⟩ : ∃ z, z = upd t217_0 (Int32.toNatClampNeg t217_1) (t217_0 (Int32.toNatClampNeg (t217_1 + 1))) := ⟨_, rfl⟩
                        replace hwp := hwp g243 eg243
                        replace hP : va_P G vwCl [(h0, .inr (9, [.int i0, .int i1, .ref k0, .ref k1, .ref k2, .ref k3, .ref k4, .int i2, .ref k5, .int i3, .ref k6, .ref k7, .ref k8, .int i4, .ref k9, .ref k10, .int i5, .ref k11, .ref k12, .ref k13, .int i6, .ref k14, .int i7, .ref k15, .ref k16, .int i8, .int i9, .int i10, .ref k17, .int i11, .ref k18, .ref k19, .ref k20, .ref h4, .ref h5, .ref k21, .ref k22, .ref k23, .ref k24, .ref k25, .ref k26, .ref h2, .ref h3, .ref h7, .ref h1, .int i12, .int i13, .int i14, .int i15, .int i16, .ref h6, .ref k27, .ref k28, .ref k29, .ref k30, .ref k31, .int i17, .ref k32])), (h1, aI cI 24 g243), (h2, aI cI 20 g34), (h3, aI cI 20 g42), (h4, aI cI 400 f21), (h5, aI cI 20 f22), (h6, aI cI 20 t83_0), (h7, aI cI 20 t83_1)] H := by rw [eg243]; exact hP
                        replace hD : va_D A [(h0, .inr (9, [.int i0, .int i1, .ref k0, .ref k1, .ref k2, .ref k3, .ref k4, .int i2, .ref k5, .int i3, .ref k6, .ref k7, .ref k8, .int i4, .ref k9, .ref k10, .int i5, .ref k11, .ref k12, .ref k13, .int i6, .ref k14, .int i7, .ref k15, .ref k16, .int i8, .int i9, .int i10, .ref k17, .int i11, .ref k18, .ref k19, .ref k20, .ref h4, .ref h5, .ref k21, .ref k22, .ref k23, .ref k24, .ref k25, .ref k26, .ref h2, .ref h3, .ref h7, .ref h1, .int i12, .int i13, .int i14, .int i15, .int i16, .ref h6, .ref k27, .ref k28, .ref k29, .ref k30, .ref k31, .int i17, .ref k32])), (h1, aI cI 24 g243), (h2, aI cI 20 g34), (h3, aI cI 20 g42), (h4, aI cI 400 f21), (h5, aI cI 20 f22), (h6, aI cI 20 t83_0), (h7, aI cI 20 t83_1)] := by rw [eg243]; exact hD
                        clear eg243
                        refine lv_iinc (v := (t217_1 + 1)) (lv' := [(9, .int (t217_1 + 1)), (8, .int t83_2), (0, .ref h0)]) hx hb dX9_takeOff_244 hl (k := 0) rfl rfl (by decide) rfl (fun ls hl => ?_)
                        refine lv_goto (tgt := 217) hx hb dX9_takeOff_247 (by decide) ?_
                        replace hl : lv_has ls 12 [(9, .int (t217_1 + 1)), (8, .int t83_2), (0, .ref h0)] := lv_sub hl [0, 1, 2] rfl
                        exact ih8 H locs ls g243 (t217_1 + 1) hwp hP hD hS hl
                  exact hs8 n8 H locs ls f18 p0 hwp hP hD hS hl
              · replace hwp := hwp.2 c91
                refine lv_iload hx hb dX9_takeOff_94 (lv_at hl 0 rfl) ?_
                refine lv_if_ne (tgt := 103) hx hb dX9_takeOff_96 (by decide) (fun c96 => ?_) (fun c96 => ?_)
                · replace hwp := hwp.1 c96
                  refine lv_iload hx hb dX9_takeOff_103 (lv_at hl 2 rfl) ?_
                  refine lv_iconst (v := 1) hx hb dX9_takeOff_105 (by decide) ?_
                  refine lv_isub hx hb dX9_takeOff_106 ?_
                  refine lv_topi (fun v107 ev107 => ?_)
                  replace hwp := hwp v107 ev107
                  clear ev107
                  refine lv_istore (lv' := [(10, .int v107), (9, .int t83_3), (8, .int t83_2), (7, .int v75), (6, .int t46_0), (5, .int v25), (3, .int v6), (0, .ref h0), (1, .int p0), (2, .int p1)]) hx hb dX9_takeOff_107 hl (by decide) rfl (fun ls hl => ?_)
                  refine lv_iload hx hb dX9_takeOff_109 (lv_at hl 4 rfl) ?_
                  refine lv_iload hx hb dX9_takeOff_111 (lv_at hl 0 rfl) ?_
                  refine lv_iadd hx hb dX9_takeOff_113 ?_
                  refine lv_iload hx hb dX9_takeOff_114 (lv_at hl 3 rfl) ?_
                  obtain ⟨hi, hwp⟩ := hwp
                  refine lv_irem hx hb dX9_takeOff_116 hi ?_
                  refine lv_topi (fun v117 ev117 => ?_)
                  replace hwp := hwp v117 ev117
                  clear ev117
                  refine lv_istore (lv' := [(11, .int v117), (10, .int v107), (9, .int t83_3), (8, .int t83_2), (7, .int v75), (6, .int t46_0), (5, .int v25), (3, .int v6), (0, .ref h0), (1, .int p0), (2, .int p1)]) hx hb dX9_takeOff_117 hl (by decide) rfl (fun ls hl => ?_)
                  replace hl : lv_has ls 12 [(11, .int v117), (10, .int v107), (9, .int t83_3), (8, .int t83_2), (7, .int v75), (6, .int t46_0), (5, .int v25), (3, .int v6), (0, .ref h0), (1, .int p0), (2, .int p1)] := lv_sub hl [0, 1, 2, 3, 4, 5, 6, 7, 8, 9, 10] rfl
                  obtain ⟨n9, hwp⟩ := hwp
                  have hs9 : ∀ (n9 : Nat) (H : Heap) (locs : List Loc) (ls : Array Slot) (t119_0 : Nat → Int32) (t119_1 : Nat → Int32) (t119_2 : Int32) (t119_3 : Int32), wLX9_takeOff_119 f21 p1 v6 v25 v75 t83_3 v107 K (fun z0 z1 z2 z3 => wLX9_takeOff_83 i12 f18 f21 p0 p1 v6 v25 g34 g42 t46_0 v75 K  n2 z0 z1 z2 z3) n9 t119_0 t119_1 t119_2 t119_3 → va_P G vwCl [(h0, .inr (9, [.int i0, .int i1, .ref k0, .ref k1, .ref k2, .ref k3, .ref k4, .int i2, .ref k5, .int i3, .ref k6, .ref k7, .ref k8, .int i4, .ref k9, .ref k10, .int i5, .ref k11, .ref k12, .ref k13, .int i6, .ref k14, .int i7, .ref k15, .ref k16, .int i8, .int i9, .int i10, .ref k17, .int i11, .ref k18, .ref k19, .ref k20, .ref h4, .ref h5, .ref k21, .ref k22, .ref k23, .ref k24, .ref k25, .ref k26, .ref h2, .ref h3, .ref h7, .ref h1, .int i12, .int i13, .int i14, .int i15, .int i16, .ref h6, .ref k27, .ref k28, .ref k29, .ref k30, .ref k31, .int i17, .ref k32])), (h1, aI cI 24 f18), (h2, aI cI 20 g34), (h3, aI cI 20 g42), (h4, aI cI 400 f21), (h5, aI cI 20 f22), (h6, aI cI 20 t119_0), (h7, aI cI 20 t119_1)] H → va_D A [(h0, .inr (9, [.int i0, .int i1, .ref k0, .ref k1, .ref k2, .ref k3, .ref k4, .int i2, .ref k5, .int i3, .ref k6, .ref k7, .ref k8, .int i4, .ref k9, .ref k10, .int i5, .ref k11, .ref k12, .ref k13, .int i6, .ref k14, .int i7, .ref k15, .ref k16, .int i8, .int i9, .int i10, .ref k17, .int i11, .ref k18, .ref k19, .ref k20, .ref h4, .ref h5, .ref k21, .ref k22, .ref k23, .ref k24, .ref k25, .ref k26, .ref h2, .ref h3, .ref h7, .ref h1, .int i12, .int i13, .int i14, .int i15, .int i16, .ref h6, .ref k27, .ref k28, .ref k29, .ref k30, .ref k31, .int i17, .ref k32])), (h1, aI cI 24 f18), (h2, aI cI 20 g34), (h3, aI cI 20 g42), (h4, aI cI 400 f21), (h5, aI cI 20 f22), (h6, aI cI 20 t119_0), (h7, aI cI 20 t119_1)] → va_S A s.heap H locs → lv_has ls 12 [(11, .int t119_2), (10, .int v107), (9, .int t83_3), (8, .int t119_3), (7, .int v75), (6, .int t46_0), (5, .int v25), (3, .int v6), (0, .ref h0), (1, .int p0), (2, .int p1)] → W p l e ((headSpec (xw yX9_takeOff cX9_takeOff 12 none) { frames := 0, cells := 0, slots := 0, locals := 0 }).room) s m ([.ref h0, .int p0, .int p1] : List Value).toArray below meth c H locs 0 0 QQ (F0 m 119 ls []) := by
                    intro n9
                    induction n9 with
                    | zero => intro H locs ls t119_0 t119_1 t119_2 t119_3 hwp; exact False.elim hwp
                    | succ n9 ih9 =>
                      intro H locs ls t119_0 t119_1 t119_2 t119_3 hwp hP hD hS hl
                      rw [wLX9_takeOff_119] at hwp
                      refine lv_aload_n hx hb dX9_takeOff_119 rfl (lv_at hl 8 rfl) ?_
                      refine va_get (D := G) (ci := 9) (v := .ref h4) (C := RX9) (T := TX9) (N := 58) hx hb hts xinX9 hown hK hP 0 rfl rfl 33 (by decide) (hts _ wo_551) (fun _ h9 => h9) rfl dX9_takeOff_120 ?_
                      refine lv_bipush (v := 20) hx hb dX9_takeOff_123 (by decide) ?_
                      refine lv_iload_n hx hb dX9_takeOff_125 rfl (lv_at hl 7 rfl) ?_
                      refine lv_imul hx hb dX9_takeOff_126 ?_
                      refine lv_iload hx hb dX9_takeOff_127 (lv_at hl 0 rfl) ?_
                      refine lv_iadd hx hb dX9_takeOff_129 ?_
                      obtain ⟨hi, hwp⟩ := hwp
                      refine va_iald hx hb hK hP 4 0 rfl rfl hi dX9_takeOff_130 ?_
                      refine lv_iload hx hb dX9_takeOff_131 (lv_at hl 6 rfl) ?_
                      refine lv_icmp_eq (tgt := 203) hx hb dX9_takeOff_133 (by decide) (fun c133 => ?_) (fun c133 => ?_)
                      · replace hwp := hwp.1 c133
                        refine lv_iinc (v := (t83_3 + 1)) (lv' := [(9, .int (t83_3 + 1)), (11, .int t119_2), (10, .int v107), (8, .int t119_3), (7, .int v75), (6, .int t46_0), (5, .int v25), (3, .int v6), (0, .ref h0), (1, .int p0), (2, .int p1)]) hx hb dX9_takeOff_203 hl (k := 2) rfl rfl (by decide) rfl (fun ls hl => ?_)
                        refine lv_goto (tgt := 83) hx hb dX9_takeOff_206 (by decide) ?_
                        replace hl : lv_has ls 12 [(9, .int (t83_3 + 1)), (8, .int t119_3), (7, .int v75), (6, .int t46_0), (5, .int v25), (3, .int v6), (0, .ref h0), (1, .int p0), (2, .int p1)] := lv_sub hl [0, 3, 4, 5, 6, 7, 8, 9, 10] rfl
                        exact ih2 H locs ls t119_0 t119_1 t119_3 (t83_3 + 1) hwp hP hD hS hl
                      · replace hwp := hwp.2 c133
                        refine lv_iload_n hx hb dX9_takeOff_136 rfl (lv_at hl 10 rfl) ?_
                        refine lv_aload_n hx hb dX9_takeOff_137 rfl (lv_at hl 8 rfl) ?_
                        refine va_get (D := G) (ci := 9) (v := .ref h4) (C := RX9) (T := TX9) (N := 58) hx hb hts xinX9 hown hK hP 0 rfl rfl 33 (by decide) (hts _ wo_551) (fun _ h9 => h9) rfl dX9_takeOff_138 ?_
                        refine lv_bipush (v := 20) hx hb dX9_takeOff_141 (by decide) ?_
                        refine lv_iload_n hx hb dX9_takeOff_143 rfl (lv_at hl 7 rfl) ?_
                        refine lv_imul hx hb dX9_takeOff_144 ?_
                        refine lv_iload hx hb dX9_takeOff_145 (lv_at hl 0 rfl) ?_
                        refine lv_iadd hx hb dX9_takeOff_147 ?_
                        obtain ⟨hi, hwp⟩ := hwp
                        refine va_iald hx hb hK hP 4 0 rfl rfl hi dX9_takeOff_148 ?_
                        refine lv_ishr hx hb dX9_takeOff_149 ?_
                        refine lv_iconst (v := 1) hx hb dX9_takeOff_150 (by decide) ?_
                        refine lv_iand hx hb dX9_takeOff_151 ?_
                        refine lv_if_ne (tgt := 190) hx hb dX9_takeOff_152 (by decide) (fun c152 => ?_) (fun c152 => ?_)
                        · replace hwp := hwp.1 c152
                          refine lv_iload hx hb dX9_takeOff_190 (lv_at hl 0 rfl) ?_
                          refine lv_iload hx hb dX9_takeOff_192 (lv_at hl 1 rfl) ?_
                          refine lv_iadd hx hb dX9_takeOff_194 ?_
                          refine lv_iload hx hb dX9_takeOff_195 (lv_at hl 4 rfl) ?_
                          obtain ⟨hi, hwp⟩ := hwp
                          refine lv_irem hx hb dX9_takeOff_197 hi ?_
                          refine lv_topi (fun v198 ev198 => ?_)
                          replace hwp := hwp v198 ev198
                          clear ev198
                          refine lv_istore (lv' := [(11, .int v198), (10, .int v107), (9, .int t83_3), (8, .int t119_3), (7, .int v75), (6, .int t46_0), (5, .int v25), (3, .int v6), (0, .ref h0), (1, .int p0), (2, .int p1)]) hx hb dX9_takeOff_198 hl (by decide) rfl (fun ls hl => ?_)
                          refine lv_goto (tgt := 119) hx hb dX9_takeOff_200 (by decide) ?_
                          replace hl : lv_has ls 12 [(11, .int v198), (10, .int v107), (9, .int t83_3), (8, .int t119_3), (7, .int v75), (6, .int t46_0), (5, .int v25), (3, .int v6), (0, .ref h0), (1, .int p0), (2, .int p1)] := lv_sub hl [0, 1, 2, 3, 4, 5, 6, 7, 8, 9, 10] rfl
                          exact ih9 H locs ls t119_0 t119_1 v198 t119_3 hwp hP hD hS hl
                        · replace hwp := hwp.2 c152
                          refine lv_aload_n hx hb dX9_takeOff_155 rfl (lv_at hl 8 rfl) ?_
                          refine va_get (D := G) (ci := 9) (v := .ref h6) (C := RX9) (T := TX9) (N := 58) hx hb hts xinX9 hown hK hP 0 rfl rfl 50 (by decide) (hts _ wo_568) (fun _ h9 => h9) rfl dX9_takeOff_156 ?_
                          refine lv_iload hx hb dX9_takeOff_159 (lv_at hl 3 rfl) ?_
                          refine lv_aload_n hx hb dX9_takeOff_161 rfl (lv_at hl 8 rfl) ?_
                          refine va_get (D := G) (ci := 9) (v := .ref h4) (C := RX9) (T := TX9) (N := 58) hx hb hts xinX9 hown hK hP 0 rfl rfl 33 (by decide) (hts _ wo_551) (fun _ h9 => h9) rfl dX9_takeOff_162 ?_
                          refine lv_bipush (v := 20) hx hb dX9_takeOff_165 (by decide) ?_
                          refine lv_iload_n hx hb dX9_takeOff_167 rfl (lv_at hl 7 rfl) ?_
                          refine lv_imul hx hb dX9_takeOff_168 ?_
                          refine lv_iload hx hb dX9_takeOff_169 (lv_at hl 0 rfl) ?_
                          refine lv_iadd hx hb dX9_takeOff_171 ?_
                          obtain ⟨hi, hwp⟩ := hwp
                          refine va_iald hx hb hK hP 4 0 rfl rfl hi dX9_takeOff_172 ?_
                          obtain ⟨hi, hwp⟩ := hwp
                          refine va_iast hx hb hK hP hD hS 6 0 rfl rfl hi dX9_takeOff_173 (fun H locs hP hD hS => ?_)
                          obtain ⟨g173, eg173⟩ : ∃ z, z = upd t119_0 (Int32.toNatClampNeg t119_3) (f21 (Int32.toNatClampNeg (((20 : Int32) * v6) + t119_2))) := ⟨_, rfl⟩
                          replace hwp := hwp g173 eg173
                          replace hP : va_P G vwCl [(h0, .inr (9, [.int i0, .int i1, .ref k0, .ref k1, .ref k2, .ref k3, .ref k4, .int i2, .ref k5, .int i3, .ref k6, .ref k7, .ref k8, .int i4, .ref k9, .ref k10, .int i5, .ref k11, .ref k12, .ref k13, .int i6, .ref k14, .int i7, .ref k15, .ref k16, .int i8, .int i9, .int i10, .ref k17, .int i11, .ref k18, .ref k19, .ref k20, .ref h4, .ref h5, .ref k21, .ref k22, .ref k23, .ref k24, .ref k25, .ref k26, .ref h2, .ref h3, .ref h7, .ref h1, .int i12, .int i13, .int i14, .int i15, .int i16, .ref h6, .ref k27, .ref k28, .ref k29, .ref k30, .ref k31, .int i17, .ref k32])), (h1, aI cI 24 f18), (h2, aI cI 20 g34), (h3, aI cI 20 g42), (h4, aI cI 400 f21), (h5, aI cI 20 f22), (h6, aI cI 20 g173), (h7, aI cI 20 t119_1)] H := by rw [eg173]; exact hP
                          replace hD : va_D A [(h0, .inr (9, [.int i0, .int i1, .ref k0, .ref k1, .ref k2, .ref k3, .ref k4, .int i2, .ref k5, .int i3, .ref k6, .ref k7, .ref k8, .int i4, .ref k9, .ref k10, .int i5, .ref k11, .ref k12, .ref k13, .int i6, .ref k14, .int i7, .ref k15, .ref k16, .int i8, .int i9, .int i10, .ref k17, .int i11, .ref k18, .ref k19, .ref k20, .ref h4, .ref h5, .ref k21, .ref k22, .ref k23, .ref k24, .ref k25, .ref k26, .ref h2, .ref h3, .ref h7, .ref h1, .int i12, .int i13, .int i14, .int i15, .int i16, .ref h6, .ref k27, .ref k28, .ref k29, .ref k30, .ref k31, .int i17, .ref k32])), (h1, aI cI 24 f18), (h2, aI cI 20 g34), (h3, aI cI 20 g42), (h4, aI cI 400 f21), (h5, aI cI 20 f22), (h6, aI cI 20 g173), (h7, aI cI 20 t119_1)] := by rw [eg173]; exact hD
                          clear eg173
                          refine lv_aload_n hx hb dX9_takeOff_174 rfl (lv_at hl 8 rfl) ?_
                          refine va_get (D := G) (ci := 9) (v := .ref h7) (C := RX9) (T := TX9) (N := 58) hx hb hts xinX9 hown hK hP 0 rfl rfl 43 (by decide) (hts _ wo_569) (fun _ h9 => h9) rfl dX9_takeOff_175 ?_
                          refine lv_aload_n hx hb dX9_takeOff_178 rfl (lv_at hl 8 rfl) ?_
                          refine va_get (D := G) (ci := 9) (v := .ref h6) (C := RX9) (T := TX9) (N := 58) hx hb hts xinX9 hown hK hP 0 rfl rfl 50 (by decide) (hts _ wo_568) (fun _ h9 => h9) rfl dX9_takeOff_179 ?_
                          refine lv_iload hx hb dX9_takeOff_182 (lv_at hl 3 rfl) ?_
                          obtain ⟨hi, hwp⟩ := hwp
                          refine va_iald hx hb hK hP 6 0 rfl rfl hi dX9_takeOff_184 ?_
                          refine lv_iload_n hx hb dX9_takeOff_185 rfl (lv_at hl 7 rfl) ?_
                          obtain ⟨hi, hwp⟩ := hwp
                          refine va_iast hx hb hK hP hD hS 7 0 rfl rfl hi dX9_takeOff_186 (fun H locs hP hD hS => ?_)
                          obtain ⟨g186, eg186⟩ : ∃ z, z = upd t119_1 (Int32.toNatClampNeg (g173 (Int32.toNatClampNeg t119_3))) v6 := ⟨_, rfl⟩
                          replace hwp := hwp g186 eg186
                          replace hP : va_P G vwCl [(h0, .inr (9, [.int i0, .int i1, .ref k0, .ref k1, .ref k2, .ref k3, .ref k4, .int i2, .ref k5, .int i3, .ref k6, .ref k7, .ref k8, .int i4, .ref k9, .ref k10, .int i5, .ref k11, .ref k12, .ref k13, .int i6, .ref k14, .int i7, .ref k15, .ref k16, .int i8, .int i9, .int i10, .ref k17, .int i11, .ref k18, .ref k19, .ref k20, .ref h4, .ref h5, .ref k21, .ref k22, .ref k23, .ref k24, .ref k25, .ref k26, .ref h2, .ref h3, .ref h7, .ref h1, .int i12, .int i13, .int i14, .int i15, .int i16, .ref h6, .ref k27, .ref k28, .ref k29, .ref k30, .ref k31, .int i17, .ref k32])), (h1, aI cI 24 f18), (h2, aI cI 20 g34), (h3, aI cI 20 g42), (h4, aI cI 400 f21), (h5, aI cI 20 f22), (h6, aI cI 20 g173), (h7, aI cI 20 g186)] H := by rw [eg186]; exact hP
                          replace hD : va_D A [(h0, .inr (9, [.int i0, .int i1, .ref k0, .ref k1, .ref k2, .ref k3, .ref k4, .int i2, .ref k5, .int i3, .ref k6, .ref k7, .ref k8, .int i4, .ref k9, .ref k10, .int i5, .ref k11, .ref k12, .ref k13, .int i6, .ref k14, .int i7, .ref k15, .ref k16, .int i8, .int i9, .int i10, .ref k17, .int i11, .ref k18, .ref k19, .ref k20, .ref h4, .ref h5, .ref k21, .ref k22, .ref k23, .ref k24, .ref k25, .ref k26, .ref h2, .ref h3, .ref h7, .ref h1, .int i12, .int i13, .int i14, .int i15, .int i16, .ref h6, .ref k27, .ref k28, .ref k29, .ref k30, .ref k31, .int i17, .ref k32])), (h1, aI cI 24 f18), (h2, aI cI 20 g34), (h3, aI cI 20 g42), (h4, aI cI 400 f21), (h5, aI cI 20 f22), (h6, aI cI 20 g173), (h7, aI cI 20 g186)] := by rw [eg186]; exact hD
                          clear eg186
                          refine lv_iinc (v := (t119_3 + 1)) (lv' := [(8, .int (t119_3 + 1)), (11, .int t119_2), (10, .int v107), (9, .int t83_3), (7, .int v75), (6, .int t46_0), (5, .int v25), (3, .int v6), (0, .ref h0), (1, .int p0), (2, .int p1)]) hx hb dX9_takeOff_187 hl (k := 3) rfl rfl (by decide) rfl (fun ls hl => ?_)
                          refine lv_iload hx hb dX9_takeOff_190 (lv_at hl 1 rfl) ?_
                          refine lv_iload hx hb dX9_takeOff_192 (lv_at hl 2 rfl) ?_
                          refine lv_iadd hx hb dX9_takeOff_194 ?_
                          refine lv_iload hx hb dX9_takeOff_195 (lv_at hl 4 rfl) ?_
                          obtain ⟨hi, hwp⟩ := hwp
                          refine lv_irem hx hb dX9_takeOff_197 hi ?_
                          refine lv_topi (fun v198 ev198 => ?_)
                          replace hwp := hwp v198 ev198
                          clear ev198
                          refine lv_istore (lv' := [(11, .int v198), (8, .int (t119_3 + 1)), (10, .int v107), (9, .int t83_3), (7, .int v75), (6, .int t46_0), (5, .int v25), (3, .int v6), (0, .ref h0), (1, .int p0), (2, .int p1)]) hx hb dX9_takeOff_198 hl (by decide) rfl (fun ls hl => ?_)
                          refine lv_goto (tgt := 119) hx hb dX9_takeOff_200 (by decide) ?_
                          replace hl : lv_has ls 12 [(11, .int v198), (10, .int v107), (9, .int t83_3), (8, .int (t119_3 + 1)), (7, .int v75), (6, .int t46_0), (5, .int v25), (3, .int v6), (0, .ref h0), (1, .int p0), (2, .int p1)] := lv_sub hl [0, 2, 3, 1, 4, 5, 6, 7, 8, 9, 10] rfl
                          exact ih9 H locs ls g173 g186 v198 (t119_3 + 1) hwp hP hD hS hl
                  exact hs9 n9 H locs ls t83_0 t83_1 v117 t83_2 hwp hP hD hS hl
                · replace hwp := hwp.2 c96
                  refine lv_iconst (v := 1) hx hb dX9_takeOff_99 (by decide) ?_
                  refine lv_goto (tgt := 107) hx hb dX9_takeOff_100 (by decide) ?_
                  refine lv_istore (lv' := [(10, .int 1), (9, .int t83_3), (8, .int t83_2), (7, .int v75), (6, .int t46_0), (5, .int v25), (3, .int v6), (0, .ref h0), (1, .int p0), (2, .int p1)]) hx hb dX9_takeOff_107 hl (by decide) rfl (fun ls hl => ?_)
                  refine lv_iload hx hb dX9_takeOff_109 (lv_at hl 4 rfl) ?_
                  refine lv_iload hx hb dX9_takeOff_111 (lv_at hl 0 rfl) ?_
                  refine lv_iadd hx hb dX9_takeOff_113 ?_
                  refine lv_iload hx hb dX9_takeOff_114 (lv_at hl 3 rfl) ?_
                  obtain ⟨hi, hwp⟩ := hwp
                  refine lv_irem hx hb dX9_takeOff_116 hi ?_
                  refine lv_topi (fun v117 ev117 => ?_)
                  replace hwp := hwp v117 ev117
                  clear ev117
                  refine lv_istore (lv' := [(11, .int v117), (10, .int 1), (9, .int t83_3), (8, .int t83_2), (7, .int v75), (6, .int t46_0), (5, .int v25), (3, .int v6), (0, .ref h0), (1, .int p0), (2, .int p1)]) hx hb dX9_takeOff_117 hl (by decide) rfl (fun ls hl => ?_)
                  replace hl : lv_has ls 12 [(11, .int v117), (10, .int 1), (9, .int t83_3), (8, .int t83_2), (7, .int v75), (6, .int t46_0), (5, .int v25), (3, .int v6), (0, .ref h0), (1, .int p0), (2, .int p1)] := lv_sub hl [0, 1, 2, 3, 4, 5, 6, 7, 8, 9, 10] rfl
                  obtain ⟨n10, hwp⟩ := hwp
                  have hs10 : ∀ (n10 : Nat) (H : Heap) (locs : List Loc) (ls : Array Slot) (t119_0 : Nat → Int32) (t119_1 : Nat → Int32) (t119_2 : Int32) (t119_3 : Int32), wLX9_takeOff_119_1 f21 p1 v6 v25 v75 t83_3 K (fun z0 z1 z2 z3 => wLX9_takeOff_83 i12 f18 f21 p0 p1 v6 v25 g34 g42 t46_0 v75 K  n2 z0 z1 z2 z3) n10 t119_0 t119_1 t119_2 t119_3 → va_P G vwCl [(h0, .inr (9, [.int i0, .int i1, .ref k0, .ref k1, .ref k2, .ref k3, .ref k4, .int i2, .ref k5, .int i3, .ref k6, .ref k7, .ref k8, .int i4, .ref k9, .ref k10, .int i5, .ref k11, .ref k12, .ref k13, .int i6, .ref k14, .int i7, .ref k15, .ref k16, .int i8, .int i9, .int i10, .ref k17, .int i11, .ref k18, .ref k19, .ref k20, .ref h4, .ref h5, .ref k21, .ref k22, .ref k23, .ref k24, .ref k25, .ref k26, .ref h2, .ref h3, .ref h7, .ref h1, .int i12, .int i13, .int i14, .int i15, .int i16, .ref h6, .ref k27, .ref k28, .ref k29, .ref k30, .ref k31, .int i17, .ref k32])), (h1, aI cI 24 f18), (h2, aI cI 20 g34), (h3, aI cI 20 g42), (h4, aI cI 400 f21), (h5, aI cI 20 f22), (h6, aI cI 20 t119_0), (h7, aI cI 20 t119_1)] H → va_D A [(h0, .inr (9, [.int i0, .int i1, .ref k0, .ref k1, .ref k2, .ref k3, .ref k4, .int i2, .ref k5, .int i3, .ref k6, .ref k7, .ref k8, .int i4, .ref k9, .ref k10, .int i5, .ref k11, .ref k12, .ref k13, .int i6, .ref k14, .int i7, .ref k15, .ref k16, .int i8, .int i9, .int i10, .ref k17, .int i11, .ref k18, .ref k19, .ref k20, .ref h4, .ref h5, .ref k21, .ref k22, .ref k23, .ref k24, .ref k25, .ref k26, .ref h2, .ref h3, .ref h7, .ref h1, .int i12, .int i13, .int i14, .int i15, .int i16, .ref h6, .ref k27, .ref k28, .ref k29, .ref k30, .ref k31, .int i17, .ref k32])), (h1, aI cI 24 f18), (h2, aI cI 20 g34), (h3, aI cI 20 g42), (h4, aI cI 400 f21), (h5, aI cI 20 f22), (h6, aI cI 20 t119_0), (h7, aI cI 20 t119_1)] → va_S A s.heap H locs → lv_has ls 12 [(11, .int t119_2), (10, .int 1), (9, .int t83_3), (8, .int t119_3), (7, .int v75), (6, .int t46_0), (5, .int v25), (3, .int v6), (0, .ref h0), (1, .int p0), (2, .int p1)] → W p l e ((headSpec (xw yX9_takeOff cX9_takeOff 12 none) { frames := 0, cells := 0, slots := 0, locals := 0 }).room) s m ([.ref h0, .int p0, .int p1] : List Value).toArray below meth c H locs 0 0 QQ (F0 m 119 ls []) := by
                    intro n10
                    induction n10 with
                    | zero => intro H locs ls t119_0 t119_1 t119_2 t119_3 hwp; exact False.elim hwp
                    | succ n10 ih10 =>
                      intro H locs ls t119_0 t119_1 t119_2 t119_3 hwp hP hD hS hl
                      rw [wLX9_takeOff_119_1] at hwp
                      refine lv_aload_n hx hb dX9_takeOff_119 rfl (lv_at hl 8 rfl) ?_
                      refine va_get (D := G) (ci := 9) (v := .ref h4) (C := RX9) (T := TX9) (N := 58) hx hb hts xinX9 hown hK hP 0 rfl rfl 33 (by decide) (hts _ wo_551) (fun _ h9 => h9) rfl dX9_takeOff_120 ?_
                      refine lv_bipush (v := 20) hx hb dX9_takeOff_123 (by decide) ?_
                      refine lv_iload_n hx hb dX9_takeOff_125 rfl (lv_at hl 7 rfl) ?_
                      refine lv_imul hx hb dX9_takeOff_126 ?_
                      refine lv_iload hx hb dX9_takeOff_127 (lv_at hl 0 rfl) ?_
                      refine lv_iadd hx hb dX9_takeOff_129 ?_
                      obtain ⟨hi, hwp⟩ := hwp
                      refine va_iald hx hb hK hP 4 0 rfl rfl hi dX9_takeOff_130 ?_
                      refine lv_iload hx hb dX9_takeOff_131 (lv_at hl 6 rfl) ?_
                      refine lv_icmp_eq (tgt := 203) hx hb dX9_takeOff_133 (by decide) (fun c133 => ?_) (fun c133 => ?_)
                      · replace hwp := hwp.1 c133
                        refine lv_iinc (v := (t83_3 + 1)) (lv' := [(9, .int (t83_3 + 1)), (11, .int t119_2), (10, .int 1), (8, .int t119_3), (7, .int v75), (6, .int t46_0), (5, .int v25), (3, .int v6), (0, .ref h0), (1, .int p0), (2, .int p1)]) hx hb dX9_takeOff_203 hl (k := 2) rfl rfl (by decide) rfl (fun ls hl => ?_)
                        refine lv_goto (tgt := 83) hx hb dX9_takeOff_206 (by decide) ?_
                        replace hl : lv_has ls 12 [(9, .int (t83_3 + 1)), (8, .int t119_3), (7, .int v75), (6, .int t46_0), (5, .int v25), (3, .int v6), (0, .ref h0), (1, .int p0), (2, .int p1)] := lv_sub hl [0, 3, 4, 5, 6, 7, 8, 9, 10] rfl
                        exact ih2 H locs ls t119_0 t119_1 t119_3 (t83_3 + 1) hwp hP hD hS hl
                      · replace hwp := hwp.2 c133
                        refine lv_iload_n hx hb dX9_takeOff_136 rfl (lv_at hl 10 rfl) ?_
                        refine lv_aload_n hx hb dX9_takeOff_137 rfl (lv_at hl 8 rfl) ?_
                        refine va_get (D := G) (ci := 9) (v := .ref h4) (C := RX9) (T := TX9) (N := 58) hx hb hts xinX9 hown hK hP 0 rfl rfl 33 (by decide) (hts _ wo_551) (fun _ h9 => h9) rfl dX9_takeOff_138 ?_
                        refine lv_bipush (v := 20) hx hb dX9_takeOff_141 (by decide) ?_
                        refine lv_iload_n hx hb dX9_takeOff_143 rfl (lv_at hl 7 rfl) ?_
                        refine lv_imul hx hb dX9_takeOff_144 ?_
                        refine lv_iload hx hb dX9_takeOff_145 (lv_at hl 0 rfl) ?_
                        refine lv_iadd hx hb dX9_takeOff_147 ?_
                        obtain ⟨hi, hwp⟩ := hwp
                        refine va_iald hx hb hK hP 4 0 rfl rfl hi dX9_takeOff_148 ?_
                        refine lv_ishr hx hb dX9_takeOff_149 ?_
                        refine lv_iconst (v := 1) hx hb dX9_takeOff_150 (by decide) ?_
                        refine lv_iand hx hb dX9_takeOff_151 ?_
                        refine lv_if_ne (tgt := 190) hx hb dX9_takeOff_152 (by decide) (fun c152 => ?_) (fun c152 => ?_)
                        · replace hwp := hwp.1 c152
                          refine lv_iload hx hb dX9_takeOff_190 (lv_at hl 0 rfl) ?_
                          refine lv_iload hx hb dX9_takeOff_192 (lv_at hl 1 rfl) ?_
                          refine lv_iadd hx hb dX9_takeOff_194 ?_
                          refine lv_iload hx hb dX9_takeOff_195 (lv_at hl 4 rfl) ?_
                          obtain ⟨hi, hwp⟩ := hwp
                          refine lv_irem hx hb dX9_takeOff_197 hi ?_
                          refine lv_topi (fun v198 ev198 => ?_)
                          replace hwp := hwp v198 ev198
                          clear ev198
                          refine lv_istore (lv' := [(11, .int v198), (10, .int 1), (9, .int t83_3), (8, .int t119_3), (7, .int v75), (6, .int t46_0), (5, .int v25), (3, .int v6), (0, .ref h0), (1, .int p0), (2, .int p1)]) hx hb dX9_takeOff_198 hl (by decide) rfl (fun ls hl => ?_)
                          refine lv_goto (tgt := 119) hx hb dX9_takeOff_200 (by decide) ?_
                          replace hl : lv_has ls 12 [(11, .int v198), (10, .int 1), (9, .int t83_3), (8, .int t119_3), (7, .int v75), (6, .int t46_0), (5, .int v25), (3, .int v6), (0, .ref h0), (1, .int p0), (2, .int p1)] := lv_sub hl [0, 1, 2, 3, 4, 5, 6, 7, 8, 9, 10] rfl
                          exact ih10 H locs ls t119_0 t119_1 v198 t119_3 hwp hP hD hS hl
                        · replace hwp := hwp.2 c152
                          refine lv_aload_n hx hb dX9_takeOff_155 rfl (lv_at hl 8 rfl) ?_
                          refine va_get (D := G) (ci := 9) (v := .ref h6) (C := RX9) (T := TX9) (N := 58) hx hb hts xinX9 hown hK hP 0 rfl rfl 50 (by decide) (hts _ wo_568) (fun _ h9 => h9) rfl dX9_takeOff_156 ?_
                          refine lv_iload hx hb dX9_takeOff_159 (lv_at hl 3 rfl) ?_
                          refine lv_aload_n hx hb dX9_takeOff_161 rfl (lv_at hl 8 rfl) ?_
                          refine va_get (D := G) (ci := 9) (v := .ref h4) (C := RX9) (T := TX9) (N := 58) hx hb hts xinX9 hown hK hP 0 rfl rfl 33 (by decide) (hts _ wo_551) (fun _ h9 => h9) rfl dX9_takeOff_162 ?_
                          refine lv_bipush (v := 20) hx hb dX9_takeOff_165 (by decide) ?_
                          refine lv_iload_n hx hb dX9_takeOff_167 rfl (lv_at hl 7 rfl) ?_
                          refine lv_imul hx hb dX9_takeOff_168 ?_
                          refine lv_iload hx hb dX9_takeOff_169 (lv_at hl 0 rfl) ?_
                          refine lv_iadd hx hb dX9_takeOff_171 ?_
                          obtain ⟨hi, hwp⟩ := hwp
                          refine va_iald hx hb hK hP 4 0 rfl rfl hi dX9_takeOff_172 ?_
                          obtain ⟨hi, hwp⟩ := hwp
                          refine va_iast hx hb hK hP hD hS 6 0 rfl rfl hi dX9_takeOff_173 (fun H locs hP hD hS => ?_)
                          obtain ⟨g173, eg173⟩ : ∃ z, z = upd t119_0 (Int32.toNatClampNeg t119_3) (f21 (Int32.toNatClampNeg (((20 : Int32) * v6) + t119_2))) := ⟨_, rfl⟩
                          replace hwp := hwp g173 eg173
                          replace hP : va_P G vwCl [(h0, .inr (9, [.int i0, .int i1, .ref k0, .ref k1, .ref k2, .ref k3, .ref k4, .int i2, .ref k5, .int i3, .ref k6, .ref k7, .ref k8, .int i4, .ref k9, .ref k10, .int i5, .ref k11, .ref k12, .ref k13, .int i6, .ref k14, .int i7, .ref k15, .ref k16, .int i8, .int i9, .int i10, .ref k17, .int i11, .ref k18, .ref k19, .ref k20, .ref h4, .ref h5, .ref k21, .ref k22, .ref k23, .ref k24, .ref k25, .ref k26, .ref h2, .ref h3, .ref h7, .ref h1, .int i12, .int i13, .int i14, .int i15, .int i16, .ref h6, .ref k27, .ref k28, .ref k29, .ref k30, .ref k31, .int i17, .ref k32])), (h1, aI cI 24 f18), (h2, aI cI 20 g34), (h3, aI cI 20 g42), (h4, aI cI 400 f21), (h5, aI cI 20 f22), (h6, aI cI 20 g173), (h7, aI cI 20 t119_1)] H := by rw [eg173]; exact hP
                          replace hD : va_D A [(h0, .inr (9, [.int i0, .int i1, .ref k0, .ref k1, .ref k2, .ref k3, .ref k4, .int i2, .ref k5, .int i3, .ref k6, .ref k7, .ref k8, .int i4, .ref k9, .ref k10, .int i5, .ref k11, .ref k12, .ref k13, .int i6, .ref k14, .int i7, .ref k15, .ref k16, .int i8, .int i9, .int i10, .ref k17, .int i11, .ref k18, .ref k19, .ref k20, .ref h4, .ref h5, .ref k21, .ref k22, .ref k23, .ref k24, .ref k25, .ref k26, .ref h2, .ref h3, .ref h7, .ref h1, .int i12, .int i13, .int i14, .int i15, .int i16, .ref h6, .ref k27, .ref k28, .ref k29, .ref k30, .ref k31, .int i17, .ref k32])), (h1, aI cI 24 f18), (h2, aI cI 20 g34), (h3, aI cI 20 g42), (h4, aI cI 400 f21), (h5, aI cI 20 f22), (h6, aI cI 20 g173), (h7, aI cI 20 t119_1)] := by rw [eg173]; exact hD
                          clear eg173
                          refine lv_aload_n hx hb dX9_takeOff_174 rfl (lv_at hl 8 rfl) ?_
                          refine va_get (D := G) (ci := 9) (v := .ref h7) (C := RX9) (T := TX9) (N := 58) hx hb hts xinX9 hown hK hP 0 rfl rfl 43 (by decide) (hts _ wo_569) (fun _ h9 => h9) rfl dX9_takeOff_175 ?_
                          refine lv_aload_n hx hb dX9_takeOff_178 rfl (lv_at hl 8 rfl) ?_
                          refine va_get (D := G) (ci := 9) (v := .ref h6) (C := RX9) (T := TX9) (N := 58) hx hb hts xinX9 hown hK hP 0 rfl rfl 50 (by decide) (hts _ wo_568) (fun _ h9 => h9) rfl dX9_takeOff_179 ?_
                          refine lv_iload hx hb dX9_takeOff_182 (lv_at hl 3 rfl) ?_
                          obtain ⟨hi, hwp⟩ := hwp
                          refine va_iald hx hb hK hP 6 0 rfl rfl hi dX9_takeOff_184 ?_
                          refine lv_iload_n hx hb dX9_takeOff_185 rfl (lv_at hl 7 rfl) ?_
                          obtain ⟨hi, hwp⟩ := hwp
                          refine va_iast hx hb hK hP hD hS 7 0 rfl rfl hi dX9_takeOff_186 (fun H locs hP hD hS => ?_)
                          obtain ⟨g186, eg186⟩ : ∃ z, z = upd t119_1 (Int32.toNatClampNeg (g173 (Int32.toNatClampNeg t119_3))) v6 := ⟨_, rfl⟩
                          replace hwp := hwp g186 eg186
                          replace hP : va_P G vwCl [(h0, .inr (9, [.int i0, .int i1, .ref k0, .ref k1, .ref k2, .ref k3, .ref k4, .int i2, .ref k5, .int i3, .ref k6, .ref k7, .ref k8, .int i4, .ref k9, .ref k10, .int i5, .ref k11, .ref k12, .ref k13, .int i6, .ref k14, .int i7, .ref k15, .ref k16, .int i8, .int i9, .int i10, .ref k17, .int i11, .ref k18, .ref k19, .ref k20, .ref h4, .ref h5, .ref k21, .ref k22, .ref k23, .ref k24, .ref k25, .ref k26, .ref h2, .ref h3, .ref h7, .ref h1, .int i12, .int i13, .int i14, .int i15, .int i16, .ref h6, .ref k27, .ref k28, .ref k29, .ref k30, .ref k31, .int i17, .ref k32])), (h1, aI cI 24 f18), (h2, aI cI 20 g34), (h3, aI cI 20 g42), (h4, aI cI 400 f21), (h5, aI cI 20 f22), (h6, aI cI 20 g173), (h7, aI cI 20 g186)] H := by rw [eg186]; exact hP
                          replace hD : va_D A [(h0, .inr (9, [.int i0, .int i1, .ref k0, .ref k1, .ref k2, .ref k3, .ref k4, .int i2, .ref k5, .int i3, .ref k6, .ref k7, .ref k8, .int i4, .ref k9, .ref k10, .int i5, .ref k11, .ref k12, .ref k13, .int i6, .ref k14, .int i7, .ref k15, .ref k16, .int i8, .int i9, .int i10, .ref k17, .int i11, .ref k18, .ref k19, .ref k20, .ref h4, .ref h5, .ref k21, .ref k22, .ref k23, .ref k24, .ref k25, .ref k26, .ref h2, .ref h3, .ref h7, .ref h1, .int i12, .int i13, .int i14, .int i15, .int i16, .ref h6, .ref k27, .ref k28, .ref k29, .ref k30, .ref k31, .int i17, .ref k32])), (h1, aI cI 24 f18), (h2, aI cI 20 g34), (h3, aI cI 20 g42), (h4, aI cI 400 f21), (h5, aI cI 20 f22), (h6, aI cI 20 g173), (h7, aI cI 20 g186)] := by rw [eg186]; exact hD
                          clear eg186
                          refine lv_iinc (v := (t119_3 + 1)) (lv' := [(8, .int (t119_3 + 1)), (11, .int t119_2), (10, .int 1), (9, .int t83_3), (7, .int v75), (6, .int t46_0), (5, .int v25), (3, .int v6), (0, .ref h0), (1, .int p0), (2, .int p1)]) hx hb dX9_takeOff_187 hl (k := 3) rfl rfl (by decide) rfl (fun ls hl => ?_)
                          refine lv_iload hx hb dX9_takeOff_190 (lv_at hl 1 rfl) ?_
                          refine lv_iload hx hb dX9_takeOff_192 (lv_at hl 2 rfl) ?_
                          refine lv_iadd hx hb dX9_takeOff_194 ?_
                          refine lv_iload hx hb dX9_takeOff_195 (lv_at hl 4 rfl) ?_
                          obtain ⟨hi, hwp⟩ := hwp
                          refine lv_irem hx hb dX9_takeOff_197 hi ?_
                          refine lv_topi (fun v198 ev198 => ?_)
                          replace hwp := hwp v198 ev198
                          clear ev198
                          refine lv_istore (lv' := [(11, .int v198), (8, .int (t119_3 + 1)), (10, .int 1), (9, .int t83_3), (7, .int v75), (6, .int t46_0), (5, .int v25), (3, .int v6), (0, .ref h0), (1, .int p0), (2, .int p1)]) hx hb dX9_takeOff_198 hl (by decide) rfl (fun ls hl => ?_)
                          refine lv_goto (tgt := 119) hx hb dX9_takeOff_200 (by decide) ?_
                          replace hl : lv_has ls 12 [(11, .int v198), (10, .int 1), (9, .int t83_3), (8, .int (t119_3 + 1)), (7, .int v75), (6, .int t46_0), (5, .int v25), (3, .int v6), (0, .ref h0), (1, .int p0), (2, .int p1)] := lv_sub hl [0, 2, 3, 1, 4, 5, 6, 7, 8, 9, 10] rfl
                          exact ih10 H locs ls g173 g186 v198 (t119_3 + 1) hwp hP hD hS hl
                  exact hs10 n10 H locs ls t83_0 t83_1 v117 t83_2 hwp hP hD hS hl
        exact hs2 n2 H locs ls f23 f24 0 0 hwp hP hD hS hl
      · replace hwp := hwp.2 c60
        refine lv_iinc (v := (t46_0 + 1)) (lv' := [(6, .int (t46_0 + 1)), (5, .int v25), (4, .int v15), (3, .int v6), (0, .ref h0), (1, .int p0), (2, .int p1)]) hx hb dX9_takeOff_63 hl (k := 0) rfl rfl (by decide) rfl (fun ls hl => ?_)
        refine lv_goto (tgt := 46) hx hb dX9_takeOff_66 (by decide) ?_
        replace hl : lv_has ls 12 [(6, .int (t46_0 + 1)), (5, .int v25), (4, .int v15), (3, .int v6), (0, .ref h0), (1, .int p0), (2, .int p1)] := lv_sub hl [0, 1, 2, 3, 4, 5, 6] rfl
        exact ih1 H locs ls (t46_0 + 1) hwp hP hD hS hl
  exact hs1 n1 H locs ls 0 hwp hP hD hS hl

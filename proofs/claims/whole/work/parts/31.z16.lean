def wLX9_joinPath_2 (i7 : Int32) (f18 : Nat → Int32) (p0 : Int32) (K : (Int32 × (Nat → Int32)) → Prop)  : Nat → (Nat → Int32) → Int32 → Int32 → Prop
  | 0, _, _, _ => False
  | n2 + 1, t2_0, t2_1, t2_2 => (((t2_2 + 1) < i7 → (vp_in t2_2 24 ∧ (∀ v30 : Int32, v30 = (f18 (Int32.toNatClampNeg t2_2)) → (¬ i7 = 0 ∧ (vp_in ((t2_2 + 1) - (t2_2 + 1) / i7 * i7) 24 ∧ (∀ v44 : Int32, v44 = (f18 (Int32.toNatClampNeg ((t2_2 + 1) - (t2_2 + 1) / i7 * i7))) → (vp_in v30 21 ∧ (vp_in v30 21 ∧ (∀ g58 : Nat → Int32, g58 = upd t2_0 (Int32.toNatClampNeg v30) ((t2_0 (Int32.toNatClampNeg v30)) ||| ((1 : Int32) <<< (v44 &&& 31))) → (vp_in v44 21 ∧ (vp_in v44 21 ∧ (∀ g71 : Nat → Int32, g71 = upd g58 (Int32.toNatClampNeg v44) ((g58 (Int32.toNatClampNeg v44)) ||| ((1 : Int32) <<< (v30 &&& 31))) → (∀ v86 : Int32, v86 = (t2_1 ||| (((1 : Int32) <<< (v30 &&& 31)) ||| ((1 : Int32) <<< (v44 &&& 31)))) → (wLX9_joinPath_2 i7 f18 p0 K  n2) g71 v86 (t2_2 + 1)))))))))))))) ∧ (¬ (t2_2 + 1) < i7 → ((p0 = 0 → K (t2_1, t2_0)) ∧ (¬ p0 = 0 → ((i7 ≤ t2_2 → K (t2_1, t2_0)) ∧ (¬ i7 ≤ t2_2 → (vp_in t2_2 24 ∧ (∀ v30 : Int32, v30 = (f18 (Int32.toNatClampNeg t2_2)) → (¬ i7 = 0 ∧ (vp_in ((t2_2 + 1) - (t2_2 + 1) / i7 * i7) 24 ∧ (∀ v44 : Int32, v44 = (f18 (Int32.toNatClampNeg ((t2_2 + 1) - (t2_2 + 1) / i7 * i7))) → (vp_in v30 21 ∧ (vp_in v30 21 ∧ (∀ g58 : Nat → Int32, g58 = upd t2_0 (Int32.toNatClampNeg v30) ((t2_0 (Int32.toNatClampNeg v30)) ||| ((1 : Int32) <<< (v44 &&& 31))) → (vp_in v44 21 ∧ (vp_in v44 21 ∧ (∀ g71 : Nat → Int32, g71 = upd g58 (Int32.toNatClampNeg v44) ((g58 (Int32.toNatClampNeg v44)) ||| ((1 : Int32) <<< (v30 &&& 31))) → (∀ v86 : Int32, v86 = (t2_1 ||| (((1 : Int32) <<< (v30 &&& 31)) ||| ((1 : Int32) <<< (v44 &&& 31)))) → (wLX9_joinPath_2 i7 f18 p0 K  n2) g71 v86 (t2_2 + 1)))))))))))))))))))
def wX9_joinPath (i0 : Int32) (i1 : Int32) (i2 : Int32) (i3 : Int32) (i4 : Int32) (i5 : Int32) (i6 : Int32) (i7 : Int32) (i8 : Int32) (i9 : Int32) (i10 : Int32) (i11 : Int32) (i12 : Int32) (i13 : Int32) (i14 : Int32) (i15 : Int32) (i16 : Int32) (i17 : Int32) (f18 : Nat → Int32) (f19 : Nat → Int32) (p0 : Int32) (K : (Int32 × (Nat → Int32)) → Prop) : Prop := (∃ n2, wLX9_joinPath_2 i7 f18 p0 K  n2 f19 i5 0)
set_option maxHeartbeats 4000000 in
set_option maxRecDepth 100000 in
theorem zX9_joinPath (l : Launch) (G : va_G) (cI cJ cZ : ClassId) (h0 h1 h2 k0 k1 k2 k3 k4 k5 k6 k7 k8 k9 k10 k11 k12 k13 k14 k15 k16 k17 k18 k19 k20 k21 k22 k23 k24 k25 k26 k27 k28 k29 k30 k31 k32 k33 k34 k35 k36 k37 sz : Nat) (i0 : Int32) (i1 : Int32) (i2 : Int32) (i3 : Int32) (i4 : Int32) (i5 : Int32) (i6 : Int32) (i7 : Int32) (i8 : Int32) (i9 : Int32) (i10 : Int32) (i11 : Int32) (i12 : Int32) (i13 : Int32) (i14 : Int32) (i15 : Int32) (i16 : Int32) (i17 : Int32) (f18 : Nat → Int32) (f19 : Nat → Int32) (p0 : Int32) (K : (Int32 × (Nat → Int32)) → Prop) (hwp : wX9_joinPath i0 i1 i2 i3 i4 i5 i6 i7 i8 i9 i10 i11 i12 i13 i14 i15 i16 i17 f18 f19 p0 K) : Met l yX9_joinPath (xw yX9_joinPath cX9_joinPath 5 none) ({ frames := 0, cells := 0, slots := 0, locals := 0 }) (xPc G cI cJ cZ [.ref h0, .int p0] [(h0, .inr (9, [.int i0, .int i1, .ref k0, .ref k1, .ref k2, .ref k3, .ref k4, .int i2, .ref k5, .int i3, .ref k6, .ref k7, .ref k8, .int i4, .ref k9, .ref h2, .int i5, .ref k10, .ref k11, .ref k12, .int i6, .ref h1, .int i7, .ref k13, .ref k14, .int i8, .int i9, .int i10, .ref k15, .int i11, .ref k16, .ref k17, .ref k18, .ref k19, .ref k20, .ref k21, .ref k22, .ref k23, .ref k24, .ref k25, .ref k26, .ref k27, .ref k28, .ref k29, .ref k30, .int i12, .int i13, .int i14, .int i15, .int i16, .ref k31, .ref k32, .ref k33, .ref k34, .ref k35, .ref k36, .int i17, .ref k37])), (h1, aI cI 24 f18), (h2, aI cI 21 f19)] sz) (va_Qv (fun (u : Int32 × (Nat → Int32)) => K u) (fun (u : Int32 × (Nat → Int32)) t => xB G (va_A [(h0, .inr (9, [.int i0, .int i1, .ref k0, .ref k1, .ref k2, .ref k3, .ref k4, .int i2, .ref k5, .int i3, .ref k6, .ref k7, .ref k8, .int i4, .ref k9, .ref h2, .int i5, .ref k10, .ref k11, .ref k12, .int i6, .ref h1, .int i7, .ref k13, .ref k14, .int i8, .int i9, .int i10, .ref k15, .int i11, .ref k16, .ref k17, .ref k18, .ref k19, .ref k20, .ref k21, .ref k22, .ref k23, .ref k24, .ref k25, .ref k26, .ref k27, .ref k28, .ref k29, .ref k30, .int i12, .int i13, .int i14, .int i15, .int i16, .ref k31, .ref k32, .ref k33, .ref k34, .ref k35, .ref k36, .int i17, .ref k37])), (h1, aI cI 24 f18), (h2, aI cI 21 f19)] sz) [(h0, .inr (9, [.int i0, .int i1, .ref k0, .ref k1, .ref k2, .ref k3, .ref k4, .int i2, .ref k5, .int i3, .ref k6, .ref k7, .ref k8, .int i4, .ref k9, .ref h2, .int u.1, .ref k10, .ref k11, .ref k12, .int i6, .ref h1, .int i7, .ref k13, .ref k14, .int i8, .int i9, .int i10, .ref k15, .int i11, .ref k16, .ref k17, .ref k18, .ref k19, .ref k20, .ref k21, .ref k22, .ref k23, .ref k24, .ref k25, .ref k26, .ref k27, .ref k28, .ref k29, .ref k30, .int i12, .int i13, .int i14, .int i15, .int i16, .ref k31, .ref k32, .ref k33, .ref k34, .ref k35, .ref k36, .int i17, .ref k37])), (h1, aI cI 24 f18), (h2, aI cI 21 u.2)] t) (va_A [(h0, .inr (9, [.int i0, .int i1, .ref k0, .ref k1, .ref k2, .ref k3, .ref k4, .int i2, .ref k5, .int i3, .ref k6, .ref k7, .ref k8, .int i4, .ref k9, .ref h2, .int i5, .ref k10, .ref k11, .ref k12, .int i6, .ref h1, .int i7, .ref k13, .ref k14, .int i8, .int i9, .int i10, .ref k15, .int i11, .ref k16, .ref k17, .ref k18, .ref k19, .ref k20, .ref k21, .ref k22, .ref k23, .ref k24, .ref k25, .ref k26, .ref k27, .ref k28, .ref k29, .ref k30, .int i12, .int i13, .int i14, .int i15, .int i16, .ref k31, .ref k32, .ref k33, .ref k34, .ref k35, .ref k36, .int i17, .ref k37])), (h1, aI cI 24 f18), (h2, aI cI 21 f19)] sz)) 0 0 (va_A [(h0, .inr (9, [.int i0, .int i1, .ref k0, .ref k1, .ref k2, .ref k3, .ref k4, .int i2, .ref k5, .int i3, .ref k6, .ref k7, .ref k8, .int i4, .ref k9, .ref h2, .int i5, .ref k10, .ref k11, .ref k12, .int i6, .ref h1, .int i7, .ref k13, .ref k14, .int i8, .int i9, .int i10, .ref k15, .int i11, .ref k16, .ref k17, .ref k18, .ref k19, .ref k20, .ref k21, .ref k22, .ref k23, .ref k24, .ref k25, .ref k26, .ref k27, .ref k28, .ref k29, .ref k30, .int i12, .int i13, .int i14, .int i15, .int i16, .ref k31, .ref k32, .ref k33, .ref k34, .ref k35, .ref k36, .int i17, .ref k37])), (h1, aI cI 24 f18), (h2, aI cI 21 f19)] sz) := by
  refine Met.ofW (cc := cX9_joinPath) (maxL := 5) (ret := none) (by decide) rfl ?_
  intro p e s m args below meth c s₁ B hml hv
  obtain ⟨rfl, hsz, hP, hK, hD0, hN⟩ := hv
  have hx := B.exec
  have hb := B.bytes
  have hr := B.returns
  have hts : ∀ w ∈ xW, w.before _ s = true := fun w h => atoms_spec (ws := xw yX9_joinPath cX9_joinPath 5 none) B.pre w (List.mem_cons_of_mem _ h)
  have hown : s.vm.findClass RX9 = some m.cls := findClass_of_methodNamed B.named
  have hlocks := B.notSynchronized
  subst hsz
  have hD := hD0.self (sz := s.heap.size)
  clear hD0
  generalize hAe : va_A [(h0, .inr (9, [.int i0, .int i1, .ref k0, .ref k1, .ref k2, .ref k3, .ref k4, .int i2, .ref k5, .int i3, .ref k6, .ref k7, .ref k8, .int i4, .ref k9, .ref h2, .int i5, .ref k10, .ref k11, .ref k12, .int i6, .ref h1, .int i7, .ref k13, .ref k14, .int i8, .int i9, .int i10, .ref k15, .int i11, .ref k16, .ref k17, .ref k18, .ref k19, .ref k20, .ref k21, .ref k22, .ref k23, .ref k24, .ref k25, .ref k26, .ref k27, .ref k28, .ref k29, .ref k30, .int i12, .int i13, .int i14, .int i15, .int i16, .ref k31, .ref k32, .ref k33, .ref k34, .ref k35, .ref k36, .int i17, .ref k37])), (h1, aI cI 24 f18), (h2, aI cI 21 f19)] s.heap.size = A at hD ⊢
  have hA : ∀ q : Nat, s.heap.size ≤ q → A q := fun q h => by rw [← hAe]; exact Or.inr h
  clear hAe
  have hS : va_S A s.heap s.heap [] := va_S.rf
  replace hP : va_P G vwCl [(h0, .inr (9, [.int i0, .int i1, .ref k0, .ref k1, .ref k2, .ref k3, .ref k4, .int i2, .ref k5, .int i3, .ref k6, .ref k7, .ref k8, .int i4, .ref k9, .ref h2, .int i5, .ref k10, .ref k11, .ref k12, .int i6, .ref h1, .int i7, .ref k13, .ref k14, .int i8, .int i9, .int i10, .ref k15, .int i11, .ref k16, .ref k17, .ref k18, .ref k19, .ref k20, .ref k21, .ref k22, .ref k23, .ref k24, .ref k25, .ref k26, .ref k27, .ref k28, .ref k29, .ref k30, .int i12, .int i13, .int i14, .int i15, .int i16, .ref k31, .ref k32, .ref k33, .ref k34, .ref k35, .ref k36, .int i17, .ref k37])), (h1, aI cI 24 f18), (h2, aI cI 21 f19)] s.heap := hP
  have hl := lv_entry ([.ref h0, .int p0]) (n := 5) (Nat.le_of_ble_eq_true rfl)
  rw [lg_entry_eq]
  generalize (lg_sl ([.ref h0, .int p0]) ++ List.replicate (5 - (lg_sl ([.ref h0, .int p0])).length) Slot.unset).toArray = ls at hl ⊢
  replace hl : lv_has ls 5 [(0, .ref h0), (1, .int p0)] := hl
  generalize hQQ : MQ below _ _ s 0 0 _ = QQ
  skip
  unfold wX9_joinPath at hwp
  refine lv_iconst (v := 0) hx hb dX9_joinPath_0 (by decide) ?_
  refine lv_istore_n (lv' := [(2, .int 0), (0, .ref h0), (1, .int p0)]) hx hb dX9_joinPath_1 rfl hl (by decide) rfl (fun ls hl => ?_)
  refine xgen (Pp := fun H locs => W p l e _ s m _ below meth c H locs _ _ _ _) (fun H locs hP hD hS => ?_) hP hD hS
  replace hl : lv_has ls 5 [(2, .int 0), (0, .ref h0), (1, .int p0)] := lv_sub hl [0, 1, 2] rfl
  obtain ⟨n1, hwp⟩ := hwp
  have hs1 : ∀ (n1 : Nat) (H : Heap) (locs : List Loc) (ls : Array Slot) (t2_0 : Nat → Int32) (t2_1 : Int32) (t2_2 : Int32), wLX9_joinPath_2 i7 f18 p0 K  n1 t2_0 t2_1 t2_2 → va_P G vwCl [(h0, .inr (9, [.int i0, .int i1, .ref k0, .ref k1, .ref k2, .ref k3, .ref k4, .int i2, .ref k5, .int i3, .ref k6, .ref k7, .ref k8, .int i4, .ref k9, .ref h2, .int t2_1, .ref k10, .ref k11, .ref k12, .int i6, .ref h1, .int i7, .ref k13, .ref k14, .int i8, .int i9, .int i10, .ref k15, .int i11, .ref k16, .ref k17, .ref k18, .ref k19, .ref k20, .ref k21, .ref k22, .ref k23, .ref k24, .ref k25, .ref k26, .ref k27, .ref k28, .ref k29, .ref k30, .int i12, .int i13, .int i14, .int i15, .int i16, .ref k31, .ref k32, .ref k33, .ref k34, .ref k35, .ref k36, .int i17, .ref k37])), (h1, aI cI 24 f18), (h2, aI cI 21 t2_0)] H → va_D A [(h0, .inr (9, [.int i0, .int i1, .ref k0, .ref k1, .ref k2, .ref k3, .ref k4, .int i2, .ref k5, .int i3, .ref k6, .ref k7, .ref k8, .int i4, .ref k9, .ref h2, .int t2_1, .ref k10, .ref k11, .ref k12, .int i6, .ref h1, .int i7, .ref k13, .ref k14, .int i8, .int i9, .int i10, .ref k15, .int i11, .ref k16, .ref k17, .ref k18, .ref k19, .ref k20, .ref k21, .ref k22, .ref k23, .ref k24, .ref k25, .ref k26, .ref k27, .ref k28, .ref k29, .ref k30, .int i12, .int i13, .int i14, .int i15, .int i16, .ref k31, .ref k32, .ref k33, .ref k34, .ref k35, .ref k36, .int i17, .ref k37])), (h1, aI cI 24 f18), (h2, aI cI 21 t2_0)] → va_S A s.heap H locs → lv_has ls 5 [(2, .int t2_2), (0, .ref h0), (1, .int p0)] → W p l e ((headSpec (xw yX9_joinPath cX9_joinPath 5 none) { frames := 0, cells := 0, slots := 0, locals := 0 }).room) s m ([.ref h0, .int p0] : List Value).toArray below meth c H locs 0 0 QQ (F0 m 2 ls []) := by
    intro n1
    induction n1 with
    | zero => intro H locs ls t2_0 t2_1 t2_2 hwp; exact False.elim hwp
    | succ n1 ih1 =>
      intro H locs ls t2_0 t2_1 t2_2 hwp hP hD hS hl
      rw [wLX9_joinPath_2] at hwp
      refine lv_iload_n hx hb dX9_joinPath_2 rfl (lv_at hl 0 rfl) ?_
      refine lv_iconst (v := 1) hx hb dX9_joinPath_3 (by decide) ?_
      refine lv_iadd hx hb dX9_joinPath_4 ?_
      refine lv_aload_n hx hb dX9_joinPath_5 rfl (lv_at hl 1 rfl) ?_
      refine va_get (D := G) (ci := 9) (v := .int i7) (C := RX9) (T := TX9) (N := 58) hx hb hts xinX9 hown hK hP 0 rfl rfl 22 (by decide) (hts _ wo_463) (fun _ h9 => h9) rfl dX9_joinPath_6 ?_
      refine lv_icmp_lt (tgt := 24) hx hb dX9_joinPath_9 (by decide) (fun c9 => ?_) (fun c9 => ?_)
      · replace hwp := hwp.1 c9
        refine lv_aload_n hx hb dX9_joinPath_24 rfl (lv_at hl 1 rfl) ?_
        refine va_get (D := G) (ci := 9) (v := .ref h1) (C := RX9) (T := TX9) (N := 58) hx hb hts xinX9 hown hK hP 0 rfl rfl 21 (by decide) (hts _ wo_464) (fun _ h9 => h9) rfl dX9_joinPath_25 ?_
        refine lv_iload_n hx hb dX9_joinPath_28 rfl (lv_at hl 0 rfl) ?_
        obtain ⟨hi, hwp⟩ := hwp
        refine va_iald hx hb hK hP 1 0 rfl rfl hi dX9_joinPath_29 ?_
        refine lv_topi (fun v30 ev30 => ?_)
        replace hwp := hwp v30 ev30
        clear ev30
        refine lv_istore_n (lv' := [(3, .int v30), (2, .int t2_2), (0, .ref h0), (1, .int p0)]) hx hb dX9_joinPath_30 rfl hl (by decide) rfl (fun ls hl => ?_)
        refine lv_aload_n hx hb dX9_joinPath_31 rfl (lv_at hl 2 rfl) ?_
        refine va_get (D := G) (ci := 9) (v := .ref h1) (C := RX9) (T := TX9) (N := 58) hx hb hts xinX9 hown hK hP 0 rfl rfl 21 (by decide) (hts _ wo_464) (fun _ h9 => h9) rfl dX9_joinPath_32 ?_
        refine lv_iload_n hx hb dX9_joinPath_35 rfl (lv_at hl 1 rfl) ?_
        refine lv_iconst (v := 1) hx hb dX9_joinPath_36 (by decide) ?_
        refine lv_iadd hx hb dX9_joinPath_37 ?_
        refine lv_aload_n hx hb dX9_joinPath_38 rfl (lv_at hl 2 rfl) ?_
        refine va_get (D := G) (ci := 9) (v := .int i7) (C := RX9) (T := TX9) (N := 58) hx hb hts xinX9 hown hK hP 0 rfl rfl 22 (by decide) (hts _ wo_463) (fun _ h9 => h9) rfl dX9_joinPath_39 ?_
        obtain ⟨hi, hwp⟩ := hwp
        refine lv_irem hx hb dX9_joinPath_42 hi ?_
        obtain ⟨hi, hwp⟩ := hwp
        refine va_iald hx hb hK hP 1 0 rfl rfl hi dX9_joinPath_43 ?_
        refine lv_topi (fun v44 ev44 => ?_)
        replace hwp := hwp v44 ev44
        clear ev44
        refine lv_istore (lv' := [(4, .int v44), (3, .int v30), (2, .int t2_2), (0, .ref h0), (1, .int p0)]) hx hb dX9_joinPath_44 hl (by decide) rfl (fun ls hl => ?_)
        refine lv_aload_n hx hb dX9_joinPath_46 rfl (lv_at hl 3 rfl) ?_
        refine va_get (D := G) (ci := 9) (v := .ref h2) (C := RX9) (T := TX9) (N := 58) hx hb hts xinX9 hown hK hP 0 rfl rfl 15 (by decide) (hts _ wo_472) (fun _ h9 => h9) rfl dX9_joinPath_47 ?_
        refine lv_iload_n hx hb dX9_joinPath_50 rfl (lv_at hl 1 rfl) ?_
        refine lv_dup2_11 hx hb dX9_joinPath_51 rfl rfl ?_
        obtain ⟨hi, hwp⟩ := hwp
        refine va_iald hx hb hK hP 2 0 rfl rfl hi dX9_joinPath_52 ?_
        refine lv_iconst (v := 1) hx hb dX9_joinPath_53 (by decide) ?_
        refine lv_iload hx hb dX9_joinPath_54 (lv_at hl 0 rfl) ?_
        refine lv_ishl hx hb dX9_joinPath_56 ?_
        refine lv_ior hx hb dX9_joinPath_57 ?_
        obtain ⟨hi, hwp⟩ := hwp
        refine va_iast hx hb hK hP hD hS 2 0 rfl rfl hi dX9_joinPath_58 (fun H locs hP hD hS => ?_)
        obtain ⟨g58, eg58⟩ : ∃ z, z = upd t2_0 (Int32.toNatClampNeg v30) ((t2_0 (Int32.toNatClampNeg v30)) ||| ((1 : Int32) <<< (v44 &&& 31))) := ⟨_, rfl⟩
        replace hwp := hwp g58 eg58
        replace hP : va_P G vwCl [(h0, .inr (9, [.int i0, .int i1, .ref k0, .ref k1, .ref k2, .ref k3, .ref k4, .int i2, .ref k5, .int i3, .ref k6, .ref k7, .ref k8, .int i4, .ref k9, .ref h2, .int t2_1, .ref k10, .ref k11, .ref k12, .int i6, .ref h1, .int i7, .ref k13, .ref k14, .int i8, .int i9, .int i10, .ref k15, .int i11, .ref k16, .ref k17, .ref k18, .ref k19, .ref k20, .ref k21, .ref k22, .ref k23, .ref k24, .ref k25, .ref k26, .ref k27, .ref k28, .ref k29, .ref k30, .int i12, .int i13, .int i14, .int i15, .int i16, .ref k31, .ref k32, .ref k33, .ref k34, .ref k35, .ref k36, .int i17, .ref k37])), (h1, aI cI 24 f18), (h2, aI cI 21 g58)] H := by rw [eg58]; exact hP
        replace hD : va_D A [(h0, .inr (9, [.int i0, .int i1, .ref k0, .ref k1, .ref k2, .ref k3, .ref k4, .int i2, .ref k5, .int i3, .ref k6, .ref k7, .ref k8, .int i4, .ref k9, .ref h2, .int t2_1, .ref k10, .ref k11, .ref k12, .int i6, .ref h1, .int i7, .ref k13, .ref k14, .int i8, .int i9, .int i10, .ref k15, .int i11, .ref k16, .ref k17, .ref k18, .ref k19, .ref k20, .ref k21, .ref k22, .ref k23, .ref k24, .ref k25, .ref k26, .ref k27, .ref k28, .ref k29, .ref k30, .int i12, .int i13, .int i14, .int i15, .int i16, .ref k31, .ref k32, .ref k33, .ref k34, .ref k35, .ref k36, .int i17, .ref k37])), (h1, aI cI 24 f18), (h2, aI cI 21 g58)] := by rw [eg58]; exact hD
        clear eg58
        refine lv_aload_n hx hb dX9_joinPath_59 rfl (lv_at hl 3 rfl) ?_
        refine va_get (D := G) (ci := 9) (v := .ref h2) (C := RX9) (T := TX9) (N := 58) hx hb hts xinX9 hown hK hP 0 rfl rfl 15 (by decide) (hts _ wo_472) (fun _ h9 => h9) rfl dX9_joinPath_60 ?_
        refine lv_iload hx hb dX9_joinPath_63 (lv_at hl 0 rfl) ?_
        refine lv_dup2_11 hx hb dX9_joinPath_65 rfl rfl ?_
        obtain ⟨hi, hwp⟩ := hwp
        refine va_iald hx hb hK hP 2 0 rfl rfl hi dX9_joinPath_66 ?_
        refine lv_iconst (v := 1) hx hb dX9_joinPath_67 (by decide) ?_
        refine lv_iload_n hx hb dX9_joinPath_68 rfl (lv_at hl 1 rfl) ?_
        refine lv_ishl hx hb dX9_joinPath_69 ?_
        refine lv_ior hx hb dX9_joinPath_70 ?_
        obtain ⟨hi, hwp⟩ := hwp
        refine va_iast hx hb hK hP hD hS 2 0 rfl rfl hi dX9_joinPath_71 (fun H locs hP hD hS => ?_)
        obtain ⟨g71, eg71⟩ : ∃ z, z = upd g58 (Int32.toNatClampNeg v44) ((g58 (Int32.toNatClampNeg v44)) ||| ((1 : Int32) <<< (v30 &&& 31))) := ⟨_, rfl⟩
        replace hwp := hwp g71 eg71
        replace hP : va_P G vwCl [(h0, .inr (9, [.int i0, .int i1, .ref k0, .ref k1, .ref k2, .ref k3, .ref k4, .int i2, .ref k5, .int i3, .ref k6, .ref k7, .ref k8, .int i4, .ref k9, .ref h2, .int t2_1, .ref k10, .ref k11, .ref k12, .int i6, .ref h1, .int i7, .ref k13, .ref k14, .int i8, .int i9, .int i10, .ref k15, .int i11, .ref k16, .ref k17, .ref k18, .ref k19, .ref k20, .ref k21, .ref k22, .ref k23, .ref k24, .ref k25, .ref k26, .ref k27, .ref k28, .ref k29, .ref k30, .int i12, .int i13, .int i14, .int i15, .int i16, .ref k31, .ref k32, .ref k33, .ref k34, .ref k35, .ref k36, .int i17, .ref k37])), (h1, aI cI 24 f18), (h2, aI cI 21 g71)] H := by rw [eg71]; exact hP
        replace hD : va_D A [(h0, .inr (9, [.int i0, .int i1, .ref k0, .ref k1, .ref k2, .ref k3, .ref k4, .int i2, .ref k5, .int i3, .ref k6, .ref k7, .ref k8, .int i4, .ref k9, .ref h2, .int t2_1, .ref k10, .ref k11, .ref k12, .int i6, .ref h1, .int i7, .ref k13, .ref k14, .int i8, .int i9, .int i10, .ref k15, .int i11, .ref k16, .ref k17, .ref k18, .ref k19, .ref k20, .ref k21, .ref k22, .ref k23, .ref k24, .ref k25, .ref k26, .ref k27, .ref k28, .ref k29, .ref k30, .int i12, .int i13, .int i14, .int i15, .int i16, .ref k31, .ref k32, .ref k33, .ref k34, .ref k35, .ref k36, .int i17, .ref k37])), (h1, aI cI 24 f18), (h2, aI cI 21 g71)] := by rw [eg71]; exact hD
        clear eg71
        refine lv_aload_n hx hb dX9_joinPath_72 rfl (lv_at hl 3 rfl) ?_
        refine lv_dup hx hb dX9_joinPath_73 rfl ?_
        refine va_get (D := G) (ci := 9) (v := .int t2_1) (C := RX9) (T := TX9) (N := 58) hx hb hts xinX9 hown hK hP 0 rfl rfl 16 (by decide) (hts _ wo_473) (fun _ h9 => h9) rfl dX9_joinPath_74 ?_
        refine lv_iconst (v := 1) hx hb dX9_joinPath_77 (by decide) ?_
        refine lv_iload_n hx hb dX9_joinPath_78 rfl (lv_at hl 1 rfl) ?_
        refine lv_ishl hx hb dX9_joinPath_79 ?_
        refine lv_iconst (v := 1) hx hb dX9_joinPath_80 (by decide) ?_
        refine lv_iload hx hb dX9_joinPath_81 (lv_at hl 0 rfl) ?_
        refine lv_ishl hx hb dX9_joinPath_83 ?_
        refine lv_ior hx hb dX9_joinPath_84 ?_
        refine lv_ior hx hb dX9_joinPath_85 ?_
        refine lv_topi (fun v86 ev86 => ?_)
        replace hwp := hwp v86 ev86
        clear ev86
        refine va_put (D := G) (ci := 9) (v := .int v86) (ty := .int) (C := RX9) (T := TX9) (N := 58) hx hb hts xinX9 tyX9 tyX9_ok nmX9 hown hK hP hD hS 0 rfl rfl 16 (by decide) (hts _ wo_473) (fun _ h9 => h9) rfl (by decide +kernel) rfl rfl (Nat.le_of_ble_eq_true rfl) dX9_joinPath_86 (fun H locs hP hD hS => ?_)
        replace hP : va_P G vwCl [(h0, .inr (9, [.int i0, .int i1, .ref k0, .ref k1, .ref k2, .ref k3, .ref k4, .int i2, .ref k5, .int i3, .ref k6, .ref k7, .ref k8, .int i4, .ref k9, .ref h2, .int v86, .ref k10, .ref k11, .ref k12, .int i6, .ref h1, .int i7, .ref k13, .ref k14, .int i8, .int i9, .int i10, .ref k15, .int i11, .ref k16, .ref k17, .ref k18, .ref k19, .ref k20, .ref k21, .ref k22, .ref k23, .ref k24, .ref k25, .ref k26, .ref k27, .ref k28, .ref k29, .ref k30, .int i12, .int i13, .int i14, .int i15, .int i16, .ref k31, .ref k32, .ref k33, .ref k34, .ref k35, .ref k36, .int i17, .ref k37])), (h1, aI cI 24 f18), (h2, aI cI 21 g71)] H := hP
        replace hD : va_D A [(h0, .inr (9, [.int i0, .int i1, .ref k0, .ref k1, .ref k2, .ref k3, .ref k4, .int i2, .ref k5, .int i3, .ref k6, .ref k7, .ref k8, .int i4, .ref k9, .ref h2, .int v86, .ref k10, .ref k11, .ref k12, .int i6, .ref h1, .int i7, .ref k13, .ref k14, .int i8, .int i9, .int i10, .ref k15, .int i11, .ref k16, .ref k17, .ref k18, .ref k19, .ref k20, .ref k21, .ref k22, .ref k23, .ref k24, .ref k25, .ref k26, .ref k27, .ref k28, .ref k29, .ref k30, .int i12, .int i13, .int i14, .int i15, .int i16, .ref k31, .ref k32, .ref k33, .ref k34, .ref k35, .ref k36, .int i17, .ref k37])), (h1, aI cI 24 f18), (h2, aI cI 21 g71)] := hD
        refine lv_iinc (v := (t2_2 + 1)) (lv' := [(2, .int (t2_2 + 1)), (4, .int v44), (3, .int v30), (0, .ref h0), (1, .int p0)]) hx hb dX9_joinPath_89 hl (k := 2) rfl rfl (by decide) rfl (fun ls hl => ?_)
        refine lv_goto (tgt := 2) hx hb dX9_joinPath_92 (by decide) ?_
        replace hl : lv_has ls 5 [(2, .int (t2_2 + 1)), (0, .ref h0), (1, .int p0)] := lv_sub hl [0, 3, 4] rfl
        exact ih1 H locs ls g71 v86 (t2_2 + 1) hwp hP hD hS hl
      · replace hwp := hwp.2 c9
        refine lv_iload_n hx hb dX9_joinPath_12 rfl (lv_at hl 2 rfl) ?_
        refine lv_if_eq (tgt := 95) hx hb dX9_joinPath_13 (by decide) (fun c13 => ?_) (fun c13 => ?_)
        · replace hwp := hwp.1 c13
          have hP9 : va_P G vwCl [(h0, .inr (9, [.int i0, .int i1, .ref k0, .ref k1, .ref k2, .ref k3, .ref k4, .int i2, .ref k5, .int i3, .ref k6, .ref k7, .ref k8, .int i4, .ref k9, .ref h2, .int t2_1, .ref k10, .ref k11, .ref k12, .int i6, .ref h1, .int i7, .ref k13, .ref k14, .int i8, .int i9, .int i10, .ref k15, .int i11, .ref k16, .ref k17, .ref k18, .ref k19, .ref k20, .ref k21, .ref k22, .ref k23, .ref k24, .ref k25, .ref k26, .ref k27, .ref k28, .ref k29, .ref k30, .int i12, .int i13, .int i14, .int i15, .int i16, .ref k31, .ref k32, .ref k33, .ref k34, .ref k35, .ref k36, .int i17, .ref k37])), (h1, aI cI 24 f18), (h2, aI cI 21 t2_0)] H := hP.sub [0, 1, 2] rfl
          have hD9 : va_D A [(h0, .inr (9, [.int i0, .int i1, .ref k0, .ref k1, .ref k2, .ref k3, .ref k4, .int i2, .ref k5, .int i3, .ref k6, .ref k7, .ref k8, .int i4, .ref k9, .ref h2, .int t2_1, .ref k10, .ref k11, .ref k12, .int i6, .ref h1, .int i7, .ref k13, .ref k14, .int i8, .int i9, .int i10, .ref k15, .int i11, .ref k16, .ref k17, .ref k18, .ref k19, .ref k20, .ref k21, .ref k22, .ref k23, .ref k24, .ref k25, .ref k26, .ref k27, .ref k28, .ref k29, .ref k30, .int i12, .int i13, .int i14, .int i15, .int i16, .ref k31, .ref k32, .ref k33, .ref k34, .ref k35, .ref k36, .int i17, .ref k37])), (h1, aI cI 24 f18), (h2, aI cI 21 t2_0)] := hD.sub [0, 1, 2] (by decide) rfl
          rw [← hQQ]
          exact W.vret hx hb hr (fun t ht hW => ⟨⟨(t2_1, t2_0), rfl, hwp, by rw [ht]; exact hP9, hD9⟩, hS.F ht⟩) hS.2.2 dX9_joinPath_95
        · replace hwp := hwp.2 c13
          refine lv_iload_n hx hb dX9_joinPath_16 rfl (lv_at hl 0 rfl) ?_
          refine lv_aload_n hx hb dX9_joinPath_17 rfl (lv_at hl 1 rfl) ?_
          refine va_get (D := G) (ci := 9) (v := .int i7) (C := RX9) (T := TX9) (N := 58) hx hb hts xinX9 hown hK hP 0 rfl rfl 22 (by decide) (hts _ wo_463) (fun _ h9 => h9) rfl dX9_joinPath_18 ?_
          refine lv_icmp_ge (tgt := 95) hx hb dX9_joinPath_21 (by decide) (fun c21 => ?_) (fun c21 => ?_)
          · replace hwp := hwp.1 c21
            have hP9 : va_P G vwCl [(h0, .inr (9, [.int i0, .int i1, .ref k0, .ref k1, .ref k2, .ref k3, .ref k4, .int i2, .ref k5, .int i3, .ref k6, .ref k7, .ref k8, .int i4, .ref k9, .ref h2, .int t2_1, .ref k10, .ref k11, .ref k12, .int i6, .ref h1, .int i7, .ref k13, .ref k14, .int i8, .int i9, .int i10, .ref k15, .int i11, .ref k16, .ref k17, .ref k18, .ref k19, .ref k20, .ref k21, .ref k22, .ref k23, .ref k24, .ref k25, .ref k26, .ref k27, .ref k28, .ref k29, .ref k30, .int i12, .int i13, .int i14, .int i15, .int i16, .ref k31, .ref k32, .ref k33, .ref k34, .ref k35, .ref k36, .int i17, .ref k37])), (h1, aI cI 24 f18), (h2, aI cI 21 t2_0)] H := hP.sub [0, 1, 2] rfl
            have hD9 : va_D A [(h0, .inr (9, [.int i0, .int i1, .ref k0, .ref k1, .ref k2, .ref k3, .ref k4, .int i2, .ref k5, .int i3, .ref k6, .ref k7, .ref k8, .int i4, .ref k9, .ref h2, .int t2_1, .ref k10, .ref k11, .ref k12, .int i6, .ref h1, .int i7, .ref k13, .ref k14, .int i8, .int i9, .int i10, .ref k15, .int i11, .ref k16, .ref k17, .ref k18, .ref k19, .ref k20, .ref k21, .ref k22, .ref k23, .ref k24, .ref k25, .ref k26, .ref k27, .ref k28, .ref k29, .ref k30, .int i12, .int i13, .int i14, .int i15, .int i16, .ref k31, .ref k32, .ref k33, .ref k34, .ref k35, .ref k36, .int i17, .ref k37])), (h1, aI cI 24 f18), (h2, aI cI 21 t2_0)] := hD.sub [0, 1, 2] (by decide) rfl
            rw [← hQQ]
            exact W.vret hx hb hr (fun t ht hW => ⟨⟨(t2_1, t2_0), rfl, hwp, by rw [ht]; exact hP9, hD9⟩, hS.F ht⟩) hS.2.2 dX9_joinPath_95
          · replace hwp := hwp.2 c21
            refine lv_aload_n hx hb dX9_joinPath_24 rfl (lv_at hl 1 rfl) ?_
            refine va_get (D := G) (ci := 9) (v := .ref h1) (C := RX9) (T := TX9) (N := 58) hx hb hts xinX9 hown hK hP 0 rfl rfl 21 (by decide) (hts _ wo_464) (fun _ h9 => h9) rfl dX9_joinPath_25 ?_
            refine lv_iload_n hx hb dX9_joinPath_28 rfl (lv_at hl 0 rfl) ?_
            obtain ⟨hi, hwp⟩ := hwp
            refine va_iald hx hb hK hP 1 0 rfl rfl hi dX9_joinPath_29 ?_
            refine lv_topi (fun v30 ev30 => ?_)
            replace hwp := hwp v30 ev30
            clear ev30
            refine lv_istore_n (lv' := [(3, .int v30), (2, .int t2_2), (0, .ref h0), (1, .int p0)]) hx hb dX9_joinPath_30 rfl hl (by decide) rfl (fun ls hl => ?_)
            refine lv_aload_n hx hb dX9_joinPath_31 rfl (lv_at hl 2 rfl) ?_
            refine va_get (D := G) (ci := 9) (v := .ref h1) (C := RX9) (T := TX9) (N := 58) hx hb hts xinX9 hown hK hP 0 rfl rfl 21 (by decide) (hts _ wo_464) (fun _ h9 => h9) rfl dX9_joinPath_32 ?_
            refine lv_iload_n hx hb dX9_joinPath_35 rfl (lv_at hl 1 rfl) ?_
            refine lv_iconst (v := 1) hx hb dX9_joinPath_36 (by decide) ?_
            refine lv_iadd hx hb dX9_joinPath_37 ?_
            refine lv_aload_n hx hb dX9_joinPath_38 rfl (lv_at hl 2 rfl) ?_
            refine va_get (D := G) (ci := 9) (v := .int i7) (C := RX9) (T := TX9) (N := 58) hx hb hts xinX9 hown hK hP 0 rfl rfl 22 (by decide) (hts _ wo_463) (fun _ h9 => h9) rfl dX9_joinPath_39 ?_
            obtain ⟨hi, hwp⟩ := hwp
            refine lv_irem hx hb dX9_joinPath_42 hi ?_
            obtain ⟨hi, hwp⟩ := hwp
            refine va_iald hx hb hK hP 1 0 rfl rfl hi dX9_joinPath_43 ?_
            refine lv_topi (fun v44 ev44 => ?_)
            replace hwp := hwp v44 ev44
            clear ev44
            refine lv_istore (lv' := [(4, .int v44), (3, .int v30), (2, .int t2_2), (0, .ref h0), (1, .int p0)]) hx hb dX9_joinPath_44 hl (by decide) rfl (fun ls hl => ?_)
            refine lv_aload_n hx hb dX9_joinPath_46 rfl (lv_at hl 3 rfl) ?_
            refine va_get (D := G) (ci := 9) (v := .ref h2) (C := RX9) (T := TX9) (N := 58) hx hb hts xinX9 hown hK hP 0 rfl rfl 15 (by decide) (hts _ wo_472) (fun _ h9 => h9) rfl dX9_joinPath_47 ?_
            refine lv_iload_n hx hb dX9_joinPath_50 rfl (lv_at hl 1 rfl) ?_
            refine lv_dup2_11 hx hb dX9_joinPath_51 rfl rfl ?_
            obtain ⟨hi, hwp⟩ := hwp
            refine va_iald hx hb hK hP 2 0 rfl rfl hi dX9_joinPath_52 ?_
            refine lv_iconst (v := 1) hx hb dX9_joinPath_53 (by decide) ?_
            refine lv_iload hx hb dX9_joinPath_54 (lv_at hl 0 rfl) ?_
            refine lv_ishl hx hb dX9_joinPath_56 ?_
            refine lv_ior hx hb dX9_joinPath_57 ?_
            obtain ⟨hi, hwp⟩ := hwp
            refine va_iast hx hb hK hP hD hS 2 0 rfl rfl hi dX9_joinPath_58 (fun H locs hP hD hS => ?_)
            obtain ⟨g58, eg58⟩ : ∃ z, z = upd t2_0 (Int32.toNatClampNeg v30) ((t2_0 (Int32.toNatClampNeg v30)) ||| ((1 : Int32) <<< (v44 &&& 31))) := ⟨_, rfl⟩
            replace hwp := hwp g58 eg58
            replace hP : va_P G vwCl [(h0, .inr (9, [.int i0, .int i1, .ref k0, .ref k1, .ref k2, .ref k3, .ref k4, .int i2, .ref k5, .int i3, .ref k6, .ref k7, .ref k8, .int i4, .ref k9, .ref h2, .int t2_1, .ref k10, .ref k11, .ref k12, .int i6, .ref h1, .int i7, .ref k13, .ref k14, .int i8, .int i9, .int i10, .ref k15, .int i11, .ref k16, .ref k17, .ref k18, .ref k19, .ref k20, .ref k21, .ref k22, .ref k23, .ref k24, .ref k25, .ref k26, .ref k27, .ref k28, .ref k29, .ref k30, .int i12, .int i13, .int i14, .int i15, .int i16, .ref k31, .ref k32, .ref k33, .ref k34, .ref k35, .ref k36, .int i17, .ref k37])), (h1, aI cI 24 f18), (h2, aI cI 21 g58)] H := by rw [eg58]; exact hP
            replace hD : va_D A [(h0, .inr (9, [.int i0, .int i1, .ref k0, .ref k1, .ref k2, .ref k3, .ref k4, .int i2, .ref k5, .int i3, .ref k6, .ref k7, .ref k8, .int i4, .ref k9, .ref h2, .int t2_1, .ref k10, .ref k11, .ref k12, .int i6, .ref h1, .int i7, .ref k13, .ref k14, .int i8, .int i9, .int i10, .ref k15, .int i11, .ref k16, .ref k17, .ref k18, .ref k19, .ref k20, .ref k21, .ref k22, .ref k23, .ref k24, .ref k25, .ref k26, .ref k27, .ref k28, .ref k29, .ref k30, .int i12, .int i13, .int i14, .int i15, .int i16, .ref k31, .ref k32, .ref k33, .ref k34, .ref k35, .ref k36, .int i17, .ref k37])), (h1, aI cI 24 f18), (h2, aI cI 21 g58)] := by rw [eg58]; exact hD
            clear eg58
            refine lv_aload_n hx hb dX9_joinPath_59 rfl (lv_at hl 3 rfl) ?_
            refine va_get (D := G) (ci := 9) (v := .ref h2) (C := RX9) (T := TX9) (N := 58) hx hb hts xinX9 hown hK hP 0 rfl rfl 15 (by decide) (hts _ wo_472) (fun _ h9 => h9) rfl dX9_joinPath_60 ?_
            refine lv_iload hx hb dX9_joinPath_63 (lv_at hl 0 rfl) ?_
            refine lv_dup2_11 hx hb dX9_joinPath_65 rfl rfl ?_
            obtain ⟨hi, hwp⟩ := hwp
            refine va_iald hx hb hK hP 2 0 rfl rfl hi dX9_joinPath_66 ?_
            refine lv_iconst (v := 1) hx hb dX9_joinPath_67 (by decide) ?_
            refine lv_iload_n hx hb dX9_joinPath_68 rfl (lv_at hl 1 rfl) ?_
            refine lv_ishl hx hb dX9_joinPath_69 ?_
            refine lv_ior hx hb dX9_joinPath_70 ?_
            obtain ⟨hi, hwp⟩ := hwp
            refine va_iast hx hb hK hP hD hS 2 0 rfl rfl hi dX9_joinPath_71 (fun H locs hP hD hS => ?_)
            obtain ⟨g71, eg71⟩ : ∃ z, z = upd g58 (Int32.toNatClampNeg v44) ((g58 (Int32.toNatClampNeg v44)) ||| ((1 : Int32) <<< (v30 &&& 31))) := ⟨_, rfl⟩
            replace hwp := hwp g71 eg71
            replace hP : va_P G vwCl [(h0, .inr (9, [.int i0, .int i1, .ref k0, .ref k1, .ref k2, .ref k3, .ref k4, .int i2, .ref k5, .int i3, .ref k6, .ref k7, .ref k8, .int i4, .ref k9, .ref h2, .int t2_1, .ref k10, .ref k11, .ref k12, .int i6, .ref h1, .int i7, .ref k13, .ref k14, .int i8, .int i9, .int i10, .ref k15, .int i11, .ref k16, .ref k17, .ref k18, .ref k19, .ref k20, .ref k21, .ref k22, .ref k23, .ref k24, .ref k25, .ref k26, .ref k27, .ref k28, .ref k29, .ref k30, .int i12, .int i13, .int i14, .int i15, .int i16, .ref k31, .ref k32, .ref k33, .ref k34, .ref k35, .ref k36, .int i17, .ref k37])), (h1, aI cI 24 f18), (h2, aI cI 21 g71)] H := by rw [eg71]; exact hP
            replace hD : va_D A [(h0, .inr (9, [.int i0, .int i1, .ref k0, .ref k1, .ref k2, .ref k3, .ref k4, .int i2, .ref k5, .int i3, .ref k6, .ref k7, .ref k8, .int i4, .ref k9, .ref h2, .int t2_1, .ref k10, .ref k11, .ref k12, .int i6, .ref h1, .int i7, .ref k13, .ref k14, .int i8, .int i9, .int i10, .ref k15, .int i11, .ref k16, .ref k17, .ref k18, .ref k19, .ref k20, .ref k21, .ref k22, .ref k23, .ref k24, .ref k25, .ref k26, .ref k27, .ref k28, .ref k29, .ref k30, .int i12, .int i13, .int i14, .int i15, .int i16, .ref k31, .ref k32, .ref k33, .ref k34, .ref k35, .ref k36, .int i17, .ref k37])), (h1, aI cI 24 f18), (h2, aI cI 21 g71)] := by rw [eg71]; exact hD
            clear eg71
            refine lv_aload_n hx hb dX9_joinPath_72 rfl (lv_at hl 3 rfl) ?_
            refine lv_dup hx hb dX9_joinPath_73 rfl ?_
            refine va_get (D := G) (ci := 9) (v := .int t2_1) (C := RX9) (T := TX9) (N := 58) hx hb hts xinX9 hown hK hP 0 rfl rfl 16 (by decide) (hts _ wo_473) (fun _ h9 => h9) rfl dX9_joinPath_74 ?_
            refine lv_iconst (v := 1) hx hb dX9_joinPath_77 (by decide) ?_
            refine lv_iload_n hx hb dX9_joinPath_78 rfl (lv_at hl 1 rfl) ?_
            refine lv_ishl hx hb dX9_joinPath_79 ?_
            refine lv_iconst (v := 1) hx hb dX9_joinPath_80 (by decide) ?_
            refine lv_iload hx hb dX9_joinPath_81 (lv_at hl 0 rfl) ?_
            refine lv_ishl hx hb dX9_joinPath_83 ?_
            refine lv_ior hx hb dX9_joinPath_84 ?_
            refine lv_ior hx hb dX9_joinPath_85 ?_
            refine lv_topi (fun v86 ev86 => ?_)
            replace hwp := hwp v86 ev86
            clear ev86
            refine va_put (D := G) (ci := 9) (v := .int v86) (ty := .int) (C := RX9) (T := TX9) (N := 58) hx hb hts xinX9 tyX9 tyX9_ok nmX9 hown hK hP hD hS 0 rfl rfl 16 (by decide) (hts _ wo_473) (fun _ h9 => h9) rfl (by decide +kernel) rfl rfl (Nat.le_of_ble_eq_true rfl) dX9_joinPath_86 (fun H locs hP hD hS => ?_)
            replace hP : va_P G vwCl [(h0, .inr (9, [.int i0, .int i1, .ref k0, .ref k1, .ref k2, .ref k3, .ref k4, .int i2, .ref k5, .int i3, .ref k6, .ref k7, .ref k8, .int i4, .ref k9, .ref h2, .int v86, .ref k10, .ref k11, .ref k12, .int i6, .ref h1, .int i7, .ref k13, .ref k14, .int i8, .int i9, .int i10, .ref k15, .int i11, .ref k16, .ref k17, .ref k18, .ref k19, .ref k20, .ref k21, .ref k22, .ref k23, .ref k24, .ref k25, .ref k26, .ref k27, .ref k28, .ref k29, .ref k30, .int i12, .int i13, .int i14, .int i15, .int i16, .ref k31, .ref k32, .ref k33, .ref k34, .ref k35, .ref k36, .int i17, .ref k37])), (h1, aI cI 24 f18), (h2, aI cI 21 g71)] H := hP
            replace hD : va_D A [(h0, .inr (9, [.int i0, .int i1, .ref k0, .ref k1, .ref k2, .ref k3, .ref k4, .int i2, .ref k5, .int i3, .ref k6, .ref k7, .ref k8, .int i4, .ref k9, .ref h2, .int v86, .ref k10, .ref k11, .ref k12, .int i6, .ref h1, .int i7, .ref k13, .ref k14, .int i8, .int i9, .int i10, .ref k15, .int i11, .ref k16, .ref k17, .ref k18, .ref k19, .ref k20, .ref k21, .ref k22, .ref k23, .ref k24, .ref k25, .ref k26, .ref k27, .ref k28, .ref k29, .ref k30, .int i12, .int i13, .int i14, .int i15, .int i16, .ref k31, .ref k32, .ref k33, .ref k34, .ref k35, .ref k36, .int i17, .ref k37])), (h1, aI cI 24 f18), (h2, aI cI 21 g71)] := hD
            refine lv_iinc (v := (t2_2 + 1)) (lv' := [(2, .int (t2_2 + 1)), (4, .int v44), (3, .int v30), (0, .ref h0), (1, .int p0)]) hx hb dX9_joinPath_89 hl (k := 2) rfl rfl (by decide) rfl (fun ls hl => ?_)
            refine lv_goto (tgt := 2) hx hb dX9_joinPath_92 (by decide) ?_
            replace hl : lv_has ls 5 [(2, .int (t2_2 + 1)), (0, .ref h0), (1, .int p0)] := lv_sub hl [0, 3, 4] rfl
            exact ih1 H locs ls g71 v86 (t2_2 + 1) hwp hP hD hS hl
  exact hs1 n1 H locs ls f19 i5 0 hwp hP hD hS hl
def wX9_putFace (i0 : Int32) (i1 : Int32) (i2 : Int32) (i3 : Int32) (i4 : Int32) (i5 : Int32) (i6 : Int32) (i7 : Int32) (i8 : Int32) (i9 : Int32) (i10 : Int32) (i11 : Int32) (i12 : Int32) (i13 : Int32) (i14 : Int32) (i15 : Int32) (i16 : Int32) (i17 : Int32) (f18 : Nat → Int32) (f19 : Nat → Int32) (f20 : Nat → Int32) (p0 : Int32) (p1 : Int32) (p2 : Int32) (K : ((Nat → Int32) × (Nat → Int32) × (Nat → Int32)) → Prop) : Prop := (vp_in (((21 : Int32) * p0) + p1) 2560 ∧ (∀ g11 : Nat → Int32, g11 = upd f18 (Int32.toNatClampNeg (((21 : Int32) * p0) + p1)) p2 → (vp_in p0 120 ∧ (∀ g20 : Nat → Int32, g20 = upd f19 (Int32.toNatClampNeg p0) (p1 + 1) → (vp_in p0 120 ∧ (vp_in p0 120 ∧ (∀ g32 : Nat → Int32, g32 = upd f20 (Int32.toNatClampNeg p0) ((f20 (Int32.toNatClampNeg p0)) ||| ((1 : Int32) <<< (p2 &&& 31))) → K (g11, g20, g32))))))))
set_option maxHeartbeats 4000000 in
set_option maxRecDepth 100000 in
theorem zX9_putFace (l : Launch) (G : va_G) (cI cJ cZ : ClassId) (h0 h1 h2 h3 k0 k1 k2 k3 k4 k5 k6 k7 k8 k9 k10 k11 k12 k13 k14 k15 k16 k17 k18 k19 k20 k21 k22 k23 k24 k25 k26 k27 k28 k29 k30 k31 k32 k33 k34 k35 k36 sz : Nat) (i0 : Int32) (i1 : Int32) (i2 : Int32) (i3 : Int32) (i4 : Int32) (i5 : Int32) (i6 : Int32) (i7 : Int32) (i8 : Int32) (i9 : Int32) (i10 : Int32) (i11 : Int32) (i12 : Int32) (i13 : Int32) (i14 : Int32) (i15 : Int32) (i16 : Int32) (i17 : Int32) (f18 : Nat → Int32) (f19 : Nat → Int32) (f20 : Nat → Int32) (p0 : Int32) (p1 : Int32) (p2 : Int32) (K : ((Nat → Int32) × (Nat → Int32) × (Nat → Int32)) → Prop) (hwp : wX9_putFace i0 i1 i2 i3 i4 i5 i6 i7 i8 i9 i10 i11 i12 i13 i14 i15 i16 i17 f18 f19 f20 p0 p1 p2 K) : Met l yX9_putFace (xw yX9_putFace cX9_putFace 4 none) ({ frames := 0, cells := 0, slots := 0, locals := 0 }) (xPc G cI cJ cZ [.ref h0, .int p0, .int p1, .int p2] [(h0, .inr (9, [.int i0, .int i1, .ref k0, .ref k1, .ref k2, .ref k3, .ref k4, .int i2, .ref k5, .int i3, .ref k6, .ref k7, .ref k8, .int i4, .ref k9, .ref k10, .int i5, .ref h1, .ref h2, .ref h3, .int i6, .ref k11, .int i7, .ref k12, .ref k13, .int i8, .int i9, .int i10, .ref k14, .int i11, .ref k15, .ref k16, .ref k17, .ref k18, .ref k19, .ref k20, .ref k21, .ref k22, .ref k23, .ref k24, .ref k25, .ref k26, .ref k27, .ref k28, .ref k29, .int i12, .int i13, .int i14, .int i15, .int i16, .ref k30, .ref k31, .ref k32, .ref k33, .ref k34, .ref k35, .int i17, .ref k36])), (h1, aI cI 2560 f18), (h2, aI cI 120 f19), (h3, aI cI 120 f20)] sz) (va_Qv (fun (u : (Nat → Int32) × (Nat → Int32) × (Nat → Int32)) => K u) (fun (u : (Nat → Int32) × (Nat → Int32) × (Nat → Int32)) t => xB G (va_A [(h0, .inr (9, [.int i0, .int i1, .ref k0, .ref k1, .ref k2, .ref k3, .ref k4, .int i2, .ref k5, .int i3, .ref k6, .ref k7, .ref k8, .int i4, .ref k9, .ref k10, .int i5, .ref h1, .ref h2, .ref h3, .int i6, .ref k11, .int i7, .ref k12, .ref k13, .int i8, .int i9, .int i10, .ref k14, .int i11, .ref k15, .ref k16, .ref k17, .ref k18, .ref k19, .ref k20, .ref k21, .ref k22, .ref k23, .ref k24, .ref k25, .ref k26, .ref k27, .ref k28, .ref k29, .int i12, .int i13, .int i14, .int i15, .int i16, .ref k30, .ref k31, .ref k32, .ref k33, .ref k34, .ref k35, .int i17, .ref k36])), (h1, aI cI 2560 f18), (h2, aI cI 120 f19), (h3, aI cI 120 f20)] sz) [(h0, .inr (9, [.int i0, .int i1, .ref k0, .ref k1, .ref k2, .ref k3, .ref k4, .int i2, .ref k5, .int i3, .ref k6, .ref k7, .ref k8, .int i4, .ref k9, .ref k10, .int i5, .ref h1, .ref h2, .ref h3, .int i6, .ref k11, .int i7, .ref k12, .ref k13, .int i8, .int i9, .int i10, .ref k14, .int i11, .ref k15, .ref k16, .ref k17, .ref k18, .ref k19, .ref k20, .ref k21, .ref k22, .ref k23, .ref k24, .ref k25, .ref k26, .ref k27, .ref k28, .ref k29, .int i12, .int i13, .int i14, .int i15, .int i16, .ref k30, .ref k31, .ref k32, .ref k33, .ref k34, .ref k35, .int i17, .ref k36])), (h1, aI cI 2560 u.1), (h2, aI cI 120 u.2.1), (h3, aI cI 120 u.2.2)] t) (va_A [(h0, .inr (9, [.int i0, .int i1, .ref k0, .ref k1, .ref k2, .ref k3, .ref k4, .int i2, .ref k5, .int i3, .ref k6, .ref k7, .ref k8, .int i4, .ref k9, .ref k10, .int i5, .ref h1, .ref h2, .ref h3, .int i6, .ref k11, .int i7, .ref k12, .ref k13, .int i8, .int i9, .int i10, .ref k14, .int i11, .ref k15, .ref k16, .ref k17, .ref k18, .ref k19, .ref k20, .ref k21, .ref k22, .ref k23, .ref k24, .ref k25, .ref k26, .ref k27, .ref k28, .ref k29, .int i12, .int i13, .int i14, .int i15, .int i16, .ref k30, .ref k31, .ref k32, .ref k33, .ref k34, .ref k35, .int i17, .ref k36])), (h1, aI cI 2560 f18), (h2, aI cI 120 f19), (h3, aI cI 120 f20)] sz)) 0 0 (va_A [(h0, .inr (9, [.int i0, .int i1, .ref k0, .ref k1, .ref k2, .ref k3, .ref k4, .int i2, .ref k5, .int i3, .ref k6, .ref k7, .ref k8, .int i4, .ref k9, .ref k10, .int i5, .ref h1, .ref h2, .ref h3, .int i6, .ref k11, .int i7, .ref k12, .ref k13, .int i8, .int i9, .int i10, .ref k14, .int i11, .ref k15, .ref k16, .ref k17, .ref k18, .ref k19, .ref k20, .ref k21, .ref k22, .ref k23, .ref k24, .ref k25, .ref k26, .ref k27, .ref k28, .ref k29, .int i12, .int i13, .int i14, .int i15, .int i16, .ref k30, .ref k31, .ref k32, .ref k33, .ref k34, .ref k35, .int i17, .ref k36])), (h1, aI cI 2560 f18), (h2, aI cI 120 f19), (h3, aI cI 120 f20)] sz) := by
  refine Met.ofW (cc := cX9_putFace) (maxL := 4) (ret := none) (by decide) rfl ?_
  intro p e s m args below meth c s₁ B hml hv
  obtain ⟨rfl, hsz, hP, hK, hD0, hN⟩ := hv
  have hx := B.exec
  have hb := B.bytes
  have hr := B.returns
  have hts : ∀ w ∈ xW, w.before _ s = true := fun w h => atoms_spec (ws := xw yX9_putFace cX9_putFace 4 none) B.pre w (List.mem_cons_of_mem _ h)
  have hown : s.vm.findClass RX9 = some m.cls := findClass_of_methodNamed B.named
  have hlocks := B.notSynchronized
  subst hsz
  have hD := hD0.self (sz := s.heap.size)
  clear hD0
  generalize hAe : va_A [(h0, .inr (9, [.int i0, .int i1, .ref k0, .ref k1, .ref k2, .ref k3, .ref k4, .int i2, .ref k5, .int i3, .ref k6, .ref k7, .ref k8, .int i4, .ref k9, .ref k10, .int i5, .ref h1, .ref h2, .ref h3, .int i6, .ref k11, .int i7, .ref k12, .ref k13, .int i8, .int i9, .int i10, .ref k14, .int i11, .ref k15, .ref k16, .ref k17, .ref k18, .ref k19, .ref k20, .ref k21, .ref k22, .ref k23, .ref k24, .ref k25, .ref k26, .ref k27, .ref k28, .ref k29, .int i12, .int i13, .int i14, .int i15, .int i16, .ref k30, .ref k31, .ref k32, .ref k33, .ref k34, .ref k35, .int i17, .ref k36])), (h1, aI cI 2560 f18), (h2, aI cI 120 f19), (h3, aI cI 120 f20)] s.heap.size = A at hD ⊢
  have hA : ∀ q : Nat, s.heap.size ≤ q → A q := fun q h => by rw [← hAe]; exact Or.inr h
  clear hAe
  have hS : va_S A s.heap s.heap [] := va_S.rf
  replace hP : va_P G vwCl [(h0, .inr (9, [.int i0, .int i1, .ref k0, .ref k1, .ref k2, .ref k3, .ref k4, .int i2, .ref k5, .int i3, .ref k6, .ref k7, .ref k8, .int i4, .ref k9, .ref k10, .int i5, .ref h1, .ref h2, .ref h3, .int i6, .ref k11, .int i7, .ref k12, .ref k13, .int i8, .int i9, .int i10, .ref k14, .int i11, .ref k15, .ref k16, .ref k17, .ref k18, .ref k19, .ref k20, .ref k21, .ref k22, .ref k23, .ref k24, .ref k25, .ref k26, .ref k27, .ref k28, .ref k29, .int i12, .int i13, .int i14, .int i15, .int i16, .ref k30, .ref k31, .ref k32, .ref k33, .ref k34, .ref k35, .int i17, .ref k36])), (h1, aI cI 2560 f18), (h2, aI cI 120 f19), (h3, aI cI 120 f20)] s.heap := hP
  have hl := lv_entry ([.ref h0, .int p0, .int p1, .int p2]) (n := 4) (Nat.le_of_ble_eq_true rfl)
  rw [lg_entry_eq]
  generalize (lg_sl ([.ref h0, .int p0, .int p1, .int p2]) ++ List.replicate (4 - (lg_sl ([.ref h0, .int p0, .int p1, .int p2])).length) Slot.unset).toArray = ls at hl ⊢
  replace hl : lv_has ls 4 [(0, .ref h0), (1, .int p0), (2, .int p1), (3, .int p2)] := hl
  generalize hQQ : MQ below _ _ s 0 0 _ = QQ
  skip
  unfold wX9_putFace at hwp
  refine lv_aload_n hx hb dX9_putFace_0 rfl (lv_at hl 0 rfl) ?_
  refine va_get (D := G) (ci := 9) (v := .ref h1) (C := RX9) (T := TX9) (N := 58) hx hb hts xinX9 hown hK hP 0 rfl rfl 17 (by decide) (hts _ wo_474) (fun _ h9 => h9) rfl dX9_putFace_1 ?_
  refine lv_bipush (v := 21) hx hb dX9_putFace_4 (by decide) ?_
  refine lv_iload_n hx hb dX9_putFace_6 rfl (lv_at hl 1 rfl) ?_
  refine lv_imul hx hb dX9_putFace_7 ?_
  refine lv_iload_n hx hb dX9_putFace_8 rfl (lv_at hl 2 rfl) ?_
  refine lv_iadd hx hb dX9_putFace_9 ?_
  refine lv_iload_n hx hb dX9_putFace_10 rfl (lv_at hl 3 rfl) ?_
  obtain ⟨hi, hwp⟩ := hwp
  refine va_iast hx hb hK hP hD hS 1 0 rfl rfl hi dX9_putFace_11 (fun H locs hP hD hS => ?_)
  obtain ⟨g11, eg11⟩ : ∃ z, z = upd f18 (Int32.toNatClampNeg (((21 : Int32) * p0) + p1)) p2 := ⟨_, rfl⟩
  replace hwp := hwp g11 eg11
  replace hP : va_P G vwCl [(h0, .inr (9, [.int i0, .int i1, .ref k0, .ref k1, .ref k2, .ref k3, .ref k4, .int i2, .ref k5, .int i3, .ref k6, .ref k7, .ref k8, .int i4, .ref k9, .ref k10, .int i5, .ref h1, .ref h2, .ref h3, .int i6, .ref k11, .int i7, .ref k12, .ref k13, .int i8, .int i9, .int i10, .ref k14, .int i11, .ref k15, .ref k16, .ref k17, .ref k18, .ref k19, .ref k20, .ref k21, .ref k22, .ref k23, .ref k24, .ref k25, .ref k26, .ref k27, .ref k28, .ref k29, .int i12, .int i13, .int i14, .int i15, .int i16, .ref k30, .ref k31, .ref k32, .ref k33, .ref k34, .ref k35, .int i17, .ref k36])), (h1, aI cI 2560 g11), (h2, aI cI 120 f19), (h3, aI cI 120 f20)] H := by rw [eg11]; exact hP
  replace hD : va_D A [(h0, .inr (9, [.int i0, .int i1, .ref k0, .ref k1, .ref k2, .ref k3, .ref k4, .int i2, .ref k5, .int i3, .ref k6, .ref k7, .ref k8, .int i4, .ref k9, .ref k10, .int i5, .ref h1, .ref h2, .ref h3, .int i6, .ref k11, .int i7, .ref k12, .ref k13, .int i8, .int i9, .int i10, .ref k14, .int i11, .ref k15, .ref k16, .ref k17, .ref k18, .ref k19, .ref k20, .ref k21, .ref k22, .ref k23, .ref k24, .ref k25, .ref k26, .ref k27, .ref k28, .ref k29, .int i12, .int i13, .int i14, .int i15, .int i16, .ref k30, .ref k31, .ref k32, .ref k33, .ref k34, .ref k35, .int i17, .ref k36])), (h1, aI cI 2560 g11), (h2, aI cI 120 f19), (h3, aI cI 120 f20)] := by rw [eg11]; exact hD
  clear eg11
  refine lv_aload_n hx hb dX9_putFace_12 rfl (lv_at hl 0 rfl) ?_
  refine va_get (D := G) (ci := 9) (v := .ref h2) (C := RX9) (T := TX9) (N := 58) hx hb hts xinX9 hown hK hP 0 rfl rfl 18 (by decide) (hts _ wo_475) (fun _ h9 => h9) rfl dX9_putFace_13 ?_
  refine lv_iload_n hx hb dX9_putFace_16 rfl (lv_at hl 1 rfl) ?_
  refine lv_iload_n hx hb dX9_putFace_17 rfl (lv_at hl 2 rfl) ?_
  refine lv_iconst (v := 1) hx hb dX9_putFace_18 (by decide) ?_
  refine lv_iadd hx hb dX9_putFace_19 ?_
  obtain ⟨hi, hwp⟩ := hwp
  refine va_iast hx hb hK hP hD hS 2 0 rfl rfl hi dX9_putFace_20 (fun H locs hP hD hS => ?_)
  obtain ⟨g20, eg20⟩ : ∃ z, z = upd f19 (Int32.toNatClampNeg p0) (p1 + 1) := ⟨_, rfl⟩
  replace hwp := hwp g20 eg20
  replace hP : va_P G vwCl [(h0, .inr (9, [.int i0, .int i1, .ref k0, .ref k1, .ref k2, .ref k3, .ref k4, .int i2, .ref k5, .int i3, .ref k6, .ref k7, .ref k8, .int i4, .ref k9, .ref k10, .int i5, .ref h1, .ref h2, .ref h3, .int i6, .ref k11, .int i7, .ref k12, .ref k13, .int i8, .int i9, .int i10, .ref k14, .int i11, .ref k15, .ref k16, .ref k17, .ref k18, .ref k19, .ref k20, .ref k21, .ref k22, .ref k23, .ref k24, .ref k25, .ref k26, .ref k27, .ref k28, .ref k29, .int i12, .int i13, .int i14, .int i15, .int i16, .ref k30, .ref k31, .ref k32, .ref k33, .ref k34, .ref k35, .int i17, .ref k36])), (h1, aI cI 2560 g11), (h2, aI cI 120 g20), (h3, aI cI 120 f20)] H := by rw [eg20]; exact hP
  replace hD : va_D A [(h0, .inr (9, [.int i0, .int i1, .ref k0, .ref k1, .ref k2, .ref k3, .ref k4, .int i2, .ref k5, .int i3, .ref k6, .ref k7, .ref k8, .int i4, .ref k9, .ref k10, .int i5, .ref h1, .ref h2, .ref h3, .int i6, .ref k11, .int i7, .ref k12, .ref k13, .int i8, .int i9, .int i10, .ref k14, .int i11, .ref k15, .ref k16, .ref k17, .ref k18, .ref k19, .ref k20, .ref k21, .ref k22, .ref k23, .ref k24, .ref k25, .ref k26, .ref k27, .ref k28, .ref k29, .int i12, .int i13, .int i14, .int i15, .int i16, .ref k30, .ref k31, .ref k32, .ref k33, .ref k34, .ref k35, .int i17, .ref k36])), (h1, aI cI 2560 g11), (h2, aI cI 120 g20), (h3, aI cI 120 f20)] := by rw [eg20]; exact hD
  clear eg20
  refine lv_aload_n hx hb dX9_putFace_21 rfl (lv_at hl 0 rfl) ?_
  refine va_get (D := G) (ci := 9) (v := .ref h3) (C := RX9) (T := TX9) (N := 58) hx hb hts xinX9 hown hK hP 0 rfl rfl 19 (by decide) (hts _ wo_476) (fun _ h9 => h9) rfl dX9_putFace_22 ?_
  refine lv_iload_n hx hb dX9_putFace_25 rfl (lv_at hl 1 rfl) ?_
  refine lv_dup2_11 hx hb dX9_putFace_26 rfl rfl ?_
  obtain ⟨hi, hwp⟩ := hwp
  refine va_iald hx hb hK hP 3 0 rfl rfl hi dX9_putFace_27 ?_
  refine lv_iconst (v := 1) hx hb dX9_putFace_28 (by decide) ?_
  refine lv_iload_n hx hb dX9_putFace_29 rfl (lv_at hl 3 rfl) ?_
  refine lv_ishl hx hb dX9_putFace_30 ?_
  refine lv_ior hx hb dX9_putFace_31 ?_
  obtain ⟨hi, hwp⟩ := hwp
  refine va_iast hx hb hK hP hD hS 3 0 rfl rfl hi dX9_putFace_32 (fun H locs hP hD hS => ?_)
  obtain ⟨g32, eg32⟩ : ∃ z, z = upd f20 (Int32.toNatClampNeg p0) ((f20 (Int32.toNatClampNeg p0)) ||| ((1 : Int32) <<< (p2 &&& 31))) := ⟨_, rfl⟩
  replace hwp := hwp g32 eg32
  replace hP : va_P G vwCl [(h0, .inr (9, [.int i0, .int i1, .ref k0, .ref k1, .ref k2, .ref k3, .ref k4, .int i2, .ref k5, .int i3, .ref k6, .ref k7, .ref k8, .int i4, .ref k9, .ref k10, .int i5, .ref h1, .ref h2, .ref h3, .int i6, .ref k11, .int i7, .ref k12, .ref k13, .int i8, .int i9, .int i10, .ref k14, .int i11, .ref k15, .ref k16, .ref k17, .ref k18, .ref k19, .ref k20, .ref k21, .ref k22, .ref k23, .ref k24, .ref k25, .ref k26, .ref k27, .ref k28, .ref k29, .int i12, .int i13, .int i14, .int i15, .int i16, .ref k30, .ref k31, .ref k32, .ref k33, .ref k34, .ref k35, .int i17, .ref k36])), (h1, aI cI 2560 g11), (h2, aI cI 120 g20), (h3, aI cI 120 g32)] H := by rw [eg32]; exact hP
  replace hD : va_D A [(h0, .inr (9, [.int i0, .int i1, .ref k0, .ref k1, .ref k2, .ref k3, .ref k4, .int i2, .ref k5, .int i3, .ref k6, .ref k7, .ref k8, .int i4, .ref k9, .ref k10, .int i5, .ref h1, .ref h2, .ref h3, .int i6, .ref k11, .int i7, .ref k12, .ref k13, .int i8, .int i9, .int i10, .ref k14, .int i11, .ref k15, .ref k16, .ref k17, .ref k18, .ref k19, .ref k20, .ref k21, .ref k22, .ref k23, .ref k24, .ref k25, .ref k26, .ref k27, .ref k28, .ref k29, .int i12, .int i13, .int i14, .int i15, .int i16, .ref k30, .ref k31, .ref k32, .ref k33, .ref k34, .ref k35, .int i17, .ref k36])), (h1, aI cI 2560 g11), (h2, aI cI 120 g20), (h3, aI cI 120 g32)] := by rw [eg32]; exact hD
  clear eg32
  have hP9 : va_P G vwCl [(h0, .inr (9, [.int i0, .int i1, .ref k0, .ref k1, .ref k2, .ref k3, .ref k4, .int i2, .ref k5, .int i3, .ref k6, .ref k7, .ref k8, .int i4, .ref k9, .ref k10, .int i5, .ref h1, .ref h2, .ref h3, .int i6, .ref k11, .int i7, .ref k12, .ref k13, .int i8, .int i9, .int i10, .ref k14, .int i11, .ref k15, .ref k16, .ref k17, .ref k18, .ref k19, .ref k20, .ref k21, .ref k22, .ref k23, .ref k24, .ref k25, .ref k26, .ref k27, .ref k28, .ref k29, .int i12, .int i13, .int i14, .int i15, .int i16, .ref k30, .ref k31, .ref k32, .ref k33, .ref k34, .ref k35, .int i17, .ref k36])), (h1, aI cI 2560 g11), (h2, aI cI 120 g20), (h3, aI cI 120 g32)] H := hP.sub [0, 1, 2, 3] rfl
  have hD9 : va_D A [(h0, .inr (9, [.int i0, .int i1, .ref k0, .ref k1, .ref k2, .ref k3, .ref k4, .int i2, .ref k5, .int i3, .ref k6, .ref k7, .ref k8, .int i4, .ref k9, .ref k10, .int i5, .ref h1, .ref h2, .ref h3, .int i6, .ref k11, .int i7, .ref k12, .ref k13, .int i8, .int i9, .int i10, .ref k14, .int i11, .ref k15, .ref k16, .ref k17, .ref k18, .ref k19, .ref k20, .ref k21, .ref k22, .ref k23, .ref k24, .ref k25, .ref k26, .ref k27, .ref k28, .ref k29, .int i12, .int i13, .int i14, .int i15, .int i16, .ref k30, .ref k31, .ref k32, .ref k33, .ref k34, .ref k35, .int i17, .ref k36])), (h1, aI cI 2560 g11), (h2, aI cI 120 g20), (h3, aI cI 120 g32)] := hD.sub [0, 1, 2, 3] (by decide) rfl
  rw [← hQQ]
  exact W.vret hx hb hr (fun t ht hW => ⟨⟨(g11, g20, g32), rfl, hwp, by rw [ht]; exact hP9, hD9⟩, hS.F ht⟩) hS.2.2 dX9_putFace_33
def wLX9_begin_104 (i0 : Int32) (i1 : Int32) (i2 : Int32) (i3 : Int32) (i4 : Int32) (i8 : Int32) (i9 : Int32) (i10 : Int32) (i11 : Int32) (i12 : Int32) (i13 : Int32) (i14 : Int32) (i15 : Int32) (i16 : Int32) (i17 : Int32) (r73 : Int32) (u73 : Int32 × (Nat → Int32) × (Nat → Int32) × (Nat → Int32)) (u79 : Int32 × (Nat → Int32)) (K : Int32 → (Int32 × Int32 × Int32 × (Nat → Int32) × (Nat → Int32) × (Nat → Int32) × (Nat → Int32) × (Nat → Int32) × (Nat → Int32) × (Nat → Int32)) → Prop)  : Nat → (Nat → Int32) → (Nat → Int32) → (Nat → Int32) → Int32 → Prop
  | 0, _, _, _, _ => False
  | n104 + 1, t104_0, t104_1, t104_2, t104_3 => ((u73.1 ≤ t104_3 → (narrow .boolean (.int r73) = .int r73 ∧ K r73 (u79.1, (2 : Int32), u73.1, u73.2.1, u73.2.2.1, u73.2.2.2, u79.2, t104_0, t104_1, t104_2))) ∧ (¬ u73.1 ≤ t104_3 → (vp_in t104_3 24 ∧ (wX9_putFace i0 i1 i2 i3 i4 (u79.1) (2 : Int32) (u73.1) i8 i9 i10 i11 i12 i13 i14 i15 i16 i17 t104_1 t104_2 t104_0 (0 : Int32) t104_3 (u73.2.2.2 (Int32.toNatClampNeg t104_3)) (fun u124 => (vp_in ((u73.1 - 1) - t104_3) 24 ∧ (wX9_putFace i0 i1 i2 i3 i4 (u79.1) (2 : Int32) (u73.1) i8 i9 i10 i11 i12 i13 i14 i15 i16 i17 (u124.1) (u124.2.1) (u124.2.2) (1 : Int32) t104_3 (u73.2.2.2 (Int32.toNatClampNeg ((u73.1 - 1) - t104_3))) (fun u145 => (wLX9_begin_104 i0 i1 i2 i3 i4 i8 i9 i10 i11 i12 i13 i14 i15 i16 i17 r73 u73 u79 K  n104) (u145.2.2) (u145.1) (u145.2.1) (t104_3 + 1)))))))))
def wLX9_begin_45 (i0 : Int32) (i1 : Int32) (i2 : Int32) (i3 : Int32) (i4 : Int32) (i6 : Int32) (i7 : Int32) (i8 : Int32) (i9 : Int32) (i10 : Int32) (i11 : Int32) (i12 : Int32) (i13 : Int32) (i14 : Int32) (i15 : Int32) (i16 : Int32) (i17 : Int32) (f18 : Nat → Int32) (f19 : Nat → Int32) (f20 : Nat → Int32) (f21 : Nat → Int32) (f23 : Nat → Int32) (f24 : Nat → Int32) (f25 : Nat → Int32) (t2_0 : Int32) (t19_0 : Int32) (K : Int32 → (Int32 × Int32 × Int32 × (Nat → Int32) × (Nat → Int32) × (Nat → Int32) × (Nat → Int32) × (Nat → Int32) × (Nat → Int32) × (Nat → Int32)) → Prop)  : Nat → (Nat → Int32) → Int32 → Prop
  | 0, _, _ => False
  | n45 + 1, t45_0, t45_1 => ((i3 ≤ t45_1 → (wX9_findPath i0 i1 i2 i3 i4 (0 : Int32) i6 i7 i8 i9 i10 i11 i12 i13 i14 i15 i16 i17 f19 f20 f18 f21 t2_0 ((-1) : Int32) ((1 : Int32) <<< (t19_0 &&& 31)) t19_0 (fun r73 u73 => (wX9_joinPath i0 i1 i2 i3 i4 (0 : Int32) i6 (u73.1) i8 i9 i10 i11 i12 i13 i14 i15 i16 i17 (u73.2.2.2) t45_0 (1 : Int32) (fun u79 => (∀ g93 : Nat → Int32, g93 = upd f23 (Int32.toNatClampNeg (0 : Int32)) 0 → (∀ g100 : Nat → Int32, g100 = upd g93 (Int32.toNatClampNeg (1 : Int32)) 0 → (∃ n104, wLX9_begin_104 i0 i1 i2 i3 i4 i8 i9 i10 i11 i12 i13 i14 i15 i16 i17 r73 u73 u79 K  n104 g100 f24 f25 0)))))))) ∧ (¬ i3 ≤ t45_1 → (vp_in t45_1 21 ∧ (∀ g59 : Nat → Int32, g59 = upd t45_0 (Int32.toNatClampNeg t45_1) 0 → (wLX9_begin_45 i0 i1 i2 i3 i4 i6 i7 i8 i9 i10 i11 i12 i13 i14 i15 i16 i17 f18 f19 f20 f21 f23 f24 f25 t2_0 t19_0 K  n45) g59 (t45_1 + 1)))))
def wLX9_begin_19 (i0 : Int32) (i1 : Int32) (i2 : Int32) (i3 : Int32) (i4 : Int32) (i6 : Int32) (i7 : Int32) (i8 : Int32) (i9 : Int32) (i10 : Int32) (i11 : Int32) (i12 : Int32) (i13 : Int32) (i14 : Int32) (i15 : Int32) (i16 : Int32) (i17 : Int32) (f18 : Nat → Int32) (f19 : Nat → Int32) (f20 : Nat → Int32) (f21 : Nat → Int32) (f22 : Nat → Int32) (f23 : Nat → Int32) (f24 : Nat → Int32) (f25 : Nat → Int32) (t2_0 : Int32) (K : Int32 → (Int32 × Int32 × Int32 × (Nat → Int32) × (Nat → Int32) × (Nat → Int32) × (Nat → Int32) × (Nat → Int32) × (Nat → Int32) × (Nat → Int32)) → Prop)  : Nat → Int32 → Prop
  | 0, _ => False
  | n19 + 1, t19_0 => (vp_in t2_0 21 ∧ ((¬ (((f18 (Int32.toNatClampNeg t2_0)) >>> (t19_0 &&& 31)) &&& 1) = 0 → (∃ n45, wLX9_begin_45 i0 i1 i2 i3 i4 i6 i7 i8 i9 i10 i11 i12 i13 i14 i15 i16 i17 f18 f19 f20 f21 f23 f24 f25 t2_0 t19_0 K  n45 f22 0)) ∧ ((((f18 (Int32.toNatClampNeg t2_0)) >>> (t19_0 &&& 31)) &&& 1) = 0 → (wLX9_begin_19 i0 i1 i2 i3 i4 i6 i7 i8 i9 i10 i11 i12 i13 i14 i15 i16 i17 f18 f19 f20 f21 f22 f23 f24 f25 t2_0 K  n19) (t19_0 + 1))))
def wLX9_begin_2 (i0 : Int32) (i1 : Int32) (i2 : Int32) (i3 : Int32) (i4 : Int32) (i6 : Int32) (i7 : Int32) (i8 : Int32) (i9 : Int32) (i10 : Int32) (i11 : Int32) (i12 : Int32) (i13 : Int32) (i14 : Int32) (i15 : Int32) (i16 : Int32) (i17 : Int32) (f18 : Nat → Int32) (f19 : Nat → Int32) (f20 : Nat → Int32) (f21 : Nat → Int32) (f22 : Nat → Int32) (f23 : Nat → Int32) (f24 : Nat → Int32) (f25 : Nat → Int32) (K : Int32 → (Int32 × Int32 × Int32 × (Nat → Int32) × (Nat → Int32) × (Nat → Int32) × (Nat → Int32) × (Nat → Int32) × (Nat → Int32) × (Nat → Int32)) → Prop)  : Nat → Int32 → Prop
  | 0, _ => False
  | n2 + 1, t2_0 => (vp_in t2_0 21 ∧ ((¬ (f18 (Int32.toNatClampNeg t2_0)) = 0 → (∃ n19, wLX9_begin_19 i0 i1 i2 i3 i4 i6 i7 i8 i9 i10 i11 i12 i13 i14 i15 i16 i17 f18 f19 f20 f21 f22 f23 f24 f25 t2_0 K  n19 0)) ∧ ((f18 (Int32.toNatClampNeg t2_0)) = 0 → (wLX9_begin_2 i0 i1 i2 i3 i4 i6 i7 i8 i9 i10 i11 i12 i13 i14 i15 i16 i17 f18 f19 f20 f21 f22 f23 f24 f25 K  n2) (t2_0 + 1))))
def wX9_begin (i0 : Int32) (i1 : Int32) (i2 : Int32) (i3 : Int32) (i4 : Int32) (i5 : Int32) (i6 : Int32) (i7 : Int32) (i8 : Int32) (i9 : Int32) (i10 : Int32) (i11 : Int32) (i12 : Int32) (i13 : Int32) (i14 : Int32) (i15 : Int32) (i16 : Int32) (i17 : Int32) (f18 : Nat → Int32) (f19 : Nat → Int32) (f20 : Nat → Int32) (f21 : Nat → Int32) (f22 : Nat → Int32) (f23 : Nat → Int32) (f24 : Nat → Int32) (f25 : Nat → Int32) (K : Int32 → (Int32 × Int32 × Int32 × (Nat → Int32) × (Nat → Int32) × (Nat → Int32) × (Nat → Int32) × (Nat → Int32) × (Nat → Int32) × (Nat → Int32)) → Prop) : Prop := (∃ n2, wLX9_begin_2 i0 i1 i2 i3 i4 i6 i7 i8 i9 i10 i11 i12 i13 i14 i15 i16 i17 f18 f19 f20 f21 f22 f23 f24 f25 K  n2 0)
set_option maxHeartbeats 4000000 in
set_option maxRecDepth 100000 in
theorem zX9_begin (l : Launch) (G : va_G) (cI cJ cZ : ClassId) (h0 h1 h2 h3 h4 h5 h6 h7 h8 k0 k1 k2 k3 k4 k5 k6 k7 k8 k9 k10 k11 k12 k13 k14 k15 k16 k17 k18 k19 k20 k21 k22 k23 k24 k25 k26 k27 k28 k29 k30 k31 sz : Nat) (i0 : Int32) (i1 : Int32) (i2 : Int32) (i3 : Int32) (i4 : Int32) (i5 : Int32) (i6 : Int32) (i7 : Int32) (i8 : Int32) (i9 : Int32) (i10 : Int32) (i11 : Int32) (i12 : Int32) (i13 : Int32) (i14 : Int32) (i15 : Int32) (i16 : Int32) (i17 : Int32) (f18 : Nat → Int32) (f19 : Nat → Int32) (f20 : Nat → Int32) (f21 : Nat → Int32) (f22 : Nat → Int32) (f23 : Nat → Int32) (f24 : Nat → Int32) (f25 : Nat → Int32) (K : Int32 → (Int32 × Int32 × Int32 × (Nat → Int32) × (Nat → Int32) × (Nat → Int32) × (Nat → Int32) × (Nat → Int32) × (Nat → Int32) × (Nat → Int32)) → Prop) (hwp : wX9_begin i0 i1 i2 i3 i4 i5 i6 i7 i8 i9 i10 i11 i12 i13 i14 i15 i16 i17 f18 f19 f20 f21 f22 f23 f24 f25 K) : Met l yX9_begin (xw yX9_begin cX9_begin 5 (some .boolean)) ({ frames := 2, cells := 0, slots := 0, locals := 54 }) (xPc G cI cJ cZ [.ref h0] [(h0, .inr (9, [.int i0, .int i1, .ref k0, .ref k1, .ref k2, .ref k3, .ref k4, .int i2, .ref k5, .int i3, .ref k6, .ref k7, .ref k8, .int i4, .ref h1, .ref h5, .int i5, .ref h7, .ref h8, .ref h6, .int i6, .ref h4, .int i7, .ref h3, .ref h2, .int i8, .int i9, .int i10, .ref k9, .int i11, .ref k10, .ref k11, .ref k12, .ref k13, .ref k14, .ref k15, .ref k16, .ref k17, .ref k18, .ref k19, .ref k20, .ref k21, .ref k22, .ref k23, .ref k24, .int i12, .int i13, .int i14, .int i15, .int i16, .ref k25, .ref k26, .ref k27, .ref k28, .ref k29, .ref k30, .int i17, .ref k31])), (h1, aI cI 21 f18), (h2, aI cI 21 f19), (h3, aI cI 21 f20), (h4, aI cI 24 f21), (h5, aI cI 21 f22), (h6, aI cI 120 f23), (h7, aI cI 2560 f24), (h8, aI cI 120 f25)] sz) (va_Qi (fun (r : Int32) (u : Int32 × Int32 × Int32 × (Nat → Int32) × (Nat → Int32) × (Nat → Int32) × (Nat → Int32) × (Nat → Int32) × (Nat → Int32) × (Nat → Int32)) => K r u) (fun (u : Int32 × Int32 × Int32 × (Nat → Int32) × (Nat → Int32) × (Nat → Int32) × (Nat → Int32) × (Nat → Int32) × (Nat → Int32) × (Nat → Int32)) t => xB G (va_A [(h0, .inr (9, [.int i0, .int i1, .ref k0, .ref k1, .ref k2, .ref k3, .ref k4, .int i2, .ref k5, .int i3, .ref k6, .ref k7, .ref k8, .int i4, .ref h1, .ref h5, .int i5, .ref h7, .ref h8, .ref h6, .int i6, .ref h4, .int i7, .ref h3, .ref h2, .int i8, .int i9, .int i10, .ref k9, .int i11, .ref k10, .ref k11, .ref k12, .ref k13, .ref k14, .ref k15, .ref k16, .ref k17, .ref k18, .ref k19, .ref k20, .ref k21, .ref k22, .ref k23, .ref k24, .int i12, .int i13, .int i14, .int i15, .int i16, .ref k25, .ref k26, .ref k27, .ref k28, .ref k29, .ref k30, .int i17, .ref k31])), (h1, aI cI 21 f18), (h2, aI cI 21 f19), (h3, aI cI 21 f20), (h4, aI cI 24 f21), (h5, aI cI 21 f22), (h6, aI cI 120 f23), (h7, aI cI 2560 f24), (h8, aI cI 120 f25)] sz) [(h0, .inr (9, [.int i0, .int i1, .ref k0, .ref k1, .ref k2, .ref k3, .ref k4, .int i2, .ref k5, .int i3, .ref k6, .ref k7, .ref k8, .int i4, .ref h1, .ref h5, .int u.1, .ref h7, .ref h8, .ref h6, .int u.2.1, .ref h4, .int u.2.2.1, .ref h3, .ref h2, .int i8, .int i9, .int i10, .ref k9, .int i11, .ref k10, .ref k11, .ref k12, .ref k13, .ref k14, .ref k15, .ref k16, .ref k17, .ref k18, .ref k19, .ref k20, .ref k21, .ref k22, .ref k23, .ref k24, .int i12, .int i13, .int i14, .int i15, .int i16, .ref k25, .ref k26, .ref k27, .ref k28, .ref k29, .ref k30, .int i17, .ref k31])), (h1, aI cI 21 f18), (h2, aI cI 21 u.2.2.2.1), (h3, aI cI 21 u.2.2.2.2.1), (h4, aI cI 24 u.2.2.2.2.2.1), (h5, aI cI 21 u.2.2.2.2.2.2.1), (h6, aI cI 120 u.2.2.2.2.2.2.2.1), (h7, aI cI 2560 u.2.2.2.2.2.2.2.2.1), (h8, aI cI 120 u.2.2.2.2.2.2.2.2.2)] t) (va_A [(h0, .inr (9, [.int i0, .int i1, .ref k0, .ref k1, .ref k2, .ref k3, .ref k4, .int i2, .ref k5, .int i3, .ref k6, .ref k7, .ref k8, .int i4, .ref h1, .ref h5, .int i5, .ref h7, .ref h8, .ref h6, .int i6, .ref h4, .int i7, .ref h3, .ref h2, .int i8, .int i9, .int i10, .ref k9, .int i11, .ref k10, .ref k11, .ref k12, .ref k13, .ref k14, .ref k15, .ref k16, .ref k17, .ref k18, .ref k19, .ref k20, .ref k21, .ref k22, .ref k23, .ref k24, .int i12, .int i13, .int i14, .int i15, .int i16, .ref k25, .ref k26, .ref k27, .ref k28, .ref k29, .ref k30, .int i17, .ref k31])), (h1, aI cI 21 f18), (h2, aI cI 21 f19), (h3, aI cI 21 f20), (h4, aI cI 24 f21), (h5, aI cI 21 f22), (h6, aI cI 120 f23), (h7, aI cI 2560 f24), (h8, aI cI 120 f25)] sz)) 0 0 (va_A [(h0, .inr (9, [.int i0, .int i1, .ref k0, .ref k1, .ref k2, .ref k3, .ref k4, .int i2, .ref k5, .int i3, .ref k6, .ref k7, .ref k8, .int i4, .ref h1, .ref h5, .int i5, .ref h7, .ref h8, .ref h6, .int i6, .ref h4, .int i7, .ref h3, .ref h2, .int i8, .int i9, .int i10, .ref k9, .int i11, .ref k10, .ref k11, .ref k12, .ref k13, .ref k14, .ref k15, .ref k16, .ref k17, .ref k18, .ref k19, .ref k20, .ref k21, .ref k22, .ref k23, .ref k24, .int i12, .int i13, .int i14, .int i15, .int i16, .ref k25, .ref k26, .ref k27, .ref k28, .ref k29, .ref k30, .int i17, .ref k31])), (h1, aI cI 21 f18), (h2, aI cI 21 f19), (h3, aI cI 21 f20), (h4, aI cI 24 f21), (h5, aI cI 21 f22), (h6, aI cI 120 f23), (h7, aI cI 2560 f24), (h8, aI cI 120 f25)] sz) := by
  refine Met.ofW (cc := cX9_begin) (maxL := 5) (ret := (some .boolean)) (by decide) rfl ?_
  intro p e s m args below meth c s₁ B hml hv
  obtain ⟨rfl, hsz, hP, hK, hD0, hN⟩ := hv
  have hx := B.exec
  have hb := B.bytes
  have hr := B.returns
  have hts : ∀ w ∈ xW, w.before _ s = true := fun w h => atoms_spec (ws := xw yX9_begin cX9_begin 5 (some .boolean)) B.pre w (List.mem_cons_of_mem _ h)
  have hown : s.vm.findClass RX9 = some m.cls := findClass_of_methodNamed B.named
  have hlocks := B.notSynchronized
  subst hsz
  have hD := hD0.self (sz := s.heap.size)
  clear hD0
  generalize hAe : va_A [(h0, .inr (9, [.int i0, .int i1, .ref k0, .ref k1, .ref k2, .ref k3, .ref k4, .int i2, .ref k5, .int i3, .ref k6, .ref k7, .ref k8, .int i4, .ref h1, .ref h5, .int i5, .ref h7, .ref h8, .ref h6, .int i6, .ref h4, .int i7, .ref h3, .ref h2, .int i8, .int i9, .int i10, .ref k9, .int i11, .ref k10, .ref k11, .ref k12, .ref k13, .ref k14, .ref k15, .ref k16, .ref k17, .ref k18, .ref k19, .ref k20, .ref k21, .ref k22, .ref k23, .ref k24, .int i12, .int i13, .int i14, .int i15, .int i16, .ref k25, .ref k26, .ref k27, .ref k28, .ref k29, .ref k30, .int i17, .ref k31])), (h1, aI cI 21 f18), (h2, aI cI 21 f19), (h3, aI cI 21 f20), (h4, aI cI 24 f21), (h5, aI cI 21 f22), (h6, aI cI 120 f23), (h7, aI cI 2560 f24), (h8, aI cI 120 f25)] s.heap.size = A at hD ⊢
  have hA : ∀ q : Nat, s.heap.size ≤ q → A q := fun q h => by rw [← hAe]; exact Or.inr h
  clear hAe
  have hS : va_S A s.heap s.heap [] := va_S.rf
  replace hP : va_P G vwCl [(h0, .inr (9, [.int i0, .int i1, .ref k0, .ref k1, .ref k2, .ref k3, .ref k4, .int i2, .ref k5, .int i3, .ref k6, .ref k7, .ref k8, .int i4, .ref h1, .ref h5, .int i5, .ref h7, .ref h8, .ref h6, .int i6, .ref h4, .int i7, .ref h3, .ref h2, .int i8, .int i9, .int i10, .ref k9, .int i11, .ref k10, .ref k11, .ref k12, .ref k13, .ref k14, .ref k15, .ref k16, .ref k17, .ref k18, .ref k19, .ref k20, .ref k21, .ref k22, .ref k23, .ref k24, .int i12, .int i13, .int i14, .int i15, .int i16, .ref k25, .ref k26, .ref k27, .ref k28, .ref k29, .ref k30, .int i17, .ref k31])), (h1, aI cI 21 f18), (h2, aI cI 21 f19), (h3, aI cI 21 f20), (h4, aI cI 24 f21), (h5, aI cI 21 f22), (h6, aI cI 120 f23), (h7, aI cI 2560 f24), (h8, aI cI 120 f25)] s.heap := hP
  have hl := lv_entry ([.ref h0]) (n := 5) (Nat.le_of_ble_eq_true rfl)
  rw [lg_entry_eq]
  generalize (lg_sl ([.ref h0]) ++ List.replicate (5 - (lg_sl ([.ref h0])).length) Slot.unset).toArray = ls at hl ⊢
  replace hl : lv_has ls 5 [(0, .ref h0)] := hl
  generalize hQQ : MQ below _ _ s 0 0 _ = QQ
  skip
  unfold wX9_begin at hwp
  refine lv_iconst (v := 0) hx hb dX9_begin_0 (by decide) ?_
  refine lv_istore_n (lv' := [(1, .int 0), (0, .ref h0)]) hx hb dX9_begin_1 rfl hl (by decide) rfl (fun ls hl => ?_)
  refine xgen (Pp := fun H locs => W p l e _ s m _ below meth c H locs _ _ _ _) (fun H locs hP hD hS => ?_) hP hD hS
  replace hl : lv_has ls 5 [(1, .int 0), (0, .ref h0)] := lv_sub hl [0, 1] rfl
  obtain ⟨n1, hwp⟩ := hwp
  have hs1 : ∀ (n1 : Nat) (H : Heap) (locs : List Loc) (ls : Array Slot) (t2_0 : Int32), wLX9_begin_2 i0 i1 i2 i3 i4 i6 i7 i8 i9 i10 i11 i12 i13 i14 i15 i16 i17 f18 f19 f20 f21 f22 f23 f24 f25 K  n1 t2_0 → va_P G vwCl [(h0, .inr (9, [.int i0, .int i1, .ref k0, .ref k1, .ref k2, .ref k3, .ref k4, .int i2, .ref k5, .int i3, .ref k6, .ref k7, .ref k8, .int i4, .ref h1, .ref h5, .int i5, .ref h7, .ref h8, .ref h6, .int i6, .ref h4, .int i7, .ref h3, .ref h2, .int i8, .int i9, .int i10, .ref k9, .int i11, .ref k10, .ref k11, .ref k12, .ref k13, .ref k14, .ref k15, .ref k16, .ref k17, .ref k18, .ref k19, .ref k20, .ref k21, .ref k22, .ref k23, .ref k24, .int i12, .int i13, .int i14, .int i15, .int i16, .ref k25, .ref k26, .ref k27, .ref k28, .ref k29, .ref k30, .int i17, .ref k31])), (h1, aI cI 21 f18), (h2, aI cI 21 f19), (h3, aI cI 21 f20), (h4, aI cI 24 f21), (h5, aI cI 21 f22), (h6, aI cI 120 f23), (h7, aI cI 2560 f24), (h8, aI cI 120 f25)] H → va_D A [(h0, .inr (9, [.int i0, .int i1, .ref k0, .ref k1, .ref k2, .ref k3, .ref k4, .int i2, .ref k5, .int i3, .ref k6, .ref k7, .ref k8, .int i4, .ref h1, .ref h5, .int i5, .ref h7, .ref h8, .ref h6, .int i6, .ref h4, .int i7, .ref h3, .ref h2, .int i8, .int i9, .int i10, .ref k9, .int i11, .ref k10, .ref k11, .ref k12, .ref k13, .ref k14, .ref k15, .ref k16, .ref k17, .ref k18, .ref k19, .ref k20, .ref k21, .ref k22, .ref k23, .ref k24, .int i12, .int i13, .int i14, .int i15, .int i16, .ref k25, .ref k26, .ref k27, .ref k28, .ref k29, .ref k30, .int i17, .ref k31])), (h1, aI cI 21 f18), (h2, aI cI 21 f19), (h3, aI cI 21 f20), (h4, aI cI 24 f21), (h5, aI cI 21 f22), (h6, aI cI 120 f23), (h7, aI cI 2560 f24), (h8, aI cI 120 f25)] → va_S A s.heap H locs → lv_has ls 5 [(1, .int t2_0), (0, .ref h0)] → W p l e ((headSpec (xw yX9_begin cX9_begin 5 (some .boolean)) { frames := 2, cells := 0, slots := 0, locals := 54 }).room) s m ([.ref h0] : List Value).toArray below meth c H locs 0 0 QQ (F0 m 2 ls []) := by
    intro n1
    induction n1 with
    | zero => intro H locs ls t2_0 hwp; exact False.elim hwp
    | succ n1 ih1 =>
      intro H locs ls t2_0 hwp hP hD hS hl
      rw [wLX9_begin_2] at hwp
      refine lv_aload_n hx hb dX9_begin_2 rfl (lv_at hl 1 rfl) ?_
      refine va_get (D := G) (ci := 9) (v := .ref h1) (C := RX9) (T := TX9) (N := 58) hx hb hts xinX9 hown hK hP 0 rfl rfl 14 (by decide) (hts _ wo_467) (fun _ h9 => h9) rfl dX9_begin_3 ?_
      refine lv_iload_n hx hb dX9_begin_6 rfl (lv_at hl 0 rfl) ?_
      obtain ⟨hi, hwp⟩ := hwp
      refine va_iald hx hb hK hP 1 0 rfl rfl hi dX9_begin_7 ?_
      refine lv_if_ne (tgt := 17) hx hb dX9_begin_8 (by decide) (fun c8 => ?_) (fun c8 => ?_)
      · replace hwp := hwp.1 c8
        refine lv_iconst (v := 0) hx hb dX9_begin_17 (by decide) ?_
        refine lv_istore_n (lv' := [(2, .int 0), (1, .int t2_0), (0, .ref h0)]) hx hb dX9_begin_18 rfl hl (by decide) rfl (fun ls hl => ?_)
        replace hl : lv_has ls 5 [(2, .int 0), (1, .int t2_0), (0, .ref h0)] := lv_sub hl [0, 1, 2] rfl
        obtain ⟨n2, hwp⟩ := hwp
        have hs2 : ∀ (n2 : Nat) (H : Heap) (locs : List Loc) (ls : Array Slot) (t19_0 : Int32), wLX9_begin_19 i0 i1 i2 i3 i4 i6 i7 i8 i9 i10 i11 i12 i13 i14 i15 i16 i17 f18 f19 f20 f21 f22 f23 f24 f25 t2_0 K  n2 t19_0 → va_P G vwCl [(h0, .inr (9, [.int i0, .int i1, .ref k0, .ref k1, .ref k2, .ref k3, .ref k4, .int i2, .ref k5, .int i3, .ref k6, .ref k7, .ref k8, .int i4, .ref h1, .ref h5, .int i5, .ref h7, .ref h8, .ref h6, .int i6, .ref h4, .int i7, .ref h3, .ref h2, .int i8, .int i9, .int i10, .ref k9, .int i11, .ref k10, .ref k11, .ref k12, .ref k13, .ref k14, .ref k15, .ref k16, .ref k17, .ref k18, .ref k19, .ref k20, .ref k21, .ref k22, .ref k23, .ref k24, .int i12, .int i13, .int i14, .int i15, .int i16, .ref k25, .ref k26, .ref k27, .ref k28, .ref k29, .ref k30, .int i17, .ref k31])), (h1, aI cI 21 f18), (h2, aI cI 21 f19), (h3, aI cI 21 f20), (h4, aI cI 24 f21), (h5, aI cI 21 f22), (h6, aI cI 120 f23), (h7, aI cI 2560 f24), (h8, aI cI 120 f25)] H → va_D A [(h0, .inr (9, [.int i0, .int i1, .ref k0, .ref k1, .ref k2, .ref k3, .ref k4, .int i2, .ref k5, .int i3, .ref k6, .ref k7, .ref k8, .int i4, .ref h1, .ref h5, .int i5, .ref h7, .ref h8, .ref h6, .int i6, .ref h4, .int i7, .ref h3, .ref h2, .int i8, .int i9, .int i10, .ref k9, .int i11, .ref k10, .ref k11, .ref k12, .ref k13, .ref k14, .ref k15, .ref k16, .ref k17, .ref k18, .ref k19, .ref k20, .ref k21, .ref k22, .ref k23, .ref k24, .int i12, .int i13, .int i14, .int i15, .int i16, .ref k25, .ref k26, .ref k27, .ref k28, .ref k29, .ref k30, .int i17, .ref k31])), (h1, aI cI 21 f18), (h2, aI cI 21 f19), (h3, aI cI 21 f20), (h4, aI cI 24 f21), (h5, aI cI 21 f22), (h6, aI cI 120 f23), (h7, aI cI 2560 f24), (h8, aI cI 120 f25)] → va_S A s.heap H locs → lv_has ls 5 [(2, .int t19_0), (1, .int t2_0), (0, .ref h0)] → W p l e ((headSpec (xw yX9_begin cX9_begin 5 (some .boolean)) { frames := 2, cells := 0, slots := 0, locals := 54 }).room) s m ([.ref h0] : List Value).toArray below meth c H locs 0 0 QQ (F0 m 19 ls []) := by
          intro n2
          induction n2 with
          | zero => intro H locs ls t19_0 hwp; exact False.elim hwp
          | succ n2 ih2 =>
            intro H locs ls t19_0 hwp hP hD hS hl
            rw [wLX9_begin_19] at hwp
            refine lv_aload_n hx hb dX9_begin_19 rfl (lv_at hl 2 rfl) ?_
            refine va_get (D := G) (ci := 9) (v := .ref h1) (C := RX9) (T := TX9) (N := 58) hx hb hts xinX9 hown hK hP 0 rfl rfl 14 (by decide) (hts _ wo_467) (fun _ h9 => h9) rfl dX9_begin_20 ?_
            refine lv_iload_n hx hb dX9_begin_23 rfl (lv_at hl 1 rfl) ?_
            obtain ⟨hi, hwp⟩ := hwp
            refine va_iald hx hb hK hP 1 0 rfl rfl hi dX9_begin_24 ?_
            refine lv_iload_n hx hb dX9_begin_25 rfl (lv_at hl 0 rfl) ?_
            refine lv_ishr hx hb dX9_begin_26 ?_
            refine lv_iconst (v := 1) hx hb dX9_begin_27 (by decide) ?_
            refine lv_iand hx hb dX9_begin_28 ?_
            refine lv_if_ne (tgt := 38) hx hb dX9_begin_29 (by decide) (fun c29 => ?_) (fun c29 => ?_)
            · replace hwp := hwp.1 c29
              refine lv_aload_n hx hb dX9_begin_38 rfl (lv_at hl 2 rfl) ?_
              refine lv_iconst (v := 0) hx hb dX9_begin_39 (by decide) ?_
              refine va_put (D := G) (ci := 9) (v := .int 0) (ty := .int) (C := RX9) (T := TX9) (N := 58) hx hb hts xinX9 tyX9 tyX9_ok nmX9 hown hK hP hD hS 0 rfl rfl 16 (by decide) (hts _ wo_473) (fun _ h9 => h9) rfl (by decide +kernel) rfl rfl (Nat.le_of_ble_eq_true rfl) dX9_begin_40 (fun H locs hP hD hS => ?_)
              replace hP : va_P G vwCl [(h0, .inr (9, [.int i0, .int i1, .ref k0, .ref k1, .ref k2, .ref k3, .ref k4, .int i2, .ref k5, .int i3, .ref k6, .ref k7, .ref k8, .int i4, .ref h1, .ref h5, .int 0, .ref h7, .ref h8, .ref h6, .int i6, .ref h4, .int i7, .ref h3, .ref h2, .int i8, .int i9, .int i10, .ref k9, .int i11, .ref k10, .ref k11, .ref k12, .ref k13, .ref k14, .ref k15, .ref k16, .ref k17, .ref k18, .ref k19, .ref k20, .ref k21, .ref k22, .ref k23, .ref k24, .int i12, .int i13, .int i14, .int i15, .int i16, .ref k25, .ref k26, .ref k27, .ref k28, .ref k29, .ref k30, .int i17, .ref k31])), (h1, aI cI 21 f18), (h2, aI cI 21 f19), (h3, aI cI 21 f20), (h4, aI cI 24 f21), (h5, aI cI 21 f22), (h6, aI cI 120 f23), (h7, aI cI 2560 f24), (h8, aI cI 120 f25)] H := hP
              replace hD : va_D A [(h0, .inr (9, [.int i0, .int i1, .ref k0, .ref k1, .ref k2, .ref k3, .ref k4, .int i2, .ref k5, .int i3, .ref k6, .ref k7, .ref k8, .int i4, .ref h1, .ref h5, .int 0, .ref h7, .ref h8, .ref h6, .int i6, .ref h4, .int i7, .ref h3, .ref h2, .int i8, .int i9, .int i10, .ref k9, .int i11, .ref k10, .ref k11, .ref k12, .ref k13, .ref k14, .ref k15, .ref k16, .ref k17, .ref k18, .ref k19, .ref k20, .ref k21, .ref k22, .ref k23, .ref k24, .int i12, .int i13, .int i14, .int i15, .int i16, .ref k25, .ref k26, .ref k27, .ref k28, .ref k29, .ref k30, .int i17, .ref k31])), (h1, aI cI 21 f18), (h2, aI cI 21 f19), (h3, aI cI 21 f20), (h4, aI cI 24 f21), (h5, aI cI 21 f22), (h6, aI cI 120 f23), (h7, aI cI 2560 f24), (h8, aI cI 120 f25)] := hD
              refine lv_iconst (v := 0) hx hb dX9_begin_43 (by decide) ?_
              refine lv_istore_n (lv' := [(3, .int 0), (2, .int t19_0), (1, .int t2_0), (0, .ref h0)]) hx hb dX9_begin_44 rfl hl (by decide) rfl (fun ls hl => ?_)
              replace hl : lv_has ls 5 [(3, .int 0), (2, .int t19_0), (1, .int t2_0), (0, .ref h0)] := lv_sub hl [0, 1, 2, 3] rfl
              obtain ⟨n3, hwp⟩ := hwp
              have hs3 : ∀ (n3 : Nat) (H : Heap) (locs : List Loc) (ls : Array Slot) (t45_0 : Nat → Int32) (t45_1 : Int32), wLX9_begin_45 i0 i1 i2 i3 i4 i6 i7 i8 i9 i10 i11 i12 i13 i14 i15 i16 i17 f18 f19 f20 f21 f23 f24 f25 t2_0 t19_0 K  n3 t45_0 t45_1 → va_P G vwCl [(h0, .inr (9, [.int i0, .int i1, .ref k0, .ref k1, .ref k2, .ref k3, .ref k4, .int i2, .ref k5, .int i3, .ref k6, .ref k7, .ref k8, .int i4, .ref h1, .ref h5, .int 0, .ref h7, .ref h8, .ref h6, .int i6, .ref h4, .int i7, .ref h3, .ref h2, .int i8, .int i9, .int i10, .ref k9, .int i11, .ref k10, .ref k11, .ref k12, .ref k13, .ref k14, .ref k15, .ref k16, .ref k17, .ref k18, .ref k19, .ref k20, .ref k21, .ref k22, .ref k23, .ref k24, .int i12, .int i13, .int i14, .int i15, .int i16, .ref k25, .ref k26, .ref k27, .ref k28, .ref k29, .ref k30, .int i17, .ref k31])), (h1, aI cI 21 f18), (h2, aI cI 21 f19), (h3, aI cI 21 f20), (h4, aI cI 24 f21), (h5, aI cI 21 t45_0), (h6, aI cI 120 f23), (h7, aI cI 2560 f24), (h8, aI cI 120 f25)] H → va_D A [(h0, .inr (9, [.int i0, .int i1, .ref k0, .ref k1, .ref k2, .ref k3, .ref k4, .int i2, .ref k5, .int i3, .ref k6, .ref k7, .ref k8, .int i4, .ref h1, .ref h5, .int 0, .ref h7, .ref h8, .ref h6, .int i6, .ref h4, .int i7, .ref h3, .ref h2, .int i8, .int i9, .int i10, .ref k9, .int i11, .ref k10, .ref k11, .ref k12, .ref k13, .ref k14, .ref k15, .ref k16, .ref k17, .ref k18, .ref k19, .ref k20, .ref k21, .ref k22, .ref k23, .ref k24, .int i12, .int i13, .int i14, .int i15, .int i16, .ref k25, .ref k26, .ref k27, .ref k28, .ref k29, .ref k30, .int i17, .ref k31])), (h1, aI cI 21 f18), (h2, aI cI 21 f19), (h3, aI cI 21 f20), (h4, aI cI 24 f21), (h5, aI cI 21 t45_0), (h6, aI cI 120 f23), (h7, aI cI 2560 f24), (h8, aI cI 120 f25)] → va_S A s.heap H locs → lv_has ls 5 [(3, .int t45_1), (2, .int t19_0), (1, .int t2_0), (0, .ref h0)] → W p l e ((headSpec (xw yX9_begin cX9_begin 5 (some .boolean)) { frames := 2, cells := 0, slots := 0, locals := 54 }).room) s m ([.ref h0] : List Value).toArray below meth c H locs 0 0 QQ (F0 m 45 ls []) := by
                intro n3
                induction n3 with
                | zero => intro H locs ls t45_0 t45_1 hwp; exact False.elim hwp
                | succ n3 ih3 =>
                  intro H locs ls t45_0 t45_1 hwp hP hD hS hl
                  rw [wLX9_begin_45] at hwp
                  refine lv_iload_n hx hb dX9_begin_45 rfl (lv_at hl 0 rfl) ?_
                  refine lv_aload_n hx hb dX9_begin_46 rfl (lv_at hl 3 rfl) ?_
                  refine va_get (D := G) (ci := 9) (v := .int i3) (C := RX9) (T := TX9) (N := 58) hx hb hts xinX9 hown hK hP 0 rfl rfl 9 (by decide) (hts _ wo_444) (fun _ h9 => h9) rfl dX9_begin_47 ?_
                  refine lv_icmp_ge (tgt := 66) hx hb dX9_begin_50 (by decide) (fun c50 => ?_) (fun c50 => ?_)
                  · replace hwp := hwp.1 c50
                    refine lv_aload_n hx hb dX9_begin_66 rfl (lv_at hl 3 rfl) ?_
                    refine lv_iload_n hx hb dX9_begin_67 rfl (lv_at hl 2 rfl) ?_
                    refine lv_iconst (v := (-1)) hx hb dX9_begin_68 (by decide) ?_
                    refine lv_iconst (v := 1) hx hb dX9_begin_69 (by decide) ?_
                    refine lv_iload_n hx hb dX9_begin_70 rfl (lv_at hl 1 rfl) ?_
                    refine lv_ishl hx hb dX9_begin_71 ?_
                    refine lv_iload_n hx hb dX9_begin_72 rfl (lv_at hl 1 rfl) ?_
                    refine xci (wr := [(h5, aI cI 21 t45_0), (h6, aI cI 120 f23), (h7, aI cI 2560 f24), (h8, aI cI 120 f25)]) (va_runV (As := [.int t2_0, .int (-1), .int ((1 : Int32) <<< (t19_0 &&& 31)), .int t19_0]) (rest := []) ⟨hx, hb, hml, hown, hts⟩ (zX9_findPath l G cI cJ cZ h0 h2 h3 h1 h4 k0 k1 k2 k3 k4 k5 k6 k7 k8 h5 h7 h8 h6 k9 k10 k11 k12 k13 k14 k15 k16 k17 k18 k19 k20 k21 k22 k23 k24 k25 k26 k27 k28 k29 k30 k31 H.size i0 i1 i2 i3 i4 (0 : Int32) i6 i7 i8 i9 i10 i11 i12 i13 i14 i15 i16 i17 f19 f20 f18 f21 t2_0 ((-1) : Int32) ((1 : Int32) <<< (t19_0 &&& 31)) t19_0 _ hwp) (cwV 4 hts (xgoodV wo_477 wo_478 wo_479 wo_480 wo_454) rfl rfl rfl (by decide +kernel) ⟨Nat.le_of_ble_eq_true rfl, Nat.le_of_ble_eq_true rfl⟩) (xPreV (q := (RX9, TX9, 58)) (q0 := 0) hK hN hP hD [0, 2, 3, 1, 4] (by decide) rfl rfl rfl) rfl rfl hl.1 rfl (lv_room (Nat.le_of_ble_eq_true rfl)) dX9_begin_73 ⟨Nat.le_of_ble_eq_true rfl, Nat.le_of_ble_eq_true rfl⟩) hP hD hS hA [0, 2, 3, 1, 4] [5, 6, 7, 8] rfl rfl (by decide) (by decide) (fun r73 u73 H locs hwp hP hD hS => ?_)
                    replace hP : va_P G vwCl [(h5, aI cI 21 t45_0), (h6, aI cI 120 f23), (h7, aI cI 2560 f24), (h8, aI cI 120 f25), (h0, .inr (9, [.int i0, .int i1, .ref k0, .ref k1, .ref k2, .ref k3, .ref k4, .int i2, .ref k5, .int i3, .ref k6, .ref k7, .ref k8, .int i4, .ref h1, .ref h5, .int 0, .ref h7, .ref h8, .ref h6, .int i6, .ref h4, .int u73.1, .ref h3, .ref h2, .int i8, .int i9, .int i10, .ref k9, .int i11, .ref k10, .ref k11, .ref k12, .ref k13, .ref k14, .ref k15, .ref k16, .ref k17, .ref k18, .ref k19, .ref k20, .ref k21, .ref k22, .ref k23, .ref k24, .int i12, .int i13, .int i14, .int i15, .int i16, .ref k25, .ref k26, .ref k27, .ref k28, .ref k29, .ref k30, .int i17, .ref k31])), (h2, aI cI 21 u73.2.1), (h3, aI cI 21 u73.2.2.1), (h1, aI cI 21 f18), (h4, aI cI 24 u73.2.2.2)] H := hP
                    replace hD : va_D A [(h5, aI cI 21 t45_0), (h6, aI cI 120 f23), (h7, aI cI 2560 f24), (h8, aI cI 120 f25), (h0, .inr (9, [.int i0, .int i1, .ref k0, .ref k1, .ref k2, .ref k3, .ref k4, .int i2, .ref k5, .int i3, .ref k6, .ref k7, .ref k8, .int i4, .ref h1, .ref h5, .int 0, .ref h7, .ref h8, .ref h6, .int i6, .ref h4, .int u73.1, .ref h3, .ref h2, .int i8, .int i9, .int i10, .ref k9, .int i11, .ref k10, .ref k11, .ref k12, .ref k13, .ref k14, .ref k15, .ref k16, .ref k17, .ref k18, .ref k19, .ref k20, .ref k21, .ref k22, .ref k23, .ref k24, .int i12, .int i13, .int i14, .int i15, .int i16, .ref k25, .ref k26, .ref k27, .ref k28, .ref k29, .ref k30, .int i17, .ref k31])), (h2, aI cI 21 u73.2.1), (h3, aI cI 21 u73.2.2.1), (h1, aI cI 21 f18), (h4, aI cI 24 u73.2.2.2)] := hD
                    refine lv_istore_n (lv' := [(3, .int r73), (2, .int t19_0), (1, .int t2_0), (0, .ref h0)]) hx hb dX9_begin_76 rfl hl (by decide) rfl (fun ls hl => ?_)
                    refine lv_aload_n hx hb dX9_begin_77 rfl (lv_at hl 3 rfl) ?_
                    refine lv_iconst (v := 1) hx hb dX9_begin_78 (by decide) ?_
                    refine xcv (wr := [(h6, aI cI 120 f23), (h7, aI cI 2560 f24), (h8, aI cI 120 f25), (h2, aI cI 21 u73.2.1), (h3, aI cI 21 u73.2.2.1), (h1, aI cI 21 f18)]) (va_runV (As := [.int 1]) (rest := []) ⟨hx, hb, hml, hown, hts⟩ (zX9_joinPath l G cI cJ cZ h0 h4 h5 k0 k1 k2 k3 k4 k5 k6 k7 k8 h1 h7 h8 h6 h3 h2 k9 k10 k11 k12 k13 k14 k15 k16 k17 k18 k19 k20 k21 k22 k23 k24 k25 k26 k27 k28 k29 k30 k31 H.size i0 i1 i2 i3 i4 (0 : Int32) i6 (u73.1) i8 i9 i10 i11 i12 i13 i14 i15 i16 i17 (u73.2.2.2) t45_0 (1 : Int32) _ hwp) (cwV 1 hts (xgoodV wo_481 wo_482 wo_483 wo_484 wo_454) rfl rfl rfl (by decide +kernel) ⟨Nat.le_of_ble_eq_true rfl, Nat.le_of_ble_eq_true rfl⟩) (xPreV (q := (RX9, TX9, 58)) (q0 := 4) hK hN hP hD [4, 8, 0] (by decide) rfl rfl rfl) rfl rfl hl.1 rfl (lv_room (Nat.le_of_ble_eq_true rfl)) dX9_begin_79 ⟨Nat.le_of_ble_eq_true rfl, Nat.le_of_ble_eq_true rfl⟩) hP hD hS hA [4, 8, 0] [1, 2, 3, 5, 6, 7] rfl rfl (by decide) (by decide) (fun u79 H locs hwp hP hD hS => ?_)
                    replace hP : va_P G vwCl [(h6, aI cI 120 f23), (h7, aI cI 2560 f24), (h8, aI cI 120 f25), (h2, aI cI 21 u73.2.1), (h3, aI cI 21 u73.2.2.1), (h1, aI cI 21 f18), (h0, .inr (9, [.int i0, .int i1, .ref k0, .ref k1, .ref k2, .ref k3, .ref k4, .int i2, .ref k5, .int i3, .ref k6, .ref k7, .ref k8, .int i4, .ref h1, .ref h5, .int u79.1, .ref h7, .ref h8, .ref h6, .int i6, .ref h4, .int u73.1, .ref h3, .ref h2, .int i8, .int i9, .int i10, .ref k9, .int i11, .ref k10, .ref k11, .ref k12, .ref k13, .ref k14, .ref k15, .ref k16, .ref k17, .ref k18, .ref k19, .ref k20, .ref k21, .ref k22, .ref k23, .ref k24, .int i12, .int i13, .int i14, .int i15, .int i16, .ref k25, .ref k26, .ref k27, .ref k28, .ref k29, .ref k30, .int i17, .ref k31])), (h4, aI cI 24 u73.2.2.2), (h5, aI cI 21 u79.2)] H := hP
                    replace hD : va_D A [(h6, aI cI 120 f23), (h7, aI cI 2560 f24), (h8, aI cI 120 f25), (h2, aI cI 21 u73.2.1), (h3, aI cI 21 u73.2.2.1), (h1, aI cI 21 f18), (h0, .inr (9, [.int i0, .int i1, .ref k0, .ref k1, .ref k2, .ref k3, .ref k4, .int i2, .ref k5, .int i3, .ref k6, .ref k7, .ref k8, .int i4, .ref h1, .ref h5, .int u79.1, .ref h7, .ref h8, .ref h6, .int i6, .ref h4, .int u73.1, .ref h3, .ref h2, .int i8, .int i9, .int i10, .ref k9, .int i11, .ref k10, .ref k11, .ref k12, .ref k13, .ref k14, .ref k15, .ref k16, .ref k17, .ref k18, .ref k19, .ref k20, .ref k21, .ref k22, .ref k23, .ref k24, .int i12, .int i13, .int i14, .int i15, .int i16, .ref k25, .ref k26, .ref k27, .ref k28, .ref k29, .ref k30, .int i17, .ref k31])), (h4, aI cI 24 u73.2.2.2), (h5, aI cI 21 u79.2)] := hD
                    refine lv_aload_n hx hb dX9_begin_82 rfl (lv_at hl 3 rfl) ?_
                    refine lv_iconst (v := 2) hx hb dX9_begin_83 (by decide) ?_
                    refine va_put (D := G) (ci := 9) (v := .int 2) (ty := .int) (C := RX9) (T := TX9) (N := 58) hx hb hts xinX9 tyX9 tyX9_ok nmX9 hown hK hP hD hS 6 rfl rfl 20 (by decide) (hts _ wo_485) (fun _ h9 => h9) rfl (by decide +kernel) rfl rfl (Nat.le_of_ble_eq_true rfl) dX9_begin_84 (fun H locs hP hD hS => ?_)
                    replace hP : va_P G vwCl [(h6, aI cI 120 f23), (h7, aI cI 2560 f24), (h8, aI cI 120 f25), (h2, aI cI 21 u73.2.1), (h3, aI cI 21 u73.2.2.1), (h1, aI cI 21 f18), (h0, .inr (9, [.int i0, .int i1, .ref k0, .ref k1, .ref k2, .ref k3, .ref k4, .int i2, .ref k5, .int i3, .ref k6, .ref k7, .ref k8, .int i4, .ref h1, .ref h5, .int u79.1, .ref h7, .ref h8, .ref h6, .int 2, .ref h4, .int u73.1, .ref h3, .ref h2, .int i8, .int i9, .int i10, .ref k9, .int i11, .ref k10, .ref k11, .ref k12, .ref k13, .ref k14, .ref k15, .ref k16, .ref k17, .ref k18, .ref k19, .ref k20, .ref k21, .ref k22, .ref k23, .ref k24, .int i12, .int i13, .int i14, .int i15, .int i16, .ref k25, .ref k26, .ref k27, .ref k28, .ref k29, .ref k30, .int i17, .ref k31])), (h4, aI cI 24 u73.2.2.2), (h5, aI cI 21 u79.2)] H := hP
                    replace hD : va_D A [(h6, aI cI 120 f23), (h7, aI cI 2560 f24), (h8, aI cI 120 f25), (h2, aI cI 21 u73.2.1), (h3, aI cI 21 u73.2.2.1), (h1, aI cI 21 f18), (h0, .inr (9, [.int i0, .int i1, .ref k0, .ref k1, .ref k2, .ref k3, .ref k4, .int i2, .ref k5, .int i3, .ref k6, .ref k7, .ref k8, .int i4, .ref h1, .ref h5, .int u79.1, .ref h7, .ref h8, .ref h6, .int 2, .ref h4, .int u73.1, .ref h3, .ref h2, .int i8, .int i9, .int i10, .ref k9, .int i11, .ref k10, .ref k11, .ref k12, .ref k13, .ref k14, .ref k15, .ref k16, .ref k17, .ref k18, .ref k19, .ref k20, .ref k21, .ref k22, .ref k23, .ref k24, .int i12, .int i13, .int i14, .int i15, .int i16, .ref k25, .ref k26, .ref k27, .ref k28, .ref k29, .ref k30, .int i17, .ref k31])), (h4, aI cI 24 u73.2.2.2), (h5, aI cI 21 u79.2)] := hD
                    refine lv_aload_n hx hb dX9_begin_87 rfl (lv_at hl 3 rfl) ?_
                    refine va_get (D := G) (ci := 9) (v := .ref h6) (C := RX9) (T := TX9) (N := 58) hx hb hts xinX9 hown hK hP 6 rfl rfl 19 (by decide) (hts _ wo_476) (fun _ h9 => h9) rfl dX9_begin_88 ?_
                    refine lv_iconst (v := 0) hx hb dX9_begin_91 (by decide) ?_
                    refine lv_iconst (v := 0) hx hb dX9_begin_92 (by decide) ?_
                    refine va_iast hx hb hK hP hD hS 0 0 rfl rfl (by unfold vp_in; decide) dX9_begin_93 (fun H locs hP hD hS => ?_)
                    obtain ⟨g93, eg93⟩ : ∃ z, z = upd f23 (Int32.toNatClampNeg (0 : Int32)) 0 := ⟨_, rfl⟩
                    replace hwp := hwp g93 eg93
                    replace hP : va_P G vwCl [(h6, aI cI 120 g93), (h7, aI cI 2560 f24), (h8, aI cI 120 f25), (h2, aI cI 21 u73.2.1), (h3, aI cI 21 u73.2.2.1), (h1, aI cI 21 f18), (h0, .inr (9, [.int i0, .int i1, .ref k0, .ref k1, .ref k2, .ref k3, .ref k4, .int i2, .ref k5, .int i3, .ref k6, .ref k7, .ref k8, .int i4, .ref h1, .ref h5, .int u79.1, .ref h7, .ref h8, .ref h6, .int 2, .ref h4, .int u73.1, .ref h3, .ref h2, .int i8, .int i9, .int i10, .ref k9, .int i11, .ref k10, .ref k11, .ref k12, .ref k13, .ref k14, .ref k15, .ref k16, .ref k17, .ref k18, .ref k19, .ref k20, .ref k21, .ref k22, .ref k23, .ref k24, .int i12, .int i13, .int i14, .int i15, .int i16, .ref k25, .ref k26, .ref k27, .ref k28, .ref k29, .ref k30, .int i17, .ref k31])), (h4, aI cI 24 u73.2.2.2), (h5, aI cI 21 u79.2)] H := by rw [eg93]; exact hP
                    replace hD : va_D A [(h6, aI cI 120 g93), (h7, aI cI 2560 f24), (h8, aI cI 120 f25), (h2, aI cI 21 u73.2.1), (h3, aI cI 21 u73.2.2.1), (h1, aI cI 21 f18), (h0, .inr (9, [.int i0, .int i1, .ref k0, .ref k1, .ref k2, .ref k3, .ref k4, .int i2, .ref k5, .int i3, .ref k6, .ref k7, .ref k8, .int i4, .ref h1, .ref h5, .int u79.1, .ref h7, .ref h8, .ref h6, .int 2, .ref h4, .int u73.1, .ref h3, .ref h2, .int i8, .int i9, .int i10, .ref k9, .int i11, .ref k10, .ref k11, .ref k12, .ref k13, .ref k14, .ref k15, .ref k16, .ref k17, .ref k18, .ref k19, .ref k20, .ref k21, .ref k22, .ref k23, .ref k24, .int i12, .int i13, .int i14, .int i15, .int i16, .ref k25, .ref k26, .ref k27, .ref k28, .ref k29, .ref k30, .int i17, .ref k31])), (h4, aI cI 24 u73.2.2.2), (h5, aI cI 21 u79.2)] := by rw [eg93]; exact hD
                    clear eg93
                    refine lv_aload_n hx hb dX9_begin_94 rfl (lv_at hl 3 rfl) ?_
                    refine va_get (D := G) (ci := 9) (v := .ref h6) (C := RX9) (T := TX9) (N := 58) hx hb hts xinX9 hown hK hP 6 rfl rfl 19 (by decide) (hts _ wo_476) (fun _ h9 => h9) rfl dX9_begin_95 ?_
                    refine lv_iconst (v := 1) hx hb dX9_begin_98 (by decide) ?_
                    refine lv_iconst (v := 0) hx hb dX9_begin_99 (by decide) ?_
                    refine va_iast hx hb hK hP hD hS 0 0 rfl rfl (by unfold vp_in; decide) dX9_begin_100 (fun H locs hP hD hS => ?_)
                    obtain ⟨g100, eg100⟩ : ∃ z, z = upd g93 (Int32.toNatClampNeg (1 : Int32)) 0 := ⟨_, rfl⟩
                    replace hwp := hwp g100 eg100
                    replace hP : va_P G vwCl [(h6, aI cI 120 g100), (h7, aI cI 2560 f24), (h8, aI cI 120 f25), (h2, aI cI 21 u73.2.1), (h3, aI cI 21 u73.2.2.1), (h1, aI cI 21 f18), (h0, .inr (9, [.int i0, .int i1, .ref k0, .ref k1, .ref k2, .ref k3, .ref k4, .int i2, .ref k5, .int i3, .ref k6, .ref k7, .ref k8, .int i4, .ref h1, .ref h5, .int u79.1, .ref h7, .ref h8, .ref h6, .int 2, .ref h4, .int u73.1, .ref h3, .ref h2, .int i8, .int i9, .int i10, .ref k9, .int i11, .ref k10, .ref k11, .ref k12, .ref k13, .ref k14, .ref k15, .ref k16, .ref k17, .ref k18, .ref k19, .ref k20, .ref k21, .ref k22, .ref k23, .ref k24, .int i12, .int i13, .int i14, .int i15, .int i16, .ref k25, .ref k26, .ref k27, .ref k28, .ref k29, .ref k30, .int i17, .ref k31])), (h4, aI cI 24 u73.2.2.2), (h5, aI cI 21 u79.2)] H := by rw [eg100]; exact hP
                    replace hD : va_D A [(h6, aI cI 120 g100), (h7, aI cI 2560 f24), (h8, aI cI 120 f25), (h2, aI cI 21 u73.2.1), (h3, aI cI 21 u73.2.2.1), (h1, aI cI 21 f18), (h0, .inr (9, [.int i0, .int i1, .ref k0, .ref k1, .ref k2, .ref k3, .ref k4, .int i2, .ref k5, .int i3, .ref k6, .ref k7, .ref k8, .int i4, .ref h1, .ref h5, .int u79.1, .ref h7, .ref h8, .ref h6, .int 2, .ref h4, .int u73.1, .ref h3, .ref h2, .int i8, .int i9, .int i10, .ref k9, .int i11, .ref k10, .ref k11, .ref k12, .ref k13, .ref k14, .ref k15, .ref k16, .ref k17, .ref k18, .ref k19, .ref k20, .ref k21, .ref k22, .ref k23, .ref k24, .int i12, .int i13, .int i14, .int i15, .int i16, .ref k25, .ref k26, .ref k27, .ref k28, .ref k29, .ref k30, .int i17, .ref k31])), (h4, aI cI 24 u73.2.2.2), (h5, aI cI 21 u79.2)] := by rw [eg100]; exact hD
                    clear eg100
                    refine lv_iconst (v := 0) hx hb dX9_begin_101 (by decide) ?_
                    refine lv_istore (lv' := [(4, .int 0), (3, .int r73), (2, .int t19_0), (1, .int t2_0), (0, .ref h0)]) hx hb dX9_begin_102 hl (by decide) rfl (fun ls hl => ?_)
                    replace hl : lv_has ls 5 [(4, .int 0), (3, .int r73), (0, .ref h0)] := lv_sub hl [0, 1, 4] rfl
                    obtain ⟨n4, hwp⟩ := hwp
                    have hs4 : ∀ (n4 : Nat) (H : Heap) (locs : List Loc) (ls : Array Slot) (t104_0 : Nat → Int32) (t104_1 : Nat → Int32) (t104_2 : Nat → Int32) (t104_3 : Int32), wLX9_begin_104 i0 i1 i2 i3 i4 i8 i9 i10 i11 i12 i13 i14 i15 i16 i17 r73 u73 u79 K  n4 t104_0 t104_1 t104_2 t104_3 → va_P G vwCl [(h6, aI cI 120 t104_0), (h7, aI cI 2560 t104_1), (h8, aI cI 120 t104_2), (h2, aI cI 21 u73.2.1), (h3, aI cI 21 u73.2.2.1), (h1, aI cI 21 f18), (h0, .inr (9, [.int i0, .int i1, .ref k0, .ref k1, .ref k2, .ref k3, .ref k4, .int i2, .ref k5, .int i3, .ref k6, .ref k7, .ref k8, .int i4, .ref h1, .ref h5, .int u79.1, .ref h7, .ref h8, .ref h6, .int 2, .ref h4, .int u73.1, .ref h3, .ref h2, .int i8, .int i9, .int i10, .ref k9, .int i11, .ref k10, .ref k11, .ref k12, .ref k13, .ref k14, .ref k15, .ref k16, .ref k17, .ref k18, .ref k19, .ref k20, .ref k21, .ref k22, .ref k23, .ref k24, .int i12, .int i13, .int i14, .int i15, .int i16, .ref k25, .ref k26, .ref k27, .ref k28, .ref k29, .ref k30, .int i17, .ref k31])), (h4, aI cI 24 u73.2.2.2), (h5, aI cI 21 u79.2)] H → va_D A [(h6, aI cI 120 t104_0), (h7, aI cI 2560 t104_1), (h8, aI cI 120 t104_2), (h2, aI cI 21 u73.2.1), (h3, aI cI 21 u73.2.2.1), (h1, aI cI 21 f18), (h0, .inr (9, [.int i0, .int i1, .ref k0, .ref k1, .ref k2, .ref k3, .ref k4, .int i2, .ref k5, .int i3, .ref k6, .ref k7, .ref k8, .int i4, .ref h1, .ref h5, .int u79.1, .ref h7, .ref h8, .ref h6, .int 2, .ref h4, .int u73.1, .ref h3, .ref h2, .int i8, .int i9, .int i10, .ref k9, .int i11, .ref k10, .ref k11, .ref k12, .ref k13, .ref k14, .ref k15, .ref k16, .ref k17, .ref k18, .ref k19, .ref k20, .ref k21, .ref k22, .ref k23, .ref k24, .int i12, .int i13, .int i14, .int i15, .int i16, .ref k25, .ref k26, .ref k27, .ref k28, .ref k29, .ref k30, .int i17, .ref k31])), (h4, aI cI 24 u73.2.2.2), (h5, aI cI 21 u79.2)] → va_S A s.heap H locs → lv_has ls 5 [(4, .int t104_3), (3, .int r73), (0, .ref h0)] → W p l e ((headSpec (xw yX9_begin cX9_begin 5 (some .boolean)) { frames := 2, cells := 0, slots := 0, locals := 54 }).room) s m ([.ref h0] : List Value).toArray below meth c H locs 0 0 QQ (F0 m 104 ls []) := by
                      intro n4
                      induction n4 with
                      | zero => intro H locs ls t104_0 t104_1 t104_2 t104_3 hwp; exact False.elim hwp
                      | succ n4 ih4 =>
                        intro H locs ls t104_0 t104_1 t104_2 t104_3 hwp hP hD hS hl
                        rw [wLX9_begin_104] at hwp
                        refine lv_iload hx hb dX9_begin_104 (lv_at hl 0 rfl) ?_
                        refine lv_aload_n hx hb dX9_begin_106 rfl (lv_at hl 2 rfl) ?_
                        refine va_get (D := G) (ci := 9) (v := .int u73.1) (C := RX9) (T := TX9) (N := 58) hx hb hts xinX9 hown hK hP 6 rfl rfl 22 (by decide) (hts _ wo_463) (fun _ h9 => h9) rfl dX9_begin_107 ?_
                        refine lv_icmp_ge (tgt := 154) hx hb dX9_begin_110 (by decide) (fun c110 => ?_) (fun c110 => ?_)
                        · replace hwp := hwp.1 c110
                          refine lv_iload_n hx hb dX9_begin_154 rfl (lv_at hl 1 rfl) ?_
                          obtain ⟨hi, hwp⟩ := hwp
                          have hP9 : va_P G vwCl [(h0, .inr (9, [.int i0, .int i1, .ref k0, .ref k1, .ref k2, .ref k3, .ref k4, .int i2, .ref k5, .int i3, .ref k6, .ref k7, .ref k8, .int i4, .ref h1, .ref h5, .int u79.1, .ref h7, .ref h8, .ref h6, .int 2, .ref h4, .int u73.1, .ref h3, .ref h2, .int i8, .int i9, .int i10, .ref k9, .int i11, .ref k10, .ref k11, .ref k12, .ref k13, .ref k14, .ref k15, .ref k16, .ref k17, .ref k18, .ref k19, .ref k20, .ref k21, .ref k22, .ref k23, .ref k24, .int i12, .int i13, .int i14, .int i15, .int i16, .ref k25, .ref k26, .ref k27, .ref k28, .ref k29, .ref k30, .int i17, .ref k31])), (h1, aI cI 21 f18), (h2, aI cI 21 u73.2.1), (h3, aI cI 21 u73.2.2.1), (h4, aI cI 24 u73.2.2.2), (h5, aI cI 21 u79.2), (h6, aI cI 120 t104_0), (h7, aI cI 2560 t104_1), (h8, aI cI 120 t104_2)] H := hP.sub [6, 5, 3, 4, 7, 8, 0, 1, 2] rfl
                          have hD9 : va_D A [(h0, .inr (9, [.int i0, .int i1, .ref k0, .ref k1, .ref k2, .ref k3, .ref k4, .int i2, .ref k5, .int i3, .ref k6, .ref k7, .ref k8, .int i4, .ref h1, .ref h5, .int u79.1, .ref h7, .ref h8, .ref h6, .int 2, .ref h4, .int u73.1, .ref h3, .ref h2, .int i8, .int i9, .int i10, .ref k9, .int i11, .ref k10, .ref k11, .ref k12, .ref k13, .ref k14, .ref k15, .ref k16, .ref k17, .ref k18, .ref k19, .ref k20, .ref k21, .ref k22, .ref k23, .ref k24, .int i12, .int i13, .int i14, .int i15, .int i16, .ref k25, .ref k26, .ref k27, .ref k28, .ref k29, .ref k30, .int i17, .ref k31])), (h1, aI cI 21 f18), (h2, aI cI 21 u73.2.1), (h3, aI cI 21 u73.2.2.1), (h4, aI cI 24 u73.2.2.2), (h5, aI cI 21 u79.2), (h6, aI cI 120 t104_0), (h7, aI cI 2560 t104_1), (h8, aI cI 120 t104_2)] := hD.sub [6, 5, 3, 4, 7, 8, 0, 1, 2] (by decide) rfl
                          rw [← hQQ]
                          exact W.zret (v := r73) hx hb hr hi (fun t ht hW => ⟨⟨_, (u79.1, (2 : Int32), u73.1, u73.2.1, u73.2.2.1, u73.2.2.2, u79.2, t104_0, t104_1, t104_2), rfl, hwp, by rw [ht]; exact hP9, hD9⟩, hS.F ht⟩) hS.2.2 dX9_begin_155
                        · replace hwp := hwp.2 c110
                          refine lv_aload_n hx hb dX9_begin_113 rfl (lv_at hl 2 rfl) ?_
                          refine lv_iconst (v := 0) hx hb dX9_begin_114 (by decide) ?_
                          refine lv_iload hx hb dX9_begin_115 (lv_at hl 0 rfl) ?_
                          refine lv_aload_n hx hb dX9_begin_117 rfl (lv_at hl 2 rfl) ?_
                          refine va_get (D := G) (ci := 9) (v := .ref h4) (C := RX9) (T := TX9) (N := 58) hx hb hts xinX9 hown hK hP 6 rfl rfl 21 (by decide) (hts _ wo_464) (fun _ h9 => h9) rfl dX9_begin_118 ?_
                          refine lv_iload hx hb dX9_begin_121 (lv_at hl 0 rfl) ?_
                          obtain ⟨hi, hwp⟩ := hwp
                          refine va_iald hx hb hK hP 7 0 rfl rfl hi dX9_begin_123 ?_
                          refine xcv (wr := [(h2, aI cI 21 u73.2.1), (h3, aI cI 21 u73.2.2.1), (h1, aI cI 21 f18), (h4, aI cI 24 u73.2.2.2), (h5, aI cI 21 u79.2)]) (va_runV (As := [.int 0, .int t104_3, .int (u73.2.2.2 (Int32.toNatClampNeg t104_3))]) (rest := []) ⟨hx, hb, hml, hown, hts⟩ (zX9_putFace l G cI cJ cZ h0 h7 h8 h6 k0 k1 k2 k3 k4 k5 k6 k7 k8 h1 h5 h4 h3 h2 k9 k10 k11 k12 k13 k14 k15 k16 k17 k18 k19 k20 k21 k22 k23 k24 k25 k26 k27 k28 k29 k30 k31 H.size i0 i1 i2 i3 i4 (u79.1) (2 : Int32) (u73.1) i8 i9 i10 i11 i12 i13 i14 i15 i16 i17 t104_1 t104_2 t104_0 (0 : Int32) t104_3 (u73.2.2.2 (Int32.toNatClampNeg t104_3)) _ hwp) (cwV 3 hts (xgoodV wo_486 wo_487 wo_488 wo_489 wo_454) rfl rfl rfl (by decide +kernel) ⟨Nat.le_of_ble_eq_true rfl, Nat.le_of_ble_eq_true rfl⟩) (xPreV (q := (RX9, TX9, 58)) (q0 := 6) hK hN hP hD [6, 1, 2, 0] (by decide) rfl rfl rfl) rfl rfl hl.1 rfl (lv_room (Nat.le_of_ble_eq_true rfl)) dX9_begin_124 ⟨Nat.le_of_ble_eq_true rfl, Nat.le_of_ble_eq_true rfl⟩) hP hD hS hA [6, 1, 2, 0] [3, 4, 5, 7, 8] rfl rfl (by decide) (by decide) (fun u124 H locs hwp hP hD hS => ?_)
                          replace hP : va_P G vwCl [(h2, aI cI 21 u73.2.1), (h3, aI cI 21 u73.2.2.1), (h1, aI cI 21 f18), (h4, aI cI 24 u73.2.2.2), (h5, aI cI 21 u79.2), (h0, .inr (9, [.int i0, .int i1, .ref k0, .ref k1, .ref k2, .ref k3, .ref k4, .int i2, .ref k5, .int i3, .ref k6, .ref k7, .ref k8, .int i4, .ref h1, .ref h5, .int u79.1, .ref h7, .ref h8, .ref h6, .int 2, .ref h4, .int u73.1, .ref h3, .ref h2, .int i8, .int i9, .int i10, .ref k9, .int i11, .ref k10, .ref k11, .ref k12, .ref k13, .ref k14, .ref k15, .ref k16, .ref k17, .ref k18, .ref k19, .ref k20, .ref k21, .ref k22, .ref k23, .ref k24, .int i12, .int i13, .int i14, .int i15, .int i16, .ref k25, .ref k26, .ref k27, .ref k28, .ref k29, .ref k30, .int i17, .ref k31])), (h7, aI cI 2560 u124.1), (h8, aI cI 120 u124.2.1), (h6, aI cI 120 u124.2.2)] H := hP
                          replace hD : va_D A [(h2, aI cI 21 u73.2.1), (h3, aI cI 21 u73.2.2.1), (h1, aI cI 21 f18), (h4, aI cI 24 u73.2.2.2), (h5, aI cI 21 u79.2), (h0, .inr (9, [.int i0, .int i1, .ref k0, .ref k1, .ref k2, .ref k3, .ref k4, .int i2, .ref k5, .int i3, .ref k6, .ref k7, .ref k8, .int i4, .ref h1, .ref h5, .int u79.1, .ref h7, .ref h8, .ref h6, .int 2, .ref h4, .int u73.1, .ref h3, .ref h2, .int i8, .int i9, .int i10, .ref k9, .int i11, .ref k10, .ref k11, .ref k12, .ref k13, .ref k14, .ref k15, .ref k16, .ref k17, .ref k18, .ref k19, .ref k20, .ref k21, .ref k22, .ref k23, .ref k24, .int i12, .int i13, .int i14, .int i15, .int i16, .ref k25, .ref k26, .ref k27, .ref k28, .ref k29, .ref k30, .int i17, .ref k31])), (h7, aI cI 2560 u124.1), (h8, aI cI 120 u124.2.1), (h6, aI cI 120 u124.2.2)] := hD
                          refine lv_aload_n hx hb dX9_begin_127 rfl (lv_at hl 2 rfl) ?_
                          refine lv_iconst (v := 1) hx hb dX9_begin_128 (by decide) ?_
                          refine lv_iload hx hb dX9_begin_129 (lv_at hl 0 rfl) ?_
                          refine lv_aload_n hx hb dX9_begin_131 rfl (lv_at hl 2 rfl) ?_
                          refine va_get (D := G) (ci := 9) (v := .ref h4) (C := RX9) (T := TX9) (N := 58) hx hb hts xinX9 hown hK hP 5 rfl rfl 21 (by decide) (hts _ wo_464) (fun _ h9 => h9) rfl dX9_begin_132 ?_
                          refine lv_aload_n hx hb dX9_begin_135 rfl (lv_at hl 2 rfl) ?_
                          refine va_get (D := G) (ci := 9) (v := .int u73.1) (C := RX9) (T := TX9) (N := 58) hx hb hts xinX9 hown hK hP 5 rfl rfl 22 (by decide) (hts _ wo_463) (fun _ h9 => h9) rfl dX9_begin_136 ?_
                          refine lv_iconst (v := 1) hx hb dX9_begin_139 (by decide) ?_
                          refine lv_isub hx hb dX9_begin_140 ?_
                          refine lv_iload hx hb dX9_begin_141 (lv_at hl 0 rfl) ?_
                          refine lv_isub hx hb dX9_begin_143 ?_
                          obtain ⟨hi, hwp⟩ := hwp
                          refine va_iald hx hb hK hP 3 0 rfl rfl hi dX9_begin_144 ?_
                          refine xcv (wr := [(h2, aI cI 21 u73.2.1), (h3, aI cI 21 u73.2.2.1), (h1, aI cI 21 f18), (h4, aI cI 24 u73.2.2.2), (h5, aI cI 21 u79.2)]) (va_runV (As := [.int 1, .int t104_3, .int (u73.2.2.2 (Int32.toNatClampNeg ((u73.1 - 1) - t104_3)))]) (rest := []) ⟨hx, hb, hml, hown, hts⟩ (zX9_putFace l G cI cJ cZ h0 h7 h8 h6 k0 k1 k2 k3 k4 k5 k6 k7 k8 h1 h5 h4 h3 h2 k9 k10 k11 k12 k13 k14 k15 k16 k17 k18 k19 k20 k21 k22 k23 k24 k25 k26 k27 k28 k29 k30 k31 H.size i0 i1 i2 i3 i4 (u79.1) (2 : Int32) (u73.1) i8 i9 i10 i11 i12 i13 i14 i15 i16 i17 (u124.1) (u124.2.1) (u124.2.2) (1 : Int32) t104_3 (u73.2.2.2 (Int32.toNatClampNeg ((u73.1 - 1) - t104_3))) _ hwp) (cwV 3 hts (xgoodV wo_486 wo_487 wo_488 wo_489 wo_454) rfl rfl rfl (by decide +kernel) ⟨Nat.le_of_ble_eq_true rfl, Nat.le_of_ble_eq_true rfl⟩) (xPreV (q := (RX9, TX9, 58)) (q0 := 5) hK hN hP hD [5, 6, 7, 8] (by decide) rfl rfl rfl) rfl rfl hl.1 rfl (lv_room (Nat.le_of_ble_eq_true rfl)) dX9_begin_145 ⟨Nat.le_of_ble_eq_true rfl, Nat.le_of_ble_eq_true rfl⟩) hP hD hS hA [5, 6, 7, 8] [0, 1, 2, 3, 4] rfl rfl (by decide) (by decide) (fun u145 H locs hwp hP hD hS => ?_)
                          replace hP : va_P G vwCl [(h2, aI cI 21 u73.2.1), (h3, aI cI 21 u73.2.2.1), (h1, aI cI 21 f18), (h4, aI cI 24 u73.2.2.2), (h5, aI cI 21 u79.2), (h0, .inr (9, [.int i0, .int i1, .ref k0, .ref k1, .ref k2, .ref k3, .ref k4, .int i2, .ref k5, .int i3, .ref k6, .ref k7, .ref k8, .int i4, .ref h1, .ref h5, .int u79.1, .ref h7, .ref h8, .ref h6, .int 2, .ref h4, .int u73.1, .ref h3, .ref h2, .int i8, .int i9, .int i10, .ref k9, .int i11, .ref k10, .ref k11, .ref k12, .ref k13, .ref k14, .ref k15, .ref k16, .ref k17, .ref k18, .ref k19, .ref k20, .ref k21, .ref k22, .ref k23, .ref k24, .int i12, .int i13, .int i14, .int i15, .int i16, .ref k25, .ref k26, .ref k27, .ref k28, .ref k29, .ref k30, .int i17, .ref k31])), (h7, aI cI 2560 u145.1), (h8, aI cI 120 u145.2.1), (h6, aI cI 120 u145.2.2)] H := hP
                          replace hD : va_D A [(h2, aI cI 21 u73.2.1), (h3, aI cI 21 u73.2.2.1), (h1, aI cI 21 f18), (h4, aI cI 24 u73.2.2.2), (h5, aI cI 21 u79.2), (h0, .inr (9, [.int i0, .int i1, .ref k0, .ref k1, .ref k2, .ref k3, .ref k4, .int i2, .ref k5, .int i3, .ref k6, .ref k7, .ref k8, .int i4, .ref h1, .ref h5, .int u79.1, .ref h7, .ref h8, .ref h6, .int 2, .ref h4, .int u73.1, .ref h3, .ref h2, .int i8, .int i9, .int i10, .ref k9, .int i11, .ref k10, .ref k11, .ref k12, .ref k13, .ref k14, .ref k15, .ref k16, .ref k17, .ref k18, .ref k19, .ref k20, .ref k21, .ref k22, .ref k23, .ref k24, .int i12, .int i13, .int i14, .int i15, .int i16, .ref k25, .ref k26, .ref k27, .ref k28, .ref k29, .ref k30, .int i17, .ref k31])), (h7, aI cI 2560 u145.1), (h8, aI cI 120 u145.2.1), (h6, aI cI 120 u145.2.2)] := hD
                          refine lv_iinc (v := (t104_3 + 1)) (lv' := [(4, .int (t104_3 + 1)), (3, .int r73), (0, .ref h0)]) hx hb dX9_begin_148 hl (k := 0) rfl rfl (by decide) rfl (fun ls hl => ?_)
                          refine lv_goto (tgt := 104) hx hb dX9_begin_151 (by decide) ?_
                          replace hl : lv_has ls 5 [(4, .int (t104_3 + 1)), (3, .int r73), (0, .ref h0)] := lv_sub hl [0, 1, 2] rfl
                          replace hP : va_P G vwCl [(h6, aI cI 120 u145.2.2), (h7, aI cI 2560 u145.1), (h8, aI cI 120 u145.2.1), (h2, aI cI 21 u73.2.1), (h3, aI cI 21 u73.2.2.1), (h1, aI cI 21 f18), (h0, .inr (9, [.int i0, .int i1, .ref k0, .ref k1, .ref k2, .ref k3, .ref k4, .int i2, .ref k5, .int i3, .ref k6, .ref k7, .ref k8, .int i4, .ref h1, .ref h5, .int u79.1, .ref h7, .ref h8, .ref h6, .int 2, .ref h4, .int u73.1, .ref h3, .ref h2, .int i8, .int i9, .int i10, .ref k9, .int i11, .ref k10, .ref k11, .ref k12, .ref k13, .ref k14, .ref k15, .ref k16, .ref k17, .ref k18, .ref k19, .ref k20, .ref k21, .ref k22, .ref k23, .ref k24, .int i12, .int i13, .int i14, .int i15, .int i16, .ref k25, .ref k26, .ref k27, .ref k28, .ref k29, .ref k30, .int i17, .ref k31])), (h4, aI cI 24 u73.2.2.2), (h5, aI cI 21 u79.2)] H := hP.sub [8, 6, 7, 0, 1, 2, 5, 3, 4] rfl
                          replace hD : va_D A [(h6, aI cI 120 u145.2.2), (h7, aI cI 2560 u145.1), (h8, aI cI 120 u145.2.1), (h2, aI cI 21 u73.2.1), (h3, aI cI 21 u73.2.2.1), (h1, aI cI 21 f18), (h0, .inr (9, [.int i0, .int i1, .ref k0, .ref k1, .ref k2, .ref k3, .ref k4, .int i2, .ref k5, .int i3, .ref k6, .ref k7, .ref k8, .int i4, .ref h1, .ref h5, .int u79.1, .ref h7, .ref h8, .ref h6, .int 2, .ref h4, .int u73.1, .ref h3, .ref h2, .int i8, .int i9, .int i10, .ref k9, .int i11, .ref k10, .ref k11, .ref k12, .ref k13, .ref k14, .ref k15, .ref k16, .ref k17, .ref k18, .ref k19, .ref k20, .ref k21, .ref k22, .ref k23, .ref k24, .int i12, .int i13, .int i14, .int i15, .int i16, .ref k25, .ref k26, .ref k27, .ref k28, .ref k29, .ref k30, .int i17, .ref k31])), (h4, aI cI 24 u73.2.2.2), (h5, aI cI 21 u79.2)] := hD.sub [8, 6, 7, 0, 1, 2, 5, 3, 4] (by decide) rfl
                          exact ih4 H locs ls (u145.2.2) (u145.1) (u145.2.1) (t104_3 + 1) hwp hP hD hS hl
                    exact hs4 n4 H locs ls g100 f24 f25 0 hwp hP hD hS hl
                  · replace hwp := hwp.2 c50
                    refine lv_aload_n hx hb dX9_begin_53 rfl (lv_at hl 3 rfl) ?_
                    refine va_get (D := G) (ci := 9) (v := .ref h5) (C := RX9) (T := TX9) (N := 58) hx hb hts xinX9 hown hK hP 0 rfl rfl 15 (by decide) (hts _ wo_472) (fun _ h9 => h9) rfl dX9_begin_54 ?_
                    refine lv_iload_n hx hb dX9_begin_57 rfl (lv_at hl 0 rfl) ?_
                    refine lv_iconst (v := 0) hx hb dX9_begin_58 (by decide) ?_
                    obtain ⟨hi, hwp⟩ := hwp
                    refine va_iast hx hb hK hP hD hS 5 0 rfl rfl hi dX9_begin_59 (fun H locs hP hD hS => ?_)
                    obtain ⟨g59, eg59⟩ : ∃ z, z = upd t45_0 (Int32.toNatClampNeg t45_1) 0 := ⟨_, rfl⟩
                    replace hwp := hwp g59 eg59
                    replace hP : va_P G vwCl [(h0, .inr (9, [.int i0, .int i1, .ref k0, .ref k1, .ref k2, .ref k3, .ref k4, .int i2, .ref k5, .int i3, .ref k6, .ref k7, .ref k8, .int i4, .ref h1, .ref h5, .int 0, .ref h7, .ref h8, .ref h6, .int i6, .ref h4, .int i7, .ref h3, .ref h2, .int i8, .int i9, .int i10, .ref k9, .int i11, .ref k10, .ref k11, .ref k12, .ref k13, .ref k14, .ref k15, .ref k16, .ref k17, .ref k18, .ref k19, .ref k20, .ref k21, .ref k22, .ref k23, .ref k24, .int i12, .int i13, .int i14, .int i15, .int i16, .ref k25, .ref k26, .ref k27, .ref k28, .ref k29, .ref k30, .int i17, .ref k31])), (h1, aI cI 21 f18), (h2, aI cI 21 f19), (h3, aI cI 21 f20), (h4, aI cI 24 f21), (h5, aI cI 21 g59), (h6, aI cI 120 f23), (h7, aI cI 2560 f24), (h8, aI cI 120 f25)] H := by rw [eg59]; exact hP
                    replace hD : va_D A [(h0, .inr (9, [.int i0, .int i1, .ref k0, .ref k1, .ref k2, .ref k3, .ref k4, .int i2, .ref k5, .int i3, .ref k6, .ref k7, .ref k8, .int i4, .ref h1, .ref h5, .int 0, .ref h7, .ref h8, .ref h6, .int i6, .ref h4, .int i7, .ref h3, .ref h2, .int i8, .int i9, .int i10, .ref k9, .int i11, .ref k10, .ref k11, .ref k12, .ref k13, .ref k14, .ref k15, .ref k16, .ref k17, .ref k18, .ref k19, .ref k20, .ref k21, .ref k22, .ref k23, .ref k24, .int i12, .int i13, .int i14, .int i15, .int i16, .ref k25, .ref k26, .ref k27, .ref k28, .ref k29, .ref k30, .int i17, .ref k31])), (h1, aI cI 21 f18), (h2, aI cI 21 f19), (h3, aI cI 21 f20), (h4, aI cI 24 f21), (h5, aI cI 21 g59), (h6, aI cI 120 f23), (h7, aI cI 2560 f24), (h8, aI cI 120 f25)] := by rw [eg59]; exact hD
                    clear eg59
                    refine lv_iinc (v := (t45_1 + 1)) (lv' := [(3, .int (t45_1 + 1)), (2, .int t19_0), (1, .int t2_0), (0, .ref h0)]) hx hb dX9_begin_60 hl (k := 0) rfl rfl (by decide) rfl (fun ls hl => ?_)
                    refine lv_goto (tgt := 45) hx hb dX9_begin_63 (by decide) ?_
                    replace hl : lv_has ls 5 [(3, .int (t45_1 + 1)), (2, .int t19_0), (1, .int t2_0), (0, .ref h0)] := lv_sub hl [0, 1, 2, 3] rfl
                    exact ih3 H locs ls g59 (t45_1 + 1) hwp hP hD hS hl
              exact hs3 n3 H locs ls f22 0 hwp hP hD hS hl
            · replace hwp := hwp.2 c29
              refine lv_iinc (v := (t19_0 + 1)) (lv' := [(2, .int (t19_0 + 1)), (1, .int t2_0), (0, .ref h0)]) hx hb dX9_begin_32 hl (k := 0) rfl rfl (by decide) rfl (fun ls hl => ?_)
              refine lv_goto (tgt := 19) hx hb dX9_begin_35 (by decide) ?_
              replace hl : lv_has ls 5 [(2, .int (t19_0 + 1)), (1, .int t2_0), (0, .ref h0)] := lv_sub hl [0, 1, 2] rfl
              exact ih2 H locs ls (t19_0 + 1) hwp hP hD hS hl
        exact hs2 n2 H locs ls 0 hwp hP hD hS hl
      · replace hwp := hwp.2 c8
        refine lv_iinc (v := (t2_0 + 1)) (lv' := [(1, .int (t2_0 + 1)), (0, .ref h0)]) hx hb dX9_begin_11 hl (k := 0) rfl rfl (by decide) rfl (fun ls hl => ?_)
        refine lv_goto (tgt := 2) hx hb dX9_begin_14 (by decide) ?_
        replace hl : lv_has ls 5 [(1, .int (t2_0 + 1)), (0, .ref h0)] := lv_sub hl [0, 1] rfl
        exact ih1 H locs ls (t2_0 + 1) hwp hP hD hS hl
  exact hs1 n1 H locs ls 0 hwp hP hD hS hl
def wLX9_isWhole_4 (i3 : Int32) (f18 : Nat → Int32) (f19 : Nat → Int32) (K : Int32 → Unit → Prop)  : Nat → Int32 → Int32 → Prop
  | 0, _, _ => False
  | n4 + 1, t4_0, t4_1 => ((i3 ≤ t4_1 → (narrow .boolean (.int t4_0) = .int t4_0 ∧ K t4_0 ())) ∧ (¬ i3 ≤ t4_1 → ((t4_0 = 0 → (wLX9_isWhole_4 i3 f18 f19 K  n4) 0 (t4_1 + 1)) ∧ (¬ t4_0 = 0 → (vp_in t4_1 21 ∧ (vp_in t4_1 21 ∧ ((¬ (f18 (Int32.toNatClampNeg t4_1)) = (f19 (Int32.toNatClampNeg t4_1)) → (wLX9_isWhole_4 i3 f18 f19 K  n4) 0 (t4_1 + 1)) ∧ ((f18 (Int32.toNatClampNeg t4_1)) = (f19 (Int32.toNatClampNeg t4_1)) → (wLX9_isWhole_4 i3 f18 f19 K  n4) 1 (t4_1 + 1)))))))))
def wX9_isWhole (i0 : Int32) (i1 : Int32) (i2 : Int32) (i3 : Int32) (i4 : Int32) (i5 : Int32) (i6 : Int32) (i7 : Int32) (i8 : Int32) (i9 : Int32) (i10 : Int32) (i11 : Int32) (i12 : Int32) (i13 : Int32) (i14 : Int32) (i15 : Int32) (i16 : Int32) (i17 : Int32) (f18 : Nat → Int32) (f19 : Nat → Int32) (K : Int32 → Unit → Prop) : Prop := (∃ n4, wLX9_isWhole_4 i3 f18 f19 K  n4 1 0)
set_option maxHeartbeats 4000000 in
set_option maxRecDepth 100000 in
theorem zX9_isWhole (l : Launch) (G : va_G) (cI cJ cZ : ClassId) (h0 h1 h2 k0 k1 k2 k3 k4 k5 k6 k7 k8 k9 k10 k11 k12 k13 k14 k15 k16 k17 k18 k19 k20 k21 k22 k23 k24 k25 k26 k27 k28 k29 k30 k31 k32 k33 k34 k35 k36 k37 sz : Nat) (i0 : Int32) (i1 : Int32) (i2 : Int32) (i3 : Int32) (i4 : Int32) (i5 : Int32) (i6 : Int32) (i7 : Int32) (i8 : Int32) (i9 : Int32) (i10 : Int32) (i11 : Int32) (i12 : Int32) (i13 : Int32) (i14 : Int32) (i15 : Int32) (i16 : Int32) (i17 : Int32) (f18 : Nat → Int32) (f19 : Nat → Int32) (K : Int32 → Unit → Prop) (hwp : wX9_isWhole i0 i1 i2 i3 i4 i5 i6 i7 i8 i9 i10 i11 i12 i13 i14 i15 i16 i17 f18 f19 K) : Met l yX9_isWhole (xw yX9_isWhole cX9_isWhole 3 (some .boolean)) ({ frames := 0, cells := 0, slots := 0, locals := 0 }) (xPc G cI cJ cZ [.ref h0] [(h0, .inr (9, [.int i0, .int i1, .ref k0, .ref k1, .ref k2, .ref k3, .ref k4, .int i2, .ref k5, .int i3, .ref k6, .ref k7, .ref k8, .int i4, .ref h2, .ref h1, .int i5, .ref k9, .ref k10, .ref k11, .int i6, .ref k12, .int i7, .ref k13, .ref k14, .int i8, .int i9, .int i10, .ref k15, .int i11, .ref k16, .ref k17, .ref k18, .ref k19, .ref k20, .ref k21, .ref k22, .ref k23, .ref k24, .ref k25, .ref k26, .ref k27, .ref k28, .ref k29, .ref k30, .int i12, .int i13, .int i14, .int i15, .int i16, .ref k31, .ref k32, .ref k33, .ref k34, .ref k35, .ref k36, .int i17, .ref k37])), (h1, aI cI 21 f18), (h2, aI cI 21 f19)] sz) (va_Qi (fun (r : Int32) (u : Unit) => K r u) (fun (u : Unit) t => xB G (va_A [(h0, .inr (9, [.int i0, .int i1, .ref k0, .ref k1, .ref k2, .ref k3, .ref k4, .int i2, .ref k5, .int i3, .ref k6, .ref k7, .ref k8, .int i4, .ref h2, .ref h1, .int i5, .ref k9, .ref k10, .ref k11, .int i6, .ref k12, .int i7, .ref k13, .ref k14, .int i8, .int i9, .int i10, .ref k15, .int i11, .ref k16, .ref k17, .ref k18, .ref k19, .ref k20, .ref k21, .ref k22, .ref k23, .ref k24, .ref k25, .ref k26, .ref k27, .ref k28, .ref k29, .ref k30, .int i12, .int i13, .int i14, .int i15, .int i16, .ref k31, .ref k32, .ref k33, .ref k34, .ref k35, .ref k36, .int i17, .ref k37])), (h1, aI cI 21 f18), (h2, aI cI 21 f19)] sz) [(h0, .inr (9, [.int i0, .int i1, .ref k0, .ref k1, .ref k2, .ref k3, .ref k4, .int i2, .ref k5, .int i3, .ref k6, .ref k7, .ref k8, .int i4, .ref h2, .ref h1, .int i5, .ref k9, .ref k10, .ref k11, .int i6, .ref k12, .int i7, .ref k13, .ref k14, .int i8, .int i9, .int i10, .ref k15, .int i11, .ref k16, .ref k17, .ref k18, .ref k19, .ref k20, .ref k21, .ref k22, .ref k23, .ref k24, .ref k25, .ref k26, .ref k27, .ref k28, .ref k29, .ref k30, .int i12, .int i13, .int i14, .int i15, .int i16, .ref k31, .ref k32, .ref k33, .ref k34, .ref k35, .ref k36, .int i17, .ref k37])), (h1, aI cI 21 f18), (h2, aI cI 21 f19)] t) (va_A [(h0, .inr (9, [.int i0, .int i1, .ref k0, .ref k1, .ref k2, .ref k3, .ref k4, .int i2, .ref k5, .int i3, .ref k6, .ref k7, .ref k8, .int i4, .ref h2, .ref h1, .int i5, .ref k9, .ref k10, .ref k11, .int i6, .ref k12, .int i7, .ref k13, .ref k14, .int i8, .int i9, .int i10, .ref k15, .int i11, .ref k16, .ref k17, .ref k18, .ref k19, .ref k20, .ref k21, .ref k22, .ref k23, .ref k24, .ref k25, .ref k26, .ref k27, .ref k28, .ref k29, .ref k30, .int i12, .int i13, .int i14, .int i15, .int i16, .ref k31, .ref k32, .ref k33, .ref k34, .ref k35, .ref k36, .int i17, .ref k37])), (h1, aI cI 21 f18), (h2, aI cI 21 f19)] sz)) 0 0 (va_A [(h0, .inr (9, [.int i0, .int i1, .ref k0, .ref k1, .ref k2, .ref k3, .ref k4, .int i2, .ref k5, .int i3, .ref k6, .ref k7, .ref k8, .int i4, .ref h2, .ref h1, .int i5, .ref k9, .ref k10, .ref k11, .int i6, .ref k12, .int i7, .ref k13, .ref k14, .int i8, .int i9, .int i10, .ref k15, .int i11, .ref k16, .ref k17, .ref k18, .ref k19, .ref k20, .ref k21, .ref k22, .ref k23, .ref k24, .ref k25, .ref k26, .ref k27, .ref k28, .ref k29, .ref k30, .int i12, .int i13, .int i14, .int i15, .int i16, .ref k31, .ref k32, .ref k33, .ref k34, .ref k35, .ref k36, .int i17, .ref k37])), (h1, aI cI 21 f18), (h2, aI cI 21 f19)] sz) := by
  refine Met.ofW (cc := cX9_isWhole) (maxL := 3) (ret := (some .boolean)) (by decide) rfl ?_
  intro p e s m args below meth c s₁ B hml hv
  obtain ⟨rfl, hsz, hP, hK, hD0, hN⟩ := hv
  have hx := B.exec
  have hb := B.bytes
  have hr := B.returns
  have hts : ∀ w ∈ xW, w.before _ s = true := fun w h => atoms_spec (ws := xw yX9_isWhole cX9_isWhole 3 (some .boolean)) B.pre w (List.mem_cons_of_mem _ h)
  have hown : s.vm.findClass RX9 = some m.cls := findClass_of_methodNamed B.named
  have hlocks := B.notSynchronized
  subst hsz
  have hD := hD0.self (sz := s.heap.size)
  clear hD0
  generalize hAe : va_A [(h0, .inr (9, [.int i0, .int i1, .ref k0, .ref k1, .ref k2, .ref k3, .ref k4, .int i2, .ref k5, .int i3, .ref k6, .ref k7, .ref k8, .int i4, .ref h2, .ref h1, .int i5, .ref k9, .ref k10, .ref k11, .int i6, .ref k12, .int i7, .ref k13, .ref k14, .int i8, .int i9, .int i10, .ref k15, .int i11, .ref k16, .ref k17, .ref k18, .ref k19, .ref k20, .ref k21, .ref k22, .ref k23, .ref k24, .ref k25, .ref k26, .ref k27, .ref k28, .ref k29, .ref k30, .int i12, .int i13, .int i14, .int i15, .int i16, .ref k31, .ref k32, .ref k33, .ref k34, .ref k35, .ref k36, .int i17, .ref k37])), (h1, aI cI 21 f18), (h2, aI cI 21 f19)] s.heap.size = A at hD ⊢
  have hA : ∀ q : Nat, s.heap.size ≤ q → A q := fun q h => by rw [← hAe]; exact Or.inr h
  clear hAe
  have hS : va_S A s.heap s.heap [] := va_S.rf
  replace hP : va_P G vwCl [(h0, .inr (9, [.int i0, .int i1, .ref k0, .ref k1, .ref k2, .ref k3, .ref k4, .int i2, .ref k5, .int i3, .ref k6, .ref k7, .ref k8, .int i4, .ref h2, .ref h1, .int i5, .ref k9, .ref k10, .ref k11, .int i6, .ref k12, .int i7, .ref k13, .ref k14, .int i8, .int i9, .int i10, .ref k15, .int i11, .ref k16, .ref k17, .ref k18, .ref k19, .ref k20, .ref k21, .ref k22, .ref k23, .ref k24, .ref k25, .ref k26, .ref k27, .ref k28, .ref k29, .ref k30, .int i12, .int i13, .int i14, .int i15, .int i16, .ref k31, .ref k32, .ref k33, .ref k34, .ref k35, .ref k36, .int i17, .ref k37])), (h1, aI cI 21 f18), (h2, aI cI 21 f19)] s.heap := hP
  have hl := lv_entry ([.ref h0]) (n := 3) (Nat.le_of_ble_eq_true rfl)
  rw [lg_entry_eq]
  generalize (lg_sl ([.ref h0]) ++ List.replicate (3 - (lg_sl ([.ref h0])).length) Slot.unset).toArray = ls at hl ⊢
  replace hl : lv_has ls 3 [(0, .ref h0)] := hl
  generalize hQQ : MQ below _ _ s 0 0 _ = QQ
  skip
  unfold wX9_isWhole at hwp
  refine lv_iconst (v := 1) hx hb dX9_isWhole_0 (by decide) ?_
  refine lv_istore_n (lv' := [(1, .int 1), (0, .ref h0)]) hx hb dX9_isWhole_1 rfl hl (by decide) rfl (fun ls hl => ?_)
  refine lv_iconst (v := 0) hx hb dX9_isWhole_2 (by decide) ?_
  refine lv_istore_n (lv' := [(2, .int 0), (1, .int 1), (0, .ref h0)]) hx hb dX9_isWhole_3 rfl hl (by decide) rfl (fun ls hl => ?_)
  refine xgen (Pp := fun H locs => W p l e _ s m _ below meth c H locs _ _ _ _) (fun H locs hP hD hS => ?_) hP hD hS
  replace hl : lv_has ls 3 [(2, .int 0), (1, .int 1), (0, .ref h0)] := lv_sub hl [0, 1, 2] rfl
  obtain ⟨n1, hwp⟩ := hwp
  have hs1 : ∀ (n1 : Nat) (H : Heap) (locs : List Loc) (ls : Array Slot) (t4_0 : Int32) (t4_1 : Int32), wLX9_isWhole_4 i3 f18 f19 K  n1 t4_0 t4_1 → va_P G vwCl [(h0, .inr (9, [.int i0, .int i1, .ref k0, .ref k1, .ref k2, .ref k3, .ref k4, .int i2, .ref k5, .int i3, .ref k6, .ref k7, .ref k8, .int i4, .ref h2, .ref h1, .int i5, .ref k9, .ref k10, .ref k11, .int i6, .ref k12, .int i7, .ref k13, .ref k14, .int i8, .int i9, .int i10, .ref k15, .int i11, .ref k16, .ref k17, .ref k18, .ref k19, .ref k20, .ref k21, .ref k22, .ref k23, .ref k24, .ref k25, .ref k26, .ref k27, .ref k28, .ref k29, .ref k30, .int i12, .int i13, .int i14, .int i15, .int i16, .ref k31, .ref k32, .ref k33, .ref k34, .ref k35, .ref k36, .int i17, .ref k37])), (h1, aI cI 21 f18), (h2, aI cI 21 f19)] H → va_D A [(h0, .inr (9, [.int i0, .int i1, .ref k0, .ref k1, .ref k2, .ref k3, .ref k4, .int i2, .ref k5, .int i3, .ref k6, .ref k7, .ref k8, .int i4, .ref h2, .ref h1, .int i5, .ref k9, .ref k10, .ref k11, .int i6, .ref k12, .int i7, .ref k13, .ref k14, .int i8, .int i9, .int i10, .ref k15, .int i11, .ref k16, .ref k17, .ref k18, .ref k19, .ref k20, .ref k21, .ref k22, .ref k23, .ref k24, .ref k25, .ref k26, .ref k27, .ref k28, .ref k29, .ref k30, .int i12, .int i13, .int i14, .int i15, .int i16, .ref k31, .ref k32, .ref k33, .ref k34, .ref k35, .ref k36, .int i17, .ref k37])), (h1, aI cI 21 f18), (h2, aI cI 21 f19)] → va_S A s.heap H locs → lv_has ls 3 [(2, .int t4_1), (1, .int t4_0), (0, .ref h0)] → W p l e ((headSpec (xw yX9_isWhole cX9_isWhole 3 (some .boolean)) { frames := 0, cells := 0, slots := 0, locals := 0 }).room) s m ([.ref h0] : List Value).toArray below meth c H locs 0 0 QQ (F0 m 4 ls []) := by
    intro n1
    induction n1 with
    | zero => intro H locs ls t4_0 t4_1 hwp; exact False.elim hwp
    | succ n1 ih1 =>
      intro H locs ls t4_0 t4_1 hwp hP hD hS hl
      rw [wLX9_isWhole_4] at hwp
      refine lv_iload_n hx hb dX9_isWhole_4 rfl (lv_at hl 0 rfl) ?_
      refine lv_aload_n hx hb dX9_isWhole_5 rfl (lv_at hl 2 rfl) ?_
      refine va_get (D := G) (ci := 9) (v := .int i3) (C := RX9) (T := TX9) (N := 58) hx hb hts xinX9 hown hK hP 0 rfl rfl 9 (by decide) (hts _ wo_444) (fun _ h9 => h9) rfl dX9_isWhole_6 ?_
      refine lv_icmp_ge (tgt := 43) hx hb dX9_isWhole_9 (by decide) (fun c9 => ?_) (fun c9 => ?_)
      · replace hwp := hwp.1 c9
        refine lv_iload_n hx hb dX9_isWhole_43 rfl (lv_at hl 1 rfl) ?_
        obtain ⟨hi, hwp⟩ := hwp
        have hP9 : va_P G vwCl [(h0, .inr (9, [.int i0, .int i1, .ref k0, .ref k1, .ref k2, .ref k3, .ref k4, .int i2, .ref k5, .int i3, .ref k6, .ref k7, .ref k8, .int i4, .ref h2, .ref h1, .int i5, .ref k9, .ref k10, .ref k11, .int i6, .ref k12, .int i7, .ref k13, .ref k14, .int i8, .int i9, .int i10, .ref k15, .int i11, .ref k16, .ref k17, .ref k18, .ref k19, .ref k20, .ref k21, .ref k22, .ref k23, .ref k24, .ref k25, .ref k26, .ref k27, .ref k28, .ref k29, .ref k30, .int i12, .int i13, .int i14, .int i15, .int i16, .ref k31, .ref k32, .ref k33, .ref k34, .ref k35, .ref k36, .int i17, .ref k37])), (h1, aI cI 21 f18), (h2, aI cI 21 f19)] H := hP.sub [0, 1, 2] rfl
        have hD9 : va_D A [(h0, .inr (9, [.int i0, .int i1, .ref k0, .ref k1, .ref k2, .ref k3, .ref k4, .int i2, .ref k5, .int i3, .ref k6, .ref k7, .ref k8, .int i4, .ref h2, .ref h1, .int i5, .ref k9, .ref k10, .ref k11, .int i6, .ref k12, .int i7, .ref k13, .ref k14, .int i8, .int i9, .int i10, .ref k15, .int i11, .ref k16, .ref k17, .ref k18, .ref k19, .ref k20, .ref k21, .ref k22, .ref k23, .ref k24, .ref k25, .ref k26, .ref k27, .ref k28, .ref k29, .ref k30, .int i12, .int i13, .int i14, .int i15, .int i16, .ref k31, .ref k32, .ref k33, .ref k34, .ref k35, .ref k36, .int i17, .ref k37])), (h1, aI cI 21 f18), (h2, aI cI 21 f19)] := hD.sub [0, 1, 2] (by decide) rfl
        rw [← hQQ]
        exact W.zret (v := t4_0) hx hb hr hi (fun t ht hW => ⟨⟨_, (), rfl, hwp, by rw [ht]; exact hP9, hD9⟩, hS.F ht⟩) hS.2.2 dX9_isWhole_44
      · replace hwp := hwp.2 c9
        refine lv_iload_n hx hb dX9_isWhole_12 rfl (lv_at hl 1 rfl) ?_
        refine lv_if_eq (tgt := 35) hx hb dX9_isWhole_13 (by decide) (fun c13 => ?_) (fun c13 => ?_)
        · replace hwp := hwp.1 c13
          refine lv_iconst (v := 0) hx hb dX9_isWhole_35 (by decide) ?_
          refine lv_istore_n (lv' := [(1, .int 0), (2, .int t4_1), (0, .ref h0)]) hx hb dX9_isWhole_36 rfl hl (by decide) rfl (fun ls hl => ?_)
          refine lv_iinc (v := (t4_1 + 1)) (lv' := [(2, .int (t4_1 + 1)), (1, .int 0), (0, .ref h0)]) hx hb dX9_isWhole_37 hl (k := 1) rfl rfl (by decide) rfl (fun ls hl => ?_)
          refine lv_goto (tgt := 4) hx hb dX9_isWhole_40 (by decide) ?_
          replace hl : lv_has ls 3 [(2, .int (t4_1 + 1)), (1, .int 0), (0, .ref h0)] := lv_sub hl [0, 1, 2] rfl
          exact ih1 H locs ls 0 (t4_1 + 1) hwp hP hD hS hl
        · replace hwp := hwp.2 c13
          refine lv_aload_n hx hb dX9_isWhole_16 rfl (lv_at hl 2 rfl) ?_
          refine va_get (D := G) (ci := 9) (v := .ref h1) (C := RX9) (T := TX9) (N := 58) hx hb hts xinX9 hown hK hP 0 rfl rfl 15 (by decide) (hts _ wo_472) (fun _ h9 => h9) rfl dX9_isWhole_17 ?_
          refine lv_iload_n hx hb dX9_isWhole_20 rfl (lv_at hl 0 rfl) ?_
          obtain ⟨hi, hwp⟩ := hwp
          refine va_iald hx hb hK hP 1 0 rfl rfl hi dX9_isWhole_21 ?_
          refine lv_aload_n hx hb dX9_isWhole_22 rfl (lv_at hl 2 rfl) ?_
          refine va_get (D := G) (ci := 9) (v := .ref h2) (C := RX9) (T := TX9) (N := 58) hx hb hts xinX9 hown hK hP 0 rfl rfl 14 (by decide) (hts _ wo_467) (fun _ h9 => h9) rfl dX9_isWhole_23 ?_
          refine lv_iload_n hx hb dX9_isWhole_26 rfl (lv_at hl 0 rfl) ?_
          obtain ⟨hi, hwp⟩ := hwp
          refine va_iald hx hb hK hP 2 0 rfl rfl hi dX9_isWhole_27 ?_
          refine lv_icmp_ne (tgt := 35) hx hb dX9_isWhole_28 (by decide) (fun c28 => ?_) (fun c28 => ?_)
          · replace hwp := hwp.1 c28
            refine lv_iconst (v := 0) hx hb dX9_isWhole_35 (by decide) ?_
            refine lv_istore_n (lv' := [(1, .int 0), (2, .int t4_1), (0, .ref h0)]) hx hb dX9_isWhole_36 rfl hl (by decide) rfl (fun ls hl => ?_)
            refine lv_iinc (v := (t4_1 + 1)) (lv' := [(2, .int (t4_1 + 1)), (1, .int 0), (0, .ref h0)]) hx hb dX9_isWhole_37 hl (k := 1) rfl rfl (by decide) rfl (fun ls hl => ?_)
            refine lv_goto (tgt := 4) hx hb dX9_isWhole_40 (by decide) ?_
            replace hl : lv_has ls 3 [(2, .int (t4_1 + 1)), (1, .int 0), (0, .ref h0)] := lv_sub hl [0, 1, 2] rfl
            exact ih1 H locs ls 0 (t4_1 + 1) hwp hP hD hS hl
          · replace hwp := hwp.2 c28
            refine lv_iconst (v := 1) hx hb dX9_isWhole_31 (by decide) ?_
            refine lv_goto (tgt := 36) hx hb dX9_isWhole_32 (by decide) ?_
            refine lv_istore_n (lv' := [(1, .int 1), (2, .int t4_1), (0, .ref h0)]) hx hb dX9_isWhole_36 rfl hl (by decide) rfl (fun ls hl => ?_)
            refine lv_iinc (v := (t4_1 + 1)) (lv' := [(2, .int (t4_1 + 1)), (1, .int 1), (0, .ref h0)]) hx hb dX9_isWhole_37 hl (k := 1) rfl rfl (by decide) rfl (fun ls hl => ?_)
            refine lv_goto (tgt := 4) hx hb dX9_isWhole_40 (by decide) ?_
            replace hl : lv_has ls 3 [(2, .int (t4_1 + 1)), (1, .int 1), (0, .ref h0)] := lv_sub hl [0, 1, 2] rfl
            exact ih1 H locs ls 1 (t4_1 + 1) hwp hP hD hS hl
  exact hs1 n1 H locs ls 1 0 hwp hP hD hS hl
def wLX9_offer_5 (i6 : Int32) (i8 : Int32) (i9 : Int32) (i10 : Int32) (f18 : Nat → Int32) (p0 : Int32) (p1 : Int32) (K : (Int32 × Int32 × Int32) → Prop)  : Nat → Int32 → Int32 → Prop
  | 0, _, _ => False
  | n5 + 1, t5_0, t5_1 => ((i6 ≤ t5_1 → ((i10 ≤ t5_0 → K (i8, i9, i10)) ∧ (¬ i10 ≤ t5_0 → K (p0, p1, t5_0)))) ∧ (¬ i6 ≤ t5_1 → (vp_in t5_1 120 ∧ ((¬ ((f18 (Int32.toNatClampNeg t5_1)) &&& p0) = p0 → (∀ v34 : Int32, v34 = (t5_0 + 0) → (wLX9_offer_5 i6 i8 i9 i10 f18 p0 p1 K  n5) v34 (t5_1 + 1))) ∧ (((f18 (Int32.toNatClampNeg t5_1)) &&& p0) = p0 → (∀ v34 : Int32, v34 = (t5_0 + 1) → (wLX9_offer_5 i6 i8 i9 i10 f18 p0 p1 K  n5) v34 (t5_1 + 1)))))))
def wX9_offer (i0 : Int32) (i1 : Int32) (i2 : Int32) (i3 : Int32) (i4 : Int32) (i5 : Int32) (i6 : Int32) (i7 : Int32) (i8 : Int32) (i9 : Int32) (i10 : Int32) (i11 : Int32) (i12 : Int32) (i13 : Int32) (i14 : Int32) (i15 : Int32) (i16 : Int32) (i17 : Int32) (f18 : Nat → Int32) (p0 : Int32) (p1 : Int32) (K : (Int32 × Int32 × Int32) → Prop) : Prop := (∃ n5, wLX9_offer_5 i6 i8 i9 i10 f18 p0 p1 K  n5 0 0)
set_option maxHeartbeats 4000000 in
set_option maxRecDepth 100000 in
theorem zX9_offer (l : Launch) (G : va_G) (cI cJ cZ : ClassId) (h0 h1 k0 k1 k2 k3 k4 k5 k6 k7 k8 k9 k10 k11 k12 k13 k14 k15 k16 k17 k18 k19 k20 k21 k22 k23 k24 k25 k26 k27 k28 k29 k30 k31 k32 k33 k34 k35 k36 k37 k38 sz : Nat) (i0 : Int32) (i1 : Int32) (i2 : Int32) (i3 : Int32) (i4 : Int32) (i5 : Int32) (i6 : Int32) (i7 : Int32) (i8 : Int32) (i9 : Int32) (i10 : Int32) (i11 : Int32) (i12 : Int32) (i13 : Int32) (i14 : Int32) (i15 : Int32) (i16 : Int32) (i17 : Int32) (f18 : Nat → Int32) (p0 : Int32) (p1 : Int32) (K : (Int32 × Int32 × Int32) → Prop) (hwp : wX9_offer i0 i1 i2 i3 i4 i5 i6 i7 i8 i9 i10 i11 i12 i13 i14 i15 i16 i17 f18 p0 p1 K) : Met l yX9_offer (xw yX9_offer cX9_offer 5 none) ({ frames := 0, cells := 0, slots := 0, locals := 0 }) (xPc G cI cJ cZ [.ref h0, .int p0, .int p1] [(h0, .inr (9, [.int i0, .int i1, .ref k0, .ref k1, .ref k2, .ref k3, .ref k4, .int i2, .ref k5, .int i3, .ref k6, .ref k7, .ref k8, .int i4, .ref k9, .ref k10, .int i5, .ref k11, .ref k12, .ref h1, .int i6, .ref k13, .int i7, .ref k14, .ref k15, .int i8, .int i9, .int i10, .ref k16, .int i11, .ref k17, .ref k18, .ref k19, .ref k20, .ref k21, .ref k22, .ref k23, .ref k24, .ref k25, .ref k26, .ref k27, .ref k28, .ref k29, .ref k30, .ref k31, .int i12, .int i13, .int i14, .int i15, .int i16, .ref k32, .ref k33, .ref k34, .ref k35, .ref k36, .ref k37, .int i17, .ref k38])), (h1, aI cI 120 f18)] sz) (va_Qv (fun (u : Int32 × Int32 × Int32) => K u) (fun (u : Int32 × Int32 × Int32) t => xB G (va_A [(h0, .inr (9, [.int i0, .int i1, .ref k0, .ref k1, .ref k2, .ref k3, .ref k4, .int i2, .ref k5, .int i3, .ref k6, .ref k7, .ref k8, .int i4, .ref k9, .ref k10, .int i5, .ref k11, .ref k12, .ref h1, .int i6, .ref k13, .int i7, .ref k14, .ref k15, .int i8, .int i9, .int i10, .ref k16, .int i11, .ref k17, .ref k18, .ref k19, .ref k20, .ref k21, .ref k22, .ref k23, .ref k24, .ref k25, .ref k26, .ref k27, .ref k28, .ref k29, .ref k30, .ref k31, .int i12, .int i13, .int i14, .int i15, .int i16, .ref k32, .ref k33, .ref k34, .ref k35, .ref k36, .ref k37, .int i17, .ref k38])), (h1, aI cI 120 f18)] sz) [(h0, .inr (9, [.int i0, .int i1, .ref k0, .ref k1, .ref k2, .ref k3, .ref k4, .int i2, .ref k5, .int i3, .ref k6, .ref k7, .ref k8, .int i4, .ref k9, .ref k10, .int i5, .ref k11, .ref k12, .ref h1, .int i6, .ref k13, .int i7, .ref k14, .ref k15, .int u.1, .int u.2.1, .int u.2.2, .ref k16, .int i11, .ref k17, .ref k18, .ref k19, .ref k20, .ref k21, .ref k22, .ref k23, .ref k24, .ref k25, .ref k26, .ref k27, .ref k28, .ref k29, .ref k30, .ref k31, .int i12, .int i13, .int i14, .int i15, .int i16, .ref k32, .ref k33, .ref k34, .ref k35, .ref k36, .ref k37, .int i17, .ref k38])), (h1, aI cI 120 f18)] t) (va_A [(h0, .inr (9, [.int i0, .int i1, .ref k0, .ref k1, .ref k2, .ref k3, .ref k4, .int i2, .ref k5, .int i3, .ref k6, .ref k7, .ref k8, .int i4, .ref k9, .ref k10, .int i5, .ref k11, .ref k12, .ref h1, .int i6, .ref k13, .int i7, .ref k14, .ref k15, .int i8, .int i9, .int i10, .ref k16, .int i11, .ref k17, .ref k18, .ref k19, .ref k20, .ref k21, .ref k22, .ref k23, .ref k24, .ref k25, .ref k26, .ref k27, .ref k28, .ref k29, .ref k30, .ref k31, .int i12, .int i13, .int i14, .int i15, .int i16, .ref k32, .ref k33, .ref k34, .ref k35, .ref k36, .ref k37, .int i17, .ref k38])), (h1, aI cI 120 f18)] sz)) 0 0 (va_A [(h0, .inr (9, [.int i0, .int i1, .ref k0, .ref k1, .ref k2, .ref k3, .ref k4, .int i2, .ref k5, .int i3, .ref k6, .ref k7, .ref k8, .int i4, .ref k9, .ref k10, .int i5, .ref k11, .ref k12, .ref h1, .int i6, .ref k13, .int i7, .ref k14, .ref k15, .int i8, .int i9, .int i10, .ref k16, .int i11, .ref k17, .ref k18, .ref k19, .ref k20, .ref k21, .ref k22, .ref k23, .ref k24, .ref k25, .ref k26, .ref k27, .ref k28, .ref k29, .ref k30, .ref k31, .int i12, .int i13, .int i14, .int i15, .int i16, .ref k32, .ref k33, .ref k34, .ref k35, .ref k36, .ref k37, .int i17, .ref k38])), (h1, aI cI 120 f18)] sz) := by
  refine Met.ofW (cc := cX9_offer) (maxL := 5) (ret := none) (by decide) rfl ?_
  intro p e s m args below meth c s₁ B hml hv
  obtain ⟨rfl, hsz, hP, hK, hD0, hN⟩ := hv
  have hx := B.exec
  have hb := B.bytes
  have hr := B.returns
  have hts : ∀ w ∈ xW, w.before _ s = true := fun w h => atoms_spec (ws := xw yX9_offer cX9_offer 5 none) B.pre w (List.mem_cons_of_mem _ h)
  have hown : s.vm.findClass RX9 = some m.cls := findClass_of_methodNamed B.named
  have hlocks := B.notSynchronized
  subst hsz
  have hD := hD0.self (sz := s.heap.size)
  clear hD0
  generalize hAe : va_A [(h0, .inr (9, [.int i0, .int i1, .ref k0, .ref k1, .ref k2, .ref k3, .ref k4, .int i2, .ref k5, .int i3, .ref k6, .ref k7, .ref k8, .int i4, .ref k9, .ref k10, .int i5, .ref k11, .ref k12, .ref h1, .int i6, .ref k13, .int i7, .ref k14, .ref k15, .int i8, .int i9, .int i10, .ref k16, .int i11, .ref k17, .ref k18, .ref k19, .ref k20, .ref k21, .ref k22, .ref k23, .ref k24, .ref k25, .ref k26, .ref k27, .ref k28, .ref k29, .ref k30, .ref k31, .int i12, .int i13, .int i14, .int i15, .int i16, .ref k32, .ref k33, .ref k34, .ref k35, .ref k36, .ref k37, .int i17, .ref k38])), (h1, aI cI 120 f18)] s.heap.size = A at hD ⊢
  have hA : ∀ q : Nat, s.heap.size ≤ q → A q := fun q h => by rw [← hAe]; exact Or.inr h
  clear hAe
  have hS : va_S A s.heap s.heap [] := va_S.rf
  replace hP : va_P G vwCl [(h0, .inr (9, [.int i0, .int i1, .ref k0, .ref k1, .ref k2, .ref k3, .ref k4, .int i2, .ref k5, .int i3, .ref k6, .ref k7, .ref k8, .int i4, .ref k9, .ref k10, .int i5, .ref k11, .ref k12, .ref h1, .int i6, .ref k13, .int i7, .ref k14, .ref k15, .int i8, .int i9, .int i10, .ref k16, .int i11, .ref k17, .ref k18, .ref k19, .ref k20, .ref k21, .ref k22, .ref k23, .ref k24, .ref k25, .ref k26, .ref k27, .ref k28, .ref k29, .ref k30, .ref k31, .int i12, .int i13, .int i14, .int i15, .int i16, .ref k32, .ref k33, .ref k34, .ref k35, .ref k36, .ref k37, .int i17, .ref k38])), (h1, aI cI 120 f18)] s.heap := hP
  have hl := lv_entry ([.ref h0, .int p0, .int p1]) (n := 5) (Nat.le_of_ble_eq_true rfl)
  rw [lg_entry_eq]
  generalize (lg_sl ([.ref h0, .int p0, .int p1]) ++ List.replicate (5 - (lg_sl ([.ref h0, .int p0, .int p1])).length) Slot.unset).toArray = ls at hl ⊢
  replace hl : lv_has ls 5 [(0, .ref h0), (1, .int p0), (2, .int p1)] := hl
  generalize hQQ : MQ below _ _ s 0 0 _ = QQ
  skip
  unfold wX9_offer at hwp
  refine lv_iconst (v := 0) hx hb dX9_offer_0 (by decide) ?_
  refine lv_istore_n (lv' := [(3, .int 0), (0, .ref h0), (1, .int p0), (2, .int p1)]) hx hb dX9_offer_1 rfl hl (by decide) rfl (fun ls hl => ?_)
  refine lv_iconst (v := 0) hx hb dX9_offer_2 (by decide) ?_
  refine lv_istore (lv' := [(4, .int 0), (3, .int 0), (0, .ref h0), (1, .int p0), (2, .int p1)]) hx hb dX9_offer_3 hl (by decide) rfl (fun ls hl => ?_)
  refine xgen (Pp := fun H locs => W p l e _ s m _ below meth c H locs _ _ _ _) (fun H locs hP hD hS => ?_) hP hD hS
  replace hl : lv_has ls 5 [(4, .int 0), (3, .int 0), (0, .ref h0), (1, .int p0), (2, .int p1)] := lv_sub hl [0, 1, 2, 3, 4] rfl
  obtain ⟨n1, hwp⟩ := hwp
  have hs1 : ∀ (n1 : Nat) (H : Heap) (locs : List Loc) (ls : Array Slot) (t5_0 : Int32) (t5_1 : Int32), wLX9_offer_5 i6 i8 i9 i10 f18 p0 p1 K  n1 t5_0 t5_1 → va_P G vwCl [(h0, .inr (9, [.int i0, .int i1, .ref k0, .ref k1, .ref k2, .ref k3, .ref k4, .int i2, .ref k5, .int i3, .ref k6, .ref k7, .ref k8, .int i4, .ref k9, .ref k10, .int i5, .ref k11, .ref k12, .ref h1, .int i6, .ref k13, .int i7, .ref k14, .ref k15, .int i8, .int i9, .int i10, .ref k16, .int i11, .ref k17, .ref k18, .ref k19, .ref k20, .ref k21, .ref k22, .ref k23, .ref k24, .ref k25, .ref k26, .ref k27, .ref k28, .ref k29, .ref k30, .ref k31, .int i12, .int i13, .int i14, .int i15, .int i16, .ref k32, .ref k33, .ref k34, .ref k35, .ref k36, .ref k37, .int i17, .ref k38])), (h1, aI cI 120 f18)] H → va_D A [(h0, .inr (9, [.int i0, .int i1, .ref k0, .ref k1, .ref k2, .ref k3, .ref k4, .int i2, .ref k5, .int i3, .ref k6, .ref k7, .ref k8, .int i4, .ref k9, .ref k10, .int i5, .ref k11, .ref k12, .ref h1, .int i6, .ref k13, .int i7, .ref k14, .ref k15, .int i8, .int i9, .int i10, .ref k16, .int i11, .ref k17, .ref k18, .ref k19, .ref k20, .ref k21, .ref k22, .ref k23, .ref k24, .ref k25, .ref k26, .ref k27, .ref k28, .ref k29, .ref k30, .ref k31, .int i12, .int i13, .int i14, .int i15, .int i16, .ref k32, .ref k33, .ref k34, .ref k35, .ref k36, .ref k37, .int i17, .ref k38])), (h1, aI cI 120 f18)] → va_S A s.heap H locs → lv_has ls 5 [(4, .int t5_1), (3, .int t5_0), (0, .ref h0), (1, .int p0), (2, .int p1)] → W p l e ((headSpec (xw yX9_offer cX9_offer 5 none) { frames := 0, cells := 0, slots := 0, locals := 0 }).room) s m ([.ref h0, .int p0, .int p1] : List Value).toArray below meth c H locs 0 0 QQ (F0 m 5 ls []) := by
    intro n1
    induction n1 with
    | zero => intro H locs ls t5_0 t5_1 hwp; exact False.elim hwp
    | succ n1 ih1 =>
      intro H locs ls t5_0 t5_1 hwp hP hD hS hl
      rw [wLX9_offer_5] at hwp
      refine lv_iload hx hb dX9_offer_5 (lv_at hl 0 rfl) ?_
      refine lv_aload_n hx hb dX9_offer_7 rfl (lv_at hl 2 rfl) ?_
      refine va_get (D := G) (ci := 9) (v := .int i6) (C := RX9) (T := TX9) (N := 58) hx hb hts xinX9 hown hK hP 0 rfl rfl 20 (by decide) (hts _ wo_485) (fun _ h9 => h9) rfl dX9_offer_8 ?_
      refine lv_icmp_ge (tgt := 41) hx hb dX9_offer_11 (by decide) (fun c11 => ?_) (fun c11 => ?_)
      · replace hwp := hwp.1 c11
        refine lv_iload_n hx hb dX9_offer_41 rfl (lv_at hl 1 rfl) ?_
        refine lv_aload_n hx hb dX9_offer_42 rfl (lv_at hl 2 rfl) ?_
        refine va_get (D := G) (ci := 9) (v := .int i10) (C := RX9) (T := TX9) (N := 58) hx hb hts xinX9 hown hK hP 0 rfl rfl 27 (by decide) (hts _ wo_490) (fun _ h9 => h9) rfl dX9_offer_43 ?_
        refine lv_icmp_ge (tgt := 64) hx hb dX9_offer_46 (by decide) (fun c46 => ?_) (fun c46 => ?_)
        · replace hwp := hwp.1 c46
          have hP9 : va_P G vwCl [(h0, .inr (9, [.int i0, .int i1, .ref k0, .ref k1, .ref k2, .ref k3, .ref k4, .int i2, .ref k5, .int i3, .ref k6, .ref k7, .ref k8, .int i4, .ref k9, .ref k10, .int i5, .ref k11, .ref k12, .ref h1, .int i6, .ref k13, .int i7, .ref k14, .ref k15, .int i8, .int i9, .int i10, .ref k16, .int i11, .ref k17, .ref k18, .ref k19, .ref k20, .ref k21, .ref k22, .ref k23, .ref k24, .ref k25, .ref k26, .ref k27, .ref k28, .ref k29, .ref k30, .ref k31, .int i12, .int i13, .int i14, .int i15, .int i16, .ref k32, .ref k33, .ref k34, .ref k35, .ref k36, .ref k37, .int i17, .ref k38])), (h1, aI cI 120 f18)] H := hP.sub [0, 1] rfl
          have hD9 : va_D A [(h0, .inr (9, [.int i0, .int i1, .ref k0, .ref k1, .ref k2, .ref k3, .ref k4, .int i2, .ref k5, .int i3, .ref k6, .ref k7, .ref k8, .int i4, .ref k9, .ref k10, .int i5, .ref k11, .ref k12, .ref h1, .int i6, .ref k13, .int i7, .ref k14, .ref k15, .int i8, .int i9, .int i10, .ref k16, .int i11, .ref k17, .ref k18, .ref k19, .ref k20, .ref k21, .ref k22, .ref k23, .ref k24, .ref k25, .ref k26, .ref k27, .ref k28, .ref k29, .ref k30, .ref k31, .int i12, .int i13, .int i14, .int i15, .int i16, .ref k32, .ref k33, .ref k34, .ref k35, .ref k36, .ref k37, .int i17, .ref k38])), (h1, aI cI 120 f18)] := hD.sub [0, 1] (by decide) rfl
          rw [← hQQ]
          exact W.vret hx hb hr (fun t ht hW => ⟨⟨(i8, i9, i10), rfl, hwp, by rw [ht]; exact hP9, hD9⟩, hS.F ht⟩) hS.2.2 dX9_offer_64
        · replace hwp := hwp.2 c46
          refine lv_aload_n hx hb dX9_offer_49 rfl (lv_at hl 2 rfl) ?_
          refine lv_iload_n hx hb dX9_offer_50 rfl (lv_at hl 1 rfl) ?_
          refine va_put (D := G) (ci := 9) (v := .int t5_0) (ty := .int) (C := RX9) (T := TX9) (N := 58) hx hb hts xinX9 tyX9 tyX9_ok nmX9 hown hK hP hD hS 0 rfl rfl 27 (by decide) (hts _ wo_490) (fun _ h9 => h9) rfl (by decide +kernel) rfl rfl (Nat.le_of_ble_eq_true rfl) dX9_offer_51 (fun H locs hP hD hS => ?_)
          replace hP : va_P G vwCl [(h0, .inr (9, [.int i0, .int i1, .ref k0, .ref k1, .ref k2, .ref k3, .ref k4, .int i2, .ref k5, .int i3, .ref k6, .ref k7, .ref k8, .int i4, .ref k9, .ref k10, .int i5, .ref k11, .ref k12, .ref h1, .int i6, .ref k13, .int i7, .ref k14, .ref k15, .int i8, .int i9, .int t5_0, .ref k16, .int i11, .ref k17, .ref k18, .ref k19, .ref k20, .ref k21, .ref k22, .ref k23, .ref k24, .ref k25, .ref k26, .ref k27, .ref k28, .ref k29, .ref k30, .ref k31, .int i12, .int i13, .int i14, .int i15, .int i16, .ref k32, .ref k33, .ref k34, .ref k35, .ref k36, .ref k37, .int i17, .ref k38])), (h1, aI cI 120 f18)] H := hP
          replace hD : va_D A [(h0, .inr (9, [.int i0, .int i1, .ref k0, .ref k1, .ref k2, .ref k3, .ref k4, .int i2, .ref k5, .int i3, .ref k6, .ref k7, .ref k8, .int i4, .ref k9, .ref k10, .int i5, .ref k11, .ref k12, .ref h1, .int i6, .ref k13, .int i7, .ref k14, .ref k15, .int i8, .int i9, .int t5_0, .ref k16, .int i11, .ref k17, .ref k18, .ref k19, .ref k20, .ref k21, .ref k22, .ref k23, .ref k24, .ref k25, .ref k26, .ref k27, .ref k28, .ref k29, .ref k30, .ref k31, .int i12, .int i13, .int i14, .int i15, .int i16, .ref k32, .ref k33, .ref k34, .ref k35, .ref k36, .ref k37, .int i17, .ref k38])), (h1, aI cI 120 f18)] := hD
          refine lv_aload_n hx hb dX9_offer_54 rfl (lv_at hl 2 rfl) ?_
          refine lv_iload_n hx hb dX9_offer_55 rfl (lv_at hl 3 rfl) ?_
          refine va_put (D := G) (ci := 9) (v := .int p0) (ty := .int) (C := RX9) (T := TX9) (N := 58) hx hb hts xinX9 tyX9 tyX9_ok nmX9 hown hK hP hD hS 0 rfl rfl 25 (by decide) (hts _ wo_491) (fun _ h9 => h9) rfl (by decide +kernel) rfl rfl (Nat.le_of_ble_eq_true rfl) dX9_offer_56 (fun H locs hP hD hS => ?_)
          replace hP : va_P G vwCl [(h0, .inr (9, [.int i0, .int i1, .ref k0, .ref k1, .ref k2, .ref k3, .ref k4, .int i2, .ref k5, .int i3, .ref k6, .ref k7, .ref k8, .int i4, .ref k9, .ref k10, .int i5, .ref k11, .ref k12, .ref h1, .int i6, .ref k13, .int i7, .ref k14, .ref k15, .int p0, .int i9, .int t5_0, .ref k16, .int i11, .ref k17, .ref k18, .ref k19, .ref k20, .ref k21, .ref k22, .ref k23, .ref k24, .ref k25, .ref k26, .ref k27, .ref k28, .ref k29, .ref k30, .ref k31, .int i12, .int i13, .int i14, .int i15, .int i16, .ref k32, .ref k33, .ref k34, .ref k35, .ref k36, .ref k37, .int i17, .ref k38])), (h1, aI cI 120 f18)] H := hP
          replace hD : va_D A [(h0, .inr (9, [.int i0, .int i1, .ref k0, .ref k1, .ref k2, .ref k3, .ref k4, .int i2, .ref k5, .int i3, .ref k6, .ref k7, .ref k8, .int i4, .ref k9, .ref k10, .int i5, .ref k11, .ref k12, .ref h1, .int i6, .ref k13, .int i7, .ref k14, .ref k15, .int p0, .int i9, .int t5_0, .ref k16, .int i11, .ref k17, .ref k18, .ref k19, .ref k20, .ref k21, .ref k22, .ref k23, .ref k24, .ref k25, .ref k26, .ref k27, .ref k28, .ref k29, .ref k30, .ref k31, .int i12, .int i13, .int i14, .int i15, .int i16, .ref k32, .ref k33, .ref k34, .ref k35, .ref k36, .ref k37, .int i17, .ref k38])), (h1, aI cI 120 f18)] := hD
          refine lv_aload_n hx hb dX9_offer_59 rfl (lv_at hl 2 rfl) ?_
          refine lv_iload_n hx hb dX9_offer_60 rfl (lv_at hl 4 rfl) ?_
          refine va_put (D := G) (ci := 9) (v := .int p1) (ty := .int) (C := RX9) (T := TX9) (N := 58) hx hb hts xinX9 tyX9 tyX9_ok nmX9 hown hK hP hD hS 0 rfl rfl 26 (by decide) (hts _ wo_492) (fun _ h9 => h9) rfl (by decide +kernel) rfl rfl (Nat.le_of_ble_eq_true rfl) dX9_offer_61 (fun H locs hP hD hS => ?_)
          replace hP : va_P G vwCl [(h0, .inr (9, [.int i0, .int i1, .ref k0, .ref k1, .ref k2, .ref k3, .ref k4, .int i2, .ref k5, .int i3, .ref k6, .ref k7, .ref k8, .int i4, .ref k9, .ref k10, .int i5, .ref k11, .ref k12, .ref h1, .int i6, .ref k13, .int i7, .ref k14, .ref k15, .int p0, .int p1, .int t5_0, .ref k16, .int i11, .ref k17, .ref k18, .ref k19, .ref k20, .ref k21, .ref k22, .ref k23, .ref k24, .ref k25, .ref k26, .ref k27, .ref k28, .ref k29, .ref k30, .ref k31, .int i12, .int i13, .int i14, .int i15, .int i16, .ref k32, .ref k33, .ref k34, .ref k35, .ref k36, .ref k37, .int i17, .ref k38])), (h1, aI cI 120 f18)] H := hP
          replace hD : va_D A [(h0, .inr (9, [.int i0, .int i1, .ref k0, .ref k1, .ref k2, .ref k3, .ref k4, .int i2, .ref k5, .int i3, .ref k6, .ref k7, .ref k8, .int i4, .ref k9, .ref k10, .int i5, .ref k11, .ref k12, .ref h1, .int i6, .ref k13, .int i7, .ref k14, .ref k15, .int p0, .int p1, .int t5_0, .ref k16, .int i11, .ref k17, .ref k18, .ref k19, .ref k20, .ref k21, .ref k22, .ref k23, .ref k24, .ref k25, .ref k26, .ref k27, .ref k28, .ref k29, .ref k30, .ref k31, .int i12, .int i13, .int i14, .int i15, .int i16, .ref k32, .ref k33, .ref k34, .ref k35, .ref k36, .ref k37, .int i17, .ref k38])), (h1, aI cI 120 f18)] := hD
          have hP9 : va_P G vwCl [(h0, .inr (9, [.int i0, .int i1, .ref k0, .ref k1, .ref k2, .ref k3, .ref k4, .int i2, .ref k5, .int i3, .ref k6, .ref k7, .ref k8, .int i4, .ref k9, .ref k10, .int i5, .ref k11, .ref k12, .ref h1, .int i6, .ref k13, .int i7, .ref k14, .ref k15, .int p0, .int p1, .int t5_0, .ref k16, .int i11, .ref k17, .ref k18, .ref k19, .ref k20, .ref k21, .ref k22, .ref k23, .ref k24, .ref k25, .ref k26, .ref k27, .ref k28, .ref k29, .ref k30, .ref k31, .int i12, .int i13, .int i14, .int i15, .int i16, .ref k32, .ref k33, .ref k34, .ref k35, .ref k36, .ref k37, .int i17, .ref k38])), (h1, aI cI 120 f18)] H := hP.sub [0, 1] rfl
          have hD9 : va_D A [(h0, .inr (9, [.int i0, .int i1, .ref k0, .ref k1, .ref k2, .ref k3, .ref k4, .int i2, .ref k5, .int i3, .ref k6, .ref k7, .ref k8, .int i4, .ref k9, .ref k10, .int i5, .ref k11, .ref k12, .ref h1, .int i6, .ref k13, .int i7, .ref k14, .ref k15, .int p0, .int p1, .int t5_0, .ref k16, .int i11, .ref k17, .ref k18, .ref k19, .ref k20, .ref k21, .ref k22, .ref k23, .ref k24, .ref k25, .ref k26, .ref k27, .ref k28, .ref k29, .ref k30, .ref k31, .int i12, .int i13, .int i14, .int i15, .int i16, .ref k32, .ref k33, .ref k34, .ref k35, .ref k36, .ref k37, .int i17, .ref k38])), (h1, aI cI 120 f18)] := hD.sub [0, 1] (by decide) rfl
          rw [← hQQ]
          exact W.vret hx hb hr (fun t ht hW => ⟨⟨(p0, p1, t5_0), rfl, hwp, by rw [ht]; exact hP9, hD9⟩, hS.F ht⟩) hS.2.2 dX9_offer_64
      · replace hwp := hwp.2 c11
        refine lv_iload_n hx hb dX9_offer_14 rfl (lv_at hl 1 rfl) ?_
        refine lv_aload_n hx hb dX9_offer_15 rfl (lv_at hl 2 rfl) ?_
        refine va_get (D := G) (ci := 9) (v := .ref h1) (C := RX9) (T := TX9) (N := 58) hx hb hts xinX9 hown hK hP 0 rfl rfl 19 (by decide) (hts _ wo_476) (fun _ h9 => h9) rfl dX9_offer_16 ?_
        refine lv_iload hx hb dX9_offer_19 (lv_at hl 0 rfl) ?_
        obtain ⟨hi, hwp⟩ := hwp
        refine va_iald hx hb hK hP 1 0 rfl rfl hi dX9_offer_21 ?_
        refine lv_iload_n hx hb dX9_offer_22 rfl (lv_at hl 3 rfl) ?_
        refine lv_iand hx hb dX9_offer_23 ?_
        refine lv_iload_n hx hb dX9_offer_24 rfl (lv_at hl 3 rfl) ?_
        refine lv_icmp_ne (tgt := 32) hx hb dX9_offer_25 (by decide) (fun c25 => ?_) (fun c25 => ?_)
        · replace hwp := hwp.1 c25
          refine lv_iconst (v := 0) hx hb dX9_offer_32 (by decide) ?_
          refine lv_iadd hx hb dX9_offer_33 ?_
          refine lv_topi (fun v34 ev34 => ?_)
          replace hwp := hwp v34 ev34
          clear ev34
          refine lv_istore_n (lv' := [(3, .int v34), (4, .int t5_1), (0, .ref h0), (1, .int p0), (2, .int p1)]) hx hb dX9_offer_34 rfl hl (by decide) rfl (fun ls hl => ?_)
          refine lv_iinc (v := (t5_1 + 1)) (lv' := [(4, .int (t5_1 + 1)), (3, .int v34), (0, .ref h0), (1, .int p0), (2, .int p1)]) hx hb dX9_offer_35 hl (k := 1) rfl rfl (by decide) rfl (fun ls hl => ?_)
          refine lv_goto (tgt := 5) hx hb dX9_offer_38 (by decide) ?_
          replace hl : lv_has ls 5 [(4, .int (t5_1 + 1)), (3, .int v34), (0, .ref h0), (1, .int p0), (2, .int p1)] := lv_sub hl [0, 1, 2, 3, 4] rfl
          exact ih1 H locs ls v34 (t5_1 + 1) hwp hP hD hS hl
        · replace hwp := hwp.2 c25
          refine lv_iconst (v := 1) hx hb dX9_offer_28 (by decide) ?_
          refine lv_goto (tgt := 33) hx hb dX9_offer_29 (by decide) ?_
          refine lv_iadd hx hb dX9_offer_33 ?_
          refine lv_topi (fun v34 ev34 => ?_)
          replace hwp := hwp v34 ev34
          clear ev34
          refine lv_istore_n (lv' := [(3, .int v34), (4, .int t5_1), (0, .ref h0), (1, .int p0), (2, .int p1)]) hx hb dX9_offer_34 rfl hl (by decide) rfl (fun ls hl => ?_)
          refine lv_iinc (v := (t5_1 + 1)) (lv' := [(4, .int (t5_1 + 1)), (3, .int v34), (0, .ref h0), (1, .int p0), (2, .int p1)]) hx hb dX9_offer_35 hl (k := 1) rfl rfl (by decide) rfl (fun ls hl => ?_)
          refine lv_goto (tgt := 5) hx hb dX9_offer_38 (by decide) ?_
          replace hl : lv_has ls 5 [(4, .int (t5_1 + 1)), (3, .int v34), (0, .ref h0), (1, .int p0), (2, .int p1)] := lv_sub hl [0, 1, 2, 3, 4] rfl
          exact ih1 H locs ls v34 (t5_1 + 1) hwp hP hD hS hl
  exact hs1 n1 H locs ls 0 0 hwp hP hD hS hl
def wLX9_findPiece_162 (i3 : Int32) (i5 : Int32) (f18 : Nat → Int32) (t150_0 : Int32) (K : (Int32 × Int32 × Int32) → Prop) (B150_3 : Int32 → Int32 → Int32 → Prop) : Nat → Int32 → Int32 → Int32 → Prop
  | 0, _, _, _ => False
  | n162 + 1, t162_0, t162_1, t162_2 => ((i3 ≤ t162_2 → B150_3 t162_0 t150_0 t162_1) ∧ (¬ i3 ≤ t162_2 → ((¬ ((t162_0 >>> (t162_2 &&& 31)) &&& 1) = 1 → (wLX9_findPiece_162 i3 i5 f18 t150_0 K B150_3 n162) t162_0 t162_1 (t162_2 + 1)) ∧ (((t162_0 >>> (t162_2 &&& 31)) &&& 1) = 1 → (vp_in t162_2 21 ∧ (∀ v197 : Int32, v197 = (t162_0 ||| ((f18 (Int32.toNatClampNeg t162_2)) &&& (i5 ^^^ (-1)))) → (vp_in t162_2 21 ∧ (∀ v213 : Int32, v213 = (t162_1 ||| ((f18 (Int32.toNatClampNeg t162_2)) &&& i5)) → (wLX9_findPiece_162 i3 i5 f18 t150_0 K B150_3 n162) v197 v213 (t162_2 + 1)))))))))
def wLX9_findPiece_150 (i0 : Int32) (i1 : Int32) (i2 : Int32) (i3 : Int32) (i4 : Int32) (i5 : Int32) (i6 : Int32) (i7 : Int32) (i11 : Int32) (i12 : Int32) (i13 : Int32) (i14 : Int32) (i15 : Int32) (i16 : Int32) (i17 : Int32) (f18 : Nat → Int32) (f19 : Nat → Int32) (t111_0 : Int32) (t111_1 : Int32) (t111_2 : Int32) (t111_3 : Int32) (t111_4 : Int32) (K : (Int32 × Int32 × Int32) → Prop) (B111_2 : Int32 → Int32 → Int32 → Int32 → Int32 → Prop) : Nat → Int32 → Int32 → Int32 → Prop
  | 0, _, _, _ => False
  | n150 + 1, t150_0, t150_1, t150_2 => ((t150_1 = t150_0 → (∀ v227 : Int32, v227 = (t111_3 ||| t150_0) → (wX9_offer i0 i1 i2 i3 i4 i5 i6 i7 t111_0 t111_1 t111_2 i11 i12 i13 i14 i15 i16 i17 f19 t150_2 t150_0 (fun u232 => B111_2 (u232.1) (u232.2.1) (u232.2.2) v227 (t111_4 + 1))))) ∧ (¬ t150_1 = t150_0 → (∃ n162, wLX9_findPiece_162 i3 i5 f18 t150_0 K (fun z0 z1 z2 => (wLX9_findPiece_150 i0 i1 i2 i3 i4 i5 i6 i7 i11 i12 i13 i14 i15 i16 i17 f18 f19 t111_0 t111_1 t111_2 t111_3 t111_4 K B111_2 n150) z0 z1 z2) n162 t150_0 t150_2 0)))
def wLX9_findPiece_111 (i0 : Int32) (i1 : Int32) (i2 : Int32) (i3 : Int32) (i4 : Int32) (i5 : Int32) (i6 : Int32) (i7 : Int32) (i11 : Int32) (i12 : Int32) (i13 : Int32) (i14 : Int32) (i15 : Int32) (i16 : Int32) (i17 : Int32) (f18 : Nat → Int32) (f19 : Nat → Int32) (K : (Int32 × Int32 × Int32) → Prop)  : Nat → Int32 → Int32 → Int32 → Int32 → Int32 → Prop
  | 0, _, _, _, _, _ => False
  | n111 + 1, t111_0, t111_1, t111_2, t111_3, t111_4 => ((i3 ≤ t111_4 → K (t111_0, t111_1, t111_2)) ∧ (¬ i3 ≤ t111_4 → (vp_in t111_4 21 ∧ (((f18 (Int32.toNatClampNeg t111_4)) = 0 → (wLX9_findPiece_111 i0 i1 i2 i3 i4 i5 i6 i7 i11 i12 i13 i14 i15 i16 i17 f18 f19 K  n111) t111_0 t111_1 t111_2 t111_3 (t111_4 + 1)) ∧ (¬ (f18 (Int32.toNatClampNeg t111_4)) = 0 → ((¬ ((t111_3 >>> (t111_4 &&& 31)) &&& 1) = 1 → (∀ v143 : Int32, v143 = ((1 : Int32) <<< (t111_4 &&& 31)) → (∃ n150, wLX9_findPiece_150 i0 i1 i2 i3 i4 i5 i6 i7 i11 i12 i13 i14 i15 i16 i17 f18 f19 t111_0 t111_1 t111_2 t111_3 t111_4 K (fun z0 z1 z2 z3 z4 => (wLX9_findPiece_111 i0 i1 i2 i3 i4 i5 i6 i7 i11 i12 i13 i14 i15 i16 i17 f18 f19 K  n111) z0 z1 z2 z3 z4) n150 v143 0 0))) ∧ (((t111_3 >>> (t111_4 &&& 31)) &&& 1) = 1 → (wLX9_findPiece_111 i0 i1 i2 i3 i4 i5 i6 i7 i11 i12 i13 i14 i15 i16 i17 f18 f19 K  n111) t111_0 t111_1 t111_2 t111_3 (t111_4 + 1))))))))
def wLX9_findPiece_21 (i0 : Int32) (i1 : Int32) (i2 : Int32) (i3 : Int32) (i4 : Int32) (i5 : Int32) (i6 : Int32) (i7 : Int32) (i11 : Int32) (i12 : Int32) (i13 : Int32) (i14 : Int32) (i15 : Int32) (i16 : Int32) (i17 : Int32) (f18 : Nat → Int32) (f19 : Nat → Int32) (f20 : Nat → Int32) (t9_3 : Int32) (K : (Int32 × Int32 × Int32) → Prop) (B9_1 : Int32 → Int32 → Int32 → Int32 → Prop) : Nat → Int32 → Int32 → Int32 → Int32 → Prop
  | 0, _, _, _, _ => False
  | n21 + 1, t21_0, t21_1, t21_2, t21_3 => ((i3 ≤ t21_3 → B9_1 t21_0 t21_1 t21_2 (t9_3 + 1)) ∧ (¬ i3 ≤ t21_3 → ((¬ ((i5 >>> (t9_3 &&& 31)) &&& 1) = 1 → (wLX9_findPiece_21 i0 i1 i2 i3 i4 i5 i6 i7 i11 i12 i13 i14 i15 i16 i17 f18 f19 f20 t9_3 K B9_1 n21) t21_0 t21_1 t21_2 (t21_3 + 1)) ∧ (((i5 >>> (t9_3 &&& 31)) &&& 1) = 1 → ((¬ ((i5 >>> (t21_3 &&& 31)) &&& 1) = 1 → (wLX9_findPiece_21 i0 i1 i2 i3 i4 i5 i6 i7 i11 i12 i13 i14 i15 i16 i17 f18 f19 f20 t9_3 K B9_1 n21) t21_0 t21_1 t21_2 (t21_3 + 1)) ∧ (((i5 >>> (t21_3 &&& 31)) &&& 1) = 1 → (vp_in t9_3 21 ∧ ((¬ (((f18 (Int32.toNatClampNeg t9_3)) >>> (t21_3 &&& 31)) &&& 1) = 1 → (wLX9_findPiece_21 i0 i1 i2 i3 i4 i5 i6 i7 i11 i12 i13 i14 i15 i16 i17 f18 f19 f20 t9_3 K B9_1 n21) t21_0 t21_1 t21_2 (t21_3 + 1)) ∧ ((((f18 (Int32.toNatClampNeg t9_3)) >>> (t21_3 &&& 31)) &&& 1) = 1 → (vp_in t9_3 21 ∧ ((¬ (((f20 (Int32.toNatClampNeg t9_3)) >>> (t21_3 &&& 31)) &&& 1) = 0 → (wLX9_findPiece_21 i0 i1 i2 i3 i4 i5 i6 i7 i11 i12 i13 i14 i15 i16 i17 f18 f19 f20 t9_3 K B9_1 n21) t21_0 t21_1 t21_2 (t21_3 + 1)) ∧ ((((f20 (Int32.toNatClampNeg t9_3)) >>> (t21_3 &&& 31)) &&& 1) = 0 → (wX9_offer i0 i1 i2 i3 i4 i5 i6 i7 t21_0 t21_1 t21_2 i11 i12 i13 i14 i15 i16 i17 f19 (((1 : Int32) <<< (t9_3 &&& 31)) ||| ((1 : Int32) <<< (t21_3 &&& 31))) (0 : Int32) (fun u89 => (wLX9_findPiece_21 i0 i1 i2 i3 i4 i5 i6 i7 i11 i12 i13 i14 i15 i16 i17 f18 f19 f20 t9_3 K B9_1 n21) (u89.1) (u89.2.1) (u89.2.2) (t21_3 + 1)))))))))))))))
def wLX9_findPiece_9 (i0 : Int32) (i1 : Int32) (i2 : Int32) (i3 : Int32) (i4 : Int32) (i5 : Int32) (i6 : Int32) (i7 : Int32) (i11 : Int32) (i12 : Int32) (i13 : Int32) (i14 : Int32) (i15 : Int32) (i16 : Int32) (i17 : Int32) (f18 : Nat → Int32) (f19 : Nat → Int32) (f20 : Nat → Int32) (K : (Int32 × Int32 × Int32) → Prop)  : Nat → Int32 → Int32 → Int32 → Int32 → Prop
  | 0, _, _, _, _ => False
  | n9 + 1, t9_0, t9_1, t9_2, t9_3 => ((i3 ≤ t9_3 → (∃ n111, wLX9_findPiece_111 i0 i1 i2 i3 i4 i5 i6 i7 i11 i12 i13 i14 i15 i16 i17 f18 f19 K  n111 t9_0 t9_1 t9_2 i5 0)) ∧ (¬ i3 ≤ t9_3 → (∀ v20 : Int32, v20 = (t9_3 + 1) → (∃ n21, wLX9_findPiece_21 i0 i1 i2 i3 i4 i5 i6 i7 i11 i12 i13 i14 i15 i16 i17 f18 f19 f20 t9_3 K (fun z0 z1 z2 z3 => (wLX9_findPiece_9 i0 i1 i2 i3 i4 i5 i6 i7 i11 i12 i13 i14 i15 i16 i17 f18 f19 f20 K  n9) z0 z1 z2 z3) n21 t9_0 t9_1 t9_2 v20))))
def wX9_findPiece (i0 : Int32) (i1 : Int32) (i2 : Int32) (i3 : Int32) (i4 : Int32) (i5 : Int32) (i6 : Int32) (i7 : Int32) (i8 : Int32) (i9 : Int32) (i10 : Int32) (i11 : Int32) (i12 : Int32) (i13 : Int32) (i14 : Int32) (i15 : Int32) (i16 : Int32) (i17 : Int32) (f18 : Nat → Int32) (f19 : Nat → Int32) (f20 : Nat → Int32) (K : (Int32 × Int32 × Int32) → Prop) : Prop := (∃ n9, wLX9_findPiece_9 i0 i1 i2 i3 i4 i5 i6 i7 i11 i12 i13 i14 i15 i16 i17 f18 f19 f20 K  n9 i8 i9 1000 0)
set_option maxHeartbeats 4000000 in
set_option maxRecDepth 100000 in
theorem zX9_findPiece (l : Launch) (G : va_G) (cI cJ cZ : ClassId) (h0 h1 h2 h3 k0 k1 k2 k3 k4 k5 k6 k7 k8 k9 k10 k11 k12 k13 k14 k15 k16 k17 k18 k19 k20 k21 k22 k23 k24 k25 k26 k27 k28 k29 k30 k31 k32 k33 k34 k35 k36 sz : Nat) (i0 : Int32) (i1 : Int32) (i2 : Int32) (i3 : Int32) (i4 : Int32) (i5 : Int32) (i6 : Int32) (i7 : Int32) (i8 : Int32) (i9 : Int32) (i10 : Int32) (i11 : Int32) (i12 : Int32) (i13 : Int32) (i14 : Int32) (i15 : Int32) (i16 : Int32) (i17 : Int32) (f18 : Nat → Int32) (f19 : Nat → Int32) (f20 : Nat → Int32) (K : (Int32 × Int32 × Int32) → Prop) (hwp : wX9_findPiece i0 i1 i2 i3 i4 i5 i6 i7 i8 i9 i10 i11 i12 i13 i14 i15 i16 i17 f18 f19 f20 K) : Met l yX9_findPiece (xw yX9_findPiece cX9_findPiece 7 none) ({ frames := 1, cells := 0, slots := 0, locals := 24 }) (xPc G cI cJ cZ [.ref h0] [(h0, .inr (9, [.int i0, .int i1, .ref k0, .ref k1, .ref k2, .ref k3, .ref k4, .int i2, .ref k5, .int i3, .ref k6, .ref k7, .ref k8, .int i4, .ref h1, .ref h3, .int i5, .ref k9, .ref k10, .ref h2, .int i6, .ref k11, .int i7, .ref k12, .ref k13, .int i8, .int i9, .int i10, .ref k14, .int i11, .ref k15, .ref k16, .ref k17, .ref k18, .ref k19, .ref k20, .ref k21, .ref k22, .ref k23, .ref k24, .ref k25, .ref k26, .ref k27, .ref k28, .ref k29, .int i12, .int i13, .int i14, .int i15, .int i16, .ref k30, .ref k31, .ref k32, .ref k33, .ref k34, .ref k35, .int i17, .ref k36])), (h1, aI cI 21 f18), (h2, aI cI 120 f19), (h3, aI cI 21 f20)] sz) (va_Qv (fun (u : Int32 × Int32 × Int32) => K u) (fun (u : Int32 × Int32 × Int32) t => xB G (va_A [(h0, .inr (9, [.int i0, .int i1, .ref k0, .ref k1, .ref k2, .ref k3, .ref k4, .int i2, .ref k5, .int i3, .ref k6, .ref k7, .ref k8, .int i4, .ref h1, .ref h3, .int i5, .ref k9, .ref k10, .ref h2, .int i6, .ref k11, .int i7, .ref k12, .ref k13, .int i8, .int i9, .int i10, .ref k14, .int i11, .ref k15, .ref k16, .ref k17, .ref k18, .ref k19, .ref k20, .ref k21, .ref k22, .ref k23, .ref k24, .ref k25, .ref k26, .ref k27, .ref k28, .ref k29, .int i12, .int i13, .int i14, .int i15, .int i16, .ref k30, .ref k31, .ref k32, .ref k33, .ref k34, .ref k35, .int i17, .ref k36])), (h1, aI cI 21 f18), (h2, aI cI 120 f19), (h3, aI cI 21 f20)] sz) [(h0, .inr (9, [.int i0, .int i1, .ref k0, .ref k1, .ref k2, .ref k3, .ref k4, .int i2, .ref k5, .int i3, .ref k6, .ref k7, .ref k8, .int i4, .ref h1, .ref h3, .int i5, .ref k9, .ref k10, .ref h2, .int i6, .ref k11, .int i7, .ref k12, .ref k13, .int u.1, .int u.2.1, .int u.2.2, .ref k14, .int i11, .ref k15, .ref k16, .ref k17, .ref k18, .ref k19, .ref k20, .ref k21, .ref k22, .ref k23, .ref k24, .ref k25, .ref k26, .ref k27, .ref k28, .ref k29, .int i12, .int i13, .int i14, .int i15, .int i16, .ref k30, .ref k31, .ref k32, .ref k33, .ref k34, .ref k35, .int i17, .ref k36])), (h1, aI cI 21 f18), (h2, aI cI 120 f19), (h3, aI cI 21 f20)] t) (va_A [(h0, .inr (9, [.int i0, .int i1, .ref k0, .ref k1, .ref k2, .ref k3, .ref k4, .int i2, .ref k5, .int i3, .ref k6, .ref k7, .ref k8, .int i4, .ref h1, .ref h3, .int i5, .ref k9, .ref k10, .ref h2, .int i6, .ref k11, .int i7, .ref k12, .ref k13, .int i8, .int i9, .int i10, .ref k14, .int i11, .ref k15, .ref k16, .ref k17, .ref k18, .ref k19, .ref k20, .ref k21, .ref k22, .ref k23, .ref k24, .ref k25, .ref k26, .ref k27, .ref k28, .ref k29, .int i12, .int i13, .int i14, .int i15, .int i16, .ref k30, .ref k31, .ref k32, .ref k33, .ref k34, .ref k35, .int i17, .ref k36])), (h1, aI cI 21 f18), (h2, aI cI 120 f19), (h3, aI cI 21 f20)] sz)) 0 0 (va_A [(h0, .inr (9, [.int i0, .int i1, .ref k0, .ref k1, .ref k2, .ref k3, .ref k4, .int i2, .ref k5, .int i3, .ref k6, .ref k7, .ref k8, .int i4, .ref h1, .ref h3, .int i5, .ref k9, .ref k10, .ref h2, .int i6, .ref k11, .int i7, .ref k12, .ref k13, .int i8, .int i9, .int i10, .ref k14, .int i11, .ref k15, .ref k16, .ref k17, .ref k18, .ref k19, .ref k20, .ref k21, .ref k22, .ref k23, .ref k24, .ref k25, .ref k26, .ref k27, .ref k28, .ref k29, .int i12, .int i13, .int i14, .int i15, .int i16, .ref k30, .ref k31, .ref k32, .ref k33, .ref k34, .ref k35, .int i17, .ref k36])), (h1, aI cI 21 f18), (h2, aI cI 120 f19), (h3, aI cI 21 f20)] sz) := by
  refine Met.ofW (cc := cX9_findPiece) (maxL := 7) (ret := none) (by decide) rfl ?_
  intro p e s m args below meth c s₁ B hml hv
  obtain ⟨rfl, hsz, hP, hK, hD0, hN⟩ := hv
  have hx := B.exec
  have hb := B.bytes
  have hr := B.returns
  have hts : ∀ w ∈ xW, w.before _ s = true := fun w h => atoms_spec (ws := xw yX9_findPiece cX9_findPiece 7 none) B.pre w (List.mem_cons_of_mem _ h)
  have hown : s.vm.findClass RX9 = some m.cls := findClass_of_methodNamed B.named
  have hlocks := B.notSynchronized
  subst hsz
  have hD := hD0.self (sz := s.heap.size)
  clear hD0
  generalize hAe : va_A [(h0, .inr (9, [.int i0, .int i1, .ref k0, .ref k1, .ref k2, .ref k3, .ref k4, .int i2, .ref k5, .int i3, .ref k6, .ref k7, .ref k8, .int i4, .ref h1, .ref h3, .int i5, .ref k9, .ref k10, .ref h2, .int i6, .ref k11, .int i7, .ref k12, .ref k13, .int i8, .int i9, .int i10, .ref k14, .int i11, .ref k15, .ref k16, .ref k17, .ref k18, .ref k19, .ref k20, .ref k21, .ref k22, .ref k23, .ref k24, .ref k25, .ref k26, .ref k27, .ref k28, .ref k29, .int i12, .int i13, .int i14, .int i15, .int i16, .ref k30, .ref k31, .ref k32, .ref k33, .ref k34, .ref k35, .int i17, .ref k36])), (h1, aI cI 21 f18), (h2, aI cI 120 f19), (h3, aI cI 21 f20)] s.heap.size = A at hD ⊢
  have hA : ∀ q : Nat, s.heap.size ≤ q → A q := fun q h => by rw [← hAe]; exact Or.inr h
  clear hAe
  have hS : va_S A s.heap s.heap [] := va_S.rf
  replace hP : va_P G vwCl [(h0, .inr (9, [.int i0, .int i1, .ref k0, .ref k1, .ref k2, .ref k3, .ref k4, .int i2, .ref k5, .int i3, .ref k6, .ref k7, .ref k8, .int i4, .ref h1, .ref h3, .int i5, .ref k9, .ref k10, .ref h2, .int i6, .ref k11, .int i7, .ref k12, .ref k13, .int i8, .int i9, .int i10, .ref k14, .int i11, .ref k15, .ref k16, .ref k17, .ref k18, .ref k19, .ref k20, .ref k21, .ref k22, .ref k23, .ref k24, .ref k25, .ref k26, .ref k27, .ref k28, .ref k29, .int i12, .int i13, .int i14, .int i15, .int i16, .ref k30, .ref k31, .ref k32, .ref k33, .ref k34, .ref k35, .int i17, .ref k36])), (h1, aI cI 21 f18), (h2, aI cI 120 f19), (h3, aI cI 21 f20)] s.heap := hP
  have hl := lv_entry ([.ref h0]) (n := 7) (Nat.le_of_ble_eq_true rfl)
  rw [lg_entry_eq]
  generalize (lg_sl ([.ref h0]) ++ List.replicate (7 - (lg_sl ([.ref h0])).length) Slot.unset).toArray = ls at hl ⊢
  replace hl : lv_has ls 7 [(0, .ref h0)] := hl
  generalize hQQ : MQ below _ _ s 0 0 _ = QQ
  skip
  unfold wX9_findPiece at hwp
  refine lv_aload_n hx hb dX9_findPiece_0 rfl (lv_at hl 0 rfl) ?_
  refine lv_sipush (v := 1000) hx hb dX9_findPiece_1 (by decide) ?_
  refine va_put (D := G) (ci := 9) (v := .int 1000) (ty := .int) (C := RX9) (T := TX9) (N := 58) hx hb hts xinX9 tyX9 tyX9_ok nmX9 hown hK hP hD hS 0 rfl rfl 27 (by decide) (hts _ wo_490) (fun _ h9 => h9) rfl (by decide +kernel) rfl rfl (Nat.le_of_ble_eq_true rfl) dX9_findPiece_4 (fun H locs hP hD hS => ?_)
  replace hP : va_P G vwCl [(h0, .inr (9, [.int i0, .int i1, .ref k0, .ref k1, .ref k2, .ref k3, .ref k4, .int i2, .ref k5, .int i3, .ref k6, .ref k7, .ref k8, .int i4, .ref h1, .ref h3, .int i5, .ref k9, .ref k10, .ref h2, .int i6, .ref k11, .int i7, .ref k12, .ref k13, .int i8, .int i9, .int 1000, .ref k14, .int i11, .ref k15, .ref k16, .ref k17, .ref k18, .ref k19, .ref k20, .ref k21, .ref k22, .ref k23, .ref k24, .ref k25, .ref k26, .ref k27, .ref k28, .ref k29, .int i12, .int i13, .int i14, .int i15, .int i16, .ref k30, .ref k31, .ref k32, .ref k33, .ref k34, .ref k35, .int i17, .ref k36])), (h1, aI cI 21 f18), (h2, aI cI 120 f19), (h3, aI cI 21 f20)] H := hP
  replace hD : va_D A [(h0, .inr (9, [.int i0, .int i1, .ref k0, .ref k1, .ref k2, .ref k3, .ref k4, .int i2, .ref k5, .int i3, .ref k6, .ref k7, .ref k8, .int i4, .ref h1, .ref h3, .int i5, .ref k9, .ref k10, .ref h2, .int i6, .ref k11, .int i7, .ref k12, .ref k13, .int i8, .int i9, .int 1000, .ref k14, .int i11, .ref k15, .ref k16, .ref k17, .ref k18, .ref k19, .ref k20, .ref k21, .ref k22, .ref k23, .ref k24, .ref k25, .ref k26, .ref k27, .ref k28, .ref k29, .int i12, .int i13, .int i14, .int i15, .int i16, .ref k30, .ref k31, .ref k32, .ref k33, .ref k34, .ref k35, .int i17, .ref k36])), (h1, aI cI 21 f18), (h2, aI cI 120 f19), (h3, aI cI 21 f20)] := hD
  refine lv_iconst (v := 0) hx hb dX9_findPiece_7 (by decide) ?_
  refine lv_istore_n (lv' := [(1, .int 0), (0, .ref h0)]) hx hb dX9_findPiece_8 rfl hl (by decide) rfl (fun ls hl => ?_)
  replace hl : lv_has ls 7 [(1, .int 0), (0, .ref h0)] := lv_sub hl [0, 1] rfl
  obtain ⟨n1, hwp⟩ := hwp
  have hs1 : ∀ (n1 : Nat) (H : Heap) (locs : List Loc) (ls : Array Slot) (t9_0 : Int32) (t9_1 : Int32) (t9_2 : Int32) (t9_3 : Int32), wLX9_findPiece_9 i0 i1 i2 i3 i4 i5 i6 i7 i11 i12 i13 i14 i15 i16 i17 f18 f19 f20 K  n1 t9_0 t9_1 t9_2 t9_3 → va_P G vwCl [(h0, .inr (9, [.int i0, .int i1, .ref k0, .ref k1, .ref k2, .ref k3, .ref k4, .int i2, .ref k5, .int i3, .ref k6, .ref k7, .ref k8, .int i4, .ref h1, .ref h3, .int i5, .ref k9, .ref k10, .ref h2, .int i6, .ref k11, .int i7, .ref k12, .ref k13, .int t9_0, .int t9_1, .int t9_2, .ref k14, .int i11, .ref k15, .ref k16, .ref k17, .ref k18, .ref k19, .ref k20, .ref k21, .ref k22, .ref k23, .ref k24, .ref k25, .ref k26, .ref k27, .ref k28, .ref k29, .int i12, .int i13, .int i14, .int i15, .int i16, .ref k30, .ref k31, .ref k32, .ref k33, .ref k34, .ref k35, .int i17, .ref k36])), (h1, aI cI 21 f18), (h2, aI cI 120 f19), (h3, aI cI 21 f20)] H → va_D A [(h0, .inr (9, [.int i0, .int i1, .ref k0, .ref k1, .ref k2, .ref k3, .ref k4, .int i2, .ref k5, .int i3, .ref k6, .ref k7, .ref k8, .int i4, .ref h1, .ref h3, .int i5, .ref k9, .ref k10, .ref h2, .int i6, .ref k11, .int i7, .ref k12, .ref k13, .int t9_0, .int t9_1, .int t9_2, .ref k14, .int i11, .ref k15, .ref k16, .ref k17, .ref k18, .ref k19, .ref k20, .ref k21, .ref k22, .ref k23, .ref k24, .ref k25, .ref k26, .ref k27, .ref k28, .ref k29, .int i12, .int i13, .int i14, .int i15, .int i16, .ref k30, .ref k31, .ref k32, .ref k33, .ref k34, .ref k35, .int i17, .ref k36])), (h1, aI cI 21 f18), (h2, aI cI 120 f19), (h3, aI cI 21 f20)] → va_S A s.heap H locs → lv_has ls 7 [(1, .int t9_3), (0, .ref h0)] → W p l e ((headSpec (xw yX9_findPiece cX9_findPiece 7 none) { frames := 1, cells := 0, slots := 0, locals := 24 }).room) s m ([.ref h0] : List Value).toArray below meth c H locs 0 0 QQ (F0 m 9 ls []) := by
    intro n1
    induction n1 with
    | zero => intro H locs ls t9_0 t9_1 t9_2 t9_3 hwp; exact False.elim hwp
    | succ n1 ih1 =>
      intro H locs ls t9_0 t9_1 t9_2 t9_3 hwp hP hD hS hl
      rw [wLX9_findPiece_9] at hwp
      refine lv_iload_n hx hb dX9_findPiece_9 rfl (lv_at hl 0 rfl) ?_
      refine lv_aload_n hx hb dX9_findPiece_10 rfl (lv_at hl 1 rfl) ?_
      refine va_get (D := G) (ci := 9) (v := .int i3) (C := RX9) (T := TX9) (N := 58) hx hb hts xinX9 hown hK hP 0 rfl rfl 9 (by decide) (hts _ wo_444) (fun _ h9 => h9) rfl dX9_findPiece_11 ?_
      refine lv_icmp_ge (tgt := 104) hx hb dX9_findPiece_14 (by decide) (fun c14 => ?_) (fun c14 => ?_)
      · replace hwp := hwp.1 c14
        refine lv_aload_n hx hb dX9_findPiece_104 rfl (lv_at hl 1 rfl) ?_
        refine va_get (D := G) (ci := 9) (v := .int i5) (C := RX9) (T := TX9) (N := 58) hx hb hts xinX9 hown hK hP 0 rfl rfl 16 (by decide) (hts _ wo_473) (fun _ h9 => h9) rfl dX9_findPiece_105 ?_
        refine lv_istore_n (lv' := [(1, .int i5), (0, .ref h0)]) hx hb dX9_findPiece_108 rfl hl (by decide) rfl (fun ls hl => ?_)
        refine lv_iconst (v := 0) hx hb dX9_findPiece_109 (by decide) ?_
        refine lv_istore_n (lv' := [(2, .int 0), (1, .int i5), (0, .ref h0)]) hx hb dX9_findPiece_110 rfl hl (by decide) rfl (fun ls hl => ?_)
        replace hl : lv_has ls 7 [(2, .int 0), (1, .int i5), (0, .ref h0)] := lv_sub hl [0, 1, 2] rfl
        obtain ⟨n2, hwp⟩ := hwp
        have hs2 : ∀ (n2 : Nat) (H : Heap) (locs : List Loc) (ls : Array Slot) (t111_0 : Int32) (t111_1 : Int32) (t111_2 : Int32) (t111_3 : Int32) (t111_4 : Int32), wLX9_findPiece_111 i0 i1 i2 i3 i4 i5 i6 i7 i11 i12 i13 i14 i15 i16 i17 f18 f19 K  n2 t111_0 t111_1 t111_2 t111_3 t111_4 → va_P G vwCl [(h0, .inr (9, [.int i0, .int i1, .ref k0, .ref k1, .ref k2, .ref k3, .ref k4, .int i2, .ref k5, .int i3, .ref k6, .ref k7, .ref k8, .int i4, .ref h1, .ref h3, .int i5, .ref k9, .ref k10, .ref h2, .int i6, .ref k11, .int i7, .ref k12, .ref k13, .int t111_0, .int t111_1, .int t111_2, .ref k14, .int i11, .ref k15, .ref k16, .ref k17, .ref k18, .ref k19, .ref k20, .ref k21, .ref k22, .ref k23, .ref k24, .ref k25, .ref k26, .ref k27, .ref k28, .ref k29, .int i12, .int i13, .int i14, .int i15, .int i16, .ref k30, .ref k31, .ref k32, .ref k33, .ref k34, .ref k35, .int i17, .ref k36])), (h1, aI cI 21 f18), (h2, aI cI 120 f19), (h3, aI cI 21 f20)] H → va_D A [(h0, .inr (9, [.int i0, .int i1, .ref k0, .ref k1, .ref k2, .ref k3, .ref k4, .int i2, .ref k5, .int i3, .ref k6, .ref k7, .ref k8, .int i4, .ref h1, .ref h3, .int i5, .ref k9, .ref k10, .ref h2, .int i6, .ref k11, .int i7, .ref k12, .ref k13, .int t111_0, .int t111_1, .int t111_2, .ref k14, .int i11, .ref k15, .ref k16, .ref k17, .ref k18, .ref k19, .ref k20, .ref k21, .ref k22, .ref k23, .ref k24, .ref k25, .ref k26, .ref k27, .ref k28, .ref k29, .int i12, .int i13, .int i14, .int i15, .int i16, .ref k30, .ref k31, .ref k32, .ref k33, .ref k34, .ref k35, .int i17, .ref k36])), (h1, aI cI 21 f18), (h2, aI cI 120 f19), (h3, aI cI 21 f20)] → va_S A s.heap H locs → lv_has ls 7 [(2, .int t111_4), (1, .int t111_3), (0, .ref h0)] → W p l e ((headSpec (xw yX9_findPiece cX9_findPiece 7 none) { frames := 1, cells := 0, slots := 0, locals := 24 }).room) s m ([.ref h0] : List Value).toArray below meth c H locs 0 0 QQ (F0 m 111 ls []) := by
          intro n2
          induction n2 with
          | zero => intro H locs ls t111_0 t111_1 t111_2 t111_3 t111_4 hwp; exact False.elim hwp
          | succ n2 ih2 =>
            intro H locs ls t111_0 t111_1 t111_2 t111_3 t111_4 hwp hP hD hS hl
            rw [wLX9_findPiece_111] at hwp
            refine lv_iload_n hx hb dX9_findPiece_111 rfl (lv_at hl 0 rfl) ?_
            refine lv_aload_n hx hb dX9_findPiece_112 rfl (lv_at hl 2 rfl) ?_
            refine va_get (D := G) (ci := 9) (v := .int i3) (C := RX9) (T := TX9) (N := 58) hx hb hts xinX9 hown hK hP 0 rfl rfl 9 (by decide) (hts _ wo_444) (fun _ h9 => h9) rfl dX9_findPiece_113 ?_
            refine lv_icmp_ge (tgt := 241) hx hb dX9_findPiece_116 (by decide) (fun c116 => ?_) (fun c116 => ?_)
            · replace hwp := hwp.1 c116
              have hP9 : va_P G vwCl [(h0, .inr (9, [.int i0, .int i1, .ref k0, .ref k1, .ref k2, .ref k3, .ref k4, .int i2, .ref k5, .int i3, .ref k6, .ref k7, .ref k8, .int i4, .ref h1, .ref h3, .int i5, .ref k9, .ref k10, .ref h2, .int i6, .ref k11, .int i7, .ref k12, .ref k13, .int t111_0, .int t111_1, .int t111_2, .ref k14, .int i11, .ref k15, .ref k16, .ref k17, .ref k18, .ref k19, .ref k20, .ref k21, .ref k22, .ref k23, .ref k24, .ref k25, .ref k26, .ref k27, .ref k28, .ref k29, .int i12, .int i13, .int i14, .int i15, .int i16, .ref k30, .ref k31, .ref k32, .ref k33, .ref k34, .ref k35, .int i17, .ref k36])), (h1, aI cI 21 f18), (h2, aI cI 120 f19), (h3, aI cI 21 f20)] H := hP.sub [0, 1, 2, 3] rfl
              have hD9 : va_D A [(h0, .inr (9, [.int i0, .int i1, .ref k0, .ref k1, .ref k2, .ref k3, .ref k4, .int i2, .ref k5, .int i3, .ref k6, .ref k7, .ref k8, .int i4, .ref h1, .ref h3, .int i5, .ref k9, .ref k10, .ref h2, .int i6, .ref k11, .int i7, .ref k12, .ref k13, .int t111_0, .int t111_1, .int t111_2, .ref k14, .int i11, .ref k15, .ref k16, .ref k17, .ref k18, .ref k19, .ref k20, .ref k21, .ref k22, .ref k23, .ref k24, .ref k25, .ref k26, .ref k27, .ref k28, .ref k29, .int i12, .int i13, .int i14, .int i15, .int i16, .ref k30, .ref k31, .ref k32, .ref k33, .ref k34, .ref k35, .int i17, .ref k36])), (h1, aI cI 21 f18), (h2, aI cI 120 f19), (h3, aI cI 21 f20)] := hD.sub [0, 1, 2, 3] (by decide) rfl
              rw [← hQQ]
              exact W.vret hx hb hr (fun t ht hW => ⟨⟨(t111_0, t111_1, t111_2), rfl, hwp, by rw [ht]; exact hP9, hD9⟩, hS.F ht⟩) hS.2.2 dX9_findPiece_241
            · replace hwp := hwp.2 c116
              refine lv_aload_n hx hb dX9_findPiece_119 rfl (lv_at hl 2 rfl) ?_
              refine va_get (D := G) (ci := 9) (v := .ref h1) (C := RX9) (T := TX9) (N := 58) hx hb hts xinX9 hown hK hP 0 rfl rfl 14 (by decide) (hts _ wo_467) (fun _ h9 => h9) rfl dX9_findPiece_120 ?_
              refine lv_iload_n hx hb dX9_findPiece_123 rfl (lv_at hl 0 rfl) ?_
              obtain ⟨hi, hwp⟩ := hwp
              refine va_iald hx hb hK hP 1 0 rfl rfl hi dX9_findPiece_124 ?_
              refine lv_if_eq (tgt := 235) hx hb dX9_findPiece_125 (by decide) (fun c125 => ?_) (fun c125 => ?_)
              · replace hwp := hwp.1 c125
                refine lv_iinc (v := (t111_4 + 1)) (lv' := [(2, .int (t111_4 + 1)), (1, .int t111_3), (0, .ref h0)]) hx hb dX9_findPiece_235 hl (k := 0) rfl rfl (by decide) rfl (fun ls hl => ?_)
                refine lv_goto (tgt := 111) hx hb dX9_findPiece_238 (by decide) ?_
                replace hl : lv_has ls 7 [(2, .int (t111_4 + 1)), (1, .int t111_3), (0, .ref h0)] := lv_sub hl [0, 1, 2] rfl
                exact ih2 H locs ls t111_0 t111_1 t111_2 t111_3 (t111_4 + 1) hwp hP hD hS hl
              · replace hwp := hwp.2 c125
                refine lv_iload_n hx hb dX9_findPiece_128 rfl (lv_at hl 1 rfl) ?_
                refine lv_iload_n hx hb dX9_findPiece_129 rfl (lv_at hl 0 rfl) ?_
                refine lv_ishr hx hb dX9_findPiece_130 ?_
                refine lv_iconst (v := 1) hx hb dX9_findPiece_131 (by decide) ?_
                refine lv_iand hx hb dX9_findPiece_132 ?_
                refine lv_iconst (v := 1) hx hb dX9_findPiece_133 (by decide) ?_
                refine lv_icmp_ne (tgt := 140) hx hb dX9_findPiece_134 (by decide) (fun c134 => ?_) (fun c134 => ?_)
                · replace hwp := hwp.1 c134
                  refine lv_iconst (v := 1) hx hb dX9_findPiece_140 (by decide) ?_
                  refine lv_iload_n hx hb dX9_findPiece_141 rfl (lv_at hl 0 rfl) ?_
                  refine lv_ishl hx hb dX9_findPiece_142 ?_
                  refine lv_topi (fun v143 ev143 => ?_)
                  replace hwp := hwp v143 ev143
                  clear ev143
                  refine lv_istore_n (lv' := [(3, .int v143), (2, .int t111_4), (1, .int t111_3), (0, .ref h0)]) hx hb dX9_findPiece_143 rfl hl (by decide) rfl (fun ls hl => ?_)
                  refine lv_iconst (v := 0) hx hb dX9_findPiece_144 (by decide) ?_
                  refine lv_istore (lv' := [(4, .int 0), (3, .int v143), (2, .int t111_4), (1, .int t111_3), (0, .ref h0)]) hx hb dX9_findPiece_145 hl (by decide) rfl (fun ls hl => ?_)
                  refine lv_iconst (v := 0) hx hb dX9_findPiece_147 (by decide) ?_
                  refine lv_istore (lv' := [(5, .int 0), (4, .int 0), (3, .int v143), (2, .int t111_4), (1, .int t111_3), (0, .ref h0)]) hx hb dX9_findPiece_148 hl (by decide) rfl (fun ls hl => ?_)
                  replace hl : lv_has ls 7 [(5, .int 0), (4, .int 0), (3, .int v143), (2, .int t111_4), (1, .int t111_3), (0, .ref h0)] := lv_sub hl [0, 1, 2, 3, 4, 5] rfl
                  obtain ⟨n3, hwp⟩ := hwp
                  have hs3 : ∀ (n3 : Nat) (H : Heap) (locs : List Loc) (ls : Array Slot) (t150_0 : Int32) (t150_1 : Int32) (t150_2 : Int32), wLX9_findPiece_150 i0 i1 i2 i3 i4 i5 i6 i7 i11 i12 i13 i14 i15 i16 i17 f18 f19 t111_0 t111_1 t111_2 t111_3 t111_4 K (fun z0 z1 z2 z3 z4 => wLX9_findPiece_111 i0 i1 i2 i3 i4 i5 i6 i7 i11 i12 i13 i14 i15 i16 i17 f18 f19 K  n2 z0 z1 z2 z3 z4) n3 t150_0 t150_1 t150_2 → va_P G vwCl [(h0, .inr (9, [.int i0, .int i1, .ref k0, .ref k1, .ref k2, .ref k3, .ref k4, .int i2, .ref k5, .int i3, .ref k6, .ref k7, .ref k8, .int i4, .ref h1, .ref h3, .int i5, .ref k9, .ref k10, .ref h2, .int i6, .ref k11, .int i7, .ref k12, .ref k13, .int t111_0, .int t111_1, .int t111_2, .ref k14, .int i11, .ref k15, .ref k16, .ref k17, .ref k18, .ref k19, .ref k20, .ref k21, .ref k22, .ref k23, .ref k24, .ref k25, .ref k26, .ref k27, .ref k28, .ref k29, .int i12, .int i13, .int i14, .int i15, .int i16, .ref k30, .ref k31, .ref k32, .ref k33, .ref k34, .ref k35, .int i17, .ref k36])), (h1, aI cI 21 f18), (h2, aI cI 120 f19), (h3, aI cI 21 f20)] H → va_D A [(h0, .inr (9, [.int i0, .int i1, .ref k0, .ref k1, .ref k2, .ref k3, .ref k4, .int i2, .ref k5, .int i3, .ref k6, .ref k7, .ref k8, .int i4, .ref h1, .ref h3, .int i5, .ref k9, .ref k10, .ref h2, .int i6, .ref k11, .int i7, .ref k12, .ref k13, .int t111_0, .int t111_1, .int t111_2, .ref k14, .int i11, .ref k15, .ref k16, .ref k17, .ref k18, .ref k19, .ref k20, .ref k21, .ref k22, .ref k23, .ref k24, .ref k25, .ref k26, .ref k27, .ref k28, .ref k29, .int i12, .int i13, .int i14, .int i15, .int i16, .ref k30, .ref k31, .ref k32, .ref k33, .ref k34, .ref k35, .int i17, .ref k36])), (h1, aI cI 21 f18), (h2, aI cI 120 f19), (h3, aI cI 21 f20)] → va_S A s.heap H locs → lv_has ls 7 [(5, .int t150_2), (4, .int t150_1), (3, .int t150_0), (2, .int t111_4), (1, .int t111_3), (0, .ref h0)] → W p l e ((headSpec (xw yX9_findPiece cX9_findPiece 7 none) { frames := 1, cells := 0, slots := 0, locals := 24 }).room) s m ([.ref h0] : List Value).toArray below meth c H locs 0 0 QQ (F0 m 150 ls []) := by
                    intro n3
                    induction n3 with
                    | zero => intro H locs ls t150_0 t150_1 t150_2 hwp; exact False.elim hwp
                    | succ n3 ih3 =>
                      intro H locs ls t150_0 t150_1 t150_2 hwp hP hD hS hl
                      rw [wLX9_findPiece_150] at hwp
                      refine lv_iload hx hb dX9_findPiece_150 (lv_at hl 1 rfl) ?_
                      refine lv_iload_n hx hb dX9_findPiece_152 rfl (lv_at hl 2 rfl) ?_
                      refine lv_icmp_eq (tgt := 224) hx hb dX9_findPiece_153 (by decide) (fun c153 => ?_) (fun c153 => ?_)
                      · replace hwp := hwp.1 c153
                        refine lv_iload_n hx hb dX9_findPiece_224 rfl (lv_at hl 4 rfl) ?_
                        refine lv_iload_n hx hb dX9_findPiece_225 rfl (lv_at hl 2 rfl) ?_
                        refine lv_ior hx hb dX9_findPiece_226 ?_
                        refine lv_topi (fun v227 ev227 => ?_)
                        replace hwp := hwp v227 ev227
                        clear ev227
                        refine lv_istore_n (lv' := [(1, .int v227), (5, .int t150_2), (4, .int t150_1), (3, .int t150_0), (2, .int t111_4), (0, .ref h0)]) hx hb dX9_findPiece_227 rfl hl (by decide) rfl (fun ls hl => ?_)
                        refine lv_aload_n hx hb dX9_findPiece_228 rfl (lv_at hl 5 rfl) ?_
                        refine lv_iload hx hb dX9_findPiece_229 (lv_at hl 1 rfl) ?_
                        refine lv_iload_n hx hb dX9_findPiece_231 rfl (lv_at hl 3 rfl) ?_
                        refine xcv (wr := [(h1, aI cI 21 f18), (h3, aI cI 21 f20)]) (va_runV (As := [.int t150_2, .int t150_0]) (rest := []) ⟨hx, hb, hml, hown, hts⟩ (zX9_offer l G cI cJ cZ h0 h2 k0 k1 k2 k3 k4 k5 k6 k7 k8 h1 h3 k9 k10 k11 k12 k13 k14 k15 k16 k17 k18 k19 k20 k21 k22 k23 k24 k25 k26 k27 k28 k29 k30 k31 k32 k33 k34 k35 k36 H.size i0 i1 i2 i3 i4 i5 i6 i7 t111_0 t111_1 t111_2 i11 i12 i13 i14 i15 i16 i17 f19 t150_2 t150_0 _ hwp) (cwV 2 hts (xgoodV wo_493 wo_494 wo_495 wo_496 wo_454) rfl rfl rfl (by decide +kernel) ⟨Nat.le_of_ble_eq_true rfl, Nat.le_of_ble_eq_true rfl⟩) (xPreV (q := (RX9, TX9, 58)) (q0 := 0) hK hN hP hD [0, 2] (by decide) rfl rfl rfl) rfl rfl hl.1 rfl (lv_room (Nat.le_of_ble_eq_true rfl)) dX9_findPiece_232 ⟨Nat.le_of_ble_eq_true rfl, Nat.le_of_ble_eq_true rfl⟩) hP hD hS hA [0, 2] [1, 3] rfl rfl (by decide) (by decide) (fun u232 H locs hwp hP hD hS => ?_)
                        replace hP : va_P G vwCl [(h1, aI cI 21 f18), (h3, aI cI 21 f20), (h0, .inr (9, [.int i0, .int i1, .ref k0, .ref k1, .ref k2, .ref k3, .ref k4, .int i2, .ref k5, .int i3, .ref k6, .ref k7, .ref k8, .int i4, .ref h1, .ref h3, .int i5, .ref k9, .ref k10, .ref h2, .int i6, .ref k11, .int i7, .ref k12, .ref k13, .int u232.1, .int u232.2.1, .int u232.2.2, .ref k14, .int i11, .ref k15, .ref k16, .ref k17, .ref k18, .ref k19, .ref k20, .ref k21, .ref k22, .ref k23, .ref k24, .ref k25, .ref k26, .ref k27, .ref k28, .ref k29, .int i12, .int i13, .int i14, .int i15, .int i16, .ref k30, .ref k31, .ref k32, .ref k33, .ref k34, .ref k35, .int i17, .ref k36])), (h2, aI cI 120 f19)] H := hP
                        replace hD : va_D A [(h1, aI cI 21 f18), (h3, aI cI 21 f20), (h0, .inr (9, [.int i0, .int i1, .ref k0, .ref k1, .ref k2, .ref k3, .ref k4, .int i2, .ref k5, .int i3, .ref k6, .ref k7, .ref k8, .int i4, .ref h1, .ref h3, .int i5, .ref k9, .ref k10, .ref h2, .int i6, .ref k11, .int i7, .ref k12, .ref k13, .int u232.1, .int u232.2.1, .int u232.2.2, .ref k14, .int i11, .ref k15, .ref k16, .ref k17, .ref k18, .ref k19, .ref k20, .ref k21, .ref k22, .ref k23, .ref k24, .ref k25, .ref k26, .ref k27, .ref k28, .ref k29, .int i12, .int i13, .int i14, .int i15, .int i16, .ref k30, .ref k31, .ref k32, .ref k33, .ref k34, .ref k35, .int i17, .ref k36])), (h2, aI cI 120 f19)] := hD
                        refine lv_iinc (v := (t111_4 + 1)) (lv' := [(2, .int (t111_4 + 1)), (1, .int v227), (5, .int t150_2), (4, .int t150_1), (3, .int t150_0), (0, .ref h0)]) hx hb dX9_findPiece_235 hl (k := 4) rfl rfl (by decide) rfl (fun ls hl => ?_)
                        refine lv_goto (tgt := 111) hx hb dX9_findPiece_238 (by decide) ?_
                        replace hl : lv_has ls 7 [(2, .int (t111_4 + 1)), (1, .int v227), (0, .ref h0)] := lv_sub hl [0, 1, 5] rfl
                        replace hP : va_P G vwCl [(h0, .inr (9, [.int i0, .int i1, .ref k0, .ref k1, .ref k2, .ref k3, .ref k4, .int i2, .ref k5, .int i3, .ref k6, .ref k7, .ref k8, .int i4, .ref h1, .ref h3, .int i5, .ref k9, .ref k10, .ref h2, .int i6, .ref k11, .int i7, .ref k12, .ref k13, .int u232.1, .int u232.2.1, .int u232.2.2, .ref k14, .int i11, .ref k15, .ref k16, .ref k17, .ref k18, .ref k19, .ref k20, .ref k21, .ref k22, .ref k23, .ref k24, .ref k25, .ref k26, .ref k27, .ref k28, .ref k29, .int i12, .int i13, .int i14, .int i15, .int i16, .ref k30, .ref k31, .ref k32, .ref k33, .ref k34, .ref k35, .int i17, .ref k36])), (h1, aI cI 21 f18), (h2, aI cI 120 f19), (h3, aI cI 21 f20)] H := hP.sub [2, 0, 3, 1] rfl
                        replace hD : va_D A [(h0, .inr (9, [.int i0, .int i1, .ref k0, .ref k1, .ref k2, .ref k3, .ref k4, .int i2, .ref k5, .int i3, .ref k6, .ref k7, .ref k8, .int i4, .ref h1, .ref h3, .int i5, .ref k9, .ref k10, .ref h2, .int i6, .ref k11, .int i7, .ref k12, .ref k13, .int u232.1, .int u232.2.1, .int u232.2.2, .ref k14, .int i11, .ref k15, .ref k16, .ref k17, .ref k18, .ref k19, .ref k20, .ref k21, .ref k22, .ref k23, .ref k24, .ref k25, .ref k26, .ref k27, .ref k28, .ref k29, .int i12, .int i13, .int i14, .int i15, .int i16, .ref k30, .ref k31, .ref k32, .ref k33, .ref k34, .ref k35, .int i17, .ref k36])), (h1, aI cI 21 f18), (h2, aI cI 120 f19), (h3, aI cI 21 f20)] := hD.sub [2, 0, 3, 1] (by decide) rfl
                        exact ih2 H locs ls (u232.1) (u232.2.1) (u232.2.2) v227 (t111_4 + 1) hwp hP hD hS hl
                      · replace hwp := hwp.2 c153
                        refine lv_iload_n hx hb dX9_findPiece_156 rfl (lv_at hl 2 rfl) ?_
                        refine lv_istore (lv' := [(4, .int t150_0), (5, .int t150_2), (3, .int t150_0), (2, .int t111_4), (1, .int t111_3), (0, .ref h0)]) hx hb dX9_findPiece_157 hl (by decide) rfl (fun ls hl => ?_)
                        refine lv_iconst (v := 0) hx hb dX9_findPiece_159 (by decide) ?_
                        refine lv_istore (lv' := [(6, .int 0), (4, .int t150_0), (5, .int t150_2), (3, .int t150_0), (2, .int t111_4), (1, .int t111_3), (0, .ref h0)]) hx hb dX9_findPiece_160 hl (by decide) rfl (fun ls hl => ?_)
                        replace hl : lv_has ls 7 [(6, .int 0), (4, .int t150_0), (5, .int t150_2), (3, .int t150_0), (2, .int t111_4), (1, .int t111_3), (0, .ref h0)] := lv_sub hl [0, 1, 2, 3, 4, 5, 6] rfl
                        obtain ⟨n4, hwp⟩ := hwp
                        have hs4 : ∀ (n4 : Nat) (H : Heap) (locs : List Loc) (ls : Array Slot) (t162_0 : Int32) (t162_1 : Int32) (t162_2 : Int32), wLX9_findPiece_162 i3 i5 f18 t150_0 K (fun z0 z1 z2 => wLX9_findPiece_150 i0 i1 i2 i3 i4 i5 i6 i7 i11 i12 i13 i14 i15 i16 i17 f18 f19 t111_0 t111_1 t111_2 t111_3 t111_4 K (fun z0 z1 z2 z3 z4 => wLX9_findPiece_111 i0 i1 i2 i3 i4 i5 i6 i7 i11 i12 i13 i14 i15 i16 i17 f18 f19 K  n2 z0 z1 z2 z3 z4) n3 z0 z1 z2) n4 t162_0 t162_1 t162_2 → va_P G vwCl [(h0, .inr (9, [.int i0, .int i1, .ref k0, .ref k1, .ref k2, .ref k3, .ref k4, .int i2, .ref k5, .int i3, .ref k6, .ref k7, .ref k8, .int i4, .ref h1, .ref h3, .int i5, .ref k9, .ref k10, .ref h2, .int i6, .ref k11, .int i7, .ref k12, .ref k13, .int t111_0, .int t111_1, .int t111_2, .ref k14, .int i11, .ref k15, .ref k16, .ref k17, .ref k18, .ref k19, .ref k20, .ref k21, .ref k22, .ref k23, .ref k24, .ref k25, .ref k26, .ref k27, .ref k28, .ref k29, .int i12, .int i13, .int i14, .int i15, .int i16, .ref k30, .ref k31, .ref k32, .ref k33, .ref k34, .ref k35, .int i17, .ref k36])), (h1, aI cI 21 f18), (h2, aI cI 120 f19), (h3, aI cI 21 f20)] H → va_D A [(h0, .inr (9, [.int i0, .int i1, .ref k0, .ref k1, .ref k2, .ref k3, .ref k4, .int i2, .ref k5, .int i3, .ref k6, .ref k7, .ref k8, .int i4, .ref h1, .ref h3, .int i5, .ref k9, .ref k10, .ref h2, .int i6, .ref k11, .int i7, .ref k12, .ref k13, .int t111_0, .int t111_1, .int t111_2, .ref k14, .int i11, .ref k15, .ref k16, .ref k17, .ref k18, .ref k19, .ref k20, .ref k21, .ref k22, .ref k23, .ref k24, .ref k25, .ref k26, .ref k27, .ref k28, .ref k29, .int i12, .int i13, .int i14, .int i15, .int i16, .ref k30, .ref k31, .ref k32, .ref k33, .ref k34, .ref k35, .int i17, .ref k36])), (h1, aI cI 21 f18), (h2, aI cI 120 f19), (h3, aI cI 21 f20)] → va_S A s.heap H locs → lv_has ls 7 [(6, .int t162_2), (4, .int t150_0), (5, .int t162_1), (3, .int t162_0), (2, .int t111_4), (1, .int t111_3), (0, .ref h0)] → W p l e ((headSpec (xw yX9_findPiece cX9_findPiece 7 none) { frames := 1, cells := 0, slots := 0, locals := 24 }).room) s m ([.ref h0] : List Value).toArray below meth c H locs 0 0 QQ (F0 m 162 ls []) := by
                          intro n4
                          induction n4 with
                          | zero => intro H locs ls t162_0 t162_1 t162_2 hwp; exact False.elim hwp
                          | succ n4 ih4 =>
                            intro H locs ls t162_0 t162_1 t162_2 hwp hP hD hS hl
                            rw [wLX9_findPiece_162] at hwp
                            refine lv_iload hx hb dX9_findPiece_162 (lv_at hl 0 rfl) ?_
                            refine lv_aload_n hx hb dX9_findPiece_164 rfl (lv_at hl 6 rfl) ?_
                            refine va_get (D := G) (ci := 9) (v := .int i3) (C := RX9) (T := TX9) (N := 58) hx hb hts xinX9 hown hK hP 0 rfl rfl 9 (by decide) (hts _ wo_444) (fun _ h9 => h9) rfl dX9_findPiece_165 ?_
                            refine lv_icmp_ge (tgt := 221) hx hb dX9_findPiece_168 (by decide) (fun c168 => ?_) (fun c168 => ?_)
                            · replace hwp := hwp.1 c168
                              refine lv_goto (tgt := 150) hx hb dX9_findPiece_221 (by decide) ?_
                              replace hl : lv_has ls 7 [(5, .int t162_1), (4, .int t150_0), (3, .int t162_0), (2, .int t111_4), (1, .int t111_3), (0, .ref h0)] := lv_sub hl [2, 1, 3, 4, 5, 6] rfl
                              exact ih3 H locs ls t162_0 t150_0 t162_1 hwp hP hD hS hl
                            · replace hwp := hwp.2 c168
                              refine lv_iload_n hx hb dX9_findPiece_171 rfl (lv_at hl 3 rfl) ?_
                              refine lv_iload hx hb dX9_findPiece_172 (lv_at hl 0 rfl) ?_
                              refine lv_ishr hx hb dX9_findPiece_174 ?_
                              refine lv_iconst (v := 1) hx hb dX9_findPiece_175 (by decide) ?_
                              refine lv_iand hx hb dX9_findPiece_176 ?_
                              refine lv_iconst (v := 1) hx hb dX9_findPiece_177 (by decide) ?_
                              refine lv_icmp_ne (tgt := 215) hx hb dX9_findPiece_178 (by decide) (fun c178 => ?_) (fun c178 => ?_)
                              · replace hwp := hwp.1 c178
                                refine lv_iinc (v := (t162_2 + 1)) (lv' := [(6, .int (t162_2 + 1)), (4, .int t150_0), (5, .int t162_1), (3, .int t162_0), (2, .int t111_4), (1, .int t111_3), (0, .ref h0)]) hx hb dX9_findPiece_215 hl (k := 0) rfl rfl (by decide) rfl (fun ls hl => ?_)
                                refine lv_goto (tgt := 162) hx hb dX9_findPiece_218 (by decide) ?_
                                replace hl : lv_has ls 7 [(6, .int (t162_2 + 1)), (4, .int t150_0), (5, .int t162_1), (3, .int t162_0), (2, .int t111_4), (1, .int t111_3), (0, .ref h0)] := lv_sub hl [0, 1, 2, 3, 4, 5, 6] rfl
                                exact ih4 H locs ls t162_0 t162_1 (t162_2 + 1) hwp hP hD hS hl
                              · replace hwp := hwp.2 c178
                                refine lv_iload_n hx hb dX9_findPiece_181 rfl (lv_at hl 3 rfl) ?_
                                refine lv_aload_n hx hb dX9_findPiece_182 rfl (lv_at hl 6 rfl) ?_
                                refine va_get (D := G) (ci := 9) (v := .ref h1) (C := RX9) (T := TX9) (N := 58) hx hb hts xinX9 hown hK hP 0 rfl rfl 14 (by decide) (hts _ wo_467) (fun _ h9 => h9) rfl dX9_findPiece_183 ?_
                                refine lv_iload hx hb dX9_findPiece_186 (lv_at hl 0 rfl) ?_
                                obtain ⟨hi, hwp⟩ := hwp
                                refine va_iald hx hb hK hP 1 0 rfl rfl hi dX9_findPiece_188 ?_
                                refine lv_aload_n hx hb dX9_findPiece_189 rfl (lv_at hl 6 rfl) ?_
                                refine va_get (D := G) (ci := 9) (v := .int i5) (C := RX9) (T := TX9) (N := 58) hx hb hts xinX9 hown hK hP 0 rfl rfl 16 (by decide) (hts _ wo_473) (fun _ h9 => h9) rfl dX9_findPiece_190 ?_
                                refine lv_iconst (v := (-1)) hx hb dX9_findPiece_193 (by decide) ?_
                                refine lv_ixor hx hb dX9_findPiece_194 ?_
                                refine lv_iand hx hb dX9_findPiece_195 ?_
                                refine lv_ior hx hb dX9_findPiece_196 ?_
                                refine lv_topi (fun v197 ev197 => ?_)
                                replace hwp := hwp v197 ev197
                                clear ev197
                                refine lv_istore_n (lv' := [(3, .int v197), (6, .int t162_2), (4, .int t150_0), (5, .int t162_1), (2, .int t111_4), (1, .int t111_3), (0, .ref h0)]) hx hb dX9_findPiece_197 rfl hl (by decide) rfl (fun ls hl => ?_)
                                refine lv_iload hx hb dX9_findPiece_198 (lv_at hl 3 rfl) ?_
                                refine lv_aload_n hx hb dX9_findPiece_200 rfl (lv_at hl 6 rfl) ?_
                                refine va_get (D := G) (ci := 9) (v := .ref h1) (C := RX9) (T := TX9) (N := 58) hx hb hts xinX9 hown hK hP 0 rfl rfl 14 (by decide) (hts _ wo_467) (fun _ h9 => h9) rfl dX9_findPiece_201 ?_
                                refine lv_iload hx hb dX9_findPiece_204 (lv_at hl 1 rfl) ?_
                                obtain ⟨hi, hwp⟩ := hwp
                                refine va_iald hx hb hK hP 1 0 rfl rfl hi dX9_findPiece_206 ?_
                                refine lv_aload_n hx hb dX9_findPiece_207 rfl (lv_at hl 6 rfl) ?_
                                refine va_get (D := G) (ci := 9) (v := .int i5) (C := RX9) (T := TX9) (N := 58) hx hb hts xinX9 hown hK hP 0 rfl rfl 16 (by decide) (hts _ wo_473) (fun _ h9 => h9) rfl dX9_findPiece_208 ?_
                                refine lv_iand hx hb dX9_findPiece_211 ?_
                                refine lv_ior hx hb dX9_findPiece_212 ?_
                                refine lv_topi (fun v213 ev213 => ?_)
                                replace hwp := hwp v213 ev213
                                clear ev213
                                refine lv_istore (lv' := [(5, .int v213), (3, .int v197), (6, .int t162_2), (4, .int t150_0), (2, .int t111_4), (1, .int t111_3), (0, .ref h0)]) hx hb dX9_findPiece_213 hl (by decide) rfl (fun ls hl => ?_)
                                refine lv_iinc (v := (t162_2 + 1)) (lv' := [(6, .int (t162_2 + 1)), (5, .int v213), (3, .int v197), (4, .int t150_0), (2, .int t111_4), (1, .int t111_3), (0, .ref h0)]) hx hb dX9_findPiece_215 hl (k := 2) rfl rfl (by decide) rfl (fun ls hl => ?_)
                                refine lv_goto (tgt := 162) hx hb dX9_findPiece_218 (by decide) ?_
                                replace hl : lv_has ls 7 [(6, .int (t162_2 + 1)), (4, .int t150_0), (5, .int v213), (3, .int v197), (2, .int t111_4), (1, .int t111_3), (0, .ref h0)] := lv_sub hl [0, 3, 1, 2, 4, 5, 6] rfl
                                exact ih4 H locs ls v197 v213 (t162_2 + 1) hwp hP hD hS hl
                        exact hs4 n4 H locs ls t150_0 t150_2 0 hwp hP hD hS hl
                  exact hs3 n3 H locs ls v143 0 0 hwp hP hD hS hl
                · replace hwp := hwp.2 c134
                  refine lv_goto (tgt := 235) hx hb dX9_findPiece_137 (by decide) ?_
                  refine lv_iinc (v := (t111_4 + 1)) (lv' := [(2, .int (t111_4 + 1)), (1, .int t111_3), (0, .ref h0)]) hx hb dX9_findPiece_235 hl (k := 0) rfl rfl (by decide) rfl (fun ls hl => ?_)
                  refine lv_goto (tgt := 111) hx hb dX9_findPiece_238 (by decide) ?_
                  replace hl : lv_has ls 7 [(2, .int (t111_4 + 1)), (1, .int t111_3), (0, .ref h0)] := lv_sub hl [0, 1, 2] rfl
                  exact ih2 H locs ls t111_0 t111_1 t111_2 t111_3 (t111_4 + 1) hwp hP hD hS hl
        exact hs2 n2 H locs ls t9_0 t9_1 t9_2 i5 0 hwp hP hD hS hl
      · replace hwp := hwp.2 c14
        refine lv_iload_n hx hb dX9_findPiece_17 rfl (lv_at hl 0 rfl) ?_
        refine lv_iconst (v := 1) hx hb dX9_findPiece_18 (by decide) ?_
        refine lv_iadd hx hb dX9_findPiece_19 ?_
        refine lv_topi (fun v20 ev20 => ?_)
        replace hwp := hwp v20 ev20
        clear ev20
        refine lv_istore_n (lv' := [(2, .int v20), (1, .int t9_3), (0, .ref h0)]) hx hb dX9_findPiece_20 rfl hl (by decide) rfl (fun ls hl => ?_)
        replace hl : lv_has ls 7 [(2, .int v20), (1, .int t9_3), (0, .ref h0)] := lv_sub hl [0, 1, 2] rfl
        obtain ⟨n5, hwp⟩ := hwp
        have hs5 : ∀ (n5 : Nat) (H : Heap) (locs : List Loc) (ls : Array Slot) (t21_0 : Int32) (t21_1 : Int32) (t21_2 : Int32) (t21_3 : Int32), wLX9_findPiece_21 i0 i1 i2 i3 i4 i5 i6 i7 i11 i12 i13 i14 i15 i16 i17 f18 f19 f20 t9_3 K (fun z0 z1 z2 z3 => wLX9_findPiece_9 i0 i1 i2 i3 i4 i5 i6 i7 i11 i12 i13 i14 i15 i16 i17 f18 f19 f20 K  n1 z0 z1 z2 z3) n5 t21_0 t21_1 t21_2 t21_3 → va_P G vwCl [(h0, .inr (9, [.int i0, .int i1, .ref k0, .ref k1, .ref k2, .ref k3, .ref k4, .int i2, .ref k5, .int i3, .ref k6, .ref k7, .ref k8, .int i4, .ref h1, .ref h3, .int i5, .ref k9, .ref k10, .ref h2, .int i6, .ref k11, .int i7, .ref k12, .ref k13, .int t21_0, .int t21_1, .int t21_2, .ref k14, .int i11, .ref k15, .ref k16, .ref k17, .ref k18, .ref k19, .ref k20, .ref k21, .ref k22, .ref k23, .ref k24, .ref k25, .ref k26, .ref k27, .ref k28, .ref k29, .int i12, .int i13, .int i14, .int i15, .int i16, .ref k30, .ref k31, .ref k32, .ref k33, .ref k34, .ref k35, .int i17, .ref k36])), (h1, aI cI 21 f18), (h2, aI cI 120 f19), (h3, aI cI 21 f20)] H → va_D A [(h0, .inr (9, [.int i0, .int i1, .ref k0, .ref k1, .ref k2, .ref k3, .ref k4, .int i2, .ref k5, .int i3, .ref k6, .ref k7, .ref k8, .int i4, .ref h1, .ref h3, .int i5, .ref k9, .ref k10, .ref h2, .int i6, .ref k11, .int i7, .ref k12, .ref k13, .int t21_0, .int t21_1, .int t21_2, .ref k14, .int i11, .ref k15, .ref k16, .ref k17, .ref k18, .ref k19, .ref k20, .ref k21, .ref k22, .ref k23, .ref k24, .ref k25, .ref k26, .ref k27, .ref k28, .ref k29, .int i12, .int i13, .int i14, .int i15, .int i16, .ref k30, .ref k31, .ref k32, .ref k33, .ref k34, .ref k35, .int i17, .ref k36])), (h1, aI cI 21 f18), (h2, aI cI 120 f19), (h3, aI cI 21 f20)] → va_S A s.heap H locs → lv_has ls 7 [(2, .int t21_3), (1, .int t9_3), (0, .ref h0)] → W p l e ((headSpec (xw yX9_findPiece cX9_findPiece 7 none) { frames := 1, cells := 0, slots := 0, locals := 24 }).room) s m ([.ref h0] : List Value).toArray below meth c H locs 0 0 QQ (F0 m 21 ls []) := by
          intro n5
          induction n5 with
          | zero => intro H locs ls t21_0 t21_1 t21_2 t21_3 hwp; exact False.elim hwp
          | succ n5 ih5 =>
            intro H locs ls t21_0 t21_1 t21_2 t21_3 hwp hP hD hS hl
            rw [wLX9_findPiece_21] at hwp
            refine lv_iload_n hx hb dX9_findPiece_21 rfl (lv_at hl 0 rfl) ?_
            refine lv_aload_n hx hb dX9_findPiece_22 rfl (lv_at hl 2 rfl) ?_
            refine va_get (D := G) (ci := 9) (v := .int i3) (C := RX9) (T := TX9) (N := 58) hx hb hts xinX9 hown hK hP 0 rfl rfl 9 (by decide) (hts _ wo_444) (fun _ h9 => h9) rfl dX9_findPiece_23 ?_
            refine lv_icmp_ge (tgt := 98) hx hb dX9_findPiece_26 (by decide) (fun c26 => ?_) (fun c26 => ?_)
            · replace hwp := hwp.1 c26
              refine lv_iinc (v := (t9_3 + 1)) (lv' := [(1, .int (t9_3 + 1)), (2, .int t21_3), (0, .ref h0)]) hx hb dX9_findPiece_98 hl (k := 1) rfl rfl (by decide) rfl (fun ls hl => ?_)
              refine lv_goto (tgt := 9) hx hb dX9_findPiece_101 (by decide) ?_
              replace hl : lv_has ls 7 [(1, .int (t9_3 + 1)), (0, .ref h0)] := lv_sub hl [0, 2] rfl
              exact ih1 H locs ls t21_0 t21_1 t21_2 (t9_3 + 1) hwp hP hD hS hl
            · replace hwp := hwp.2 c26
              refine lv_aload_n hx hb dX9_findPiece_29 rfl (lv_at hl 2 rfl) ?_
              refine va_get (D := G) (ci := 9) (v := .int i5) (C := RX9) (T := TX9) (N := 58) hx hb hts xinX9 hown hK hP 0 rfl rfl 16 (by decide) (hts _ wo_473) (fun _ h9 => h9) rfl dX9_findPiece_30 ?_
              refine lv_iload_n hx hb dX9_findPiece_33 rfl (lv_at hl 1 rfl) ?_
              refine lv_ishr hx hb dX9_findPiece_34 ?_
              refine lv_iconst (v := 1) hx hb dX9_findPiece_35 (by decide) ?_
              refine lv_iand hx hb dX9_findPiece_36 ?_
              refine lv_iconst (v := 1) hx hb dX9_findPiece_37 (by decide) ?_
              refine lv_icmp_ne (tgt := 92) hx hb dX9_findPiece_38 (by decide) (fun c38 => ?_) (fun c38 => ?_)
              · replace hwp := hwp.1 c38
                refine lv_iinc (v := (t21_3 + 1)) (lv' := [(2, .int (t21_3 + 1)), (1, .int t9_3), (0, .ref h0)]) hx hb dX9_findPiece_92 hl (k := 0) rfl rfl (by decide) rfl (fun ls hl => ?_)
                refine lv_goto (tgt := 21) hx hb dX9_findPiece_95 (by decide) ?_
                replace hl : lv_has ls 7 [(2, .int (t21_3 + 1)), (1, .int t9_3), (0, .ref h0)] := lv_sub hl [0, 1, 2] rfl
                exact ih5 H locs ls t21_0 t21_1 t21_2 (t21_3 + 1) hwp hP hD hS hl
              · replace hwp := hwp.2 c38
                refine lv_aload_n hx hb dX9_findPiece_41 rfl (lv_at hl 2 rfl) ?_
                refine va_get (D := G) (ci := 9) (v := .int i5) (C := RX9) (T := TX9) (N := 58) hx hb hts xinX9 hown hK hP 0 rfl rfl 16 (by decide) (hts _ wo_473) (fun _ h9 => h9) rfl dX9_findPiece_42 ?_
                refine lv_iload_n hx hb dX9_findPiece_45 rfl (lv_at hl 0 rfl) ?_
                refine lv_ishr hx hb dX9_findPiece_46 ?_
                refine lv_iconst (v := 1) hx hb dX9_findPiece_47 (by decide) ?_
                refine lv_iand hx hb dX9_findPiece_48 ?_
                refine lv_iconst (v := 1) hx hb dX9_findPiece_49 (by decide) ?_
                refine lv_icmp_ne (tgt := 92) hx hb dX9_findPiece_50 (by decide) (fun c50 => ?_) (fun c50 => ?_)
                · replace hwp := hwp.1 c50
                  refine lv_iinc (v := (t21_3 + 1)) (lv' := [(2, .int (t21_3 + 1)), (1, .int t9_3), (0, .ref h0)]) hx hb dX9_findPiece_92 hl (k := 0) rfl rfl (by decide) rfl (fun ls hl => ?_)
                  refine lv_goto (tgt := 21) hx hb dX9_findPiece_95 (by decide) ?_
                  replace hl : lv_has ls 7 [(2, .int (t21_3 + 1)), (1, .int t9_3), (0, .ref h0)] := lv_sub hl [0, 1, 2] rfl
                  exact ih5 H locs ls t21_0 t21_1 t21_2 (t21_3 + 1) hwp hP hD hS hl
                · replace hwp := hwp.2 c50
                  refine lv_aload_n hx hb dX9_findPiece_53 rfl (lv_at hl 2 rfl) ?_
                  refine va_get (D := G) (ci := 9) (v := .ref h1) (C := RX9) (T := TX9) (N := 58) hx hb hts xinX9 hown hK hP 0 rfl rfl 14 (by decide) (hts _ wo_467) (fun _ h9 => h9) rfl dX9_findPiece_54 ?_
                  refine lv_iload_n hx hb dX9_findPiece_57 rfl (lv_at hl 1 rfl) ?_
                  obtain ⟨hi, hwp⟩ := hwp
                  refine va_iald hx hb hK hP 1 0 rfl rfl hi dX9_findPiece_58 ?_
                  refine lv_iload_n hx hb dX9_findPiece_59 rfl (lv_at hl 0 rfl) ?_
                  refine lv_ishr hx hb dX9_findPiece_60 ?_
                  refine lv_iconst (v := 1) hx hb dX9_findPiece_61 (by decide) ?_
                  refine lv_iand hx hb dX9_findPiece_62 ?_
                  refine lv_iconst (v := 1) hx hb dX9_findPiece_63 (by decide) ?_
                  refine lv_icmp_ne (tgt := 92) hx hb dX9_findPiece_64 (by decide) (fun c64 => ?_) (fun c64 => ?_)
                  · replace hwp := hwp.1 c64
                    refine lv_iinc (v := (t21_3 + 1)) (lv' := [(2, .int (t21_3 + 1)), (1, .int t9_3), (0, .ref h0)]) hx hb dX9_findPiece_92 hl (k := 0) rfl rfl (by decide) rfl (fun ls hl => ?_)
                    refine lv_goto (tgt := 21) hx hb dX9_findPiece_95 (by decide) ?_
                    replace hl : lv_has ls 7 [(2, .int (t21_3 + 1)), (1, .int t9_3), (0, .ref h0)] := lv_sub hl [0, 1, 2] rfl
                    exact ih5 H locs ls t21_0 t21_1 t21_2 (t21_3 + 1) hwp hP hD hS hl
                  · replace hwp := hwp.2 c64
                    refine lv_aload_n hx hb dX9_findPiece_67 rfl (lv_at hl 2 rfl) ?_
                    refine va_get (D := G) (ci := 9) (v := .ref h3) (C := RX9) (T := TX9) (N := 58) hx hb hts xinX9 hown hK hP 0 rfl rfl 15 (by decide) (hts _ wo_472) (fun _ h9 => h9) rfl dX9_findPiece_68 ?_
                    refine lv_iload_n hx hb dX9_findPiece_71 rfl (lv_at hl 1 rfl) ?_
                    obtain ⟨hi, hwp⟩ := hwp
                    refine va_iald hx hb hK hP 3 0 rfl rfl hi dX9_findPiece_72 ?_
                    refine lv_iload_n hx hb dX9_findPiece_73 rfl (lv_at hl 0 rfl) ?_
                    refine lv_ishr hx hb dX9_findPiece_74 ?_
                    refine lv_iconst (v := 1) hx hb dX9_findPiece_75 (by decide) ?_
                    refine lv_iand hx hb dX9_findPiece_76 ?_
                    refine lv_if_ne (tgt := 92) hx hb dX9_findPiece_77 (by decide) (fun c77 => ?_) (fun c77 => ?_)
                    · replace hwp := hwp.1 c77
                      refine lv_iinc (v := (t21_3 + 1)) (lv' := [(2, .int (t21_3 + 1)), (1, .int t9_3), (0, .ref h0)]) hx hb dX9_findPiece_92 hl (k := 0) rfl rfl (by decide) rfl (fun ls hl => ?_)
                      refine lv_goto (tgt := 21) hx hb dX9_findPiece_95 (by decide) ?_
                      replace hl : lv_has ls 7 [(2, .int (t21_3 + 1)), (1, .int t9_3), (0, .ref h0)] := lv_sub hl [0, 1, 2] rfl
                      exact ih5 H locs ls t21_0 t21_1 t21_2 (t21_3 + 1) hwp hP hD hS hl
                    · replace hwp := hwp.2 c77
                      refine lv_aload_n hx hb dX9_findPiece_80 rfl (lv_at hl 2 rfl) ?_
                      refine lv_iconst (v := 1) hx hb dX9_findPiece_81 (by decide) ?_
                      refine lv_iload_n hx hb dX9_findPiece_82 rfl (lv_at hl 1 rfl) ?_
                      refine lv_ishl hx hb dX9_findPiece_83 ?_
                      refine lv_iconst (v := 1) hx hb dX9_findPiece_84 (by decide) ?_
                      refine lv_iload_n hx hb dX9_findPiece_85 rfl (lv_at hl 0 rfl) ?_
                      refine lv_ishl hx hb dX9_findPiece_86 ?_
                      refine lv_ior hx hb dX9_findPiece_87 ?_
                      refine lv_iconst (v := 0) hx hb dX9_findPiece_88 (by decide) ?_
                      refine xcv (wr := [(h1, aI cI 21 f18), (h3, aI cI 21 f20)]) (va_runV (As := [.int (((1 : Int32) <<< (t9_3 &&& 31)) ||| ((1 : Int32) <<< (t21_3 &&& 31))), .int 0]) (rest := []) ⟨hx, hb, hml, hown, hts⟩ (zX9_offer l G cI cJ cZ h0 h2 k0 k1 k2 k3 k4 k5 k6 k7 k8 h1 h3 k9 k10 k11 k12 k13 k14 k15 k16 k17 k18 k19 k20 k21 k22 k23 k24 k25 k26 k27 k28 k29 k30 k31 k32 k33 k34 k35 k36 H.size i0 i1 i2 i3 i4 i5 i6 i7 t21_0 t21_1 t21_2 i11 i12 i13 i14 i15 i16 i17 f19 (((1 : Int32) <<< (t9_3 &&& 31)) ||| ((1 : Int32) <<< (t21_3 &&& 31))) (0 : Int32) _ hwp) (cwV 2 hts (xgoodV wo_493 wo_494 wo_495 wo_496 wo_454) rfl rfl rfl (by decide +kernel) ⟨Nat.le_of_ble_eq_true rfl, Nat.le_of_ble_eq_true rfl⟩) (xPreV (q := (RX9, TX9, 58)) (q0 := 0) hK hN hP hD [0, 2] (by decide) rfl rfl rfl) rfl rfl hl.1 rfl (lv_room (Nat.le_of_ble_eq_true rfl)) dX9_findPiece_89 ⟨Nat.le_of_ble_eq_true rfl, Nat.le_of_ble_eq_true rfl⟩) hP hD hS hA [0, 2] [1, 3] rfl rfl (by decide) (by decide) (fun u89 H locs hwp hP hD hS => ?_)
                      replace hP : va_P G vwCl [(h1, aI cI 21 f18), (h3, aI cI 21 f20), (h0, .inr (9, [.int i0, .int i1, .ref k0, .ref k1, .ref k2, .ref k3, .ref k4, .int i2, .ref k5, .int i3, .ref k6, .ref k7, .ref k8, .int i4, .ref h1, .ref h3, .int i5, .ref k9, .ref k10, .ref h2, .int i6, .ref k11, .int i7, .ref k12, .ref k13, .int u89.1, .int u89.2.1, .int u89.2.2, .ref k14, .int i11, .ref k15, .ref k16, .ref k17, .ref k18, .ref k19, .ref k20, .ref k21, .ref k22, .ref k23, .ref k24, .ref k25, .ref k26, .ref k27, .ref k28, .ref k29, .int i12, .int i13, .int i14, .int i15, .int i16, .ref k30, .ref k31, .ref k32, .ref k33, .ref k34, .ref k35, .int i17, .ref k36])), (h2, aI cI 120 f19)] H := hP
                      replace hD : va_D A [(h1, aI cI 21 f18), (h3, aI cI 21 f20), (h0, .inr (9, [.int i0, .int i1, .ref k0, .ref k1, .ref k2, .ref k3, .ref k4, .int i2, .ref k5, .int i3, .ref k6, .ref k7, .ref k8, .int i4, .ref h1, .ref h3, .int i5, .ref k9, .ref k10, .ref h2, .int i6, .ref k11, .int i7, .ref k12, .ref k13, .int u89.1, .int u89.2.1, .int u89.2.2, .ref k14, .int i11, .ref k15, .ref k16, .ref k17, .ref k18, .ref k19, .ref k20, .ref k21, .ref k22, .ref k23, .ref k24, .ref k25, .ref k26, .ref k27, .ref k28, .ref k29, .int i12, .int i13, .int i14, .int i15, .int i16, .ref k30, .ref k31, .ref k32, .ref k33, .ref k34, .ref k35, .int i17, .ref k36])), (h2, aI cI 120 f19)] := hD
                      refine lv_iinc (v := (t21_3 + 1)) (lv' := [(2, .int (t21_3 + 1)), (1, .int t9_3), (0, .ref h0)]) hx hb dX9_findPiece_92 hl (k := 0) rfl rfl (by decide) rfl (fun ls hl => ?_)
                      refine lv_goto (tgt := 21) hx hb dX9_findPiece_95 (by decide) ?_
                      replace hl : lv_has ls 7 [(2, .int (t21_3 + 1)), (1, .int t9_3), (0, .ref h0)] := lv_sub hl [0, 1, 2] rfl
                      replace hP : va_P G vwCl [(h0, .inr (9, [.int i0, .int i1, .ref k0, .ref k1, .ref k2, .ref k3, .ref k4, .int i2, .ref k5, .int i3, .ref k6, .ref k7, .ref k8, .int i4, .ref h1, .ref h3, .int i5, .ref k9, .ref k10, .ref h2, .int i6, .ref k11, .int i7, .ref k12, .ref k13, .int u89.1, .int u89.2.1, .int u89.2.2, .ref k14, .int i11, .ref k15, .ref k16, .ref k17, .ref k18, .ref k19, .ref k20, .ref k21, .ref k22, .ref k23, .ref k24, .ref k25, .ref k26, .ref k27, .ref k28, .ref k29, .int i12, .int i13, .int i14, .int i15, .int i16, .ref k30, .ref k31, .ref k32, .ref k33, .ref k34, .ref k35, .int i17, .ref k36])), (h1, aI cI 21 f18), (h2, aI cI 120 f19), (h3, aI cI 21 f20)] H := hP.sub [2, 0, 3, 1] rfl
                      replace hD : va_D A [(h0, .inr (9, [.int i0, .int i1, .ref k0, .ref k1, .ref k2, .ref k3, .ref k4, .int i2, .ref k5, .int i3, .ref k6, .ref k7, .ref k8, .int i4, .ref h1, .ref h3, .int i5, .ref k9, .ref k10, .ref h2, .int i6, .ref k11, .int i7, .ref k12, .ref k13, .int u89.1, .int u89.2.1, .int u89.2.2, .ref k14, .int i11, .ref k15, .ref k16, .ref k17, .ref k18, .ref k19, .ref k20, .ref k21, .ref k22, .ref k23, .ref k24, .ref k25, .ref k26, .ref k27, .ref k28, .ref k29, .int i12, .int i13, .int i14, .int i15, .int i16, .ref k30, .ref k31, .ref k32, .ref k33, .ref k34, .ref k35, .int i17, .ref k36])), (h1, aI cI 21 f18), (h2, aI cI 120 f19), (h3, aI cI 21 f20)] := hD.sub [2, 0, 3, 1] (by decide) rfl
                      exact ih5 H locs ls (u89.1) (u89.2.1) (u89.2.2) (t21_3 + 1) hwp hP hD hS hl
        exact hs5 n5 H locs ls t9_0 t9_1 t9_2 v20 hwp hP hD hS hl
  exact hs1 n1 H locs ls i8 i9 1000 0 hwp hP hD hS hl

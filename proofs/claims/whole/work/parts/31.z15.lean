def wLX9_reached_19 (i3 : Int32) (f18 : Nat → Int32) (p1 : Int32) (t7_0 : Int32) (K : Int32 → Unit → Prop) (B7_1 : Int32 → Int32 → Prop) : Nat → Int32 → Int32 → Prop
  | 0, _, _ => False
  | n19 + 1, t19_0, t19_1 => ((i3 ≤ t19_1 → B7_1 t19_0 t7_0) ∧ (¬ i3 ≤ t19_1 → ((¬ ((t19_0 >>> (t19_1 &&& 31)) &&& 1) = 1 → (wLX9_reached_19 i3 f18 p1 t7_0 K B7_1 n19) t19_0 (t19_1 + 1)) ∧ (((t19_0 >>> (t19_1 &&& 31)) &&& 1) = 1 → (vp_in t19_1 21 ∧ (∀ v51 : Int32, v51 = (t19_0 ||| ((f18 (Int32.toNatClampNeg t19_1)) &&& (p1 ^^^ (-1)))) → (wLX9_reached_19 i3 f18 p1 t7_0 K B7_1 n19) v51 (t19_1 + 1)))))))
def wLX9_reached_7 (i3 : Int32) (f18 : Nat → Int32) (p1 : Int32) (K : Int32 → Unit → Prop)  : Nat → Int32 → Int32 → Prop
  | 0, _, _ => False
  | n7 + 1, t7_0, t7_1 => ((t7_1 = t7_0 → K t7_0 ()) ∧ (¬ t7_1 = t7_0 → (∃ n19, wLX9_reached_19 i3 f18 p1 t7_0 K (fun z0 z1 => (wLX9_reached_7 i3 f18 p1 K  n7) z0 z1) n19 t7_0 0)))
def wX9_reached (i0 : Int32) (i1 : Int32) (i2 : Int32) (i3 : Int32) (i4 : Int32) (i5 : Int32) (i6 : Int32) (i7 : Int32) (i8 : Int32) (i9 : Int32) (i10 : Int32) (i11 : Int32) (i12 : Int32) (i13 : Int32) (i14 : Int32) (i15 : Int32) (i16 : Int32) (i17 : Int32) (f18 : Nat → Int32) (p0 : Int32) (p1 : Int32) (K : Int32 → Unit → Prop) : Prop := (∀ v3 : Int32, v3 = ((1 : Int32) <<< (p0 &&& 31)) → (∃ n7, wLX9_reached_7 i3 f18 p1 K  n7 v3 0))
set_option maxHeartbeats 4000000 in
set_option maxRecDepth 100000 in
theorem zX9_reached (l : Launch) (G : va_G) (cI cJ cZ : ClassId) (h0 h1 k0 k1 k2 k3 k4 k5 k6 k7 k8 k9 k10 k11 k12 k13 k14 k15 k16 k17 k18 k19 k20 k21 k22 k23 k24 k25 k26 k27 k28 k29 k30 k31 k32 k33 k34 k35 k36 k37 k38 sz : Nat) (i0 : Int32) (i1 : Int32) (i2 : Int32) (i3 : Int32) (i4 : Int32) (i5 : Int32) (i6 : Int32) (i7 : Int32) (i8 : Int32) (i9 : Int32) (i10 : Int32) (i11 : Int32) (i12 : Int32) (i13 : Int32) (i14 : Int32) (i15 : Int32) (i16 : Int32) (i17 : Int32) (f18 : Nat → Int32) (p0 : Int32) (p1 : Int32) (K : Int32 → Unit → Prop) (hwp : wX9_reached i0 i1 i2 i3 i4 i5 i6 i7 i8 i9 i10 i11 i12 i13 i14 i15 i16 i17 f18 p0 p1 K) : Met l yX9_reached (xw yX9_reached cX9_reached 6 (some .int)) ({ frames := 0, cells := 0, slots := 0, locals := 0 }) (xPc G cI cJ cZ [.ref h0, .int p0, .int p1] [(h0, .inr (9, [.int i0, .int i1, .ref k0, .ref k1, .ref k2, .ref k3, .ref k4, .int i2, .ref h1, .int i3, .ref k5, .ref k6, .ref k7, .int i4, .ref k8, .ref k9, .int i5, .ref k10, .ref k11, .ref k12, .int i6, .ref k13, .int i7, .ref k14, .ref k15, .int i8, .int i9, .int i10, .ref k16, .int i11, .ref k17, .ref k18, .ref k19, .ref k20, .ref k21, .ref k22, .ref k23, .ref k24, .ref k25, .ref k26, .ref k27, .ref k28, .ref k29, .ref k30, .ref k31, .int i12, .int i13, .int i14, .int i15, .int i16, .ref k32, .ref k33, .ref k34, .ref k35, .ref k36, .ref k37, .int i17, .ref k38])), (h1, aI cI 21 f18)] sz) (va_Qi (fun (r : Int32) (u : Unit) => K r u) (fun (u : Unit) t => xB G (va_A [(h0, .inr (9, [.int i0, .int i1, .ref k0, .ref k1, .ref k2, .ref k3, .ref k4, .int i2, .ref h1, .int i3, .ref k5, .ref k6, .ref k7, .int i4, .ref k8, .ref k9, .int i5, .ref k10, .ref k11, .ref k12, .int i6, .ref k13, .int i7, .ref k14, .ref k15, .int i8, .int i9, .int i10, .ref k16, .int i11, .ref k17, .ref k18, .ref k19, .ref k20, .ref k21, .ref k22, .ref k23, .ref k24, .ref k25, .ref k26, .ref k27, .ref k28, .ref k29, .ref k30, .ref k31, .int i12, .int i13, .int i14, .int i15, .int i16, .ref k32, .ref k33, .ref k34, .ref k35, .ref k36, .ref k37, .int i17, .ref k38])), (h1, aI cI 21 f18)] sz) [(h0, .inr (9, [.int i0, .int i1, .ref k0, .ref k1, .ref k2, .ref k3, .ref k4, .int i2, .ref h1, .int i3, .ref k5, .ref k6, .ref k7, .int i4, .ref k8, .ref k9, .int i5, .ref k10, .ref k11, .ref k12, .int i6, .ref k13, .int i7, .ref k14, .ref k15, .int i8, .int i9, .int i10, .ref k16, .int i11, .ref k17, .ref k18, .ref k19, .ref k20, .ref k21, .ref k22, .ref k23, .ref k24, .ref k25, .ref k26, .ref k27, .ref k28, .ref k29, .ref k30, .ref k31, .int i12, .int i13, .int i14, .int i15, .int i16, .ref k32, .ref k33, .ref k34, .ref k35, .ref k36, .ref k37, .int i17, .ref k38])), (h1, aI cI 21 f18)] t) (va_A [(h0, .inr (9, [.int i0, .int i1, .ref k0, .ref k1, .ref k2, .ref k3, .ref k4, .int i2, .ref h1, .int i3, .ref k5, .ref k6, .ref k7, .int i4, .ref k8, .ref k9, .int i5, .ref k10, .ref k11, .ref k12, .int i6, .ref k13, .int i7, .ref k14, .ref k15, .int i8, .int i9, .int i10, .ref k16, .int i11, .ref k17, .ref k18, .ref k19, .ref k20, .ref k21, .ref k22, .ref k23, .ref k24, .ref k25, .ref k26, .ref k27, .ref k28, .ref k29, .ref k30, .ref k31, .int i12, .int i13, .int i14, .int i15, .int i16, .ref k32, .ref k33, .ref k34, .ref k35, .ref k36, .ref k37, .int i17, .ref k38])), (h1, aI cI 21 f18)] sz)) 0 0 (va_A [(h0, .inr (9, [.int i0, .int i1, .ref k0, .ref k1, .ref k2, .ref k3, .ref k4, .int i2, .ref h1, .int i3, .ref k5, .ref k6, .ref k7, .int i4, .ref k8, .ref k9, .int i5, .ref k10, .ref k11, .ref k12, .int i6, .ref k13, .int i7, .ref k14, .ref k15, .int i8, .int i9, .int i10, .ref k16, .int i11, .ref k17, .ref k18, .ref k19, .ref k20, .ref k21, .ref k22, .ref k23, .ref k24, .ref k25, .ref k26, .ref k27, .ref k28, .ref k29, .ref k30, .ref k31, .int i12, .int i13, .int i14, .int i15, .int i16, .ref k32, .ref k33, .ref k34, .ref k35, .ref k36, .ref k37, .int i17, .ref k38])), (h1, aI cI 21 f18)] sz) := by
  refine Met.ofW (cc := cX9_reached) (maxL := 6) (ret := (some .int)) (by decide) rfl ?_
  intro p e s m args below meth c s₁ B hml hv
  obtain ⟨rfl, hsz, hP, hK, hD0, hN⟩ := hv
  have hx := B.exec
  have hb := B.bytes
  have hr := B.returns
  have hts : ∀ w ∈ xW, w.before _ s = true := fun w h => atoms_spec (ws := xw yX9_reached cX9_reached 6 (some .int)) B.pre w (List.mem_cons_of_mem _ h)
  have hown : s.vm.findClass RX9 = some m.cls := findClass_of_methodNamed B.named
  have hlocks := B.notSynchronized
  subst hsz
  have hD := hD0.self (sz := s.heap.size)
  clear hD0
  generalize hAe : va_A [(h0, .inr (9, [.int i0, .int i1, .ref k0, .ref k1, .ref k2, .ref k3, .ref k4, .int i2, .ref h1, .int i3, .ref k5, .ref k6, .ref k7, .int i4, .ref k8, .ref k9, .int i5, .ref k10, .ref k11, .ref k12, .int i6, .ref k13, .int i7, .ref k14, .ref k15, .int i8, .int i9, .int i10, .ref k16, .int i11, .ref k17, .ref k18, .ref k19, .ref k20, .ref k21, .ref k22, .ref k23, .ref k24, .ref k25, .ref k26, .ref k27, .ref k28, .ref k29, .ref k30, .ref k31, .int i12, .int i13, .int i14, .int i15, .int i16, .ref k32, .ref k33, .ref k34, .ref k35, .ref k36, .ref k37, .int i17, .ref k38])), (h1, aI cI 21 f18)] s.heap.size = A at hD ⊢
  have hA : ∀ q : Nat, s.heap.size ≤ q → A q := fun q h => by rw [← hAe]; exact Or.inr h
  clear hAe
  have hS : va_S A s.heap s.heap [] := va_S.rf
  replace hP : va_P G vwCl [(h0, .inr (9, [.int i0, .int i1, .ref k0, .ref k1, .ref k2, .ref k3, .ref k4, .int i2, .ref h1, .int i3, .ref k5, .ref k6, .ref k7, .int i4, .ref k8, .ref k9, .int i5, .ref k10, .ref k11, .ref k12, .int i6, .ref k13, .int i7, .ref k14, .ref k15, .int i8, .int i9, .int i10, .ref k16, .int i11, .ref k17, .ref k18, .ref k19, .ref k20, .ref k21, .ref k22, .ref k23, .ref k24, .ref k25, .ref k26, .ref k27, .ref k28, .ref k29, .ref k30, .ref k31, .int i12, .int i13, .int i14, .int i15, .int i16, .ref k32, .ref k33, .ref k34, .ref k35, .ref k36, .ref k37, .int i17, .ref k38])), (h1, aI cI 21 f18)] s.heap := hP
  have hl := lv_entry ([.ref h0, .int p0, .int p1]) (n := 6) (Nat.le_of_ble_eq_true rfl)
  rw [lg_entry_eq]
  generalize (lg_sl ([.ref h0, .int p0, .int p1]) ++ List.replicate (6 - (lg_sl ([.ref h0, .int p0, .int p1])).length) Slot.unset).toArray = ls at hl ⊢
  replace hl : lv_has ls 6 [(0, .ref h0), (1, .int p0), (2, .int p1)] := hl
  generalize hQQ : MQ below _ _ s 0 0 _ = QQ
  skip
  unfold wX9_reached at hwp
  refine lv_iconst (v := 1) hx hb dX9_reached_0 (by decide) ?_
  refine lv_iload_n hx hb dX9_reached_1 rfl (lv_at hl 1 rfl) ?_
  refine lv_ishl hx hb dX9_reached_2 ?_
  refine lv_topi (fun v3 ev3 => ?_)
  replace hwp := hwp v3 ev3
  clear ev3
  refine lv_istore_n (lv' := [(3, .int v3), (0, .ref h0), (1, .int p0), (2, .int p1)]) hx hb dX9_reached_3 rfl hl (by decide) rfl (fun ls hl => ?_)
  refine lv_iconst (v := 0) hx hb dX9_reached_4 (by decide) ?_
  refine lv_istore (lv' := [(4, .int 0), (3, .int v3), (0, .ref h0), (1, .int p0), (2, .int p1)]) hx hb dX9_reached_5 hl (by decide) rfl (fun ls hl => ?_)
  refine xgen (Pp := fun H locs => W p l e _ s m _ below meth c H locs _ _ _ _) (fun H locs hP hD hS => ?_) hP hD hS
  replace hl : lv_has ls 6 [(4, .int 0), (3, .int v3), (0, .ref h0), (2, .int p1)] := lv_sub hl [0, 1, 2, 4] rfl
  obtain ⟨n1, hwp⟩ := hwp
  have hs1 : ∀ (n1 : Nat) (H : Heap) (locs : List Loc) (ls : Array Slot) (t7_0 : Int32) (t7_1 : Int32), wLX9_reached_7 i3 f18 p1 K  n1 t7_0 t7_1 → va_P G vwCl [(h0, .inr (9, [.int i0, .int i1, .ref k0, .ref k1, .ref k2, .ref k3, .ref k4, .int i2, .ref h1, .int i3, .ref k5, .ref k6, .ref k7, .int i4, .ref k8, .ref k9, .int i5, .ref k10, .ref k11, .ref k12, .int i6, .ref k13, .int i7, .ref k14, .ref k15, .int i8, .int i9, .int i10, .ref k16, .int i11, .ref k17, .ref k18, .ref k19, .ref k20, .ref k21, .ref k22, .ref k23, .ref k24, .ref k25, .ref k26, .ref k27, .ref k28, .ref k29, .ref k30, .ref k31, .int i12, .int i13, .int i14, .int i15, .int i16, .ref k32, .ref k33, .ref k34, .ref k35, .ref k36, .ref k37, .int i17, .ref k38])), (h1, aI cI 21 f18)] H → va_D A [(h0, .inr (9, [.int i0, .int i1, .ref k0, .ref k1, .ref k2, .ref k3, .ref k4, .int i2, .ref h1, .int i3, .ref k5, .ref k6, .ref k7, .int i4, .ref k8, .ref k9, .int i5, .ref k10, .ref k11, .ref k12, .int i6, .ref k13, .int i7, .ref k14, .ref k15, .int i8, .int i9, .int i10, .ref k16, .int i11, .ref k17, .ref k18, .ref k19, .ref k20, .ref k21, .ref k22, .ref k23, .ref k24, .ref k25, .ref k26, .ref k27, .ref k28, .ref k29, .ref k30, .ref k31, .int i12, .int i13, .int i14, .int i15, .int i16, .ref k32, .ref k33, .ref k34, .ref k35, .ref k36, .ref k37, .int i17, .ref k38])), (h1, aI cI 21 f18)] → va_S A s.heap H locs → lv_has ls 6 [(4, .int t7_1), (3, .int t7_0), (0, .ref h0), (2, .int p1)] → W p l e ((headSpec (xw yX9_reached cX9_reached 6 (some .int)) { frames := 0, cells := 0, slots := 0, locals := 0 }).room) s m ([.ref h0, .int p0, .int p1] : List Value).toArray below meth c H locs 0 0 QQ (F0 m 7 ls []) := by
    intro n1
    induction n1 with
    | zero => intro H locs ls t7_0 t7_1 hwp; exact False.elim hwp
    | succ n1 ih1 =>
      intro H locs ls t7_0 t7_1 hwp hP hD hS hl
      rw [wLX9_reached_7] at hwp
      refine lv_iload hx hb dX9_reached_7 (lv_at hl 0 rfl) ?_
      refine lv_iload_n hx hb dX9_reached_9 rfl (lv_at hl 1 rfl) ?_
      refine lv_icmp_eq (tgt := 61) hx hb dX9_reached_10 (by decide) (fun c10 => ?_) (fun c10 => ?_)
      · replace hwp := hwp.1 c10
        refine lv_iload_n hx hb dX9_reached_61 rfl (lv_at hl 1 rfl) ?_
        have hP9 : va_P G vwCl [(h0, .inr (9, [.int i0, .int i1, .ref k0, .ref k1, .ref k2, .ref k3, .ref k4, .int i2, .ref h1, .int i3, .ref k5, .ref k6, .ref k7, .int i4, .ref k8, .ref k9, .int i5, .ref k10, .ref k11, .ref k12, .int i6, .ref k13, .int i7, .ref k14, .ref k15, .int i8, .int i9, .int i10, .ref k16, .int i11, .ref k17, .ref k18, .ref k19, .ref k20, .ref k21, .ref k22, .ref k23, .ref k24, .ref k25, .ref k26, .ref k27, .ref k28, .ref k29, .ref k30, .ref k31, .int i12, .int i13, .int i14, .int i15, .int i16, .ref k32, .ref k33, .ref k34, .ref k35, .ref k36, .ref k37, .int i17, .ref k38])), (h1, aI cI 21 f18)] H := hP.sub [0, 1] rfl
        have hD9 : va_D A [(h0, .inr (9, [.int i0, .int i1, .ref k0, .ref k1, .ref k2, .ref k3, .ref k4, .int i2, .ref h1, .int i3, .ref k5, .ref k6, .ref k7, .int i4, .ref k8, .ref k9, .int i5, .ref k10, .ref k11, .ref k12, .int i6, .ref k13, .int i7, .ref k14, .ref k15, .int i8, .int i9, .int i10, .ref k16, .int i11, .ref k17, .ref k18, .ref k19, .ref k20, .ref k21, .ref k22, .ref k23, .ref k24, .ref k25, .ref k26, .ref k27, .ref k28, .ref k29, .ref k30, .ref k31, .int i12, .int i13, .int i14, .int i15, .int i16, .ref k32, .ref k33, .ref k34, .ref k35, .ref k36, .ref k37, .int i17, .ref k38])), (h1, aI cI 21 f18)] := hD.sub [0, 1] (by decide) rfl
        rw [← hQQ]
        exact W.iret (v := t7_0) hx hb hr (fun t ht hW => ⟨⟨_, (), rfl, hwp, by rw [ht]; exact hP9, hD9⟩, hS.F ht⟩) hS.2.2 dX9_reached_62
      · replace hwp := hwp.2 c10
        refine lv_iload_n hx hb dX9_reached_13 rfl (lv_at hl 1 rfl) ?_
        refine lv_istore (lv' := [(4, .int t7_0), (3, .int t7_0), (0, .ref h0), (2, .int p1)]) hx hb dX9_reached_14 hl (by decide) rfl (fun ls hl => ?_)
        refine lv_iconst (v := 0) hx hb dX9_reached_16 (by decide) ?_
        refine lv_istore (lv' := [(5, .int 0), (4, .int t7_0), (3, .int t7_0), (0, .ref h0), (2, .int p1)]) hx hb dX9_reached_17 hl (by decide) rfl (fun ls hl => ?_)
        replace hl : lv_has ls 6 [(5, .int 0), (4, .int t7_0), (3, .int t7_0), (0, .ref h0), (2, .int p1)] := lv_sub hl [0, 1, 2, 3, 4] rfl
        obtain ⟨n2, hwp⟩ := hwp
        have hs2 : ∀ (n2 : Nat) (H : Heap) (locs : List Loc) (ls : Array Slot) (t19_0 : Int32) (t19_1 : Int32), wLX9_reached_19 i3 f18 p1 t7_0 K (fun z0 z1 => wLX9_reached_7 i3 f18 p1 K  n1 z0 z1) n2 t19_0 t19_1 → va_P G vwCl [(h0, .inr (9, [.int i0, .int i1, .ref k0, .ref k1, .ref k2, .ref k3, .ref k4, .int i2, .ref h1, .int i3, .ref k5, .ref k6, .ref k7, .int i4, .ref k8, .ref k9, .int i5, .ref k10, .ref k11, .ref k12, .int i6, .ref k13, .int i7, .ref k14, .ref k15, .int i8, .int i9, .int i10, .ref k16, .int i11, .ref k17, .ref k18, .ref k19, .ref k20, .ref k21, .ref k22, .ref k23, .ref k24, .ref k25, .ref k26, .ref k27, .ref k28, .ref k29, .ref k30, .ref k31, .int i12, .int i13, .int i14, .int i15, .int i16, .ref k32, .ref k33, .ref k34, .ref k35, .ref k36, .ref k37, .int i17, .ref k38])), (h1, aI cI 21 f18)] H → va_D A [(h0, .inr (9, [.int i0, .int i1, .ref k0, .ref k1, .ref k2, .ref k3, .ref k4, .int i2, .ref h1, .int i3, .ref k5, .ref k6, .ref k7, .int i4, .ref k8, .ref k9, .int i5, .ref k10, .ref k11, .ref k12, .int i6, .ref k13, .int i7, .ref k14, .ref k15, .int i8, .int i9, .int i10, .ref k16, .int i11, .ref k17, .ref k18, .ref k19, .ref k20, .ref k21, .ref k22, .ref k23, .ref k24, .ref k25, .ref k26, .ref k27, .ref k28, .ref k29, .ref k30, .ref k31, .int i12, .int i13, .int i14, .int i15, .int i16, .ref k32, .ref k33, .ref k34, .ref k35, .ref k36, .ref k37, .int i17, .ref k38])), (h1, aI cI 21 f18)] → va_S A s.heap H locs → lv_has ls 6 [(5, .int t19_1), (4, .int t7_0), (3, .int t19_0), (0, .ref h0), (2, .int p1)] → W p l e ((headSpec (xw yX9_reached cX9_reached 6 (some .int)) { frames := 0, cells := 0, slots := 0, locals := 0 }).room) s m ([.ref h0, .int p0, .int p1] : List Value).toArray below meth c H locs 0 0 QQ (F0 m 19 ls []) := by
          intro n2
          induction n2 with
          | zero => intro H locs ls t19_0 t19_1 hwp; exact False.elim hwp
          | succ n2 ih2 =>
            intro H locs ls t19_0 t19_1 hwp hP hD hS hl
            rw [wLX9_reached_19] at hwp
            refine lv_iload hx hb dX9_reached_19 (lv_at hl 0 rfl) ?_
            refine lv_aload_n hx hb dX9_reached_21 rfl (lv_at hl 3 rfl) ?_
            refine va_get (D := G) (ci := 9) (v := .int i3) (C := RX9) (T := TX9) (N := 58) hx hb hts xinX9 hown hK hP 0 rfl rfl 9 (by decide) (hts _ wo_444) (fun _ h9 => h9) rfl dX9_reached_22 ?_
            refine lv_icmp_ge (tgt := 58) hx hb dX9_reached_25 (by decide) (fun c25 => ?_) (fun c25 => ?_)
            · replace hwp := hwp.1 c25
              refine lv_goto (tgt := 7) hx hb dX9_reached_58 (by decide) ?_
              replace hl : lv_has ls 6 [(4, .int t7_0), (3, .int t19_0), (0, .ref h0), (2, .int p1)] := lv_sub hl [1, 2, 3, 4] rfl
              exact ih1 H locs ls t19_0 t7_0 hwp hP hD hS hl
            · replace hwp := hwp.2 c25
              refine lv_iload_n hx hb dX9_reached_28 rfl (lv_at hl 2 rfl) ?_
              refine lv_iload hx hb dX9_reached_29 (lv_at hl 0 rfl) ?_
              refine lv_ishr hx hb dX9_reached_31 ?_
              refine lv_iconst (v := 1) hx hb dX9_reached_32 (by decide) ?_
              refine lv_iand hx hb dX9_reached_33 ?_
              refine lv_iconst (v := 1) hx hb dX9_reached_34 (by decide) ?_
              refine lv_icmp_ne (tgt := 52) hx hb dX9_reached_35 (by decide) (fun c35 => ?_) (fun c35 => ?_)
              · replace hwp := hwp.1 c35
                refine lv_iinc (v := (t19_1 + 1)) (lv' := [(5, .int (t19_1 + 1)), (4, .int t7_0), (3, .int t19_0), (0, .ref h0), (2, .int p1)]) hx hb dX9_reached_52 hl (k := 0) rfl rfl (by decide) rfl (fun ls hl => ?_)
                refine lv_goto (tgt := 19) hx hb dX9_reached_55 (by decide) ?_
                replace hl : lv_has ls 6 [(5, .int (t19_1 + 1)), (4, .int t7_0), (3, .int t19_0), (0, .ref h0), (2, .int p1)] := lv_sub hl [0, 1, 2, 3, 4] rfl
                exact ih2 H locs ls t19_0 (t19_1 + 1) hwp hP hD hS hl
              · replace hwp := hwp.2 c35
                refine lv_iload_n hx hb dX9_reached_38 rfl (lv_at hl 2 rfl) ?_
                refine lv_aload_n hx hb dX9_reached_39 rfl (lv_at hl 3 rfl) ?_
                refine va_get (D := G) (ci := 9) (v := .ref h1) (C := RX9) (T := TX9) (N := 58) hx hb hts xinX9 hown hK hP 0 rfl rfl 8 (by decide) (hts _ wo_445) (fun _ h9 => h9) rfl dX9_reached_40 ?_
                refine lv_iload hx hb dX9_reached_43 (lv_at hl 0 rfl) ?_
                obtain ⟨hi, hwp⟩ := hwp
                refine va_iald hx hb hK hP 1 0 rfl rfl hi dX9_reached_45 ?_
                refine lv_iload_n hx hb dX9_reached_46 rfl (lv_at hl 4 rfl) ?_
                refine lv_iconst (v := (-1)) hx hb dX9_reached_47 (by decide) ?_
                refine lv_ixor hx hb dX9_reached_48 ?_
                refine lv_iand hx hb dX9_reached_49 ?_
                refine lv_ior hx hb dX9_reached_50 ?_
                refine lv_topi (fun v51 ev51 => ?_)
                replace hwp := hwp v51 ev51
                clear ev51
                refine lv_istore_n (lv' := [(3, .int v51), (5, .int t19_1), (4, .int t7_0), (0, .ref h0), (2, .int p1)]) hx hb dX9_reached_51 rfl hl (by decide) rfl (fun ls hl => ?_)
                refine lv_iinc (v := (t19_1 + 1)) (lv' := [(5, .int (t19_1 + 1)), (3, .int v51), (4, .int t7_0), (0, .ref h0), (2, .int p1)]) hx hb dX9_reached_52 hl (k := 1) rfl rfl (by decide) rfl (fun ls hl => ?_)
                refine lv_goto (tgt := 19) hx hb dX9_reached_55 (by decide) ?_
                replace hl : lv_has ls 6 [(5, .int (t19_1 + 1)), (4, .int t7_0), (3, .int v51), (0, .ref h0), (2, .int p1)] := lv_sub hl [0, 2, 1, 3, 4] rfl
                exact ih2 H locs ls v51 (t19_1 + 1) hwp hP hD hS hl
        exact hs2 n2 H locs ls t7_0 0 hwp hP hD hS hl
  exact hs1 n1 H locs ls v3 0 hwp hP hD hS hl
def wLX9_rootOf_2 (f18 : Nat → Int32) (K : Int32 → Unit → Prop)  : Nat → Int32 → Prop
  | 0, _ => False
  | n2 + 1, t2_0 => (vp_in t2_0 220 ∧ (((f18 (Int32.toNatClampNeg t2_0)) = t2_0 → K t2_0 ()) ∧ (¬ (f18 (Int32.toNatClampNeg t2_0)) = t2_0 → (vp_in t2_0 220 ∧ (∀ v18 : Int32, v18 = (f18 (Int32.toNatClampNeg t2_0)) → (wLX9_rootOf_2 f18 K  n2) v18)))))
def wX9_rootOf (i0 : Int32) (i1 : Int32) (i2 : Int32) (i3 : Int32) (i4 : Int32) (i5 : Int32) (i6 : Int32) (i7 : Int32) (i8 : Int32) (i9 : Int32) (i10 : Int32) (i11 : Int32) (i12 : Int32) (i13 : Int32) (i14 : Int32) (i15 : Int32) (i16 : Int32) (i17 : Int32) (f18 : Nat → Int32) (p0 : Int32) (K : Int32 → Unit → Prop) : Prop := (∃ n2, wLX9_rootOf_2 f18 K  n2 p0)
set_option maxHeartbeats 4000000 in
set_option maxRecDepth 100000 in
theorem zX9_rootOf (l : Launch) (G : va_G) (cI cJ cZ : ClassId) (h0 h1 k0 k1 k2 k3 k4 k5 k6 k7 k8 k9 k10 k11 k12 k13 k14 k15 k16 k17 k18 k19 k20 k21 k22 k23 k24 k25 k26 k27 k28 k29 k30 k31 k32 k33 k34 k35 k36 k37 k38 sz : Nat) (i0 : Int32) (i1 : Int32) (i2 : Int32) (i3 : Int32) (i4 : Int32) (i5 : Int32) (i6 : Int32) (i7 : Int32) (i8 : Int32) (i9 : Int32) (i10 : Int32) (i11 : Int32) (i12 : Int32) (i13 : Int32) (i14 : Int32) (i15 : Int32) (i16 : Int32) (i17 : Int32) (f18 : Nat → Int32) (p0 : Int32) (K : Int32 → Unit → Prop) (hwp : wX9_rootOf i0 i1 i2 i3 i4 i5 i6 i7 i8 i9 i10 i11 i12 i13 i14 i15 i16 i17 f18 p0 K) : Met l yX9_rootOf (xw yX9_rootOf cX9_rootOf 3 (some .int)) ({ frames := 0, cells := 0, slots := 0, locals := 0 }) (xPc G cI cJ cZ [.ref h0, .int p0] [(h0, .inr (9, [.int i0, .int i1, .ref k0, .ref k1, .ref k2, .ref k3, .ref k4, .int i2, .ref k5, .int i3, .ref k6, .ref k7, .ref h1, .int i4, .ref k8, .ref k9, .int i5, .ref k10, .ref k11, .ref k12, .int i6, .ref k13, .int i7, .ref k14, .ref k15, .int i8, .int i9, .int i10, .ref k16, .int i11, .ref k17, .ref k18, .ref k19, .ref k20, .ref k21, .ref k22, .ref k23, .ref k24, .ref k25, .ref k26, .ref k27, .ref k28, .ref k29, .ref k30, .ref k31, .int i12, .int i13, .int i14, .int i15, .int i16, .ref k32, .ref k33, .ref k34, .ref k35, .ref k36, .ref k37, .int i17, .ref k38])), (h1, aI cI 220 f18)] sz) (va_Qi (fun (r : Int32) (u : Unit) => K r u) (fun (u : Unit) t => xB G (va_A [(h0, .inr (9, [.int i0, .int i1, .ref k0, .ref k1, .ref k2, .ref k3, .ref k4, .int i2, .ref k5, .int i3, .ref k6, .ref k7, .ref h1, .int i4, .ref k8, .ref k9, .int i5, .ref k10, .ref k11, .ref k12, .int i6, .ref k13, .int i7, .ref k14, .ref k15, .int i8, .int i9, .int i10, .ref k16, .int i11, .ref k17, .ref k18, .ref k19, .ref k20, .ref k21, .ref k22, .ref k23, .ref k24, .ref k25, .ref k26, .ref k27, .ref k28, .ref k29, .ref k30, .ref k31, .int i12, .int i13, .int i14, .int i15, .int i16, .ref k32, .ref k33, .ref k34, .ref k35, .ref k36, .ref k37, .int i17, .ref k38])), (h1, aI cI 220 f18)] sz) [(h0, .inr (9, [.int i0, .int i1, .ref k0, .ref k1, .ref k2, .ref k3, .ref k4, .int i2, .ref k5, .int i3, .ref k6, .ref k7, .ref h1, .int i4, .ref k8, .ref k9, .int i5, .ref k10, .ref k11, .ref k12, .int i6, .ref k13, .int i7, .ref k14, .ref k15, .int i8, .int i9, .int i10, .ref k16, .int i11, .ref k17, .ref k18, .ref k19, .ref k20, .ref k21, .ref k22, .ref k23, .ref k24, .ref k25, .ref k26, .ref k27, .ref k28, .ref k29, .ref k30, .ref k31, .int i12, .int i13, .int i14, .int i15, .int i16, .ref k32, .ref k33, .ref k34, .ref k35, .ref k36, .ref k37, .int i17, .ref k38])), (h1, aI cI 220 f18)] t) (va_A [(h0, .inr (9, [.int i0, .int i1, .ref k0, .ref k1, .ref k2, .ref k3, .ref k4, .int i2, .ref k5, .int i3, .ref k6, .ref k7, .ref h1, .int i4, .ref k8, .ref k9, .int i5, .ref k10, .ref k11, .ref k12, .int i6, .ref k13, .int i7, .ref k14, .ref k15, .int i8, .int i9, .int i10, .ref k16, .int i11, .ref k17, .ref k18, .ref k19, .ref k20, .ref k21, .ref k22, .ref k23, .ref k24, .ref k25, .ref k26, .ref k27, .ref k28, .ref k29, .ref k30, .ref k31, .int i12, .int i13, .int i14, .int i15, .int i16, .ref k32, .ref k33, .ref k34, .ref k35, .ref k36, .ref k37, .int i17, .ref k38])), (h1, aI cI 220 f18)] sz)) 0 0 (va_A [(h0, .inr (9, [.int i0, .int i1, .ref k0, .ref k1, .ref k2, .ref k3, .ref k4, .int i2, .ref k5, .int i3, .ref k6, .ref k7, .ref h1, .int i4, .ref k8, .ref k9, .int i5, .ref k10, .ref k11, .ref k12, .int i6, .ref k13, .int i7, .ref k14, .ref k15, .int i8, .int i9, .int i10, .ref k16, .int i11, .ref k17, .ref k18, .ref k19, .ref k20, .ref k21, .ref k22, .ref k23, .ref k24, .ref k25, .ref k26, .ref k27, .ref k28, .ref k29, .ref k30, .ref k31, .int i12, .int i13, .int i14, .int i15, .int i16, .ref k32, .ref k33, .ref k34, .ref k35, .ref k36, .ref k37, .int i17, .ref k38])), (h1, aI cI 220 f18)] sz) := by
  refine Met.ofW (cc := cX9_rootOf) (maxL := 3) (ret := (some .int)) (by decide) rfl ?_
  intro p e s m args below meth c s₁ B hml hv
  obtain ⟨rfl, hsz, hP, hK, hD0, hN⟩ := hv
  have hx := B.exec
  have hb := B.bytes
  have hr := B.returns
  have hts : ∀ w ∈ xW, w.before _ s = true := fun w h => atoms_spec (ws := xw yX9_rootOf cX9_rootOf 3 (some .int)) B.pre w (List.mem_cons_of_mem _ h)
  have hown : s.vm.findClass RX9 = some m.cls := findClass_of_methodNamed B.named
  have hlocks := B.notSynchronized
  subst hsz
  have hD := hD0.self (sz := s.heap.size)
  clear hD0
  generalize hAe : va_A [(h0, .inr (9, [.int i0, .int i1, .ref k0, .ref k1, .ref k2, .ref k3, .ref k4, .int i2, .ref k5, .int i3, .ref k6, .ref k7, .ref h1, .int i4, .ref k8, .ref k9, .int i5, .ref k10, .ref k11, .ref k12, .int i6, .ref k13, .int i7, .ref k14, .ref k15, .int i8, .int i9, .int i10, .ref k16, .int i11, .ref k17, .ref k18, .ref k19, .ref k20, .ref k21, .ref k22, .ref k23, .ref k24, .ref k25, .ref k26, .ref k27, .ref k28, .ref k29, .ref k30, .ref k31, .int i12, .int i13, .int i14, .int i15, .int i16, .ref k32, .ref k33, .ref k34, .ref k35, .ref k36, .ref k37, .int i17, .ref k38])), (h1, aI cI 220 f18)] s.heap.size = A at hD ⊢
  have hA : ∀ q : Nat, s.heap.size ≤ q → A q := fun q h => by rw [← hAe]; exact Or.inr h
  clear hAe
  have hS : va_S A s.heap s.heap [] := va_S.rf
  replace hP : va_P G vwCl [(h0, .inr (9, [.int i0, .int i1, .ref k0, .ref k1, .ref k2, .ref k3, .ref k4, .int i2, .ref k5, .int i3, .ref k6, .ref k7, .ref h1, .int i4, .ref k8, .ref k9, .int i5, .ref k10, .ref k11, .ref k12, .int i6, .ref k13, .int i7, .ref k14, .ref k15, .int i8, .int i9, .int i10, .ref k16, .int i11, .ref k17, .ref k18, .ref k19, .ref k20, .ref k21, .ref k22, .ref k23, .ref k24, .ref k25, .ref k26, .ref k27, .ref k28, .ref k29, .ref k30, .ref k31, .int i12, .int i13, .int i14, .int i15, .int i16, .ref k32, .ref k33, .ref k34, .ref k35, .ref k36, .ref k37, .int i17, .ref k38])), (h1, aI cI 220 f18)] s.heap := hP
  have hl := lv_entry ([.ref h0, .int p0]) (n := 3) (Nat.le_of_ble_eq_true rfl)
  rw [lg_entry_eq]
  generalize (lg_sl ([.ref h0, .int p0]) ++ List.replicate (3 - (lg_sl ([.ref h0, .int p0])).length) Slot.unset).toArray = ls at hl ⊢
  replace hl : lv_has ls 3 [(0, .ref h0), (1, .int p0)] := hl
  generalize hQQ : MQ below _ _ s 0 0 _ = QQ
  skip
  unfold wX9_rootOf at hwp
  refine lv_iload_n hx hb dX9_rootOf_0 rfl (lv_at hl 1 rfl) ?_
  refine lv_istore_n (lv' := [(2, .int p0), (0, .ref h0), (1, .int p0)]) hx hb dX9_rootOf_1 rfl hl (by decide) rfl (fun ls hl => ?_)
  refine xgen (Pp := fun H locs => W p l e _ s m _ below meth c H locs _ _ _ _) (fun H locs hP hD hS => ?_) hP hD hS
  replace hl : lv_has ls 3 [(2, .int p0), (0, .ref h0)] := lv_sub hl [0, 1] rfl
  obtain ⟨n1, hwp⟩ := hwp
  have hs1 : ∀ (n1 : Nat) (H : Heap) (locs : List Loc) (ls : Array Slot) (t2_0 : Int32), wLX9_rootOf_2 f18 K  n1 t2_0 → va_P G vwCl [(h0, .inr (9, [.int i0, .int i1, .ref k0, .ref k1, .ref k2, .ref k3, .ref k4, .int i2, .ref k5, .int i3, .ref k6, .ref k7, .ref h1, .int i4, .ref k8, .ref k9, .int i5, .ref k10, .ref k11, .ref k12, .int i6, .ref k13, .int i7, .ref k14, .ref k15, .int i8, .int i9, .int i10, .ref k16, .int i11, .ref k17, .ref k18, .ref k19, .ref k20, .ref k21, .ref k22, .ref k23, .ref k24, .ref k25, .ref k26, .ref k27, .ref k28, .ref k29, .ref k30, .ref k31, .int i12, .int i13, .int i14, .int i15, .int i16, .ref k32, .ref k33, .ref k34, .ref k35, .ref k36, .ref k37, .int i17, .ref k38])), (h1, aI cI 220 f18)] H → va_D A [(h0, .inr (9, [.int i0, .int i1, .ref k0, .ref k1, .ref k2, .ref k3, .ref k4, .int i2, .ref k5, .int i3, .ref k6, .ref k7, .ref h1, .int i4, .ref k8, .ref k9, .int i5, .ref k10, .ref k11, .ref k12, .int i6, .ref k13, .int i7, .ref k14, .ref k15, .int i8, .int i9, .int i10, .ref k16, .int i11, .ref k17, .ref k18, .ref k19, .ref k20, .ref k21, .ref k22, .ref k23, .ref k24, .ref k25, .ref k26, .ref k27, .ref k28, .ref k29, .ref k30, .ref k31, .int i12, .int i13, .int i14, .int i15, .int i16, .ref k32, .ref k33, .ref k34, .ref k35, .ref k36, .ref k37, .int i17, .ref k38])), (h1, aI cI 220 f18)] → va_S A s.heap H locs → lv_has ls 3 [(2, .int t2_0), (0, .ref h0)] → W p l e ((headSpec (xw yX9_rootOf cX9_rootOf 3 (some .int)) { frames := 0, cells := 0, slots := 0, locals := 0 }).room) s m ([.ref h0, .int p0] : List Value).toArray below meth c H locs 0 0 QQ (F0 m 2 ls []) := by
    intro n1
    induction n1 with
    | zero => intro H locs ls t2_0 hwp; exact False.elim hwp
    | succ n1 ih1 =>
      intro H locs ls t2_0 hwp hP hD hS hl
      rw [wLX9_rootOf_2] at hwp
      refine lv_aload_n hx hb dX9_rootOf_2 rfl (lv_at hl 1 rfl) ?_
      refine va_get (D := G) (ci := 9) (v := .ref h1) (C := RX9) (T := TX9) (N := 58) hx hb hts xinX9 hown hK hP 0 rfl rfl 12 (by decide) (hts _ wo_446) (fun _ h9 => h9) rfl dX9_rootOf_3 ?_
      refine lv_iload_n hx hb dX9_rootOf_6 rfl (lv_at hl 0 rfl) ?_
      obtain ⟨hi, hwp⟩ := hwp
      refine va_iald hx hb hK hP 1 0 rfl rfl hi dX9_rootOf_7 ?_
      refine lv_iload_n hx hb dX9_rootOf_8 rfl (lv_at hl 0 rfl) ?_
      refine lv_icmp_eq (tgt := 22) hx hb dX9_rootOf_9 (by decide) (fun c9 => ?_) (fun c9 => ?_)
      · replace hwp := hwp.1 c9
        refine lv_iload_n hx hb dX9_rootOf_22 rfl (lv_at hl 0 rfl) ?_
        have hP9 : va_P G vwCl [(h0, .inr (9, [.int i0, .int i1, .ref k0, .ref k1, .ref k2, .ref k3, .ref k4, .int i2, .ref k5, .int i3, .ref k6, .ref k7, .ref h1, .int i4, .ref k8, .ref k9, .int i5, .ref k10, .ref k11, .ref k12, .int i6, .ref k13, .int i7, .ref k14, .ref k15, .int i8, .int i9, .int i10, .ref k16, .int i11, .ref k17, .ref k18, .ref k19, .ref k20, .ref k21, .ref k22, .ref k23, .ref k24, .ref k25, .ref k26, .ref k27, .ref k28, .ref k29, .ref k30, .ref k31, .int i12, .int i13, .int i14, .int i15, .int i16, .ref k32, .ref k33, .ref k34, .ref k35, .ref k36, .ref k37, .int i17, .ref k38])), (h1, aI cI 220 f18)] H := hP.sub [0, 1] rfl
        have hD9 : va_D A [(h0, .inr (9, [.int i0, .int i1, .ref k0, .ref k1, .ref k2, .ref k3, .ref k4, .int i2, .ref k5, .int i3, .ref k6, .ref k7, .ref h1, .int i4, .ref k8, .ref k9, .int i5, .ref k10, .ref k11, .ref k12, .int i6, .ref k13, .int i7, .ref k14, .ref k15, .int i8, .int i9, .int i10, .ref k16, .int i11, .ref k17, .ref k18, .ref k19, .ref k20, .ref k21, .ref k22, .ref k23, .ref k24, .ref k25, .ref k26, .ref k27, .ref k28, .ref k29, .ref k30, .ref k31, .int i12, .int i13, .int i14, .int i15, .int i16, .ref k32, .ref k33, .ref k34, .ref k35, .ref k36, .ref k37, .int i17, .ref k38])), (h1, aI cI 220 f18)] := hD.sub [0, 1] (by decide) rfl
        rw [← hQQ]
        exact W.iret (v := t2_0) hx hb hr (fun t ht hW => ⟨⟨_, (), rfl, hwp, by rw [ht]; exact hP9, hD9⟩, hS.F ht⟩) hS.2.2 dX9_rootOf_23
      · replace hwp := hwp.2 c9
        refine lv_aload_n hx hb dX9_rootOf_12 rfl (lv_at hl 1 rfl) ?_
        refine va_get (D := G) (ci := 9) (v := .ref h1) (C := RX9) (T := TX9) (N := 58) hx hb hts xinX9 hown hK hP 0 rfl rfl 12 (by decide) (hts _ wo_446) (fun _ h9 => h9) rfl dX9_rootOf_13 ?_
        refine lv_iload_n hx hb dX9_rootOf_16 rfl (lv_at hl 0 rfl) ?_
        obtain ⟨hi, hwp⟩ := hwp
        refine va_iald hx hb hK hP 1 0 rfl rfl hi dX9_rootOf_17 ?_
        refine lv_topi (fun v18 ev18 => ?_)
        replace hwp := hwp v18 ev18
        clear ev18
        refine lv_istore_n (lv' := [(2, .int v18), (0, .ref h0)]) hx hb dX9_rootOf_18 rfl hl (by decide) rfl (fun ls hl => ?_)
        refine lv_goto (tgt := 2) hx hb dX9_rootOf_19 (by decide) ?_
        replace hl : lv_has ls 3 [(2, .int v18), (0, .ref h0)] := lv_sub hl [0, 1] rfl
        exact ih1 H locs ls v18 hwp hP hD hS hl
  exact hs1 n1 H locs ls p0 hwp hP hD hS hl
def wLX9_edgeAt_2 (f18 : Nat → Int32) (f19 : Nat → Int32) (p0 : Int32) (p1 : Int32) (K : Int32 → Unit → Prop)  : Nat → Int32 → Prop
  | 0, _ => False
  | n2 + 1, t2_0 => (vp_in t2_0 220 ∧ ((¬ (f18 (Int32.toNatClampNeg t2_0)) = p0 → (vp_in t2_0 220 ∧ ((¬ (f18 (Int32.toNatClampNeg t2_0)) = p1 → (wLX9_edgeAt_2 f18 f19 p0 p1 K  n2) (t2_0 + 1)) ∧ ((f18 (Int32.toNatClampNeg t2_0)) = p1 → (vp_in t2_0 220 ∧ (((f19 (Int32.toNatClampNeg t2_0)) = p0 → K t2_0 ()) ∧ (¬ (f19 (Int32.toNatClampNeg t2_0)) = p0 → (wLX9_edgeAt_2 f18 f19 p0 p1 K  n2) (t2_0 + 1)))))))) ∧ ((f18 (Int32.toNatClampNeg t2_0)) = p0 → (vp_in t2_0 220 ∧ (((f19 (Int32.toNatClampNeg t2_0)) = p1 → K t2_0 ()) ∧ (¬ (f19 (Int32.toNatClampNeg t2_0)) = p1 → (vp_in t2_0 220 ∧ ((¬ (f18 (Int32.toNatClampNeg t2_0)) = p1 → (wLX9_edgeAt_2 f18 f19 p0 p1 K  n2) (t2_0 + 1)) ∧ ((f18 (Int32.toNatClampNeg t2_0)) = p1 → (vp_in t2_0 220 ∧ (((f19 (Int32.toNatClampNeg t2_0)) = p0 → K t2_0 ()) ∧ (¬ (f19 (Int32.toNatClampNeg t2_0)) = p0 → (wLX9_edgeAt_2 f18 f19 p0 p1 K  n2) (t2_0 + 1)))))))))))))
def wX9_edgeAt (i0 : Int32) (i1 : Int32) (i2 : Int32) (i3 : Int32) (i4 : Int32) (i5 : Int32) (i6 : Int32) (i7 : Int32) (i8 : Int32) (i9 : Int32) (i10 : Int32) (i11 : Int32) (i12 : Int32) (i13 : Int32) (i14 : Int32) (i15 : Int32) (i16 : Int32) (i17 : Int32) (f18 : Nat → Int32) (f19 : Nat → Int32) (p0 : Int32) (p1 : Int32) (K : Int32 → Unit → Prop) : Prop := (∃ n2, wLX9_edgeAt_2 f18 f19 p0 p1 K  n2 0)
set_option maxHeartbeats 4000000 in
set_option maxRecDepth 100000 in
theorem zX9_edgeAt (l : Launch) (G : va_G) (cI cJ cZ : ClassId) (h0 h1 h2 k0 k1 k2 k3 k4 k5 k6 k7 k8 k9 k10 k11 k12 k13 k14 k15 k16 k17 k18 k19 k20 k21 k22 k23 k24 k25 k26 k27 k28 k29 k30 k31 k32 k33 k34 k35 k36 k37 sz : Nat) (i0 : Int32) (i1 : Int32) (i2 : Int32) (i3 : Int32) (i4 : Int32) (i5 : Int32) (i6 : Int32) (i7 : Int32) (i8 : Int32) (i9 : Int32) (i10 : Int32) (i11 : Int32) (i12 : Int32) (i13 : Int32) (i14 : Int32) (i15 : Int32) (i16 : Int32) (i17 : Int32) (f18 : Nat → Int32) (f19 : Nat → Int32) (p0 : Int32) (p1 : Int32) (K : Int32 → Unit → Prop) (hwp : wX9_edgeAt i0 i1 i2 i3 i4 i5 i6 i7 i8 i9 i10 i11 i12 i13 i14 i15 i16 i17 f18 f19 p0 p1 K) : Met l yX9_edgeAt (xw yX9_edgeAt cX9_edgeAt 4 (some .int)) ({ frames := 0, cells := 0, slots := 0, locals := 0 }) (xPc G cI cJ cZ [.ref h0, .int p0, .int p1] [(h0, .inr (9, [.int i0, .int i1, .ref k0, .ref k1, .ref k2, .ref k3, .ref k4, .int i2, .ref k5, .int i3, .ref h1, .ref h2, .ref k6, .int i4, .ref k7, .ref k8, .int i5, .ref k9, .ref k10, .ref k11, .int i6, .ref k12, .int i7, .ref k13, .ref k14, .int i8, .int i9, .int i10, .ref k15, .int i11, .ref k16, .ref k17, .ref k18, .ref k19, .ref k20, .ref k21, .ref k22, .ref k23, .ref k24, .ref k25, .ref k26, .ref k27, .ref k28, .ref k29, .ref k30, .int i12, .int i13, .int i14, .int i15, .int i16, .ref k31, .ref k32, .ref k33, .ref k34, .ref k35, .ref k36, .int i17, .ref k37])), (h1, aI cI 220 f18), (h2, aI cI 220 f19)] sz) (va_Qi (fun (r : Int32) (u : Unit) => K r u) (fun (u : Unit) t => xB G (va_A [(h0, .inr (9, [.int i0, .int i1, .ref k0, .ref k1, .ref k2, .ref k3, .ref k4, .int i2, .ref k5, .int i3, .ref h1, .ref h2, .ref k6, .int i4, .ref k7, .ref k8, .int i5, .ref k9, .ref k10, .ref k11, .int i6, .ref k12, .int i7, .ref k13, .ref k14, .int i8, .int i9, .int i10, .ref k15, .int i11, .ref k16, .ref k17, .ref k18, .ref k19, .ref k20, .ref k21, .ref k22, .ref k23, .ref k24, .ref k25, .ref k26, .ref k27, .ref k28, .ref k29, .ref k30, .int i12, .int i13, .int i14, .int i15, .int i16, .ref k31, .ref k32, .ref k33, .ref k34, .ref k35, .ref k36, .int i17, .ref k37])), (h1, aI cI 220 f18), (h2, aI cI 220 f19)] sz) [(h0, .inr (9, [.int i0, .int i1, .ref k0, .ref k1, .ref k2, .ref k3, .ref k4, .int i2, .ref k5, .int i3, .ref h1, .ref h2, .ref k6, .int i4, .ref k7, .ref k8, .int i5, .ref k9, .ref k10, .ref k11, .int i6, .ref k12, .int i7, .ref k13, .ref k14, .int i8, .int i9, .int i10, .ref k15, .int i11, .ref k16, .ref k17, .ref k18, .ref k19, .ref k20, .ref k21, .ref k22, .ref k23, .ref k24, .ref k25, .ref k26, .ref k27, .ref k28, .ref k29, .ref k30, .int i12, .int i13, .int i14, .int i15, .int i16, .ref k31, .ref k32, .ref k33, .ref k34, .ref k35, .ref k36, .int i17, .ref k37])), (h1, aI cI 220 f18), (h2, aI cI 220 f19)] t) (va_A [(h0, .inr (9, [.int i0, .int i1, .ref k0, .ref k1, .ref k2, .ref k3, .ref k4, .int i2, .ref k5, .int i3, .ref h1, .ref h2, .ref k6, .int i4, .ref k7, .ref k8, .int i5, .ref k9, .ref k10, .ref k11, .int i6, .ref k12, .int i7, .ref k13, .ref k14, .int i8, .int i9, .int i10, .ref k15, .int i11, .ref k16, .ref k17, .ref k18, .ref k19, .ref k20, .ref k21, .ref k22, .ref k23, .ref k24, .ref k25, .ref k26, .ref k27, .ref k28, .ref k29, .ref k30, .int i12, .int i13, .int i14, .int i15, .int i16, .ref k31, .ref k32, .ref k33, .ref k34, .ref k35, .ref k36, .int i17, .ref k37])), (h1, aI cI 220 f18), (h2, aI cI 220 f19)] sz)) 0 0 (va_A [(h0, .inr (9, [.int i0, .int i1, .ref k0, .ref k1, .ref k2, .ref k3, .ref k4, .int i2, .ref k5, .int i3, .ref h1, .ref h2, .ref k6, .int i4, .ref k7, .ref k8, .int i5, .ref k9, .ref k10, .ref k11, .int i6, .ref k12, .int i7, .ref k13, .ref k14, .int i8, .int i9, .int i10, .ref k15, .int i11, .ref k16, .ref k17, .ref k18, .ref k19, .ref k20, .ref k21, .ref k22, .ref k23, .ref k24, .ref k25, .ref k26, .ref k27, .ref k28, .ref k29, .ref k30, .int i12, .int i13, .int i14, .int i15, .int i16, .ref k31, .ref k32, .ref k33, .ref k34, .ref k35, .ref k36, .int i17, .ref k37])), (h1, aI cI 220 f18), (h2, aI cI 220 f19)] sz) := by
  refine Met.ofW (cc := cX9_edgeAt) (maxL := 4) (ret := (some .int)) (by decide) rfl ?_
  intro p e s m args below meth c s₁ B hml hv
  obtain ⟨rfl, hsz, hP, hK, hD0, hN⟩ := hv
  have hx := B.exec
  have hb := B.bytes
  have hr := B.returns
  have hts : ∀ w ∈ xW, w.before _ s = true := fun w h => atoms_spec (ws := xw yX9_edgeAt cX9_edgeAt 4 (some .int)) B.pre w (List.mem_cons_of_mem _ h)
  have hown : s.vm.findClass RX9 = some m.cls := findClass_of_methodNamed B.named
  have hlocks := B.notSynchronized
  subst hsz
  have hD := hD0.self (sz := s.heap.size)
  clear hD0
  generalize hAe : va_A [(h0, .inr (9, [.int i0, .int i1, .ref k0, .ref k1, .ref k2, .ref k3, .ref k4, .int i2, .ref k5, .int i3, .ref h1, .ref h2, .ref k6, .int i4, .ref k7, .ref k8, .int i5, .ref k9, .ref k10, .ref k11, .int i6, .ref k12, .int i7, .ref k13, .ref k14, .int i8, .int i9, .int i10, .ref k15, .int i11, .ref k16, .ref k17, .ref k18, .ref k19, .ref k20, .ref k21, .ref k22, .ref k23, .ref k24, .ref k25, .ref k26, .ref k27, .ref k28, .ref k29, .ref k30, .int i12, .int i13, .int i14, .int i15, .int i16, .ref k31, .ref k32, .ref k33, .ref k34, .ref k35, .ref k36, .int i17, .ref k37])), (h1, aI cI 220 f18), (h2, aI cI 220 f19)] s.heap.size = A at hD ⊢
  have hA : ∀ q : Nat, s.heap.size ≤ q → A q := fun q h => by rw [← hAe]; exact Or.inr h
  clear hAe
  have hS : va_S A s.heap s.heap [] := va_S.rf
  replace hP : va_P G vwCl [(h0, .inr (9, [.int i0, .int i1, .ref k0, .ref k1, .ref k2, .ref k3, .ref k4, .int i2, .ref k5, .int i3, .ref h1, .ref h2, .ref k6, .int i4, .ref k7, .ref k8, .int i5, .ref k9, .ref k10, .ref k11, .int i6, .ref k12, .int i7, .ref k13, .ref k14, .int i8, .int i9, .int i10, .ref k15, .int i11, .ref k16, .ref k17, .ref k18, .ref k19, .ref k20, .ref k21, .ref k22, .ref k23, .ref k24, .ref k25, .ref k26, .ref k27, .ref k28, .ref k29, .ref k30, .int i12, .int i13, .int i14, .int i15, .int i16, .ref k31, .ref k32, .ref k33, .ref k34, .ref k35, .ref k36, .int i17, .ref k37])), (h1, aI cI 220 f18), (h2, aI cI 220 f19)] s.heap := hP
  have hl := lv_entry ([.ref h0, .int p0, .int p1]) (n := 4) (Nat.le_of_ble_eq_true rfl)
  rw [lg_entry_eq]
  generalize (lg_sl ([.ref h0, .int p0, .int p1]) ++ List.replicate (4 - (lg_sl ([.ref h0, .int p0, .int p1])).length) Slot.unset).toArray = ls at hl ⊢
  replace hl : lv_has ls 4 [(0, .ref h0), (1, .int p0), (2, .int p1)] := hl
  generalize hQQ : MQ below _ _ s 0 0 _ = QQ
  skip
  unfold wX9_edgeAt at hwp
  refine lv_iconst (v := 0) hx hb dX9_edgeAt_0 (by decide) ?_
  refine lv_istore_n (lv' := [(3, .int 0), (0, .ref h0), (1, .int p0), (2, .int p1)]) hx hb dX9_edgeAt_1 rfl hl (by decide) rfl (fun ls hl => ?_)
  refine xgen (Pp := fun H locs => W p l e _ s m _ below meth c H locs _ _ _ _) (fun H locs hP hD hS => ?_) hP hD hS
  replace hl : lv_has ls 4 [(3, .int 0), (0, .ref h0), (1, .int p0), (2, .int p1)] := lv_sub hl [0, 1, 2, 3] rfl
  obtain ⟨n1, hwp⟩ := hwp
  have hs1 : ∀ (n1 : Nat) (H : Heap) (locs : List Loc) (ls : Array Slot) (t2_0 : Int32), wLX9_edgeAt_2 f18 f19 p0 p1 K  n1 t2_0 → va_P G vwCl [(h0, .inr (9, [.int i0, .int i1, .ref k0, .ref k1, .ref k2, .ref k3, .ref k4, .int i2, .ref k5, .int i3, .ref h1, .ref h2, .ref k6, .int i4, .ref k7, .ref k8, .int i5, .ref k9, .ref k10, .ref k11, .int i6, .ref k12, .int i7, .ref k13, .ref k14, .int i8, .int i9, .int i10, .ref k15, .int i11, .ref k16, .ref k17, .ref k18, .ref k19, .ref k20, .ref k21, .ref k22, .ref k23, .ref k24, .ref k25, .ref k26, .ref k27, .ref k28, .ref k29, .ref k30, .int i12, .int i13, .int i14, .int i15, .int i16, .ref k31, .ref k32, .ref k33, .ref k34, .ref k35, .ref k36, .int i17, .ref k37])), (h1, aI cI 220 f18), (h2, aI cI 220 f19)] H → va_D A [(h0, .inr (9, [.int i0, .int i1, .ref k0, .ref k1, .ref k2, .ref k3, .ref k4, .int i2, .ref k5, .int i3, .ref h1, .ref h2, .ref k6, .int i4, .ref k7, .ref k8, .int i5, .ref k9, .ref k10, .ref k11, .int i6, .ref k12, .int i7, .ref k13, .ref k14, .int i8, .int i9, .int i10, .ref k15, .int i11, .ref k16, .ref k17, .ref k18, .ref k19, .ref k20, .ref k21, .ref k22, .ref k23, .ref k24, .ref k25, .ref k26, .ref k27, .ref k28, .ref k29, .ref k30, .int i12, .int i13, .int i14, .int i15, .int i16, .ref k31, .ref k32, .ref k33, .ref k34, .ref k35, .ref k36, .int i17, .ref k37])), (h1, aI cI 220 f18), (h2, aI cI 220 f19)] → va_S A s.heap H locs → lv_has ls 4 [(3, .int t2_0), (0, .ref h0), (1, .int p0), (2, .int p1)] → W p l e ((headSpec (xw yX9_edgeAt cX9_edgeAt 4 (some .int)) { frames := 0, cells := 0, slots := 0, locals := 0 }).room) s m ([.ref h0, .int p0, .int p1] : List Value).toArray below meth c H locs 0 0 QQ (F0 m 2 ls []) := by
    intro n1
    induction n1 with
    | zero => intro H locs ls t2_0 hwp; exact False.elim hwp
    | succ n1 ih1 =>
      intro H locs ls t2_0 hwp hP hD hS hl
      rw [wLX9_edgeAt_2] at hwp
      refine lv_aload_n hx hb dX9_edgeAt_2 rfl (lv_at hl 1 rfl) ?_
      refine va_get (D := G) (ci := 9) (v := .ref h1) (C := RX9) (T := TX9) (N := 58) hx hb hts xinX9 hown hK hP 0 rfl rfl 10 (by decide) (hts _ wo_447) (fun _ h9 => h9) rfl dX9_edgeAt_3 ?_
      refine lv_iload_n hx hb dX9_edgeAt_6 rfl (lv_at hl 0 rfl) ?_
      obtain ⟨hi, hwp⟩ := hwp
      refine va_iald hx hb hK hP 1 0 rfl rfl hi dX9_edgeAt_7 ?_
      refine lv_iload_n hx hb dX9_edgeAt_8 rfl (lv_at hl 2 rfl) ?_
      refine lv_icmp_ne (tgt := 22) hx hb dX9_edgeAt_9 (by decide) (fun c9 => ?_) (fun c9 => ?_)
      · replace hwp := hwp.1 c9
        refine lv_aload_n hx hb dX9_edgeAt_22 rfl (lv_at hl 1 rfl) ?_
        refine va_get (D := G) (ci := 9) (v := .ref h1) (C := RX9) (T := TX9) (N := 58) hx hb hts xinX9 hown hK hP 0 rfl rfl 10 (by decide) (hts _ wo_447) (fun _ h9 => h9) rfl dX9_edgeAt_23 ?_
        refine lv_iload_n hx hb dX9_edgeAt_26 rfl (lv_at hl 0 rfl) ?_
        obtain ⟨hi, hwp⟩ := hwp
        refine va_iald hx hb hK hP 1 0 rfl rfl hi dX9_edgeAt_27 ?_
        refine lv_iload_n hx hb dX9_edgeAt_28 rfl (lv_at hl 3 rfl) ?_
        refine lv_icmp_ne (tgt := 42) hx hb dX9_edgeAt_29 (by decide) (fun c29 => ?_) (fun c29 => ?_)
        · replace hwp := hwp.1 c29
          refine lv_iinc (v := (t2_0 + 1)) (lv' := [(3, .int (t2_0 + 1)), (0, .ref h0), (1, .int p0), (2, .int p1)]) hx hb dX9_edgeAt_42 hl (k := 0) rfl rfl (by decide) rfl (fun ls hl => ?_)
          refine lv_goto (tgt := 2) hx hb dX9_edgeAt_45 (by decide) ?_
          replace hl : lv_has ls 4 [(3, .int (t2_0 + 1)), (0, .ref h0), (1, .int p0), (2, .int p1)] := lv_sub hl [0, 1, 2, 3] rfl
          exact ih1 H locs ls (t2_0 + 1) hwp hP hD hS hl
        · replace hwp := hwp.2 c29
          refine lv_aload_n hx hb dX9_edgeAt_32 rfl (lv_at hl 1 rfl) ?_
          refine va_get (D := G) (ci := 9) (v := .ref h2) (C := RX9) (T := TX9) (N := 58) hx hb hts xinX9 hown hK hP 0 rfl rfl 11 (by decide) (hts _ wo_448) (fun _ h9 => h9) rfl dX9_edgeAt_33 ?_
          refine lv_iload_n hx hb dX9_edgeAt_36 rfl (lv_at hl 0 rfl) ?_
          obtain ⟨hi, hwp⟩ := hwp
          refine va_iald hx hb hK hP 2 0 rfl rfl hi dX9_edgeAt_37 ?_
          refine lv_iload_n hx hb dX9_edgeAt_38 rfl (lv_at hl 2 rfl) ?_
          refine lv_icmp_eq (tgt := 48) hx hb dX9_edgeAt_39 (by decide) (fun c39 => ?_) (fun c39 => ?_)
          · replace hwp := hwp.1 c39
            refine lv_iload_n hx hb dX9_edgeAt_48 rfl (lv_at hl 0 rfl) ?_
            have hP9 : va_P G vwCl [(h0, .inr (9, [.int i0, .int i1, .ref k0, .ref k1, .ref k2, .ref k3, .ref k4, .int i2, .ref k5, .int i3, .ref h1, .ref h2, .ref k6, .int i4, .ref k7, .ref k8, .int i5, .ref k9, .ref k10, .ref k11, .int i6, .ref k12, .int i7, .ref k13, .ref k14, .int i8, .int i9, .int i10, .ref k15, .int i11, .ref k16, .ref k17, .ref k18, .ref k19, .ref k20, .ref k21, .ref k22, .ref k23, .ref k24, .ref k25, .ref k26, .ref k27, .ref k28, .ref k29, .ref k30, .int i12, .int i13, .int i14, .int i15, .int i16, .ref k31, .ref k32, .ref k33, .ref k34, .ref k35, .ref k36, .int i17, .ref k37])), (h1, aI cI 220 f18), (h2, aI cI 220 f19)] H := hP.sub [0, 1, 2] rfl
            have hD9 : va_D A [(h0, .inr (9, [.int i0, .int i1, .ref k0, .ref k1, .ref k2, .ref k3, .ref k4, .int i2, .ref k5, .int i3, .ref h1, .ref h2, .ref k6, .int i4, .ref k7, .ref k8, .int i5, .ref k9, .ref k10, .ref k11, .int i6, .ref k12, .int i7, .ref k13, .ref k14, .int i8, .int i9, .int i10, .ref k15, .int i11, .ref k16, .ref k17, .ref k18, .ref k19, .ref k20, .ref k21, .ref k22, .ref k23, .ref k24, .ref k25, .ref k26, .ref k27, .ref k28, .ref k29, .ref k30, .int i12, .int i13, .int i14, .int i15, .int i16, .ref k31, .ref k32, .ref k33, .ref k34, .ref k35, .ref k36, .int i17, .ref k37])), (h1, aI cI 220 f18), (h2, aI cI 220 f19)] := hD.sub [0, 1, 2] (by decide) rfl
            rw [← hQQ]
            exact W.iret (v := t2_0) hx hb hr (fun t ht hW => ⟨⟨_, (), rfl, hwp, by rw [ht]; exact hP9, hD9⟩, hS.F ht⟩) hS.2.2 dX9_edgeAt_49
          · replace hwp := hwp.2 c39
            refine lv_iinc (v := (t2_0 + 1)) (lv' := [(3, .int (t2_0 + 1)), (0, .ref h0), (1, .int p0), (2, .int p1)]) hx hb dX9_edgeAt_42 hl (k := 0) rfl rfl (by decide) rfl (fun ls hl => ?_)
            refine lv_goto (tgt := 2) hx hb dX9_edgeAt_45 (by decide) ?_
            replace hl : lv_has ls 4 [(3, .int (t2_0 + 1)), (0, .ref h0), (1, .int p0), (2, .int p1)] := lv_sub hl [0, 1, 2, 3] rfl
            exact ih1 H locs ls (t2_0 + 1) hwp hP hD hS hl
      · replace hwp := hwp.2 c9
        refine lv_aload_n hx hb dX9_edgeAt_12 rfl (lv_at hl 1 rfl) ?_
        refine va_get (D := G) (ci := 9) (v := .ref h2) (C := RX9) (T := TX9) (N := 58) hx hb hts xinX9 hown hK hP 0 rfl rfl 11 (by decide) (hts _ wo_448) (fun _ h9 => h9) rfl dX9_edgeAt_13 ?_
        refine lv_iload_n hx hb dX9_edgeAt_16 rfl (lv_at hl 0 rfl) ?_
        obtain ⟨hi, hwp⟩ := hwp
        refine va_iald hx hb hK hP 2 0 rfl rfl hi dX9_edgeAt_17 ?_
        refine lv_iload_n hx hb dX9_edgeAt_18 rfl (lv_at hl 3 rfl) ?_
        refine lv_icmp_eq (tgt := 48) hx hb dX9_edgeAt_19 (by decide) (fun c19 => ?_) (fun c19 => ?_)
        · replace hwp := hwp.1 c19
          refine lv_iload_n hx hb dX9_edgeAt_48 rfl (lv_at hl 0 rfl) ?_
          have hP9 : va_P G vwCl [(h0, .inr (9, [.int i0, .int i1, .ref k0, .ref k1, .ref k2, .ref k3, .ref k4, .int i2, .ref k5, .int i3, .ref h1, .ref h2, .ref k6, .int i4, .ref k7, .ref k8, .int i5, .ref k9, .ref k10, .ref k11, .int i6, .ref k12, .int i7, .ref k13, .ref k14, .int i8, .int i9, .int i10, .ref k15, .int i11, .ref k16, .ref k17, .ref k18, .ref k19, .ref k20, .ref k21, .ref k22, .ref k23, .ref k24, .ref k25, .ref k26, .ref k27, .ref k28, .ref k29, .ref k30, .int i12, .int i13, .int i14, .int i15, .int i16, .ref k31, .ref k32, .ref k33, .ref k34, .ref k35, .ref k36, .int i17, .ref k37])), (h1, aI cI 220 f18), (h2, aI cI 220 f19)] H := hP.sub [0, 1, 2] rfl
          have hD9 : va_D A [(h0, .inr (9, [.int i0, .int i1, .ref k0, .ref k1, .ref k2, .ref k3, .ref k4, .int i2, .ref k5, .int i3, .ref h1, .ref h2, .ref k6, .int i4, .ref k7, .ref k8, .int i5, .ref k9, .ref k10, .ref k11, .int i6, .ref k12, .int i7, .ref k13, .ref k14, .int i8, .int i9, .int i10, .ref k15, .int i11, .ref k16, .ref k17, .ref k18, .ref k19, .ref k20, .ref k21, .ref k22, .ref k23, .ref k24, .ref k25, .ref k26, .ref k27, .ref k28, .ref k29, .ref k30, .int i12, .int i13, .int i14, .int i15, .int i16, .ref k31, .ref k32, .ref k33, .ref k34, .ref k35, .ref k36, .int i17, .ref k37])), (h1, aI cI 220 f18), (h2, aI cI 220 f19)] := hD.sub [0, 1, 2] (by decide) rfl
          rw [← hQQ]
          exact W.iret (v := t2_0) hx hb hr (fun t ht hW => ⟨⟨_, (), rfl, hwp, by rw [ht]; exact hP9, hD9⟩, hS.F ht⟩) hS.2.2 dX9_edgeAt_49
        · replace hwp := hwp.2 c19
          refine lv_aload_n hx hb dX9_edgeAt_22 rfl (lv_at hl 1 rfl) ?_
          refine va_get (D := G) (ci := 9) (v := .ref h1) (C := RX9) (T := TX9) (N := 58) hx hb hts xinX9 hown hK hP 0 rfl rfl 10 (by decide) (hts _ wo_447) (fun _ h9 => h9) rfl dX9_edgeAt_23 ?_
          refine lv_iload_n hx hb dX9_edgeAt_26 rfl (lv_at hl 0 rfl) ?_
          obtain ⟨hi, hwp⟩ := hwp
          refine va_iald hx hb hK hP 1 0 rfl rfl hi dX9_edgeAt_27 ?_
          refine lv_iload_n hx hb dX9_edgeAt_28 rfl (lv_at hl 3 rfl) ?_
          refine lv_icmp_ne (tgt := 42) hx hb dX9_edgeAt_29 (by decide) (fun c29 => ?_) (fun c29 => ?_)
          · replace hwp := hwp.1 c29
            refine lv_iinc (v := (t2_0 + 1)) (lv' := [(3, .int (t2_0 + 1)), (0, .ref h0), (1, .int p0), (2, .int p1)]) hx hb dX9_edgeAt_42 hl (k := 0) rfl rfl (by decide) rfl (fun ls hl => ?_)
            refine lv_goto (tgt := 2) hx hb dX9_edgeAt_45 (by decide) ?_
            replace hl : lv_has ls 4 [(3, .int (t2_0 + 1)), (0, .ref h0), (1, .int p0), (2, .int p1)] := lv_sub hl [0, 1, 2, 3] rfl
            exact ih1 H locs ls (t2_0 + 1) hwp hP hD hS hl
          · replace hwp := hwp.2 c29
            refine lv_aload_n hx hb dX9_edgeAt_32 rfl (lv_at hl 1 rfl) ?_
            refine va_get (D := G) (ci := 9) (v := .ref h2) (C := RX9) (T := TX9) (N := 58) hx hb hts xinX9 hown hK hP 0 rfl rfl 11 (by decide) (hts _ wo_448) (fun _ h9 => h9) rfl dX9_edgeAt_33 ?_
            refine lv_iload_n hx hb dX9_edgeAt_36 rfl (lv_at hl 0 rfl) ?_
            obtain ⟨hi, hwp⟩ := hwp
            refine va_iald hx hb hK hP 2 0 rfl rfl hi dX9_edgeAt_37 ?_
            refine lv_iload_n hx hb dX9_edgeAt_38 rfl (lv_at hl 2 rfl) ?_
            refine lv_icmp_eq (tgt := 48) hx hb dX9_edgeAt_39 (by decide) (fun c39 => ?_) (fun c39 => ?_)
            · replace hwp := hwp.1 c39
              refine lv_iload_n hx hb dX9_edgeAt_48 rfl (lv_at hl 0 rfl) ?_
              have hP9 : va_P G vwCl [(h0, .inr (9, [.int i0, .int i1, .ref k0, .ref k1, .ref k2, .ref k3, .ref k4, .int i2, .ref k5, .int i3, .ref h1, .ref h2, .ref k6, .int i4, .ref k7, .ref k8, .int i5, .ref k9, .ref k10, .ref k11, .int i6, .ref k12, .int i7, .ref k13, .ref k14, .int i8, .int i9, .int i10, .ref k15, .int i11, .ref k16, .ref k17, .ref k18, .ref k19, .ref k20, .ref k21, .ref k22, .ref k23, .ref k24, .ref k25, .ref k26, .ref k27, .ref k28, .ref k29, .ref k30, .int i12, .int i13, .int i14, .int i15, .int i16, .ref k31, .ref k32, .ref k33, .ref k34, .ref k35, .ref k36, .int i17, .ref k37])), (h1, aI cI 220 f18), (h2, aI cI 220 f19)] H := hP.sub [0, 1, 2] rfl
              have hD9 : va_D A [(h0, .inr (9, [.int i0, .int i1, .ref k0, .ref k1, .ref k2, .ref k3, .ref k4, .int i2, .ref k5, .int i3, .ref h1, .ref h2, .ref k6, .int i4, .ref k7, .ref k8, .int i5, .ref k9, .ref k10, .ref k11, .int i6, .ref k12, .int i7, .ref k13, .ref k14, .int i8, .int i9, .int i10, .ref k15, .int i11, .ref k16, .ref k17, .ref k18, .ref k19, .ref k20, .ref k21, .ref k22, .ref k23, .ref k24, .ref k25, .ref k26, .ref k27, .ref k28, .ref k29, .ref k30, .int i12, .int i13, .int i14, .int i15, .int i16, .ref k31, .ref k32, .ref k33, .ref k34, .ref k35, .ref k36, .int i17, .ref k37])), (h1, aI cI 220 f18), (h2, aI cI 220 f19)] := hD.sub [0, 1, 2] (by decide) rfl
              rw [← hQQ]
              exact W.iret (v := t2_0) hx hb hr (fun t ht hW => ⟨⟨_, (), rfl, hwp, by rw [ht]; exact hP9, hD9⟩, hS.F ht⟩) hS.2.2 dX9_edgeAt_49
            · replace hwp := hwp.2 c39
              refine lv_iinc (v := (t2_0 + 1)) (lv' := [(3, .int (t2_0 + 1)), (0, .ref h0), (1, .int p0), (2, .int p1)]) hx hb dX9_edgeAt_42 hl (k := 0) rfl rfl (by decide) rfl (fun ls hl => ?_)
              refine lv_goto (tgt := 2) hx hb dX9_edgeAt_45 (by decide) ?_
              replace hl : lv_has ls 4 [(3, .int (t2_0 + 1)), (0, .ref h0), (1, .int p0), (2, .int p1)] := lv_sub hl [0, 1, 2, 3] rfl
              exact ih1 H locs ls (t2_0 + 1) hwp hP hD hS hl
  exact hs1 n1 H locs ls 0 hwp hP hD hS hl
def wLX9_findBlocks_172 (i0 : Int32) (i1 : Int32) (i2 : Int32) (i3 : Int32) (i5 : Int32) (i6 : Int32) (i7 : Int32) (i8 : Int32) (i9 : Int32) (i10 : Int32) (i11 : Int32) (i12 : Int32) (i13 : Int32) (i14 : Int32) (i15 : Int32) (i16 : Int32) (i17 : Int32) (t7_0 : Nat → Int32) (t7_1 : Nat → Int32) (t7_3 : Int32) (t98_1 : Int32) (v148 : Int32) (v156 : Int32) (r164 : Int32) (K : (Int32 × (Nat → Int32) × (Nat → Int32) × (Nat → Int32)) → Prop) (B113_3 : (Nat → Int32) → Int32 → Prop) : Nat → (Nat → Int32) → Int32 → Prop
  | 0, _, _ => False
  | n172 + 1, t172_0, t172_1 => ((i3 ≤ t172_1 → B113_3 t172_0 v156) ∧ (¬ i3 ≤ t172_1 → ((¬ ((v148 >>> (t172_1 &&& 31)) &&& 1) = 1 → (wLX9_findBlocks_172 i0 i1 i2 i3 i5 i6 i7 i8 i9 i10 i11 i12 i13 i14 i15 i16 i17 t7_0 t7_1 t7_3 t98_1 v148 v156 r164 K B113_3 n172) t172_0 (t172_1 + 1)) ∧ (((v148 >>> (t172_1 &&& 31)) &&& 1) = 1 → (wX9_edgeAt i0 i1 i2 i3 t7_3 i5 i6 i7 i8 i9 i10 i11 i12 i13 i14 i15 i16 i17 t7_0 t7_1 t98_1 t172_1 (fun r201 _ => (wX9_rootOf i0 i1 i2 i3 t7_3 i5 i6 i7 i8 i9 i10 i11 i12 i13 i14 i15 i16 i17 t172_0 r201 (fun r204 _ => (vp_in r204 220 ∧ (∀ g209 : Nat → Int32, g209 = upd t172_0 (Int32.toNatClampNeg r204) r164 → (wLX9_findBlocks_172 i0 i1 i2 i3 i5 i6 i7 i8 i9 i10 i11 i12 i13 i14 i15 i16 i17 t7_0 t7_1 t7_3 t98_1 v148 v156 r164 K B113_3 n172) g209 (t172_1 + 1)))))))))))
def wLX9_findBlocks_119 (i0 : Int32) (i1 : Int32) (i2 : Int32) (i3 : Int32) (i5 : Int32) (i6 : Int32) (i7 : Int32) (i8 : Int32) (i9 : Int32) (i10 : Int32) (i11 : Int32) (i12 : Int32) (i13 : Int32) (i14 : Int32) (i15 : Int32) (i16 : Int32) (i17 : Int32) (f18 : Nat → Int32) (t7_0 : Nat → Int32) (t7_1 : Nat → Int32) (t7_3 : Int32) (t98_1 : Int32) (t113_0 : Nat → Int32) (t113_1 : Int32) (K : (Int32 × (Nat → Int32) × (Nat → Int32) × (Nat → Int32)) → Prop) (B113_3 : (Nat → Int32) → Int32 → Prop) : Nat → Int32 → Prop
  | 0, _ => False
  | n119 + 1, t119_0 => ((¬ ((t113_1 >>> (t119_0 &&& 31)) &&& 1) = 0 → (wX9_reached i0 i1 i2 i3 t7_3 i5 i6 i7 i8 i9 i10 i11 i12 i13 i14 i15 i16 i17 f18 t119_0 ((1 : Int32) <<< (t98_1 &&& 31)) (fun r138 _ => (vp_in t98_1 21 ∧ (∀ v148 : Int32, v148 = (r138 &&& (f18 (Int32.toNatClampNeg t98_1))) → (∀ v156 : Int32, v156 = (t113_1 &&& (v148 ^^^ (-1))) → (wX9_edgeAt i0 i1 i2 i3 t7_3 i5 i6 i7 i8 i9 i10 i11 i12 i13 i14 i15 i16 i17 t7_0 t7_1 t98_1 t119_0 (fun r161 _ => (wX9_rootOf i0 i1 i2 i3 t7_3 i5 i6 i7 i8 i9 i10 i11 i12 i13 i14 i15 i16 i17 t113_0 r161 (fun r164 _ => (∃ n172, wLX9_findBlocks_172 i0 i1 i2 i3 i5 i6 i7 i8 i9 i10 i11 i12 i13 i14 i15 i16 i17 t7_0 t7_1 t7_3 t98_1 v148 v156 r164 K (fun z0 z1 => B113_3 z0 z1) n172 t113_0 0))))))))))) ∧ (((t113_1 >>> (t119_0 &&& 31)) &&& 1) = 0 → (wLX9_findBlocks_119 i0 i1 i2 i3 i5 i6 i7 i8 i9 i10 i11 i12 i13 i14 i15 i16 i17 f18 t7_0 t7_1 t7_3 t98_1 t113_0 t113_1 K B113_3 n119) (t119_0 + 1)))
def wLX9_findBlocks_113 (i0 : Int32) (i1 : Int32) (i2 : Int32) (i3 : Int32) (i5 : Int32) (i6 : Int32) (i7 : Int32) (i8 : Int32) (i9 : Int32) (i10 : Int32) (i11 : Int32) (i12 : Int32) (i13 : Int32) (i14 : Int32) (i15 : Int32) (i16 : Int32) (i17 : Int32) (f18 : Nat → Int32) (t7_0 : Nat → Int32) (t7_1 : Nat → Int32) (t7_3 : Int32) (t98_1 : Int32) (K : (Int32 × (Nat → Int32) × (Nat → Int32) × (Nat → Int32)) → Prop) (B98_2 : (Nat → Int32) → Int32 → Prop) : Nat → (Nat → Int32) → Int32 → Prop
  | 0, _, _ => False
  | n113 + 1, t113_0, t113_1 => ((t113_1 = 0 → B98_2 t113_0 (t98_1 + 1)) ∧ (¬ t113_1 = 0 → (∃ n119, wLX9_findBlocks_119 i0 i1 i2 i3 i5 i6 i7 i8 i9 i10 i11 i12 i13 i14 i15 i16 i17 f18 t7_0 t7_1 t7_3 t98_1 t113_0 t113_1 K (fun z0 z1 => (wLX9_findBlocks_113 i0 i1 i2 i3 i5 i6 i7 i8 i9 i10 i11 i12 i13 i14 i15 i16 i17 f18 t7_0 t7_1 t7_3 t98_1 K B98_2 n113) z0 z1) n119 0)))
def wLX9_findBlocks_98 (i0 : Int32) (i1 : Int32) (i2 : Int32) (i3 : Int32) (i5 : Int32) (i6 : Int32) (i7 : Int32) (i8 : Int32) (i9 : Int32) (i10 : Int32) (i11 : Int32) (i12 : Int32) (i13 : Int32) (i14 : Int32) (i15 : Int32) (i16 : Int32) (i17 : Int32) (f18 : Nat → Int32) (t7_0 : Nat → Int32) (t7_1 : Nat → Int32) (t7_3 : Int32) (K : (Int32 × (Nat → Int32) × (Nat → Int32) × (Nat → Int32)) → Prop)  : Nat → (Nat → Int32) → Int32 → Prop
  | 0, _, _ => False
  | n98 + 1, t98_0, t98_1 => ((i3 ≤ t98_1 → K (t7_3, t7_0, t7_1, t98_0)) ∧ (¬ i3 ≤ t98_1 → (vp_in t98_1 21 ∧ (∀ v112 : Int32, v112 = (f18 (Int32.toNatClampNeg t98_1)) → (∃ n113, wLX9_findBlocks_113 i0 i1 i2 i3 i5 i6 i7 i8 i9 i10 i11 i12 i13 i14 i15 i16 i17 f18 t7_0 t7_1 t7_3 t98_1 K (fun z0 z1 => (wLX9_findBlocks_98 i0 i1 i2 i3 i5 i6 i7 i8 i9 i10 i11 i12 i13 i14 i15 i16 i17 f18 t7_0 t7_1 t7_3 K  n98) z0 z1) n113 t98_0 v112)))))
def wLX9_findBlocks_19 (i3 : Int32) (f18 : Nat → Int32) (t7_4 : Int32) (K : (Int32 × (Nat → Int32) × (Nat → Int32) × (Nat → Int32)) → Prop) (B7_1 : (Nat → Int32) → (Nat → Int32) → (Nat → Int32) → Int32 → Int32 → Prop) : Nat → (Nat → Int32) → (Nat → Int32) → (Nat → Int32) → Int32 → Int32 → Prop
  | 0, _, _, _, _, _ => False
  | n19 + 1, t19_0, t19_1, t19_2, t19_3, t19_4 => ((i3 ≤ t19_4 → B7_1 t19_0 t19_1 t19_2 t19_3 (t7_4 + 1)) ∧ (¬ i3 ≤ t19_4 → (vp_in t7_4 21 ∧ ((¬ (((f18 (Int32.toNatClampNeg t7_4)) >>> (t19_4 &&& 31)) &&& 1) = 1 → (wLX9_findBlocks_19 i3 f18 t7_4 K B7_1 n19) t19_0 t19_1 t19_2 t19_3 (t19_4 + 1)) ∧ ((((f18 (Int32.toNatClampNeg t7_4)) >>> (t19_4 &&& 31)) &&& 1) = 1 → (vp_in t19_3 220 ∧ (∀ g50 : Nat → Int32, g50 = upd t19_0 (Int32.toNatClampNeg t19_3) t7_4 → (vp_in t19_3 220 ∧ (∀ g60 : Nat → Int32, g60 = upd t19_1 (Int32.toNatClampNeg t19_3) t19_4 → (vp_in t19_3 220 ∧ (∀ g73 : Nat → Int32, g73 = upd t19_2 (Int32.toNatClampNeg t19_3) t19_3 → (∀ v81 : Int32, v81 = (t19_3 + 1) → (wLX9_findBlocks_19 i3 f18 t7_4 K B7_1 n19) g50 g60 g73 v81 (t19_4 + 1)))))))))))))
def wLX9_findBlocks_7 (i0 : Int32) (i1 : Int32) (i2 : Int32) (i3 : Int32) (i5 : Int32) (i6 : Int32) (i7 : Int32) (i8 : Int32) (i9 : Int32) (i10 : Int32) (i11 : Int32) (i12 : Int32) (i13 : Int32) (i14 : Int32) (i15 : Int32) (i16 : Int32) (i17 : Int32) (f18 : Nat → Int32) (K : (Int32 × (Nat → Int32) × (Nat → Int32) × (Nat → Int32)) → Prop)  : Nat → (Nat → Int32) → (Nat → Int32) → (Nat → Int32) → Int32 → Int32 → Prop
  | 0, _, _, _, _, _ => False
  | n7 + 1, t7_0, t7_1, t7_2, t7_3, t7_4 => ((i3 ≤ t7_4 → (∃ n98, wLX9_findBlocks_98 i0 i1 i2 i3 i5 i6 i7 i8 i9 i10 i11 i12 i13 i14 i15 i16 i17 f18 t7_0 t7_1 t7_3 K  n98 t7_2 0)) ∧ (¬ i3 ≤ t7_4 → (∀ v18 : Int32, v18 = (t7_4 + 1) → (∃ n19, wLX9_findBlocks_19 i3 f18 t7_4 K (fun z0 z1 z2 z3 z4 => (wLX9_findBlocks_7 i0 i1 i2 i3 i5 i6 i7 i8 i9 i10 i11 i12 i13 i14 i15 i16 i17 f18 K  n7) z0 z1 z2 z3 z4) n19 t7_0 t7_1 t7_2 t7_3 v18))))
def wX9_findBlocks (i0 : Int32) (i1 : Int32) (i2 : Int32) (i3 : Int32) (i4 : Int32) (i5 : Int32) (i6 : Int32) (i7 : Int32) (i8 : Int32) (i9 : Int32) (i10 : Int32) (i11 : Int32) (i12 : Int32) (i13 : Int32) (i14 : Int32) (i15 : Int32) (i16 : Int32) (i17 : Int32) (f18 : Nat → Int32) (f19 : Nat → Int32) (f20 : Nat → Int32) (f21 : Nat → Int32) (K : (Int32 × (Nat → Int32) × (Nat → Int32) × (Nat → Int32)) → Prop) : Prop := (∃ n7, wLX9_findBlocks_7 i0 i1 i2 i3 i5 i6 i7 i8 i9 i10 i11 i12 i13 i14 i15 i16 i17 f18 K  n7 f19 f20 f21 0 0)
set_option maxHeartbeats 4000000 in
set_option maxRecDepth 100000 in
theorem zX9_findBlocks (l : Launch) (G : va_G) (cI cJ cZ : ClassId) (h0 h1 h2 h3 h4 k0 k1 k2 k3 k4 k5 k6 k7 k8 k9 k10 k11 k12 k13 k14 k15 k16 k17 k18 k19 k20 k21 k22 k23 k24 k25 k26 k27 k28 k29 k30 k31 k32 k33 k34 k35 sz : Nat) (i0 : Int32) (i1 : Int32) (i2 : Int32) (i3 : Int32) (i4 : Int32) (i5 : Int32) (i6 : Int32) (i7 : Int32) (i8 : Int32) (i9 : Int32) (i10 : Int32) (i11 : Int32) (i12 : Int32) (i13 : Int32) (i14 : Int32) (i15 : Int32) (i16 : Int32) (i17 : Int32) (f18 : Nat → Int32) (f19 : Nat → Int32) (f20 : Nat → Int32) (f21 : Nat → Int32) (K : (Int32 × (Nat → Int32) × (Nat → Int32) × (Nat → Int32)) → Prop) (hwp : wX9_findBlocks i0 i1 i2 i3 i4 i5 i6 i7 i8 i9 i10 i11 i12 i13 i14 i15 i16 i17 f18 f19 f20 f21 K) : Met l yX9_findBlocks (xw yX9_findBlocks cX9_findBlocks 7 none) ({ frames := 1, cells := 0, slots := 0, locals := 25 }) (xPc G cI cJ cZ [.ref h0] [(h0, .inr (9, [.int i0, .int i1, .ref k0, .ref k1, .ref k2, .ref k3, .ref k4, .int i2, .ref h1, .int i3, .ref h2, .ref h3, .ref h4, .int i4, .ref k5, .ref k6, .int i5, .ref k7, .ref k8, .ref k9, .int i6, .ref k10, .int i7, .ref k11, .ref k12, .int i8, .int i9, .int i10, .ref k13, .int i11, .ref k14, .ref k15, .ref k16, .ref k17, .ref k18, .ref k19, .ref k20, .ref k21, .ref k22, .ref k23, .ref k24, .ref k25, .ref k26, .ref k27, .ref k28, .int i12, .int i13, .int i14, .int i15, .int i16, .ref k29, .ref k30, .ref k31, .ref k32, .ref k33, .ref k34, .int i17, .ref k35])), (h1, aI cI 21 f18), (h2, aI cI 220 f19), (h3, aI cI 220 f20), (h4, aI cI 220 f21)] sz) (va_Qv (fun (u : Int32 × (Nat → Int32) × (Nat → Int32) × (Nat → Int32)) => K u) (fun (u : Int32 × (Nat → Int32) × (Nat → Int32) × (Nat → Int32)) t => xB G (va_A [(h0, .inr (9, [.int i0, .int i1, .ref k0, .ref k1, .ref k2, .ref k3, .ref k4, .int i2, .ref h1, .int i3, .ref h2, .ref h3, .ref h4, .int i4, .ref k5, .ref k6, .int i5, .ref k7, .ref k8, .ref k9, .int i6, .ref k10, .int i7, .ref k11, .ref k12, .int i8, .int i9, .int i10, .ref k13, .int i11, .ref k14, .ref k15, .ref k16, .ref k17, .ref k18, .ref k19, .ref k20, .ref k21, .ref k22, .ref k23, .ref k24, .ref k25, .ref k26, .ref k27, .ref k28, .int i12, .int i13, .int i14, .int i15, .int i16, .ref k29, .ref k30, .ref k31, .ref k32, .ref k33, .ref k34, .int i17, .ref k35])), (h1, aI cI 21 f18), (h2, aI cI 220 f19), (h3, aI cI 220 f20), (h4, aI cI 220 f21)] sz) [(h0, .inr (9, [.int i0, .int i1, .ref k0, .ref k1, .ref k2, .ref k3, .ref k4, .int i2, .ref h1, .int i3, .ref h2, .ref h3, .ref h4, .int u.1, .ref k5, .ref k6, .int i5, .ref k7, .ref k8, .ref k9, .int i6, .ref k10, .int i7, .ref k11, .ref k12, .int i8, .int i9, .int i10, .ref k13, .int i11, .ref k14, .ref k15, .ref k16, .ref k17, .ref k18, .ref k19, .ref k20, .ref k21, .ref k22, .ref k23, .ref k24, .ref k25, .ref k26, .ref k27, .ref k28, .int i12, .int i13, .int i14, .int i15, .int i16, .ref k29, .ref k30, .ref k31, .ref k32, .ref k33, .ref k34, .int i17, .ref k35])), (h1, aI cI 21 f18), (h2, aI cI 220 u.2.1), (h3, aI cI 220 u.2.2.1), (h4, aI cI 220 u.2.2.2)] t) (va_A [(h0, .inr (9, [.int i0, .int i1, .ref k0, .ref k1, .ref k2, .ref k3, .ref k4, .int i2, .ref h1, .int i3, .ref h2, .ref h3, .ref h4, .int i4, .ref k5, .ref k6, .int i5, .ref k7, .ref k8, .ref k9, .int i6, .ref k10, .int i7, .ref k11, .ref k12, .int i8, .int i9, .int i10, .ref k13, .int i11, .ref k14, .ref k15, .ref k16, .ref k17, .ref k18, .ref k19, .ref k20, .ref k21, .ref k22, .ref k23, .ref k24, .ref k25, .ref k26, .ref k27, .ref k28, .int i12, .int i13, .int i14, .int i15, .int i16, .ref k29, .ref k30, .ref k31, .ref k32, .ref k33, .ref k34, .int i17, .ref k35])), (h1, aI cI 21 f18), (h2, aI cI 220 f19), (h3, aI cI 220 f20), (h4, aI cI 220 f21)] sz)) 0 0 (va_A [(h0, .inr (9, [.int i0, .int i1, .ref k0, .ref k1, .ref k2, .ref k3, .ref k4, .int i2, .ref h1, .int i3, .ref h2, .ref h3, .ref h4, .int i4, .ref k5, .ref k6, .int i5, .ref k7, .ref k8, .ref k9, .int i6, .ref k10, .int i7, .ref k11, .ref k12, .int i8, .int i9, .int i10, .ref k13, .int i11, .ref k14, .ref k15, .ref k16, .ref k17, .ref k18, .ref k19, .ref k20, .ref k21, .ref k22, .ref k23, .ref k24, .ref k25, .ref k26, .ref k27, .ref k28, .int i12, .int i13, .int i14, .int i15, .int i16, .ref k29, .ref k30, .ref k31, .ref k32, .ref k33, .ref k34, .int i17, .ref k35])), (h1, aI cI 21 f18), (h2, aI cI 220 f19), (h3, aI cI 220 f20), (h4, aI cI 220 f21)] sz) := by
  refine Met.ofW (cc := cX9_findBlocks) (maxL := 7) (ret := none) (by decide) rfl ?_
  intro p e s m args below meth c s₁ B hml hv
  obtain ⟨rfl, hsz, hP, hK, hD0, hN⟩ := hv
  have hx := B.exec
  have hb := B.bytes
  have hr := B.returns
  have hts : ∀ w ∈ xW, w.before _ s = true := fun w h => atoms_spec (ws := xw yX9_findBlocks cX9_findBlocks 7 none) B.pre w (List.mem_cons_of_mem _ h)
  have hown : s.vm.findClass RX9 = some m.cls := findClass_of_methodNamed B.named
  have hlocks := B.notSynchronized
  subst hsz
  have hD := hD0.self (sz := s.heap.size)
  clear hD0
  generalize hAe : va_A [(h0, .inr (9, [.int i0, .int i1, .ref k0, .ref k1, .ref k2, .ref k3, .ref k4, .int i2, .ref h1, .int i3, .ref h2, .ref h3, .ref h4, .int i4, .ref k5, .ref k6, .int i5, .ref k7, .ref k8, .ref k9, .int i6, .ref k10, .int i7, .ref k11, .ref k12, .int i8, .int i9, .int i10, .ref k13, .int i11, .ref k14, .ref k15, .ref k16, .ref k17, .ref k18, .ref k19, .ref k20, .ref k21, .ref k22, .ref k23, .ref k24, .ref k25, .ref k26, .ref k27, .ref k28, .int i12, .int i13, .int i14, .int i15, .int i16, .ref k29, .ref k30, .ref k31, .ref k32, .ref k33, .ref k34, .int i17, .ref k35])), (h1, aI cI 21 f18), (h2, aI cI 220 f19), (h3, aI cI 220 f20), (h4, aI cI 220 f21)] s.heap.size = A at hD ⊢
  have hA : ∀ q : Nat, s.heap.size ≤ q → A q := fun q h => by rw [← hAe]; exact Or.inr h
  clear hAe
  have hS : va_S A s.heap s.heap [] := va_S.rf
  replace hP : va_P G vwCl [(h0, .inr (9, [.int i0, .int i1, .ref k0, .ref k1, .ref k2, .ref k3, .ref k4, .int i2, .ref h1, .int i3, .ref h2, .ref h3, .ref h4, .int i4, .ref k5, .ref k6, .int i5, .ref k7, .ref k8, .ref k9, .int i6, .ref k10, .int i7, .ref k11, .ref k12, .int i8, .int i9, .int i10, .ref k13, .int i11, .ref k14, .ref k15, .ref k16, .ref k17, .ref k18, .ref k19, .ref k20, .ref k21, .ref k22, .ref k23, .ref k24, .ref k25, .ref k26, .ref k27, .ref k28, .int i12, .int i13, .int i14, .int i15, .int i16, .ref k29, .ref k30, .ref k31, .ref k32, .ref k33, .ref k34, .int i17, .ref k35])), (h1, aI cI 21 f18), (h2, aI cI 220 f19), (h3, aI cI 220 f20), (h4, aI cI 220 f21)] s.heap := hP
  have hl := lv_entry ([.ref h0]) (n := 7) (Nat.le_of_ble_eq_true rfl)
  rw [lg_entry_eq]
  generalize (lg_sl ([.ref h0]) ++ List.replicate (7 - (lg_sl ([.ref h0])).length) Slot.unset).toArray = ls at hl ⊢
  replace hl : lv_has ls 7 [(0, .ref h0)] := hl
  generalize hQQ : MQ below _ _ s 0 0 _ = QQ
  skip
  unfold wX9_findBlocks at hwp
  refine lv_aload_n hx hb dX9_findBlocks_0 rfl (lv_at hl 0 rfl) ?_
  refine lv_iconst (v := 0) hx hb dX9_findBlocks_1 (by decide) ?_
  refine va_put (D := G) (ci := 9) (v := .int 0) (ty := .int) (C := RX9) (T := TX9) (N := 58) hx hb hts xinX9 tyX9 tyX9_ok nmX9 hown hK hP hD hS 0 rfl rfl 13 (by decide) (hts _ wo_449) (fun _ h9 => h9) rfl (by decide +kernel) rfl rfl (Nat.le_of_ble_eq_true rfl) dX9_findBlocks_2 (fun H locs hP hD hS => ?_)
  replace hP : va_P G vwCl [(h0, .inr (9, [.int i0, .int i1, .ref k0, .ref k1, .ref k2, .ref k3, .ref k4, .int i2, .ref h1, .int i3, .ref h2, .ref h3, .ref h4, .int 0, .ref k5, .ref k6, .int i5, .ref k7, .ref k8, .ref k9, .int i6, .ref k10, .int i7, .ref k11, .ref k12, .int i8, .int i9, .int i10, .ref k13, .int i11, .ref k14, .ref k15, .ref k16, .ref k17, .ref k18, .ref k19, .ref k20, .ref k21, .ref k22, .ref k23, .ref k24, .ref k25, .ref k26, .ref k27, .ref k28, .int i12, .int i13, .int i14, .int i15, .int i16, .ref k29, .ref k30, .ref k31, .ref k32, .ref k33, .ref k34, .int i17, .ref k35])), (h1, aI cI 21 f18), (h2, aI cI 220 f19), (h3, aI cI 220 f20), (h4, aI cI 220 f21)] H := hP
  replace hD : va_D A [(h0, .inr (9, [.int i0, .int i1, .ref k0, .ref k1, .ref k2, .ref k3, .ref k4, .int i2, .ref h1, .int i3, .ref h2, .ref h3, .ref h4, .int 0, .ref k5, .ref k6, .int i5, .ref k7, .ref k8, .ref k9, .int i6, .ref k10, .int i7, .ref k11, .ref k12, .int i8, .int i9, .int i10, .ref k13, .int i11, .ref k14, .ref k15, .ref k16, .ref k17, .ref k18, .ref k19, .ref k20, .ref k21, .ref k22, .ref k23, .ref k24, .ref k25, .ref k26, .ref k27, .ref k28, .int i12, .int i13, .int i14, .int i15, .int i16, .ref k29, .ref k30, .ref k31, .ref k32, .ref k33, .ref k34, .int i17, .ref k35])), (h1, aI cI 21 f18), (h2, aI cI 220 f19), (h3, aI cI 220 f20), (h4, aI cI 220 f21)] := hD
  refine lv_iconst (v := 0) hx hb dX9_findBlocks_5 (by decide) ?_
  refine lv_istore_n (lv' := [(1, .int 0), (0, .ref h0)]) hx hb dX9_findBlocks_6 rfl hl (by decide) rfl (fun ls hl => ?_)
  replace hl : lv_has ls 7 [(1, .int 0), (0, .ref h0)] := lv_sub hl [0, 1] rfl
  obtain ⟨n1, hwp⟩ := hwp
  have hs1 : ∀ (n1 : Nat) (H : Heap) (locs : List Loc) (ls : Array Slot) (t7_0 : Nat → Int32) (t7_1 : Nat → Int32) (t7_2 : Nat → Int32) (t7_3 : Int32) (t7_4 : Int32), wLX9_findBlocks_7 i0 i1 i2 i3 i5 i6 i7 i8 i9 i10 i11 i12 i13 i14 i15 i16 i17 f18 K  n1 t7_0 t7_1 t7_2 t7_3 t7_4 → va_P G vwCl [(h0, .inr (9, [.int i0, .int i1, .ref k0, .ref k1, .ref k2, .ref k3, .ref k4, .int i2, .ref h1, .int i3, .ref h2, .ref h3, .ref h4, .int t7_3, .ref k5, .ref k6, .int i5, .ref k7, .ref k8, .ref k9, .int i6, .ref k10, .int i7, .ref k11, .ref k12, .int i8, .int i9, .int i10, .ref k13, .int i11, .ref k14, .ref k15, .ref k16, .ref k17, .ref k18, .ref k19, .ref k20, .ref k21, .ref k22, .ref k23, .ref k24, .ref k25, .ref k26, .ref k27, .ref k28, .int i12, .int i13, .int i14, .int i15, .int i16, .ref k29, .ref k30, .ref k31, .ref k32, .ref k33, .ref k34, .int i17, .ref k35])), (h1, aI cI 21 f18), (h2, aI cI 220 t7_0), (h3, aI cI 220 t7_1), (h4, aI cI 220 t7_2)] H → va_D A [(h0, .inr (9, [.int i0, .int i1, .ref k0, .ref k1, .ref k2, .ref k3, .ref k4, .int i2, .ref h1, .int i3, .ref h2, .ref h3, .ref h4, .int t7_3, .ref k5, .ref k6, .int i5, .ref k7, .ref k8, .ref k9, .int i6, .ref k10, .int i7, .ref k11, .ref k12, .int i8, .int i9, .int i10, .ref k13, .int i11, .ref k14, .ref k15, .ref k16, .ref k17, .ref k18, .ref k19, .ref k20, .ref k21, .ref k22, .ref k23, .ref k24, .ref k25, .ref k26, .ref k27, .ref k28, .int i12, .int i13, .int i14, .int i15, .int i16, .ref k29, .ref k30, .ref k31, .ref k32, .ref k33, .ref k34, .int i17, .ref k35])), (h1, aI cI 21 f18), (h2, aI cI 220 t7_0), (h3, aI cI 220 t7_1), (h4, aI cI 220 t7_2)] → va_S A s.heap H locs → lv_has ls 7 [(1, .int t7_4), (0, .ref h0)] → W p l e ((headSpec (xw yX9_findBlocks cX9_findBlocks 7 none) { frames := 1, cells := 0, slots := 0, locals := 25 }).room) s m ([.ref h0] : List Value).toArray below meth c H locs 0 0 QQ (F0 m 7 ls []) := by
    intro n1
    induction n1 with
    | zero => intro H locs ls t7_0 t7_1 t7_2 t7_3 t7_4 hwp; exact False.elim hwp
    | succ n1 ih1 =>
      intro H locs ls t7_0 t7_1 t7_2 t7_3 t7_4 hwp hP hD hS hl
      rw [wLX9_findBlocks_7] at hwp
      refine lv_iload_n hx hb dX9_findBlocks_7 rfl (lv_at hl 0 rfl) ?_
      refine lv_aload_n hx hb dX9_findBlocks_8 rfl (lv_at hl 1 rfl) ?_
      refine va_get (D := G) (ci := 9) (v := .int i3) (C := RX9) (T := TX9) (N := 58) hx hb hts xinX9 hown hK hP 0 rfl rfl 9 (by decide) (hts _ wo_444) (fun _ h9 => h9) rfl dX9_findBlocks_9 ?_
      refine lv_icmp_ge (tgt := 96) hx hb dX9_findBlocks_12 (by decide) (fun c12 => ?_) (fun c12 => ?_)
      · replace hwp := hwp.1 c12
        refine lv_iconst (v := 0) hx hb dX9_findBlocks_96 (by decide) ?_
        refine lv_istore_n (lv' := [(1, .int 0), (0, .ref h0)]) hx hb dX9_findBlocks_97 rfl hl (by decide) rfl (fun ls hl => ?_)
        replace hl : lv_has ls 7 [(1, .int 0), (0, .ref h0)] := lv_sub hl [0, 1] rfl
        obtain ⟨n2, hwp⟩ := hwp
        have hs2 : ∀ (n2 : Nat) (H : Heap) (locs : List Loc) (ls : Array Slot) (t98_0 : Nat → Int32) (t98_1 : Int32), wLX9_findBlocks_98 i0 i1 i2 i3 i5 i6 i7 i8 i9 i10 i11 i12 i13 i14 i15 i16 i17 f18 t7_0 t7_1 t7_3 K  n2 t98_0 t98_1 → va_P G vwCl [(h0, .inr (9, [.int i0, .int i1, .ref k0, .ref k1, .ref k2, .ref k3, .ref k4, .int i2, .ref h1, .int i3, .ref h2, .ref h3, .ref h4, .int t7_3, .ref k5, .ref k6, .int i5, .ref k7, .ref k8, .ref k9, .int i6, .ref k10, .int i7, .ref k11, .ref k12, .int i8, .int i9, .int i10, .ref k13, .int i11, .ref k14, .ref k15, .ref k16, .ref k17, .ref k18, .ref k19, .ref k20, .ref k21, .ref k22, .ref k23, .ref k24, .ref k25, .ref k26, .ref k27, .ref k28, .int i12, .int i13, .int i14, .int i15, .int i16, .ref k29, .ref k30, .ref k31, .ref k32, .ref k33, .ref k34, .int i17, .ref k35])), (h1, aI cI 21 f18), (h2, aI cI 220 t7_0), (h3, aI cI 220 t7_1), (h4, aI cI 220 t98_0)] H → va_D A [(h0, .inr (9, [.int i0, .int i1, .ref k0, .ref k1, .ref k2, .ref k3, .ref k4, .int i2, .ref h1, .int i3, .ref h2, .ref h3, .ref h4, .int t7_3, .ref k5, .ref k6, .int i5, .ref k7, .ref k8, .ref k9, .int i6, .ref k10, .int i7, .ref k11, .ref k12, .int i8, .int i9, .int i10, .ref k13, .int i11, .ref k14, .ref k15, .ref k16, .ref k17, .ref k18, .ref k19, .ref k20, .ref k21, .ref k22, .ref k23, .ref k24, .ref k25, .ref k26, .ref k27, .ref k28, .int i12, .int i13, .int i14, .int i15, .int i16, .ref k29, .ref k30, .ref k31, .ref k32, .ref k33, .ref k34, .int i17, .ref k35])), (h1, aI cI 21 f18), (h2, aI cI 220 t7_0), (h3, aI cI 220 t7_1), (h4, aI cI 220 t98_0)] → va_S A s.heap H locs → lv_has ls 7 [(1, .int t98_1), (0, .ref h0)] → W p l e ((headSpec (xw yX9_findBlocks cX9_findBlocks 7 none) { frames := 1, cells := 0, slots := 0, locals := 25 }).room) s m ([.ref h0] : List Value).toArray below meth c H locs 0 0 QQ (F0 m 98 ls []) := by
          intro n2
          induction n2 with
          | zero => intro H locs ls t98_0 t98_1 hwp; exact False.elim hwp
          | succ n2 ih2 =>
            intro H locs ls t98_0 t98_1 hwp hP hD hS hl
            rw [wLX9_findBlocks_98] at hwp
            refine lv_iload_n hx hb dX9_findBlocks_98 rfl (lv_at hl 0 rfl) ?_
            refine lv_aload_n hx hb dX9_findBlocks_99 rfl (lv_at hl 1 rfl) ?_
            refine va_get (D := G) (ci := 9) (v := .int i3) (C := RX9) (T := TX9) (N := 58) hx hb hts xinX9 hown hK hP 0 rfl rfl 9 (by decide) (hts _ wo_444) (fun _ h9 => h9) rfl dX9_findBlocks_100 ?_
            refine lv_icmp_ge (tgt := 225) hx hb dX9_findBlocks_103 (by decide) (fun c103 => ?_) (fun c103 => ?_)
            · replace hwp := hwp.1 c103
              have hP9 : va_P G vwCl [(h0, .inr (9, [.int i0, .int i1, .ref k0, .ref k1, .ref k2, .ref k3, .ref k4, .int i2, .ref h1, .int i3, .ref h2, .ref h3, .ref h4, .int t7_3, .ref k5, .ref k6, .int i5, .ref k7, .ref k8, .ref k9, .int i6, .ref k10, .int i7, .ref k11, .ref k12, .int i8, .int i9, .int i10, .ref k13, .int i11, .ref k14, .ref k15, .ref k16, .ref k17, .ref k18, .ref k19, .ref k20, .ref k21, .ref k22, .ref k23, .ref k24, .ref k25, .ref k26, .ref k27, .ref k28, .int i12, .int i13, .int i14, .int i15, .int i16, .ref k29, .ref k30, .ref k31, .ref k32, .ref k33, .ref k34, .int i17, .ref k35])), (h1, aI cI 21 f18), (h2, aI cI 220 t7_0), (h3, aI cI 220 t7_1), (h4, aI cI 220 t98_0)] H := hP.sub [0, 1, 2, 3, 4] rfl
              have hD9 : va_D A [(h0, .inr (9, [.int i0, .int i1, .ref k0, .ref k1, .ref k2, .ref k3, .ref k4, .int i2, .ref h1, .int i3, .ref h2, .ref h3, .ref h4, .int t7_3, .ref k5, .ref k6, .int i5, .ref k7, .ref k8, .ref k9, .int i6, .ref k10, .int i7, .ref k11, .ref k12, .int i8, .int i9, .int i10, .ref k13, .int i11, .ref k14, .ref k15, .ref k16, .ref k17, .ref k18, .ref k19, .ref k20, .ref k21, .ref k22, .ref k23, .ref k24, .ref k25, .ref k26, .ref k27, .ref k28, .int i12, .int i13, .int i14, .int i15, .int i16, .ref k29, .ref k30, .ref k31, .ref k32, .ref k33, .ref k34, .int i17, .ref k35])), (h1, aI cI 21 f18), (h2, aI cI 220 t7_0), (h3, aI cI 220 t7_1), (h4, aI cI 220 t98_0)] := hD.sub [0, 1, 2, 3, 4] (by decide) rfl
              rw [← hQQ]
              exact W.vret hx hb hr (fun t ht hW => ⟨⟨(t7_3, t7_0, t7_1, t98_0), rfl, hwp, by rw [ht]; exact hP9, hD9⟩, hS.F ht⟩) hS.2.2 dX9_findBlocks_225
            · replace hwp := hwp.2 c103
              refine lv_aload_n hx hb dX9_findBlocks_106 rfl (lv_at hl 1 rfl) ?_
              refine va_get (D := G) (ci := 9) (v := .ref h1) (C := RX9) (T := TX9) (N := 58) hx hb hts xinX9 hown hK hP 0 rfl rfl 8 (by decide) (hts _ wo_445) (fun _ h9 => h9) rfl dX9_findBlocks_107 ?_
              refine lv_iload_n hx hb dX9_findBlocks_110 rfl (lv_at hl 0 rfl) ?_
              obtain ⟨hi, hwp⟩ := hwp
              refine va_iald hx hb hK hP 1 0 rfl rfl hi dX9_findBlocks_111 ?_
              refine lv_topi (fun v112 ev112 => ?_)
              replace hwp := hwp v112 ev112
              clear ev112
              refine lv_istore_n (lv' := [(2, .int v112), (1, .int t98_1), (0, .ref h0)]) hx hb dX9_findBlocks_112 rfl hl (by decide) rfl (fun ls hl => ?_)
              replace hl : lv_has ls 7 [(2, .int v112), (1, .int t98_1), (0, .ref h0)] := lv_sub hl [0, 1, 2] rfl
              obtain ⟨n3, hwp⟩ := hwp
              have hs3 : ∀ (n3 : Nat) (H : Heap) (locs : List Loc) (ls : Array Slot) (t113_0 : Nat → Int32) (t113_1 : Int32), wLX9_findBlocks_113 i0 i1 i2 i3 i5 i6 i7 i8 i9 i10 i11 i12 i13 i14 i15 i16 i17 f18 t7_0 t7_1 t7_3 t98_1 K (fun z0 z1 => wLX9_findBlocks_98 i0 i1 i2 i3 i5 i6 i7 i8 i9 i10 i11 i12 i13 i14 i15 i16 i17 f18 t7_0 t7_1 t7_3 K  n2 z0 z1) n3 t113_0 t113_1 → va_P G vwCl [(h0, .inr (9, [.int i0, .int i1, .ref k0, .ref k1, .ref k2, .ref k3, .ref k4, .int i2, .ref h1, .int i3, .ref h2, .ref h3, .ref h4, .int t7_3, .ref k5, .ref k6, .int i5, .ref k7, .ref k8, .ref k9, .int i6, .ref k10, .int i7, .ref k11, .ref k12, .int i8, .int i9, .int i10, .ref k13, .int i11, .ref k14, .ref k15, .ref k16, .ref k17, .ref k18, .ref k19, .ref k20, .ref k21, .ref k22, .ref k23, .ref k24, .ref k25, .ref k26, .ref k27, .ref k28, .int i12, .int i13, .int i14, .int i15, .int i16, .ref k29, .ref k30, .ref k31, .ref k32, .ref k33, .ref k34, .int i17, .ref k35])), (h1, aI cI 21 f18), (h2, aI cI 220 t7_0), (h3, aI cI 220 t7_1), (h4, aI cI 220 t113_0)] H → va_D A [(h0, .inr (9, [.int i0, .int i1, .ref k0, .ref k1, .ref k2, .ref k3, .ref k4, .int i2, .ref h1, .int i3, .ref h2, .ref h3, .ref h4, .int t7_3, .ref k5, .ref k6, .int i5, .ref k7, .ref k8, .ref k9, .int i6, .ref k10, .int i7, .ref k11, .ref k12, .int i8, .int i9, .int i10, .ref k13, .int i11, .ref k14, .ref k15, .ref k16, .ref k17, .ref k18, .ref k19, .ref k20, .ref k21, .ref k22, .ref k23, .ref k24, .ref k25, .ref k26, .ref k27, .ref k28, .int i12, .int i13, .int i14, .int i15, .int i16, .ref k29, .ref k30, .ref k31, .ref k32, .ref k33, .ref k34, .int i17, .ref k35])), (h1, aI cI 21 f18), (h2, aI cI 220 t7_0), (h3, aI cI 220 t7_1), (h4, aI cI 220 t113_0)] → va_S A s.heap H locs → lv_has ls 7 [(2, .int t113_1), (1, .int t98_1), (0, .ref h0)] → W p l e ((headSpec (xw yX9_findBlocks cX9_findBlocks 7 none) { frames := 1, cells := 0, slots := 0, locals := 25 }).room) s m ([.ref h0] : List Value).toArray below meth c H locs 0 0 QQ (F0 m 113 ls []) := by
                intro n3
                induction n3 with
                | zero => intro H locs ls t113_0 t113_1 hwp; exact False.elim hwp
                | succ n3 ih3 =>
                  intro H locs ls t113_0 t113_1 hwp hP hD hS hl
                  rw [wLX9_findBlocks_113] at hwp
                  refine lv_iload_n hx hb dX9_findBlocks_113 rfl (lv_at hl 0 rfl) ?_
                  refine lv_if_eq (tgt := 219) hx hb dX9_findBlocks_114 (by decide) (fun c114 => ?_) (fun c114 => ?_)
                  · replace hwp := hwp.1 c114
                    refine lv_iinc (v := (t98_1 + 1)) (lv' := [(1, .int (t98_1 + 1)), (2, .int t113_1), (0, .ref h0)]) hx hb dX9_findBlocks_219 hl (k := 1) rfl rfl (by decide) rfl (fun ls hl => ?_)
                    refine lv_goto (tgt := 98) hx hb dX9_findBlocks_222 (by decide) ?_
                    replace hl : lv_has ls 7 [(1, .int (t98_1 + 1)), (0, .ref h0)] := lv_sub hl [0, 2] rfl
                    exact ih2 H locs ls t113_0 (t98_1 + 1) hwp hP hD hS hl
                  · replace hwp := hwp.2 c114
                    refine lv_iconst (v := 0) hx hb dX9_findBlocks_117 (by decide) ?_
                    refine lv_istore_n (lv' := [(3, .int 0), (2, .int t113_1), (1, .int t98_1), (0, .ref h0)]) hx hb dX9_findBlocks_118 rfl hl (by decide) rfl (fun ls hl => ?_)
                    replace hl : lv_has ls 7 [(3, .int 0), (2, .int t113_1), (1, .int t98_1), (0, .ref h0)] := lv_sub hl [0, 1, 2, 3] rfl
                    obtain ⟨n4, hwp⟩ := hwp
                    have hs4 : ∀ (n4 : Nat) (H : Heap) (locs : List Loc) (ls : Array Slot) (t119_0 : Int32), wLX9_findBlocks_119 i0 i1 i2 i3 i5 i6 i7 i8 i9 i10 i11 i12 i13 i14 i15 i16 i17 f18 t7_0 t7_1 t7_3 t98_1 t113_0 t113_1 K (fun z0 z1 => wLX9_findBlocks_113 i0 i1 i2 i3 i5 i6 i7 i8 i9 i10 i11 i12 i13 i14 i15 i16 i17 f18 t7_0 t7_1 t7_3 t98_1 K (fun z0 z1 => wLX9_findBlocks_98 i0 i1 i2 i3 i5 i6 i7 i8 i9 i10 i11 i12 i13 i14 i15 i16 i17 f18 t7_0 t7_1 t7_3 K  n2 z0 z1) n3 z0 z1) n4 t119_0 → va_P G vwCl [(h0, .inr (9, [.int i0, .int i1, .ref k0, .ref k1, .ref k2, .ref k3, .ref k4, .int i2, .ref h1, .int i3, .ref h2, .ref h3, .ref h4, .int t7_3, .ref k5, .ref k6, .int i5, .ref k7, .ref k8, .ref k9, .int i6, .ref k10, .int i7, .ref k11, .ref k12, .int i8, .int i9, .int i10, .ref k13, .int i11, .ref k14, .ref k15, .ref k16, .ref k17, .ref k18, .ref k19, .ref k20, .ref k21, .ref k22, .ref k23, .ref k24, .ref k25, .ref k26, .ref k27, .ref k28, .int i12, .int i13, .int i14, .int i15, .int i16, .ref k29, .ref k30, .ref k31, .ref k32, .ref k33, .ref k34, .int i17, .ref k35])), (h1, aI cI 21 f18), (h2, aI cI 220 t7_0), (h3, aI cI 220 t7_1), (h4, aI cI 220 t113_0)] H → va_D A [(h0, .inr (9, [.int i0, .int i1, .ref k0, .ref k1, .ref k2, .ref k3, .ref k4, .int i2, .ref h1, .int i3, .ref h2, .ref h3, .ref h4, .int t7_3, .ref k5, .ref k6, .int i5, .ref k7, .ref k8, .ref k9, .int i6, .ref k10, .int i7, .ref k11, .ref k12, .int i8, .int i9, .int i10, .ref k13, .int i11, .ref k14, .ref k15, .ref k16, .ref k17, .ref k18, .ref k19, .ref k20, .ref k21, .ref k22, .ref k23, .ref k24, .ref k25, .ref k26, .ref k27, .ref k28, .int i12, .int i13, .int i14, .int i15, .int i16, .ref k29, .ref k30, .ref k31, .ref k32, .ref k33, .ref k34, .int i17, .ref k35])), (h1, aI cI 21 f18), (h2, aI cI 220 t7_0), (h3, aI cI 220 t7_1), (h4, aI cI 220 t113_0)] → va_S A s.heap H locs → lv_has ls 7 [(3, .int t119_0), (2, .int t113_1), (1, .int t98_1), (0, .ref h0)] → W p l e ((headSpec (xw yX9_findBlocks cX9_findBlocks 7 none) { frames := 1, cells := 0, slots := 0, locals := 25 }).room) s m ([.ref h0] : List Value).toArray below meth c H locs 0 0 QQ (F0 m 119 ls []) := by
                      intro n4
                      induction n4 with
                      | zero => intro H locs ls t119_0 hwp; exact False.elim hwp
                      | succ n4 ih4 =>
                        intro H locs ls t119_0 hwp hP hD hS hl
                        rw [wLX9_findBlocks_119] at hwp
                        refine lv_iload_n hx hb dX9_findBlocks_119 rfl (lv_at hl 1 rfl) ?_
                        refine lv_iload_n hx hb dX9_findBlocks_120 rfl (lv_at hl 0 rfl) ?_
                        refine lv_ishr hx hb dX9_findBlocks_121 ?_
                        refine lv_iconst (v := 1) hx hb dX9_findBlocks_122 (by decide) ?_
                        refine lv_iand hx hb dX9_findBlocks_123 ?_
                        refine lv_if_ne (tgt := 133) hx hb dX9_findBlocks_124 (by decide) (fun c124 => ?_) (fun c124 => ?_)
                        · replace hwp := hwp.1 c124
                          refine lv_aload_n hx hb dX9_findBlocks_133 rfl (lv_at hl 3 rfl) ?_
                          refine lv_iload_n hx hb dX9_findBlocks_134 rfl (lv_at hl 0 rfl) ?_
                          refine lv_iconst (v := 1) hx hb dX9_findBlocks_135 (by decide) ?_
                          refine lv_iload_n hx hb dX9_findBlocks_136 rfl (lv_at hl 2 rfl) ?_
                          refine lv_ishl hx hb dX9_findBlocks_137 ?_
                          refine xci (wr := [(h2, aI cI 220 t7_0), (h3, aI cI 220 t7_1), (h4, aI cI 220 t113_0)]) (va_runV (As := [.int t119_0, .int ((1 : Int32) <<< (t98_1 &&& 31))]) (rest := []) ⟨hx, hb, hml, hown, hts⟩ (zX9_reached l G cI cJ cZ h0 h1 k0 k1 k2 k3 k4 h2 h3 h4 k5 k6 k7 k8 k9 k10 k11 k12 k13 k14 k15 k16 k17 k18 k19 k20 k21 k22 k23 k24 k25 k26 k27 k28 k29 k30 k31 k32 k33 k34 k35 H.size i0 i1 i2 i3 t7_3 i5 i6 i7 i8 i9 i10 i11 i12 i13 i14 i15 i16 i17 f18 t119_0 ((1 : Int32) <<< (t98_1 &&& 31)) _ hwp) (cwV 2 hts (xgoodV wo_450 wo_451 wo_452 wo_453 wo_454) rfl rfl rfl (by decide +kernel) ⟨Nat.le_of_ble_eq_true rfl, Nat.le_of_ble_eq_true rfl⟩) (xPreV (q := (RX9, TX9, 58)) (q0 := 0) hK hN hP hD [0, 1] (by decide) rfl rfl rfl) rfl rfl hl.1 rfl (lv_room (Nat.le_of_ble_eq_true rfl)) dX9_findBlocks_138 ⟨Nat.le_of_ble_eq_true rfl, Nat.le_of_ble_eq_true rfl⟩) hP hD hS hA [0, 1] [2, 3, 4] rfl rfl (by decide) (by decide) (fun r138 u138 H locs hwp hP hD hS => ?_)
                          replace hP : va_P G vwCl [(h2, aI cI 220 t7_0), (h3, aI cI 220 t7_1), (h4, aI cI 220 t113_0), (h0, .inr (9, [.int i0, .int i1, .ref k0, .ref k1, .ref k2, .ref k3, .ref k4, .int i2, .ref h1, .int i3, .ref h2, .ref h3, .ref h4, .int t7_3, .ref k5, .ref k6, .int i5, .ref k7, .ref k8, .ref k9, .int i6, .ref k10, .int i7, .ref k11, .ref k12, .int i8, .int i9, .int i10, .ref k13, .int i11, .ref k14, .ref k15, .ref k16, .ref k17, .ref k18, .ref k19, .ref k20, .ref k21, .ref k22, .ref k23, .ref k24, .ref k25, .ref k26, .ref k27, .ref k28, .int i12, .int i13, .int i14, .int i15, .int i16, .ref k29, .ref k30, .ref k31, .ref k32, .ref k33, .ref k34, .int i17, .ref k35])), (h1, aI cI 21 f18)] H := hP
                          replace hD : va_D A [(h2, aI cI 220 t7_0), (h3, aI cI 220 t7_1), (h4, aI cI 220 t113_0), (h0, .inr (9, [.int i0, .int i1, .ref k0, .ref k1, .ref k2, .ref k3, .ref k4, .int i2, .ref h1, .int i3, .ref h2, .ref h3, .ref h4, .int t7_3, .ref k5, .ref k6, .int i5, .ref k7, .ref k8, .ref k9, .int i6, .ref k10, .int i7, .ref k11, .ref k12, .int i8, .int i9, .int i10, .ref k13, .int i11, .ref k14, .ref k15, .ref k16, .ref k17, .ref k18, .ref k19, .ref k20, .ref k21, .ref k22, .ref k23, .ref k24, .ref k25, .ref k26, .ref k27, .ref k28, .int i12, .int i13, .int i14, .int i15, .int i16, .ref k29, .ref k30, .ref k31, .ref k32, .ref k33, .ref k34, .int i17, .ref k35])), (h1, aI cI 21 f18)] := hD
                          refine lv_aload_n hx hb dX9_findBlocks_141 rfl (lv_at hl 3 rfl) ?_
                          refine va_get (D := G) (ci := 9) (v := .ref h1) (C := RX9) (T := TX9) (N := 58) hx hb hts xinX9 hown hK hP 3 rfl rfl 8 (by decide) (hts _ wo_445) (fun _ h9 => h9) rfl dX9_findBlocks_142 ?_
                          refine lv_iload_n hx hb dX9_findBlocks_145 rfl (lv_at hl 2 rfl) ?_
                          obtain ⟨hi, hwp⟩ := hwp
                          refine va_iald hx hb hK hP 4 0 rfl rfl hi dX9_findBlocks_146 ?_
                          refine lv_iand hx hb dX9_findBlocks_147 ?_
                          refine lv_topi (fun v148 ev148 => ?_)
                          replace hwp := hwp v148 ev148
                          clear ev148
                          refine lv_istore (lv' := [(4, .int v148), (3, .int t119_0), (2, .int t113_1), (1, .int t98_1), (0, .ref h0)]) hx hb dX9_findBlocks_148 hl (by decide) rfl (fun ls hl => ?_)
                          refine lv_iload_n hx hb dX9_findBlocks_150 rfl (lv_at hl 2 rfl) ?_
                          refine lv_iload hx hb dX9_findBlocks_151 (lv_at hl 0 rfl) ?_
                          refine lv_iconst (v := (-1)) hx hb dX9_findBlocks_153 (by decide) ?_
                          refine lv_ixor hx hb dX9_findBlocks_154 ?_
                          refine lv_iand hx hb dX9_findBlocks_155 ?_
                          refine lv_topi (fun v156 ev156 => ?_)
                          replace hwp := hwp v156 ev156
                          clear ev156
                          refine lv_istore_n (lv' := [(2, .int v156), (4, .int v148), (3, .int t119_0), (1, .int t98_1), (0, .ref h0)]) hx hb dX9_findBlocks_156 rfl hl (by decide) rfl (fun ls hl => ?_)
                          refine lv_aload_n hx hb dX9_findBlocks_157 rfl (lv_at hl 4 rfl) ?_
                          refine lv_aload_n hx hb dX9_findBlocks_158 rfl (lv_at hl 4 rfl) ?_
                          refine lv_iload_n hx hb dX9_findBlocks_159 rfl (lv_at hl 3 rfl) ?_
                          refine lv_iload_n hx hb dX9_findBlocks_160 rfl (lv_at hl 2 rfl) ?_
                          refine xci (wr := [(h4, aI cI 220 t113_0), (h1, aI cI 21 f18)]) (va_runV (As := [.int t98_1, .int t119_0]) (rest := [.ref h0]) ⟨hx, hb, hml, hown, hts⟩ (zX9_edgeAt l G cI cJ cZ h0 h2 h3 k0 k1 k2 k3 k4 h1 h4 k5 k6 k7 k8 k9 k10 k11 k12 k13 k14 k15 k16 k17 k18 k19 k20 k21 k22 k23 k24 k25 k26 k27 k28 k29 k30 k31 k32 k33 k34 k35 H.size i0 i1 i2 i3 t7_3 i5 i6 i7 i8 i9 i10 i11 i12 i13 i14 i15 i16 i17 t7_0 t7_1 t98_1 t119_0 _ hwp) (cwV 2 hts (xgoodV wo_455 wo_456 wo_457 wo_458 wo_454) rfl rfl rfl (by decide +kernel) ⟨Nat.le_of_ble_eq_true rfl, Nat.le_of_ble_eq_true rfl⟩) (xPreV (q := (RX9, TX9, 58)) (q0 := 3) hK hN hP hD [3, 0, 1] (by decide) rfl rfl rfl) rfl rfl hl.1 rfl (lv_room (Nat.le_of_ble_eq_true rfl)) dX9_findBlocks_161 ⟨Nat.le_of_ble_eq_true rfl, Nat.le_of_ble_eq_true rfl⟩) hP hD hS hA [3, 0, 1] [2, 4] rfl rfl (by decide) (by decide) (fun r161 u161 H locs hwp hP hD hS => ?_)
                          replace hP : va_P G vwCl [(h4, aI cI 220 t113_0), (h1, aI cI 21 f18), (h0, .inr (9, [.int i0, .int i1, .ref k0, .ref k1, .ref k2, .ref k3, .ref k4, .int i2, .ref h1, .int i3, .ref h2, .ref h3, .ref h4, .int t7_3, .ref k5, .ref k6, .int i5, .ref k7, .ref k8, .ref k9, .int i6, .ref k10, .int i7, .ref k11, .ref k12, .int i8, .int i9, .int i10, .ref k13, .int i11, .ref k14, .ref k15, .ref k16, .ref k17, .ref k18, .ref k19, .ref k20, .ref k21, .ref k22, .ref k23, .ref k24, .ref k25, .ref k26, .ref k27, .ref k28, .int i12, .int i13, .int i14, .int i15, .int i16, .ref k29, .ref k30, .ref k31, .ref k32, .ref k33, .ref k34, .int i17, .ref k35])), (h2, aI cI 220 t7_0), (h3, aI cI 220 t7_1)] H := hP
                          replace hD : va_D A [(h4, aI cI 220 t113_0), (h1, aI cI 21 f18), (h0, .inr (9, [.int i0, .int i1, .ref k0, .ref k1, .ref k2, .ref k3, .ref k4, .int i2, .ref h1, .int i3, .ref h2, .ref h3, .ref h4, .int t7_3, .ref k5, .ref k6, .int i5, .ref k7, .ref k8, .ref k9, .int i6, .ref k10, .int i7, .ref k11, .ref k12, .int i8, .int i9, .int i10, .ref k13, .int i11, .ref k14, .ref k15, .ref k16, .ref k17, .ref k18, .ref k19, .ref k20, .ref k21, .ref k22, .ref k23, .ref k24, .ref k25, .ref k26, .ref k27, .ref k28, .int i12, .int i13, .int i14, .int i15, .int i16, .ref k29, .ref k30, .ref k31, .ref k32, .ref k33, .ref k34, .int i17, .ref k35])), (h2, aI cI 220 t7_0), (h3, aI cI 220 t7_1)] := hD
                          refine xci (wr := [(h1, aI cI 21 f18), (h2, aI cI 220 t7_0), (h3, aI cI 220 t7_1)]) (va_runV (As := [.int r161]) (rest := []) ⟨hx, hb, hml, hown, hts⟩ (zX9_rootOf l G cI cJ cZ h0 h4 k0 k1 k2 k3 k4 h1 h2 h3 k5 k6 k7 k8 k9 k10 k11 k12 k13 k14 k15 k16 k17 k18 k19 k20 k21 k22 k23 k24 k25 k26 k27 k28 k29 k30 k31 k32 k33 k34 k35 H.size i0 i1 i2 i3 t7_3 i5 i6 i7 i8 i9 i10 i11 i12 i13 i14 i15 i16 i17 t113_0 r161 _ hwp) (cwV 1 hts (xgoodV wo_459 wo_460 wo_461 wo_462 wo_454) rfl rfl rfl (by decide +kernel) ⟨Nat.le_of_ble_eq_true rfl, Nat.le_of_ble_eq_true rfl⟩) (xPreV (q := (RX9, TX9, 58)) (q0 := 2) hK hN hP hD [2, 0] (by decide) rfl rfl rfl) rfl rfl hl.1 rfl (lv_room (Nat.le_of_ble_eq_true rfl)) dX9_findBlocks_164 ⟨Nat.le_of_ble_eq_true rfl, Nat.le_of_ble_eq_true rfl⟩) hP hD hS hA [2, 0] [1, 3, 4] rfl rfl (by decide) (by decide) (fun r164 u164 H locs hwp hP hD hS => ?_)
                          replace hP : va_P G vwCl [(h1, aI cI 21 f18), (h2, aI cI 220 t7_0), (h3, aI cI 220 t7_1), (h0, .inr (9, [.int i0, .int i1, .ref k0, .ref k1, .ref k2, .ref k3, .ref k4, .int i2, .ref h1, .int i3, .ref h2, .ref h3, .ref h4, .int t7_3, .ref k5, .ref k6, .int i5, .ref k7, .ref k8, .ref k9, .int i6, .ref k10, .int i7, .ref k11, .ref k12, .int i8, .int i9, .int i10, .ref k13, .int i11, .ref k14, .ref k15, .ref k16, .ref k17, .ref k18, .ref k19, .ref k20, .ref k21, .ref k22, .ref k23, .ref k24, .ref k25, .ref k26, .ref k27, .ref k28, .int i12, .int i13, .int i14, .int i15, .int i16, .ref k29, .ref k30, .ref k31, .ref k32, .ref k33, .ref k34, .int i17, .ref k35])), (h4, aI cI 220 t113_0)] H := hP
                          replace hD : va_D A [(h1, aI cI 21 f18), (h2, aI cI 220 t7_0), (h3, aI cI 220 t7_1), (h0, .inr (9, [.int i0, .int i1, .ref k0, .ref k1, .ref k2, .ref k3, .ref k4, .int i2, .ref h1, .int i3, .ref h2, .ref h3, .ref h4, .int t7_3, .ref k5, .ref k6, .int i5, .ref k7, .ref k8, .ref k9, .int i6, .ref k10, .int i7, .ref k11, .ref k12, .int i8, .int i9, .int i10, .ref k13, .int i11, .ref k14, .ref k15, .ref k16, .ref k17, .ref k18, .ref k19, .ref k20, .ref k21, .ref k22, .ref k23, .ref k24, .ref k25, .ref k26, .ref k27, .ref k28, .int i12, .int i13, .int i14, .int i15, .int i16, .ref k29, .ref k30, .ref k31, .ref k32, .ref k33, .ref k34, .int i17, .ref k35])), (h4, aI cI 220 t113_0)] := hD
                          refine lv_istore (lv' := [(5, .int r164), (2, .int v156), (4, .int v148), (3, .int t119_0), (1, .int t98_1), (0, .ref h0)]) hx hb dX9_findBlocks_167 hl (by decide) rfl (fun ls hl => ?_)
                          refine lv_iconst (v := 0) hx hb dX9_findBlocks_169 (by decide) ?_
                          refine lv_istore (lv' := [(6, .int 0), (5, .int r164), (2, .int v156), (4, .int v148), (3, .int t119_0), (1, .int t98_1), (0, .ref h0)]) hx hb dX9_findBlocks_170 hl (by decide) rfl (fun ls hl => ?_)
                          replace hl : lv_has ls 7 [(6, .int 0), (5, .int r164), (2, .int v156), (4, .int v148), (1, .int t98_1), (0, .ref h0)] := lv_sub hl [0, 1, 2, 3, 5, 6] rfl
                          obtain ⟨n5, hwp⟩ := hwp
                          have hs5 : ∀ (n5 : Nat) (H : Heap) (locs : List Loc) (ls : Array Slot) (t172_0 : Nat → Int32) (t172_1 : Int32), wLX9_findBlocks_172 i0 i1 i2 i3 i5 i6 i7 i8 i9 i10 i11 i12 i13 i14 i15 i16 i17 t7_0 t7_1 t7_3 t98_1 v148 v156 r164 K (fun z0 z1 => wLX9_findBlocks_113 i0 i1 i2 i3 i5 i6 i7 i8 i9 i10 i11 i12 i13 i14 i15 i16 i17 f18 t7_0 t7_1 t7_3 t98_1 K (fun z0 z1 => wLX9_findBlocks_98 i0 i1 i2 i3 i5 i6 i7 i8 i9 i10 i11 i12 i13 i14 i15 i16 i17 f18 t7_0 t7_1 t7_3 K  n2 z0 z1) n3 z0 z1) n5 t172_0 t172_1 → va_P G vwCl [(h1, aI cI 21 f18), (h2, aI cI 220 t7_0), (h3, aI cI 220 t7_1), (h0, .inr (9, [.int i0, .int i1, .ref k0, .ref k1, .ref k2, .ref k3, .ref k4, .int i2, .ref h1, .int i3, .ref h2, .ref h3, .ref h4, .int t7_3, .ref k5, .ref k6, .int i5, .ref k7, .ref k8, .ref k9, .int i6, .ref k10, .int i7, .ref k11, .ref k12, .int i8, .int i9, .int i10, .ref k13, .int i11, .ref k14, .ref k15, .ref k16, .ref k17, .ref k18, .ref k19, .ref k20, .ref k21, .ref k22, .ref k23, .ref k24, .ref k25, .ref k26, .ref k27, .ref k28, .int i12, .int i13, .int i14, .int i15, .int i16, .ref k29, .ref k30, .ref k31, .ref k32, .ref k33, .ref k34, .int i17, .ref k35])), (h4, aI cI 220 t172_0)] H → va_D A [(h1, aI cI 21 f18), (h2, aI cI 220 t7_0), (h3, aI cI 220 t7_1), (h0, .inr (9, [.int i0, .int i1, .ref k0, .ref k1, .ref k2, .ref k3, .ref k4, .int i2, .ref h1, .int i3, .ref h2, .ref h3, .ref h4, .int t7_3, .ref k5, .ref k6, .int i5, .ref k7, .ref k8, .ref k9, .int i6, .ref k10, .int i7, .ref k11, .ref k12, .int i8, .int i9, .int i10, .ref k13, .int i11, .ref k14, .ref k15, .ref k16, .ref k17, .ref k18, .ref k19, .ref k20, .ref k21, .ref k22, .ref k23, .ref k24, .ref k25, .ref k26, .ref k27, .ref k28, .int i12, .int i13, .int i14, .int i15, .int i16, .ref k29, .ref k30, .ref k31, .ref k32, .ref k33, .ref k34, .int i17, .ref k35])), (h4, aI cI 220 t172_0)] → va_S A s.heap H locs → lv_has ls 7 [(6, .int t172_1), (5, .int r164), (2, .int v156), (4, .int v148), (1, .int t98_1), (0, .ref h0)] → W p l e ((headSpec (xw yX9_findBlocks cX9_findBlocks 7 none) { frames := 1, cells := 0, slots := 0, locals := 25 }).room) s m ([.ref h0] : List Value).toArray below meth c H locs 0 0 QQ (F0 m 172 ls []) := by
                            intro n5
                            induction n5 with
                            | zero => intro H locs ls t172_0 t172_1 hwp; exact False.elim hwp
                            | succ n5 ih5 =>
                              intro H locs ls t172_0 t172_1 hwp hP hD hS hl
                              rw [wLX9_findBlocks_172] at hwp
                              refine lv_iload hx hb dX9_findBlocks_172 (lv_at hl 0 rfl) ?_
                              refine lv_aload_n hx hb dX9_findBlocks_174 rfl (lv_at hl 5 rfl) ?_
                              refine va_get (D := G) (ci := 9) (v := .int i3) (C := RX9) (T := TX9) (N := 58) hx hb hts xinX9 hown hK hP 3 rfl rfl 9 (by decide) (hts _ wo_444) (fun _ h9 => h9) rfl dX9_findBlocks_175 ?_
                              refine lv_icmp_ge (tgt := 216) hx hb dX9_findBlocks_178 (by decide) (fun c178 => ?_) (fun c178 => ?_)
                              · replace hwp := hwp.1 c178
                                refine lv_goto (tgt := 113) hx hb dX9_findBlocks_216 (by decide) ?_
                                replace hl : lv_has ls 7 [(2, .int v156), (1, .int t98_1), (0, .ref h0)] := lv_sub hl [2, 4, 5] rfl
                                replace hP : va_P G vwCl [(h0, .inr (9, [.int i0, .int i1, .ref k0, .ref k1, .ref k2, .ref k3, .ref k4, .int i2, .ref h1, .int i3, .ref h2, .ref h3, .ref h4, .int t7_3, .ref k5, .ref k6, .int i5, .ref k7, .ref k8, .ref k9, .int i6, .ref k10, .int i7, .ref k11, .ref k12, .int i8, .int i9, .int i10, .ref k13, .int i11, .ref k14, .ref k15, .ref k16, .ref k17, .ref k18, .ref k19, .ref k20, .ref k21, .ref k22, .ref k23, .ref k24, .ref k25, .ref k26, .ref k27, .ref k28, .int i12, .int i13, .int i14, .int i15, .int i16, .ref k29, .ref k30, .ref k31, .ref k32, .ref k33, .ref k34, .int i17, .ref k35])), (h1, aI cI 21 f18), (h2, aI cI 220 t7_0), (h3, aI cI 220 t7_1), (h4, aI cI 220 t172_0)] H := hP.sub [3, 0, 1, 2, 4] rfl
                                replace hD : va_D A [(h0, .inr (9, [.int i0, .int i1, .ref k0, .ref k1, .ref k2, .ref k3, .ref k4, .int i2, .ref h1, .int i3, .ref h2, .ref h3, .ref h4, .int t7_3, .ref k5, .ref k6, .int i5, .ref k7, .ref k8, .ref k9, .int i6, .ref k10, .int i7, .ref k11, .ref k12, .int i8, .int i9, .int i10, .ref k13, .int i11, .ref k14, .ref k15, .ref k16, .ref k17, .ref k18, .ref k19, .ref k20, .ref k21, .ref k22, .ref k23, .ref k24, .ref k25, .ref k26, .ref k27, .ref k28, .int i12, .int i13, .int i14, .int i15, .int i16, .ref k29, .ref k30, .ref k31, .ref k32, .ref k33, .ref k34, .int i17, .ref k35])), (h1, aI cI 21 f18), (h2, aI cI 220 t7_0), (h3, aI cI 220 t7_1), (h4, aI cI 220 t172_0)] := hD.sub [3, 0, 1, 2, 4] (by decide) rfl
                                exact ih3 H locs ls t172_0 v156 hwp hP hD hS hl
                              · replace hwp := hwp.2 c178
                                refine lv_iload hx hb dX9_findBlocks_181 (lv_at hl 3 rfl) ?_
                                refine lv_iload hx hb dX9_findBlocks_183 (lv_at hl 0 rfl) ?_
                                refine lv_ishr hx hb dX9_findBlocks_185 ?_
                                refine lv_iconst (v := 1) hx hb dX9_findBlocks_186 (by decide) ?_
                                refine lv_iand hx hb dX9_findBlocks_187 ?_
                                refine lv_iconst (v := 1) hx hb dX9_findBlocks_188 (by decide) ?_
                                refine lv_icmp_ne (tgt := 210) hx hb dX9_findBlocks_189 (by decide) (fun c189 => ?_) (fun c189 => ?_)
                                · replace hwp := hwp.1 c189
                                  refine lv_iinc (v := (t172_1 + 1)) (lv' := [(6, .int (t172_1 + 1)), (5, .int r164), (2, .int v156), (4, .int v148), (1, .int t98_1), (0, .ref h0)]) hx hb dX9_findBlocks_210 hl (k := 0) rfl rfl (by decide) rfl (fun ls hl => ?_)
                                  refine lv_goto (tgt := 172) hx hb dX9_findBlocks_213 (by decide) ?_
                                  replace hl : lv_has ls 7 [(6, .int (t172_1 + 1)), (5, .int r164), (2, .int v156), (4, .int v148), (1, .int t98_1), (0, .ref h0)] := lv_sub hl [0, 1, 2, 3, 4, 5] rfl
                                  exact ih5 H locs ls t172_0 (t172_1 + 1) hwp hP hD hS hl
                                · replace hwp := hwp.2 c189
                                  refine lv_aload_n hx hb dX9_findBlocks_192 rfl (lv_at hl 5 rfl) ?_
                                  refine va_get (D := G) (ci := 9) (v := .ref h4) (C := RX9) (T := TX9) (N := 58) hx hb hts xinX9 hown hK hP 3 rfl rfl 12 (by decide) (hts _ wo_446) (fun _ h9 => h9) rfl dX9_findBlocks_193 ?_
                                  refine lv_aload_n hx hb dX9_findBlocks_196 rfl (lv_at hl 5 rfl) ?_
                                  refine lv_aload_n hx hb dX9_findBlocks_197 rfl (lv_at hl 5 rfl) ?_
                                  refine lv_iload_n hx hb dX9_findBlocks_198 rfl (lv_at hl 4 rfl) ?_
                                  refine lv_iload hx hb dX9_findBlocks_199 (lv_at hl 0 rfl) ?_
                                  refine xci (wr := [(h1, aI cI 21 f18), (h4, aI cI 220 t172_0)]) (va_runV (As := [.int t98_1, .int t172_1]) (rest := [.ref h0, .ref h4]) ⟨hx, hb, hml, hown, hts⟩ (zX9_edgeAt l G cI cJ cZ h0 h2 h3 k0 k1 k2 k3 k4 h1 h4 k5 k6 k7 k8 k9 k10 k11 k12 k13 k14 k15 k16 k17 k18 k19 k20 k21 k22 k23 k24 k25 k26 k27 k28 k29 k30 k31 k32 k33 k34 k35 H.size i0 i1 i2 i3 t7_3 i5 i6 i7 i8 i9 i10 i11 i12 i13 i14 i15 i16 i17 t7_0 t7_1 t98_1 t172_1 _ hwp) (cwV 2 hts (xgoodV wo_455 wo_456 wo_457 wo_458 wo_454) rfl rfl rfl (by decide +kernel) ⟨Nat.le_of_ble_eq_true rfl, Nat.le_of_ble_eq_true rfl⟩) (xPreV (q := (RX9, TX9, 58)) (q0 := 3) hK hN hP hD [3, 1, 2] (by decide) rfl rfl rfl) rfl rfl hl.1 rfl (lv_room (Nat.le_of_ble_eq_true rfl)) dX9_findBlocks_201 ⟨Nat.le_of_ble_eq_true rfl, Nat.le_of_ble_eq_true rfl⟩) hP hD hS hA [3, 1, 2] [0, 4] rfl rfl (by decide) (by decide) (fun r201 u201 H locs hwp hP hD hS => ?_)
                                  replace hP : va_P G vwCl [(h1, aI cI 21 f18), (h4, aI cI 220 t172_0), (h0, .inr (9, [.int i0, .int i1, .ref k0, .ref k1, .ref k2, .ref k3, .ref k4, .int i2, .ref h1, .int i3, .ref h2, .ref h3, .ref h4, .int t7_3, .ref k5, .ref k6, .int i5, .ref k7, .ref k8, .ref k9, .int i6, .ref k10, .int i7, .ref k11, .ref k12, .int i8, .int i9, .int i10, .ref k13, .int i11, .ref k14, .ref k15, .ref k16, .ref k17, .ref k18, .ref k19, .ref k20, .ref k21, .ref k22, .ref k23, .ref k24, .ref k25, .ref k26, .ref k27, .ref k28, .int i12, .int i13, .int i14, .int i15, .int i16, .ref k29, .ref k30, .ref k31, .ref k32, .ref k33, .ref k34, .int i17, .ref k35])), (h2, aI cI 220 t7_0), (h3, aI cI 220 t7_1)] H := hP
                                  replace hD : va_D A [(h1, aI cI 21 f18), (h4, aI cI 220 t172_0), (h0, .inr (9, [.int i0, .int i1, .ref k0, .ref k1, .ref k2, .ref k3, .ref k4, .int i2, .ref h1, .int i3, .ref h2, .ref h3, .ref h4, .int t7_3, .ref k5, .ref k6, .int i5, .ref k7, .ref k8, .ref k9, .int i6, .ref k10, .int i7, .ref k11, .ref k12, .int i8, .int i9, .int i10, .ref k13, .int i11, .ref k14, .ref k15, .ref k16, .ref k17, .ref k18, .ref k19, .ref k20, .ref k21, .ref k22, .ref k23, .ref k24, .ref k25, .ref k26, .ref k27, .ref k28, .int i12, .int i13, .int i14, .int i15, .int i16, .ref k29, .ref k30, .ref k31, .ref k32, .ref k33, .ref k34, .int i17, .ref k35])), (h2, aI cI 220 t7_0), (h3, aI cI 220 t7_1)] := hD
                                  refine xci (wr := [(h1, aI cI 21 f18), (h2, aI cI 220 t7_0), (h3, aI cI 220 t7_1)]) (va_runV (As := [.int r201]) (rest := [.ref h4]) ⟨hx, hb, hml, hown, hts⟩ (zX9_rootOf l G cI cJ cZ h0 h4 k0 k1 k2 k3 k4 h1 h2 h3 k5 k6 k7 k8 k9 k10 k11 k12 k13 k14 k15 k16 k17 k18 k19 k20 k21 k22 k23 k24 k25 k26 k27 k28 k29 k30 k31 k32 k33 k34 k35 H.size i0 i1 i2 i3 t7_3 i5 i6 i7 i8 i9 i10 i11 i12 i13 i14 i15 i16 i17 t172_0 r201 _ hwp) (cwV 1 hts (xgoodV wo_459 wo_460 wo_461 wo_462 wo_454) rfl rfl rfl (by decide +kernel) ⟨Nat.le_of_ble_eq_true rfl, Nat.le_of_ble_eq_true rfl⟩) (xPreV (q := (RX9, TX9, 58)) (q0 := 2) hK hN hP hD [2, 1] (by decide) rfl rfl rfl) rfl rfl hl.1 rfl (lv_room (Nat.le_of_ble_eq_true rfl)) dX9_findBlocks_204 ⟨Nat.le_of_ble_eq_true rfl, Nat.le_of_ble_eq_true rfl⟩) hP hD hS hA [2, 1] [0, 3, 4] rfl rfl (by decide) (by decide) (fun r204 u204 H locs hwp hP hD hS => ?_)
                                  replace hP : va_P G vwCl [(h1, aI cI 21 f18), (h2, aI cI 220 t7_0), (h3, aI cI 220 t7_1), (h0, .inr (9, [.int i0, .int i1, .ref k0, .ref k1, .ref k2, .ref k3, .ref k4, .int i2, .ref h1, .int i3, .ref h2, .ref h3, .ref h4, .int t7_3, .ref k5, .ref k6, .int i5, .ref k7, .ref k8, .ref k9, .int i6, .ref k10, .int i7, .ref k11, .ref k12, .int i8, .int i9, .int i10, .ref k13, .int i11, .ref k14, .ref k15, .ref k16, .ref k17, .ref k18, .ref k19, .ref k20, .ref k21, .ref k22, .ref k23, .ref k24, .ref k25, .ref k26, .ref k27, .ref k28, .int i12, .int i13, .int i14, .int i15, .int i16, .ref k29, .ref k30, .ref k31, .ref k32, .ref k33, .ref k34, .int i17, .ref k35])), (h4, aI cI 220 t172_0)] H := hP
                                  replace hD : va_D A [(h1, aI cI 21 f18), (h2, aI cI 220 t7_0), (h3, aI cI 220 t7_1), (h0, .inr (9, [.int i0, .int i1, .ref k0, .ref k1, .ref k2, .ref k3, .ref k4, .int i2, .ref h1, .int i3, .ref h2, .ref h3, .ref h4, .int t7_3, .ref k5, .ref k6, .int i5, .ref k7, .ref k8, .ref k9, .int i6, .ref k10, .int i7, .ref k11, .ref k12, .int i8, .int i9, .int i10, .ref k13, .int i11, .ref k14, .ref k15, .ref k16, .ref k17, .ref k18, .ref k19, .ref k20, .ref k21, .ref k22, .ref k23, .ref k24, .ref k25, .ref k26, .ref k27, .ref k28, .int i12, .int i13, .int i14, .int i15, .int i16, .ref k29, .ref k30, .ref k31, .ref k32, .ref k33, .ref k34, .int i17, .ref k35])), (h4, aI cI 220 t172_0)] := hD
                                  refine lv_iload hx hb dX9_findBlocks_207 (lv_at hl 1 rfl) ?_
                                  obtain ⟨hi, hwp⟩ := hwp
                                  refine va_iast hx hb hK hP hD hS 4 0 rfl rfl hi dX9_findBlocks_209 (fun H locs hP hD hS => ?_)
                                  obtain ⟨g209, eg209⟩ : ∃ z, z = upd t172_0 (Int32.toNatClampNeg r204) r164 := ⟨_, rfl⟩
                                  replace hwp := hwp g209 eg209
                                  replace hP : va_P G vwCl [(h1, aI cI 21 f18), (h2, aI cI 220 t7_0), (h3, aI cI 220 t7_1), (h0, .inr (9, [.int i0, .int i1, .ref k0, .ref k1, .ref k2, .ref k3, .ref k4, .int i2, .ref h1, .int i3, .ref h2, .ref h3, .ref h4, .int t7_3, .ref k5, .ref k6, .int i5, .ref k7, .ref k8, .ref k9, .int i6, .ref k10, .int i7, .ref k11, .ref k12, .int i8, .int i9, .int i10, .ref k13, .int i11, .ref k14, .ref k15, .ref k16, .ref k17, .ref k18, .ref k19, .ref k20, .ref k21, .ref k22, .ref k23, .ref k24, .ref k25, .ref k26, .ref k27, .ref k28, .int i12, .int i13, .int i14, .int i15, .int i16, .ref k29, .ref k30, .ref k31, .ref k32, .ref k33, .ref k34, .int i17, .ref k35])), (h4, aI cI 220 g209)] H := by rw [eg209]; exact hP
                                  replace hD : va_D A [(h1, aI cI 21 f18), (h2, aI cI 220 t7_0), (h3, aI cI 220 t7_1), (h0, .inr (9, [.int i0, .int i1, .ref k0, .ref k1, .ref k2, .ref k3, .ref k4, .int i2, .ref h1, .int i3, .ref h2, .ref h3, .ref h4, .int t7_3, .ref k5, .ref k6, .int i5, .ref k7, .ref k8, .ref k9, .int i6, .ref k10, .int i7, .ref k11, .ref k12, .int i8, .int i9, .int i10, .ref k13, .int i11, .ref k14, .ref k15, .ref k16, .ref k17, .ref k18, .ref k19, .ref k20, .ref k21, .ref k22, .ref k23, .ref k24, .ref k25, .ref k26, .ref k27, .ref k28, .int i12, .int i13, .int i14, .int i15, .int i16, .ref k29, .ref k30, .ref k31, .ref k32, .ref k33, .ref k34, .int i17, .ref k35])), (h4, aI cI 220 g209)] := by rw [eg209]; exact hD
                                  clear eg209
                                  refine lv_iinc (v := (t172_1 + 1)) (lv' := [(6, .int (t172_1 + 1)), (5, .int r164), (2, .int v156), (4, .int v148), (1, .int t98_1), (0, .ref h0)]) hx hb dX9_findBlocks_210 hl (k := 0) rfl rfl (by decide) rfl (fun ls hl => ?_)
                                  refine lv_goto (tgt := 172) hx hb dX9_findBlocks_213 (by decide) ?_
                                  replace hl : lv_has ls 7 [(6, .int (t172_1 + 1)), (5, .int r164), (2, .int v156), (4, .int v148), (1, .int t98_1), (0, .ref h0)] := lv_sub hl [0, 1, 2, 3, 4, 5] rfl
                                  exact ih5 H locs ls g209 (t172_1 + 1) hwp hP hD hS hl
                          exact hs5 n5 H locs ls t113_0 0 hwp hP hD hS hl
                        · replace hwp := hwp.2 c124
                          refine lv_iinc (v := (t119_0 + 1)) (lv' := [(3, .int (t119_0 + 1)), (2, .int t113_1), (1, .int t98_1), (0, .ref h0)]) hx hb dX9_findBlocks_127 hl (k := 0) rfl rfl (by decide) rfl (fun ls hl => ?_)
                          refine lv_goto (tgt := 119) hx hb dX9_findBlocks_130 (by decide) ?_
                          replace hl : lv_has ls 7 [(3, .int (t119_0 + 1)), (2, .int t113_1), (1, .int t98_1), (0, .ref h0)] := lv_sub hl [0, 1, 2, 3] rfl
                          exact ih4 H locs ls (t119_0 + 1) hwp hP hD hS hl
                    exact hs4 n4 H locs ls 0 hwp hP hD hS hl
              exact hs3 n3 H locs ls t98_0 v112 hwp hP hD hS hl
        exact hs2 n2 H locs ls t7_2 0 hwp hP hD hS hl
      · replace hwp := hwp.2 c12
        refine lv_iload_n hx hb dX9_findBlocks_15 rfl (lv_at hl 0 rfl) ?_
        refine lv_iconst (v := 1) hx hb dX9_findBlocks_16 (by decide) ?_
        refine lv_iadd hx hb dX9_findBlocks_17 ?_
        refine lv_topi (fun v18 ev18 => ?_)
        replace hwp := hwp v18 ev18
        clear ev18
        refine lv_istore_n (lv' := [(2, .int v18), (1, .int t7_4), (0, .ref h0)]) hx hb dX9_findBlocks_18 rfl hl (by decide) rfl (fun ls hl => ?_)
        replace hl : lv_has ls 7 [(2, .int v18), (1, .int t7_4), (0, .ref h0)] := lv_sub hl [0, 1, 2] rfl
        obtain ⟨n6, hwp⟩ := hwp
        have hs6 : ∀ (n6 : Nat) (H : Heap) (locs : List Loc) (ls : Array Slot) (t19_0 : Nat → Int32) (t19_1 : Nat → Int32) (t19_2 : Nat → Int32) (t19_3 : Int32) (t19_4 : Int32), wLX9_findBlocks_19 i3 f18 t7_4 K (fun z0 z1 z2 z3 z4 => wLX9_findBlocks_7 i0 i1 i2 i3 i5 i6 i7 i8 i9 i10 i11 i12 i13 i14 i15 i16 i17 f18 K  n1 z0 z1 z2 z3 z4) n6 t19_0 t19_1 t19_2 t19_3 t19_4 → va_P G vwCl [(h0, .inr (9, [.int i0, .int i1, .ref k0, .ref k1, .ref k2, .ref k3, .ref k4, .int i2, .ref h1, .int i3, .ref h2, .ref h3, .ref h4, .int t19_3, .ref k5, .ref k6, .int i5, .ref k7, .ref k8, .ref k9, .int i6, .ref k10, .int i7, .ref k11, .ref k12, .int i8, .int i9, .int i10, .ref k13, .int i11, .ref k14, .ref k15, .ref k16, .ref k17, .ref k18, .ref k19, .ref k20, .ref k21, .ref k22, .ref k23, .ref k24, .ref k25, .ref k26, .ref k27, .ref k28, .int i12, .int i13, .int i14, .int i15, .int i16, .ref k29, .ref k30, .ref k31, .ref k32, .ref k33, .ref k34, .int i17, .ref k35])), (h1, aI cI 21 f18), (h2, aI cI 220 t19_0), (h3, aI cI 220 t19_1), (h4, aI cI 220 t19_2)] H → va_D A [(h0, .inr (9, [.int i0, .int i1, .ref k0, .ref k1, .ref k2, .ref k3, .ref k4, .int i2, .ref h1, .int i3, .ref h2, .ref h3, .ref h4, .int t19_3, .ref k5, .ref k6, .int i5, .ref k7, .ref k8, .ref k9, .int i6, .ref k10, .int i7, .ref k11, .ref k12, .int i8, .int i9, .int i10, .ref k13, .int i11, .ref k14, .ref k15, .ref k16, .ref k17, .ref k18, .ref k19, .ref k20, .ref k21, .ref k22, .ref k23, .ref k24, .ref k25, .ref k26, .ref k27, .ref k28, .int i12, .int i13, .int i14, .int i15, .int i16, .ref k29, .ref k30, .ref k31, .ref k32, .ref k33, .ref k34, .int i17, .ref k35])), (h1, aI cI 21 f18), (h2, aI cI 220 t19_0), (h3, aI cI 220 t19_1), (h4, aI cI 220 t19_2)] → va_S A s.heap H locs → lv_has ls 7 [(2, .int t19_4), (1, .int t7_4), (0, .ref h0)] → W p l e ((headSpec (xw yX9_findBlocks cX9_findBlocks 7 none) { frames := 1, cells := 0, slots := 0, locals := 25 }).room) s m ([.ref h0] : List Value).toArray below meth c H locs 0 0 QQ (F0 m 19 ls []) := by
          intro n6
          induction n6 with
          | zero => intro H locs ls t19_0 t19_1 t19_2 t19_3 t19_4 hwp; exact False.elim hwp
          | succ n6 ih6 =>
            intro H locs ls t19_0 t19_1 t19_2 t19_3 t19_4 hwp hP hD hS hl
            rw [wLX9_findBlocks_19] at hwp
            refine lv_iload_n hx hb dX9_findBlocks_19 rfl (lv_at hl 0 rfl) ?_
            refine lv_aload_n hx hb dX9_findBlocks_20 rfl (lv_at hl 2 rfl) ?_
            refine va_get (D := G) (ci := 9) (v := .int i3) (C := RX9) (T := TX9) (N := 58) hx hb hts xinX9 hown hK hP 0 rfl rfl 9 (by decide) (hts _ wo_444) (fun _ h9 => h9) rfl dX9_findBlocks_21 ?_
            refine lv_icmp_ge (tgt := 90) hx hb dX9_findBlocks_24 (by decide) (fun c24 => ?_) (fun c24 => ?_)
            · replace hwp := hwp.1 c24
              refine lv_iinc (v := (t7_4 + 1)) (lv' := [(1, .int (t7_4 + 1)), (2, .int t19_4), (0, .ref h0)]) hx hb dX9_findBlocks_90 hl (k := 1) rfl rfl (by decide) rfl (fun ls hl => ?_)
              refine lv_goto (tgt := 7) hx hb dX9_findBlocks_93 (by decide) ?_
              replace hl : lv_has ls 7 [(1, .int (t7_4 + 1)), (0, .ref h0)] := lv_sub hl [0, 2] rfl
              exact ih1 H locs ls t19_0 t19_1 t19_2 t19_3 (t7_4 + 1) hwp hP hD hS hl
            · replace hwp := hwp.2 c24
              refine lv_aload_n hx hb dX9_findBlocks_27 rfl (lv_at hl 2 rfl) ?_
              refine va_get (D := G) (ci := 9) (v := .ref h1) (C := RX9) (T := TX9) (N := 58) hx hb hts xinX9 hown hK hP 0 rfl rfl 8 (by decide) (hts _ wo_445) (fun _ h9 => h9) rfl dX9_findBlocks_28 ?_
              refine lv_iload_n hx hb dX9_findBlocks_31 rfl (lv_at hl 1 rfl) ?_
              obtain ⟨hi, hwp⟩ := hwp
              refine va_iald hx hb hK hP 1 0 rfl rfl hi dX9_findBlocks_32 ?_
              refine lv_iload_n hx hb dX9_findBlocks_33 rfl (lv_at hl 0 rfl) ?_
              refine lv_ishr hx hb dX9_findBlocks_34 ?_
              refine lv_iconst (v := 1) hx hb dX9_findBlocks_35 (by decide) ?_
              refine lv_iand hx hb dX9_findBlocks_36 ?_
              refine lv_iconst (v := 1) hx hb dX9_findBlocks_37 (by decide) ?_
              refine lv_icmp_ne (tgt := 84) hx hb dX9_findBlocks_38 (by decide) (fun c38 => ?_) (fun c38 => ?_)
              · replace hwp := hwp.1 c38
                refine lv_iinc (v := (t19_4 + 1)) (lv' := [(2, .int (t19_4 + 1)), (1, .int t7_4), (0, .ref h0)]) hx hb dX9_findBlocks_84 hl (k := 0) rfl rfl (by decide) rfl (fun ls hl => ?_)
                refine lv_goto (tgt := 19) hx hb dX9_findBlocks_87 (by decide) ?_
                replace hl : lv_has ls 7 [(2, .int (t19_4 + 1)), (1, .int t7_4), (0, .ref h0)] := lv_sub hl [0, 1, 2] rfl
                exact ih6 H locs ls t19_0 t19_1 t19_2 t19_3 (t19_4 + 1) hwp hP hD hS hl
              · replace hwp := hwp.2 c38
                refine lv_aload_n hx hb dX9_findBlocks_41 rfl (lv_at hl 2 rfl) ?_
                refine va_get (D := G) (ci := 9) (v := .ref h2) (C := RX9) (T := TX9) (N := 58) hx hb hts xinX9 hown hK hP 0 rfl rfl 10 (by decide) (hts _ wo_447) (fun _ h9 => h9) rfl dX9_findBlocks_42 ?_
                refine lv_aload_n hx hb dX9_findBlocks_45 rfl (lv_at hl 2 rfl) ?_
                refine va_get (D := G) (ci := 9) (v := .int t19_3) (C := RX9) (T := TX9) (N := 58) hx hb hts xinX9 hown hK hP 0 rfl rfl 13 (by decide) (hts _ wo_449) (fun _ h9 => h9) rfl dX9_findBlocks_46 ?_
                refine lv_iload_n hx hb dX9_findBlocks_49 rfl (lv_at hl 1 rfl) ?_
                obtain ⟨hi, hwp⟩ := hwp
                refine va_iast hx hb hK hP hD hS 2 0 rfl rfl hi dX9_findBlocks_50 (fun H locs hP hD hS => ?_)
                obtain ⟨g50, eg50⟩ : ∃ z, z = upd t19_0 (Int32.toNatClampNeg t19_3) t7_4 := ⟨_, rfl⟩
                replace hwp := hwp g50 eg50
                replace hP : va_P G vwCl [(h0, .inr (9, [.int i0, .int i1, .ref k0, .ref k1, .ref k2, .ref k3, .ref k4, .int i2, .ref h1, .int i3, .ref h2, .ref h3, .ref h4, .int t19_3, .ref k5, .ref k6, .int i5, .ref k7, .ref k8, .ref k9, .int i6, .ref k10, .int i7, .ref k11, .ref k12, .int i8, .int i9, .int i10, .ref k13, .int i11, .ref k14, .ref k15, .ref k16, .ref k17, .ref k18, .ref k19, .ref k20, .ref k21, .ref k22, .ref k23, .ref k24, .ref k25, .ref k26, .ref k27, .ref k28, .int i12, .int i13, .int i14, .int i15, .int i16, .ref k29, .ref k30, .ref k31, .ref k32, .ref k33, .ref k34, .int i17, .ref k35])), (h1, aI cI 21 f18), (h2, aI cI 220 g50), (h3, aI cI 220 t19_1), (h4, aI cI 220 t19_2)] H := by rw [eg50]; exact hP
                replace hD : va_D A [(h0, .inr (9, [.int i0, .int i1, .ref k0, .ref k1, .ref k2, .ref k3, .ref k4, .int i2, .ref h1, .int i3, .ref h2, .ref h3, .ref h4, .int t19_3, .ref k5, .ref k6, .int i5, .ref k7, .ref k8, .ref k9, .int i6, .ref k10, .int i7, .ref k11, .ref k12, .int i8, .int i9, .int i10, .ref k13, .int i11, .ref k14, .ref k15, .ref k16, .ref k17, .ref k18, .ref k19, .ref k20, .ref k21, .ref k22, .ref k23, .ref k24, .ref k25, .ref k26, .ref k27, .ref k28, .int i12, .int i13, .int i14, .int i15, .int i16, .ref k29, .ref k30, .ref k31, .ref k32, .ref k33, .ref k34, .int i17, .ref k35])), (h1, aI cI 21 f18), (h2, aI cI 220 g50), (h3, aI cI 220 t19_1), (h4, aI cI 220 t19_2)] := by rw [eg50]; exact hD
                clear eg50
                refine lv_aload_n hx hb dX9_findBlocks_51 rfl (lv_at hl 2 rfl) ?_
                refine va_get (D := G) (ci := 9) (v := .ref h3) (C := RX9) (T := TX9) (N := 58) hx hb hts xinX9 hown hK hP 0 rfl rfl 11 (by decide) (hts _ wo_448) (fun _ h9 => h9) rfl dX9_findBlocks_52 ?_
                refine lv_aload_n hx hb dX9_findBlocks_55 rfl (lv_at hl 2 rfl) ?_
                refine va_get (D := G) (ci := 9) (v := .int t19_3) (C := RX9) (T := TX9) (N := 58) hx hb hts xinX9 hown hK hP 0 rfl rfl 13 (by decide) (hts _ wo_449) (fun _ h9 => h9) rfl dX9_findBlocks_56 ?_
                refine lv_iload_n hx hb dX9_findBlocks_59 rfl (lv_at hl 0 rfl) ?_
                obtain ⟨hi, hwp⟩ := hwp
                refine va_iast hx hb hK hP hD hS 3 0 rfl rfl hi dX9_findBlocks_60 (fun H locs hP hD hS => ?_)
                obtain ⟨g60, eg60⟩ : ∃ z, z = upd t19_1 (Int32.toNatClampNeg t19_3) t19_4 := ⟨_, rfl⟩
                replace hwp := hwp g60 eg60
                replace hP : va_P G vwCl [(h0, .inr (9, [.int i0, .int i1, .ref k0, .ref k1, .ref k2, .ref k3, .ref k4, .int i2, .ref h1, .int i3, .ref h2, .ref h3, .ref h4, .int t19_3, .ref k5, .ref k6, .int i5, .ref k7, .ref k8, .ref k9, .int i6, .ref k10, .int i7, .ref k11, .ref k12, .int i8, .int i9, .int i10, .ref k13, .int i11, .ref k14, .ref k15, .ref k16, .ref k17, .ref k18, .ref k19, .ref k20, .ref k21, .ref k22, .ref k23, .ref k24, .ref k25, .ref k26, .ref k27, .ref k28, .int i12, .int i13, .int i14, .int i15, .int i16, .ref k29, .ref k30, .ref k31, .ref k32, .ref k33, .ref k34, .int i17, .ref k35])), (h1, aI cI 21 f18), (h2, aI cI 220 g50), (h3, aI cI 220 g60), (h4, aI cI 220 t19_2)] H := by rw [eg60]; exact hP
                replace hD : va_D A [(h0, .inr (9, [.int i0, .int i1, .ref k0, .ref k1, .ref k2, .ref k3, .ref k4, .int i2, .ref h1, .int i3, .ref h2, .ref h3, .ref h4, .int t19_3, .ref k5, .ref k6, .int i5, .ref k7, .ref k8, .ref k9, .int i6, .ref k10, .int i7, .ref k11, .ref k12, .int i8, .int i9, .int i10, .ref k13, .int i11, .ref k14, .ref k15, .ref k16, .ref k17, .ref k18, .ref k19, .ref k20, .ref k21, .ref k22, .ref k23, .ref k24, .ref k25, .ref k26, .ref k27, .ref k28, .int i12, .int i13, .int i14, .int i15, .int i16, .ref k29, .ref k30, .ref k31, .ref k32, .ref k33, .ref k34, .int i17, .ref k35])), (h1, aI cI 21 f18), (h2, aI cI 220 g50), (h3, aI cI 220 g60), (h4, aI cI 220 t19_2)] := by rw [eg60]; exact hD
                clear eg60
                refine lv_aload_n hx hb dX9_findBlocks_61 rfl (lv_at hl 2 rfl) ?_
                refine va_get (D := G) (ci := 9) (v := .ref h4) (C := RX9) (T := TX9) (N := 58) hx hb hts xinX9 hown hK hP 0 rfl rfl 12 (by decide) (hts _ wo_446) (fun _ h9 => h9) rfl dX9_findBlocks_62 ?_
                refine lv_aload_n hx hb dX9_findBlocks_65 rfl (lv_at hl 2 rfl) ?_
                refine va_get (D := G) (ci := 9) (v := .int t19_3) (C := RX9) (T := TX9) (N := 58) hx hb hts xinX9 hown hK hP 0 rfl rfl 13 (by decide) (hts _ wo_449) (fun _ h9 => h9) rfl dX9_findBlocks_66 ?_
                refine lv_aload_n hx hb dX9_findBlocks_69 rfl (lv_at hl 2 rfl) ?_
                refine va_get (D := G) (ci := 9) (v := .int t19_3) (C := RX9) (T := TX9) (N := 58) hx hb hts xinX9 hown hK hP 0 rfl rfl 13 (by decide) (hts _ wo_449) (fun _ h9 => h9) rfl dX9_findBlocks_70 ?_
                obtain ⟨hi, hwp⟩ := hwp
                refine va_iast hx hb hK hP hD hS 4 0 rfl rfl hi dX9_findBlocks_73 (fun H locs hP hD hS => ?_)
                obtain ⟨g73, eg73⟩ : ∃ z, z = upd t19_2 (Int32.toNatClampNeg t19_3) t19_3 := ⟨_, rfl⟩
                replace hwp := hwp g73 eg73
                replace hP : va_P G vwCl [(h0, .inr (9, [.int i0, .int i1, .ref k0, .ref k1, .ref k2, .ref k3, .ref k4, .int i2, .ref h1, .int i3, .ref h2, .ref h3, .ref h4, .int t19_3, .ref k5, .ref k6, .int i5, .ref k7, .ref k8, .ref k9, .int i6, .ref k10, .int i7, .ref k11, .ref k12, .int i8, .int i9, .int i10, .ref k13, .int i11, .ref k14, .ref k15, .ref k16, .ref k17, .ref k18, .ref k19, .ref k20, .ref k21, .ref k22, .ref k23, .ref k24, .ref k25, .ref k26, .ref k27, .ref k28, .int i12, .int i13, .int i14, .int i15, .int i16, .ref k29, .ref k30, .ref k31, .ref k32, .ref k33, .ref k34, .int i17, .ref k35])), (h1, aI cI 21 f18), (h2, aI cI 220 g50), (h3, aI cI 220 g60), (h4, aI cI 220 g73)] H := by rw [eg73]; exact hP
                replace hD : va_D A [(h0, .inr (9, [.int i0, .int i1, .ref k0, .ref k1, .ref k2, .ref k3, .ref k4, .int i2, .ref h1, .int i3, .ref h2, .ref h3, .ref h4, .int t19_3, .ref k5, .ref k6, .int i5, .ref k7, .ref k8, .ref k9, .int i6, .ref k10, .int i7, .ref k11, .ref k12, .int i8, .int i9, .int i10, .ref k13, .int i11, .ref k14, .ref k15, .ref k16, .ref k17, .ref k18, .ref k19, .ref k20, .ref k21, .ref k22, .ref k23, .ref k24, .ref k25, .ref k26, .ref k27, .ref k28, .int i12, .int i13, .int i14, .int i15, .int i16, .ref k29, .ref k30, .ref k31, .ref k32, .ref k33, .ref k34, .int i17, .ref k35])), (h1, aI cI 21 f18), (h2, aI cI 220 g50), (h3, aI cI 220 g60), (h4, aI cI 220 g73)] := by rw [eg73]; exact hD
                clear eg73
                refine lv_aload_n hx hb dX9_findBlocks_74 rfl (lv_at hl 2 rfl) ?_
                refine lv_dup hx hb dX9_findBlocks_75 rfl ?_
                refine va_get (D := G) (ci := 9) (v := .int t19_3) (C := RX9) (T := TX9) (N := 58) hx hb hts xinX9 hown hK hP 0 rfl rfl 13 (by decide) (hts _ wo_449) (fun _ h9 => h9) rfl dX9_findBlocks_76 ?_
                refine lv_iconst (v := 1) hx hb dX9_findBlocks_79 (by decide) ?_
                refine lv_iadd hx hb dX9_findBlocks_80 ?_
                refine lv_topi (fun v81 ev81 => ?_)
                replace hwp := hwp v81 ev81
                clear ev81
                refine va_put (D := G) (ci := 9) (v := .int v81) (ty := .int) (C := RX9) (T := TX9) (N := 58) hx hb hts xinX9 tyX9 tyX9_ok nmX9 hown hK hP hD hS 0 rfl rfl 13 (by decide) (hts _ wo_449) (fun _ h9 => h9) rfl (by decide +kernel) rfl rfl (Nat.le_of_ble_eq_true rfl) dX9_findBlocks_81 (fun H locs hP hD hS => ?_)
                replace hP : va_P G vwCl [(h0, .inr (9, [.int i0, .int i1, .ref k0, .ref k1, .ref k2, .ref k3, .ref k4, .int i2, .ref h1, .int i3, .ref h2, .ref h3, .ref h4, .int v81, .ref k5, .ref k6, .int i5, .ref k7, .ref k8, .ref k9, .int i6, .ref k10, .int i7, .ref k11, .ref k12, .int i8, .int i9, .int i10, .ref k13, .int i11, .ref k14, .ref k15, .ref k16, .ref k17, .ref k18, .ref k19, .ref k20, .ref k21, .ref k22, .ref k23, .ref k24, .ref k25, .ref k26, .ref k27, .ref k28, .int i12, .int i13, .int i14, .int i15, .int i16, .ref k29, .ref k30, .ref k31, .ref k32, .ref k33, .ref k34, .int i17, .ref k35])), (h1, aI cI 21 f18), (h2, aI cI 220 g50), (h3, aI cI 220 g60), (h4, aI cI 220 g73)] H := hP
                replace hD : va_D A [(h0, .inr (9, [.int i0, .int i1, .ref k0, .ref k1, .ref k2, .ref k3, .ref k4, .int i2, .ref h1, .int i3, .ref h2, .ref h3, .ref h4, .int v81, .ref k5, .ref k6, .int i5, .ref k7, .ref k8, .ref k9, .int i6, .ref k10, .int i7, .ref k11, .ref k12, .int i8, .int i9, .int i10, .ref k13, .int i11, .ref k14, .ref k15, .ref k16, .ref k17, .ref k18, .ref k19, .ref k20, .ref k21, .ref k22, .ref k23, .ref k24, .ref k25, .ref k26, .ref k27, .ref k28, .int i12, .int i13, .int i14, .int i15, .int i16, .ref k29, .ref k30, .ref k31, .ref k32, .ref k33, .ref k34, .int i17, .ref k35])), (h1, aI cI 21 f18), (h2, aI cI 220 g50), (h3, aI cI 220 g60), (h4, aI cI 220 g73)] := hD
                refine lv_iinc (v := (t19_4 + 1)) (lv' := [(2, .int (t19_4 + 1)), (1, .int t7_4), (0, .ref h0)]) hx hb dX9_findBlocks_84 hl (k := 0) rfl rfl (by decide) rfl (fun ls hl => ?_)
                refine lv_goto (tgt := 19) hx hb dX9_findBlocks_87 (by decide) ?_
                replace hl : lv_has ls 7 [(2, .int (t19_4 + 1)), (1, .int t7_4), (0, .ref h0)] := lv_sub hl [0, 1, 2] rfl
                exact ih6 H locs ls g50 g60 g73 v81 (t19_4 + 1) hwp hP hD hS hl
        exact hs6 n6 H locs ls t7_0 t7_1 t7_2 t7_3 v18 hwp hP hD hS hl
  exact hs1 n1 H locs ls f19 f20 f21 0 0 hwp hP hD hS hl
def wLX9_back_39 (f19 : Nat → Int32) (t5_0 : Int32) (K : Int32 → (Int32 × (Nat → Int32)) → Prop)  : Nat → (Nat → Int32) → Int32 → Int32 → Prop
  | 0, _, _, _ => False
  | n39 + 1, t39_0, t39_1, t39_2 => ((t39_2 < 0 → K (1 : Int32) (t5_0, t39_0)) ∧ (¬ t39_2 < 0 → (vp_in t39_2 24 ∧ (∀ g52 : Nat → Int32, g52 = upd t39_0 (Int32.toNatClampNeg t39_2) t39_1 → (vp_in t39_1 21 ∧ (∀ v60 : Int32, v60 = (f19 (Int32.toNatClampNeg t39_1)) → (wLX9_back_39 f19 t5_0 K  n39) g52 v60 (t39_2 + (-1))))))))
def wLX9_back_5 (f18 : Nat → Int32) (f19 : Nat → Int32) (p0 : Int32) (p1 : Int32) (K : Int32 → (Int32 × (Nat → Int32)) → Prop)  : Nat → Int32 → Int32 → Prop
  | 0, _, _ => False
  | n5 + 1, t5_0, t5_1 => ((t5_1 = p1 → (∀ v37 : Int32, v37 = (t5_0 - 1) → (∃ n39, wLX9_back_39 f19 t5_0 K  n39 f18 p0 v37))) ∧ (¬ t5_1 = p1 → (vp_in t5_1 21 ∧ (∀ v21 : Int32, v21 = (f19 (Int32.toNatClampNeg t5_1)) → (wLX9_back_5 f18 f19 p0 p1 K  n5) (t5_0 + 1) v21))))
def wX9_back (i0 : Int32) (i1 : Int32) (i2 : Int32) (i3 : Int32) (i4 : Int32) (i5 : Int32) (i6 : Int32) (i7 : Int32) (i8 : Int32) (i9 : Int32) (i10 : Int32) (i11 : Int32) (i12 : Int32) (i13 : Int32) (i14 : Int32) (i15 : Int32) (i16 : Int32) (i17 : Int32) (f18 : Nat → Int32) (f19 : Nat → Int32) (p0 : Int32) (p1 : Int32) (K : Int32 → (Int32 × (Nat → Int32)) → Prop) : Prop := (∃ n5, wLX9_back_5 f18 f19 p0 p1 K  n5 1 p0)
set_option maxHeartbeats 4000000 in
set_option maxRecDepth 100000 in
theorem zX9_back (l : Launch) (G : va_G) (cI cJ cZ : ClassId) (h0 h1 h2 k0 k1 k2 k3 k4 k5 k6 k7 k8 k9 k10 k11 k12 k13 k14 k15 k16 k17 k18 k19 k20 k21 k22 k23 k24 k25 k26 k27 k28 k29 k30 k31 k32 k33 k34 k35 k36 k37 sz : Nat) (i0 : Int32) (i1 : Int32) (i2 : Int32) (i3 : Int32) (i4 : Int32) (i5 : Int32) (i6 : Int32) (i7 : Int32) (i8 : Int32) (i9 : Int32) (i10 : Int32) (i11 : Int32) (i12 : Int32) (i13 : Int32) (i14 : Int32) (i15 : Int32) (i16 : Int32) (i17 : Int32) (f18 : Nat → Int32) (f19 : Nat → Int32) (p0 : Int32) (p1 : Int32) (K : Int32 → (Int32 × (Nat → Int32)) → Prop) (hwp : wX9_back i0 i1 i2 i3 i4 i5 i6 i7 i8 i9 i10 i11 i12 i13 i14 i15 i16 i17 f18 f19 p0 p1 K) : Met l yX9_back (xw yX9_back cX9_back 6 (some .boolean)) ({ frames := 0, cells := 0, slots := 0, locals := 0 }) (xPc G cI cJ cZ [.ref h0, .int p0, .int p1] [(h0, .inr (9, [.int i0, .int i1, .ref k0, .ref k1, .ref k2, .ref k3, .ref k4, .int i2, .ref k5, .int i3, .ref k6, .ref k7, .ref k8, .int i4, .ref k9, .ref k10, .int i5, .ref k11, .ref k12, .ref k13, .int i6, .ref h1, .int i7, .ref h2, .ref k14, .int i8, .int i9, .int i10, .ref k15, .int i11, .ref k16, .ref k17, .ref k18, .ref k19, .ref k20, .ref k21, .ref k22, .ref k23, .ref k24, .ref k25, .ref k26, .ref k27, .ref k28, .ref k29, .ref k30, .int i12, .int i13, .int i14, .int i15, .int i16, .ref k31, .ref k32, .ref k33, .ref k34, .ref k35, .ref k36, .int i17, .ref k37])), (h1, aI cI 24 f18), (h2, aI cI 21 f19)] sz) (va_Qi (fun (r : Int32) (u : Int32 × (Nat → Int32)) => K r u) (fun (u : Int32 × (Nat → Int32)) t => xB G (va_A [(h0, .inr (9, [.int i0, .int i1, .ref k0, .ref k1, .ref k2, .ref k3, .ref k4, .int i2, .ref k5, .int i3, .ref k6, .ref k7, .ref k8, .int i4, .ref k9, .ref k10, .int i5, .ref k11, .ref k12, .ref k13, .int i6, .ref h1, .int i7, .ref h2, .ref k14, .int i8, .int i9, .int i10, .ref k15, .int i11, .ref k16, .ref k17, .ref k18, .ref k19, .ref k20, .ref k21, .ref k22, .ref k23, .ref k24, .ref k25, .ref k26, .ref k27, .ref k28, .ref k29, .ref k30, .int i12, .int i13, .int i14, .int i15, .int i16, .ref k31, .ref k32, .ref k33, .ref k34, .ref k35, .ref k36, .int i17, .ref k37])), (h1, aI cI 24 f18), (h2, aI cI 21 f19)] sz) [(h0, .inr (9, [.int i0, .int i1, .ref k0, .ref k1, .ref k2, .ref k3, .ref k4, .int i2, .ref k5, .int i3, .ref k6, .ref k7, .ref k8, .int i4, .ref k9, .ref k10, .int i5, .ref k11, .ref k12, .ref k13, .int i6, .ref h1, .int u.1, .ref h2, .ref k14, .int i8, .int i9, .int i10, .ref k15, .int i11, .ref k16, .ref k17, .ref k18, .ref k19, .ref k20, .ref k21, .ref k22, .ref k23, .ref k24, .ref k25, .ref k26, .ref k27, .ref k28, .ref k29, .ref k30, .int i12, .int i13, .int i14, .int i15, .int i16, .ref k31, .ref k32, .ref k33, .ref k34, .ref k35, .ref k36, .int i17, .ref k37])), (h1, aI cI 24 u.2), (h2, aI cI 21 f19)] t) (va_A [(h0, .inr (9, [.int i0, .int i1, .ref k0, .ref k1, .ref k2, .ref k3, .ref k4, .int i2, .ref k5, .int i3, .ref k6, .ref k7, .ref k8, .int i4, .ref k9, .ref k10, .int i5, .ref k11, .ref k12, .ref k13, .int i6, .ref h1, .int i7, .ref h2, .ref k14, .int i8, .int i9, .int i10, .ref k15, .int i11, .ref k16, .ref k17, .ref k18, .ref k19, .ref k20, .ref k21, .ref k22, .ref k23, .ref k24, .ref k25, .ref k26, .ref k27, .ref k28, .ref k29, .ref k30, .int i12, .int i13, .int i14, .int i15, .int i16, .ref k31, .ref k32, .ref k33, .ref k34, .ref k35, .ref k36, .int i17, .ref k37])), (h1, aI cI 24 f18), (h2, aI cI 21 f19)] sz)) 0 0 (va_A [(h0, .inr (9, [.int i0, .int i1, .ref k0, .ref k1, .ref k2, .ref k3, .ref k4, .int i2, .ref k5, .int i3, .ref k6, .ref k7, .ref k8, .int i4, .ref k9, .ref k10, .int i5, .ref k11, .ref k12, .ref k13, .int i6, .ref h1, .int i7, .ref h2, .ref k14, .int i8, .int i9, .int i10, .ref k15, .int i11, .ref k16, .ref k17, .ref k18, .ref k19, .ref k20, .ref k21, .ref k22, .ref k23, .ref k24, .ref k25, .ref k26, .ref k27, .ref k28, .ref k29, .ref k30, .int i12, .int i13, .int i14, .int i15, .int i16, .ref k31, .ref k32, .ref k33, .ref k34, .ref k35, .ref k36, .int i17, .ref k37])), (h1, aI cI 24 f18), (h2, aI cI 21 f19)] sz) := by
  refine Met.ofW (cc := cX9_back) (maxL := 6) (ret := (some .boolean)) (by decide) rfl ?_
  intro p e s m args below meth c s₁ B hml hv
  obtain ⟨rfl, hsz, hP, hK, hD0, hN⟩ := hv
  have hx := B.exec
  have hb := B.bytes
  have hr := B.returns
  have hts : ∀ w ∈ xW, w.before _ s = true := fun w h => atoms_spec (ws := xw yX9_back cX9_back 6 (some .boolean)) B.pre w (List.mem_cons_of_mem _ h)
  have hown : s.vm.findClass RX9 = some m.cls := findClass_of_methodNamed B.named
  have hlocks := B.notSynchronized
  subst hsz
  have hD := hD0.self (sz := s.heap.size)
  clear hD0
  generalize hAe : va_A [(h0, .inr (9, [.int i0, .int i1, .ref k0, .ref k1, .ref k2, .ref k3, .ref k4, .int i2, .ref k5, .int i3, .ref k6, .ref k7, .ref k8, .int i4, .ref k9, .ref k10, .int i5, .ref k11, .ref k12, .ref k13, .int i6, .ref h1, .int i7, .ref h2, .ref k14, .int i8, .int i9, .int i10, .ref k15, .int i11, .ref k16, .ref k17, .ref k18, .ref k19, .ref k20, .ref k21, .ref k22, .ref k23, .ref k24, .ref k25, .ref k26, .ref k27, .ref k28, .ref k29, .ref k30, .int i12, .int i13, .int i14, .int i15, .int i16, .ref k31, .ref k32, .ref k33, .ref k34, .ref k35, .ref k36, .int i17, .ref k37])), (h1, aI cI 24 f18), (h2, aI cI 21 f19)] s.heap.size = A at hD ⊢
  have hA : ∀ q : Nat, s.heap.size ≤ q → A q := fun q h => by rw [← hAe]; exact Or.inr h
  clear hAe
  have hS : va_S A s.heap s.heap [] := va_S.rf
  replace hP : va_P G vwCl [(h0, .inr (9, [.int i0, .int i1, .ref k0, .ref k1, .ref k2, .ref k3, .ref k4, .int i2, .ref k5, .int i3, .ref k6, .ref k7, .ref k8, .int i4, .ref k9, .ref k10, .int i5, .ref k11, .ref k12, .ref k13, .int i6, .ref h1, .int i7, .ref h2, .ref k14, .int i8, .int i9, .int i10, .ref k15, .int i11, .ref k16, .ref k17, .ref k18, .ref k19, .ref k20, .ref k21, .ref k22, .ref k23, .ref k24, .ref k25, .ref k26, .ref k27, .ref k28, .ref k29, .ref k30, .int i12, .int i13, .int i14, .int i15, .int i16, .ref k31, .ref k32, .ref k33, .ref k34, .ref k35, .ref k36, .int i17, .ref k37])), (h1, aI cI 24 f18), (h2, aI cI 21 f19)] s.heap := hP
  have hl := lv_entry ([.ref h0, .int p0, .int p1]) (n := 6) (Nat.le_of_ble_eq_true rfl)
  rw [lg_entry_eq]
  generalize (lg_sl ([.ref h0, .int p0, .int p1]) ++ List.replicate (6 - (lg_sl ([.ref h0, .int p0, .int p1])).length) Slot.unset).toArray = ls at hl ⊢
  replace hl : lv_has ls 6 [(0, .ref h0), (1, .int p0), (2, .int p1)] := hl
  generalize hQQ : MQ below _ _ s 0 0 _ = QQ
  skip
  unfold wX9_back at hwp
  refine lv_iconst (v := 1) hx hb dX9_back_0 (by decide) ?_
  refine lv_istore_n (lv' := [(3, .int 1), (0, .ref h0), (1, .int p0), (2, .int p1)]) hx hb dX9_back_1 rfl hl (by decide) rfl (fun ls hl => ?_)
  refine lv_iload_n hx hb dX9_back_2 rfl (lv_at hl 2 rfl) ?_
  refine lv_istore (lv' := [(4, .int p0), (3, .int 1), (0, .ref h0), (1, .int p0), (2, .int p1)]) hx hb dX9_back_3 hl (by decide) rfl (fun ls hl => ?_)
  refine xgen (Pp := fun H locs => W p l e _ s m _ below meth c H locs _ _ _ _) (fun H locs hP hD hS => ?_) hP hD hS
  replace hl : lv_has ls 6 [(4, .int p0), (3, .int 1), (0, .ref h0), (1, .int p0), (2, .int p1)] := lv_sub hl [0, 1, 2, 3, 4] rfl
  obtain ⟨n1, hwp⟩ := hwp
  have hs1 : ∀ (n1 : Nat) (H : Heap) (locs : List Loc) (ls : Array Slot) (t5_0 : Int32) (t5_1 : Int32), wLX9_back_5 f18 f19 p0 p1 K  n1 t5_0 t5_1 → va_P G vwCl [(h0, .inr (9, [.int i0, .int i1, .ref k0, .ref k1, .ref k2, .ref k3, .ref k4, .int i2, .ref k5, .int i3, .ref k6, .ref k7, .ref k8, .int i4, .ref k9, .ref k10, .int i5, .ref k11, .ref k12, .ref k13, .int i6, .ref h1, .int i7, .ref h2, .ref k14, .int i8, .int i9, .int i10, .ref k15, .int i11, .ref k16, .ref k17, .ref k18, .ref k19, .ref k20, .ref k21, .ref k22, .ref k23, .ref k24, .ref k25, .ref k26, .ref k27, .ref k28, .ref k29, .ref k30, .int i12, .int i13, .int i14, .int i15, .int i16, .ref k31, .ref k32, .ref k33, .ref k34, .ref k35, .ref k36, .int i17, .ref k37])), (h1, aI cI 24 f18), (h2, aI cI 21 f19)] H → va_D A [(h0, .inr (9, [.int i0, .int i1, .ref k0, .ref k1, .ref k2, .ref k3, .ref k4, .int i2, .ref k5, .int i3, .ref k6, .ref k7, .ref k8, .int i4, .ref k9, .ref k10, .int i5, .ref k11, .ref k12, .ref k13, .int i6, .ref h1, .int i7, .ref h2, .ref k14, .int i8, .int i9, .int i10, .ref k15, .int i11, .ref k16, .ref k17, .ref k18, .ref k19, .ref k20, .ref k21, .ref k22, .ref k23, .ref k24, .ref k25, .ref k26, .ref k27, .ref k28, .ref k29, .ref k30, .int i12, .int i13, .int i14, .int i15, .int i16, .ref k31, .ref k32, .ref k33, .ref k34, .ref k35, .ref k36, .int i17, .ref k37])), (h1, aI cI 24 f18), (h2, aI cI 21 f19)] → va_S A s.heap H locs → lv_has ls 6 [(4, .int t5_1), (3, .int t5_0), (0, .ref h0), (1, .int p0), (2, .int p1)] → W p l e ((headSpec (xw yX9_back cX9_back 6 (some .boolean)) { frames := 0, cells := 0, slots := 0, locals := 0 }).room) s m ([.ref h0, .int p0, .int p1] : List Value).toArray below meth c H locs 0 0 QQ (F0 m 5 ls []) := by
    intro n1
    induction n1 with
    | zero => intro H locs ls t5_0 t5_1 hwp; exact False.elim hwp
    | succ n1 ih1 =>
      intro H locs ls t5_0 t5_1 hwp hP hD hS hl
      rw [wLX9_back_5] at hwp
      refine lv_iload hx hb dX9_back_5 (lv_at hl 0 rfl) ?_
      refine lv_iload_n hx hb dX9_back_7 rfl (lv_at hl 4 rfl) ?_
      refine lv_icmp_eq (tgt := 26) hx hb dX9_back_8 (by decide) (fun c8 => ?_) (fun c8 => ?_)
      · replace hwp := hwp.1 c8
        refine lv_aload_n hx hb dX9_back_26 rfl (lv_at hl 2 rfl) ?_
        refine lv_iload_n hx hb dX9_back_27 rfl (lv_at hl 1 rfl) ?_
        refine va_put (D := G) (ci := 9) (v := .int t5_0) (ty := .int) (C := RX9) (T := TX9) (N := 58) hx hb hts xinX9 tyX9 tyX9_ok nmX9 hown hK hP hD hS 0 rfl rfl 22 (by decide) (hts _ wo_463) (fun _ h9 => h9) rfl (by decide +kernel) rfl rfl (Nat.le_of_ble_eq_true rfl) dX9_back_28 (fun H locs hP hD hS => ?_)
        replace hP : va_P G vwCl [(h0, .inr (9, [.int i0, .int i1, .ref k0, .ref k1, .ref k2, .ref k3, .ref k4, .int i2, .ref k5, .int i3, .ref k6, .ref k7, .ref k8, .int i4, .ref k9, .ref k10, .int i5, .ref k11, .ref k12, .ref k13, .int i6, .ref h1, .int t5_0, .ref h2, .ref k14, .int i8, .int i9, .int i10, .ref k15, .int i11, .ref k16, .ref k17, .ref k18, .ref k19, .ref k20, .ref k21, .ref k22, .ref k23, .ref k24, .ref k25, .ref k26, .ref k27, .ref k28, .ref k29, .ref k30, .int i12, .int i13, .int i14, .int i15, .int i16, .ref k31, .ref k32, .ref k33, .ref k34, .ref k35, .ref k36, .int i17, .ref k37])), (h1, aI cI 24 f18), (h2, aI cI 21 f19)] H := hP
        replace hD : va_D A [(h0, .inr (9, [.int i0, .int i1, .ref k0, .ref k1, .ref k2, .ref k3, .ref k4, .int i2, .ref k5, .int i3, .ref k6, .ref k7, .ref k8, .int i4, .ref k9, .ref k10, .int i5, .ref k11, .ref k12, .ref k13, .int i6, .ref h1, .int t5_0, .ref h2, .ref k14, .int i8, .int i9, .int i10, .ref k15, .int i11, .ref k16, .ref k17, .ref k18, .ref k19, .ref k20, .ref k21, .ref k22, .ref k23, .ref k24, .ref k25, .ref k26, .ref k27, .ref k28, .ref k29, .ref k30, .int i12, .int i13, .int i14, .int i15, .int i16, .ref k31, .ref k32, .ref k33, .ref k34, .ref k35, .ref k36, .int i17, .ref k37])), (h1, aI cI 24 f18), (h2, aI cI 21 f19)] := hD
        refine lv_iload_n hx hb dX9_back_31 rfl (lv_at hl 3 rfl) ?_
        refine lv_istore (lv' := [(4, .int p0), (3, .int t5_0), (0, .ref h0), (1, .int p0), (2, .int p1)]) hx hb dX9_back_32 hl (by decide) rfl (fun ls hl => ?_)
        refine lv_iload_n hx hb dX9_back_34 rfl (lv_at hl 1 rfl) ?_
        refine lv_iconst (v := 1) hx hb dX9_back_35 (by decide) ?_
        refine lv_isub hx hb dX9_back_36 ?_
        refine lv_topi (fun v37 ev37 => ?_)
        replace hwp := hwp v37 ev37
        clear ev37
        refine lv_istore (lv' := [(5, .int v37), (4, .int p0), (3, .int t5_0), (0, .ref h0), (1, .int p0), (2, .int p1)]) hx hb dX9_back_37 hl (by decide) rfl (fun ls hl => ?_)
        replace hl : lv_has ls 6 [(5, .int v37), (4, .int p0), (0, .ref h0)] := lv_sub hl [0, 1, 3] rfl
        obtain ⟨n2, hwp⟩ := hwp
        have hs2 : ∀ (n2 : Nat) (H : Heap) (locs : List Loc) (ls : Array Slot) (t39_0 : Nat → Int32) (t39_1 : Int32) (t39_2 : Int32), wLX9_back_39 f19 t5_0 K  n2 t39_0 t39_1 t39_2 → va_P G vwCl [(h0, .inr (9, [.int i0, .int i1, .ref k0, .ref k1, .ref k2, .ref k3, .ref k4, .int i2, .ref k5, .int i3, .ref k6, .ref k7, .ref k8, .int i4, .ref k9, .ref k10, .int i5, .ref k11, .ref k12, .ref k13, .int i6, .ref h1, .int t5_0, .ref h2, .ref k14, .int i8, .int i9, .int i10, .ref k15, .int i11, .ref k16, .ref k17, .ref k18, .ref k19, .ref k20, .ref k21, .ref k22, .ref k23, .ref k24, .ref k25, .ref k26, .ref k27, .ref k28, .ref k29, .ref k30, .int i12, .int i13, .int i14, .int i15, .int i16, .ref k31, .ref k32, .ref k33, .ref k34, .ref k35, .ref k36, .int i17, .ref k37])), (h1, aI cI 24 t39_0), (h2, aI cI 21 f19)] H → va_D A [(h0, .inr (9, [.int i0, .int i1, .ref k0, .ref k1, .ref k2, .ref k3, .ref k4, .int i2, .ref k5, .int i3, .ref k6, .ref k7, .ref k8, .int i4, .ref k9, .ref k10, .int i5, .ref k11, .ref k12, .ref k13, .int i6, .ref h1, .int t5_0, .ref h2, .ref k14, .int i8, .int i9, .int i10, .ref k15, .int i11, .ref k16, .ref k17, .ref k18, .ref k19, .ref k20, .ref k21, .ref k22, .ref k23, .ref k24, .ref k25, .ref k26, .ref k27, .ref k28, .ref k29, .ref k30, .int i12, .int i13, .int i14, .int i15, .int i16, .ref k31, .ref k32, .ref k33, .ref k34, .ref k35, .ref k36, .int i17, .ref k37])), (h1, aI cI 24 t39_0), (h2, aI cI 21 f19)] → va_S A s.heap H locs → lv_has ls 6 [(5, .int t39_2), (4, .int t39_1), (0, .ref h0)] → W p l e ((headSpec (xw yX9_back cX9_back 6 (some .boolean)) { frames := 0, cells := 0, slots := 0, locals := 0 }).room) s m ([.ref h0, .int p0, .int p1] : List Value).toArray below meth c H locs 0 0 QQ (F0 m 39 ls []) := by
          intro n2
          induction n2 with
          | zero => intro H locs ls t39_0 t39_1 t39_2 hwp; exact False.elim hwp
          | succ n2 ih2 =>
            intro H locs ls t39_0 t39_1 t39_2 hwp hP hD hS hl
            rw [wLX9_back_39] at hwp
            refine lv_iload hx hb dX9_back_39 (lv_at hl 0 rfl) ?_
            refine lv_if_lt (tgt := 68) hx hb dX9_back_41 (by decide) (fun c41 => ?_) (fun c41 => ?_)
            · replace hwp := hwp.1 c41
              refine lv_iconst (v := 1) hx hb dX9_back_68 (by decide) ?_
              have hP9 : va_P G vwCl [(h0, .inr (9, [.int i0, .int i1, .ref k0, .ref k1, .ref k2, .ref k3, .ref k4, .int i2, .ref k5, .int i3, .ref k6, .ref k7, .ref k8, .int i4, .ref k9, .ref k10, .int i5, .ref k11, .ref k12, .ref k13, .int i6, .ref h1, .int t5_0, .ref h2, .ref k14, .int i8, .int i9, .int i10, .ref k15, .int i11, .ref k16, .ref k17, .ref k18, .ref k19, .ref k20, .ref k21, .ref k22, .ref k23, .ref k24, .ref k25, .ref k26, .ref k27, .ref k28, .ref k29, .ref k30, .int i12, .int i13, .int i14, .int i15, .int i16, .ref k31, .ref k32, .ref k33, .ref k34, .ref k35, .ref k36, .int i17, .ref k37])), (h1, aI cI 24 t39_0), (h2, aI cI 21 f19)] H := hP.sub [0, 1, 2] rfl
              have hD9 : va_D A [(h0, .inr (9, [.int i0, .int i1, .ref k0, .ref k1, .ref k2, .ref k3, .ref k4, .int i2, .ref k5, .int i3, .ref k6, .ref k7, .ref k8, .int i4, .ref k9, .ref k10, .int i5, .ref k11, .ref k12, .ref k13, .int i6, .ref h1, .int t5_0, .ref h2, .ref k14, .int i8, .int i9, .int i10, .ref k15, .int i11, .ref k16, .ref k17, .ref k18, .ref k19, .ref k20, .ref k21, .ref k22, .ref k23, .ref k24, .ref k25, .ref k26, .ref k27, .ref k28, .ref k29, .ref k30, .int i12, .int i13, .int i14, .int i15, .int i16, .ref k31, .ref k32, .ref k33, .ref k34, .ref k35, .ref k36, .int i17, .ref k37])), (h1, aI cI 24 t39_0), (h2, aI cI 21 f19)] := hD.sub [0, 1, 2] (by decide) rfl
              rw [← hQQ]
              exact W.zret (v := 1) hx hb hr rfl (fun t ht hW => ⟨⟨_, (t5_0, t39_0), rfl, hwp, by rw [ht]; exact hP9, hD9⟩, hS.F ht⟩) hS.2.2 dX9_back_69
            · replace hwp := hwp.2 c41
              refine lv_aload_n hx hb dX9_back_44 rfl (lv_at hl 2 rfl) ?_
              refine va_get (D := G) (ci := 9) (v := .ref h1) (C := RX9) (T := TX9) (N := 58) hx hb hts xinX9 hown hK hP 0 rfl rfl 21 (by decide) (hts _ wo_464) (fun _ h9 => h9) rfl dX9_back_45 ?_
              refine lv_iload hx hb dX9_back_48 (lv_at hl 0 rfl) ?_
              refine lv_iload hx hb dX9_back_50 (lv_at hl 1 rfl) ?_
              obtain ⟨hi, hwp⟩ := hwp
              refine va_iast hx hb hK hP hD hS 1 0 rfl rfl hi dX9_back_52 (fun H locs hP hD hS => ?_)
              obtain ⟨g52, eg52⟩ : ∃ z, z = upd t39_0 (Int32.toNatClampNeg t39_2) t39_1 := ⟨_, rfl⟩
              replace hwp := hwp g52 eg52
              replace hP : va_P G vwCl [(h0, .inr (9, [.int i0, .int i1, .ref k0, .ref k1, .ref k2, .ref k3, .ref k4, .int i2, .ref k5, .int i3, .ref k6, .ref k7, .ref k8, .int i4, .ref k9, .ref k10, .int i5, .ref k11, .ref k12, .ref k13, .int i6, .ref h1, .int t5_0, .ref h2, .ref k14, .int i8, .int i9, .int i10, .ref k15, .int i11, .ref k16, .ref k17, .ref k18, .ref k19, .ref k20, .ref k21, .ref k22, .ref k23, .ref k24, .ref k25, .ref k26, .ref k27, .ref k28, .ref k29, .ref k30, .int i12, .int i13, .int i14, .int i15, .int i16, .ref k31, .ref k32, .ref k33, .ref k34, .ref k35, .ref k36, .int i17, .ref k37])), (h1, aI cI 24 g52), (h2, aI cI 21 f19)] H := by rw [eg52]; exact hP
              replace hD : va_D A [(h0, .inr (9, [.int i0, .int i1, .ref k0, .ref k1, .ref k2, .ref k3, .ref k4, .int i2, .ref k5, .int i3, .ref k6, .ref k7, .ref k8, .int i4, .ref k9, .ref k10, .int i5, .ref k11, .ref k12, .ref k13, .int i6, .ref h1, .int t5_0, .ref h2, .ref k14, .int i8, .int i9, .int i10, .ref k15, .int i11, .ref k16, .ref k17, .ref k18, .ref k19, .ref k20, .ref k21, .ref k22, .ref k23, .ref k24, .ref k25, .ref k26, .ref k27, .ref k28, .ref k29, .ref k30, .int i12, .int i13, .int i14, .int i15, .int i16, .ref k31, .ref k32, .ref k33, .ref k34, .ref k35, .ref k36, .int i17, .ref k37])), (h1, aI cI 24 g52), (h2, aI cI 21 f19)] := by rw [eg52]; exact hD
              clear eg52
              refine lv_aload_n hx hb dX9_back_53 rfl (lv_at hl 2 rfl) ?_
              refine va_get (D := G) (ci := 9) (v := .ref h2) (C := RX9) (T := TX9) (N := 58) hx hb hts xinX9 hown hK hP 0 rfl rfl 23 (by decide) (hts _ wo_465) (fun _ h9 => h9) rfl dX9_back_54 ?_
              refine lv_iload hx hb dX9_back_57 (lv_at hl 1 rfl) ?_
              obtain ⟨hi, hwp⟩ := hwp
              refine va_iald hx hb hK hP 2 0 rfl rfl hi dX9_back_59 ?_
              refine lv_topi (fun v60 ev60 => ?_)
              replace hwp := hwp v60 ev60
              clear ev60
              refine lv_istore (lv' := [(4, .int v60), (5, .int t39_2), (0, .ref h0)]) hx hb dX9_back_60 hl (by decide) rfl (fun ls hl => ?_)
              refine lv_iinc (v := (t39_2 + (-1))) (lv' := [(5, .int (t39_2 + (-1))), (4, .int v60), (0, .ref h0)]) hx hb dX9_back_62 hl (k := 1) rfl rfl (by decide) rfl (fun ls hl => ?_)
              refine lv_goto (tgt := 39) hx hb dX9_back_65 (by decide) ?_
              replace hl : lv_has ls 6 [(5, .int (t39_2 + (-1))), (4, .int v60), (0, .ref h0)] := lv_sub hl [0, 1, 2] rfl
              exact ih2 H locs ls g52 v60 (t39_2 + (-1)) hwp hP hD hS hl
        exact hs2 n2 H locs ls f18 p0 v37 hwp hP hD hS hl
      · replace hwp := hwp.2 c8
        refine lv_iinc (v := (t5_0 + 1)) (lv' := [(3, .int (t5_0 + 1)), (4, .int t5_1), (0, .ref h0), (1, .int p0), (2, .int p1)]) hx hb dX9_back_11 hl (k := 1) rfl rfl (by decide) rfl (fun ls hl => ?_)
        refine lv_aload_n hx hb dX9_back_14 rfl (lv_at hl 2 rfl) ?_
        refine va_get (D := G) (ci := 9) (v := .ref h2) (C := RX9) (T := TX9) (N := 58) hx hb hts xinX9 hown hK hP 0 rfl rfl 23 (by decide) (hts _ wo_465) (fun _ h9 => h9) rfl dX9_back_15 ?_
        refine lv_iload hx hb dX9_back_18 (lv_at hl 1 rfl) ?_
        obtain ⟨hi, hwp⟩ := hwp
        refine va_iald hx hb hK hP 2 0 rfl rfl hi dX9_back_20 ?_
        refine lv_topi (fun v21 ev21 => ?_)
        replace hwp := hwp v21 ev21
        clear ev21
        refine lv_istore (lv' := [(4, .int v21), (3, .int (t5_0 + 1)), (0, .ref h0), (1, .int p0), (2, .int p1)]) hx hb dX9_back_21 hl (by decide) rfl (fun ls hl => ?_)
        refine lv_goto (tgt := 5) hx hb dX9_back_23 (by decide) ?_
        replace hl : lv_has ls 6 [(4, .int v21), (3, .int (t5_0 + 1)), (0, .ref h0), (1, .int p0), (2, .int p1)] := lv_sub hl [0, 1, 2, 3, 4] rfl
        exact ih1 H locs ls (t5_0 + 1) v21 hwp hP hD hS hl
  exact hs1 n1 H locs ls 1 p0 hwp hP hD hS hl
def wLX9_findPath_68 (i0 : Int32) (i1 : Int32) (i2 : Int32) (i3 : Int32) (i4 : Int32) (i5 : Int32) (i6 : Int32) (i7 : Int32) (i8 : Int32) (i9 : Int32) (i10 : Int32) (i11 : Int32) (i12 : Int32) (i13 : Int32) (i14 : Int32) (i15 : Int32) (i16 : Int32) (i17 : Int32) (f20 : Nat → Int32) (f21 : Nat → Int32) (p0 : Int32) (p1 : Int32) (p2 : Int32) (p3 : Int32) (t46_2 : Int32) (v60 : Int32) (K : Int32 → (Int32 × (Nat → Int32) × (Nat → Int32) × (Nat → Int32)) → Prop) (B46_2 : (Nat → Int32) → (Nat → Int32) → Int32 → Int32 → Prop) : Nat → (Nat → Int32) → (Nat → Int32) → Int32 → Int32 → Prop
  | 0, _, _, _, _ => False
  | n68 + 1, t68_0, t68_1, t68_2, t68_3 => ((i3 ≤ t68_3 → B46_2 t68_0 t68_1 (t46_2 + 1) t68_2) ∧ (¬ i3 ≤ t68_3 → (vp_in v60 21 ∧ (((((f20 (Int32.toNatClampNeg v60)) >>> (t68_3 &&& 31)) &&& 1) = 0 → (wLX9_findPath_68 i0 i1 i2 i3 i4 i5 i6 i7 i8 i9 i10 i11 i12 i13 i14 i15 i16 i17 f20 f21 p0 p1 p2 p3 t46_2 v60 K B46_2 n68) t68_0 t68_1 t68_2 (t68_3 + 1)) ∧ (¬ (((f20 (Int32.toNatClampNeg v60)) >>> (t68_3 &&& 31)) &&& 1) = 0 → (vp_in t68_3 21 ∧ ((0 ≤ (t68_1 (Int32.toNatClampNeg t68_3)) → (wLX9_findPath_68 i0 i1 i2 i3 i4 i5 i6 i7 i8 i9 i10 i11 i12 i13 i14 i15 i16 i17 f20 f21 p0 p1 p2 p3 t46_2 v60 K B46_2 n68) t68_0 t68_1 t68_2 (t68_3 + 1)) ∧ (¬ 0 ≤ (t68_1 (Int32.toNatClampNeg t68_3)) → ((¬ v60 = p0 → ((¬ ((p2 >>> (t68_3 &&& 31)) &&& 1) = 1 → ((¬ ((p1 >>> (t68_3 &&& 31)) &&& 1) = 0 → (vp_in t68_3 21 ∧ (∀ g160 : Nat → Int32, g160 = upd t68_1 (Int32.toNatClampNeg t68_3) v60 → (vp_in t68_2 21 ∧ (∀ g182 : Nat → Int32, g182 = upd t68_0 (Int32.toNatClampNeg t68_2) t68_3 → (wLX9_findPath_68 i0 i1 i2 i3 i4 i5 i6 i7 i8 i9 i10 i11 i12 i13 i14 i15 i16 i17 f20 f21 p0 p1 p2 p3 t46_2 v60 K B46_2 n68) g182 g160 (t68_2 + 1) (t68_3 + 1)))))) ∧ (((p1 >>> (t68_3 &&& 31)) &&& 1) = 0 → (wLX9_findPath_68 i0 i1 i2 i3 i4 i5 i6 i7 i8 i9 i10 i11 i12 i13 i14 i15 i16 i17 f20 f21 p0 p1 p2 p3 t46_2 v60 K B46_2 n68) t68_0 t68_1 t68_2 (t68_3 + 1)))) ∧ (((p2 >>> (t68_3 &&& 31)) &&& 1) = 1 → (vp_in t68_3 21 ∧ (∀ g160 : Nat → Int32, g160 = upd t68_1 (Int32.toNatClampNeg t68_3) v60 → (wX9_back i0 i1 i2 i3 i4 i5 i6 i7 i8 i9 i10 i11 i12 i13 i14 i15 i16 i17 f21 g160 t68_3 p0 (fun r170 u170 => (narrow .boolean (.int r170) = .int r170 ∧ K r170 (u170.1, t68_0, g160, u170.2))))))))) ∧ (v60 = p0 → ((¬ t68_3 = p3 → ((¬ ((p2 >>> (t68_3 &&& 31)) &&& 1) = 1 → ((¬ ((p1 >>> (t68_3 &&& 31)) &&& 1) = 0 → (vp_in t68_3 21 ∧ (∀ g160 : Nat → Int32, g160 = upd t68_1 (Int32.toNatClampNeg t68_3) v60 → (vp_in t68_2 21 ∧ (∀ g182 : Nat → Int32, g182 = upd t68_0 (Int32.toNatClampNeg t68_2) t68_3 → (wLX9_findPath_68 i0 i1 i2 i3 i4 i5 i6 i7 i8 i9 i10 i11 i12 i13 i14 i15 i16 i17 f20 f21 p0 p1 p2 p3 t46_2 v60 K B46_2 n68) g182 g160 (t68_2 + 1) (t68_3 + 1)))))) ∧ (((p1 >>> (t68_3 &&& 31)) &&& 1) = 0 → (wLX9_findPath_68 i0 i1 i2 i3 i4 i5 i6 i7 i8 i9 i10 i11 i12 i13 i14 i15 i16 i17 f20 f21 p0 p1 p2 p3 t46_2 v60 K B46_2 n68) t68_0 t68_1 t68_2 (t68_3 + 1)))) ∧ (((p2 >>> (t68_3 &&& 31)) &&& 1) = 1 → (vp_in t68_3 21 ∧ (∀ g160 : Nat → Int32, g160 = upd t68_1 (Int32.toNatClampNeg t68_3) v60 → (wX9_back i0 i1 i2 i3 i4 i5 i6 i7 i8 i9 i10 i11 i12 i13 i14 i15 i16 i17 f21 g160 t68_3 p0 (fun r170 u170 => (narrow .boolean (.int r170) = .int r170 ∧ K r170 (u170.1, t68_0, g160, u170.2))))))))) ∧ (t68_3 = p3 → (wLX9_findPath_68 i0 i1 i2 i3 i4 i5 i6 i7 i8 i9 i10 i11 i12 i13 i14 i15 i16 i17 f20 f21 p0 p1 p2 p3 t46_2 v60 K B46_2 n68) t68_0 t68_1 t68_2 (t68_3 + 1)))))))))))))
def wLX9_findPath_46 (i0 : Int32) (i1 : Int32) (i2 : Int32) (i3 : Int32) (i4 : Int32) (i5 : Int32) (i6 : Int32) (i7 : Int32) (i8 : Int32) (i9 : Int32) (i10 : Int32) (i11 : Int32) (i12 : Int32) (i13 : Int32) (i14 : Int32) (i15 : Int32) (i16 : Int32) (i17 : Int32) (f20 : Nat → Int32) (f21 : Nat → Int32) (p0 : Int32) (p1 : Int32) (p2 : Int32) (p3 : Int32) (K : Int32 → (Int32 × (Nat → Int32) × (Nat → Int32) × (Nat → Int32)) → Prop)  : Nat → (Nat → Int32) → (Nat → Int32) → Int32 → Int32 → Prop
  | 0, _, _, _, _ => False
  | n46 + 1, t46_0, t46_1, t46_2, t46_3 => ((t46_3 ≤ t46_2 → K (0 : Int32) (i7, t46_0, t46_1, f21)) ∧ (¬ t46_3 ≤ t46_2 → (vp_in t46_2 21 ∧ (∀ v60 : Int32, v60 = (t46_0 (Int32.toNatClampNeg t46_2)) → (∃ n68, wLX9_findPath_68 i0 i1 i2 i3 i4 i5 i6 i7 i8 i9 i10 i11 i12 i13 i14 i15 i16 i17 f20 f21 p0 p1 p2 p3 t46_2 v60 K (fun z0 z1 z2 z3 => (wLX9_findPath_46 i0 i1 i2 i3 i4 i5 i6 i7 i8 i9 i10 i11 i12 i13 i14 i15 i16 i17 f20 f21 p0 p1 p2 p3 K  n46) z0 z1 z2 z3) n68 t46_0 t46_1 t46_3 0)))))
def wLX9_findPath_3 (i0 : Int32) (i1 : Int32) (i2 : Int32) (i3 : Int32) (i4 : Int32) (i5 : Int32) (i6 : Int32) (i7 : Int32) (i8 : Int32) (i9 : Int32) (i10 : Int32) (i11 : Int32) (i12 : Int32) (i13 : Int32) (i14 : Int32) (i15 : Int32) (i16 : Int32) (i17 : Int32) (f18 : Nat → Int32) (f20 : Nat → Int32) (f21 : Nat → Int32) (p0 : Int32) (p1 : Int32) (p2 : Int32) (p3 : Int32) (K : Int32 → (Int32 × (Nat → Int32) × (Nat → Int32) × (Nat → Int32)) → Prop)  : Nat → (Nat → Int32) → Int32 → Prop
  | 0, _, _ => False
  | n3 + 1, t3_0, t3_1 => ((i3 ≤ t3_1 → (∀ g38 : Nat → Int32, g38 = upd f18 (Int32.toNatClampNeg (0 : Int32)) p0 → (vp_in p0 21 ∧ (∀ g45 : Nat → Int32, g45 = upd t3_0 (Int32.toNatClampNeg p0) p0 → (∃ n46, wLX9_findPath_46 i0 i1 i2 i3 i4 i5 i6 i7 i8 i9 i10 i11 i12 i13 i14 i15 i16 i17 f20 f21 p0 p1 p2 p3 K  n46 g38 g45 0 1))))) ∧ (¬ i3 ≤ t3_1 → (vp_in t3_1 21 ∧ (∀ g19 : Nat → Int32, g19 = upd t3_0 (Int32.toNatClampNeg t3_1) (-1) → (wLX9_findPath_3 i0 i1 i2 i3 i4 i5 i6 i7 i8 i9 i10 i11 i12 i13 i14 i15 i16 i17 f18 f20 f21 p0 p1 p2 p3 K  n3) g19 (t3_1 + 1)))))
def wX9_findPath (i0 : Int32) (i1 : Int32) (i2 : Int32) (i3 : Int32) (i4 : Int32) (i5 : Int32) (i6 : Int32) (i7 : Int32) (i8 : Int32) (i9 : Int32) (i10 : Int32) (i11 : Int32) (i12 : Int32) (i13 : Int32) (i14 : Int32) (i15 : Int32) (i16 : Int32) (i17 : Int32) (f18 : Nat → Int32) (f19 : Nat → Int32) (f20 : Nat → Int32) (f21 : Nat → Int32) (p0 : Int32) (p1 : Int32) (p2 : Int32) (p3 : Int32) (K : Int32 → (Int32 × (Nat → Int32) × (Nat → Int32) × (Nat → Int32)) → Prop) : Prop := (∃ n3, wLX9_findPath_3 i0 i1 i2 i3 i4 i5 i6 i7 i8 i9 i10 i11 i12 i13 i14 i15 i16 i17 f18 f20 f21 p0 p1 p2 p3 K  n3 f19 0)
set_option maxHeartbeats 4000000 in
set_option maxRecDepth 100000 in
theorem zX9_findPath (l : Launch) (G : va_G) (cI cJ cZ : ClassId) (h0 h1 h2 h3 h4 k0 k1 k2 k3 k4 k5 k6 k7 k8 k9 k10 k11 k12 k13 k14 k15 k16 k17 k18 k19 k20 k21 k22 k23 k24 k25 k26 k27 k28 k29 k30 k31 k32 k33 k34 k35 sz : Nat) (i0 : Int32) (i1 : Int32) (i2 : Int32) (i3 : Int32) (i4 : Int32) (i5 : Int32) (i6 : Int32) (i7 : Int32) (i8 : Int32) (i9 : Int32) (i10 : Int32) (i11 : Int32) (i12 : Int32) (i13 : Int32) (i14 : Int32) (i15 : Int32) (i16 : Int32) (i17 : Int32) (f18 : Nat → Int32) (f19 : Nat → Int32) (f20 : Nat → Int32) (f21 : Nat → Int32) (p0 : Int32) (p1 : Int32) (p2 : Int32) (p3 : Int32) (K : Int32 → (Int32 × (Nat → Int32) × (Nat → Int32) × (Nat → Int32)) → Prop) (hwp : wX9_findPath i0 i1 i2 i3 i4 i5 i6 i7 i8 i9 i10 i11 i12 i13 i14 i15 i16 i17 f18 f19 f20 f21 p0 p1 p2 p3 K) : Met l yX9_findPath (xw yX9_findPath cX9_findPath 10 (some .boolean)) ({ frames := 1, cells := 0, slots := 0, locals := 25 }) (xPc G cI cJ cZ [.ref h0, .int p0, .int p1, .int p2, .int p3] [(h0, .inr (9, [.int i0, .int i1, .ref k0, .ref k1, .ref k2, .ref k3, .ref k4, .int i2, .ref k5, .int i3, .ref k6, .ref k7, .ref k8, .int i4, .ref h3, .ref k9, .int i5, .ref k10, .ref k11, .ref k12, .int i6, .ref h4, .int i7, .ref h2, .ref h1, .int i8, .int i9, .int i10, .ref k13, .int i11, .ref k14, .ref k15, .ref k16, .ref k17, .ref k18, .ref k19, .ref k20, .ref k21, .ref k22, .ref k23, .ref k24, .ref k25, .ref k26, .ref k27, .ref k28, .int i12, .int i13, .int i14, .int i15, .int i16, .ref k29, .ref k30, .ref k31, .ref k32, .ref k33, .ref k34, .int i17, .ref k35])), (h1, aI cI 21 f18), (h2, aI cI 21 f19), (h3, aI cI 21 f20), (h4, aI cI 24 f21)] sz) (va_Qi (fun (r : Int32) (u : Int32 × (Nat → Int32) × (Nat → Int32) × (Nat → Int32)) => K r u) (fun (u : Int32 × (Nat → Int32) × (Nat → Int32) × (Nat → Int32)) t => xB G (va_A [(h0, .inr (9, [.int i0, .int i1, .ref k0, .ref k1, .ref k2, .ref k3, .ref k4, .int i2, .ref k5, .int i3, .ref k6, .ref k7, .ref k8, .int i4, .ref h3, .ref k9, .int i5, .ref k10, .ref k11, .ref k12, .int i6, .ref h4, .int i7, .ref h2, .ref h1, .int i8, .int i9, .int i10, .ref k13, .int i11, .ref k14, .ref k15, .ref k16, .ref k17, .ref k18, .ref k19, .ref k20, .ref k21, .ref k22, .ref k23, .ref k24, .ref k25, .ref k26, .ref k27, .ref k28, .int i12, .int i13, .int i14, .int i15, .int i16, .ref k29, .ref k30, .ref k31, .ref k32, .ref k33, .ref k34, .int i17, .ref k35])), (h1, aI cI 21 f18), (h2, aI cI 21 f19), (h3, aI cI 21 f20), (h4, aI cI 24 f21)] sz) [(h0, .inr (9, [.int i0, .int i1, .ref k0, .ref k1, .ref k2, .ref k3, .ref k4, .int i2, .ref k5, .int i3, .ref k6, .ref k7, .ref k8, .int i4, .ref h3, .ref k9, .int i5, .ref k10, .ref k11, .ref k12, .int i6, .ref h4, .int u.1, .ref h2, .ref h1, .int i8, .int i9, .int i10, .ref k13, .int i11, .ref k14, .ref k15, .ref k16, .ref k17, .ref k18, .ref k19, .ref k20, .ref k21, .ref k22, .ref k23, .ref k24, .ref k25, .ref k26, .ref k27, .ref k28, .int i12, .int i13, .int i14, .int i15, .int i16, .ref k29, .ref k30, .ref k31, .ref k32, .ref k33, .ref k34, .int i17, .ref k35])), (h1, aI cI 21 u.2.1), (h2, aI cI 21 u.2.2.1), (h3, aI cI 21 f20), (h4, aI cI 24 u.2.2.2)] t) (va_A [(h0, .inr (9, [.int i0, .int i1, .ref k0, .ref k1, .ref k2, .ref k3, .ref k4, .int i2, .ref k5, .int i3, .ref k6, .ref k7, .ref k8, .int i4, .ref h3, .ref k9, .int i5, .ref k10, .ref k11, .ref k12, .int i6, .ref h4, .int i7, .ref h2, .ref h1, .int i8, .int i9, .int i10, .ref k13, .int i11, .ref k14, .ref k15, .ref k16, .ref k17, .ref k18, .ref k19, .ref k20, .ref k21, .ref k22, .ref k23, .ref k24, .ref k25, .ref k26, .ref k27, .ref k28, .int i12, .int i13, .int i14, .int i15, .int i16, .ref k29, .ref k30, .ref k31, .ref k32, .ref k33, .ref k34, .int i17, .ref k35])), (h1, aI cI 21 f18), (h2, aI cI 21 f19), (h3, aI cI 21 f20), (h4, aI cI 24 f21)] sz)) 0 0 (va_A [(h0, .inr (9, [.int i0, .int i1, .ref k0, .ref k1, .ref k2, .ref k3, .ref k4, .int i2, .ref k5, .int i3, .ref k6, .ref k7, .ref k8, .int i4, .ref h3, .ref k9, .int i5, .ref k10, .ref k11, .ref k12, .int i6, .ref h4, .int i7, .ref h2, .ref h1, .int i8, .int i9, .int i10, .ref k13, .int i11, .ref k14, .ref k15, .ref k16, .ref k17, .ref k18, .ref k19, .ref k20, .ref k21, .ref k22, .ref k23, .ref k24, .ref k25, .ref k26, .ref k27, .ref k28, .int i12, .int i13, .int i14, .int i15, .int i16, .ref k29, .ref k30, .ref k31, .ref k32, .ref k33, .ref k34, .int i17, .ref k35])), (h1, aI cI 21 f18), (h2, aI cI 21 f19), (h3, aI cI 21 f20), (h4, aI cI 24 f21)] sz) := by
  refine Met.ofW (cc := cX9_findPath) (maxL := 10) (ret := (some .boolean)) (by decide) rfl ?_
  intro p e s m args below meth c s₁ B hml hv
  obtain ⟨rfl, hsz, hP, hK, hD0, hN⟩ := hv
  have hx := B.exec
  have hb := B.bytes
  have hr := B.returns
  have hts : ∀ w ∈ xW, w.before _ s = true := fun w h => atoms_spec (ws := xw yX9_findPath cX9_findPath 10 (some .boolean)) B.pre w (List.mem_cons_of_mem _ h)
  have hown : s.vm.findClass RX9 = some m.cls := findClass_of_methodNamed B.named
  have hlocks := B.notSynchronized
  subst hsz
  have hD := hD0.self (sz := s.heap.size)
  clear hD0
  generalize hAe : va_A [(h0, .inr (9, [.int i0, .int i1, .ref k0, .ref k1, .ref k2, .ref k3, .ref k4, .int i2, .ref k5, .int i3, .ref k6, .ref k7, .ref k8, .int i4, .ref h3, .ref k9, .int i5, .ref k10, .ref k11, .ref k12, .int i6, .ref h4, .int i7, .ref h2, .ref h1, .int i8, .int i9, .int i10, .ref k13, .int i11, .ref k14, .ref k15, .ref k16, .ref k17, .ref k18, .ref k19, .ref k20, .ref k21, .ref k22, .ref k23, .ref k24, .ref k25, .ref k26, .ref k27, .ref k28, .int i12, .int i13, .int i14, .int i15, .int i16, .ref k29, .ref k30, .ref k31, .ref k32, .ref k33, .ref k34, .int i17, .ref k35])), (h1, aI cI 21 f18), (h2, aI cI 21 f19), (h3, aI cI 21 f20), (h4, aI cI 24 f21)] s.heap.size = A at hD ⊢
  have hA : ∀ q : Nat, s.heap.size ≤ q → A q := fun q h => by rw [← hAe]; exact Or.inr h
  clear hAe
  have hS : va_S A s.heap s.heap [] := va_S.rf
  replace hP : va_P G vwCl [(h0, .inr (9, [.int i0, .int i1, .ref k0, .ref k1, .ref k2, .ref k3, .ref k4, .int i2, .ref k5, .int i3, .ref k6, .ref k7, .ref k8, .int i4, .ref h3, .ref k9, .int i5, .ref k10, .ref k11, .ref k12, .int i6, .ref h4, .int i7, .ref h2, .ref h1, .int i8, .int i9, .int i10, .ref k13, .int i11, .ref k14, .ref k15, .ref k16, .ref k17, .ref k18, .ref k19, .ref k20, .ref k21, .ref k22, .ref k23, .ref k24, .ref k25, .ref k26, .ref k27, .ref k28, .int i12, .int i13, .int i14, .int i15, .int i16, .ref k29, .ref k30, .ref k31, .ref k32, .ref k33, .ref k34, .int i17, .ref k35])), (h1, aI cI 21 f18), (h2, aI cI 21 f19), (h3, aI cI 21 f20), (h4, aI cI 24 f21)] s.heap := hP
  have hl := lv_entry ([.ref h0, .int p0, .int p1, .int p2, .int p3]) (n := 10) (Nat.le_of_ble_eq_true rfl)
  rw [lg_entry_eq]
  generalize (lg_sl ([.ref h0, .int p0, .int p1, .int p2, .int p3]) ++ List.replicate (10 - (lg_sl ([.ref h0, .int p0, .int p1, .int p2, .int p3])).length) Slot.unset).toArray = ls at hl ⊢
  replace hl : lv_has ls 10 [(0, .ref h0), (1, .int p0), (2, .int p1), (3, .int p2), (4, .int p3)] := hl
  generalize hQQ : MQ below _ _ s 0 0 _ = QQ
  skip
  unfold wX9_findPath at hwp
  refine lv_iconst (v := 0) hx hb dX9_findPath_0 (by decide) ?_
  refine lv_istore (lv' := [(5, .int 0), (0, .ref h0), (1, .int p0), (2, .int p1), (3, .int p2), (4, .int p3)]) hx hb dX9_findPath_1 hl (by decide) rfl (fun ls hl => ?_)
  refine xgen (Pp := fun H locs => W p l e _ s m _ below meth c H locs _ _ _ _) (fun H locs hP hD hS => ?_) hP hD hS
  replace hl : lv_has ls 10 [(5, .int 0), (0, .ref h0), (1, .int p0), (2, .int p1), (3, .int p2), (4, .int p3)] := lv_sub hl [0, 1, 2, 3, 4, 5] rfl
  obtain ⟨n1, hwp⟩ := hwp
  have hs1 : ∀ (n1 : Nat) (H : Heap) (locs : List Loc) (ls : Array Slot) (t3_0 : Nat → Int32) (t3_1 : Int32), wLX9_findPath_3 i0 i1 i2 i3 i4 i5 i6 i7 i8 i9 i10 i11 i12 i13 i14 i15 i16 i17 f18 f20 f21 p0 p1 p2 p3 K  n1 t3_0 t3_1 → va_P G vwCl [(h0, .inr (9, [.int i0, .int i1, .ref k0, .ref k1, .ref k2, .ref k3, .ref k4, .int i2, .ref k5, .int i3, .ref k6, .ref k7, .ref k8, .int i4, .ref h3, .ref k9, .int i5, .ref k10, .ref k11, .ref k12, .int i6, .ref h4, .int i7, .ref h2, .ref h1, .int i8, .int i9, .int i10, .ref k13, .int i11, .ref k14, .ref k15, .ref k16, .ref k17, .ref k18, .ref k19, .ref k20, .ref k21, .ref k22, .ref k23, .ref k24, .ref k25, .ref k26, .ref k27, .ref k28, .int i12, .int i13, .int i14, .int i15, .int i16, .ref k29, .ref k30, .ref k31, .ref k32, .ref k33, .ref k34, .int i17, .ref k35])), (h1, aI cI 21 f18), (h2, aI cI 21 t3_0), (h3, aI cI 21 f20), (h4, aI cI 24 f21)] H → va_D A [(h0, .inr (9, [.int i0, .int i1, .ref k0, .ref k1, .ref k2, .ref k3, .ref k4, .int i2, .ref k5, .int i3, .ref k6, .ref k7, .ref k8, .int i4, .ref h3, .ref k9, .int i5, .ref k10, .ref k11, .ref k12, .int i6, .ref h4, .int i7, .ref h2, .ref h1, .int i8, .int i9, .int i10, .ref k13, .int i11, .ref k14, .ref k15, .ref k16, .ref k17, .ref k18, .ref k19, .ref k20, .ref k21, .ref k22, .ref k23, .ref k24, .ref k25, .ref k26, .ref k27, .ref k28, .int i12, .int i13, .int i14, .int i15, .int i16, .ref k29, .ref k30, .ref k31, .ref k32, .ref k33, .ref k34, .int i17, .ref k35])), (h1, aI cI 21 f18), (h2, aI cI 21 t3_0), (h3, aI cI 21 f20), (h4, aI cI 24 f21)] → va_S A s.heap H locs → lv_has ls 10 [(5, .int t3_1), (0, .ref h0), (1, .int p0), (2, .int p1), (3, .int p2), (4, .int p3)] → W p l e ((headSpec (xw yX9_findPath cX9_findPath 10 (some .boolean)) { frames := 1, cells := 0, slots := 0, locals := 25 }).room) s m ([.ref h0, .int p0, .int p1, .int p2, .int p3] : List Value).toArray below meth c H locs 0 0 QQ (F0 m 3 ls []) := by
    intro n1
    induction n1 with
    | zero => intro H locs ls t3_0 t3_1 hwp; exact False.elim hwp
    | succ n1 ih1 =>
      intro H locs ls t3_0 t3_1 hwp hP hD hS hl
      rw [wLX9_findPath_3] at hwp
      refine lv_iload hx hb dX9_findPath_3 (lv_at hl 0 rfl) ?_
      refine lv_aload_n hx hb dX9_findPath_5 rfl (lv_at hl 1 rfl) ?_
      refine va_get (D := G) (ci := 9) (v := .int i3) (C := RX9) (T := TX9) (N := 58) hx hb hts xinX9 hown hK hP 0 rfl rfl 9 (by decide) (hts _ wo_444) (fun _ h9 => h9) rfl dX9_findPath_6 ?_
      refine lv_icmp_ge (tgt := 26) hx hb dX9_findPath_9 (by decide) (fun c9 => ?_) (fun c9 => ?_)
      · replace hwp := hwp.1 c9
        refine lv_iconst (v := 0) hx hb dX9_findPath_26 (by decide) ?_
        refine lv_istore (lv' := [(5, .int 0), (0, .ref h0), (1, .int p0), (2, .int p1), (3, .int p2), (4, .int p3)]) hx hb dX9_findPath_27 hl (by decide) rfl (fun ls hl => ?_)
        refine lv_iconst (v := 1) hx hb dX9_findPath_29 (by decide) ?_
        refine lv_istore (lv' := [(6, .int 1), (5, .int 0), (0, .ref h0), (1, .int p0), (2, .int p1), (3, .int p2), (4, .int p3)]) hx hb dX9_findPath_30 hl (by decide) rfl (fun ls hl => ?_)
        refine lv_aload_n hx hb dX9_findPath_32 rfl (lv_at hl 2 rfl) ?_
        refine va_get (D := G) (ci := 9) (v := .ref h1) (C := RX9) (T := TX9) (N := 58) hx hb hts xinX9 hown hK hP 0 rfl rfl 24 (by decide) (hts _ wo_466) (fun _ h9 => h9) rfl dX9_findPath_33 ?_
        refine lv_iconst (v := 0) hx hb dX9_findPath_36 (by decide) ?_
        refine lv_iload_n hx hb dX9_findPath_37 rfl (lv_at hl 3 rfl) ?_
        refine va_iast hx hb hK hP hD hS 1 0 rfl rfl (by unfold vp_in; decide) dX9_findPath_38 (fun H locs hP hD hS => ?_)
        obtain ⟨g38, eg38⟩ : ∃ z, z = upd f18 (Int32.toNatClampNeg (0 : Int32)) p0 := ⟨_, rfl⟩
        replace hwp := hwp g38 eg38
        replace hP : va_P G vwCl [(h0, .inr (9, [.int i0, .int i1, .ref k0, .ref k1, .ref k2, .ref k3, .ref k4, .int i2, .ref k5, .int i3, .ref k6, .ref k7, .ref k8, .int i4, .ref h3, .ref k9, .int i5, .ref k10, .ref k11, .ref k12, .int i6, .ref h4, .int i7, .ref h2, .ref h1, .int i8, .int i9, .int i10, .ref k13, .int i11, .ref k14, .ref k15, .ref k16, .ref k17, .ref k18, .ref k19, .ref k20, .ref k21, .ref k22, .ref k23, .ref k24, .ref k25, .ref k26, .ref k27, .ref k28, .int i12, .int i13, .int i14, .int i15, .int i16, .ref k29, .ref k30, .ref k31, .ref k32, .ref k33, .ref k34, .int i17, .ref k35])), (h1, aI cI 21 g38), (h2, aI cI 21 t3_0), (h3, aI cI 21 f20), (h4, aI cI 24 f21)] H := by rw [eg38]; exact hP
        replace hD : va_D A [(h0, .inr (9, [.int i0, .int i1, .ref k0, .ref k1, .ref k2, .ref k3, .ref k4, .int i2, .ref k5, .int i3, .ref k6, .ref k7, .ref k8, .int i4, .ref h3, .ref k9, .int i5, .ref k10, .ref k11, .ref k12, .int i6, .ref h4, .int i7, .ref h2, .ref h1, .int i8, .int i9, .int i10, .ref k13, .int i11, .ref k14, .ref k15, .ref k16, .ref k17, .ref k18, .ref k19, .ref k20, .ref k21, .ref k22, .ref k23, .ref k24, .ref k25, .ref k26, .ref k27, .ref k28, .int i12, .int i13, .int i14, .int i15, .int i16, .ref k29, .ref k30, .ref k31, .ref k32, .ref k33, .ref k34, .int i17, .ref k35])), (h1, aI cI 21 g38), (h2, aI cI 21 t3_0), (h3, aI cI 21 f20), (h4, aI cI 24 f21)] := by rw [eg38]; exact hD
        clear eg38
        refine lv_aload_n hx hb dX9_findPath_39 rfl (lv_at hl 2 rfl) ?_
        refine va_get (D := G) (ci := 9) (v := .ref h2) (C := RX9) (T := TX9) (N := 58) hx hb hts xinX9 hown hK hP 0 rfl rfl 23 (by decide) (hts _ wo_465) (fun _ h9 => h9) rfl dX9_findPath_40 ?_
        refine lv_iload_n hx hb dX9_findPath_43 rfl (lv_at hl 3 rfl) ?_
        refine lv_iload_n hx hb dX9_findPath_44 rfl (lv_at hl 3 rfl) ?_
        obtain ⟨hi, hwp⟩ := hwp
        refine va_iast hx hb hK hP hD hS 2 0 rfl rfl hi dX9_findPath_45 (fun H locs hP hD hS => ?_)
        obtain ⟨g45, eg45⟩ : ∃ z, z = upd t3_0 (Int32.toNatClampNeg p0) p0 := ⟨_, rfl⟩
        replace hwp := hwp g45 eg45
        replace hP : va_P G vwCl [(h0, .inr (9, [.int i0, .int i1, .ref k0, .ref k1, .ref k2, .ref k3, .ref k4, .int i2, .ref k5, .int i3, .ref k6, .ref k7, .ref k8, .int i4, .ref h3, .ref k9, .int i5, .ref k10, .ref k11, .ref k12, .int i6, .ref h4, .int i7, .ref h2, .ref h1, .int i8, .int i9, .int i10, .ref k13, .int i11, .ref k14, .ref k15, .ref k16, .ref k17, .ref k18, .ref k19, .ref k20, .ref k21, .ref k22, .ref k23, .ref k24, .ref k25, .ref k26, .ref k27, .ref k28, .int i12, .int i13, .int i14, .int i15, .int i16, .ref k29, .ref k30, .ref k31, .ref k32, .ref k33, .ref k34, .int i17, .ref k35])), (h1, aI cI 21 g38), (h2, aI cI 21 g45), (h3, aI cI 21 f20), (h4, aI cI 24 f21)] H := by rw [eg45]; exact hP
        replace hD : va_D A [(h0, .inr (9, [.int i0, .int i1, .ref k0, .ref k1, .ref k2, .ref k3, .ref k4, .int i2, .ref k5, .int i3, .ref k6, .ref k7, .ref k8, .int i4, .ref h3, .ref k9, .int i5, .ref k10, .ref k11, .ref k12, .int i6, .ref h4, .int i7, .ref h2, .ref h1, .int i8, .int i9, .int i10, .ref k13, .int i11, .ref k14, .ref k15, .ref k16, .ref k17, .ref k18, .ref k19, .ref k20, .ref k21, .ref k22, .ref k23, .ref k24, .ref k25, .ref k26, .ref k27, .ref k28, .int i12, .int i13, .int i14, .int i15, .int i16, .ref k29, .ref k30, .ref k31, .ref k32, .ref k33, .ref k34, .int i17, .ref k35])), (h1, aI cI 21 g38), (h2, aI cI 21 g45), (h3, aI cI 21 f20), (h4, aI cI 24 f21)] := by rw [eg45]; exact hD
        clear eg45
        replace hl : lv_has ls 10 [(6, .int 1), (5, .int 0), (0, .ref h0), (1, .int p0), (2, .int p1), (3, .int p2), (4, .int p3)] := lv_sub hl [0, 1, 2, 3, 4, 5, 6] rfl
        obtain ⟨n2, hwp⟩ := hwp
        have hs2 : ∀ (n2 : Nat) (H : Heap) (locs : List Loc) (ls : Array Slot) (t46_0 : Nat → Int32) (t46_1 : Nat → Int32) (t46_2 : Int32) (t46_3 : Int32), wLX9_findPath_46 i0 i1 i2 i3 i4 i5 i6 i7 i8 i9 i10 i11 i12 i13 i14 i15 i16 i17 f20 f21 p0 p1 p2 p3 K  n2 t46_0 t46_1 t46_2 t46_3 → va_P G vwCl [(h0, .inr (9, [.int i0, .int i1, .ref k0, .ref k1, .ref k2, .ref k3, .ref k4, .int i2, .ref k5, .int i3, .ref k6, .ref k7, .ref k8, .int i4, .ref h3, .ref k9, .int i5, .ref k10, .ref k11, .ref k12, .int i6, .ref h4, .int i7, .ref h2, .ref h1, .int i8, .int i9, .int i10, .ref k13, .int i11, .ref k14, .ref k15, .ref k16, .ref k17, .ref k18, .ref k19, .ref k20, .ref k21, .ref k22, .ref k23, .ref k24, .ref k25, .ref k26, .ref k27, .ref k28, .int i12, .int i13, .int i14, .int i15, .int i16, .ref k29, .ref k30, .ref k31, .ref k32, .ref k33, .ref k34, .int i17, .ref k35])), (h1, aI cI 21 t46_0), (h2, aI cI 21 t46_1), (h3, aI cI 21 f20), (h4, aI cI 24 f21)] H → va_D A [(h0, .inr (9, [.int i0, .int i1, .ref k0, .ref k1, .ref k2, .ref k3, .ref k4, .int i2, .ref k5, .int i3, .ref k6, .ref k7, .ref k8, .int i4, .ref h3, .ref k9, .int i5, .ref k10, .ref k11, .ref k12, .int i6, .ref h4, .int i7, .ref h2, .ref h1, .int i8, .int i9, .int i10, .ref k13, .int i11, .ref k14, .ref k15, .ref k16, .ref k17, .ref k18, .ref k19, .ref k20, .ref k21, .ref k22, .ref k23, .ref k24, .ref k25, .ref k26, .ref k27, .ref k28, .int i12, .int i13, .int i14, .int i15, .int i16, .ref k29, .ref k30, .ref k31, .ref k32, .ref k33, .ref k34, .int i17, .ref k35])), (h1, aI cI 21 t46_0), (h2, aI cI 21 t46_1), (h3, aI cI 21 f20), (h4, aI cI 24 f21)] → va_S A s.heap H locs → lv_has ls 10 [(6, .int t46_3), (5, .int t46_2), (0, .ref h0), (1, .int p0), (2, .int p1), (3, .int p2), (4, .int p3)] → W p l e ((headSpec (xw yX9_findPath cX9_findPath 10 (some .boolean)) { frames := 1, cells := 0, slots := 0, locals := 25 }).room) s m ([.ref h0, .int p0, .int p1, .int p2, .int p3] : List Value).toArray below meth c H locs 0 0 QQ (F0 m 46 ls []) := by
          intro n2
          induction n2 with
          | zero => intro H locs ls t46_0 t46_1 t46_2 t46_3 hwp; exact False.elim hwp
          | succ n2 ih2 =>
            intro H locs ls t46_0 t46_1 t46_2 t46_3 hwp hP hD hS hl
            rw [wLX9_findPath_46] at hwp
            refine lv_iload hx hb dX9_findPath_46 (lv_at hl 1 rfl) ?_
            refine lv_iload hx hb dX9_findPath_48 (lv_at hl 0 rfl) ?_
            refine lv_icmp_ge (tgt := 195) hx hb dX9_findPath_50 (by decide) (fun c50 => ?_) (fun c50 => ?_)
            · replace hwp := hwp.1 c50
              refine lv_iconst (v := 0) hx hb dX9_findPath_195 (by decide) ?_
              have hP9 : va_P G vwCl [(h0, .inr (9, [.int i0, .int i1, .ref k0, .ref k1, .ref k2, .ref k3, .ref k4, .int i2, .ref k5, .int i3, .ref k6, .ref k7, .ref k8, .int i4, .ref h3, .ref k9, .int i5, .ref k10, .ref k11, .ref k12, .int i6, .ref h4, .int i7, .ref h2, .ref h1, .int i8, .int i9, .int i10, .ref k13, .int i11, .ref k14, .ref k15, .ref k16, .ref k17, .ref k18, .ref k19, .ref k20, .ref k21, .ref k22, .ref k23, .ref k24, .ref k25, .ref k26, .ref k27, .ref k28, .int i12, .int i13, .int i14, .int i15, .int i16, .ref k29, .ref k30, .ref k31, .ref k32, .ref k33, .ref k34, .int i17, .ref k35])), (h1, aI cI 21 t46_0), (h2, aI cI 21 t46_1), (h3, aI cI 21 f20), (h4, aI cI 24 f21)] H := hP.sub [0, 1, 2, 3, 4] rfl
              have hD9 : va_D A [(h0, .inr (9, [.int i0, .int i1, .ref k0, .ref k1, .ref k2, .ref k3, .ref k4, .int i2, .ref k5, .int i3, .ref k6, .ref k7, .ref k8, .int i4, .ref h3, .ref k9, .int i5, .ref k10, .ref k11, .ref k12, .int i6, .ref h4, .int i7, .ref h2, .ref h1, .int i8, .int i9, .int i10, .ref k13, .int i11, .ref k14, .ref k15, .ref k16, .ref k17, .ref k18, .ref k19, .ref k20, .ref k21, .ref k22, .ref k23, .ref k24, .ref k25, .ref k26, .ref k27, .ref k28, .int i12, .int i13, .int i14, .int i15, .int i16, .ref k29, .ref k30, .ref k31, .ref k32, .ref k33, .ref k34, .int i17, .ref k35])), (h1, aI cI 21 t46_0), (h2, aI cI 21 t46_1), (h3, aI cI 21 f20), (h4, aI cI 24 f21)] := hD.sub [0, 1, 2, 3, 4] (by decide) rfl
              rw [← hQQ]
              exact W.zret (v := 0) hx hb hr rfl (fun t ht hW => ⟨⟨_, (i7, t46_0, t46_1, f21), rfl, hwp, by rw [ht]; exact hP9, hD9⟩, hS.F ht⟩) hS.2.2 dX9_findPath_196
            · replace hwp := hwp.2 c50
              refine lv_aload_n hx hb dX9_findPath_53 rfl (lv_at hl 2 rfl) ?_
              refine va_get (D := G) (ci := 9) (v := .ref h1) (C := RX9) (T := TX9) (N := 58) hx hb hts xinX9 hown hK hP 0 rfl rfl 24 (by decide) (hts _ wo_466) (fun _ h9 => h9) rfl dX9_findPath_54 ?_
              refine lv_iload hx hb dX9_findPath_57 (lv_at hl 1 rfl) ?_
              obtain ⟨hi, hwp⟩ := hwp
              refine va_iald hx hb hK hP 1 0 rfl rfl hi dX9_findPath_59 ?_
              refine lv_topi (fun v60 ev60 => ?_)
              replace hwp := hwp v60 ev60
              clear ev60
              refine lv_istore (lv' := [(7, .int v60), (6, .int t46_3), (5, .int t46_2), (0, .ref h0), (1, .int p0), (2, .int p1), (3, .int p2), (4, .int p3)]) hx hb dX9_findPath_60 hl (by decide) rfl (fun ls hl => ?_)
              refine lv_iinc (v := (t46_2 + 1)) (lv' := [(5, .int (t46_2 + 1)), (7, .int v60), (6, .int t46_3), (0, .ref h0), (1, .int p0), (2, .int p1), (3, .int p2), (4, .int p3)]) hx hb dX9_findPath_62 hl (k := 2) rfl rfl (by decide) rfl (fun ls hl => ?_)
              refine lv_iconst (v := 0) hx hb dX9_findPath_65 (by decide) ?_
              refine lv_istore (lv' := [(8, .int 0), (5, .int (t46_2 + 1)), (7, .int v60), (6, .int t46_3), (0, .ref h0), (1, .int p0), (2, .int p1), (3, .int p2), (4, .int p3)]) hx hb dX9_findPath_66 hl (by decide) rfl (fun ls hl => ?_)
              replace hl : lv_has ls 10 [(8, .int 0), (5, .int (t46_2 + 1)), (7, .int v60), (6, .int t46_3), (0, .ref h0), (1, .int p0), (2, .int p1), (3, .int p2), (4, .int p3)] := lv_sub hl [0, 1, 2, 3, 4, 5, 6, 7, 8] rfl
              obtain ⟨n3, hwp⟩ := hwp
              have hs3 : ∀ (n3 : Nat) (H : Heap) (locs : List Loc) (ls : Array Slot) (t68_0 : Nat → Int32) (t68_1 : Nat → Int32) (t68_2 : Int32) (t68_3 : Int32), wLX9_findPath_68 i0 i1 i2 i3 i4 i5 i6 i7 i8 i9 i10 i11 i12 i13 i14 i15 i16 i17 f20 f21 p0 p1 p2 p3 t46_2 v60 K (fun z0 z1 z2 z3 => wLX9_findPath_46 i0 i1 i2 i3 i4 i5 i6 i7 i8 i9 i10 i11 i12 i13 i14 i15 i16 i17 f20 f21 p0 p1 p2 p3 K  n2 z0 z1 z2 z3) n3 t68_0 t68_1 t68_2 t68_3 → va_P G vwCl [(h0, .inr (9, [.int i0, .int i1, .ref k0, .ref k1, .ref k2, .ref k3, .ref k4, .int i2, .ref k5, .int i3, .ref k6, .ref k7, .ref k8, .int i4, .ref h3, .ref k9, .int i5, .ref k10, .ref k11, .ref k12, .int i6, .ref h4, .int i7, .ref h2, .ref h1, .int i8, .int i9, .int i10, .ref k13, .int i11, .ref k14, .ref k15, .ref k16, .ref k17, .ref k18, .ref k19, .ref k20, .ref k21, .ref k22, .ref k23, .ref k24, .ref k25, .ref k26, .ref k27, .ref k28, .int i12, .int i13, .int i14, .int i15, .int i16, .ref k29, .ref k30, .ref k31, .ref k32, .ref k33, .ref k34, .int i17, .ref k35])), (h1, aI cI 21 t68_0), (h2, aI cI 21 t68_1), (h3, aI cI 21 f20), (h4, aI cI 24 f21)] H → va_D A [(h0, .inr (9, [.int i0, .int i1, .ref k0, .ref k1, .ref k2, .ref k3, .ref k4, .int i2, .ref k5, .int i3, .ref k6, .ref k7, .ref k8, .int i4, .ref h3, .ref k9, .int i5, .ref k10, .ref k11, .ref k12, .int i6, .ref h4, .int i7, .ref h2, .ref h1, .int i8, .int i9, .int i10, .ref k13, .int i11, .ref k14, .ref k15, .ref k16, .ref k17, .ref k18, .ref k19, .ref k20, .ref k21, .ref k22, .ref k23, .ref k24, .ref k25, .ref k26, .ref k27, .ref k28, .int i12, .int i13, .int i14, .int i15, .int i16, .ref k29, .ref k30, .ref k31, .ref k32, .ref k33, .ref k34, .int i17, .ref k35])), (h1, aI cI 21 t68_0), (h2, aI cI 21 t68_1), (h3, aI cI 21 f20), (h4, aI cI 24 f21)] → va_S A s.heap H locs → lv_has ls 10 [(8, .int t68_3), (5, .int (t46_2 + 1)), (7, .int v60), (6, .int t68_2), (0, .ref h0), (1, .int p0), (2, .int p1), (3, .int p2), (4, .int p3)] → W p l e ((headSpec (xw yX9_findPath cX9_findPath 10 (some .boolean)) { frames := 1, cells := 0, slots := 0, locals := 25 }).room) s m ([.ref h0, .int p0, .int p1, .int p2, .int p3] : List Value).toArray below meth c H locs 0 0 QQ (F0 m 68 ls []) := by
                intro n3
                induction n3 with
                | zero => intro H locs ls t68_0 t68_1 t68_2 t68_3 hwp; exact False.elim hwp
                | succ n3 ih3 =>
                  intro H locs ls t68_0 t68_1 t68_2 t68_3 hwp hP hD hS hl
                  rw [wLX9_findPath_68] at hwp
                  refine lv_iload hx hb dX9_findPath_68 (lv_at hl 0 rfl) ?_
                  refine lv_aload_n hx hb dX9_findPath_70 rfl (lv_at hl 4 rfl) ?_
                  refine va_get (D := G) (ci := 9) (v := .int i3) (C := RX9) (T := TX9) (N := 58) hx hb hts xinX9 hown hK hP 0 rfl rfl 9 (by decide) (hts _ wo_444) (fun _ h9 => h9) rfl dX9_findPath_71 ?_
                  refine lv_icmp_ge (tgt := 192) hx hb dX9_findPath_74 (by decide) (fun c74 => ?_) (fun c74 => ?_)
                  · replace hwp := hwp.1 c74
                    refine lv_goto (tgt := 46) hx hb dX9_findPath_192 (by decide) ?_
                    replace hl : lv_has ls 10 [(6, .int t68_2), (5, .int (t46_2 + 1)), (0, .ref h0), (1, .int p0), (2, .int p1), (3, .int p2), (4, .int p3)] := lv_sub hl [3, 1, 4, 5, 6, 7, 8] rfl
                    exact ih2 H locs ls t68_0 t68_1 (t46_2 + 1) t68_2 hwp hP hD hS hl
                  · replace hwp := hwp.2 c74
                    refine lv_aload_n hx hb dX9_findPath_77 rfl (lv_at hl 4 rfl) ?_
                    refine va_get (D := G) (ci := 9) (v := .ref h3) (C := RX9) (T := TX9) (N := 58) hx hb hts xinX9 hown hK hP 0 rfl rfl 14 (by decide) (hts _ wo_467) (fun _ h9 => h9) rfl dX9_findPath_78 ?_
                    refine lv_iload hx hb dX9_findPath_81 (lv_at hl 2 rfl) ?_
                    obtain ⟨hi, hwp⟩ := hwp
                    refine va_iald hx hb hK hP 3 0 rfl rfl hi dX9_findPath_83 ?_
                    refine lv_iload hx hb dX9_findPath_84 (lv_at hl 0 rfl) ?_
                    refine lv_ishr hx hb dX9_findPath_86 ?_
                    refine lv_iconst (v := 1) hx hb dX9_findPath_87 (by decide) ?_
                    refine lv_iand hx hb dX9_findPath_88 ?_
                    refine lv_if_eq (tgt := 186) hx hb dX9_findPath_89 (by decide) (fun c89 => ?_) (fun c89 => ?_)
                    · replace hwp := hwp.1 c89
                      refine lv_iinc (v := (t68_3 + 1)) (lv' := [(8, .int (t68_3 + 1)), (5, .int (t46_2 + 1)), (7, .int v60), (6, .int t68_2), (0, .ref h0), (1, .int p0), (2, .int p1), (3, .int p2), (4, .int p3)]) hx hb dX9_findPath_186 hl (k := 0) rfl rfl (by decide) rfl (fun ls hl => ?_)
                      refine lv_goto (tgt := 68) hx hb dX9_findPath_189 (by decide) ?_
                      replace hl : lv_has ls 10 [(8, .int (t68_3 + 1)), (5, .int (t46_2 + 1)), (7, .int v60), (6, .int t68_2), (0, .ref h0), (1, .int p0), (2, .int p1), (3, .int p2), (4, .int p3)] := lv_sub hl [0, 1, 2, 3, 4, 5, 6, 7, 8] rfl
                      exact ih3 H locs ls t68_0 t68_1 t68_2 (t68_3 + 1) hwp hP hD hS hl
                    · replace hwp := hwp.2 c89
                      refine lv_aload_n hx hb dX9_findPath_92 rfl (lv_at hl 4 rfl) ?_
                      refine va_get (D := G) (ci := 9) (v := .ref h2) (C := RX9) (T := TX9) (N := 58) hx hb hts xinX9 hown hK hP 0 rfl rfl 23 (by decide) (hts _ wo_465) (fun _ h9 => h9) rfl dX9_findPath_93 ?_
                      refine lv_iload hx hb dX9_findPath_96 (lv_at hl 0 rfl) ?_
                      obtain ⟨hi, hwp⟩ := hwp
                      refine va_iald hx hb hK hP 2 0 rfl rfl hi dX9_findPath_98 ?_
                      refine lv_if_ge (tgt := 186) hx hb dX9_findPath_99 (by decide) (fun c99 => ?_) (fun c99 => ?_)
                      · replace hwp := hwp.1 c99
                        refine lv_iinc (v := (t68_3 + 1)) (lv' := [(8, .int (t68_3 + 1)), (5, .int (t46_2 + 1)), (7, .int v60), (6, .int t68_2), (0, .ref h0), (1, .int p0), (2, .int p1), (3, .int p2), (4, .int p3)]) hx hb dX9_findPath_186 hl (k := 0) rfl rfl (by decide) rfl (fun ls hl => ?_)
                        refine lv_goto (tgt := 68) hx hb dX9_findPath_189 (by decide) ?_
                        replace hl : lv_has ls 10 [(8, .int (t68_3 + 1)), (5, .int (t46_2 + 1)), (7, .int v60), (6, .int t68_2), (0, .ref h0), (1, .int p0), (2, .int p1), (3, .int p2), (4, .int p3)] := lv_sub hl [0, 1, 2, 3, 4, 5, 6, 7, 8] rfl
                        exact ih3 H locs ls t68_0 t68_1 t68_2 (t68_3 + 1) hwp hP hD hS hl
                      · replace hwp := hwp.2 c99
                        refine lv_iload hx hb dX9_findPath_102 (lv_at hl 2 rfl) ?_
                        refine lv_iload_n hx hb dX9_findPath_104 rfl (lv_at hl 5 rfl) ?_
                        refine lv_icmp_ne (tgt := 118) hx hb dX9_findPath_105 (by decide) (fun c105 => ?_) (fun c105 => ?_)
                        · replace hwp := hwp.1 c105
                          refine lv_iload_n hx hb dX9_findPath_118 rfl (lv_at hl 7 rfl) ?_
                          refine lv_iload hx hb dX9_findPath_119 (lv_at hl 0 rfl) ?_
                          refine lv_ishr hx hb dX9_findPath_121 ?_
                          refine lv_iconst (v := 1) hx hb dX9_findPath_122 (by decide) ?_
                          refine lv_iand hx hb dX9_findPath_123 ?_
                          refine lv_iconst (v := 1) hx hb dX9_findPath_124 (by decide) ?_
                          refine lv_icmp_ne (tgt := 132) hx hb dX9_findPath_125 (by decide) (fun c125 => ?_) (fun c125 => ?_)
                          · replace hwp := hwp.1 c125
                            refine lv_iconst (v := 0) hx hb dX9_findPath_132 (by decide) ?_
                            refine lv_istore (lv' := [(9, .int 0), (8, .int t68_3), (5, .int (t46_2 + 1)), (7, .int v60), (6, .int t68_2), (0, .ref h0), (1, .int p0), (2, .int p1), (3, .int p2), (4, .int p3)]) hx hb dX9_findPath_133 hl (by decide) rfl (fun ls hl => ?_)
                            refine lv_iload hx hb dX9_findPath_135 (lv_at hl 0 rfl) ?_
                            refine lv_if_ne (tgt := 152) hx hb dX9_findPath_137 (by decide) (fun c137 => ?_) (fun c137 => ?_)
                            · exact absurd c137 (by decide)
                            refine lv_iload_n hx hb dX9_findPath_140 rfl (lv_at hl 7 rfl) ?_
                            refine lv_iload hx hb dX9_findPath_141 (lv_at hl 1 rfl) ?_
                            refine lv_ishr hx hb dX9_findPath_143 ?_
                            refine lv_iconst (v := 1) hx hb dX9_findPath_144 (by decide) ?_
                            refine lv_iand hx hb dX9_findPath_145 ?_
                            refine lv_if_ne (tgt := 152) hx hb dX9_findPath_146 (by decide) (fun c146 => ?_) (fun c146 => ?_)
                            · replace hwp := hwp.1 c146
                              refine lv_aload_n hx hb dX9_findPath_152 rfl (lv_at hl 5 rfl) ?_
                              refine va_get (D := G) (ci := 9) (v := .ref h2) (C := RX9) (T := TX9) (N := 58) hx hb hts xinX9 hown hK hP 0 rfl rfl 23 (by decide) (hts _ wo_465) (fun _ h9 => h9) rfl dX9_findPath_153 ?_
                              refine lv_iload hx hb dX9_findPath_156 (lv_at hl 1 rfl) ?_
                              refine lv_iload hx hb dX9_findPath_158 (lv_at hl 3 rfl) ?_
                              obtain ⟨hi, hwp⟩ := hwp
                              refine va_iast hx hb hK hP hD hS 2 0 rfl rfl hi dX9_findPath_160 (fun H locs hP hD hS => ?_)
                              obtain ⟨g160, eg160⟩ : ∃ z, z = upd t68_1 (Int32.toNatClampNeg t68_3) v60 := ⟨_, rfl⟩
                              replace hwp := hwp g160 eg160
                              replace hP : va_P G vwCl [(h0, .inr (9, [.int i0, .int i1, .ref k0, .ref k1, .ref k2, .ref k3, .ref k4, .int i2, .ref k5, .int i3, .ref k6, .ref k7, .ref k8, .int i4, .ref h3, .ref k9, .int i5, .ref k10, .ref k11, .ref k12, .int i6, .ref h4, .int i7, .ref h2, .ref h1, .int i8, .int i9, .int i10, .ref k13, .int i11, .ref k14, .ref k15, .ref k16, .ref k17, .ref k18, .ref k19, .ref k20, .ref k21, .ref k22, .ref k23, .ref k24, .ref k25, .ref k26, .ref k27, .ref k28, .int i12, .int i13, .int i14, .int i15, .int i16, .ref k29, .ref k30, .ref k31, .ref k32, .ref k33, .ref k34, .int i17, .ref k35])), (h1, aI cI 21 t68_0), (h2, aI cI 21 g160), (h3, aI cI 21 f20), (h4, aI cI 24 f21)] H := by rw [eg160]; exact hP
                              replace hD : va_D A [(h0, .inr (9, [.int i0, .int i1, .ref k0, .ref k1, .ref k2, .ref k3, .ref k4, .int i2, .ref k5, .int i3, .ref k6, .ref k7, .ref k8, .int i4, .ref h3, .ref k9, .int i5, .ref k10, .ref k11, .ref k12, .int i6, .ref h4, .int i7, .ref h2, .ref h1, .int i8, .int i9, .int i10, .ref k13, .int i11, .ref k14, .ref k15, .ref k16, .ref k17, .ref k18, .ref k19, .ref k20, .ref k21, .ref k22, .ref k23, .ref k24, .ref k25, .ref k26, .ref k27, .ref k28, .int i12, .int i13, .int i14, .int i15, .int i16, .ref k29, .ref k30, .ref k31, .ref k32, .ref k33, .ref k34, .int i17, .ref k35])), (h1, aI cI 21 t68_0), (h2, aI cI 21 g160), (h3, aI cI 21 f20), (h4, aI cI 24 f21)] := by rw [eg160]; exact hD
                              clear eg160
                              refine lv_iload hx hb dX9_findPath_161 (lv_at hl 0 rfl) ?_
                              refine lv_if_eq (tgt := 174) hx hb dX9_findPath_163 (by decide) (fun c163 => ?_) (fun c163 => ?_)
                              rotate_left
                              · exact absurd c163 (by decide)
                              refine lv_aload_n hx hb dX9_findPath_174 rfl (lv_at hl 5 rfl) ?_
                              refine va_get (D := G) (ci := 9) (v := .ref h1) (C := RX9) (T := TX9) (N := 58) hx hb hts xinX9 hown hK hP 0 rfl rfl 24 (by decide) (hts _ wo_466) (fun _ h9 => h9) rfl dX9_findPath_175 ?_
                              refine lv_iload hx hb dX9_findPath_178 (lv_at hl 4 rfl) ?_
                              refine lv_iload hx hb dX9_findPath_180 (lv_at hl 1 rfl) ?_
                              obtain ⟨hi, hwp⟩ := hwp
                              refine va_iast hx hb hK hP hD hS 1 0 rfl rfl hi dX9_findPath_182 (fun H locs hP hD hS => ?_)
                              obtain ⟨g182, eg182⟩ : ∃ z, z = upd t68_0 (Int32.toNatClampNeg t68_2) t68_3 := ⟨_, rfl⟩
                              replace hwp := hwp g182 eg182
                              replace hP : va_P G vwCl [(h0, .inr (9, [.int i0, .int i1, .ref k0, .ref k1, .ref k2, .ref k3, .ref k4, .int i2, .ref k5, .int i3, .ref k6, .ref k7, .ref k8, .int i4, .ref h3, .ref k9, .int i5, .ref k10, .ref k11, .ref k12, .int i6, .ref h4, .int i7, .ref h2, .ref h1, .int i8, .int i9, .int i10, .ref k13, .int i11, .ref k14, .ref k15, .ref k16, .ref k17, .ref k18, .ref k19, .ref k20, .ref k21, .ref k22, .ref k23, .ref k24, .ref k25, .ref k26, .ref k27, .ref k28, .int i12, .int i13, .int i14, .int i15, .int i16, .ref k29, .ref k30, .ref k31, .ref k32, .ref k33, .ref k34, .int i17, .ref k35])), (h1, aI cI 21 g182), (h2, aI cI 21 g160), (h3, aI cI 21 f20), (h4, aI cI 24 f21)] H := by rw [eg182]; exact hP
                              replace hD : va_D A [(h0, .inr (9, [.int i0, .int i1, .ref k0, .ref k1, .ref k2, .ref k3, .ref k4, .int i2, .ref k5, .int i3, .ref k6, .ref k7, .ref k8, .int i4, .ref h3, .ref k9, .int i5, .ref k10, .ref k11, .ref k12, .int i6, .ref h4, .int i7, .ref h2, .ref h1, .int i8, .int i9, .int i10, .ref k13, .int i11, .ref k14, .ref k15, .ref k16, .ref k17, .ref k18, .ref k19, .ref k20, .ref k21, .ref k22, .ref k23, .ref k24, .ref k25, .ref k26, .ref k27, .ref k28, .int i12, .int i13, .int i14, .int i15, .int i16, .ref k29, .ref k30, .ref k31, .ref k32, .ref k33, .ref k34, .int i17, .ref k35])), (h1, aI cI 21 g182), (h2, aI cI 21 g160), (h3, aI cI 21 f20), (h4, aI cI 24 f21)] := by rw [eg182]; exact hD
                              clear eg182
                              refine lv_iinc (v := (t68_2 + 1)) (lv' := [(6, .int (t68_2 + 1)), (9, .int 0), (8, .int t68_3), (5, .int (t46_2 + 1)), (7, .int v60), (0, .ref h0), (1, .int p0), (2, .int p1), (3, .int p2), (4, .int p3)]) hx hb dX9_findPath_183 hl (k := 4) rfl rfl (by decide) rfl (fun ls hl => ?_)
                              refine lv_iinc (v := (t68_3 + 1)) (lv' := [(8, .int (t68_3 + 1)), (6, .int (t68_2 + 1)), (9, .int 0), (5, .int (t46_2 + 1)), (7, .int v60), (0, .ref h0), (1, .int p0), (2, .int p1), (3, .int p2), (4, .int p3)]) hx hb dX9_findPath_186 hl (k := 2) rfl rfl (by decide) rfl (fun ls hl => ?_)
                              refine lv_goto (tgt := 68) hx hb dX9_findPath_189 (by decide) ?_
                              replace hl : lv_has ls 10 [(8, .int (t68_3 + 1)), (5, .int (t46_2 + 1)), (7, .int v60), (6, .int (t68_2 + 1)), (0, .ref h0), (1, .int p0), (2, .int p1), (3, .int p2), (4, .int p3)] := lv_sub hl [0, 3, 4, 1, 5, 6, 7, 8, 9] rfl
                              exact ih3 H locs ls g182 g160 (t68_2 + 1) (t68_3 + 1) hwp hP hD hS hl
                            · replace hwp := hwp.2 c146
                              refine lv_goto (tgt := 186) hx hb dX9_findPath_149 (by decide) ?_
                              refine lv_iinc (v := (t68_3 + 1)) (lv' := [(8, .int (t68_3 + 1)), (9, .int 0), (5, .int (t46_2 + 1)), (7, .int v60), (6, .int t68_2), (0, .ref h0), (1, .int p0), (2, .int p1), (3, .int p2), (4, .int p3)]) hx hb dX9_findPath_186 hl (k := 1) rfl rfl (by decide) rfl (fun ls hl => ?_)
                              refine lv_goto (tgt := 68) hx hb dX9_findPath_189 (by decide) ?_
                              replace hl : lv_has ls 10 [(8, .int (t68_3 + 1)), (5, .int (t46_2 + 1)), (7, .int v60), (6, .int t68_2), (0, .ref h0), (1, .int p0), (2, .int p1), (3, .int p2), (4, .int p3)] := lv_sub hl [0, 2, 3, 4, 5, 6, 7, 8, 9] rfl
                              exact ih3 H locs ls t68_0 t68_1 t68_2 (t68_3 + 1) hwp hP hD hS hl
                          · replace hwp := hwp.2 c125
                            refine lv_iconst (v := 1) hx hb dX9_findPath_128 (by decide) ?_
                            refine lv_goto (tgt := 133) hx hb dX9_findPath_129 (by decide) ?_
                            refine lv_istore (lv' := [(9, .int 1), (8, .int t68_3), (5, .int (t46_2 + 1)), (7, .int v60), (6, .int t68_2), (0, .ref h0), (1, .int p0), (2, .int p1), (3, .int p2), (4, .int p3)]) hx hb dX9_findPath_133 hl (by decide) rfl (fun ls hl => ?_)
                            refine lv_iload hx hb dX9_findPath_135 (lv_at hl 0 rfl) ?_
                            refine lv_if_ne (tgt := 152) hx hb dX9_findPath_137 (by decide) (fun c137 => ?_) (fun c137 => ?_)
                            rotate_left
                            · exact absurd c137 (by decide)
                            refine lv_aload_n hx hb dX9_findPath_152 rfl (lv_at hl 5 rfl) ?_
                            refine va_get (D := G) (ci := 9) (v := .ref h2) (C := RX9) (T := TX9) (N := 58) hx hb hts xinX9 hown hK hP 0 rfl rfl 23 (by decide) (hts _ wo_465) (fun _ h9 => h9) rfl dX9_findPath_153 ?_
                            refine lv_iload hx hb dX9_findPath_156 (lv_at hl 1 rfl) ?_
                            refine lv_iload hx hb dX9_findPath_158 (lv_at hl 3 rfl) ?_
                            obtain ⟨hi, hwp⟩ := hwp
                            refine va_iast hx hb hK hP hD hS 2 0 rfl rfl hi dX9_findPath_160 (fun H locs hP hD hS => ?_)
                            obtain ⟨g160, eg160⟩ : ∃ z, z = upd t68_1 (Int32.toNatClampNeg t68_3) v60 := ⟨_, rfl⟩
                            replace hwp := hwp g160 eg160
                            replace hP : va_P G vwCl [(h0, .inr (9, [.int i0, .int i1, .ref k0, .ref k1, .ref k2, .ref k3, .ref k4, .int i2, .ref k5, .int i3, .ref k6, .ref k7, .ref k8, .int i4, .ref h3, .ref k9, .int i5, .ref k10, .ref k11, .ref k12, .int i6, .ref h4, .int i7, .ref h2, .ref h1, .int i8, .int i9, .int i10, .ref k13, .int i11, .ref k14, .ref k15, .ref k16, .ref k17, .ref k18, .ref k19, .ref k20, .ref k21, .ref k22, .ref k23, .ref k24, .ref k25, .ref k26, .ref k27, .ref k28, .int i12, .int i13, .int i14, .int i15, .int i16, .ref k29, .ref k30, .ref k31, .ref k32, .ref k33, .ref k34, .int i17, .ref k35])), (h1, aI cI 21 t68_0), (h2, aI cI 21 g160), (h3, aI cI 21 f20), (h4, aI cI 24 f21)] H := by rw [eg160]; exact hP
                            replace hD : va_D A [(h0, .inr (9, [.int i0, .int i1, .ref k0, .ref k1, .ref k2, .ref k3, .ref k4, .int i2, .ref k5, .int i3, .ref k6, .ref k7, .ref k8, .int i4, .ref h3, .ref k9, .int i5, .ref k10, .ref k11, .ref k12, .int i6, .ref h4, .int i7, .ref h2, .ref h1, .int i8, .int i9, .int i10, .ref k13, .int i11, .ref k14, .ref k15, .ref k16, .ref k17, .ref k18, .ref k19, .ref k20, .ref k21, .ref k22, .ref k23, .ref k24, .ref k25, .ref k26, .ref k27, .ref k28, .int i12, .int i13, .int i14, .int i15, .int i16, .ref k29, .ref k30, .ref k31, .ref k32, .ref k33, .ref k34, .int i17, .ref k35])), (h1, aI cI 21 t68_0), (h2, aI cI 21 g160), (h3, aI cI 21 f20), (h4, aI cI 24 f21)] := by rw [eg160]; exact hD
                            clear eg160
                            refine lv_iload hx hb dX9_findPath_161 (lv_at hl 0 rfl) ?_
                            refine lv_if_eq (tgt := 174) hx hb dX9_findPath_163 (by decide) (fun c163 => ?_) (fun c163 => ?_)
                            · exact absurd c163 (by decide)
                            refine lv_aload_n hx hb dX9_findPath_166 rfl (lv_at hl 5 rfl) ?_
                            refine lv_iload hx hb dX9_findPath_167 (lv_at hl 1 rfl) ?_
                            refine lv_iload_n hx hb dX9_findPath_169 rfl (lv_at hl 6 rfl) ?_
                            refine xci (wr := [(h1, aI cI 21 t68_0), (h3, aI cI 21 f20)]) (va_runV (As := [.int t68_3, .int p0]) (rest := []) ⟨hx, hb, hml, hown, hts⟩ (zX9_back l G cI cJ cZ h0 h4 h2 k0 k1 k2 k3 k4 k5 k6 k7 k8 h3 k9 k10 k11 k12 h1 k13 k14 k15 k16 k17 k18 k19 k20 k21 k22 k23 k24 k25 k26 k27 k28 k29 k30 k31 k32 k33 k34 k35 H.size i0 i1 i2 i3 i4 i5 i6 i7 i8 i9 i10 i11 i12 i13 i14 i15 i16 i17 f21 g160 t68_3 p0 _ hwp) (cwV 2 hts (xgoodV wo_468 wo_469 wo_470 wo_471 wo_454) rfl rfl rfl (by decide +kernel) ⟨Nat.le_of_ble_eq_true rfl, Nat.le_of_ble_eq_true rfl⟩) (xPreV (q := (RX9, TX9, 58)) (q0 := 0) hK hN hP hD [0, 4, 2] (by decide) rfl rfl rfl) rfl rfl hl.1 rfl (lv_room (Nat.le_of_ble_eq_true rfl)) dX9_findPath_170 ⟨Nat.le_of_ble_eq_true rfl, Nat.le_of_ble_eq_true rfl⟩) hP hD hS hA [0, 4, 2] [1, 3] rfl rfl (by decide) (by decide) (fun r170 u170 H locs hwp hP hD hS => ?_)
                            replace hP : va_P G vwCl [(h1, aI cI 21 t68_0), (h3, aI cI 21 f20), (h0, .inr (9, [.int i0, .int i1, .ref k0, .ref k1, .ref k2, .ref k3, .ref k4, .int i2, .ref k5, .int i3, .ref k6, .ref k7, .ref k8, .int i4, .ref h3, .ref k9, .int i5, .ref k10, .ref k11, .ref k12, .int i6, .ref h4, .int u170.1, .ref h2, .ref h1, .int i8, .int i9, .int i10, .ref k13, .int i11, .ref k14, .ref k15, .ref k16, .ref k17, .ref k18, .ref k19, .ref k20, .ref k21, .ref k22, .ref k23, .ref k24, .ref k25, .ref k26, .ref k27, .ref k28, .int i12, .int i13, .int i14, .int i15, .int i16, .ref k29, .ref k30, .ref k31, .ref k32, .ref k33, .ref k34, .int i17, .ref k35])), (h4, aI cI 24 u170.2), (h2, aI cI 21 g160)] H := hP
                            replace hD : va_D A [(h1, aI cI 21 t68_0), (h3, aI cI 21 f20), (h0, .inr (9, [.int i0, .int i1, .ref k0, .ref k1, .ref k2, .ref k3, .ref k4, .int i2, .ref k5, .int i3, .ref k6, .ref k7, .ref k8, .int i4, .ref h3, .ref k9, .int i5, .ref k10, .ref k11, .ref k12, .int i6, .ref h4, .int u170.1, .ref h2, .ref h1, .int i8, .int i9, .int i10, .ref k13, .int i11, .ref k14, .ref k15, .ref k16, .ref k17, .ref k18, .ref k19, .ref k20, .ref k21, .ref k22, .ref k23, .ref k24, .ref k25, .ref k26, .ref k27, .ref k28, .int i12, .int i13, .int i14, .int i15, .int i16, .ref k29, .ref k30, .ref k31, .ref k32, .ref k33, .ref k34, .int i17, .ref k35])), (h4, aI cI 24 u170.2), (h2, aI cI 21 g160)] := hD
                            obtain ⟨hi, hwp⟩ := hwp
                            have hP9 : va_P G vwCl [(h0, .inr (9, [.int i0, .int i1, .ref k0, .ref k1, .ref k2, .ref k3, .ref k4, .int i2, .ref k5, .int i3, .ref k6, .ref k7, .ref k8, .int i4, .ref h3, .ref k9, .int i5, .ref k10, .ref k11, .ref k12, .int i6, .ref h4, .int u170.1, .ref h2, .ref h1, .int i8, .int i9, .int i10, .ref k13, .int i11, .ref k14, .ref k15, .ref k16, .ref k17, .ref k18, .ref k19, .ref k20, .ref k21, .ref k22, .ref k23, .ref k24, .ref k25, .ref k26, .ref k27, .ref k28, .int i12, .int i13, .int i14, .int i15, .int i16, .ref k29, .ref k30, .ref k31, .ref k32, .ref k33, .ref k34, .int i17, .ref k35])), (h1, aI cI 21 t68_0), (h2, aI cI 21 g160), (h3, aI cI 21 f20), (h4, aI cI 24 u170.2)] H := hP.sub [2, 0, 4, 1, 3] rfl
                            have hD9 : va_D A [(h0, .inr (9, [.int i0, .int i1, .ref k0, .ref k1, .ref k2, .ref k3, .ref k4, .int i2, .ref k5, .int i3, .ref k6, .ref k7, .ref k8, .int i4, .ref h3, .ref k9, .int i5, .ref k10, .ref k11, .ref k12, .int i6, .ref h4, .int u170.1, .ref h2, .ref h1, .int i8, .int i9, .int i10, .ref k13, .int i11, .ref k14, .ref k15, .ref k16, .ref k17, .ref k18, .ref k19, .ref k20, .ref k21, .ref k22, .ref k23, .ref k24, .ref k25, .ref k26, .ref k27, .ref k28, .int i12, .int i13, .int i14, .int i15, .int i16, .ref k29, .ref k30, .ref k31, .ref k32, .ref k33, .ref k34, .int i17, .ref k35])), (h1, aI cI 21 t68_0), (h2, aI cI 21 g160), (h3, aI cI 21 f20), (h4, aI cI 24 u170.2)] := hD.sub [2, 0, 4, 1, 3] (by decide) rfl
                            rw [← hQQ]
                            exact W.zret (v := r170) hx hb hr hi (fun t ht hW => ⟨⟨_, (u170.1, t68_0, g160, u170.2), rfl, hwp, by rw [ht]; exact hP9, hD9⟩, hS.F ht⟩) hS.2.2 dX9_findPath_173
                        · replace hwp := hwp.2 c105
                          refine lv_iload hx hb dX9_findPath_108 (lv_at hl 0 rfl) ?_
                          refine lv_iload hx hb dX9_findPath_110 (lv_at hl 8 rfl) ?_
                          refine lv_icmp_ne (tgt := 118) hx hb dX9_findPath_112 (by decide) (fun c112 => ?_) (fun c112 => ?_)
                          · replace hwp := hwp.1 c112
                            refine lv_iload_n hx hb dX9_findPath_118 rfl (lv_at hl 7 rfl) ?_
                            refine lv_iload hx hb dX9_findPath_119 (lv_at hl 0 rfl) ?_
                            refine lv_ishr hx hb dX9_findPath_121 ?_
                            refine lv_iconst (v := 1) hx hb dX9_findPath_122 (by decide) ?_
                            refine lv_iand hx hb dX9_findPath_123 ?_
                            refine lv_iconst (v := 1) hx hb dX9_findPath_124 (by decide) ?_
                            refine lv_icmp_ne (tgt := 132) hx hb dX9_findPath_125 (by decide) (fun c125 => ?_) (fun c125 => ?_)
                            · replace hwp := hwp.1 c125
                              refine lv_iconst (v := 0) hx hb dX9_findPath_132 (by decide) ?_
                              refine lv_istore (lv' := [(9, .int 0), (8, .int t68_3), (5, .int (t46_2 + 1)), (7, .int v60), (6, .int t68_2), (0, .ref h0), (1, .int p0), (2, .int p1), (3, .int p2), (4, .int p3)]) hx hb dX9_findPath_133 hl (by decide) rfl (fun ls hl => ?_)
                              refine lv_iload hx hb dX9_findPath_135 (lv_at hl 0 rfl) ?_
                              refine lv_if_ne (tgt := 152) hx hb dX9_findPath_137 (by decide) (fun c137 => ?_) (fun c137 => ?_)
                              · exact absurd c137 (by decide)
                              refine lv_iload_n hx hb dX9_findPath_140 rfl (lv_at hl 7 rfl) ?_
                              refine lv_iload hx hb dX9_findPath_141 (lv_at hl 1 rfl) ?_
                              refine lv_ishr hx hb dX9_findPath_143 ?_
                              refine lv_iconst (v := 1) hx hb dX9_findPath_144 (by decide) ?_
                              refine lv_iand hx hb dX9_findPath_145 ?_
                              refine lv_if_ne (tgt := 152) hx hb dX9_findPath_146 (by decide) (fun c146 => ?_) (fun c146 => ?_)
                              · replace hwp := hwp.1 c146
                                refine lv_aload_n hx hb dX9_findPath_152 rfl (lv_at hl 5 rfl) ?_
                                refine va_get (D := G) (ci := 9) (v := .ref h2) (C := RX9) (T := TX9) (N := 58) hx hb hts xinX9 hown hK hP 0 rfl rfl 23 (by decide) (hts _ wo_465) (fun _ h9 => h9) rfl dX9_findPath_153 ?_
                                refine lv_iload hx hb dX9_findPath_156 (lv_at hl 1 rfl) ?_
                                refine lv_iload hx hb dX9_findPath_158 (lv_at hl 3 rfl) ?_
                                obtain ⟨hi, hwp⟩ := hwp
                                refine va_iast hx hb hK hP hD hS 2 0 rfl rfl hi dX9_findPath_160 (fun H locs hP hD hS => ?_)
                                obtain ⟨g160, eg160⟩ : ∃ z, z = upd t68_1 (Int32.toNatClampNeg t68_3) v60 := ⟨_, rfl⟩
                                replace hwp := hwp g160 eg160
                                replace hP : va_P G vwCl [(h0, .inr (9, [.int i0, .int i1, .ref k0, .ref k1, .ref k2, .ref k3, .ref k4, .int i2, .ref k5, .int i3, .ref k6, .ref k7, .ref k8, .int i4, .ref h3, .ref k9, .int i5, .ref k10, .ref k11, .ref k12, .int i6, .ref h4, .int i7, .ref h2, .ref h1, .int i8, .int i9, .int i10, .ref k13, .int i11, .ref k14, .ref k15, .ref k16, .ref k17, .ref k18, .ref k19, .ref k20, .ref k21, .ref k22, .ref k23, .ref k24, .ref k25, .ref k26, .ref k27, .ref k28, .int i12, .int i13, .int i14, .int i15, .int i16, .ref k29, .ref k30, .ref k31, .ref k32, .ref k33, .ref k34, .int i17, .ref k35])), (h1, aI cI 21 t68_0), (h2, aI cI 21 g160), (h3, aI cI 21 f20), (h4, aI cI 24 f21)] H := by rw [eg160]; exact hP
                                replace hD : va_D A [(h0, .inr (9, [.int i0, .int i1, .ref k0, .ref k1, .ref k2, .ref k3, .ref k4, .int i2, .ref k5, .int i3, .ref k6, .ref k7, .ref k8, .int i4, .ref h3, .ref k9, .int i5, .ref k10, .ref k11, .ref k12, .int i6, .ref h4, .int i7, .ref h2, .ref h1, .int i8, .int i9, .int i10, .ref k13, .int i11, .ref k14, .ref k15, .ref k16, .ref k17, .ref k18, .ref k19, .ref k20, .ref k21, .ref k22, .ref k23, .ref k24, .ref k25, .ref k26, .ref k27, .ref k28, .int i12, .int i13, .int i14, .int i15, .int i16, .ref k29, .ref k30, .ref k31, .ref k32, .ref k33, .ref k34, .int i17, .ref k35])), (h1, aI cI 21 t68_0), (h2, aI cI 21 g160), (h3, aI cI 21 f20), (h4, aI cI 24 f21)] := by rw [eg160]; exact hD
                                clear eg160
                                refine lv_iload hx hb dX9_findPath_161 (lv_at hl 0 rfl) ?_
                                refine lv_if_eq (tgt := 174) hx hb dX9_findPath_163 (by decide) (fun c163 => ?_) (fun c163 => ?_)
                                rotate_left
                                · exact absurd c163 (by decide)
                                refine lv_aload_n hx hb dX9_findPath_174 rfl (lv_at hl 5 rfl) ?_
                                refine va_get (D := G) (ci := 9) (v := .ref h1) (C := RX9) (T := TX9) (N := 58) hx hb hts xinX9 hown hK hP 0 rfl rfl 24 (by decide) (hts _ wo_466) (fun _ h9 => h9) rfl dX9_findPath_175 ?_
                                refine lv_iload hx hb dX9_findPath_178 (lv_at hl 4 rfl) ?_
                                refine lv_iload hx hb dX9_findPath_180 (lv_at hl 1 rfl) ?_
                                obtain ⟨hi, hwp⟩ := hwp
                                refine va_iast hx hb hK hP hD hS 1 0 rfl rfl hi dX9_findPath_182 (fun H locs hP hD hS => ?_)
                                obtain ⟨g182, eg182⟩ : ∃ z, z = upd t68_0 (Int32.toNatClampNeg t68_2) t68_3 := ⟨_, rfl⟩
                                replace hwp := hwp g182 eg182
                                replace hP : va_P G vwCl [(h0, .inr (9, [.int i0, .int i1, .ref k0, .ref k1, .ref k2, .ref k3, .ref k4, .int i2, .ref k5, .int i3, .ref k6, .ref k7, .ref k8, .int i4, .ref h3, .ref k9, .int i5, .ref k10, .ref k11, .ref k12, .int i6, .ref h4, .int i7, .ref h2, .ref h1, .int i8, .int i9, .int i10, .ref k13, .int i11, .ref k14, .ref k15, .ref k16, .ref k17, .ref k18, .ref k19, .ref k20, .ref k21, .ref k22, .ref k23, .ref k24, .ref k25, .ref k26, .ref k27, .ref k28, .int i12, .int i13, .int i14, .int i15, .int i16, .ref k29, .ref k30, .ref k31, .ref k32, .ref k33, .ref k34, .int i17, .ref k35])), (h1, aI cI 21 g182), (h2, aI cI 21 g160), (h3, aI cI 21 f20), (h4, aI cI 24 f21)] H := by rw [eg182]; exact hP
                                replace hD : va_D A [(h0, .inr (9, [.int i0, .int i1, .ref k0, .ref k1, .ref k2, .ref k3, .ref k4, .int i2, .ref k5, .int i3, .ref k6, .ref k7, .ref k8, .int i4, .ref h3, .ref k9, .int i5, .ref k10, .ref k11, .ref k12, .int i6, .ref h4, .int i7, .ref h2, .ref h1, .int i8, .int i9, .int i10, .ref k13, .int i11, .ref k14, .ref k15, .ref k16, .ref k17, .ref k18, .ref k19, .ref k20, .ref k21, .ref k22, .ref k23, .ref k24, .ref k25, .ref k26, .ref k27, .ref k28, .int i12, .int i13, .int i14, .int i15, .int i16, .ref k29, .ref k30, .ref k31, .ref k32, .ref k33, .ref k34, .int i17, .ref k35])), (h1, aI cI 21 g182), (h2, aI cI 21 g160), (h3, aI cI 21 f20), (h4, aI cI 24 f21)] := by rw [eg182]; exact hD
                                clear eg182
                                refine lv_iinc (v := (t68_2 + 1)) (lv' := [(6, .int (t68_2 + 1)), (9, .int 0), (8, .int t68_3), (5, .int (t46_2 + 1)), (7, .int v60), (0, .ref h0), (1, .int p0), (2, .int p1), (3, .int p2), (4, .int p3)]) hx hb dX9_findPath_183 hl (k := 4) rfl rfl (by decide) rfl (fun ls hl => ?_)
                                refine lv_iinc (v := (t68_3 + 1)) (lv' := [(8, .int (t68_3 + 1)), (6, .int (t68_2 + 1)), (9, .int 0), (5, .int (t46_2 + 1)), (7, .int v60), (0, .ref h0), (1, .int p0), (2, .int p1), (3, .int p2), (4, .int p3)]) hx hb dX9_findPath_186 hl (k := 2) rfl rfl (by decide) rfl (fun ls hl => ?_)
                                refine lv_goto (tgt := 68) hx hb dX9_findPath_189 (by decide) ?_
                                replace hl : lv_has ls 10 [(8, .int (t68_3 + 1)), (5, .int (t46_2 + 1)), (7, .int v60), (6, .int (t68_2 + 1)), (0, .ref h0), (1, .int p0), (2, .int p1), (3, .int p2), (4, .int p3)] := lv_sub hl [0, 3, 4, 1, 5, 6, 7, 8, 9] rfl
                                exact ih3 H locs ls g182 g160 (t68_2 + 1) (t68_3 + 1) hwp hP hD hS hl
                              · replace hwp := hwp.2 c146
                                refine lv_goto (tgt := 186) hx hb dX9_findPath_149 (by decide) ?_
                                refine lv_iinc (v := (t68_3 + 1)) (lv' := [(8, .int (t68_3 + 1)), (9, .int 0), (5, .int (t46_2 + 1)), (7, .int v60), (6, .int t68_2), (0, .ref h0), (1, .int p0), (2, .int p1), (3, .int p2), (4, .int p3)]) hx hb dX9_findPath_186 hl (k := 1) rfl rfl (by decide) rfl (fun ls hl => ?_)
                                refine lv_goto (tgt := 68) hx hb dX9_findPath_189 (by decide) ?_
                                replace hl : lv_has ls 10 [(8, .int (t68_3 + 1)), (5, .int (t46_2 + 1)), (7, .int v60), (6, .int t68_2), (0, .ref h0), (1, .int p0), (2, .int p1), (3, .int p2), (4, .int p3)] := lv_sub hl [0, 2, 3, 4, 5, 6, 7, 8, 9] rfl
                                exact ih3 H locs ls t68_0 t68_1 t68_2 (t68_3 + 1) hwp hP hD hS hl
                            · replace hwp := hwp.2 c125
                              refine lv_iconst (v := 1) hx hb dX9_findPath_128 (by decide) ?_
                              refine lv_goto (tgt := 133) hx hb dX9_findPath_129 (by decide) ?_
                              refine lv_istore (lv' := [(9, .int 1), (8, .int t68_3), (5, .int (t46_2 + 1)), (7, .int v60), (6, .int t68_2), (0, .ref h0), (1, .int p0), (2, .int p1), (3, .int p2), (4, .int p3)]) hx hb dX9_findPath_133 hl (by decide) rfl (fun ls hl => ?_)
                              refine lv_iload hx hb dX9_findPath_135 (lv_at hl 0 rfl) ?_
                              refine lv_if_ne (tgt := 152) hx hb dX9_findPath_137 (by decide) (fun c137 => ?_) (fun c137 => ?_)
                              rotate_left
                              · exact absurd c137 (by decide)
                              refine lv_aload_n hx hb dX9_findPath_152 rfl (lv_at hl 5 rfl) ?_
                              refine va_get (D := G) (ci := 9) (v := .ref h2) (C := RX9) (T := TX9) (N := 58) hx hb hts xinX9 hown hK hP 0 rfl rfl 23 (by decide) (hts _ wo_465) (fun _ h9 => h9) rfl dX9_findPath_153 ?_
                              refine lv_iload hx hb dX9_findPath_156 (lv_at hl 1 rfl) ?_
                              refine lv_iload hx hb dX9_findPath_158 (lv_at hl 3 rfl) ?_
                              obtain ⟨hi, hwp⟩ := hwp
                              refine va_iast hx hb hK hP hD hS 2 0 rfl rfl hi dX9_findPath_160 (fun H locs hP hD hS => ?_)
                              obtain ⟨g160, eg160⟩ : ∃ z, z = upd t68_1 (Int32.toNatClampNeg t68_3) v60 := ⟨_, rfl⟩
                              replace hwp := hwp g160 eg160
                              replace hP : va_P G vwCl [(h0, .inr (9, [.int i0, .int i1, .ref k0, .ref k1, .ref k2, .ref k3, .ref k4, .int i2, .ref k5, .int i3, .ref k6, .ref k7, .ref k8, .int i4, .ref h3, .ref k9, .int i5, .ref k10, .ref k11, .ref k12, .int i6, .ref h4, .int i7, .ref h2, .ref h1, .int i8, .int i9, .int i10, .ref k13, .int i11, .ref k14, .ref k15, .ref k16, .ref k17, .ref k18, .ref k19, .ref k20, .ref k21, .ref k22, .ref k23, .ref k24, .ref k25, .ref k26, .ref k27, .ref k28, .int i12, .int i13, .int i14, .int i15, .int i16, .ref k29, .ref k30, .ref k31, .ref k32, .ref k33, .ref k34, .int i17, .ref k35])), (h1, aI cI 21 t68_0), (h2, aI cI 21 g160), (h3, aI cI 21 f20), (h4, aI cI 24 f21)] H := by rw [eg160]; exact hP
                              replace hD : va_D A [(h0, .inr (9, [.int i0, .int i1, .ref k0, .ref k1, .ref k2, .ref k3, .ref k4, .int i2, .ref k5, .int i3, .ref k6, .ref k7, .ref k8, .int i4, .ref h3, .ref k9, .int i5, .ref k10, .ref k11, .ref k12, .int i6, .ref h4, .int i7, .ref h2, .ref h1, .int i8, .int i9, .int i10, .ref k13, .int i11, .ref k14, .ref k15, .ref k16, .ref k17, .ref k18, .ref k19, .ref k20, .ref k21, .ref k22, .ref k23, .ref k24, .ref k25, .ref k26, .ref k27, .ref k28, .int i12, .int i13, .int i14, .int i15, .int i16, .ref k29, .ref k30, .ref k31, .ref k32, .ref k33, .ref k34, .int i17, .ref k35])), (h1, aI cI 21 t68_0), (h2, aI cI 21 g160), (h3, aI cI 21 f20), (h4, aI cI 24 f21)] := by rw [eg160]; exact hD
                              clear eg160
                              refine lv_iload hx hb dX9_findPath_161 (lv_at hl 0 rfl) ?_
                              refine lv_if_eq (tgt := 174) hx hb dX9_findPath_163 (by decide) (fun c163 => ?_) (fun c163 => ?_)
                              · exact absurd c163 (by decide)
                              refine lv_aload_n hx hb dX9_findPath_166 rfl (lv_at hl 5 rfl) ?_
                              refine lv_iload hx hb dX9_findPath_167 (lv_at hl 1 rfl) ?_
                              refine lv_iload_n hx hb dX9_findPath_169 rfl (lv_at hl 6 rfl) ?_
                              refine xci (wr := [(h1, aI cI 21 t68_0), (h3, aI cI 21 f20)]) (va_runV (As := [.int t68_3, .int p0]) (rest := []) ⟨hx, hb, hml, hown, hts⟩ (zX9_back l G cI cJ cZ h0 h4 h2 k0 k1 k2 k3 k4 k5 k6 k7 k8 h3 k9 k10 k11 k12 h1 k13 k14 k15 k16 k17 k18 k19 k20 k21 k22 k23 k24 k25 k26 k27 k28 k29 k30 k31 k32 k33 k34 k35 H.size i0 i1 i2 i3 i4 i5 i6 i7 i8 i9 i10 i11 i12 i13 i14 i15 i16 i17 f21 g160 t68_3 p0 _ hwp) (cwV 2 hts (xgoodV wo_468 wo_469 wo_470 wo_471 wo_454) rfl rfl rfl (by decide +kernel) ⟨Nat.le_of_ble_eq_true rfl, Nat.le_of_ble_eq_true rfl⟩) (xPreV (q := (RX9, TX9, 58)) (q0 := 0) hK hN hP hD [0, 4, 2] (by decide) rfl rfl rfl) rfl rfl hl.1 rfl (lv_room (Nat.le_of_ble_eq_true rfl)) dX9_findPath_170 ⟨Nat.le_of_ble_eq_true rfl, Nat.le_of_ble_eq_true rfl⟩) hP hD hS hA [0, 4, 2] [1, 3] rfl rfl (by decide) (by decide) (fun r170 u170 H locs hwp hP hD hS => ?_)
                              replace hP : va_P G vwCl [(h1, aI cI 21 t68_0), (h3, aI cI 21 f20), (h0, .inr (9, [.int i0, .int i1, .ref k0, .ref k1, .ref k2, .ref k3, .ref k4, .int i2, .ref k5, .int i3, .ref k6, .ref k7, .ref k8, .int i4, .ref h3, .ref k9, .int i5, .ref k10, .ref k11, .ref k12, .int i6, .ref h4, .int u170.1, .ref h2, .ref h1, .int i8, .int i9, .int i10, .ref k13, .int i11, .ref k14, .ref k15, .ref k16, .ref k17, .ref k18, .ref k19, .ref k20, .ref k21, .ref k22, .ref k23, .ref k24, .ref k25, .ref k26, .ref k27, .ref k28, .int i12, .int i13, .int i14, .int i15, .int i16, .ref k29, .ref k30, .ref k31, .ref k32, .ref k33, .ref k34, .int i17, .ref k35])), (h4, aI cI 24 u170.2), (h2, aI cI 21 g160)] H := hP
                              replace hD : va_D A [(h1, aI cI 21 t68_0), (h3, aI cI 21 f20), (h0, .inr (9, [.int i0, .int i1, .ref k0, .ref k1, .ref k2, .ref k3, .ref k4, .int i2, .ref k5, .int i3, .ref k6, .ref k7, .ref k8, .int i4, .ref h3, .ref k9, .int i5, .ref k10, .ref k11, .ref k12, .int i6, .ref h4, .int u170.1, .ref h2, .ref h1, .int i8, .int i9, .int i10, .ref k13, .int i11, .ref k14, .ref k15, .ref k16, .ref k17, .ref k18, .ref k19, .ref k20, .ref k21, .ref k22, .ref k23, .ref k24, .ref k25, .ref k26, .ref k27, .ref k28, .int i12, .int i13, .int i14, .int i15, .int i16, .ref k29, .ref k30, .ref k31, .ref k32, .ref k33, .ref k34, .int i17, .ref k35])), (h4, aI cI 24 u170.2), (h2, aI cI 21 g160)] := hD
                              obtain ⟨hi, hwp⟩ := hwp
                              have hP9 : va_P G vwCl [(h0, .inr (9, [.int i0, .int i1, .ref k0, .ref k1, .ref k2, .ref k3, .ref k4, .int i2, .ref k5, .int i3, .ref k6, .ref k7, .ref k8, .int i4, .ref h3, .ref k9, .int i5, .ref k10, .ref k11, .ref k12, .int i6, .ref h4, .int u170.1, .ref h2, .ref h1, .int i8, .int i9, .int i10, .ref k13, .int i11, .ref k14, .ref k15, .ref k16, .ref k17, .ref k18, .ref k19, .ref k20, .ref k21, .ref k22, .ref k23, .ref k24, .ref k25, .ref k26, .ref k27, .ref k28, .int i12, .int i13, .int i14, .int i15, .int i16, .ref k29, .ref k30, .ref k31, .ref k32, .ref k33, .ref k34, .int i17, .ref k35])), (h1, aI cI 21 t68_0), (h2, aI cI 21 g160), (h3, aI cI 21 f20), (h4, aI cI 24 u170.2)] H := hP.sub [2, 0, 4, 1, 3] rfl
                              have hD9 : va_D A [(h0, .inr (9, [.int i0, .int i1, .ref k0, .ref k1, .ref k2, .ref k3, .ref k4, .int i2, .ref k5, .int i3, .ref k6, .ref k7, .ref k8, .int i4, .ref h3, .ref k9, .int i5, .ref k10, .ref k11, .ref k12, .int i6, .ref h4, .int u170.1, .ref h2, .ref h1, .int i8, .int i9, .int i10, .ref k13, .int i11, .ref k14, .ref k15, .ref k16, .ref k17, .ref k18, .ref k19, .ref k20, .ref k21, .ref k22, .ref k23, .ref k24, .ref k25, .ref k26, .ref k27, .ref k28, .int i12, .int i13, .int i14, .int i15, .int i16, .ref k29, .ref k30, .ref k31, .ref k32, .ref k33, .ref k34, .int i17, .ref k35])), (h1, aI cI 21 t68_0), (h2, aI cI 21 g160), (h3, aI cI 21 f20), (h4, aI cI 24 u170.2)] := hD.sub [2, 0, 4, 1, 3] (by decide) rfl
                              rw [← hQQ]
                              exact W.zret (v := r170) hx hb hr hi (fun t ht hW => ⟨⟨_, (u170.1, t68_0, g160, u170.2), rfl, hwp, by rw [ht]; exact hP9, hD9⟩, hS.F ht⟩) hS.2.2 dX9_findPath_173
                          · replace hwp := hwp.2 c112
                            refine lv_goto (tgt := 186) hx hb dX9_findPath_115 (by decide) ?_
                            refine lv_iinc (v := (t68_3 + 1)) (lv' := [(8, .int (t68_3 + 1)), (5, .int (t46_2 + 1)), (7, .int v60), (6, .int t68_2), (0, .ref h0), (1, .int p0), (2, .int p1), (3, .int p2), (4, .int p3)]) hx hb dX9_findPath_186 hl (k := 0) rfl rfl (by decide) rfl (fun ls hl => ?_)
                            refine lv_goto (tgt := 68) hx hb dX9_findPath_189 (by decide) ?_
                            replace hl : lv_has ls 10 [(8, .int (t68_3 + 1)), (5, .int (t46_2 + 1)), (7, .int v60), (6, .int t68_2), (0, .ref h0), (1, .int p0), (2, .int p1), (3, .int p2), (4, .int p3)] := lv_sub hl [0, 1, 2, 3, 4, 5, 6, 7, 8] rfl
                            exact ih3 H locs ls t68_0 t68_1 t68_2 (t68_3 + 1) hwp hP hD hS hl
              exact hs3 n3 H locs ls t46_0 t46_1 t46_3 0 hwp hP hD hS hl
        exact hs2 n2 H locs ls g38 g45 0 1 hwp hP hD hS hl
      · replace hwp := hwp.2 c9
        refine lv_aload_n hx hb dX9_findPath_12 rfl (lv_at hl 1 rfl) ?_
        refine va_get (D := G) (ci := 9) (v := .ref h2) (C := RX9) (T := TX9) (N := 58) hx hb hts xinX9 hown hK hP 0 rfl rfl 23 (by decide) (hts _ wo_465) (fun _ h9 => h9) rfl dX9_findPath_13 ?_
        refine lv_iload hx hb dX9_findPath_16 (lv_at hl 0 rfl) ?_
        refine lv_iconst (v := (-1)) hx hb dX9_findPath_18 (by decide) ?_
        obtain ⟨hi, hwp⟩ := hwp
        refine va_iast hx hb hK hP hD hS 2 0 rfl rfl hi dX9_findPath_19 (fun H locs hP hD hS => ?_)
        obtain ⟨g19, eg19⟩ : ∃ z, z = upd t3_0 (Int32.toNatClampNeg t3_1) (-1) := ⟨_, rfl⟩
        replace hwp := hwp g19 eg19
        replace hP : va_P G vwCl [(h0, .inr (9, [.int i0, .int i1, .ref k0, .ref k1, .ref k2, .ref k3, .ref k4, .int i2, .ref k5, .int i3, .ref k6, .ref k7, .ref k8, .int i4, .ref h3, .ref k9, .int i5, .ref k10, .ref k11, .ref k12, .int i6, .ref h4, .int i7, .ref h2, .ref h1, .int i8, .int i9, .int i10, .ref k13, .int i11, .ref k14, .ref k15, .ref k16, .ref k17, .ref k18, .ref k19, .ref k20, .ref k21, .ref k22, .ref k23, .ref k24, .ref k25, .ref k26, .ref k27, .ref k28, .int i12, .int i13, .int i14, .int i15, .int i16, .ref k29, .ref k30, .ref k31, .ref k32, .ref k33, .ref k34, .int i17, .ref k35])), (h1, aI cI 21 f18), (h2, aI cI 21 g19), (h3, aI cI 21 f20), (h4, aI cI 24 f21)] H := by rw [eg19]; exact hP
        replace hD : va_D A [(h0, .inr (9, [.int i0, .int i1, .ref k0, .ref k1, .ref k2, .ref k3, .ref k4, .int i2, .ref k5, .int i3, .ref k6, .ref k7, .ref k8, .int i4, .ref h3, .ref k9, .int i5, .ref k10, .ref k11, .ref k12, .int i6, .ref h4, .int i7, .ref h2, .ref h1, .int i8, .int i9, .int i10, .ref k13, .int i11, .ref k14, .ref k15, .ref k16, .ref k17, .ref k18, .ref k19, .ref k20, .ref k21, .ref k22, .ref k23, .ref k24, .ref k25, .ref k26, .ref k27, .ref k28, .int i12, .int i13, .int i14, .int i15, .int i16, .ref k29, .ref k30, .ref k31, .ref k32, .ref k33, .ref k34, .int i17, .ref k35])), (h1, aI cI 21 f18), (h2, aI cI 21 g19), (h3, aI cI 21 f20), (h4, aI cI 24 f21)] := by rw [eg19]; exact hD
        clear eg19
        refine lv_iinc (v := (t3_1 + 1)) (lv' := [(5, .int (t3_1 + 1)), (0, .ref h0), (1, .int p0), (2, .int p1), (3, .int p2), (4, .int p3)]) hx hb dX9_findPath_20 hl (k := 0) rfl rfl (by decide) rfl (fun ls hl => ?_)
        refine lv_goto (tgt := 3) hx hb dX9_findPath_23 (by decide) ?_
        replace hl : lv_has ls 10 [(5, .int (t3_1 + 1)), (0, .ref h0), (1, .int p0), (2, .int p1), (3, .int p2), (4, .int p3)] := lv_sub hl [0, 1, 2, 3, 4, 5] rfl
        exact ih1 H locs ls g19 (t3_1 + 1) hwp hP hD hS hl
  exact hs1 n1 H locs ls f19 0 hwp hP hD hS hl

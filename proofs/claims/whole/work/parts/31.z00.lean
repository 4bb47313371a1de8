def wJ6_bitCount_0f7a4 (p0 : Int32) (K : Int32 → Unit → Prop) : Prop := (∀ v9 : Int32, v9 = (p0 - (((Int32.toUInt32 p0 >>> (Int32.toUInt32 (1 : Int32) &&& Int32.toUInt32 31)).toInt32) &&& 1431655765)) → (∀ v23 : Int32, v23 = ((v9 &&& 858993459) + (((Int32.toUInt32 v9 >>> (Int32.toUInt32 (2 : Int32) &&& Int32.toUInt32 31)).toInt32) &&& 858993459)) → (∀ v33 : Int32, v33 = ((v23 + ((Int32.toUInt32 v23 >>> (Int32.toUInt32 (4 : Int32) &&& Int32.toUInt32 31)).toInt32)) &&& 252645135) → (∀ v40 : Int32, v40 = (v33 + ((Int32.toUInt32 v33 >>> (Int32.toUInt32 (8 : Int32) &&& Int32.toUInt32 31)).toInt32)) → (∀ v47 : Int32, v47 = (v40 + ((Int32.toUInt32 v40 >>> (Int32.toUInt32 (16 : Int32) &&& Int32.toUInt32 31)).toInt32)) → K (v47 &&& 63) ())))))
set_option maxHeartbeats 4000000 in
set_option maxRecDepth 100000 in
theorem zJ6_bitCount_0f7a4 (l : Launch) (G : va_G) (cI cJ cZ : ClassId) ( sz : Nat) (p0 : Int32) (K : Int32 → Unit → Prop) (hwp : wJ6_bitCount_0f7a4 p0 K) : Met l yJ6_bitCount_0f7a4 (xw yJ6_bitCount_0f7a4 cJ6_bitCount_0f7a4 1 (some .int)) ({ frames := 0, cells := 0, slots := 0, locals := 0 }) (xPc G cI cJ cZ [.int p0] [] sz) (va_Qi (fun (r : Int32) (u : Unit) => K r u) (fun (u : Unit) t => xB G (va_A [] sz) [] t) (va_A [] sz)) 0 0 (va_A [] sz) := by
  refine Met.ofW (cc := cJ6_bitCount_0f7a4) (maxL := 1) (ret := (some .int)) (by decide) rfl ?_
  intro p e s m args below meth c s₁ B hml hv
  obtain ⟨rfl, hsz, hP, hK, hD0, hN⟩ := hv
  have hx := B.exec
  have hb := B.bytes
  have hr := B.returns
  have hts : ∀ w ∈ xW, w.before _ s = true := fun w h => atoms_spec (ws := xw yJ6_bitCount_0f7a4 cJ6_bitCount_0f7a4 1 (some .int)) B.pre w (List.mem_cons_of_mem _ h)
  have hown : s.vm.findClass RJ6 = some m.cls := findClass_of_methodNamed B.named
  have hlocks := B.notSynchronized
  subst hsz
  have hD := hD0.self (sz := s.heap.size)
  clear hD0
  generalize hAe : va_A [] s.heap.size = A at hD ⊢
  have hA : ∀ q : Nat, s.heap.size ≤ q → A q := fun q h => by rw [← hAe]; exact Or.inr h
  clear hAe
  have hS : va_S A s.heap s.heap [] := va_S.rf
  replace hP : va_P G vwCl [] s.heap := hP
  have hl := lv_entry ([.int p0]) (n := 1) (Nat.le_of_ble_eq_true rfl)
  rw [lg_entry_eq]
  generalize (lg_sl ([.int p0]) ++ List.replicate (1 - (lg_sl ([.int p0])).length) Slot.unset).toArray = ls at hl ⊢
  replace hl : lv_has ls 1 [(0, .int p0)] := hl
  generalize hQQ : MQ below _ _ s 0 0 _ = QQ
  skip
  unfold wJ6_bitCount_0f7a4 at hwp
  refine lv_iload_n hx hb dJ6_bitCount_0f7a4_0 rfl (lv_at hl 0 rfl) ?_
  refine lv_iload_n hx hb dJ6_bitCount_0f7a4_1 rfl (lv_at hl 0 rfl) ?_
  refine lv_iconst (v := 1) hx hb dJ6_bitCount_0f7a4_2 (by decide) ?_
  refine lv_iushr (v := ((Int32.toUInt32 p0 >>> (Int32.toUInt32 (1 : Int32) &&& Int32.toUInt32 31)).toInt32)) hx hb dJ6_bitCount_0f7a4_3 rfl ?_
  refine lv_ldcw (v := 1431655765) hx hb hown (hts _ wo_0) dJ6_bitCount_0f7a4_4 ?_
  refine lv_iand hx hb dJ6_bitCount_0f7a4_7 ?_
  refine lv_isub hx hb dJ6_bitCount_0f7a4_8 ?_
  refine lv_topi (fun v9 ev9 => ?_)
  replace hwp := hwp v9 ev9
  clear ev9
  refine lv_istore_n (lv' := [(0, .int v9)]) hx hb dJ6_bitCount_0f7a4_9 rfl hl (by decide) rfl (fun ls hl => ?_)
  refine lv_iload_n hx hb dJ6_bitCount_0f7a4_10 rfl (lv_at hl 0 rfl) ?_
  refine lv_ldcw (v := 858993459) hx hb hown (hts _ wo_1) dJ6_bitCount_0f7a4_11 ?_
  refine lv_iand hx hb dJ6_bitCount_0f7a4_14 ?_
  refine lv_iload_n hx hb dJ6_bitCount_0f7a4_15 rfl (lv_at hl 0 rfl) ?_
  refine lv_iconst (v := 2) hx hb dJ6_bitCount_0f7a4_16 (by decide) ?_
  refine lv_iushr (v := ((Int32.toUInt32 v9 >>> (Int32.toUInt32 (2 : Int32) &&& Int32.toUInt32 31)).toInt32)) hx hb dJ6_bitCount_0f7a4_17 rfl ?_
  refine lv_ldcw (v := 858993459) hx hb hown (hts _ wo_1) dJ6_bitCount_0f7a4_18 ?_
  refine lv_iand hx hb dJ6_bitCount_0f7a4_21 ?_
  refine lv_iadd hx hb dJ6_bitCount_0f7a4_22 ?_
  refine lv_topi (fun v23 ev23 => ?_)
  replace hwp := hwp v23 ev23
  clear ev23
  refine lv_istore_n (lv' := [(0, .int v23)]) hx hb dJ6_bitCount_0f7a4_23 rfl hl (by decide) rfl (fun ls hl => ?_)
  refine lv_iload_n hx hb dJ6_bitCount_0f7a4_24 rfl (lv_at hl 0 rfl) ?_
  refine lv_iload_n hx hb dJ6_bitCount_0f7a4_25 rfl (lv_at hl 0 rfl) ?_
  refine lv_iconst (v := 4) hx hb dJ6_bitCount_0f7a4_26 (by decide) ?_
  refine lv_iushr (v := ((Int32.toUInt32 v23 >>> (Int32.toUInt32 (4 : Int32) &&& Int32.toUInt32 31)).toInt32)) hx hb dJ6_bitCount_0f7a4_27 rfl ?_
  refine lv_iadd hx hb dJ6_bitCount_0f7a4_28 ?_
  refine lv_ldcw (v := 252645135) hx hb hown (hts _ wo_2) dJ6_bitCount_0f7a4_29 ?_
  refine lv_iand hx hb dJ6_bitCount_0f7a4_32 ?_
  refine lv_topi (fun v33 ev33 => ?_)
  replace hwp := hwp v33 ev33
  clear ev33
  refine lv_istore_n (lv' := [(0, .int v33)]) hx hb dJ6_bitCount_0f7a4_33 rfl hl (by decide) rfl (fun ls hl => ?_)
  refine lv_iload_n hx hb dJ6_bitCount_0f7a4_34 rfl (lv_at hl 0 rfl) ?_
  refine lv_iload_n hx hb dJ6_bitCount_0f7a4_35 rfl (lv_at hl 0 rfl) ?_
  refine lv_bipush (v := 8) hx hb dJ6_bitCount_0f7a4_36 (by decide) ?_
  refine lv_iushr (v := ((Int32.toUInt32 v33 >>> (Int32.toUInt32 (8 : Int32) &&& Int32.toUInt32 31)).toInt32)) hx hb dJ6_bitCount_0f7a4_38 rfl ?_
  refine lv_iadd hx hb dJ6_bitCount_0f7a4_39 ?_
  refine lv_topi (fun v40 ev40 => ?_)
  replace hwp := hwp v40 ev40
  clear ev40
  refine lv_istore_n (lv' := [(0, .int v40)]) hx hb dJ6_bitCount_0f7a4_40 rfl hl (by decide) rfl (fun ls hl => ?_)
  refine lv_iload_n hx hb dJ6_bitCount_0f7a4_41 rfl (lv_at hl 0 rfl) ?_
  refine lv_iload_n hx hb dJ6_bitCount_0f7a4_42 rfl (lv_at hl 0 rfl) ?_
  refine lv_bipush (v := 16) hx hb dJ6_bitCount_0f7a4_43 (by decide) ?_
  refine lv_iushr (v := ((Int32.toUInt32 v40 >>> (Int32.toUInt32 (16 : Int32) &&& Int32.toUInt32 31)).toInt32)) hx hb dJ6_bitCount_0f7a4_45 rfl ?_
  refine lv_iadd hx hb dJ6_bitCount_0f7a4_46 ?_
  refine lv_topi (fun v47 ev47 => ?_)
  replace hwp := hwp v47 ev47
  clear ev47
  refine lv_istore_n (lv' := [(0, .int v47)]) hx hb dJ6_bitCount_0f7a4_47 rfl hl (by decide) rfl (fun ls hl => ?_)
  refine lv_iload_n hx hb dJ6_bitCount_0f7a4_48 rfl (lv_at hl 0 rfl) ?_
  refine lv_bipush (v := 63) hx hb dJ6_bitCount_0f7a4_49 (by decide) ?_
  refine lv_iand hx hb dJ6_bitCount_0f7a4_51 ?_
  have hP9 : va_P G vwCl [] s.heap := hP.sub [] rfl
  have hD9 : va_D A [] := hD.sub [] (by decide) rfl
  rw [← hQQ]
  exact W.iret (v := (v47 &&& 63)) hx hb hr (fun t ht hW => ⟨⟨_, (), rfl, hwp, by rw [ht]; exact hP9, hD9⟩, hS.F ht⟩) hS.2.2 dJ6_bitCount_0f7a4_52
def wLJ7_fill_53178_5 (p0 : Int32) (K : ((Nat → Int32)) → Prop)  : Nat → (Nat → Int32) → Int32 → Prop
  | 0, _, _ => False
  | n5 + 1, t5_0, t5_1 => ((20 ≤ t5_1 → K t5_0) ∧ (¬ 20 ≤ t5_1 → (vp_in t5_1 20 ∧ (∀ g13 : Nat → Int32, g13 = upd t5_0 (Int32.toNatClampNeg t5_1) p0 → (wLJ7_fill_53178_5 p0 K  n5) g13 (t5_1 + 1)))))
def wJ7_fill_53178 (f0 : Nat → Int32) (p0 : Int32) (K : ((Nat → Int32)) → Prop) : Prop := (∃ n5, wLJ7_fill_53178_5 p0 K  n5 f0 0)
set_option maxHeartbeats 4000000 in
set_option maxRecDepth 100000 in
theorem zJ7_fill_53178 (l : Launch) (G : va_G) (cI cJ cZ : ClassId) (h0 sz : Nat) (f0 : Nat → Int32) (p0 : Int32) (K : ((Nat → Int32)) → Prop) (hwp : wJ7_fill_53178 f0 p0 K) : Met l yJ7_fill_53178 (xw yJ7_fill_53178 cJ7_fill_53178 4 none) ({ frames := 0, cells := 0, slots := 0, locals := 0 }) (xPc G cI cJ cZ [.ref h0, .int p0] [(h0, aI cI 20 f0)] sz) (va_Qv (fun (u : (Nat → Int32)) => K u) (fun (u : (Nat → Int32)) t => xB G (va_A [(h0, aI cI 20 f0)] sz) [(h0, aI cI 20 u)] t) (va_A [(h0, aI cI 20 f0)] sz)) 0 0 (va_A [(h0, aI cI 20 f0)] sz) := by
  refine Met.ofW (cc := cJ7_fill_53178) (maxL := 4) (ret := none) (by decide) rfl ?_
  intro p e s m args below meth c s₁ B hml hv
  obtain ⟨rfl, hsz, hP, hK, hD0, hN⟩ := hv
  have hx := B.exec
  have hb := B.bytes
  have hr := B.returns
  have hts : ∀ w ∈ xW, w.before _ s = true := fun w h => atoms_spec (ws := xw yJ7_fill_53178 cJ7_fill_53178 4 none) B.pre w (List.mem_cons_of_mem _ h)
  have hown : s.vm.findClass RJ7 = some m.cls := findClass_of_methodNamed B.named
  have hlocks := B.notSynchronized
  subst hsz
  have hD := hD0.self (sz := s.heap.size)
  clear hD0
  generalize hAe : va_A [(h0, aI cI 20 f0)] s.heap.size = A at hD ⊢
  have hA : ∀ q : Nat, s.heap.size ≤ q → A q := fun q h => by rw [← hAe]; exact Or.inr h
  clear hAe
  have hS : va_S A s.heap s.heap [] := va_S.rf
  replace hP : va_P G vwCl [(h0, aI cI 20 f0)] s.heap := hP
  have hl := lv_entry ([.ref h0, .int p0]) (n := 4) (Nat.le_of_ble_eq_true rfl)
  rw [lg_entry_eq]
  generalize (lg_sl ([.ref h0, .int p0]) ++ List.replicate (4 - (lg_sl ([.ref h0, .int p0])).length) Slot.unset).toArray = ls at hl ⊢
  replace hl : lv_has ls 4 [(0, .ref h0), (1, .int p0)] := hl
  generalize hQQ : MQ below _ _ s 0 0 _ = QQ
  skip
  unfold wJ7_fill_53178 at hwp
  refine lv_iconst (v := 0) hx hb dJ7_fill_53178_0 (by decide) ?_
  refine lv_istore_n (lv' := [(2, .int 0), (0, .ref h0), (1, .int p0)]) hx hb dJ7_fill_53178_1 rfl hl (by decide) rfl (fun ls hl => ?_)
  refine lv_aload_n hx hb dJ7_fill_53178_2 rfl (lv_at hl 1 rfl) ?_
  refine va_alen (v := 20) hx hb hK hP 0 0 rfl rfl rfl dJ7_fill_53178_3 ?_
  refine lv_istore_n (lv' := [(3, .int 20), (2, .int 0), (0, .ref h0), (1, .int p0)]) hx hb dJ7_fill_53178_4 rfl hl (by decide) rfl (fun ls hl => ?_)
  refine xgen (Pp := fun H locs => W p l e _ s m _ below meth c H locs _ _ _ _) (fun H locs hP hD hS => ?_) hP hD hS
  replace hl : lv_has ls 4 [(3, .int 20), (2, .int 0), (0, .ref h0), (1, .int p0)] := lv_sub hl [0, 1, 2, 3] rfl
  obtain ⟨n1, hwp⟩ := hwp
  have hs1 : ∀ (n1 : Nat) (H : Heap) (locs : List Loc) (ls : Array Slot) (t5_0 : Nat → Int32) (t5_1 : Int32), wLJ7_fill_53178_5 p0 K  n1 t5_0 t5_1 → va_P G vwCl [(h0, aI cI 20 t5_0)] H → va_D A [(h0, aI cI 20 t5_0)] → va_S A s.heap H locs → lv_has ls 4 [(3, .int 20), (2, .int t5_1), (0, .ref h0), (1, .int p0)] → W p l e ((headSpec (xw yJ7_fill_53178 cJ7_fill_53178 4 none) { frames := 0, cells := 0, slots := 0, locals := 0 }).room) s m ([.ref h0, .int p0] : List Value).toArray below meth c H locs 0 0 QQ (F0 m 5 ls []) := by
    intro n1
    induction n1 with
    | zero => intro H locs ls t5_0 t5_1 hwp; exact False.elim hwp
    | succ n1 ih1 =>
      intro H locs ls t5_0 t5_1 hwp hP hD hS hl
      rw [wLJ7_fill_53178_5] at hwp
      refine lv_iload_n hx hb dJ7_fill_53178_5 rfl (lv_at hl 1 rfl) ?_
      refine lv_iload_n hx hb dJ7_fill_53178_6 rfl (lv_at hl 0 rfl) ?_
      refine lv_icmp_ge (tgt := 20) hx hb dJ7_fill_53178_7 (by decide) (fun c7 => ?_) (fun c7 => ?_)
      · replace hwp := hwp.1 c7
        have hP9 : va_P G vwCl [(h0, aI cI 20 t5_0)] H := hP.sub [0] rfl
        have hD9 : va_D A [(h0, aI cI 20 t5_0)] := hD.sub [0] (by decide) rfl
        rw [← hQQ]
        exact W.vret hx hb hr (fun t ht hW => ⟨⟨t5_0, rfl, hwp, by rw [ht]; exact hP9, hD9⟩, hS.F ht⟩) hS.2.2 dJ7_fill_53178_20
      · replace hwp := hwp.2 c7
        refine lv_aload_n hx hb dJ7_fill_53178_10 rfl (lv_at hl 2 rfl) ?_
        refine lv_iload_n hx hb dJ7_fill_53178_11 rfl (lv_at hl 1 rfl) ?_
        refine lv_iload_n hx hb dJ7_fill_53178_12 rfl (lv_at hl 3 rfl) ?_
        obtain ⟨hi, hwp⟩ := hwp
        refine va_iast hx hb hK hP hD hS 0 0 rfl rfl hi dJ7_fill_53178_13 (fun H locs hP hD hS => ?_)
        obtain ⟨g13, eg13⟩ : ∃ z, z = upd t5_0 (Int32.toNatClampNeg t5_1) p0 := ⟨_, rfl⟩
        replace hwp := hwp g13 eg13
        replace hP : va_P G vwCl [(h0, aI cI 20 g13)] H := by rw [eg13]; exact hP
        replace hD : va_D A [(h0, aI cI 20 g13)] := by rw [eg13]; exact hD
        clear eg13
        refine lv_iinc (v := (t5_1 + 1)) (lv' := [(2, .int (t5_1 + 1)), (3, .int 20), (0, .ref h0), (1, .int p0)]) hx hb dJ7_fill_53178_14 hl (k := 1) rfl rfl (by decide) rfl (fun ls hl => ?_)
        refine lv_goto (tgt := 5) hx hb dJ7_fill_53178_17 (by decide) ?_
        replace hl : lv_has ls 4 [(3, .int 20), (2, .int (t5_1 + 1)), (0, .ref h0), (1, .int p0)] := lv_sub hl [1, 0, 2, 3] rfl
        exact ih1 H locs ls g13 (t5_1 + 1) hwp hP hD hS hl
  exact hs1 n1 H locs ls f0 0 hwp hP hD hS hl
def wX3_isLoop (i0 : Int32) (i1 : Int32) (i2 : Int32) (f3 : Nat → Int32) (p0 : Int32) (K : Int32 → Unit → Prop) : Prop := (vp_in ((2 : Int32) * p0) 160 ∧ (vp_in (((2 : Int32) * p0) + 1) 160 ∧ ((¬ (f3 (Int32.toNatClampNeg ((2 : Int32) * p0))) = (f3 (Int32.toNatClampNeg (((2 : Int32) * p0) + 1))) → K (0 : Int32) ()) ∧ ((f3 (Int32.toNatClampNeg ((2 : Int32) * p0))) = (f3 (Int32.toNatClampNeg (((2 : Int32) * p0) + 1))) → K (1 : Int32) ()))))
set_option maxHeartbeats 4000000 in
set_option maxRecDepth 100000 in
theorem zX3_isLoop (l : Launch) (G : va_G) (cI cJ cZ : ClassId) (h0 h1 k0 k1 sz : Nat) (i0 : Int32) (i1 : Int32) (i2 : Int32) (f3 : Nat → Int32) (p0 : Int32) (K : Int32 → Unit → Prop) (hwp : wX3_isLoop i0 i1 i2 f3 p0 K) : Met l yX3_isLoop (xw yX3_isLoop cX3_isLoop 2 (some .boolean)) ({ frames := 0, cells := 0, slots := 0, locals := 0 }) (xPc G cI cJ cZ [.ref h0, .int p0] [(h0, .inr (3, [.ref h1, .ref k0, .ref k1, .int i0, .int i1, .int i2])), (h1, aI cI 160 f3)] sz) (va_Qi (fun (r : Int32) (u : Unit) => K r u) (fun (u : Unit) t => xB G (va_A [(h0, .inr (3, [.ref h1, .ref k0, .ref k1, .int i0, .int i1, .int i2])), (h1, aI cI 160 f3)] sz) [(h0, .inr (3, [.ref h1, .ref k0, .ref k1, .int i0, .int i1, .int i2])), (h1, aI cI 160 f3)] t) (va_A [(h0, .inr (3, [.ref h1, .ref k0, .ref k1, .int i0, .int i1, .int i2])), (h1, aI cI 160 f3)] sz)) 0 0 (va_A [(h0, .inr (3, [.ref h1, .ref k0, .ref k1, .int i0, .int i1, .int i2])), (h1, aI cI 160 f3)] sz) := by
  refine Met.ofW (cc := cX3_isLoop) (maxL := 2) (ret := (some .boolean)) (by decide) rfl ?_
  intro p e s m args below meth c s₁ B hml hv
  obtain ⟨rfl, hsz, hP, hK, hD0, hN⟩ := hv
  have hx := B.exec
  have hb := B.bytes
  have hr := B.returns
  have hts : ∀ w ∈ xW, w.before _ s = true := fun w h => atoms_spec (ws := xw yX3_isLoop cX3_isLoop 2 (some .boolean)) B.pre w (List.mem_cons_of_mem _ h)
  have hown : s.vm.findClass RX3 = some m.cls := findClass_of_methodNamed B.named
  have hlocks := B.notSynchronized
  subst hsz
  have hD := hD0.self (sz := s.heap.size)
  clear hD0
  generalize hAe : va_A [(h0, .inr (3, [.ref h1, .ref k0, .ref k1, .int i0, .int i1, .int i2])), (h1, aI cI 160 f3)] s.heap.size = A at hD ⊢
  have hA : ∀ q : Nat, s.heap.size ≤ q → A q := fun q h => by rw [← hAe]; exact Or.inr h
  clear hAe
  have hS : va_S A s.heap s.heap [] := va_S.rf
  replace hP : va_P G vwCl [(h0, .inr (3, [.ref h1, .ref k0, .ref k1, .int i0, .int i1, .int i2])), (h1, aI cI 160 f3)] s.heap := hP
  have hl := lv_entry ([.ref h0, .int p0]) (n := 2) (Nat.le_of_ble_eq_true rfl)
  rw [lg_entry_eq]
  generalize (lg_sl ([.ref h0, .int p0]) ++ List.replicate (2 - (lg_sl ([.ref h0, .int p0])).length) Slot.unset).toArray = ls at hl ⊢
  replace hl : lv_has ls 2 [(0, .ref h0), (1, .int p0)] := hl
  generalize hQQ : MQ below _ _ s 0 0 _ = QQ
  skip
  unfold wX3_isLoop at hwp
  refine lv_aload_n hx hb dX3_isLoop_0 rfl (lv_at hl 0 rfl) ?_
  refine va_get (D := G) (ci := 3) (v := .ref h1) (C := RX3) (T := TX3) (N := 6) hx hb hts xinX3 hown hK hP 0 rfl rfl 0 (by decide) (hts _ wo_3) (fun _ h9 => h9) rfl dX3_isLoop_1 ?_
  refine lv_iconst (v := 2) hx hb dX3_isLoop_4 (by decide) ?_
  refine lv_iload_n hx hb dX3_isLoop_5 rfl (lv_at hl 1 rfl) ?_
  refine lv_imul hx hb dX3_isLoop_6 ?_
  obtain ⟨hi, hwp⟩ := hwp
  refine va_iald hx hb hK hP 1 0 rfl rfl hi dX3_isLoop_7 ?_
  refine lv_aload_n hx hb dX3_isLoop_8 rfl (lv_at hl 0 rfl) ?_
  refine va_get (D := G) (ci := 3) (v := .ref h1) (C := RX3) (T := TX3) (N := 6) hx hb hts xinX3 hown hK hP 0 rfl rfl 0 (by decide) (hts _ wo_3) (fun _ h9 => h9) rfl dX3_isLoop_9 ?_
  refine lv_iconst (v := 2) hx hb dX3_isLoop_12 (by decide) ?_
  refine lv_iload_n hx hb dX3_isLoop_13 rfl (lv_at hl 1 rfl) ?_
  refine lv_imul hx hb dX3_isLoop_14 ?_
  refine lv_iconst (v := 1) hx hb dX3_isLoop_15 (by decide) ?_
  refine lv_iadd hx hb dX3_isLoop_16 ?_
  obtain ⟨hi, hwp⟩ := hwp
  refine va_iald hx hb hK hP 1 0 rfl rfl hi dX3_isLoop_17 ?_
  refine lv_icmp_ne (tgt := 25) hx hb dX3_isLoop_18 (by decide) (fun c18 => ?_) (fun c18 => ?_)
  · replace hwp := hwp.1 c18
    refine lv_iconst (v := 0) hx hb dX3_isLoop_25 (by decide) ?_
    have hP9 : va_P G vwCl [(h0, .inr (3, [.ref h1, .ref k0, .ref k1, .int i0, .int i1, .int i2])), (h1, aI cI 160 f3)] s.heap := hP.sub [0, 1] rfl
    have hD9 : va_D A [(h0, .inr (3, [.ref h1, .ref k0, .ref k1, .int i0, .int i1, .int i2])), (h1, aI cI 160 f3)] := hD.sub [0, 1] (by decide) rfl
    rw [← hQQ]
    exact W.zret (v := 0) hx hb hr rfl (fun t ht hW => ⟨⟨_, (), rfl, hwp, by rw [ht]; exact hP9, hD9⟩, hS.F ht⟩) hS.2.2 dX3_isLoop_26
  · replace hwp := hwp.2 c18
    refine lv_iconst (v := 1) hx hb dX3_isLoop_21 (by decide) ?_
    refine lv_goto (tgt := 26) hx hb dX3_isLoop_22 (by decide) ?_
    have hP9 : va_P G vwCl [(h0, .inr (3, [.ref h1, .ref k0, .ref k1, .int i0, .int i1, .int i2])), (h1, aI cI 160 f3)] s.heap := hP.sub [0, 1] rfl
    have hD9 : va_D A [(h0, .inr (3, [.ref h1, .ref k0, .ref k1, .int i0, .int i1, .int i2])), (h1, aI cI 160 f3)] := hD.sub [0, 1] (by decide) rfl
    rw [← hQQ]
    exact W.zret (v := 1) hx hb hr rfl (fun t ht hW => ⟨⟨_, (), rfl, hwp, by rw [ht]; exact hP9, hD9⟩, hS.F ht⟩) hS.2.2 dX3_isLoop_26
def wLX3_findNeighbours_7 (i1 : Int32) (i2 : Int32) (i3 : Int32) (f4 : Nat → Int32) (f5 : Nat → Int32) (K : ((Nat → Int32)) → Prop)  : Nat → (Nat → Int32) → Int32 → Prop
  | 0, _, _ => False
  | n7 + 1, t7_0, t7_1 => ((i2 ≤ t7_1 → K t7_0) ∧ (¬ i2 ≤ t7_1 → (vp_in t7_1 80 ∧ (((f4 (Int32.toNatClampNeg t7_1)) = 0 → (wLX3_findNeighbours_7 i1 i2 i3 f4 f5 K  n7) t7_0 (t7_1 + 1)) ∧ (¬ (f4 (Int32.toNatClampNeg t7_1)) = 0 → (wX3_isLoop i1 i2 i3 f5 t7_1 (fun r23 _ => ((¬ r23 = 0 → (wLX3_findNeighbours_7 i1 i2 i3 f4 f5 K  n7) t7_0 (t7_1 + 1)) ∧ (r23 = 0 → (vp_in ((2 : Int32) * t7_1) 160 ∧ (vp_in (f5 (Int32.toNatClampNeg ((2 : Int32) * t7_1))) 20 ∧ (vp_in (((2 : Int32) * t7_1) + 1) 160 ∧ (vp_in (f5 (Int32.toNatClampNeg ((2 : Int32) * t7_1))) 20 ∧ (∀ g53 : Nat → Int32, g53 = upd t7_0 (Int32.toNatClampNeg (f5 (Int32.toNatClampNeg ((2 : Int32) * t7_1)))) ((t7_0 (Int32.toNatClampNeg (f5 (Int32.toNatClampNeg ((2 : Int32) * t7_1))))) ||| ((1 : Int32) <<< ((f5 (Int32.toNatClampNeg (((2 : Int32) * t7_1) + 1))) &&& 31))) → (vp_in (((2 : Int32) * t7_1) + 1) 160 ∧ (vp_in (f5 (Int32.toNatClampNeg (((2 : Int32) * t7_1) + 1))) 20 ∧ (vp_in ((2 : Int32) * t7_1) 160 ∧ (vp_in (f5 (Int32.toNatClampNeg (((2 : Int32) * t7_1) + 1))) 20 ∧ (∀ g78 : Nat → Int32, g78 = upd g53 (Int32.toNatClampNeg (f5 (Int32.toNatClampNeg (((2 : Int32) * t7_1) + 1)))) ((g53 (Int32.toNatClampNeg (f5 (Int32.toNatClampNeg (((2 : Int32) * t7_1) + 1))))) ||| ((1 : Int32) <<< ((f5 (Int32.toNatClampNeg ((2 : Int32) * t7_1))) &&& 31))) → (wLX3_findNeighbours_7 i1 i2 i3 f4 f5 K  n7) g78 (t7_1 + 1))))))))))))))))))))
def wX3_findNeighbours (f0 : Nat → Int32) (i1 : Int32) (i2 : Int32) (i3 : Int32) (f4 : Nat → Int32) (f5 : Nat → Int32) (K : ((Nat → Int32)) → Prop) : Prop := (wJ7_fill_53178 f0 (0 : Int32) (fun u2 => (∃ n7, wLX3_findNeighbours_7 i1 i2 i3 f4 f5 K  n7 u2 0)))
set_option maxHeartbeats 4000000 in
set_option maxRecDepth 100000 in
theorem zX3_findNeighbours (l : Launch) (G : va_G) (cI cJ cZ : ClassId) (h0 h1 h2 h3 sz : Nat) (f0 : Nat → Int32) (i1 : Int32) (i2 : Int32) (i3 : Int32) (f4 : Nat → Int32) (f5 : Nat → Int32) (K : ((Nat → Int32)) → Prop) (hwp : wX3_findNeighbours f0 i1 i2 i3 f4 f5 K) : Met l yX3_findNeighbours (xw yX3_findNeighbours cX3_findNeighbours 4 none) ({ frames := 1, cells := 0, slots := 0, locals := 23 }) (xPc G cI cJ cZ [.ref h1, .ref h2, .ref h0] [(h0, aI cI 20 f0), (h1, .inr (3, [.ref h3, .ref h2, .ref h0, .int i1, .int i2, .int i3])), (h2, aI cZ 80 f4), (h3, aI cI 160 f5)] sz) (va_Qv (fun (u : (Nat → Int32)) => K u) (fun (u : (Nat → Int32)) t => xB G (va_A [(h0, aI cI 20 f0), (h1, .inr (3, [.ref h3, .ref h2, .ref h0, .int i1, .int i2, .int i3])), (h2, aI cZ 80 f4), (h3, aI cI 160 f5)] sz) [(h0, aI cI 20 u), (h1, .inr (3, [.ref h3, .ref h2, .ref h0, .int i1, .int i2, .int i3])), (h2, aI cZ 80 f4), (h3, aI cI 160 f5)] t) (va_A [(h0, aI cI 20 f0), (h1, .inr (3, [.ref h3, .ref h2, .ref h0, .int i1, .int i2, .int i3])), (h2, aI cZ 80 f4), (h3, aI cI 160 f5)] sz)) 0 0 (va_A [(h0, aI cI 20 f0), (h1, .inr (3, [.ref h3, .ref h2, .ref h0, .int i1, .int i2, .int i3])), (h2, aI cZ 80 f4), (h3, aI cI 160 f5)] sz) := by
  refine Met.ofW (cc := cX3_findNeighbours) (maxL := 4) (ret := none) (by decide) rfl ?_
  intro p e s m args below meth c s₁ B hml hv
  obtain ⟨rfl, hsz, hP, hK, hD0, hN⟩ := hv
  have hx := B.exec
  have hb := B.bytes
  have hr := B.returns
  have hts : ∀ w ∈ xW, w.before _ s = true := fun w h => atoms_spec (ws := xw yX3_findNeighbours cX3_findNeighbours 4 none) B.pre w (List.mem_cons_of_mem _ h)
  have hown : s.vm.findClass RX3 = some m.cls := findClass_of_methodNamed B.named
  have hlocks := B.notSynchronized
  subst hsz
  have hD := hD0.self (sz := s.heap.size)
  clear hD0
  generalize hAe : va_A [(h0, aI cI 20 f0), (h1, .inr (3, [.ref h3, .ref h2, .ref h0, .int i1, .int i2, .int i3])), (h2, aI cZ 80 f4), (h3, aI cI 160 f5)] s.heap.size = A at hD ⊢
  have hA : ∀ q : Nat, s.heap.size ≤ q → A q := fun q h => by rw [← hAe]; exact Or.inr h
  clear hAe
  have hS : va_S A s.heap s.heap [] := va_S.rf
  replace hP : va_P G vwCl [(h0, aI cI 20 f0), (h1, .inr (3, [.ref h3, .ref h2, .ref h0, .int i1, .int i2, .int i3])), (h2, aI cZ 80 f4), (h3, aI cI 160 f5)] s.heap := hP
  have hl := lv_entry ([.ref h1, .ref h2, .ref h0]) (n := 4) (Nat.le_of_ble_eq_true rfl)
  rw [lg_entry_eq]
  generalize (lg_sl ([.ref h1, .ref h2, .ref h0]) ++ List.replicate (4 - (lg_sl ([.ref h1, .ref h2, .ref h0])).length) Slot.unset).toArray = ls at hl ⊢
  replace hl : lv_has ls 4 [(0, .ref h1), (1, .ref h2), (2, .ref h0)] := hl
  generalize hQQ : MQ below _ _ s 0 0 _ = QQ
  skip
  unfold wX3_findNeighbours at hwp
  refine lv_aload_n hx hb dX3_findNeighbours_0 rfl (lv_at hl 2 rfl) ?_
  refine lv_iconst (v := 0) hx hb dX3_findNeighbours_1 (by decide) ?_
  refine xcv (wr := [(h1, .inr (3, [.ref h3, .ref h2, .ref h0, .int i1, .int i2, .int i3])), (h2, aI cZ 80 f4), (h3, aI cI 160 f5)]) (va_runS (As := [.ref h0, .int 0]) (rest := []) ⟨hx, hb, hml, hown, hts⟩ (zJ7_fill_53178 l G cI cJ cZ h0 s.heap.size f0 (0 : Int32) _ hwp) (va_cwS 2 hts (xgoodS wo_4 wo_5 wo_6 wo_7) rfl rfl rfl (by decide +kernel) ⟨Nat.le_of_ble_eq_true rfl, Nat.le_of_ble_eq_true rfl⟩) (xPreS hK hN hP hD [0] (by decide) rfl) rfl rfl hl.1 rfl (lv_room (Nat.le_of_ble_eq_true rfl)) dX3_findNeighbours_2 ⟨Nat.le_of_ble_eq_true rfl, Nat.le_of_ble_eq_true rfl⟩) hP hD hS hA [0] [1, 2, 3] rfl rfl (by decide) (by decide) (fun u2 H locs hwp hP hD hS => ?_)
  replace hP : va_P G vwCl [(h1, .inr (3, [.ref h3, .ref h2, .ref h0, .int i1, .int i2, .int i3])), (h2, aI cZ 80 f4), (h3, aI cI 160 f5), (h0, aI cI 20 u2)] H := hP
  replace hD : va_D A [(h1, .inr (3, [.ref h3, .ref h2, .ref h0, .int i1, .int i2, .int i3])), (h2, aI cZ 80 f4), (h3, aI cI 160 f5), (h0, aI cI 20 u2)] := hD
  refine lv_iconst (v := 0) hx hb dX3_findNeighbours_5 (by decide) ?_
  refine lv_istore_n (lv' := [(3, .int 0), (0, .ref h1), (1, .ref h2), (2, .ref h0)]) hx hb dX3_findNeighbours_6 rfl hl (by decide) rfl (fun ls hl => ?_)
  replace hl : lv_has ls 4 [(3, .int 0), (0, .ref h1), (1, .ref h2), (2, .ref h0)] := lv_sub hl [0, 1, 2, 3] rfl
  obtain ⟨n1, hwp⟩ := hwp
  have hs1 : ∀ (n1 : Nat) (H : Heap) (locs : List Loc) (ls : Array Slot) (t7_0 : Nat → Int32) (t7_1 : Int32), wLX3_findNeighbours_7 i1 i2 i3 f4 f5 K  n1 t7_0 t7_1 → va_P G vwCl [(h1, .inr (3, [.ref h3, .ref h2, .ref h0, .int i1, .int i2, .int i3])), (h2, aI cZ 80 f4), (h3, aI cI 160 f5), (h0, aI cI 20 t7_0)] H → va_D A [(h1, .inr (3, [.ref h3, .ref h2, .ref h0, .int i1, .int i2, .int i3])), (h2, aI cZ 80 f4), (h3, aI cI 160 f5), (h0, aI cI 20 t7_0)] → va_S A s.heap H locs → lv_has ls 4 [(3, .int t7_1), (0, .ref h1), (1, .ref h2), (2, .ref h0)] → W p l e ((headSpec (xw yX3_findNeighbours cX3_findNeighbours 4 none) { frames := 1, cells := 0, slots := 0, locals := 23 }).room) s m ([.ref h1, .ref h2, .ref h0] : List Value).toArray below meth c H locs 0 0 QQ (F0 m 7 ls []) := by
    intro n1
    induction n1 with
    | zero => intro H locs ls t7_0 t7_1 hwp; exact False.elim hwp
    | succ n1 ih1 =>
      intro H locs ls t7_0 t7_1 hwp hP hD hS hl
      rw [wLX3_findNeighbours_7] at hwp
      refine lv_iload_n hx hb dX3_findNeighbours_7 rfl (lv_at hl 0 rfl) ?_
      refine lv_aload_n hx hb dX3_findNeighbours_8 rfl (lv_at hl 1 rfl) ?_
      refine va_get (D := G) (ci := 3) (v := .int i2) (C := RX3) (T := TX3) (N := 6) hx hb hts xinX3 hown hK hP 0 rfl rfl 4 (by decide) (hts _ wo_8) (fun _ h9 => h9) rfl dX3_findNeighbours_9 ?_
      refine lv_icmp_ge (tgt := 85) hx hb dX3_findNeighbours_12 (by decide) (fun c12 => ?_) (fun c12 => ?_)
      · replace hwp := hwp.1 c12
        have hP9 : va_P G vwCl [(h0, aI cI 20 t7_0), (h1, .inr (3, [.ref h3, .ref h2, .ref h0, .int i1, .int i2, .int i3])), (h2, aI cZ 80 f4), (h3, aI cI 160 f5)] H := hP.sub [3, 0, 1, 2] rfl
        have hD9 : va_D A [(h0, aI cI 20 t7_0), (h1, .inr (3, [.ref h3, .ref h2, .ref h0, .int i1, .int i2, .int i3])), (h2, aI cZ 80 f4), (h3, aI cI 160 f5)] := hD.sub [3, 0, 1, 2] (by decide) rfl
        rw [← hQQ]
        exact W.vret hx hb hr (fun t ht hW => ⟨⟨t7_0, rfl, hwp, by rw [ht]; exact hP9, hD9⟩, hS.F ht⟩) hS.2.2 dX3_findNeighbours_85
      · replace hwp := hwp.2 c12
        refine lv_aload_n hx hb dX3_findNeighbours_15 rfl (lv_at hl 2 rfl) ?_
        refine lv_iload_n hx hb dX3_findNeighbours_16 rfl (lv_at hl 0 rfl) ?_
        obtain ⟨hi, hwp⟩ := hwp
        refine va_zald hx hb hK hP 1 2 rfl rfl hi dX3_findNeighbours_17 ?_
        refine lv_if_eq (tgt := 79) hx hb dX3_findNeighbours_18 (by decide) (fun c18 => ?_) (fun c18 => ?_)
        · replace hwp := hwp.1 c18
          refine lv_iinc (v := (t7_1 + 1)) (lv' := [(3, .int (t7_1 + 1)), (0, .ref h1), (1, .ref h2), (2, .ref h0)]) hx hb dX3_findNeighbours_79 hl (k := 0) rfl rfl (by decide) rfl (fun ls hl => ?_)
          refine lv_goto (tgt := 7) hx hb dX3_findNeighbours_82 (by decide) ?_
          replace hl : lv_has ls 4 [(3, .int (t7_1 + 1)), (0, .ref h1), (1, .ref h2), (2, .ref h0)] := lv_sub hl [0, 1, 2, 3] rfl
          exact ih1 H locs ls t7_0 (t7_1 + 1) hwp hP hD hS hl
        · replace hwp := hwp.2 c18
          refine lv_aload_n hx hb dX3_findNeighbours_21 rfl (lv_at hl 1 rfl) ?_
          refine lv_iload_n hx hb dX3_findNeighbours_22 rfl (lv_at hl 0 rfl) ?_
          refine xci (wr := [(h2, aI cZ 80 f4), (h0, aI cI 20 t7_0)]) (va_runV (As := [.int t7_1]) (rest := []) ⟨hx, hb, hml, hown, hts⟩ (zX3_isLoop l G cI cJ cZ h1 h3 h2 h0 H.size i1 i2 i3 f5 t7_1 _ hwp) (cwV 1 hts (xgoodV wo_9 wo_10 wo_11 wo_12 wo_13) rfl rfl rfl (by decide +kernel) ⟨Nat.le_of_ble_eq_true rfl, Nat.le_of_ble_eq_true rfl⟩) (xPreV (q := (RX3, TX3, 6)) (q0 := 0) hK hN hP hD [0, 2] (by decide) rfl rfl rfl) rfl rfl hl.1 rfl (lv_room (Nat.le_of_ble_eq_true rfl)) dX3_findNeighbours_23 ⟨Nat.le_of_ble_eq_true rfl, Nat.le_of_ble_eq_true rfl⟩) hP hD hS hA [0, 2] [1, 3] rfl rfl (by decide) (by decide) (fun r23 u23 H locs hwp hP hD hS => ?_)
          replace hP : va_P G vwCl [(h2, aI cZ 80 f4), (h0, aI cI 20 t7_0), (h1, .inr (3, [.ref h3, .ref h2, .ref h0, .int i1, .int i2, .int i3])), (h3, aI cI 160 f5)] H := hP
          replace hD : va_D A [(h2, aI cZ 80 f4), (h0, aI cI 20 t7_0), (h1, .inr (3, [.ref h3, .ref h2, .ref h0, .int i1, .int i2, .int i3])), (h3, aI cI 160 f5)] := hD
          refine lv_if_ne (tgt := 79) hx hb dX3_findNeighbours_26 (by decide) (fun c26 => ?_) (fun c26 => ?_)
          · replace hwp := hwp.1 c26
            refine lv_iinc (v := (t7_1 + 1)) (lv' := [(3, .int (t7_1 + 1)), (0, .ref h1), (1, .ref h2), (2, .ref h0)]) hx hb dX3_findNeighbours_79 hl (k := 0) rfl rfl (by decide) rfl (fun ls hl => ?_)
            refine lv_goto (tgt := 7) hx hb dX3_findNeighbours_82 (by decide) ?_
            replace hl : lv_has ls 4 [(3, .int (t7_1 + 1)), (0, .ref h1), (1, .ref h2), (2, .ref h0)] := lv_sub hl [0, 1, 2, 3] rfl
            replace hP : va_P G vwCl [(h1, .inr (3, [.ref h3, .ref h2, .ref h0, .int i1, .int i2, .int i3])), (h2, aI cZ 80 f4), (h3, aI cI 160 f5), (h0, aI cI 20 t7_0)] H := hP.sub [2, 0, 3, 1] rfl
            replace hD : va_D A [(h1, .inr (3, [.ref h3, .ref h2, .ref h0, .int i1, .int i2, .int i3])), (h2, aI cZ 80 f4), (h3, aI cI 160 f5), (h0, aI cI 20 t7_0)] := hD.sub [2, 0, 3, 1] (by decide) rfl
            exact ih1 H locs ls t7_0 (t7_1 + 1) hwp hP hD hS hl
          · replace hwp := hwp.2 c26
            refine lv_aload_n hx hb dX3_findNeighbours_29 rfl (lv_at hl 3 rfl) ?_
            refine lv_aload_n hx hb dX3_findNeighbours_30 rfl (lv_at hl 1 rfl) ?_
            refine va_get (D := G) (ci := 3) (v := .ref h3) (C := RX3) (T := TX3) (N := 6) hx hb hts xinX3 hown hK hP 2 rfl rfl 0 (by decide) (hts _ wo_3) (fun _ h9 => h9) rfl dX3_findNeighbours_31 ?_
            refine lv_iconst (v := 2) hx hb dX3_findNeighbours_34 (by decide) ?_
            refine lv_iload_n hx hb dX3_findNeighbours_35 rfl (lv_at hl 0 rfl) ?_
            refine lv_imul hx hb dX3_findNeighbours_36 ?_
            obtain ⟨hi, hwp⟩ := hwp
            refine va_iald hx hb hK hP 3 0 rfl rfl hi dX3_findNeighbours_37 ?_
            refine lv_dup2_11 hx hb dX3_findNeighbours_38 rfl rfl ?_
            obtain ⟨hi, hwp⟩ := hwp
            refine va_iald hx hb hK hP 1 0 rfl rfl hi dX3_findNeighbours_39 ?_
            refine lv_iconst (v := 1) hx hb dX3_findNeighbours_40 (by decide) ?_
            refine lv_aload_n hx hb dX3_findNeighbours_41 rfl (lv_at hl 1 rfl) ?_
            refine va_get (D := G) (ci := 3) (v := .ref h3) (C := RX3) (T := TX3) (N := 6) hx hb hts xinX3 hown hK hP 2 rfl rfl 0 (by decide) (hts _ wo_3) (fun _ h9 => h9) rfl dX3_findNeighbours_42 ?_
            refine lv_iconst (v := 2) hx hb dX3_findNeighbours_45 (by decide) ?_
            refine lv_iload_n hx hb dX3_findNeighbours_46 rfl (lv_at hl 0 rfl) ?_
            refine lv_imul hx hb dX3_findNeighbours_47 ?_
            refine lv_iconst (v := 1) hx hb dX3_findNeighbours_48 (by decide) ?_
            refine lv_iadd hx hb dX3_findNeighbours_49 ?_
            obtain ⟨hi, hwp⟩ := hwp
            refine va_iald hx hb hK hP 3 0 rfl rfl hi dX3_findNeighbours_50 ?_
            refine lv_ishl hx hb dX3_findNeighbours_51 ?_
            refine lv_ior hx hb dX3_findNeighbours_52 ?_
            obtain ⟨hi, hwp⟩ := hwp
            refine va_iast hx hb hK hP hD hS 1 0 rfl rfl hi dX3_findNeighbours_53 (fun H locs hP hD hS => ?_)
            obtain ⟨g53, eg53⟩ : ∃ z, z = upd t7_0 (Int32.toNatClampNeg (f5 (Int32.toNatClampNeg ((2 : Int32) * t7_1)))) ((t7_0 (Int32.toNatClampNeg (f5 (Int32.toNatClampNeg ((2 : Int32) * t7_1))))) ||| ((1 : Int32) <<< ((f5 (Int32.toNatClampNeg (((2 : Int32) * t7_1) + 1))) &&& 31))) := ⟨_, rfl⟩
            replace hwp := hwp g53 eg53
            replace hP : va_P G vwCl [(h2, aI cZ 80 f4), (h0, aI cI 20 g53), (h1, .inr (3, [.ref h3, .ref h2, .ref h0, .int i1, .int i2, .int i3])), (h3, aI cI 160 f5)] H := by rw [eg53]; exact hP
            replace hD : va_D A [(h2, aI cZ 80 f4), (h0, aI cI 20 g53), (h1, .inr (3, [.ref h3, .ref h2, .ref h0, .int i1, .int i2, .int i3])), (h3, aI cI 160 f5)] := by rw [eg53]; exact hD
            clear eg53
            refine lv_aload_n hx hb dX3_findNeighbours_54 rfl (lv_at hl 3 rfl) ?_
            refine lv_aload_n hx hb dX3_findNeighbours_55 rfl (lv_at hl 1 rfl) ?_
            refine va_get (D := G) (ci := 3) (v := .ref h3) (C := RX3) (T := TX3) (N := 6) hx hb hts xinX3 hown hK hP 2 rfl rfl 0 (by decide) (hts _ wo_3) (fun _ h9 => h9) rfl dX3_findNeighbours_56 ?_
            refine lv_iconst (v := 2) hx hb dX3_findNeighbours_59 (by decide) ?_
            refine lv_iload_n hx hb dX3_findNeighbours_60 rfl (lv_at hl 0 rfl) ?_
            refine lv_imul hx hb dX3_findNeighbours_61 ?_
            refine lv_iconst (v := 1) hx hb dX3_findNeighbours_62 (by decide) ?_
            refine lv_iadd hx hb dX3_findNeighbours_63 ?_
            obtain ⟨hi, hwp⟩ := hwp
            refine va_iald hx hb hK hP 3 0 rfl rfl hi dX3_findNeighbours_64 ?_
            refine lv_dup2_11 hx hb dX3_findNeighbours_65 rfl rfl ?_
            obtain ⟨hi, hwp⟩ := hwp
            refine va_iald hx hb hK hP 1 0 rfl rfl hi dX3_findNeighbours_66 ?_
            refine lv_iconst (v := 1) hx hb dX3_findNeighbours_67 (by decide) ?_
            refine lv_aload_n hx hb dX3_findNeighbours_68 rfl (lv_at hl 1 rfl) ?_
            refine va_get (D := G) (ci := 3) (v := .ref h3) (C := RX3) (T := TX3) (N := 6) hx hb hts xinX3 hown hK hP 2 rfl rfl 0 (by decide) (hts _ wo_3) (fun _ h9 => h9) rfl dX3_findNeighbours_69 ?_
            refine lv_iconst (v := 2) hx hb dX3_findNeighbours_72 (by decide) ?_
            refine lv_iload_n hx hb dX3_findNeighbours_73 rfl (lv_at hl 0 rfl) ?_
            refine lv_imul hx hb dX3_findNeighbours_74 ?_
            obtain ⟨hi, hwp⟩ := hwp
            refine va_iald hx hb hK hP 3 0 rfl rfl hi dX3_findNeighbours_75 ?_
            refine lv_ishl hx hb dX3_findNeighbours_76 ?_
            refine lv_ior hx hb dX3_findNeighbours_77 ?_
            obtain ⟨hi, hwp⟩ := hwp
            refine va_iast hx hb hK hP hD hS 1 0 rfl rfl hi dX3_findNeighbours_78 (fun H locs hP hD hS => ?_)
            obtain ⟨g78, eg78⟩ : ∃ z, z = upd g53 (Int32.toNatClampNeg (f5 (Int32.toNatClampNeg (((2 : Int32) * t7_1) + 1)))) ((g53 (Int32.toNatClampNeg (f5 (Int32.toNatClampNeg (((2 : Int32) * t7_1) + 1))))) ||| ((1 : Int32) <<< ((f5 (Int32.toNatClampNeg ((2 : Int32) * t7_1))) &&& 31))) := ⟨_, rfl⟩
            replace hwp := hwp g78 eg78
            replace hP : va_P G vwCl [(h2, aI cZ 80 f4), (h0, aI cI 20 g78), (h1, .inr (3, [.ref h3, .ref h2, .ref h0, .int i1, .int i2, .int i3])), (h3, aI cI 160 f5)] H := by rw [eg78]; exact hP
            replace hD : va_D A [(h2, aI cZ 80 f4), (h0, aI cI 20 g78), (h1, .inr (3, [.ref h3, .ref h2, .ref h0, .int i1, .int i2, .int i3])), (h3, aI cI 160 f5)] := by rw [eg78]; exact hD
            clear eg78
            refine lv_iinc (v := (t7_1 + 1)) (lv' := [(3, .int (t7_1 + 1)), (0, .ref h1), (1, .ref h2), (2, .ref h0)]) hx hb dX3_findNeighbours_79 hl (k := 0) rfl rfl (by decide) rfl (fun ls hl => ?_)
            refine lv_goto (tgt := 7) hx hb dX3_findNeighbours_82 (by decide) ?_
            replace hl : lv_has ls 4 [(3, .int (t7_1 + 1)), (0, .ref h1), (1, .ref h2), (2, .ref h0)] := lv_sub hl [0, 1, 2, 3] rfl
            replace hP : va_P G vwCl [(h1, .inr (3, [.ref h3, .ref h2, .ref h0, .int i1, .int i2, .int i3])), (h2, aI cZ 80 f4), (h3, aI cI 160 f5), (h0, aI cI 20 g78)] H := hP.sub [2, 0, 3, 1] rfl
            replace hD : va_D A [(h1, .inr (3, [.ref h3, .ref h2, .ref h0, .int i1, .int i2, .int i3])), (h2, aI cZ 80 f4), (h3, aI cI 160 f5), (h0, aI cI 20 g78)] := hD.sub [2, 0, 3, 1] (by decide) rfl
            exact ih1 H locs ls g78 (t7_1 + 1) hwp hP hD hS hl
  exact hs1 n1 H locs ls u2 0 hwp hP hD hS hl
def wX3_empty (i0 : Int32) (i1 : Int32) (i2 : Int32) (f3 : Nat → Int32) (f4 : Nat → Int32) (f5 : Nat → Int32) (K : (Int32 × Int32 × Int32 × (Nat → Int32)) → Prop) : Prop := (wX3_findNeighbours f3 (0 : Int32) (0 : Int32) (0 : Int32) f4 f5 (fun u24 => K ((0 : Int32), (0 : Int32), (0 : Int32), u24)))
set_option maxHeartbeats 4000000 in
set_option maxRecDepth 100000 in
theorem zX3_empty (l : Launch) (G : va_G) (cI cJ cZ : ClassId) (h0 h1 h2 h3 sz : Nat) (i0 : Int32) (i1 : Int32) (i2 : Int32) (f3 : Nat → Int32) (f4 : Nat → Int32) (f5 : Nat → Int32) (K : (Int32 × Int32 × Int32 × (Nat → Int32)) → Prop) (hwp : wX3_empty i0 i1 i2 f3 f4 f5 K) : Met l yX3_empty (xw yX3_empty cX3_empty 1 none) ({ frames := 2, cells := 0, slots := 0, locals := 46 }) (xPc G cI cJ cZ [.ref h0] [(h0, .inr (3, [.ref h3, .ref h2, .ref h1, .int i0, .int i1, .int i2])), (h1, aI cI 20 f3), (h2, aI cZ 80 f4), (h3, aI cI 160 f5)] sz) (va_Qv (fun (u : Int32 × Int32 × Int32 × (Nat → Int32)) => K u) (fun (u : Int32 × Int32 × Int32 × (Nat → Int32)) t => xB G (va_A [(h0, .inr (3, [.ref h3, .ref h2, .ref h1, .int i0, .int i1, .int i2])), (h1, aI cI 20 f3), (h2, aI cZ 80 f4), (h3, aI cI 160 f5)] sz) [(h0, .inr (3, [.ref h3, .ref h2, .ref h1, .int u.1, .int u.2.1, .int u.2.2.1])), (h1, aI cI 20 u.2.2.2), (h2, aI cZ 80 f4), (h3, aI cI 160 f5)] t) (va_A [(h0, .inr (3, [.ref h3, .ref h2, .ref h1, .int i0, .int i1, .int i2])), (h1, aI cI 20 f3), (h2, aI cZ 80 f4), (h3, aI cI 160 f5)] sz)) 0 0 (va_A [(h0, .inr (3, [.ref h3, .ref h2, .ref h1, .int i0, .int i1, .int i2])), (h1, aI cI 20 f3), (h2, aI cZ 80 f4), (h3, aI cI 160 f5)] sz) := by
  refine Met.ofW (cc := cX3_empty) (maxL := 1) (ret := none) (by decide) rfl ?_
  intro p e s m args below meth c s₁ B hml hv
  obtain ⟨rfl, hsz, hP, hK, hD0, hN⟩ := hv
  have hx := B.exec
  have hb := B.bytes
  have hr := B.returns
  have hts : ∀ w ∈ xW, w.before _ s = true := fun w h => atoms_spec (ws := xw yX3_empty cX3_empty 1 none) B.pre w (List.mem_cons_of_mem _ h)
  have hown : s.vm.findClass RX3 = some m.cls := findClass_of_methodNamed B.named
  have hlocks := B.notSynchronized
  subst hsz
  have hD := hD0.self (sz := s.heap.size)
  clear hD0
  generalize hAe : va_A [(h0, .inr (3, [.ref h3, .ref h2, .ref h1, .int i0, .int i1, .int i2])), (h1, aI cI 20 f3), (h2, aI cZ 80 f4), (h3, aI cI 160 f5)] s.heap.size = A at hD ⊢
  have hA : ∀ q : Nat, s.heap.size ≤ q → A q := fun q h => by rw [← hAe]; exact Or.inr h
  clear hAe
  have hS : va_S A s.heap s.heap [] := va_S.rf
  replace hP : va_P G vwCl [(h0, .inr (3, [.ref h3, .ref h2, .ref h1, .int i0, .int i1, .int i2])), (h1, aI cI 20 f3), (h2, aI cZ 80 f4), (h3, aI cI 160 f5)] s.heap := hP
  have hl := lv_entry ([.ref h0]) (n := 1) (Nat.le_of_ble_eq_true rfl)
  rw [lg_entry_eq]
  generalize (lg_sl ([.ref h0]) ++ List.replicate (1 - (lg_sl ([.ref h0])).length) Slot.unset).toArray = ls at hl ⊢
  replace hl : lv_has ls 1 [(0, .ref h0)] := hl
  generalize hQQ : MQ below _ _ s 0 0 _ = QQ
  skip
  unfold wX3_empty at hwp
  refine lv_aload_n hx hb dX3_empty_0 rfl (lv_at hl 0 rfl) ?_
  refine lv_iconst (v := 0) hx hb dX3_empty_1 (by decide) ?_
  refine va_put (D := G) (ci := 3) (v := .int 0) (ty := .int) (C := RX3) (T := TX3) (N := 6) hx hb hts xinX3 tyX3 tyX3_ok nmX3 hown hK hP hD hS 0 rfl rfl 3 (by decide) (hts _ wo_14) (fun _ h9 => h9) rfl (by decide +kernel) rfl rfl (Nat.le_of_ble_eq_true rfl) dX3_empty_2 (fun H locs hP hD hS => ?_)
  replace hP : va_P G vwCl [(h0, .inr (3, [.ref h3, .ref h2, .ref h1, .int 0, .int i1, .int i2])), (h1, aI cI 20 f3), (h2, aI cZ 80 f4), (h3, aI cI 160 f5)] H := hP
  replace hD : va_D A [(h0, .inr (3, [.ref h3, .ref h2, .ref h1, .int 0, .int i1, .int i2])), (h1, aI cI 20 f3), (h2, aI cZ 80 f4), (h3, aI cI 160 f5)] := hD
  refine lv_aload_n hx hb dX3_empty_5 rfl (lv_at hl 0 rfl) ?_
  refine lv_iconst (v := 0) hx hb dX3_empty_6 (by decide) ?_
  refine va_put (D := G) (ci := 3) (v := .int 0) (ty := .int) (C := RX3) (T := TX3) (N := 6) hx hb hts xinX3 tyX3 tyX3_ok nmX3 hown hK hP hD hS 0 rfl rfl 4 (by decide) (hts _ wo_8) (fun _ h9 => h9) rfl (by decide +kernel) rfl rfl (Nat.le_of_ble_eq_true rfl) dX3_empty_7 (fun H locs hP hD hS => ?_)
  replace hP : va_P G vwCl [(h0, .inr (3, [.ref h3, .ref h2, .ref h1, .int 0, .int 0, .int i2])), (h1, aI cI 20 f3), (h2, aI cZ 80 f4), (h3, aI cI 160 f5)] H := hP
  replace hD : va_D A [(h0, .inr (3, [.ref h3, .ref h2, .ref h1, .int 0, .int 0, .int i2])), (h1, aI cI 20 f3), (h2, aI cZ 80 f4), (h3, aI cI 160 f5)] := hD
  refine lv_aload_n hx hb dX3_empty_10 rfl (lv_at hl 0 rfl) ?_
  refine lv_iconst (v := 0) hx hb dX3_empty_11 (by decide) ?_
  refine va_put (D := G) (ci := 3) (v := .int 0) (ty := .int) (C := RX3) (T := TX3) (N := 6) hx hb hts xinX3 tyX3 tyX3_ok nmX3 hown hK hP hD hS 0 rfl rfl 5 (by decide) (hts _ wo_15) (fun _ h9 => h9) rfl (by decide +kernel) rfl rfl (Nat.le_of_ble_eq_true rfl) dX3_empty_12 (fun H locs hP hD hS => ?_)
  replace hP : va_P G vwCl [(h0, .inr (3, [.ref h3, .ref h2, .ref h1, .int 0, .int 0, .int 0])), (h1, aI cI 20 f3), (h2, aI cZ 80 f4), (h3, aI cI 160 f5)] H := hP
  replace hD : va_D A [(h0, .inr (3, [.ref h3, .ref h2, .ref h1, .int 0, .int 0, .int 0])), (h1, aI cI 20 f3), (h2, aI cZ 80 f4), (h3, aI cI 160 f5)] := hD
  refine lv_aload_n hx hb dX3_empty_15 rfl (lv_at hl 0 rfl) ?_
  refine lv_aload_n hx hb dX3_empty_16 rfl (lv_at hl 0 rfl) ?_
  refine va_get (D := G) (ci := 3) (v := .ref h2) (C := RX3) (T := TX3) (N := 6) hx hb hts xinX3 hown hK hP 0 rfl rfl 1 (by decide) (hts _ wo_16) (fun _ h9 => h9) rfl dX3_empty_17 ?_
  refine lv_aload_n hx hb dX3_empty_20 rfl (lv_at hl 0 rfl) ?_
  refine va_get (D := G) (ci := 3) (v := .ref h1) (C := RX3) (T := TX3) (N := 6) hx hb hts xinX3 hown hK hP 0 rfl rfl 2 (by decide) (hts _ wo_17) (fun _ h9 => h9) rfl dX3_empty_21 ?_
  refine xcv (wr := []) (va_runV (As := [.ref h2, .ref h1]) (rest := []) ⟨hx, hb, hml, hown, hts⟩ (zX3_findNeighbours l G cI cJ cZ h1 h0 h2 h3 H.size f3 (0 : Int32) (0 : Int32) (0 : Int32) f4 f5 _ hwp) (cwV 2 hts (xgoodV wo_18 wo_19 wo_20 wo_21 wo_13) rfl rfl rfl (by decide +kernel) ⟨Nat.le_of_ble_eq_true rfl, Nat.le_of_ble_eq_true rfl⟩) (xPreV (q := (RX3, TX3, 6)) (q0 := 0) hK hN hP hD [1, 0, 2, 3] (by decide) rfl rfl rfl) rfl rfl hl.1 rfl (lv_room (Nat.le_of_ble_eq_true rfl)) dX3_empty_24 ⟨Nat.le_of_ble_eq_true rfl, Nat.le_of_ble_eq_true rfl⟩) hP hD hS hA [1, 0, 2, 3] [] rfl rfl (by decide) (by decide) (fun u24 H locs hwp hP hD hS => ?_)
  replace hP : va_P G vwCl [(h1, aI cI 20 u24), (h0, .inr (3, [.ref h3, .ref h2, .ref h1, .int 0, .int 0, .int 0])), (h2, aI cZ 80 f4), (h3, aI cI 160 f5)] H := hP
  replace hD : va_D A [(h1, aI cI 20 u24), (h0, .inr (3, [.ref h3, .ref h2, .ref h1, .int 0, .int 0, .int 0])), (h2, aI cZ 80 f4), (h3, aI cI 160 f5)] := hD
  have hP9 : va_P G vwCl [(h0, .inr (3, [.ref h3, .ref h2, .ref h1, .int 0, .int 0, .int 0])), (h1, aI cI 20 u24), (h2, aI cZ 80 f4), (h3, aI cI 160 f5)] H := hP.sub [1, 0, 2, 3] rfl
  have hD9 : va_D A [(h0, .inr (3, [.ref h3, .ref h2, .ref h1, .int 0, .int 0, .int 0])), (h1, aI cI 20 u24), (h2, aI cZ 80 f4), (h3, aI cI 160 f5)] := hD.sub [1, 0, 2, 3] (by decide) rfl
  rw [← hQQ]
  exact W.vret hx hb hr (fun t ht hW => ⟨⟨((0 : Int32), (0 : Int32), (0 : Int32), u24), rfl, hwp, by rw [ht]; exact hP9, hD9⟩, hS.F ht⟩) hS.2.2 dX3_empty_27
def wX3_hasNode (i0 : Int32) (i1 : Int32) (i2 : Int32) (p0 : Int32) (K : Int32 → Unit → Prop) : Prop := ((p0 < 0 → K (0 : Int32) ()) ∧ (¬ p0 < 0 → ((i0 ≤ p0 → K (0 : Int32) ()) ∧ (¬ i0 ≤ p0 → K (1 : Int32) ()))))
set_option maxHeartbeats 4000000 in
set_option maxRecDepth 100000 in
theorem zX3_hasNode (l : Launch) (G : va_G) (cI cJ cZ : ClassId) (h0 k0 k1 k2 sz : Nat) (i0 : Int32) (i1 : Int32) (i2 : Int32) (p0 : Int32) (K : Int32 → Unit → Prop) (hwp : wX3_hasNode i0 i1 i2 p0 K) : Met l yX3_hasNode (xw yX3_hasNode cX3_hasNode 2 (some .boolean)) ({ frames := 0, cells := 0, slots := 0, locals := 0 }) (xPc G cI cJ cZ [.ref h0, .int p0] [(h0, .inr (3, [.ref k0, .ref k1, .ref k2, .int i0, .int i1, .int i2]))] sz) (va_Qi (fun (r : Int32) (u : Unit) => K r u) (fun (u : Unit) t => xB G (va_A [(h0, .inr (3, [.ref k0, .ref k1, .ref k2, .int i0, .int i1, .int i2]))] sz) [(h0, .inr (3, [.ref k0, .ref k1, .ref k2, .int i0, .int i1, .int i2]))] t) (va_A [(h0, .inr (3, [.ref k0, .ref k1, .ref k2, .int i0, .int i1, .int i2]))] sz)) 0 0 (va_A [(h0, .inr (3, [.ref k0, .ref k1, .ref k2, .int i0, .int i1, .int i2]))] sz) := by
  refine Met.ofW (cc := cX3_hasNode) (maxL := 2) (ret := (some .boolean)) (by decide) rfl ?_
  intro p e s m args below meth c s₁ B hml hv
  obtain ⟨rfl, hsz, hP, hK, hD0, hN⟩ := hv
  have hx := B.exec
  have hb := B.bytes
  have hr := B.returns
  have hts : ∀ w ∈ xW, w.before _ s = true := fun w h => atoms_spec (ws := xw yX3_hasNode cX3_hasNode 2 (some .boolean)) B.pre w (List.mem_cons_of_mem _ h)
  have hown : s.vm.findClass RX3 = some m.cls := findClass_of_methodNamed B.named
  have hlocks := B.notSynchronized
  subst hsz
  have hD := hD0.self (sz := s.heap.size)
  clear hD0
  generalize hAe : va_A [(h0, .inr (3, [.ref k0, .ref k1, .ref k2, .int i0, .int i1, .int i2]))] s.heap.size = A at hD ⊢
  have hA : ∀ q : Nat, s.heap.size ≤ q → A q := fun q h => by rw [← hAe]; exact Or.inr h
  clear hAe
  have hS : va_S A s.heap s.heap [] := va_S.rf
  replace hP : va_P G vwCl [(h0, .inr (3, [.ref k0, .ref k1, .ref k2, .int i0, .int i1, .int i2]))] s.heap := hP
  have hl := lv_entry ([.ref h0, .int p0]) (n := 2) (Nat.le_of_ble_eq_true rfl)
  rw [lg_entry_eq]
  generalize (lg_sl ([.ref h0, .int p0]) ++ List.replicate (2 - (lg_sl ([.ref h0, .int p0])).length) Slot.unset).toArray = ls at hl ⊢
  replace hl : lv_has ls 2 [(0, .ref h0), (1, .int p0)] := hl
  generalize hQQ : MQ below _ _ s 0 0 _ = QQ
  skip
  unfold wX3_hasNode at hwp
  refine lv_iload_n hx hb dX3_hasNode_0 rfl (lv_at hl 1 rfl) ?_
  refine lv_if_lt (tgt := 16) hx hb dX3_hasNode_1 (by decide) (fun c1 => ?_) (fun c1 => ?_)
  · replace hwp := hwp.1 c1
    refine lv_iconst (v := 0) hx hb dX3_hasNode_16 (by decide) ?_
    have hP9 : va_P G vwCl [(h0, .inr (3, [.ref k0, .ref k1, .ref k2, .int i0, .int i1, .int i2]))] s.heap := hP.sub [0] rfl
    have hD9 : va_D A [(h0, .inr (3, [.ref k0, .ref k1, .ref k2, .int i0, .int i1, .int i2]))] := hD.sub [0] (by decide) rfl
    rw [← hQQ]
    exact W.zret (v := 0) hx hb hr rfl (fun t ht hW => ⟨⟨_, (), rfl, hwp, by rw [ht]; exact hP9, hD9⟩, hS.F ht⟩) hS.2.2 dX3_hasNode_17
  · replace hwp := hwp.2 c1
    refine lv_iload_n hx hb dX3_hasNode_4 rfl (lv_at hl 1 rfl) ?_
    refine lv_aload_n hx hb dX3_hasNode_5 rfl (lv_at hl 0 rfl) ?_
    refine va_get (D := G) (ci := 3) (v := .int i0) (C := RX3) (T := TX3) (N := 6) hx hb hts xinX3 hown hK hP 0 rfl rfl 3 (by decide) (hts _ wo_14) (fun _ h9 => h9) rfl dX3_hasNode_6 ?_
    refine lv_icmp_ge (tgt := 16) hx hb dX3_hasNode_9 (by decide) (fun c9 => ?_) (fun c9 => ?_)
    · replace hwp := hwp.1 c9
      refine lv_iconst (v := 0) hx hb dX3_hasNode_16 (by decide) ?_
      have hP9 : va_P G vwCl [(h0, .inr (3, [.ref k0, .ref k1, .ref k2, .int i0, .int i1, .int i2]))] s.heap := hP.sub [0] rfl
      have hD9 : va_D A [(h0, .inr (3, [.ref k0, .ref k1, .ref k2, .int i0, .int i1, .int i2]))] := hD.sub [0] (by decide) rfl
      rw [← hQQ]
      exact W.zret (v := 0) hx hb hr rfl (fun t ht hW => ⟨⟨_, (), rfl, hwp, by rw [ht]; exact hP9, hD9⟩, hS.F ht⟩) hS.2.2 dX3_hasNode_17
    · replace hwp := hwp.2 c9
      refine lv_iconst (v := 1) hx hb dX3_hasNode_12 (by decide) ?_
      refine lv_goto (tgt := 17) hx hb dX3_hasNode_13 (by decide) ?_
      have hP9 : va_P G vwCl [(h0, .inr (3, [.ref k0, .ref k1, .ref k2, .int i0, .int i1, .int i2]))] s.heap := hP.sub [0] rfl
      have hD9 : va_D A [(h0, .inr (3, [.ref k0, .ref k1, .ref k2, .int i0, .int i1, .int i2]))] := hD.sub [0] (by decide) rfl
      rw [← hQQ]
      exact W.zret (v := 1) hx hb hr rfl (fun t ht hW => ⟨⟨_, (), rfl, hwp, by rw [ht]; exact hP9, hD9⟩, hS.F ht⟩) hS.2.2 dX3_hasNode_17
def wX3_hasArc (i0 : Int32) (i1 : Int32) (i2 : Int32) (f3 : Nat → Int32) (p0 : Int32) (K : Int32 → Unit → Prop) : Prop := ((p0 < 0 → K (0 : Int32) ()) ∧ (¬ p0 < 0 → ((i1 ≤ p0 → K (0 : Int32) ()) ∧ (¬ i1 ≤ p0 → (vp_in p0 80 ∧ (((f3 (Int32.toNatClampNeg p0)) = 0 → K (0 : Int32) ()) ∧ (¬ (f3 (Int32.toNatClampNeg p0)) = 0 → K (1 : Int32) ())))))))
set_option maxHeartbeats 4000000 in
set_option maxRecDepth 100000 in
theorem zX3_hasArc (l : Launch) (G : va_G) (cI cJ cZ : ClassId) (h0 h1 k0 k1 sz : Nat) (i0 : Int32) (i1 : Int32) (i2 : Int32) (f3 : Nat → Int32) (p0 : Int32) (K : Int32 → Unit → Prop) (hwp : wX3_hasArc i0 i1 i2 f3 p0 K) : Met l yX3_hasArc (xw yX3_hasArc cX3_hasArc 2 (some .boolean)) ({ frames := 0, cells := 0, slots := 0, locals := 0 }) (xPc G cI cJ cZ [.ref h0, .int p0] [(h0, .inr (3, [.ref k0, .ref h1, .ref k1, .int i0, .int i1, .int i2])), (h1, aI cZ 80 f3)] sz) (va_Qi (fun (r : Int32) (u : Unit) => K r u) (fun (u : Unit) t => xB G (va_A [(h0, .inr (3, [.ref k0, .ref h1, .ref k1, .int i0, .int i1, .int i2])), (h1, aI cZ 80 f3)] sz) [(h0, .inr (3, [.ref k0, .ref h1, .ref k1, .int i0, .int i1, .int i2])), (h1, aI cZ 80 f3)] t) (va_A [(h0, .inr (3, [.ref k0, .ref h1, .ref k1, .int i0, .int i1, .int i2])), (h1, aI cZ 80 f3)] sz)) 0 0 (va_A [(h0, .inr (3, [.ref k0, .ref h1, .ref k1, .int i0, .int i1, .int i2])), (h1, aI cZ 80 f3)] sz) := by
  refine Met.ofW (cc := cX3_hasArc) (maxL := 2) (ret := (some .boolean)) (by decide) rfl ?_
  intro p e s m args below meth c s₁ B hml hv
  obtain ⟨rfl, hsz, hP, hK, hD0, hN⟩ := hv
  have hx := B.exec
  have hb := B.bytes
  have hr := B.returns
  have hts : ∀ w ∈ xW, w.before _ s = true := fun w h => atoms_spec (ws := xw yX3_hasArc cX3_hasArc 2 (some .boolean)) B.pre w (List.mem_cons_of_mem _ h)
  have hown : s.vm.findClass RX3 = some m.cls := findClass_of_methodNamed B.named
  have hlocks := B.notSynchronized
  subst hsz
  have hD := hD0.self (sz := s.heap.size)
  clear hD0
  generalize hAe : va_A [(h0, .inr (3, [.ref k0, .ref h1, .ref k1, .int i0, .int i1, .int i2])), (h1, aI cZ 80 f3)] s.heap.size = A at hD ⊢
  have hA : ∀ q : Nat, s.heap.size ≤ q → A q := fun q h => by rw [← hAe]; exact Or.inr h
  clear hAe
  have hS : va_S A s.heap s.heap [] := va_S.rf
  replace hP : va_P G vwCl [(h0, .inr (3, [.ref k0, .ref h1, .ref k1, .int i0, .int i1, .int i2])), (h1, aI cZ 80 f3)] s.heap := hP
  have hl := lv_entry ([.ref h0, .int p0]) (n := 2) (Nat.le_of_ble_eq_true rfl)
  rw [lg_entry_eq]
  generalize (lg_sl ([.ref h0, .int p0]) ++ List.replicate (2 - (lg_sl ([.ref h0, .int p0])).length) Slot.unset).toArray = ls at hl ⊢
  replace hl : lv_has ls 2 [(0, .ref h0), (1, .int p0)] := hl
  generalize hQQ : MQ below _ _ s 0 0 _ = QQ
  skip
  unfold wX3_hasArc at hwp
  refine lv_iload_n hx hb dX3_hasArc_0 rfl (lv_at hl 1 rfl) ?_
  refine lv_if_lt (tgt := 25) hx hb dX3_hasArc_1 (by decide) (fun c1 => ?_) (fun c1 => ?_)
  · replace hwp := hwp.1 c1
    refine lv_iconst (v := 0) hx hb dX3_hasArc_25 (by decide) ?_
    have hP9 : va_P G vwCl [(h0, .inr (3, [.ref k0, .ref h1, .ref k1, .int i0, .int i1, .int i2])), (h1, aI cZ 80 f3)] s.heap := hP.sub [0, 1] rfl
    have hD9 : va_D A [(h0, .inr (3, [.ref k0, .ref h1, .ref k1, .int i0, .int i1, .int i2])), (h1, aI cZ 80 f3)] := hD.sub [0, 1] (by decide) rfl
    rw [← hQQ]
    exact W.zret (v := 0) hx hb hr rfl (fun t ht hW => ⟨⟨_, (), rfl, hwp, by rw [ht]; exact hP9, hD9⟩, hS.F ht⟩) hS.2.2 dX3_hasArc_26
  · replace hwp := hwp.2 c1
    refine lv_iload_n hx hb dX3_hasArc_4 rfl (lv_at hl 1 rfl) ?_
    refine lv_aload_n hx hb dX3_hasArc_5 rfl (lv_at hl 0 rfl) ?_
    refine va_get (D := G) (ci := 3) (v := .int i1) (C := RX3) (T := TX3) (N := 6) hx hb hts xinX3 hown hK hP 0 rfl rfl 4 (by decide) (hts _ wo_8) (fun _ h9 => h9) rfl dX3_hasArc_6 ?_
    refine lv_icmp_ge (tgt := 25) hx hb dX3_hasArc_9 (by decide) (fun c9 => ?_) (fun c9 => ?_)
    · replace hwp := hwp.1 c9
      refine lv_iconst (v := 0) hx hb dX3_hasArc_25 (by decide) ?_
      have hP9 : va_P G vwCl [(h0, .inr (3, [.ref k0, .ref h1, .ref k1, .int i0, .int i1, .int i2])), (h1, aI cZ 80 f3)] s.heap := hP.sub [0, 1] rfl
      have hD9 : va_D A [(h0, .inr (3, [.ref k0, .ref h1, .ref k1, .int i0, .int i1, .int i2])), (h1, aI cZ 80 f3)] := hD.sub [0, 1] (by decide) rfl
      rw [← hQQ]
      exact W.zret (v := 0) hx hb hr rfl (fun t ht hW => ⟨⟨_, (), rfl, hwp, by rw [ht]; exact hP9, hD9⟩, hS.F ht⟩) hS.2.2 dX3_hasArc_26
    · replace hwp := hwp.2 c9
      refine lv_aload_n hx hb dX3_hasArc_12 rfl (lv_at hl 0 rfl) ?_
      refine va_get (D := G) (ci := 3) (v := .ref h1) (C := RX3) (T := TX3) (N := 6) hx hb hts xinX3 hown hK hP 0 rfl rfl 1 (by decide) (hts _ wo_16) (fun _ h9 => h9) rfl dX3_hasArc_13 ?_
      refine lv_iload_n hx hb dX3_hasArc_16 rfl (lv_at hl 1 rfl) ?_
      obtain ⟨hi, hwp⟩ := hwp
      refine va_zald hx hb hK hP 1 2 rfl rfl hi dX3_hasArc_17 ?_
      refine lv_if_eq (tgt := 25) hx hb dX3_hasArc_18 (by decide) (fun c18 => ?_) (fun c18 => ?_)
      · replace hwp := hwp.1 c18
        refine lv_iconst (v := 0) hx hb dX3_hasArc_25 (by decide) ?_
        have hP9 : va_P G vwCl [(h0, .inr (3, [.ref k0, .ref h1, .ref k1, .int i0, .int i1, .int i2])), (h1, aI cZ 80 f3)] s.heap := hP.sub [0, 1] rfl
        have hD9 : va_D A [(h0, .inr (3, [.ref k0, .ref h1, .ref k1, .int i0, .int i1, .int i2])), (h1, aI cZ 80 f3)] := hD.sub [0, 1] (by decide) rfl
        rw [← hQQ]
        exact W.zret (v := 0) hx hb hr rfl (fun t ht hW => ⟨⟨_, (), rfl, hwp, by rw [ht]; exact hP9, hD9⟩, hS.F ht⟩) hS.2.2 dX3_hasArc_26
      · replace hwp := hwp.2 c18
        refine lv_iconst (v := 1) hx hb dX3_hasArc_21 (by decide) ?_
        refine lv_goto (tgt := 26) hx hb dX3_hasArc_22 (by decide) ?_
        have hP9 : va_P G vwCl [(h0, .inr (3, [.ref k0, .ref h1, .ref k1, .int i0, .int i1, .int i2])), (h1, aI cZ 80 f3)] s.heap := hP.sub [0, 1] rfl
        have hD9 : va_D A [(h0, .inr (3, [.ref k0, .ref h1, .ref k1, .int i0, .int i1, .int i2])), (h1, aI cZ 80 f3)] := hD.sub [0, 1] (by decide) rfl
        rw [← hQQ]
        exact W.zret (v := 1) hx hb hr rfl (fun t ht hW => ⟨⟨_, (), rfl, hwp, by rw [ht]; exact hP9, hD9⟩, hS.F ht⟩) hS.2.2 dX3_hasArc_26
def wX3_addNode (i0 : Int32) (i1 : Int32) (i2 : Int32) (K : Int32 → (Int32) → Prop) : Prop := (∀ v7 : Int32, v7 = (i0 + 1) → K (v7 - 1) v7)
set_option maxHeartbeats 4000000 in
set_option maxRecDepth 100000 in
theorem zX3_addNode (l : Launch) (G : va_G) (cI cJ cZ : ClassId) (h0 k0 k1 k2 sz : Nat) (i0 : Int32) (i1 : Int32) (i2 : Int32) (K : Int32 → (Int32) → Prop) (hwp : wX3_addNode i0 i1 i2 K) : Met l yX3_addNode (xw yX3_addNode cX3_addNode 1 (some .int)) ({ frames := 0, cells := 0, slots := 0, locals := 0 }) (xPc G cI cJ cZ [.ref h0] [(h0, .inr (3, [.ref k0, .ref k1, .ref k2, .int i0, .int i1, .int i2]))] sz) (va_Qi (fun (r : Int32) (u : Int32) => K r u) (fun (u : Int32) t => xB G (va_A [(h0, .inr (3, [.ref k0, .ref k1, .ref k2, .int i0, .int i1, .int i2]))] sz) [(h0, .inr (3, [.ref k0, .ref k1, .ref k2, .int u, .int i1, .int i2]))] t) (va_A [(h0, .inr (3, [.ref k0, .ref k1, .ref k2, .int i0, .int i1, .int i2]))] sz)) 0 0 (va_A [(h0, .inr (3, [.ref k0, .ref k1, .ref k2, .int i0, .int i1, .int i2]))] sz) := by
  refine Met.ofW (cc := cX3_addNode) (maxL := 1) (ret := (some .int)) (by decide) rfl ?_
  intro p e s m args below meth c s₁ B hml hv
  obtain ⟨rfl, hsz, hP, hK, hD0, hN⟩ := hv
  have hx := B.exec
  have hb := B.bytes
  have hr := B.returns
  have hts : ∀ w ∈ xW, w.before _ s = true := fun w h => atoms_spec (ws := xw yX3_addNode cX3_addNode 1 (some .int)) B.pre w (List.mem_cons_of_mem _ h)
  have hown : s.vm.findClass RX3 = some m.cls := findClass_of_methodNamed B.named
  have hlocks := B.notSynchronized
  subst hsz
  have hD := hD0.self (sz := s.heap.size)
  clear hD0
  generalize hAe : va_A [(h0, .inr (3, [.ref k0, .ref k1, .ref k2, .int i0, .int i1, .int i2]))] s.heap.size = A at hD ⊢
  have hA : ∀ q : Nat, s.heap.size ≤ q → A q := fun q h => by rw [← hAe]; exact Or.inr h
  clear hAe
  have hS : va_S A s.heap s.heap [] := va_S.rf
  replace hP : va_P G vwCl [(h0, .inr (3, [.ref k0, .ref k1, .ref k2, .int i0, .int i1, .int i2]))] s.heap := hP
  have hl := lv_entry ([.ref h0]) (n := 1) (Nat.le_of_ble_eq_true rfl)
  rw [lg_entry_eq]
  generalize (lg_sl ([.ref h0]) ++ List.replicate (1 - (lg_sl ([.ref h0])).length) Slot.unset).toArray = ls at hl ⊢
  replace hl : lv_has ls 1 [(0, .ref h0)] := hl
  generalize hQQ : MQ below _ _ s 0 0 _ = QQ
  skip
  unfold wX3_addNode at hwp
  refine lv_aload_n hx hb dX3_addNode_0 rfl (lv_at hl 0 rfl) ?_
  refine lv_dup hx hb dX3_addNode_1 rfl ?_
  refine va_get (D := G) (ci := 3) (v := .int i0) (C := RX3) (T := TX3) (N := 6) hx hb hts xinX3 hown hK hP 0 rfl rfl 3 (by decide) (hts _ wo_14) (fun _ h9 => h9) rfl dX3_addNode_2 ?_
  refine lv_iconst (v := 1) hx hb dX3_addNode_5 (by decide) ?_
  refine lv_iadd hx hb dX3_addNode_6 ?_
  refine lv_topi (fun v7 ev7 => ?_)
  replace hwp := hwp v7 ev7
  clear ev7
  refine va_put (D := G) (ci := 3) (v := .int v7) (ty := .int) (C := RX3) (T := TX3) (N := 6) hx hb hts xinX3 tyX3 tyX3_ok nmX3 hown hK hP hD hS 0 rfl rfl 3 (by decide) (hts _ wo_14) (fun _ h9 => h9) rfl (by decide +kernel) rfl rfl (Nat.le_of_ble_eq_true rfl) dX3_addNode_7 (fun H locs hP hD hS => ?_)
  replace hP : va_P G vwCl [(h0, .inr (3, [.ref k0, .ref k1, .ref k2, .int v7, .int i1, .int i2]))] H := hP
  replace hD : va_D A [(h0, .inr (3, [.ref k0, .ref k1, .ref k2, .int v7, .int i1, .int i2]))] := hD
  refine lv_aload_n hx hb dX3_addNode_10 rfl (lv_at hl 0 rfl) ?_
  refine va_get (D := G) (ci := 3) (v := .int v7) (C := RX3) (T := TX3) (N := 6) hx hb hts xinX3 hown hK hP 0 rfl rfl 3 (by decide) (hts _ wo_14) (fun _ h9 => h9) rfl dX3_addNode_11 ?_
  refine lv_iconst (v := 1) hx hb dX3_addNode_14 (by decide) ?_
  refine lv_isub hx hb dX3_addNode_15 ?_
  have hP9 : va_P G vwCl [(h0, .inr (3, [.ref k0, .ref k1, .ref k2, .int v7, .int i1, .int i2]))] H := hP.sub [0] rfl
  have hD9 : va_D A [(h0, .inr (3, [.ref k0, .ref k1, .ref k2, .int v7, .int i1, .int i2]))] := hD.sub [0] (by decide) rfl
  rw [← hQQ]
  exact W.iret (v := (v7 - 1)) hx hb hr (fun t ht hW => ⟨⟨_, v7, rfl, hwp, by rw [ht]; exact hP9, hD9⟩, hS.F ht⟩) hS.2.2 dX3_addNode_16
def wX3_addArc (i0 : Int32) (i1 : Int32) (i2 : Int32) (f3 : Nat → Int32) (f4 : Nat → Int32) (f5 : Nat → Int32) (p0 : Int32) (p1 : Int32) (K : Int32 → (Int32 × Int32 × (Nat → Int32) × (Nat → Int32) × (Nat → Int32)) → Prop) : Prop := (vp_in ((2 : Int32) * i1) 160 ∧ (∀ g11 : Nat → Int32, g11 = upd f3 (Int32.toNatClampNeg ((2 : Int32) * i1)) p0 → (vp_in (((2 : Int32) * i1) + 1) 160 ∧ (∀ g25 : Nat → Int32, g25 = upd g11 (Int32.toNatClampNeg (((2 : Int32) * i1) + 1)) p1 → (vp_in i1 80 ∧ (∀ g35 : Nat → Int32, g35 = upd f4 (Int32.toNatClampNeg i1) (vp_nar .boolean 1) → (∀ v43 : Int32, v43 = (i1 + 1) → (∀ v53 : Int32, v53 = (i2 + 1) → (wX3_findNeighbours f5 i0 v43 v53 g35 g25 (fun u65 => K (v43 - 1) (v43, v53, g25, g35, u65)))))))))))
set_option maxHeartbeats 4000000 in
set_option maxRecDepth 100000 in
theorem zX3_addArc (l : Launch) (G : va_G) (cI cJ cZ : ClassId) (h0 h1 h2 h3 sz : Nat) (i0 : Int32) (i1 : Int32) (i2 : Int32) (f3 : Nat → Int32) (f4 : Nat → Int32) (f5 : Nat → Int32) (p0 : Int32) (p1 : Int32) (K : Int32 → (Int32 × Int32 × (Nat → Int32) × (Nat → Int32) × (Nat → Int32)) → Prop) (hwp : wX3_addArc i0 i1 i2 f3 f4 f5 p0 p1 K) : Met l yX3_addArc (xw yX3_addArc cX3_addArc 3 (some .int)) ({ frames := 2, cells := 0, slots := 0, locals := 46 }) (xPc G cI cJ cZ [.ref h0, .int p0, .int p1] [(h0, .inr (3, [.ref h1, .ref h2, .ref h3, .int i0, .int i1, .int i2])), (h1, aI cI 160 f3), (h2, aI cZ 80 f4), (h3, aI cI 20 f5)] sz) (va_Qi (fun (r : Int32) (u : Int32 × Int32 × (Nat → Int32) × (Nat → Int32) × (Nat → Int32)) => K r u) (fun (u : Int32 × Int32 × (Nat → Int32) × (Nat → Int32) × (Nat → Int32)) t => xB G (va_A [(h0, .inr (3, [.ref h1, .ref h2, .ref h3, .int i0, .int i1, .int i2])), (h1, aI cI 160 f3), (h2, aI cZ 80 f4), (h3, aI cI 20 f5)] sz) [(h0, .inr (3, [.ref h1, .ref h2, .ref h3, .int i0, .int u.1, .int u.2.1])), (h1, aI cI 160 u.2.2.1), (h2, aI cZ 80 u.2.2.2.1), (h3, aI cI 20 u.2.2.2.2)] t) (va_A [(h0, .inr (3, [.ref h1, .ref h2, .ref h3, .int i0, .int i1, .int i2])), (h1, aI cI 160 f3), (h2, aI cZ 80 f4), (h3, aI cI 20 f5)] sz)) 0 0 (va_A [(h0, .inr (3, [.ref h1, .ref h2, .ref h3, .int i0, .int i1, .int i2])), (h1, aI cI 160 f3), (h2, aI cZ 80 f4), (h3, aI cI 20 f5)] sz) := by
  refine Met.ofW (cc := cX3_addArc) (maxL := 3) (ret := (some .int)) (by decide) rfl ?_
  intro p e s m args below meth c s₁ B hml hv
  obtain ⟨rfl, hsz, hP, hK, hD0, hN⟩ := hv
  have hx := B.exec
  have hb := B.bytes
  have hr := B.returns
  have hts : ∀ w ∈ xW, w.before _ s = true := fun w h => atoms_spec (ws := xw yX3_addArc cX3_addArc 3 (some .int)) B.pre w (List.mem_cons_of_mem _ h)
  have hown : s.vm.findClass RX3 = some m.cls := findClass_of_methodNamed B.named
  have hlocks := B.notSynchronized
  subst hsz
  have hD := hD0.self (sz := s.heap.size)
  clear hD0
  generalize hAe : va_A [(h0, .inr (3, [.ref h1, .ref h2, .ref h3, .int i0, .int i1, .int i2])), (h1, aI cI 160 f3), (h2, aI cZ 80 f4), (h3, aI cI 20 f5)] s.heap.size = A at hD ⊢
  have hA : ∀ q : Nat, s.heap.size ≤ q → A q := fun q h => by rw [← hAe]; exact Or.inr h
  clear hAe
  have hS : va_S A s.heap s.heap [] := va_S.rf
  replace hP : va_P G vwCl [(h0, .inr (3, [.ref h1, .ref h2, .ref h3, .int i0, .int i1, .int i2])), (h1, aI cI 160 f3), (h2, aI cZ 80 f4), (h3, aI cI 20 f5)] s.heap := hP
  have hl := lv_entry ([.ref h0, .int p0, .int p1]) (n := 3) (Nat.le_of_ble_eq_true rfl)
  rw [lg_entry_eq]
  generalize (lg_sl ([.ref h0, .int p0, .int p1]) ++ List.replicate (3 - (lg_sl ([.ref h0, .int p0, .int p1])).length) Slot.unset).toArray = ls at hl ⊢
  replace hl : lv_has ls 3 [(0, .ref h0), (1, .int p0), (2, .int p1)] := hl
  generalize hQQ : MQ below _ _ s 0 0 _ = QQ
  skip
  unfold wX3_addArc at hwp
  refine lv_aload_n hx hb dX3_addArc_0 rfl (lv_at hl 0 rfl) ?_
  refine va_get (D := G) (ci := 3) (v := .ref h1) (C := RX3) (T := TX3) (N := 6) hx hb hts xinX3 hown hK hP 0 rfl rfl 0 (by decide) (hts _ wo_3) (fun _ h9 => h9) rfl dX3_addArc_1 ?_
  refine lv_iconst (v := 2) hx hb dX3_addArc_4 (by decide) ?_
  refine lv_aload_n hx hb dX3_addArc_5 rfl (lv_at hl 0 rfl) ?_
  refine va_get (D := G) (ci := 3) (v := .int i1) (C := RX3) (T := TX3) (N := 6) hx hb hts xinX3 hown hK hP 0 rfl rfl 4 (by decide) (hts _ wo_8) (fun _ h9 => h9) rfl dX3_addArc_6 ?_
  refine lv_imul hx hb dX3_addArc_9 ?_
  refine lv_iload_n hx hb dX3_addArc_10 rfl (lv_at hl 1 rfl) ?_
  obtain ⟨hi, hwp⟩ := hwp
  refine va_iast hx hb hK hP hD hS 1 0 rfl rfl hi dX3_addArc_11 (fun H locs hP hD hS => ?_)
  obtain ⟨g11, eg11⟩ : ∃ z, z = upd f3 (Int32.toNatClampNeg ((2 : Int32) * i1)) p0 := ⟨_, rfl⟩
  replace hwp := hwp g11 eg11
  replace hP : va_P G vwCl [(h0, .inr (3, [.ref h1, .ref h2, .ref h3, .int i0, .int i1, .int i2])), (h1, aI cI 160 g11), (h2, aI cZ 80 f4), (h3, aI cI 20 f5)] H := by rw [eg11]; exact hP
  replace hD : va_D A [(h0, .inr (3, [.ref h1, .ref h2, .ref h3, .int i0, .int i1, .int i2])), (h1, aI cI 160 g11), (h2, aI cZ 80 f4), (h3, aI cI 20 f5)] := by rw [eg11]; exact hD
  clear eg11
  refine lv_aload_n hx hb dX3_addArc_12 rfl (lv_at hl 0 rfl) ?_
  refine va_get (D := G) (ci := 3) (v := .ref h1) (C := RX3) (T := TX3) (N := 6) hx hb hts xinX3 hown hK hP 0 rfl rfl 0 (by decide) (hts _ wo_3) (fun _ h9 => h9) rfl dX3_addArc_13 ?_
  refine lv_iconst (v := 2) hx hb dX3_addArc_16 (by decide) ?_
  refine lv_aload_n hx hb dX3_addArc_17 rfl (lv_at hl 0 rfl) ?_
  refine va_get (D := G) (ci := 3) (v := .int i1) (C := RX3) (T := TX3) (N := 6) hx hb hts xinX3 hown hK hP 0 rfl rfl 4 (by decide) (hts _ wo_8) (fun _ h9 => h9) rfl dX3_addArc_18 ?_
  refine lv_imul hx hb dX3_addArc_21 ?_
  refine lv_iconst (v := 1) hx hb dX3_addArc_22 (by decide) ?_
  refine lv_iadd hx hb dX3_addArc_23 ?_
  refine lv_iload_n hx hb dX3_addArc_24 rfl (lv_at hl 2 rfl) ?_
  obtain ⟨hi, hwp⟩ := hwp
  refine va_iast hx hb hK hP hD hS 1 0 rfl rfl hi dX3_addArc_25 (fun H locs hP hD hS => ?_)
  obtain ⟨g25, eg25⟩ : ∃ z, z = upd g11 (Int32.toNatClampNeg (((2 : Int32) * i1) + 1)) p1 := ⟨_, rfl⟩
  replace hwp := hwp g25 eg25
  replace hP : va_P G vwCl [(h0, .inr (3, [.ref h1, .ref h2, .ref h3, .int i0, .int i1, .int i2])), (h1, aI cI 160 g25), (h2, aI cZ 80 f4), (h3, aI cI 20 f5)] H := by rw [eg25]; exact hP
  replace hD : va_D A [(h0, .inr (3, [.ref h1, .ref h2, .ref h3, .int i0, .int i1, .int i2])), (h1, aI cI 160 g25), (h2, aI cZ 80 f4), (h3, aI cI 20 f5)] := by rw [eg25]; exact hD
  clear eg25
  refine lv_aload_n hx hb dX3_addArc_26 rfl (lv_at hl 0 rfl) ?_
  refine va_get (D := G) (ci := 3) (v := .ref h2) (C := RX3) (T := TX3) (N := 6) hx hb hts xinX3 hown hK hP 0 rfl rfl 1 (by decide) (hts _ wo_16) (fun _ h9 => h9) rfl dX3_addArc_27 ?_
  refine lv_aload_n hx hb dX3_addArc_30 rfl (lv_at hl 0 rfl) ?_
  refine va_get (D := G) (ci := 3) (v := .int i1) (C := RX3) (T := TX3) (N := 6) hx hb hts xinX3 hown hK hP 0 rfl rfl 4 (by decide) (hts _ wo_8) (fun _ h9 => h9) rfl dX3_addArc_31 ?_
  refine lv_iconst (v := 1) hx hb dX3_addArc_34 (by decide) ?_
  obtain ⟨hi, hwp⟩ := hwp
  refine va_zast hx hb hK hP hD hS 2 2 rfl rfl hi dX3_addArc_35 (fun H locs hP hD hS => ?_)
  obtain ⟨g35, eg35⟩ : ∃ z, z = upd f4 (Int32.toNatClampNeg i1) (vp_nar .boolean 1) := ⟨_, rfl⟩
  replace hwp := hwp g35 eg35
  replace hP : va_P G vwCl [(h0, .inr (3, [.ref h1, .ref h2, .ref h3, .int i0, .int i1, .int i2])), (h1, aI cI 160 g25), (h2, aI cZ 80 g35), (h3, aI cI 20 f5)] H := by rw [eg35]; exact hP
  replace hD : va_D A [(h0, .inr (3, [.ref h1, .ref h2, .ref h3, .int i0, .int i1, .int i2])), (h1, aI cI 160 g25), (h2, aI cZ 80 g35), (h3, aI cI 20 f5)] := by rw [eg35]; exact hD
  clear eg35
  refine lv_aload_n hx hb dX3_addArc_36 rfl (lv_at hl 0 rfl) ?_
  refine lv_dup hx hb dX3_addArc_37 rfl ?_
  refine va_get (D := G) (ci := 3) (v := .int i1) (C := RX3) (T := TX3) (N := 6) hx hb hts xinX3 hown hK hP 0 rfl rfl 4 (by decide) (hts _ wo_8) (fun _ h9 => h9) rfl dX3_addArc_38 ?_
  refine lv_iconst (v := 1) hx hb dX3_addArc_41 (by decide) ?_
  refine lv_iadd hx hb dX3_addArc_42 ?_
  refine lv_topi (fun v43 ev43 => ?_)
  replace hwp := hwp v43 ev43
  clear ev43
  refine va_put (D := G) (ci := 3) (v := .int v43) (ty := .int) (C := RX3) (T := TX3) (N := 6) hx hb hts xinX3 tyX3 tyX3_ok nmX3 hown hK hP hD hS 0 rfl rfl 4 (by decide) (hts _ wo_8) (fun _ h9 => h9) rfl (by decide +kernel) rfl rfl (Nat.le_of_ble_eq_true rfl) dX3_addArc_43 (fun H locs hP hD hS => ?_)
  replace hP : va_P G vwCl [(h0, .inr (3, [.ref h1, .ref h2, .ref h3, .int i0, .int v43, .int i2])), (h1, aI cI 160 g25), (h2, aI cZ 80 g35), (h3, aI cI 20 f5)] H := hP
  replace hD : va_D A [(h0, .inr (3, [.ref h1, .ref h2, .ref h3, .int i0, .int v43, .int i2])), (h1, aI cI 160 g25), (h2, aI cZ 80 g35), (h3, aI cI 20 f5)] := hD
  refine lv_aload_n hx hb dX3_addArc_46 rfl (lv_at hl 0 rfl) ?_
  refine lv_dup hx hb dX3_addArc_47 rfl ?_
  refine va_get (D := G) (ci := 3) (v := .int i2) (C := RX3) (T := TX3) (N := 6) hx hb hts xinX3 hown hK hP 0 rfl rfl 5 (by decide) (hts _ wo_15) (fun _ h9 => h9) rfl dX3_addArc_48 ?_
  refine lv_iconst (v := 1) hx hb dX3_addArc_51 (by decide) ?_
  refine lv_iadd hx hb dX3_addArc_52 ?_
  refine lv_topi (fun v53 ev53 => ?_)
  replace hwp := hwp v53 ev53
  clear ev53
  refine va_put (D := G) (ci := 3) (v := .int v53) (ty := .int) (C := RX3) (T := TX3) (N := 6) hx hb hts xinX3 tyX3 tyX3_ok nmX3 hown hK hP hD hS 0 rfl rfl 5 (by decide) (hts _ wo_15) (fun _ h9 => h9) rfl (by decide +kernel) rfl rfl (Nat.le_of_ble_eq_true rfl) dX3_addArc_53 (fun H locs hP hD hS => ?_)
  replace hP : va_P G vwCl [(h0, .inr (3, [.ref h1, .ref h2, .ref h3, .int i0, .int v43, .int v53])), (h1, aI cI 160 g25), (h2, aI cZ 80 g35), (h3, aI cI 20 f5)] H := hP
  replace hD : va_D A [(h0, .inr (3, [.ref h1, .ref h2, .ref h3, .int i0, .int v43, .int v53])), (h1, aI cI 160 g25), (h2, aI cZ 80 g35), (h3, aI cI 20 f5)] := hD
  refine lv_aload_n hx hb dX3_addArc_56 rfl (lv_at hl 0 rfl) ?_
  refine lv_aload_n hx hb dX3_addArc_57 rfl (lv_at hl 0 rfl) ?_
  refine va_get (D := G) (ci := 3) (v := .ref h2) (C := RX3) (T := TX3) (N := 6) hx hb hts xinX3 hown hK hP 0 rfl rfl 1 (by decide) (hts _ wo_16) (fun _ h9 => h9) rfl dX3_addArc_58 ?_
  refine lv_aload_n hx hb dX3_addArc_61 rfl (lv_at hl 0 rfl) ?_
  refine va_get (D := G) (ci := 3) (v := .ref h3) (C := RX3) (T := TX3) (N := 6) hx hb hts xinX3 hown hK hP 0 rfl rfl 2 (by decide) (hts _ wo_17) (fun _ h9 => h9) rfl dX3_addArc_62 ?_
  refine xcv (wr := []) (va_runV (As := [.ref h2, .ref h3]) (rest := []) ⟨hx, hb, hml, hown, hts⟩ (zX3_findNeighbours l G cI cJ cZ h3 h0 h2 h1 H.size f5 i0 v43 v53 g35 g25 _ hwp) (cwV 2 hts (xgoodV wo_18 wo_19 wo_20 wo_21 wo_13) rfl rfl rfl (by decide +kernel) ⟨Nat.le_of_ble_eq_true rfl, Nat.le_of_ble_eq_true rfl⟩) (xPreV (q := (RX3, TX3, 6)) (q0 := 0) hK hN hP hD [3, 0, 2, 1] (by decide) rfl rfl rfl) rfl rfl hl.1 rfl (lv_room (Nat.le_of_ble_eq_true rfl)) dX3_addArc_65 ⟨Nat.le_of_ble_eq_true rfl, Nat.le_of_ble_eq_true rfl⟩) hP hD hS hA [3, 0, 2, 1] [] rfl rfl (by decide) (by decide) (fun u65 H locs hwp hP hD hS => ?_)
  replace hP : va_P G vwCl [(h3, aI cI 20 u65), (h0, .inr (3, [.ref h1, .ref h2, .ref h3, .int i0, .int v43, .int v53])), (h2, aI cZ 80 g35), (h1, aI cI 160 g25)] H := hP
  replace hD : va_D A [(h3, aI cI 20 u65), (h0, .inr (3, [.ref h1, .ref h2, .ref h3, .int i0, .int v43, .int v53])), (h2, aI cZ 80 g35), (h1, aI cI 160 g25)] := hD
  refine lv_aload_n hx hb dX3_addArc_68 rfl (lv_at hl 0 rfl) ?_
  refine va_get (D := G) (ci := 3) (v := .int v43) (C := RX3) (T := TX3) (N := 6) hx hb hts xinX3 hown hK hP 1 rfl rfl 4 (by decide) (hts _ wo_8) (fun _ h9 => h9) rfl dX3_addArc_69 ?_
  refine lv_iconst (v := 1) hx hb dX3_addArc_72 (by decide) ?_
  refine lv_isub hx hb dX3_addArc_73 ?_
  have hP9 : va_P G vwCl [(h0, .inr (3, [.ref h1, .ref h2, .ref h3, .int i0, .int v43, .int v53])), (h1, aI cI 160 g25), (h2, aI cZ 80 g35), (h3, aI cI 20 u65)] H := hP.sub [1, 3, 2, 0] rfl
  have hD9 : va_D A [(h0, .inr (3, [.ref h1, .ref h2, .ref h3, .int i0, .int v43, .int v53])), (h1, aI cI 160 g25), (h2, aI cZ 80 g35), (h3, aI cI 20 u65)] := hD.sub [1, 3, 2, 0] (by decide) rfl
  rw [← hQQ]
  exact W.iret (v := (v43 - 1)) hx hb hr (fun t ht hW => ⟨⟨_, (v43, v53, g25, g35, u65), rfl, hwp, by rw [ht]; exact hP9, hD9⟩, hS.F ht⟩) hS.2.2 dX3_addArc_74
def wX3_removeArc (i0 : Int32) (i1 : Int32) (i2 : Int32) (f3 : Nat → Int32) (f4 : Nat → Int32) (f5 : Nat → Int32) (p0 : Int32) (K : Int32 → (Int32 × (Nat → Int32) × (Nat → Int32)) → Prop) : Prop := (vp_in p0 80 ∧ (∀ g6 : Nat → Int32, g6 = upd f3 (Int32.toNatClampNeg p0) (vp_nar .boolean 0) → (∀ v14 : Int32, v14 = (i2 - 1) → (wX3_findNeighbours f4 i0 i1 v14 g6 f5 (fun u26 => K v14 (v14, g6, u26))))))
set_option maxHeartbeats 4000000 in
set_option maxRecDepth 100000 in
theorem zX3_removeArc (l : Launch) (G : va_G) (cI cJ cZ : ClassId) (h0 h1 h2 h3 sz : Nat) (i0 : Int32) (i1 : Int32) (i2 : Int32) (f3 : Nat → Int32) (f4 : Nat → Int32) (f5 : Nat → Int32) (p0 : Int32) (K : Int32 → (Int32 × (Nat → Int32) × (Nat → Int32)) → Prop) (hwp : wX3_removeArc i0 i1 i2 f3 f4 f5 p0 K) : Met l yX3_removeArc (xw yX3_removeArc cX3_removeArc 2 (some .int)) ({ frames := 2, cells := 0, slots := 0, locals := 46 }) (xPc G cI cJ cZ [.ref h0, .int p0] [(h0, .inr (3, [.ref h3, .ref h1, .ref h2, .int i0, .int i1, .int i2])), (h1, aI cZ 80 f3), (h2, aI cI 20 f4), (h3, aI cI 160 f5)] sz) (va_Qi (fun (r : Int32) (u : Int32 × (Nat → Int32) × (Nat → Int32)) => K r u) (fun (u : Int32 × (Nat → Int32) × (Nat → Int32)) t => xB G (va_A [(h0, .inr (3, [.ref h3, .ref h1, .ref h2, .int i0, .int i1, .int i2])), (h1, aI cZ 80 f3), (h2, aI cI 20 f4), (h3, aI cI 160 f5)] sz) [(h0, .inr (3, [.ref h3, .ref h1, .ref h2, .int i0, .int i1, .int u.1])), (h1, aI cZ 80 u.2.1), (h2, aI cI 20 u.2.2), (h3, aI cI 160 f5)] t) (va_A [(h0, .inr (3, [.ref h3, .ref h1, .ref h2, .int i0, .int i1, .int i2])), (h1, aI cZ 80 f3), (h2, aI cI 20 f4), (h3, aI cI 160 f5)] sz)) 0 0 (va_A [(h0, .inr (3, [.ref h3, .ref h1, .ref h2, .int i0, .int i1, .int i2])), (h1, aI cZ 80 f3), (h2, aI cI 20 f4), (h3, aI cI 160 f5)] sz) := by
  refine Met.ofW (cc := cX3_removeArc) (maxL := 2) (ret := (some .int)) (by decide) rfl ?_
  intro p e s m args below meth c s₁ B hml hv
  obtain ⟨rfl, hsz, hP, hK, hD0, hN⟩ := hv
  have hx := B.exec
  have hb := B.bytes
  have hr := B.returns
  have hts : ∀ w ∈ xW, w.before _ s = true := fun w h => atoms_spec (ws := xw yX3_removeArc cX3_removeArc 2 (some .int)) B.pre w (List.mem_cons_of_mem _ h)
  have hown : s.vm.findClass RX3 = some m.cls := findClass_of_methodNamed B.named
  have hlocks := B.notSynchronized
  subst hsz
  have hD := hD0.self (sz := s.heap.size)
  clear hD0
  generalize hAe : va_A [(h0, .inr (3, [.ref h3, .ref h1, .ref h2, .int i0, .int i1, .int i2])), (h1, aI cZ 80 f3), (h2, aI cI 20 f4), (h3, aI cI 160 f5)] s.heap.size = A at hD ⊢
  have hA : ∀ q : Nat, s.heap.size ≤ q → A q := fun q h => by rw [← hAe]; exact Or.inr h
  clear hAe
  have hS : va_S A s.heap s.heap [] := va_S.rf
  replace hP : va_P G vwCl [(h0, .inr (3, [.ref h3, .ref h1, .ref h2, .int i0, .int i1, .int i2])), (h1, aI cZ 80 f3), (h2, aI cI 20 f4), (h3, aI cI 160 f5)] s.heap := hP
  have hl := lv_entry ([.ref h0, .int p0]) (n := 2) (Nat.le_of_ble_eq_true rfl)
  rw [lg_entry_eq]
  generalize (lg_sl ([.ref h0, .int p0]) ++ List.replicate (2 - (lg_sl ([.ref h0, .int p0])).length) Slot.unset).toArray = ls at hl ⊢
  replace hl : lv_has ls 2 [(0, .ref h0), (1, .int p0)] := hl
  generalize hQQ : MQ below _ _ s 0 0 _ = QQ
  skip
  unfold wX3_removeArc at hwp
  refine lv_aload_n hx hb dX3_removeArc_0 rfl (lv_at hl 0 rfl) ?_
  refine va_get (D := G) (ci := 3) (v := .ref h1) (C := RX3) (T := TX3) (N := 6) hx hb hts xinX3 hown hK hP 0 rfl rfl 1 (by decide) (hts _ wo_16) (fun _ h9 => h9) rfl dX3_removeArc_1 ?_
  refine lv_iload_n hx hb dX3_removeArc_4 rfl (lv_at hl 1 rfl) ?_
  refine lv_iconst (v := 0) hx hb dX3_removeArc_5 (by decide) ?_
  obtain ⟨hi, hwp⟩ := hwp
  refine va_zast hx hb hK hP hD hS 1 2 rfl rfl hi dX3_removeArc_6 (fun H locs hP hD hS => ?_)
  obtain ⟨g6, eg6⟩ : ∃ z, z = upd f3 (Int32.toNatClampNeg p0) (vp_nar .boolean 0) := ⟨_, rfl⟩
  replace hwp := hwp g6 eg6
  replace hP : va_P G vwCl [(h0, .inr (3, [.ref h3, .ref h1, .ref h2, .int i0, .int i1, .int i2])), (h1, aI cZ 80 g6), (h2, aI cI 20 f4), (h3, aI cI 160 f5)] H := by rw [eg6]; exact hP
  replace hD : va_D A [(h0, .inr (3, [.ref h3, .ref h1, .ref h2, .int i0, .int i1, .int i2])), (h1, aI cZ 80 g6), (h2, aI cI 20 f4), (h3, aI cI 160 f5)] := by rw [eg6]; exact hD
  clear eg6
  refine lv_aload_n hx hb dX3_removeArc_7 rfl (lv_at hl 0 rfl) ?_
  refine lv_dup hx hb dX3_removeArc_8 rfl ?_
  refine va_get (D := G) (ci := 3) (v := .int i2) (C := RX3) (T := TX3) (N := 6) hx hb hts xinX3 hown hK hP 0 rfl rfl 5 (by decide) (hts _ wo_15) (fun _ h9 => h9) rfl dX3_removeArc_9 ?_
  refine lv_iconst (v := 1) hx hb dX3_removeArc_12 (by decide) ?_
  refine lv_isub hx hb dX3_removeArc_13 ?_
  refine lv_topi (fun v14 ev14 => ?_)
  replace hwp := hwp v14 ev14
  clear ev14
  refine va_put (D := G) (ci := 3) (v := .int v14) (ty := .int) (C := RX3) (T := TX3) (N := 6) hx hb hts xinX3 tyX3 tyX3_ok nmX3 hown hK hP hD hS 0 rfl rfl 5 (by decide) (hts _ wo_15) (fun _ h9 => h9) rfl (by decide +kernel) rfl rfl (Nat.le_of_ble_eq_true rfl) dX3_removeArc_14 (fun H locs hP hD hS => ?_)
  replace hP : va_P G vwCl [(h0, .inr (3, [.ref h3, .ref h1, .ref h2, .int i0, .int i1, .int v14])), (h1, aI cZ 80 g6), (h2, aI cI 20 f4), (h3, aI cI 160 f5)] H := hP
  replace hD : va_D A [(h0, .inr (3, [.ref h3, .ref h1, .ref h2, .int i0, .int i1, .int v14])), (h1, aI cZ 80 g6), (h2, aI cI 20 f4), (h3, aI cI 160 f5)] := hD
  refine lv_aload_n hx hb dX3_removeArc_17 rfl (lv_at hl 0 rfl) ?_
  refine lv_aload_n hx hb dX3_removeArc_18 rfl (lv_at hl 0 rfl) ?_
  refine va_get (D := G) (ci := 3) (v := .ref h1) (C := RX3) (T := TX3) (N := 6) hx hb hts xinX3 hown hK hP 0 rfl rfl 1 (by decide) (hts _ wo_16) (fun _ h9 => h9) rfl dX3_removeArc_19 ?_
  refine lv_aload_n hx hb dX3_removeArc_22 rfl (lv_at hl 0 rfl) ?_
  refine va_get (D := G) (ci := 3) (v := .ref h2) (C := RX3) (T := TX3) (N := 6) hx hb hts xinX3 hown hK hP 0 rfl rfl 2 (by decide) (hts _ wo_17) (fun _ h9 => h9) rfl dX3_removeArc_23 ?_
  refine xcv (wr := []) (va_runV (As := [.ref h1, .ref h2]) (rest := []) ⟨hx, hb, hml, hown, hts⟩ (zX3_findNeighbours l G cI cJ cZ h2 h0 h1 h3 H.size f4 i0 i1 v14 g6 f5 _ hwp) (cwV 2 hts (xgoodV wo_18 wo_19 wo_20 wo_21 wo_13) rfl rfl rfl (by decide +kernel) ⟨Nat.le_of_ble_eq_true rfl, Nat.le_of_ble_eq_true rfl⟩) (xPreV (q := (RX3, TX3, 6)) (q0 := 0) hK hN hP hD [2, 0, 1, 3] (by decide) rfl rfl rfl) rfl rfl hl.1 rfl (lv_room (Nat.le_of_ble_eq_true rfl)) dX3_removeArc_26 ⟨Nat.le_of_ble_eq_true rfl, Nat.le_of_ble_eq_true rfl⟩) hP hD hS hA [2, 0, 1, 3] [] rfl rfl (by decide) (by decide) (fun u26 H locs hwp hP hD hS => ?_)
  replace hP : va_P G vwCl [(h2, aI cI 20 u26), (h0, .inr (3, [.ref h3, .ref h1, .ref h2, .int i0, .int i1, .int v14])), (h1, aI cZ 80 g6), (h3, aI cI 160 f5)] H := hP
  replace hD : va_D A [(h2, aI cI 20 u26), (h0, .inr (3, [.ref h3, .ref h1, .ref h2, .int i0, .int i1, .int v14])), (h1, aI cZ 80 g6), (h3, aI cI 160 f5)] := hD
  refine lv_aload_n hx hb dX3_removeArc_29 rfl (lv_at hl 0 rfl) ?_
  refine va_get (D := G) (ci := 3) (v := .int v14) (C := RX3) (T := TX3) (N := 6) hx hb hts xinX3 hown hK hP 1 rfl rfl 5 (by decide) (hts _ wo_15) (fun _ h9 => h9) rfl dX3_removeArc_30 ?_
  have hP9 : va_P G vwCl [(h0, .inr (3, [.ref h3, .ref h1, .ref h2, .int i0, .int i1, .int v14])), (h1, aI cZ 80 g6), (h2, aI cI 20 u26), (h3, aI cI 160 f5)] H := hP.sub [1, 2, 0, 3] rfl
  have hD9 : va_D A [(h0, .inr (3, [.ref h3, .ref h1, .ref h2, .int i0, .int i1, .int v14])), (h1, aI cZ 80 g6), (h2, aI cI 20 u26), (h3, aI cI 160 f5)] := hD.sub [1, 2, 0, 3] (by decide) rfl
  rw [← hQQ]
  exact W.iret (v := v14) hx hb hr (fun t ht hW => ⟨⟨_, (v14, g6, u26), rfl, hwp, by rw [ht]; exact hP9, hD9⟩, hS.F ht⟩) hS.2.2 dX3_removeArc_33
def wX3_endAt (i0 : Int32) (i1 : Int32) (i2 : Int32) (f3 : Nat → Int32) (f4 : Nat → Int32) (p0 : Int32) (p1 : Int32) (p2 : Int32) (K : Int32 → Unit → Prop) : Prop := (vp_in p2 80 ∧ ((¬ (f3 (Int32.toNatClampNeg p2)) = 0 → (vp_in ((2 : Int32) * p2) 160 ∧ ((¬ (f4 (Int32.toNatClampNeg ((2 : Int32) * p2))) = p0 → (vp_in ((2 : Int32) * p2) 160 ∧ ((¬ (f4 (Int32.toNatClampNeg ((2 : Int32) * p2))) = p1 → K ((-1) : Int32) ()) ∧ ((f4 (Int32.toNatClampNeg ((2 : Int32) * p2))) = p1 → (vp_in (((2 : Int32) * p2) + 1) 160 ∧ ((¬ (f4 (Int32.toNatClampNeg (((2 : Int32) * p2) + 1))) = p0 → K ((-1) : Int32) ()) ∧ ((f4 (Int32.toNatClampNeg (((2 : Int32) * p2) + 1))) = p0 → K (((2 : Int32) * p2) + 1) ()))))))) ∧ ((f4 (Int32.toNatClampNeg ((2 : Int32) * p2))) = p0 → (vp_in (((2 : Int32) * p2) + 1) 160 ∧ ((¬ (f4 (Int32.toNatClampNeg (((2 : Int32) * p2) + 1))) = p1 → (vp_in ((2 : Int32) * p2) 160 ∧ ((¬ (f4 (Int32.toNatClampNeg ((2 : Int32) * p2))) = p1 → K ((-1) : Int32) ()) ∧ ((f4 (Int32.toNatClampNeg ((2 : Int32) * p2))) = p1 → (vp_in (((2 : Int32) * p2) + 1) 160 ∧ ((¬ (f4 (Int32.toNatClampNeg (((2 : Int32) * p2) + 1))) = p0 → K ((-1) : Int32) ()) ∧ ((f4 (Int32.toNatClampNeg (((2 : Int32) * p2) + 1))) = p0 → K (((2 : Int32) * p2) + 1) ()))))))) ∧ ((f4 (Int32.toNatClampNeg (((2 : Int32) * p2) + 1))) = p1 → K ((2 : Int32) * p2) ()))))))) ∧ ((f3 (Int32.toNatClampNeg p2)) = 0 → K ((-1) : Int32) ())))
set_option maxHeartbeats 4000000 in
set_option maxRecDepth 100000 in
theorem zX3_endAt (l : Launch) (G : va_G) (cI cJ cZ : ClassId) (h0 h1 h2 k0 sz : Nat) (i0 : Int32) (i1 : Int32) (i2 : Int32) (f3 : Nat → Int32) (f4 : Nat → Int32) (p0 : Int32) (p1 : Int32) (p2 : Int32) (K : Int32 → Unit → Prop) (hwp : wX3_endAt i0 i1 i2 f3 f4 p0 p1 p2 K) : Met l yX3_endAt (xw yX3_endAt cX3_endAt 4 (some .int)) ({ frames := 0, cells := 0, slots := 0, locals := 0 }) (xPc G cI cJ cZ [.ref h0, .int p0, .int p1, .int p2] [(h0, .inr (3, [.ref h2, .ref h1, .ref k0, .int i0, .int i1, .int i2])), (h1, aI cZ 80 f3), (h2, aI cI 160 f4)] sz) (va_Qi (fun (r : Int32) (u : Unit) => K r u) (fun (u : Unit) t => xB G (va_A [(h0, .inr (3, [.ref h2, .ref h1, .ref k0, .int i0, .int i1, .int i2])), (h1, aI cZ 80 f3), (h2, aI cI 160 f4)] sz) [(h0, .inr (3, [.ref h2, .ref h1, .ref k0, .int i0, .int i1, .int i2])), (h1, aI cZ 80 f3), (h2, aI cI 160 f4)] t) (va_A [(h0, .inr (3, [.ref h2, .ref h1, .ref k0, .int i0, .int i1, .int i2])), (h1, aI cZ 80 f3), (h2, aI cI 160 f4)] sz)) 0 0 (va_A [(h0, .inr (3, [.ref h2, .ref h1, .ref k0, .int i0, .int i1, .int i2])), (h1, aI cZ 80 f3), (h2, aI cI 160 f4)] sz) := by
  refine Met.ofW (cc := cX3_endAt) (maxL := 4) (ret := (some .int)) (by decide) rfl ?_
  intro p e s m args below meth c s₁ B hml hv
  obtain ⟨rfl, hsz, hP, hK, hD0, hN⟩ := hv
  have hx := B.exec
  have hb := B.bytes
  have hr := B.returns
  have hts : ∀ w ∈ xW, w.before _ s = true := fun w h => atoms_spec (ws := xw yX3_endAt cX3_endAt 4 (some .int)) B.pre w (List.mem_cons_of_mem _ h)
  have hown : s.vm.findClass RX3 = some m.cls := findClass_of_methodNamed B.named
  have hlocks := B.notSynchronized
  subst hsz
  have hD := hD0.self (sz := s.heap.size)
  clear hD0
  generalize hAe : va_A [(h0, .inr (3, [.ref h2, .ref h1, .ref k0, .int i0, .int i1, .int i2])), (h1, aI cZ 80 f3), (h2, aI cI 160 f4)] s.heap.size = A at hD ⊢
  have hA : ∀ q : Nat, s.heap.size ≤ q → A q := fun q h => by rw [← hAe]; exact Or.inr h
  clear hAe
  have hS : va_S A s.heap s.heap [] := va_S.rf
  replace hP : va_P G vwCl [(h0, .inr (3, [.ref h2, .ref h1, .ref k0, .int i0, .int i1, .int i2])), (h1, aI cZ 80 f3), (h2, aI cI 160 f4)] s.heap := hP
  have hl := lv_entry ([.ref h0, .int p0, .int p1, .int p2]) (n := 4) (Nat.le_of_ble_eq_true rfl)
  rw [lg_entry_eq]
  generalize (lg_sl ([.ref h0, .int p0, .int p1, .int p2]) ++ List.replicate (4 - (lg_sl ([.ref h0, .int p0, .int p1, .int p2])).length) Slot.unset).toArray = ls at hl ⊢
  replace hl : lv_has ls 4 [(0, .ref h0), (1, .int p0), (2, .int p1), (3, .int p2)] := hl
  generalize hQQ : MQ below _ _ s 0 0 _ = QQ
  skip
  unfold wX3_endAt at hwp
  refine lv_aload_n hx hb dX3_endAt_0 rfl (lv_at hl 0 rfl) ?_
  refine va_get (D := G) (ci := 3) (v := .ref h1) (C := RX3) (T := TX3) (N := 6) hx hb hts xinX3 hown hK hP 0 rfl rfl 1 (by decide) (hts _ wo_16) (fun _ h9 => h9) rfl dX3_endAt_1 ?_
  refine lv_iload_n hx hb dX3_endAt_4 rfl (lv_at hl 3 rfl) ?_
  obtain ⟨hi, hwp⟩ := hwp
  refine va_zald hx hb hK hP 1 2 rfl rfl hi dX3_endAt_5 ?_
  refine lv_if_ne (tgt := 11) hx hb dX3_endAt_6 (by decide) (fun c6 => ?_) (fun c6 => ?_)
  · replace hwp := hwp.1 c6
    refine lv_aload_n hx hb dX3_endAt_11 rfl (lv_at hl 0 rfl) ?_
    refine va_get (D := G) (ci := 3) (v := .ref h2) (C := RX3) (T := TX3) (N := 6) hx hb hts xinX3 hown hK hP 0 rfl rfl 0 (by decide) (hts _ wo_3) (fun _ h9 => h9) rfl dX3_endAt_12 ?_
    refine lv_iconst (v := 2) hx hb dX3_endAt_15 (by decide) ?_
    refine lv_iload_n hx hb dX3_endAt_16 rfl (lv_at hl 3 rfl) ?_
    refine lv_imul hx hb dX3_endAt_17 ?_
    obtain ⟨hi, hwp⟩ := hwp
    refine va_iald hx hb hK hP 2 0 rfl rfl hi dX3_endAt_18 ?_
    refine lv_iload_n hx hb dX3_endAt_19 rfl (lv_at hl 1 rfl) ?_
    refine lv_icmp_ne (tgt := 41) hx hb dX3_endAt_20 (by decide) (fun c20 => ?_) (fun c20 => ?_)
    · replace hwp := hwp.1 c20
      refine lv_aload_n hx hb dX3_endAt_41 rfl (lv_at hl 0 rfl) ?_
      refine va_get (D := G) (ci := 3) (v := .ref h2) (C := RX3) (T := TX3) (N := 6) hx hb hts xinX3 hown hK hP 0 rfl rfl 0 (by decide) (hts _ wo_3) (fun _ h9 => h9) rfl dX3_endAt_42 ?_
      refine lv_iconst (v := 2) hx hb dX3_endAt_45 (by decide) ?_
      refine lv_iload_n hx hb dX3_endAt_46 rfl (lv_at hl 3 rfl) ?_
      refine lv_imul hx hb dX3_endAt_47 ?_
      obtain ⟨hi, hwp⟩ := hwp
      refine va_iald hx hb hK hP 2 0 rfl rfl hi dX3_endAt_48 ?_
      refine lv_iload_n hx hb dX3_endAt_49 rfl (lv_at hl 2 rfl) ?_
      refine lv_icmp_ne (tgt := 75) hx hb dX3_endAt_50 (by decide) (fun c50 => ?_) (fun c50 => ?_)
      · replace hwp := hwp.1 c50
        refine lv_iconst (v := (-1)) hx hb dX3_endAt_75 (by decide) ?_
        have hP9 : va_P G vwCl [(h0, .inr (3, [.ref h2, .ref h1, .ref k0, .int i0, .int i1, .int i2])), (h1, aI cZ 80 f3), (h2, aI cI 160 f4)] s.heap := hP.sub [0, 1, 2] rfl
        have hD9 : va_D A [(h0, .inr (3, [.ref h2, .ref h1, .ref k0, .int i0, .int i1, .int i2])), (h1, aI cZ 80 f3), (h2, aI cI 160 f4)] := hD.sub [0, 1, 2] (by decide) rfl
        rw [← hQQ]
        exact W.iret (v := (-1)) hx hb hr (fun t ht hW => ⟨⟨_, (), rfl, hwp, by rw [ht]; exact hP9, hD9⟩, hS.F ht⟩) hS.2.2 dX3_endAt_76
      · replace hwp := hwp.2 c50
        refine lv_aload_n hx hb dX3_endAt_53 rfl (lv_at hl 0 rfl) ?_
        refine va_get (D := G) (ci := 3) (v := .ref h2) (C := RX3) (T := TX3) (N := 6) hx hb hts xinX3 hown hK hP 0 rfl rfl 0 (by decide) (hts _ wo_3) (fun _ h9 => h9) rfl dX3_endAt_54 ?_
        refine lv_iconst (v := 2) hx hb dX3_endAt_57 (by decide) ?_
        refine lv_iload_n hx hb dX3_endAt_58 rfl (lv_at hl 3 rfl) ?_
        refine lv_imul hx hb dX3_endAt_59 ?_
        refine lv_iconst (v := 1) hx hb dX3_endAt_60 (by decide) ?_
        refine lv_iadd hx hb dX3_endAt_61 ?_
        obtain ⟨hi, hwp⟩ := hwp
        refine va_iald hx hb hK hP 2 0 rfl rfl hi dX3_endAt_62 ?_
        refine lv_iload_n hx hb dX3_endAt_63 rfl (lv_at hl 1 rfl) ?_
        refine lv_icmp_ne (tgt := 75) hx hb dX3_endAt_64 (by decide) (fun c64 => ?_) (fun c64 => ?_)
        · replace hwp := hwp.1 c64
          refine lv_iconst (v := (-1)) hx hb dX3_endAt_75 (by decide) ?_
          have hP9 : va_P G vwCl [(h0, .inr (3, [.ref h2, .ref h1, .ref k0, .int i0, .int i1, .int i2])), (h1, aI cZ 80 f3), (h2, aI cI 160 f4)] s.heap := hP.sub [0, 1, 2] rfl
          have hD9 : va_D A [(h0, .inr (3, [.ref h2, .ref h1, .ref k0, .int i0, .int i1, .int i2])), (h1, aI cZ 80 f3), (h2, aI cI 160 f4)] := hD.sub [0, 1, 2] (by decide) rfl
          rw [← hQQ]
          exact W.iret (v := (-1)) hx hb hr (fun t ht hW => ⟨⟨_, (), rfl, hwp, by rw [ht]; exact hP9, hD9⟩, hS.F ht⟩) hS.2.2 dX3_endAt_76
        · replace hwp := hwp.2 c64
          refine lv_iconst (v := 2) hx hb dX3_endAt_67 (by decide) ?_
          refine lv_iload_n hx hb dX3_endAt_68 rfl (lv_at hl 3 rfl) ?_
          refine lv_imul hx hb dX3_endAt_69 ?_
          refine lv_iconst (v := 1) hx hb dX3_endAt_70 (by decide) ?_
          refine lv_iadd hx hb dX3_endAt_71 ?_
          refine lv_goto (tgt := 76) hx hb dX3_endAt_72 (by decide) ?_
          have hP9 : va_P G vwCl [(h0, .inr (3, [.ref h2, .ref h1, .ref k0, .int i0, .int i1, .int i2])), (h1, aI cZ 80 f3), (h2, aI cI 160 f4)] s.heap := hP.sub [0, 1, 2] rfl
          have hD9 : va_D A [(h0, .inr (3, [.ref h2, .ref h1, .ref k0, .int i0, .int i1, .int i2])), (h1, aI cZ 80 f3), (h2, aI cI 160 f4)] := hD.sub [0, 1, 2] (by decide) rfl
          rw [← hQQ]
          exact W.iret (v := (((2 : Int32) * p2) + 1)) hx hb hr (fun t ht hW => ⟨⟨_, (), rfl, hwp, by rw [ht]; exact hP9, hD9⟩, hS.F ht⟩) hS.2.2 dX3_endAt_76
    · replace hwp := hwp.2 c20
      refine lv_aload_n hx hb dX3_endAt_23 rfl (lv_at hl 0 rfl) ?_
      refine va_get (D := G) (ci := 3) (v := .ref h2) (C := RX3) (T := TX3) (N := 6) hx hb hts xinX3 hown hK hP 0 rfl rfl 0 (by decide) (hts _ wo_3) (fun _ h9 => h9) rfl dX3_endAt_24 ?_
      refine lv_iconst (v := 2) hx hb dX3_endAt_27 (by decide) ?_
      refine lv_iload_n hx hb dX3_endAt_28 rfl (lv_at hl 3 rfl) ?_
      refine lv_imul hx hb dX3_endAt_29 ?_
      refine lv_iconst (v := 1) hx hb dX3_endAt_30 (by decide) ?_
      refine lv_iadd hx hb dX3_endAt_31 ?_
      obtain ⟨hi, hwp⟩ := hwp
      refine va_iald hx hb hK hP 2 0 rfl rfl hi dX3_endAt_32 ?_
      refine lv_iload_n hx hb dX3_endAt_33 rfl (lv_at hl 2 rfl) ?_
      refine lv_icmp_ne (tgt := 41) hx hb dX3_endAt_34 (by decide) (fun c34 => ?_) (fun c34 => ?_)
      · replace hwp := hwp.1 c34
        refine lv_aload_n hx hb dX3_endAt_41 rfl (lv_at hl 0 rfl) ?_
        refine va_get (D := G) (ci := 3) (v := .ref h2) (C := RX3) (T := TX3) (N := 6) hx hb hts xinX3 hown hK hP 0 rfl rfl 0 (by decide) (hts _ wo_3) (fun _ h9 => h9) rfl dX3_endAt_42 ?_
        refine lv_iconst (v := 2) hx hb dX3_endAt_45 (by decide) ?_
        refine lv_iload_n hx hb dX3_endAt_46 rfl (lv_at hl 3 rfl) ?_
        refine lv_imul hx hb dX3_endAt_47 ?_
        obtain ⟨hi, hwp⟩ := hwp
        refine va_iald hx hb hK hP 2 0 rfl rfl hi dX3_endAt_48 ?_
        refine lv_iload_n hx hb dX3_endAt_49 rfl (lv_at hl 2 rfl) ?_
        refine lv_icmp_ne (tgt := 75) hx hb dX3_endAt_50 (by decide) (fun c50 => ?_) (fun c50 => ?_)
        · replace hwp := hwp.1 c50
          refine lv_iconst (v := (-1)) hx hb dX3_endAt_75 (by decide) ?_
          have hP9 : va_P G vwCl [(h0, .inr (3, [.ref h2, .ref h1, .ref k0, .int i0, .int i1, .int i2])), (h1, aI cZ 80 f3), (h2, aI cI 160 f4)] s.heap := hP.sub [0, 1, 2] rfl
          have hD9 : va_D A [(h0, .inr (3, [.ref h2, .ref h1, .ref k0, .int i0, .int i1, .int i2])), (h1, aI cZ 80 f3), (h2, aI cI 160 f4)] := hD.sub [0, 1, 2] (by decide) rfl
          rw [← hQQ]
          exact W.iret (v := (-1)) hx hb hr (fun t ht hW => ⟨⟨_, (), rfl, hwp, by rw [ht]; exact hP9, hD9⟩, hS.F ht⟩) hS.2.2 dX3_endAt_76
        · replace hwp := hwp.2 c50
          refine lv_aload_n hx hb dX3_endAt_53 rfl (lv_at hl 0 rfl) ?_
          refine va_get (D := G) (ci := 3) (v := .ref h2) (C := RX3) (T := TX3) (N := 6) hx hb hts xinX3 hown hK hP 0 rfl rfl 0 (by decide) (hts _ wo_3) (fun _ h9 => h9) rfl dX3_endAt_54 ?_
          refine lv_iconst (v := 2) hx hb dX3_endAt_57 (by decide) ?_
          refine lv_iload_n hx hb dX3_endAt_58 rfl (lv_at hl 3 rfl) ?_
          refine lv_imul hx hb dX3_endAt_59 ?_
          refine lv_iconst (v := 1) hx hb dX3_endAt_60 (by decide) ?_
          refine lv_iadd hx hb dX3_endAt_61 ?_
          obtain ⟨hi, hwp⟩ := hwp
          refine va_iald hx hb hK hP 2 0 rfl rfl hi dX3_endAt_62 ?_
          refine lv_iload_n hx hb dX3_endAt_63 rfl (lv_at hl 1 rfl) ?_
          refine lv_icmp_ne (tgt := 75) hx hb dX3_endAt_64 (by decide) (fun c64 => ?_) (fun c64 => ?_)
          · replace hwp := hwp.1 c64
            refine lv_iconst (v := (-1)) hx hb dX3_endAt_75 (by decide) ?_
            have hP9 : va_P G vwCl [(h0, .inr (3, [.ref h2, .ref h1, .ref k0, .int i0, .int i1, .int i2])), (h1, aI cZ 80 f3), (h2, aI cI 160 f4)] s.heap := hP.sub [0, 1, 2] rfl
            have hD9 : va_D A [(h0, .inr (3, [.ref h2, .ref h1, .ref k0, .int i0, .int i1, .int i2])), (h1, aI cZ 80 f3), (h2, aI cI 160 f4)] := hD.sub [0, 1, 2] (by decide) rfl
            rw [← hQQ]
            exact W.iret (v := (-1)) hx hb hr (fun t ht hW => ⟨⟨_, (), rfl, hwp, by rw [ht]; exact hP9, hD9⟩, hS.F ht⟩) hS.2.2 dX3_endAt_76
          · replace hwp := hwp.2 c64
            refine lv_iconst (v := 2) hx hb dX3_endAt_67 (by decide) ?_
            refine lv_iload_n hx hb dX3_endAt_68 rfl (lv_at hl 3 rfl) ?_
            refine lv_imul hx hb dX3_endAt_69 ?_
            refine lv_iconst (v := 1) hx hb dX3_endAt_70 (by decide) ?_
            refine lv_iadd hx hb dX3_endAt_71 ?_
            refine lv_goto (tgt := 76) hx hb dX3_endAt_72 (by decide) ?_
            have hP9 : va_P G vwCl [(h0, .inr (3, [.ref h2, .ref h1, .ref k0, .int i0, .int i1, .int i2])), (h1, aI cZ 80 f3), (h2, aI cI 160 f4)] s.heap := hP.sub [0, 1, 2] rfl
            have hD9 : va_D A [(h0, .inr (3, [.ref h2, .ref h1, .ref k0, .int i0, .int i1, .int i2])), (h1, aI cZ 80 f3), (h2, aI cI 160 f4)] := hD.sub [0, 1, 2] (by decide) rfl
            rw [← hQQ]
            exact W.iret (v := (((2 : Int32) * p2) + 1)) hx hb hr (fun t ht hW => ⟨⟨_, (), rfl, hwp, by rw [ht]; exact hP9, hD9⟩, hS.F ht⟩) hS.2.2 dX3_endAt_76
      · replace hwp := hwp.2 c34
        refine lv_iconst (v := 2) hx hb dX3_endAt_37 (by decide) ?_
        refine lv_iload_n hx hb dX3_endAt_38 rfl (lv_at hl 3 rfl) ?_
        refine lv_imul hx hb dX3_endAt_39 ?_
        have hP9 : va_P G vwCl [(h0, .inr (3, [.ref h2, .ref h1, .ref k0, .int i0, .int i1, .int i2])), (h1, aI cZ 80 f3), (h2, aI cI 160 f4)] s.heap := hP.sub [0, 1, 2] rfl
        have hD9 : va_D A [(h0, .inr (3, [.ref h2, .ref h1, .ref k0, .int i0, .int i1, .int i2])), (h1, aI cZ 80 f3), (h2, aI cI 160 f4)] := hD.sub [0, 1, 2] (by decide) rfl
        rw [← hQQ]
        exact W.iret (v := ((2 : Int32) * p2)) hx hb hr (fun t ht hW => ⟨⟨_, (), rfl, hwp, by rw [ht]; exact hP9, hD9⟩, hS.F ht⟩) hS.2.2 dX3_endAt_40
  · replace hwp := hwp.2 c6
    refine lv_iconst (v := (-1)) hx hb dX3_endAt_9 (by decide) ?_
    have hP9 : va_P G vwCl [(h0, .inr (3, [.ref h2, .ref h1, .ref k0, .int i0, .int i1, .int i2])), (h1, aI cZ 80 f3), (h2, aI cI 160 f4)] s.heap := hP.sub [0, 1, 2] rfl
    have hD9 : va_D A [(h0, .inr (3, [.ref h2, .ref h1, .ref k0, .int i0, .int i1, .int i2])), (h1, aI cZ 80 f3), (h2, aI cI 160 f4)] := hD.sub [0, 1, 2] (by decide) rfl
    rw [← hQQ]
    exact W.iret (v := (-1)) hx hb hr (fun t ht hW => ⟨⟨_, (), rfl, hwp, by rw [ht]; exact hP9, hD9⟩, hS.F ht⟩) hS.2.2 dX3_endAt_10
def wX7_empty (i0 : Int32) (K : (Int32) → Prop) : Prop := K (0 : Int32)
set_option maxHeartbeats 4000000 in
set_option maxRecDepth 100000 in
theorem zX7_empty (l : Launch) (G : va_G) (cI cJ cZ : ClassId) (h0 k0 k1 sz : Nat) (i0 : Int32) (K : (Int32) → Prop) (hwp : wX7_empty i0 K) : Met l yX7_empty (xw yX7_empty cX7_empty 1 none) ({ frames := 0, cells := 0, slots := 0, locals := 0 }) (xPc G cI cJ cZ [.ref h0] [(h0, .inr (7, [.ref k0, .ref k1, .int i0]))] sz) (va_Qv (fun (u : Int32) => K u) (fun (u : Int32) t => xB G (va_A [(h0, .inr (7, [.ref k0, .ref k1, .int i0]))] sz) [(h0, .inr (7, [.ref k0, .ref k1, .int u]))] t) (va_A [(h0, .inr (7, [.ref k0, .ref k1, .int i0]))] sz)) 0 0 (va_A [(h0, .inr (7, [.ref k0, .ref k1, .int i0]))] sz) := by
  refine Met.ofW (cc := cX7_empty) (maxL := 1) (ret := none) (by decide) rfl ?_
  intro p e s m args below meth c s₁ B hml hv
  obtain ⟨rfl, hsz, hP, hK, hD0, hN⟩ := hv
  have hx := B.exec
  have hb := B.bytes
  have hr := B.returns
  have hts : ∀ w ∈ xW, w.before _ s = true := fun w h => atoms_spec (ws := xw yX7_empty cX7_empty 1 none) B.pre w (List.mem_cons_of_mem _ h)
  have hown : s.vm.findClass RX7 = some m.cls := findClass_of_methodNamed B.named
  have hlocks := B.notSynchronized
  subst hsz
  have hD := hD0.self (sz := s.heap.size)
  clear hD0
  generalize hAe : va_A [(h0, .inr (7, [.ref k0, .ref k1, .int i0]))] s.heap.size = A at hD ⊢
  have hA : ∀ q : Nat, s.heap.size ≤ q → A q := fun q h => by rw [← hAe]; exact Or.inr h
  clear hAe
  have hS : va_S A s.heap s.heap [] := va_S.rf
  replace hP : va_P G vwCl [(h0, .inr (7, [.ref k0, .ref k1, .int i0]))] s.heap := hP
  have hl := lv_entry ([.ref h0]) (n := 1) (Nat.le_of_ble_eq_true rfl)
  rw [lg_entry_eq]
  generalize (lg_sl ([.ref h0]) ++ List.replicate (1 - (lg_sl ([.ref h0])).length) Slot.unset).toArray = ls at hl ⊢
  replace hl : lv_has ls 1 [(0, .ref h0)] := hl
  generalize hQQ : MQ below _ _ s 0 0 _ = QQ
  skip
  unfold wX7_empty at hwp
  refine lv_aload_n hx hb dX7_empty_0 rfl (lv_at hl 0 rfl) ?_
  refine lv_iconst (v := 0) hx hb dX7_empty_1 (by decide) ?_
  refine va_put (D := G) (ci := 7) (v := .int 0) (ty := .int) (C := RX7) (T := TX7) (N := 3) hx hb hts xinX7 tyX7 tyX7_ok nmX7 hown hK hP hD hS 0 rfl rfl 2 (by decide) (hts _ wo_22) (fun _ h9 => h9) rfl (by decide +kernel) rfl rfl (Nat.le_of_ble_eq_true rfl) dX7_empty_2 (fun H locs hP hD hS => ?_)
  replace hP : va_P G vwCl [(h0, .inr (7, [.ref k0, .ref k1, .int 0]))] H := hP
  replace hD : va_D A [(h0, .inr (7, [.ref k0, .ref k1, .int 0]))] := hD
  have hP9 : va_P G vwCl [(h0, .inr (7, [.ref k0, .ref k1, .int 0]))] H := hP.sub [0] rfl
  have hD9 : va_D A [(h0, .inr (7, [.ref k0, .ref k1, .int 0]))] := hD.sub [0] (by decide) rfl
  rw [← hQQ]
  exact W.vret hx hb hr (fun t ht hW => ⟨⟨(0 : Int32), rfl, hwp, by rw [ht]; exact hP9, hD9⟩, hS.F ht⟩) hS.2.2 dX7_empty_5
def wX7_open (i0 : Int32) (f1 : Nat → Int32) (K : (Int32 × (Nat → Int32)) → Prop) : Prop := ((180 ≤ i0 → K (i0, f1)) ∧ (¬ 180 ≤ i0 → (vp_in i0 181 ∧ (vp_in (i0 + 1) 181 ∧ (∀ g29 : Nat → Int32, g29 = upd f1 (Int32.toNatClampNeg (i0 + 1)) (f1 (Int32.toNatClampNeg i0)) → (∀ v37 : Int32, v37 = (i0 + 1) → K (v37, g29)))))))
set_option maxHeartbeats 4000000 in
set_option maxRecDepth 100000 in
theorem zX7_open (l : Launch) (G : va_G) (cI cJ cZ : ClassId) (h0 h1 k0 sz : Nat) (i0 : Int32) (f1 : Nat → Int32) (K : (Int32 × (Nat → Int32)) → Prop) (hwp : wX7_open i0 f1 K) : Met l yX7_open (xw yX7_open cX7_open 1 none) ({ frames := 0, cells := 0, slots := 0, locals := 0 }) (xPc G cI cJ cZ [.ref h0] [(h0, .inr (7, [.ref k0, .ref h1, .int i0])), (h1, aI cI 181 f1)] sz) (va_Qv (fun (u : Int32 × (Nat → Int32)) => K u) (fun (u : Int32 × (Nat → Int32)) t => xB G (va_A [(h0, .inr (7, [.ref k0, .ref h1, .int i0])), (h1, aI cI 181 f1)] sz) [(h0, .inr (7, [.ref k0, .ref h1, .int u.1])), (h1, aI cI 181 u.2)] t) (va_A [(h0, .inr (7, [.ref k0, .ref h1, .int i0])), (h1, aI cI 181 f1)] sz)) 0 0 (va_A [(h0, .inr (7, [.ref k0, .ref h1, .int i0])), (h1, aI cI 181 f1)] sz) := by
  refine Met.ofW (cc := cX7_open) (maxL := 1) (ret := none) (by decide) rfl ?_
  intro p e s m args below meth c s₁ B hml hv
  obtain ⟨rfl, hsz, hP, hK, hD0, hN⟩ := hv
  have hx := B.exec
  have hb := B.bytes
  have hr := B.returns
  have hts : ∀ w ∈ xW, w.before _ s = true := fun w h => atoms_spec (ws := xw yX7_open cX7_open 1 none) B.pre w (List.mem_cons_of_mem _ h)
  have hown : s.vm.findClass RX7 = some m.cls := findClass_of_methodNamed B.named
  have hlocks := B.notSynchronized
  subst hsz
  have hD := hD0.self (sz := s.heap.size)
  clear hD0
  generalize hAe : va_A [(h0, .inr (7, [.ref k0, .ref h1, .int i0])), (h1, aI cI 181 f1)] s.heap.size = A at hD ⊢
  have hA : ∀ q : Nat, s.heap.size ≤ q → A q := fun q h => by rw [← hAe]; exact Or.inr h
  clear hAe
  have hS : va_S A s.heap s.heap [] := va_S.rf
  replace hP : va_P G vwCl [(h0, .inr (7, [.ref k0, .ref h1, .int i0])), (h1, aI cI 181 f1)] s.heap := hP
  have hl := lv_entry ([.ref h0]) (n := 1) (Nat.le_of_ble_eq_true rfl)
  rw [lg_entry_eq]
  generalize (lg_sl ([.ref h0]) ++ List.replicate (1 - (lg_sl ([.ref h0])).length) Slot.unset).toArray = ls at hl ⊢
  replace hl : lv_has ls 1 [(0, .ref h0)] := hl
  generalize hQQ : MQ below _ _ s 0 0 _ = QQ
  skip
  unfold wX7_open at hwp
  refine lv_aload_n hx hb dX7_open_0 rfl (lv_at hl 0 rfl) ?_
  refine va_get (D := G) (ci := 7) (v := .int i0) (C := RX7) (T := TX7) (N := 3) hx hb hts xinX7 hown hK hP 0 rfl rfl 2 (by decide) (hts _ wo_22) (fun _ h9 => h9) rfl dX7_open_1 ?_
  refine lv_sipush (v := 180) hx hb dX7_open_4 (by decide) ?_
  refine lv_icmp_ge (tgt := 40) hx hb dX7_open_7 (by decide) (fun c7 => ?_) (fun c7 => ?_)
  · replace hwp := hwp.1 c7
    have hP9 : va_P G vwCl [(h0, .inr (7, [.ref k0, .ref h1, .int i0])), (h1, aI cI 181 f1)] s.heap := hP.sub [0, 1] rfl
    have hD9 : va_D A [(h0, .inr (7, [.ref k0, .ref h1, .int i0])), (h1, aI cI 181 f1)] := hD.sub [0, 1] (by decide) rfl
    rw [← hQQ]
    exact W.vret hx hb hr (fun t ht hW => ⟨⟨(i0, f1), rfl, hwp, by rw [ht]; exact hP9, hD9⟩, hS.F ht⟩) hS.2.2 dX7_open_40
  · replace hwp := hwp.2 c7
    refine lv_aload_n hx hb dX7_open_10 rfl (lv_at hl 0 rfl) ?_
    refine va_get (D := G) (ci := 7) (v := .ref h1) (C := RX7) (T := TX7) (N := 3) hx hb hts xinX7 hown hK hP 0 rfl rfl 1 (by decide) (hts _ wo_23) (fun _ h9 => h9) rfl dX7_open_11 ?_
    refine lv_aload_n hx hb dX7_open_14 rfl (lv_at hl 0 rfl) ?_
    refine va_get (D := G) (ci := 7) (v := .int i0) (C := RX7) (T := TX7) (N := 3) hx hb hts xinX7 hown hK hP 0 rfl rfl 2 (by decide) (hts _ wo_22) (fun _ h9 => h9) rfl dX7_open_15 ?_
    refine lv_iconst (v := 1) hx hb dX7_open_18 (by decide) ?_
    refine lv_iadd hx hb dX7_open_19 ?_
    refine lv_aload_n hx hb dX7_open_20 rfl (lv_at hl 0 rfl) ?_
    refine va_get (D := G) (ci := 7) (v := .ref h1) (C := RX7) (T := TX7) (N := 3) hx hb hts xinX7 hown hK hP 0 rfl rfl 1 (by decide) (hts _ wo_23) (fun _ h9 => h9) rfl dX7_open_21 ?_
    refine lv_aload_n hx hb dX7_open_24 rfl (lv_at hl 0 rfl) ?_
    refine va_get (D := G) (ci := 7) (v := .int i0) (C := RX7) (T := TX7) (N := 3) hx hb hts xinX7 hown hK hP 0 rfl rfl 2 (by decide) (hts _ wo_22) (fun _ h9 => h9) rfl dX7_open_25 ?_
    obtain ⟨hi, hwp⟩ := hwp
    refine va_iald hx hb hK hP 1 0 rfl rfl hi dX7_open_28 ?_
    obtain ⟨hi, hwp⟩ := hwp
    refine va_iast hx hb hK hP hD hS 1 0 rfl rfl hi dX7_open_29 (fun H locs hP hD hS => ?_)
    obtain ⟨g29, eg29⟩ : ∃ z, z = upd f1 (Int32.toNatClampNeg (i0 + 1)) (f1 (Int32.toNatClampNeg i0)) := ⟨_, rfl⟩
    replace hwp := hwp g29 eg29
    replace hP : va_P G vwCl [(h0, .inr (7, [.ref k0, .ref h1, .int i0])), (h1, aI cI 181 g29)] H := by rw [eg29]; exact hP
    replace hD : va_D A [(h0, .inr (7, [.ref k0, .ref h1, .int i0])), (h1, aI cI 181 g29)] := by rw [eg29]; exact hD
    clear eg29
    refine lv_aload_n hx hb dX7_open_30 rfl (lv_at hl 0 rfl) ?_
    refine lv_dup hx hb dX7_open_31 rfl ?_
    refine va_get (D := G) (ci := 7) (v := .int i0) (C := RX7) (T := TX7) (N := 3) hx hb hts xinX7 hown hK hP 0 rfl rfl 2 (by decide) (hts _ wo_22) (fun _ h9 => h9) rfl dX7_open_32 ?_
    refine lv_iconst (v := 1) hx hb dX7_open_35 (by decide) ?_
    refine lv_iadd hx hb dX7_open_36 ?_
    refine lv_topi (fun v37 ev37 => ?_)
    replace hwp := hwp v37 ev37
    clear ev37
    refine va_put (D := G) (ci := 7) (v := .int v37) (ty := .int) (C := RX7) (T := TX7) (N := 3) hx hb hts xinX7 tyX7 tyX7_ok nmX7 hown hK hP hD hS 0 rfl rfl 2 (by decide) (hts _ wo_22) (fun _ h9 => h9) rfl (by decide +kernel) rfl rfl (Nat.le_of_ble_eq_true rfl) dX7_open_37 (fun H locs hP hD hS => ?_)
    replace hP : va_P G vwCl [(h0, .inr (7, [.ref k0, .ref h1, .int v37])), (h1, aI cI 181 g29)] H := hP
    replace hD : va_D A [(h0, .inr (7, [.ref k0, .ref h1, .int v37])), (h1, aI cI 181 g29)] := hD
    have hP9 : va_P G vwCl [(h0, .inr (7, [.ref k0, .ref h1, .int v37])), (h1, aI cI 181 g29)] H := hP.sub [0, 1] rfl
    have hD9 : va_D A [(h0, .inr (7, [.ref k0, .ref h1, .int v37])), (h1, aI cI 181 g29)] := hD.sub [0, 1] (by decide) rfl
    rw [← hQQ]
    exact W.vret hx hb hr (fun t ht hW => ⟨⟨(v37, g29), rfl, hwp, by rw [ht]; exact hP9, hD9⟩, hS.F ht⟩) hS.2.2 dX7_open_40
def wX7_size (i0 : Int32) (f1 : Nat → Int32) (p0 : Int32) (K : Int32 → Unit → Prop) : Prop := (vp_in (p0 + 1) 181 ∧ (vp_in p0 181 ∧ K ((f1 (Int32.toNatClampNeg (p0 + 1))) - (f1 (Int32.toNatClampNeg p0))) ()))
set_option maxHeartbeats 4000000 in
set_option maxRecDepth 100000 in
theorem zX7_size (l : Launch) (G : va_G) (cI cJ cZ : ClassId) (h0 h1 k0 sz : Nat) (i0 : Int32) (f1 : Nat → Int32) (p0 : Int32) (K : Int32 → Unit → Prop) (hwp : wX7_size i0 f1 p0 K) : Met l yX7_size (xw yX7_size cX7_size 2 (some .int)) ({ frames := 0, cells := 0, slots := 0, locals := 0 }) (xPc G cI cJ cZ [.ref h0, .int p0] [(h0, .inr (7, [.ref k0, .ref h1, .int i0])), (h1, aI cI 181 f1)] sz) (va_Qi (fun (r : Int32) (u : Unit) => K r u) (fun (u : Unit) t => xB G (va_A [(h0, .inr (7, [.ref k0, .ref h1, .int i0])), (h1, aI cI 181 f1)] sz) [(h0, .inr (7, [.ref k0, .ref h1, .int i0])), (h1, aI cI 181 f1)] t) (va_A [(h0, .inr (7, [.ref k0, .ref h1, .int i0])), (h1, aI cI 181 f1)] sz)) 0 0 (va_A [(h0, .inr (7, [.ref k0, .ref h1, .int i0])), (h1, aI cI 181 f1)] sz) := by
  refine Met.ofW (cc := cX7_size) (maxL := 2) (ret := (some .int)) (by decide) rfl ?_
  intro p e s m args below meth c s₁ B hml hv
  obtain ⟨rfl, hsz, hP, hK, hD0, hN⟩ := hv
  have hx := B.exec
  have hb := B.bytes
  have hr := B.returns
  have hts : ∀ w ∈ xW, w.before _ s = true := fun w h => atoms_spec (ws := xw yX7_size cX7_size 2 (some .int)) B.pre w (List.mem_cons_of_mem _ h)
  have hown : s.vm.findClass RX7 = some m.cls := findClass_of_methodNamed B.named
  have hlocks := B.notSynchronized
  subst hsz
  have hD := hD0.self (sz := s.heap.size)
  clear hD0
  generalize hAe : va_A [(h0, .inr (7, [.ref k0, .ref h1, .int i0])), (h1, aI cI 181 f1)] s.heap.size = A at hD ⊢
  have hA : ∀ q : Nat, s.heap.size ≤ q → A q := fun q h => by rw [← hAe]; exact Or.inr h
  clear hAe
  have hS : va_S A s.heap s.heap [] := va_S.rf
  replace hP : va_P G vwCl [(h0, .inr (7, [.ref k0, .ref h1, .int i0])), (h1, aI cI 181 f1)] s.heap := hP
  have hl := lv_entry ([.ref h0, .int p0]) (n := 2) (Nat.le_of_ble_eq_true rfl)
  rw [lg_entry_eq]
  generalize (lg_sl ([.ref h0, .int p0]) ++ List.replicate (2 - (lg_sl ([.ref h0, .int p0])).length) Slot.unset).toArray = ls at hl ⊢
  replace hl : lv_has ls 2 [(0, .ref h0), (1, .int p0)] := hl
  generalize hQQ : MQ below _ _ s 0 0 _ = QQ
  skip
  unfold wX7_size at hwp
  refine lv_aload_n hx hb dX7_size_0 rfl (lv_at hl 0 rfl) ?_
  refine va_get (D := G) (ci := 7) (v := .ref h1) (C := RX7) (T := TX7) (N := 3) hx hb hts xinX7 hown hK hP 0 rfl rfl 1 (by decide) (hts _ wo_23) (fun _ h9 => h9) rfl dX7_size_1 ?_
  refine lv_iload_n hx hb dX7_size_4 rfl (lv_at hl 1 rfl) ?_
  refine lv_iconst (v := 1) hx hb dX7_size_5 (by decide) ?_
  refine lv_iadd hx hb dX7_size_6 ?_
  obtain ⟨hi, hwp⟩ := hwp
  refine va_iald hx hb hK hP 1 0 rfl rfl hi dX7_size_7 ?_
  refine lv_aload_n hx hb dX7_size_8 rfl (lv_at hl 0 rfl) ?_
  refine va_get (D := G) (ci := 7) (v := .ref h1) (C := RX7) (T := TX7) (N := 3) hx hb hts xinX7 hown hK hP 0 rfl rfl 1 (by decide) (hts _ wo_23) (fun _ h9 => h9) rfl dX7_size_9 ?_
  refine lv_iload_n hx hb dX7_size_12 rfl (lv_at hl 1 rfl) ?_
  obtain ⟨hi, hwp⟩ := hwp
  refine va_iald hx hb hK hP 1 0 rfl rfl hi dX7_size_13 ?_
  refine lv_isub hx hb dX7_size_14 ?_
  have hP9 : va_P G vwCl [(h0, .inr (7, [.ref k0, .ref h1, .int i0])), (h1, aI cI 181 f1)] s.heap := hP.sub [0, 1] rfl
  have hD9 : va_D A [(h0, .inr (7, [.ref k0, .ref h1, .int i0])), (h1, aI cI 181 f1)] := hD.sub [0, 1] (by decide) rfl
  rw [← hQQ]
  exact W.iret (v := ((f1 (Int32.toNatClampNeg (p0 + 1))) - (f1 (Int32.toNatClampNeg p0)))) hx hb hr (fun t ht hW => ⟨⟨_, (), rfl, hwp, by rw [ht]; exact hP9, hD9⟩, hS.F ht⟩) hS.2.2 dX7_size_15
def wX7_has (i0 : Int32) (f1 : Nat → Int32) (p0 : Int32) (p1 : Int32) (K : Int32 → Unit → Prop) : Prop := ((p0 < 0 → K (0 : Int32) ()) ∧ (¬ p0 < 0 → ((i0 ≤ p0 → K (0 : Int32) ()) ∧ (¬ i0 ≤ p0 → ((p1 < 0 → K (0 : Int32) ()) ∧ (¬ p1 < 0 → (wX7_size i0 f1 p0 (fun r19 _ => ((r19 ≤ p1 → K (0 : Int32) ()) ∧ (¬ r19 ≤ p1 → K (1 : Int32) ()))))))))))
set_option maxHeartbeats 4000000 in
set_option maxRecDepth 100000 in
theorem zX7_has (l : Launch) (G : va_G) (cI cJ cZ : ClassId) (h0 h1 k0 sz : Nat) (i0 : Int32) (f1 : Nat → Int32) (p0 : Int32) (p1 : Int32) (K : Int32 → Unit → Prop) (hwp : wX7_has i0 f1 p0 p1 K) : Met l yX7_has (xw yX7_has cX7_has 3 (some .boolean)) ({ frames := 1, cells := 0, slots := 0, locals := 21 }) (xPc G cI cJ cZ [.ref h0, .int p0, .int p1] [(h0, .inr (7, [.ref k0, .ref h1, .int i0])), (h1, aI cI 181 f1)] sz) (va_Qi (fun (r : Int32) (u : Unit) => K r u) (fun (u : Unit) t => xB G (va_A [(h0, .inr (7, [.ref k0, .ref h1, .int i0])), (h1, aI cI 181 f1)] sz) [(h0, .inr (7, [.ref k0, .ref h1, .int i0])), (h1, aI cI 181 f1)] t) (va_A [(h0, .inr (7, [.ref k0, .ref h1, .int i0])), (h1, aI cI 181 f1)] sz)) 0 0 (va_A [(h0, .inr (7, [.ref k0, .ref h1, .int i0])), (h1, aI cI 181 f1)] sz) := by
  refine Met.ofW (cc := cX7_has) (maxL := 3) (ret := (some .boolean)) (by decide) rfl ?_
  intro p e s m args below meth c s₁ B hml hv
  obtain ⟨rfl, hsz, hP, hK, hD0, hN⟩ := hv
  have hx := B.exec
  have hb := B.bytes
  have hr := B.returns
  have hts : ∀ w ∈ xW, w.before _ s = true := fun w h => atoms_spec (ws := xw yX7_has cX7_has 3 (some .boolean)) B.pre w (List.mem_cons_of_mem _ h)
  have hown : s.vm.findClass RX7 = some m.cls := findClass_of_methodNamed B.named
  have hlocks := B.notSynchronized
  subst hsz
  have hD := hD0.self (sz := s.heap.size)
  clear hD0
  generalize hAe : va_A [(h0, .inr (7, [.ref k0, .ref h1, .int i0])), (h1, aI cI 181 f1)] s.heap.size = A at hD ⊢
  have hA : ∀ q : Nat, s.heap.size ≤ q → A q := fun q h => by rw [← hAe]; exact Or.inr h
  clear hAe
  have hS : va_S A s.heap s.heap [] := va_S.rf
  replace hP : va_P G vwCl [(h0, .inr (7, [.ref k0, .ref h1, .int i0])), (h1, aI cI 181 f1)] s.heap := hP
  have hl := lv_entry ([.ref h0, .int p0, .int p1]) (n := 3) (Nat.le_of_ble_eq_true rfl)
  rw [lg_entry_eq]
  generalize (lg_sl ([.ref h0, .int p0, .int p1]) ++ List.replicate (3 - (lg_sl ([.ref h0, .int p0, .int p1])).length) Slot.unset).toArray = ls at hl ⊢
  replace hl : lv_has ls 3 [(0, .ref h0), (1, .int p0), (2, .int p1)] := hl
  generalize hQQ : MQ below _ _ s 0 0 _ = QQ
  skip
  unfold wX7_has at hwp
  refine lv_iload_n hx hb dX7_has_0 rfl (lv_at hl 1 rfl) ?_
  refine lv_if_lt (tgt := 29) hx hb dX7_has_1 (by decide) (fun c1 => ?_) (fun c1 => ?_)
  · replace hwp := hwp.1 c1
    refine lv_iconst (v := 0) hx hb dX7_has_29 (by decide) ?_
    have hP9 : va_P G vwCl [(h0, .inr (7, [.ref k0, .ref h1, .int i0])), (h1, aI cI 181 f1)] s.heap := hP.sub [0, 1] rfl
    have hD9 : va_D A [(h0, .inr (7, [.ref k0, .ref h1, .int i0])), (h1, aI cI 181 f1)] := hD.sub [0, 1] (by decide) rfl
    rw [← hQQ]
    exact W.zret (v := 0) hx hb hr rfl (fun t ht hW => ⟨⟨_, (), rfl, hwp, by rw [ht]; exact hP9, hD9⟩, hS.F ht⟩) hS.2.2 dX7_has_30
  · replace hwp := hwp.2 c1
    refine lv_iload_n hx hb dX7_has_4 rfl (lv_at hl 1 rfl) ?_
    refine lv_aload_n hx hb dX7_has_5 rfl (lv_at hl 0 rfl) ?_
    refine va_get (D := G) (ci := 7) (v := .int i0) (C := RX7) (T := TX7) (N := 3) hx hb hts xinX7 hown hK hP 0 rfl rfl 2 (by decide) (hts _ wo_22) (fun _ h9 => h9) rfl dX7_has_6 ?_
    refine lv_icmp_ge (tgt := 29) hx hb dX7_has_9 (by decide) (fun c9 => ?_) (fun c9 => ?_)
    · replace hwp := hwp.1 c9
      refine lv_iconst (v := 0) hx hb dX7_has_29 (by decide) ?_
      have hP9 : va_P G vwCl [(h0, .inr (7, [.ref k0, .ref h1, .int i0])), (h1, aI cI 181 f1)] s.heap := hP.sub [0, 1] rfl
      have hD9 : va_D A [(h0, .inr (7, [.ref k0, .ref h1, .int i0])), (h1, aI cI 181 f1)] := hD.sub [0, 1] (by decide) rfl
      rw [← hQQ]
      exact W.zret (v := 0) hx hb hr rfl (fun t ht hW => ⟨⟨_, (), rfl, hwp, by rw [ht]; exact hP9, hD9⟩, hS.F ht⟩) hS.2.2 dX7_has_30
    · replace hwp := hwp.2 c9
      refine lv_iload_n hx hb dX7_has_12 rfl (lv_at hl 2 rfl) ?_
      refine lv_if_lt (tgt := 29) hx hb dX7_has_13 (by decide) (fun c13 => ?_) (fun c13 => ?_)
      · replace hwp := hwp.1 c13
        refine lv_iconst (v := 0) hx hb dX7_has_29 (by decide) ?_
        have hP9 : va_P G vwCl [(h0, .inr (7, [.ref k0, .ref h1, .int i0])), (h1, aI cI 181 f1)] s.heap := hP.sub [0, 1] rfl
        have hD9 : va_D A [(h0, .inr (7, [.ref k0, .ref h1, .int i0])), (h1, aI cI 181 f1)] := hD.sub [0, 1] (by decide) rfl
        rw [← hQQ]
        exact W.zret (v := 0) hx hb hr rfl (fun t ht hW => ⟨⟨_, (), rfl, hwp, by rw [ht]; exact hP9, hD9⟩, hS.F ht⟩) hS.2.2 dX7_has_30
      · replace hwp := hwp.2 c13
        refine lv_iload_n hx hb dX7_has_16 rfl (lv_at hl 2 rfl) ?_
        refine lv_aload_n hx hb dX7_has_17 rfl (lv_at hl 0 rfl) ?_
        refine lv_iload_n hx hb dX7_has_18 rfl (lv_at hl 1 rfl) ?_
        refine xci (wr := []) (va_runV (As := [.int p0]) (rest := [.int p1]) ⟨hx, hb, hml, hown, hts⟩ (zX7_size l G cI cJ cZ h0 h1 k0 s.heap.size i0 f1 p0 _ hwp) (cwV 1 hts (xgoodV wo_24 wo_25 wo_26 wo_27 wo_28) rfl rfl rfl (by decide +kernel) ⟨Nat.le_of_ble_eq_true rfl, Nat.le_of_ble_eq_true rfl⟩) (xPreV (q := (RX7, TX7, 3)) (q0 := 0) hK hN hP hD [0, 1] (by decide) rfl rfl rfl) rfl rfl hl.1 rfl (lv_room (Nat.le_of_ble_eq_true rfl)) dX7_has_19 ⟨Nat.le_of_ble_eq_true rfl, Nat.le_of_ble_eq_true rfl⟩) hP hD hS hA [0, 1] [] rfl rfl (by decide) (by decide) (fun r19 u19 H locs hwp hP hD hS => ?_)
        replace hP : va_P G vwCl [(h0, .inr (7, [.ref k0, .ref h1, .int i0])), (h1, aI cI 181 f1)] H := hP
        replace hD : va_D A [(h0, .inr (7, [.ref k0, .ref h1, .int i0])), (h1, aI cI 181 f1)] := hD
        refine lv_icmp_ge (tgt := 29) hx hb dX7_has_22 (by decide) (fun c22 => ?_) (fun c22 => ?_)
        · replace hwp := hwp.1 c22
          refine lv_iconst (v := 0) hx hb dX7_has_29 (by decide) ?_
          have hP9 : va_P G vwCl [(h0, .inr (7, [.ref k0, .ref h1, .int i0])), (h1, aI cI 181 f1)] H := hP.sub [0, 1] rfl
          have hD9 : va_D A [(h0, .inr (7, [.ref k0, .ref h1, .int i0])), (h1, aI cI 181 f1)] := hD.sub [0, 1] (by decide) rfl
          rw [← hQQ]
          exact W.zret (v := 0) hx hb hr rfl (fun t ht hW => ⟨⟨_, (), rfl, hwp, by rw [ht]; exact hP9, hD9⟩, hS.F ht⟩) hS.2.2 dX7_has_30
        · replace hwp := hwp.2 c22
          refine lv_iconst (v := 1) hx hb dX7_has_25 (by decide) ?_
          refine lv_goto (tgt := 30) hx hb dX7_has_26 (by decide) ?_
          have hP9 : va_P G vwCl [(h0, .inr (7, [.ref k0, .ref h1, .int i0])), (h1, aI cI 181 f1)] H := hP.sub [0, 1] rfl
          have hD9 : va_D A [(h0, .inr (7, [.ref k0, .ref h1, .int i0])), (h1, aI cI 181 f1)] := hD.sub [0, 1] (by decide) rfl
          rw [← hQQ]
          exact W.zret (v := 1) hx hb hr rfl (fun t ht hW => ⟨⟨_, (), rfl, hwp, by rw [ht]; exact hP9, hD9⟩, hS.F ht⟩) hS.2.2 dX7_has_30
def wX7_get (i0 : Int32) (f1 : Nat → Int32) (f2 : Nat → Int32) (p0 : Int32) (p1 : Int32) (K : Int32 → Unit → Prop) : Prop := (vp_in p0 181 ∧ (vp_in ((f1 (Int32.toNatClampNeg p0)) + p1) 160 ∧ K (f2 (Int32.toNatClampNeg ((f1 (Int32.toNatClampNeg p0)) + p1))) ()))
set_option maxHeartbeats 4000000 in
set_option maxRecDepth 100000 in
theorem zX7_get (l : Launch) (G : va_G) (cI cJ cZ : ClassId) (h0 h1 h2 sz : Nat) (i0 : Int32) (f1 : Nat → Int32) (f2 : Nat → Int32) (p0 : Int32) (p1 : Int32) (K : Int32 → Unit → Prop) (hwp : wX7_get i0 f1 f2 p0 p1 K) : Met l yX7_get (xw yX7_get cX7_get 3 (some .int)) ({ frames := 0, cells := 0, slots := 0, locals := 0 }) (xPc G cI cJ cZ [.ref h0, .int p0, .int p1] [(h0, .inr (7, [.ref h2, .ref h1, .int i0])), (h1, aI cI 181 f1), (h2, aI cI 160 f2)] sz) (va_Qi (fun (r : Int32) (u : Unit) => K r u) (fun (u : Unit) t => xB G (va_A [(h0, .inr (7, [.ref h2, .ref h1, .int i0])), (h1, aI cI 181 f1), (h2, aI cI 160 f2)] sz) [(h0, .inr (7, [.ref h2, .ref h1, .int i0])), (h1, aI cI 181 f1), (h2, aI cI 160 f2)] t) (va_A [(h0, .inr (7, [.ref h2, .ref h1, .int i0])), (h1, aI cI 181 f1), (h2, aI cI 160 f2)] sz)) 0 0 (va_A [(h0, .inr (7, [.ref h2, .ref h1, .int i0])), (h1, aI cI 181 f1), (h2, aI cI 160 f2)] sz) := by
  refine Met.ofW (cc := cX7_get) (maxL := 3) (ret := (some .int)) (by decide) rfl ?_
  intro p e s m args below meth c s₁ B hml hv
  obtain ⟨rfl, hsz, hP, hK, hD0, hN⟩ := hv
  have hx := B.exec
  have hb := B.bytes
  have hr := B.returns
  have hts : ∀ w ∈ xW, w.before _ s = true := fun w h => atoms_spec (ws := xw yX7_get cX7_get 3 (some .int)) B.pre w (List.mem_cons_of_mem _ h)
  have hown : s.vm.findClass RX7 = some m.cls := findClass_of_methodNamed B.named
  have hlocks := B.notSynchronized
  subst hsz
  have hD := hD0.self (sz := s.heap.size)
  clear hD0
  generalize hAe : va_A [(h0, .inr (7, [.ref h2, .ref h1, .int i0])), (h1, aI cI 181 f1), (h2, aI cI 160 f2)] s.heap.size = A at hD ⊢
  have hA : ∀ q : Nat, s.heap.size ≤ q → A q := fun q h => by rw [← hAe]; exact Or.inr h
  clear hAe
  have hS : va_S A s.heap s.heap [] := va_S.rf
  replace hP : va_P G vwCl [(h0, .inr (7, [.ref h2, .ref h1, .int i0])), (h1, aI cI 181 f1), (h2, aI cI 160 f2)] s.heap := hP
  have hl := lv_entry ([.ref h0, .int p0, .int p1]) (n := 3) (Nat.le_of_ble_eq_true rfl)
  rw [lg_entry_eq]
  generalize (lg_sl ([.ref h0, .int p0, .int p1]) ++ List.replicate (3 - (lg_sl ([.ref h0, .int p0, .int p1])).length) Slot.unset).toArray = ls at hl ⊢
  replace hl : lv_has ls 3 [(0, .ref h0), (1, .int p0), (2, .int p1)] := hl
  generalize hQQ : MQ below _ _ s 0 0 _ = QQ
  skip
  unfold wX7_get at hwp
  refine lv_aload_n hx hb dX7_get_0 rfl (lv_at hl 0 rfl) ?_
  refine va_get (D := G) (ci := 7) (v := .ref h2) (C := RX7) (T := TX7) (N := 3) hx hb hts xinX7 hown hK hP 0 rfl rfl 0 (by decide) (hts _ wo_29) (fun _ h9 => h9) rfl dX7_get_1 ?_
  refine lv_aload_n hx hb dX7_get_4 rfl (lv_at hl 0 rfl) ?_
  refine va_get (D := G) (ci := 7) (v := .ref h1) (C := RX7) (T := TX7) (N := 3) hx hb hts xinX7 hown hK hP 0 rfl rfl 1 (by decide) (hts _ wo_23) (fun _ h9 => h9) rfl dX7_get_5 ?_
  refine lv_iload_n hx hb dX7_get_8 rfl (lv_at hl 1 rfl) ?_
  obtain ⟨hi, hwp⟩ := hwp
  refine va_iald hx hb hK hP 1 0 rfl rfl hi dX7_get_9 ?_
  refine lv_iload_n hx hb dX7_get_10 rfl (lv_at hl 2 rfl) ?_
  refine lv_iadd hx hb dX7_get_11 ?_
  obtain ⟨hi, hwp⟩ := hwp
  refine va_iald hx hb hK hP 2 0 rfl rfl hi dX7_get_12 ?_
  have hP9 : va_P G vwCl [(h0, .inr (7, [.ref h2, .ref h1, .int i0])), (h1, aI cI 181 f1), (h2, aI cI 160 f2)] s.heap := hP.sub [0, 1, 2] rfl
  have hD9 : va_D A [(h0, .inr (7, [.ref h2, .ref h1, .int i0])), (h1, aI cI 181 f1), (h2, aI cI 160 f2)] := hD.sub [0, 1, 2] (by decide) rfl
  rw [← hQQ]
  exact W.iret (v := (f2 (Int32.toNatClampNeg ((f1 (Int32.toNatClampNeg p0)) + p1)))) hx hb hr (fun t ht hW => ⟨⟨_, (), rfl, hwp, by rw [ht]; exact hP9, hD9⟩, hS.F ht⟩) hS.2.2 dX7_get_13
def wLX7_append_76 (i0 : Int32) (g71 : Nat → Int32) (K : ((Nat → Int32) × (Nat → Int32)) → Prop)  : Nat → (Nat → Int32) → Int32 → Prop
  | 0, _, _ => False
  | n76 + 1, t76_0, t76_1 => ((i0 < t76_1 → K (t76_0, g71)) ∧ (¬ i0 < t76_1 → (vp_in t76_1 181 ∧ (vp_in t76_1 181 ∧ (∀ g93 : Nat → Int32, g93 = upd t76_0 (Int32.toNatClampNeg t76_1) ((t76_0 (Int32.toNatClampNeg t76_1)) + 1) → (wLX7_append_76 i0 g71 K  n76) g93 (t76_1 + 1))))))
def wLX7_append_26 (i0 : Int32) (f1 : Nat → Int32) (p0 : Int32) (p1 : Int32) (K : ((Nat → Int32) × (Nat → Int32)) → Prop)  : Nat → (Nat → Int32) → Int32 → Prop
  | 0, _, _ => False
  | n26 + 1, t26_0, t26_1 => (vp_in (p0 + 1) 181 ∧ ((t26_1 ≤ (f1 (Int32.toNatClampNeg (p0 + 1))) → (vp_in (p0 + 1) 181 ∧ (vp_in (f1 (Int32.toNatClampNeg (p0 + 1))) 160 ∧ (∀ g71 : Nat → Int32, g71 = upd t26_0 (Int32.toNatClampNeg (f1 (Int32.toNatClampNeg (p0 + 1)))) p1 → (∀ v75 : Int32, v75 = (p0 + 1) → (∃ n76, wLX7_append_76 i0 g71 K  n76 f1 v75)))))) ∧ (¬ t26_1 ≤ (f1 (Int32.toNatClampNeg (p0 + 1))) → (vp_in (t26_1 - 1) 160 ∧ (vp_in t26_1 160 ∧ (∀ g51 : Nat → Int32, g51 = upd t26_0 (Int32.toNatClampNeg t26_1) (t26_0 (Int32.toNatClampNeg (t26_1 - 1))) → (wLX7_append_26 i0 f1 p0 p1 K  n26) g51 (t26_1 + (-1))))))))
def wX7_append (i0 : Int32) (f1 : Nat → Int32) (f2 : Nat → Int32) (p0 : Int32) (p1 : Int32) (K : ((Nat → Int32) × (Nat → Int32)) → Prop) : Prop := (vp_in i0 181 ∧ (((f1 (Int32.toNatClampNeg i0)) < 160 → (vp_in i0 181 ∧ (∀ v25 : Int32, v25 = (f1 (Int32.toNatClampNeg i0)) → (∃ n26, wLX7_append_26 i0 f1 p0 p1 K  n26 f2 v25)))) ∧ (¬ (f1 (Int32.toNatClampNeg i0)) < 160 → K (f1, f2))))
set_option maxHeartbeats 4000000 in
set_option maxRecDepth 100000 in
theorem zX7_append (l : Launch) (G : va_G) (cI cJ cZ : ClassId) (h0 h1 h2 sz : Nat) (i0 : Int32) (f1 : Nat → Int32) (f2 : Nat → Int32) (p0 : Int32) (p1 : Int32) (K : ((Nat → Int32) × (Nat → Int32)) → Prop) (hwp : wX7_append i0 f1 f2 p0 p1 K) : Met l yX7_append (xw yX7_append cX7_append 4 none) ({ frames := 0, cells := 0, slots := 0, locals := 0 }) (xPc G cI cJ cZ [.ref h0, .int p0, .int p1] [(h0, .inr (7, [.ref h2, .ref h1, .int i0])), (h1, aI cI 181 f1), (h2, aI cI 160 f2)] sz) (va_Qv (fun (u : (Nat → Int32) × (Nat → Int32)) => K u) (fun (u : (Nat → Int32) × (Nat → Int32)) t => xB G (va_A [(h0, .inr (7, [.ref h2, .ref h1, .int i0])), (h1, aI cI 181 f1), (h2, aI cI 160 f2)] sz) [(h0, .inr (7, [.ref h2, .ref h1, .int i0])), (h1, aI cI 181 u.1), (h2, aI cI 160 u.2)] t) (va_A [(h0, .inr (7, [.ref h2, .ref h1, .int i0])), (h1, aI cI 181 f1), (h2, aI cI 160 f2)] sz)) 0 0 (va_A [(h0, .inr (7, [.ref h2, .ref h1, .int i0])), (h1, aI cI 181 f1), (h2, aI cI 160 f2)] sz) := by
  refine Met.ofW (cc := cX7_append) (maxL := 4) (ret := none) (by decide) rfl ?_
  intro p e s m args below meth c s₁ B hml hv
  obtain ⟨rfl, hsz, hP, hK, hD0, hN⟩ := hv
  have hx := B.exec
  have hb := B.bytes
  have hr := B.returns
  have hts : ∀ w ∈ xW, w.before _ s = true := fun w h => atoms_spec (ws := xw yX7_append cX7_append 4 none) B.pre w (List.mem_cons_of_mem _ h)
  have hown : s.vm.findClass RX7 = some m.cls := findClass_of_methodNamed B.named
  have hlocks := B.notSynchronized
  subst hsz
  have hD := hD0.self (sz := s.heap.size)
  clear hD0
  generalize hAe : va_A [(h0, .inr (7, [.ref h2, .ref h1, .int i0])), (h1, aI cI 181 f1), (h2, aI cI 160 f2)] s.heap.size = A at hD ⊢
  have hA : ∀ q : Nat, s.heap.size ≤ q → A q := fun q h => by rw [← hAe]; exact Or.inr h
  clear hAe
  have hS : va_S A s.heap s.heap [] := va_S.rf
  replace hP : va_P G vwCl [(h0, .inr (7, [.ref h2, .ref h1, .int i0])), (h1, aI cI 181 f1), (h2, aI cI 160 f2)] s.heap := hP
  have hl := lv_entry ([.ref h0, .int p0, .int p1]) (n := 4) (Nat.le_of_ble_eq_true rfl)
  rw [lg_entry_eq]
  generalize (lg_sl ([.ref h0, .int p0, .int p1]) ++ List.replicate (4 - (lg_sl ([.ref h0, .int p0, .int p1])).length) Slot.unset).toArray = ls at hl ⊢
  replace hl : lv_has ls 4 [(0, .ref h0), (1, .int p0), (2, .int p1)] := hl
  generalize hQQ : MQ below _ _ s 0 0 _ = QQ
  skip
  unfold wX7_append at hwp
  refine lv_aload_n hx hb dX7_append_0 rfl (lv_at hl 0 rfl) ?_
  refine va_get (D := G) (ci := 7) (v := .ref h1) (C := RX7) (T := TX7) (N := 3) hx hb hts xinX7 hown hK hP 0 rfl rfl 1 (by decide) (hts _ wo_23) (fun _ h9 => h9) rfl dX7_append_1 ?_
  refine lv_aload_n hx hb dX7_append_4 rfl (lv_at hl 0 rfl) ?_
  refine va_get (D := G) (ci := 7) (v := .int i0) (C := RX7) (T := TX7) (N := 3) hx hb hts xinX7 hown hK hP 0 rfl rfl 2 (by decide) (hts _ wo_22) (fun _ h9 => h9) rfl dX7_append_5 ?_
  obtain ⟨hi, hwp⟩ := hwp
  refine va_iald hx hb hK hP 1 0 rfl rfl hi dX7_append_8 ?_
  refine lv_sipush (v := 160) hx hb dX7_append_9 (by decide) ?_
  refine lv_icmp_lt (tgt := 16) hx hb dX7_append_12 (by decide) (fun c12 => ?_) (fun c12 => ?_)
  · replace hwp := hwp.1 c12
    refine lv_aload_n hx hb dX7_append_16 rfl (lv_at hl 0 rfl) ?_
    refine va_get (D := G) (ci := 7) (v := .ref h1) (C := RX7) (T := TX7) (N := 3) hx hb hts xinX7 hown hK hP 0 rfl rfl 1 (by decide) (hts _ wo_23) (fun _ h9 => h9) rfl dX7_append_17 ?_
    refine lv_aload_n hx hb dX7_append_20 rfl (lv_at hl 0 rfl) ?_
    refine va_get (D := G) (ci := 7) (v := .int i0) (C := RX7) (T := TX7) (N := 3) hx hb hts xinX7 hown hK hP 0 rfl rfl 2 (by decide) (hts _ wo_22) (fun _ h9 => h9) rfl dX7_append_21 ?_
    obtain ⟨hi, hwp⟩ := hwp
    refine va_iald hx hb hK hP 1 0 rfl rfl hi dX7_append_24 ?_
    refine lv_topi (fun v25 ev25 => ?_)
    replace hwp := hwp v25 ev25
    clear ev25
    refine lv_istore_n (lv' := [(3, .int v25), (0, .ref h0), (1, .int p0), (2, .int p1)]) hx hb dX7_append_25 rfl hl (by decide) rfl (fun ls hl => ?_)
    refine xgen (Pp := fun H locs => W p l e _ s m _ below meth c H locs _ _ _ _) (fun H locs hP hD hS => ?_) hP hD hS
    replace hl : lv_has ls 4 [(3, .int v25), (0, .ref h0), (1, .int p0), (2, .int p1)] := lv_sub hl [0, 1, 2, 3] rfl
    obtain ⟨n1, hwp⟩ := hwp
    have hs1 : ∀ (n1 : Nat) (H : Heap) (locs : List Loc) (ls : Array Slot) (t26_0 : Nat → Int32) (t26_1 : Int32), wLX7_append_26 i0 f1 p0 p1 K  n1 t26_0 t26_1 → va_P G vwCl [(h0, .inr (7, [.ref h2, .ref h1, .int i0])), (h1, aI cI 181 f1), (h2, aI cI 160 t26_0)] H → va_D A [(h0, .inr (7, [.ref h2, .ref h1, .int i0])), (h1, aI cI 181 f1), (h2, aI cI 160 t26_0)] → va_S A s.heap H locs → lv_has ls 4 [(3, .int t26_1), (0, .ref h0), (1, .int p0), (2, .int p1)] → W p l e ((headSpec (xw yX7_append cX7_append 4 none) { frames := 0, cells := 0, slots := 0, locals := 0 }).room) s m ([.ref h0, .int p0, .int p1] : List Value).toArray below meth c H locs 0 0 QQ (F0 m 26 ls []) := by
      intro n1
      induction n1 with
      | zero => intro H locs ls t26_0 t26_1 hwp; exact False.elim hwp
      | succ n1 ih1 =>
        intro H locs ls t26_0 t26_1 hwp hP hD hS hl
        rw [wLX7_append_26] at hwp
        refine lv_iload_n hx hb dX7_append_26 rfl (lv_at hl 0 rfl) ?_
        refine lv_aload_n hx hb dX7_append_27 rfl (lv_at hl 1 rfl) ?_
        refine va_get (D := G) (ci := 7) (v := .ref h1) (C := RX7) (T := TX7) (N := 3) hx hb hts xinX7 hown hK hP 0 rfl rfl 1 (by decide) (hts _ wo_23) (fun _ h9 => h9) rfl dX7_append_28 ?_
        refine lv_iload_n hx hb dX7_append_31 rfl (lv_at hl 2 rfl) ?_
        refine lv_iconst (v := 1) hx hb dX7_append_32 (by decide) ?_
        refine lv_iadd hx hb dX7_append_33 ?_
        obtain ⟨hi, hwp⟩ := hwp
        refine va_iald hx hb hK hP 1 0 rfl rfl hi dX7_append_34 ?_
        refine lv_icmp_le (tgt := 58) hx hb dX7_append_35 (by decide) (fun c35 => ?_) (fun c35 => ?_)
        · replace hwp := hwp.1 c35
          refine lv_aload_n hx hb dX7_append_58 rfl (lv_at hl 1 rfl) ?_
          refine va_get (D := G) (ci := 7) (v := .ref h2) (C := RX7) (T := TX7) (N := 3) hx hb hts xinX7 hown hK hP 0 rfl rfl 0 (by decide) (hts _ wo_29) (fun _ h9 => h9) rfl dX7_append_59 ?_
          refine lv_aload_n hx hb dX7_append_62 rfl (lv_at hl 1 rfl) ?_
          refine va_get (D := G) (ci := 7) (v := .ref h1) (C := RX7) (T := TX7) (N := 3) hx hb hts xinX7 hown hK hP 0 rfl rfl 1 (by decide) (hts _ wo_23) (fun _ h9 => h9) rfl dX7_append_63 ?_
          refine lv_iload_n hx hb dX7_append_66 rfl (lv_at hl 2 rfl) ?_
          refine lv_iconst (v := 1) hx hb dX7_append_67 (by decide) ?_
          refine lv_iadd hx hb dX7_append_68 ?_
          obtain ⟨hi, hwp⟩ := hwp
          refine va_iald hx hb hK hP 1 0 rfl rfl hi dX7_append_69 ?_
          refine lv_iload_n hx hb dX7_append_70 rfl (lv_at hl 3 rfl) ?_
          obtain ⟨hi, hwp⟩ := hwp
          refine va_iast hx hb hK hP hD hS 2 0 rfl rfl hi dX7_append_71 (fun H locs hP hD hS => ?_)
          obtain ⟨g71, eg71⟩ : ∃ z, z = upd t26_0 (Int32.toNatClampNeg (f1 (Int32.toNatClampNeg (p0 + 1)))) p1 := ⟨_, rfl⟩
          replace hwp := hwp g71 eg71
          replace hP : va_P G vwCl [(h0, .inr (7, [.ref h2, .ref h1, .int i0])), (h1, aI cI 181 f1), (h2, aI cI 160 g71)] H := by rw [eg71]; exact hP
          replace hD : va_D A [(h0, .inr (7, [.ref h2, .ref h1, .int i0])), (h1, aI cI 181 f1), (h2, aI cI 160 g71)] := by rw [eg71]; exact hD
          clear eg71
          refine lv_iload_n hx hb dX7_append_72 rfl (lv_at hl 2 rfl) ?_
          refine lv_iconst (v := 1) hx hb dX7_append_73 (by decide) ?_
          refine lv_iadd hx hb dX7_append_74 ?_
          refine lv_topi (fun v75 ev75 => ?_)
          replace hwp := hwp v75 ev75
          clear ev75
          refine lv_istore_n (lv' := [(3, .int v75), (0, .ref h0), (1, .int p0), (2, .int p1)]) hx hb dX7_append_75 rfl hl (by decide) rfl (fun ls hl => ?_)
          replace hl : lv_has ls 4 [(3, .int v75), (0, .ref h0)] := lv_sub hl [0, 1] rfl
          obtain ⟨n2, hwp⟩ := hwp
          have hs2 : ∀ (n2 : Nat) (H : Heap) (locs : List Loc) (ls : Array Slot) (t76_0 : Nat → Int32) (t76_1 : Int32), wLX7_append_76 i0 g71 K  n2 t76_0 t76_1 → va_P G vwCl [(h0, .inr (7, [.ref h2, .ref h1, .int i0])), (h1, aI cI 181 t76_0), (h2, aI cI 160 g71)] H → va_D A [(h0, .inr (7, [.ref h2, .ref h1, .int i0])), (h1, aI cI 181 t76_0), (h2, aI cI 160 g71)] → va_S A s.heap H locs → lv_has ls 4 [(3, .int t76_1), (0, .ref h0)] → W p l e ((headSpec (xw yX7_append cX7_append 4 none) { frames := 0, cells := 0, slots := 0, locals := 0 }).room) s m ([.ref h0, .int p0, .int p1] : List Value).toArray below meth c H locs 0 0 QQ (F0 m 76 ls []) := by
            intro n2
            induction n2 with
            | zero => intro H locs ls t76_0 t76_1 hwp; exact False.elim hwp
            | succ n2 ih2 =>
              intro H locs ls t76_0 t76_1 hwp hP hD hS hl
              rw [wLX7_append_76] at hwp
              refine lv_iload_n hx hb dX7_append_76 rfl (lv_at hl 0 rfl) ?_
              refine lv_aload_n hx hb dX7_append_77 rfl (lv_at hl 1 rfl) ?_
              refine va_get (D := G) (ci := 7) (v := .int i0) (C := RX7) (T := TX7) (N := 3) hx hb hts xinX7 hown hK hP 0 rfl rfl 2 (by decide) (hts _ wo_22) (fun _ h9 => h9) rfl dX7_append_78 ?_
              refine lv_icmp_gt (tgt := 100) hx hb dX7_append_81 (by decide) (fun c81 => ?_) (fun c81 => ?_)
              · replace hwp := hwp.1 c81
                have hP9 : va_P G vwCl [(h0, .inr (7, [.ref h2, .ref h1, .int i0])), (h1, aI cI 181 t76_0), (h2, aI cI 160 g71)] H := hP.sub [0, 1, 2] rfl
                have hD9 : va_D A [(h0, .inr (7, [.ref h2, .ref h1, .int i0])), (h1, aI cI 181 t76_0), (h2, aI cI 160 g71)] := hD.sub [0, 1, 2] (by decide) rfl
                rw [← hQQ]
                exact W.vret hx hb hr (fun t ht hW => ⟨⟨(t76_0, g71), rfl, hwp, by rw [ht]; exact hP9, hD9⟩, hS.F ht⟩) hS.2.2 dX7_append_100
              · replace hwp := hwp.2 c81
                refine lv_aload_n hx hb dX7_append_84 rfl (lv_at hl 1 rfl) ?_
                refine va_get (D := G) (ci := 7) (v := .ref h1) (C := RX7) (T := TX7) (N := 3) hx hb hts xinX7 hown hK hP 0 rfl rfl 1 (by decide) (hts _ wo_23) (fun _ h9 => h9) rfl dX7_append_85 ?_
                refine lv_iload_n hx hb dX7_append_88 rfl (lv_at hl 0 rfl) ?_
                refine lv_dup2_11 hx hb dX7_append_89 rfl rfl ?_
                obtain ⟨hi, hwp⟩ := hwp
                refine va_iald hx hb hK hP 1 0 rfl rfl hi dX7_append_90 ?_
                refine lv_iconst (v := 1) hx hb dX7_append_91 (by decide) ?_
                refine lv_iadd hx hb dX7_append_92 ?_
                obtain ⟨hi, hwp⟩ := hwp
                refine va_iast hx hb hK hP hD hS 1 0 rfl rfl hi dX7_append_93 (fun H locs hP hD hS => ?_)
                obtain ⟨g93, eg93⟩ : ∃ z, z = upd t76_0 (Int32.toNatClampNeg t76_1) ((t76_0 (Int32.toNatClampNeg t76_1)) + 1) := ⟨_, rfl⟩
                replace hwp := hwp g93 eg93
                replace hP : va_P G vwCl [(h0, .inr (7, [.ref h2, .ref h1, .int i0])), (h1, aI cI 181 g93), (h2, aI cI 160 g71)] H := by rw [eg93]; exact hP
                replace hD : va_D A [(h0, .inr (7, [.ref h2, .ref h1, .int i0])), (h1, aI cI 181 g93), (h2, aI cI 160 g71)] := by rw [eg93]; exact hD
                clear eg93
                refine lv_iinc (v := (t76_1 + 1)) (lv' := [(3, .int (t76_1 + 1)), (0, .ref h0)]) hx hb dX7_append_94 hl (k := 0) rfl rfl (by decide) rfl (fun ls hl => ?_)
                refine lv_goto (tgt := 76) hx hb dX7_append_97 (by decide) ?_
                replace hl : lv_has ls 4 [(3, .int (t76_1 + 1)), (0, .ref h0)] := lv_sub hl [0, 1] rfl
                exact ih2 H locs ls g93 (t76_1 + 1) hwp hP hD hS hl
          exact hs2 n2 H locs ls f1 v75 hwp hP hD hS hl
        · replace hwp := hwp.2 c35
          refine lv_aload_n hx hb dX7_append_38 rfl (lv_at hl 1 rfl) ?_
          refine va_get (D := G) (ci := 7) (v := .ref h2) (C := RX7) (T := TX7) (N := 3) hx hb hts xinX7 hown hK hP 0 rfl rfl 0 (by decide) (hts _ wo_29) (fun _ h9 => h9) rfl dX7_append_39 ?_
          refine lv_iload_n hx hb dX7_append_42 rfl (lv_at hl 0 rfl) ?_
          refine lv_aload_n hx hb dX7_append_43 rfl (lv_at hl 1 rfl) ?_
          refine va_get (D := G) (ci := 7) (v := .ref h2) (C := RX7) (T := TX7) (N := 3) hx hb hts xinX7 hown hK hP 0 rfl rfl 0 (by decide) (hts _ wo_29) (fun _ h9 => h9) rfl dX7_append_44 ?_
          refine lv_iload_n hx hb dX7_append_47 rfl (lv_at hl 0 rfl) ?_
          refine lv_iconst (v := 1) hx hb dX7_append_48 (by decide) ?_
          refine lv_isub hx hb dX7_append_49 ?_
          obtain ⟨hi, hwp⟩ := hwp
          refine va_iald hx hb hK hP 2 0 rfl rfl hi dX7_append_50 ?_
          obtain ⟨hi, hwp⟩ := hwp
          refine va_iast hx hb hK hP hD hS 2 0 rfl rfl hi dX7_append_51 (fun H locs hP hD hS => ?_)
          obtain ⟨g51, eg51⟩ : ∃ z, z = upd t26_0 (Int32.toNatClampNeg t26_1) (t26_0 (Int32.toNatClampNeg (t26_1 - 1))) := ⟨_, rfl⟩
          replace hwp := hwp g51 eg51
          replace hP : va_P G vwCl [(h0, .inr (7, [.ref h2, .ref h1, .int i0])), (h1, aI cI 181 f1), (h2, aI cI 160 g51)] H := by rw [eg51]; exact hP
          replace hD : va_D A [(h0, .inr (7, [.ref h2, .ref h1, .int i0])), (h1, aI cI 181 f1), (h2, aI cI 160 g51)] := by rw [eg51]; exact hD
          clear eg51
          refine lv_iinc (v := (t26_1 + (-1))) (lv' := [(3, .int (t26_1 + (-1))), (0, .ref h0), (1, .int p0), (2, .int p1)]) hx hb dX7_append_52 hl (k := 0) rfl rfl (by decide) rfl (fun ls hl => ?_)
          refine lv_goto (tgt := 26) hx hb dX7_append_55 (by decide) ?_
          replace hl : lv_has ls 4 [(3, .int (t26_1 + (-1))), (0, .ref h0), (1, .int p0), (2, .int p1)] := lv_sub hl [0, 1, 2, 3] rfl
          exact ih1 H locs ls g51 (t26_1 + (-1)) hwp hP hD hS hl
    exact hs1 n1 H locs ls f2 v25 hwp hP hD hS hl
  · replace hwp := hwp.2 c12
    have hP9 : va_P G vwCl [(h0, .inr (7, [.ref h2, .ref h1, .int i0])), (h1, aI cI 181 f1), (h2, aI cI 160 f2)] s.heap := hP.sub [0, 1, 2] rfl
    have hD9 : va_D A [(h0, .inr (7, [.ref h2, .ref h1, .int i0])), (h1, aI cI 181 f1), (h2, aI cI 160 f2)] := hD.sub [0, 1, 2] (by decide) rfl
    rw [← hQQ]
    exact W.vret hx hb hr (fun t ht hW => ⟨⟨(f1, f2), rfl, hwp, by rw [ht]; exact hP9, hD9⟩, hS.F ht⟩) hS.2.2 dX7_append_15
def wLX7_remove_80 (i0 : Int32) (t15_0 : Nat → Int32) (v73 : Int32) (K : ((Nat → Int32) × (Nat → Int32)) → Prop)  : Nat → (Nat → Int32) → Int32 → Prop
  | 0, _, _ => False
  | n80 + 1, t80_0, t80_1 => ((i0 < t80_1 → K (t80_0, t15_0)) ∧ (¬ i0 < t80_1 → (vp_in t80_1 181 ∧ (vp_in t80_1 181 ∧ (∀ g100 : Nat → Int32, g100 = upd t80_0 (Int32.toNatClampNeg t80_1) ((t80_0 (Int32.toNatClampNeg t80_1)) - v73) → (wLX7_remove_80 i0 t15_0 v73 K  n80) g100 (t80_1 + 1))))))
def wLX7_remove_15 (i0 : Int32) (f1 : Nat → Int32) (p0 : Int32) (p1 : Int32) (K : ((Nat → Int32) × (Nat → Int32)) → Prop)  : Nat → (Nat → Int32) → Int32 → Int32 → Prop
  | 0, _, _, _ => False
  | n15 + 1, t15_0, t15_1, t15_2 => (vp_in i0 181 ∧ (((f1 (Int32.toNatClampNeg i0)) ≤ t15_2 → (vp_in i0 181 ∧ (∀ v73 : Int32, v73 = ((f1 (Int32.toNatClampNeg i0)) - t15_1) → (∀ v78 : Int32, v78 = (p0 + 1) → (∃ n80, wLX7_remove_80 i0 t15_0 v73 K  n80 f1 v78))))) ∧ (¬ (f1 (Int32.toNatClampNeg i0)) ≤ t15_2 → (vp_in t15_2 160 ∧ (((t15_0 (Int32.toNatClampNeg t15_2)) = p1 → (wLX7_remove_15 i0 f1 p0 p1 K  n15) t15_0 t15_1 (t15_2 + 1)) ∧ (¬ (t15_0 (Int32.toNatClampNeg t15_2)) = p1 → (vp_in t15_2 160 ∧ (vp_in t15_1 160 ∧ (∀ g52 : Nat → Int32, g52 = upd t15_0 (Int32.toNatClampNeg t15_1) (t15_0 (Int32.toNatClampNeg t15_2)) → (wLX7_remove_15 i0 f1 p0 p1 K  n15) g52 (t15_1 + 1) (t15_2 + 1))))))))))
def wX7_remove (i0 : Int32) (f1 : Nat → Int32) (f2 : Nat → Int32) (p0 : Int32) (p1 : Int32) (K : ((Nat → Int32) × (Nat → Int32)) → Prop) : Prop := (vp_in p0 181 ∧ (∀ v6 : Int32, v6 = (f1 (Int32.toNatClampNeg p0)) → (vp_in p0 181 ∧ (∀ v13 : Int32, v13 = (f1 (Int32.toNatClampNeg p0)) → (∃ n15, wLX7_remove_15 i0 f1 p0 p1 K  n15 f2 v6 v13)))))
set_option maxHeartbeats 4000000 in
set_option maxRecDepth 100000 in
theorem zX7_remove (l : Launch) (G : va_G) (cI cJ cZ : ClassId) (h0 h1 h2 sz : Nat) (i0 : Int32) (f1 : Nat → Int32) (f2 : Nat → Int32) (p0 : Int32) (p1 : Int32) (K : ((Nat → Int32) × (Nat → Int32)) → Prop) (hwp : wX7_remove i0 f1 f2 p0 p1 K) : Met l yX7_remove (xw yX7_remove cX7_remove 6 none) ({ frames := 0, cells := 0, slots := 0, locals := 0 }) (xPc G cI cJ cZ [.ref h0, .int p0, .int p1] [(h0, .inr (7, [.ref h2, .ref h1, .int i0])), (h1, aI cI 181 f1), (h2, aI cI 160 f2)] sz) (va_Qv (fun (u : (Nat → Int32) × (Nat → Int32)) => K u) (fun (u : (Nat → Int32) × (Nat → Int32)) t => xB G (va_A [(h0, .inr (7, [.ref h2, .ref h1, .int i0])), (h1, aI cI 181 f1), (h2, aI cI 160 f2)] sz) [(h0, .inr (7, [.ref h2, .ref h1, .int i0])), (h1, aI cI 181 u.1), (h2, aI cI 160 u.2)] t) (va_A [(h0, .inr (7, [.ref h2, .ref h1, .int i0])), (h1, aI cI 181 f1), (h2, aI cI 160 f2)] sz)) 0 0 (va_A [(h0, .inr (7, [.ref h2, .ref h1, .int i0])), (h1, aI cI 181 f1), (h2, aI cI 160 f2)] sz) := by
  refine Met.ofW (cc := cX7_remove) (maxL := 6) (ret := none) (by decide) rfl ?_
  intro p e s m args below meth c s₁ B hml hv
  obtain ⟨rfl, hsz, hP, hK, hD0, hN⟩ := hv
  have hx := B.exec
  have hb := B.bytes
  have hr := B.returns
  have hts : ∀ w ∈ xW, w.before _ s = true := fun w h => atoms_spec (ws := xw yX7_remove cX7_remove 6 none) B.pre w (List.mem_cons_of_mem _ h)
  have hown : s.vm.findClass RX7 = some m.cls := findClass_of_methodNamed B.named
  have hlocks := B.notSynchronized
  subst hsz
  have hD := hD0.self (sz := s.heap.size)
  clear hD0
  generalize hAe : va_A [(h0, .inr (7, [.ref h2, .ref h1, .int i0])), (h1, aI cI 181 f1), (h2, aI cI 160 f2)] s.heap.size = A at hD ⊢
  have hA : ∀ q : Nat, s.heap.size ≤ q → A q := fun q h => by rw [← hAe]; exact Or.inr h
  clear hAe
  have hS : va_S A s.heap s.heap [] := va_S.rf
  replace hP : va_P G vwCl [(h0, .inr (7, [.ref h2, .ref h1, .int i0])), (h1, aI cI 181 f1), (h2, aI cI 160 f2)] s.heap := hP
  have hl := lv_entry ([.ref h0, .int p0, .int p1]) (n := 6) (Nat.le_of_ble_eq_true rfl)
  rw [lg_entry_eq]
  generalize (lg_sl ([.ref h0, .int p0, .int p1]) ++ List.replicate (6 - (lg_sl ([.ref h0, .int p0, .int p1])).length) Slot.unset).toArray = ls at hl ⊢
  replace hl : lv_has ls 6 [(0, .ref h0), (1, .int p0), (2, .int p1)] := hl
  generalize hQQ : MQ below _ _ s 0 0 _ = QQ
  skip
  unfold wX7_remove at hwp
  refine lv_aload_n hx hb dX7_remove_0 rfl (lv_at hl 0 rfl) ?_
  refine va_get (D := G) (ci := 7) (v := .ref h1) (C := RX7) (T := TX7) (N := 3) hx hb hts xinX7 hown hK hP 0 rfl rfl 1 (by decide) (hts _ wo_23) (fun _ h9 => h9) rfl dX7_remove_1 ?_
  refine lv_iload_n hx hb dX7_remove_4 rfl (lv_at hl 1 rfl) ?_
  obtain ⟨hi, hwp⟩ := hwp
  refine va_iald hx hb hK hP 1 0 rfl rfl hi dX7_remove_5 ?_
  refine lv_topi (fun v6 ev6 => ?_)
  replace hwp := hwp v6 ev6
  clear ev6
  refine lv_istore_n (lv' := [(3, .int v6), (0, .ref h0), (1, .int p0), (2, .int p1)]) hx hb dX7_remove_6 rfl hl (by decide) rfl (fun ls hl => ?_)
  refine lv_aload_n hx hb dX7_remove_7 rfl (lv_at hl 1 rfl) ?_
  refine va_get (D := G) (ci := 7) (v := .ref h1) (C := RX7) (T := TX7) (N := 3) hx hb hts xinX7 hown hK hP 0 rfl rfl 1 (by decide) (hts _ wo_23) (fun _ h9 => h9) rfl dX7_remove_8 ?_
  refine lv_iload_n hx hb dX7_remove_11 rfl (lv_at hl 2 rfl) ?_
  obtain ⟨hi, hwp⟩ := hwp
  refine va_iald hx hb hK hP 1 0 rfl rfl hi dX7_remove_12 ?_
  refine lv_topi (fun v13 ev13 => ?_)
  replace hwp := hwp v13 ev13
  clear ev13
  refine lv_istore (lv' := [(4, .int v13), (3, .int v6), (0, .ref h0), (1, .int p0), (2, .int p1)]) hx hb dX7_remove_13 hl (by decide) rfl (fun ls hl => ?_)
  refine xgen (Pp := fun H locs => W p l e _ s m _ below meth c H locs _ _ _ _) (fun H locs hP hD hS => ?_) hP hD hS
  replace hl : lv_has ls 6 [(4, .int v13), (3, .int v6), (0, .ref h0), (1, .int p0), (2, .int p1)] := lv_sub hl [0, 1, 2, 3, 4] rfl
  obtain ⟨n1, hwp⟩ := hwp
  have hs1 : ∀ (n1 : Nat) (H : Heap) (locs : List Loc) (ls : Array Slot) (t15_0 : Nat → Int32) (t15_1 : Int32) (t15_2 : Int32), wLX7_remove_15 i0 f1 p0 p1 K  n1 t15_0 t15_1 t15_2 → va_P G vwCl [(h0, .inr (7, [.ref h2, .ref h1, .int i0])), (h1, aI cI 181 f1), (h2, aI cI 160 t15_0)] H → va_D A [(h0, .inr (7, [.ref h2, .ref h1, .int i0])), (h1, aI cI 181 f1), (h2, aI cI 160 t15_0)] → va_S A s.heap H locs → lv_has ls 6 [(4, .int t15_2), (3, .int t15_1), (0, .ref h0), (1, .int p0), (2, .int p1)] → W p l e ((headSpec (xw yX7_remove cX7_remove 6 none) { frames := 0, cells := 0, slots := 0, locals := 0 }).room) s m ([.ref h0, .int p0, .int p1] : List Value).toArray below meth c H locs 0 0 QQ (F0 m 15 ls []) := by
    intro n1
    induction n1 with
    | zero => intro H locs ls t15_0 t15_1 t15_2 hwp; exact False.elim hwp
    | succ n1 ih1 =>
      intro H locs ls t15_0 t15_1 t15_2 hwp hP hD hS hl
      rw [wLX7_remove_15] at hwp
      refine lv_iload hx hb dX7_remove_15 (lv_at hl 0 rfl) ?_
      refine lv_aload_n hx hb dX7_remove_17 rfl (lv_at hl 2 rfl) ?_
      refine va_get (D := G) (ci := 7) (v := .ref h1) (C := RX7) (T := TX7) (N := 3) hx hb hts xinX7 hown hK hP 0 rfl rfl 1 (by decide) (hts _ wo_23) (fun _ h9 => h9) rfl dX7_remove_18 ?_
      refine lv_aload_n hx hb dX7_remove_21 rfl (lv_at hl 2 rfl) ?_
      refine va_get (D := G) (ci := 7) (v := .int i0) (C := RX7) (T := TX7) (N := 3) hx hb hts xinX7 hown hK hP 0 rfl rfl 2 (by decide) (hts _ wo_22) (fun _ h9 => h9) rfl dX7_remove_22 ?_
      obtain ⟨hi, hwp⟩ := hwp
      refine va_iald hx hb hK hP 1 0 rfl rfl hi dX7_remove_25 ?_
      refine lv_icmp_ge (tgt := 62) hx hb dX7_remove_26 (by decide) (fun c26 => ?_) (fun c26 => ?_)
      · replace hwp := hwp.1 c26
        refine lv_aload_n hx hb dX7_remove_62 rfl (lv_at hl 2 rfl) ?_
        refine va_get (D := G) (ci := 7) (v := .ref h1) (C := RX7) (T := TX7) (N := 3) hx hb hts xinX7 hown hK hP 0 rfl rfl 1 (by decide) (hts _ wo_23) (fun _ h9 => h9) rfl dX7_remove_63 ?_
        refine lv_aload_n hx hb dX7_remove_66 rfl (lv_at hl 2 rfl) ?_
        refine va_get (D := G) (ci := 7) (v := .int i0) (C := RX7) (T := TX7) (N := 3) hx hb hts xinX7 hown hK hP 0 rfl rfl 2 (by decide) (hts _ wo_22) (fun _ h9 => h9) rfl dX7_remove_67 ?_
        obtain ⟨hi, hwp⟩ := hwp
        refine va_iald hx hb hK hP 1 0 rfl rfl hi dX7_remove_70 ?_
        refine lv_iload_n hx hb dX7_remove_71 rfl (lv_at hl 1 rfl) ?_
        refine lv_isub hx hb dX7_remove_72 ?_
        refine lv_topi (fun v73 ev73 => ?_)
        replace hwp := hwp v73 ev73
        clear ev73
        refine lv_istore (lv' := [(4, .int v73), (3, .int t15_1), (0, .ref h0), (1, .int p0), (2, .int p1)]) hx hb dX7_remove_73 hl (by decide) rfl (fun ls hl => ?_)
        refine lv_iload_n hx hb dX7_remove_75 rfl (lv_at hl 3 rfl) ?_
        refine lv_iconst (v := 1) hx hb dX7_remove_76 (by decide) ?_
        refine lv_iadd hx hb dX7_remove_77 ?_
        refine lv_topi (fun v78 ev78 => ?_)
        replace hwp := hwp v78 ev78
        clear ev78
        refine lv_istore (lv' := [(5, .int v78), (4, .int v73), (3, .int t15_1), (0, .ref h0), (1, .int p0), (2, .int p1)]) hx hb dX7_remove_78 hl (by decide) rfl (fun ls hl => ?_)
        replace hl : lv_has ls 6 [(5, .int v78), (4, .int v73), (0, .ref h0)] := lv_sub hl [0, 1, 3] rfl
        obtain ⟨n2, hwp⟩ := hwp
        have hs2 : ∀ (n2 : Nat) (H : Heap) (locs : List Loc) (ls : Array Slot) (t80_0 : Nat → Int32) (t80_1 : Int32), wLX7_remove_80 i0 t15_0 v73 K  n2 t80_0 t80_1 → va_P G vwCl [(h0, .inr (7, [.ref h2, .ref h1, .int i0])), (h1, aI cI 181 t80_0), (h2, aI cI 160 t15_0)] H → va_D A [(h0, .inr (7, [.ref h2, .ref h1, .int i0])), (h1, aI cI 181 t80_0), (h2, aI cI 160 t15_0)] → va_S A s.heap H locs → lv_has ls 6 [(5, .int t80_1), (4, .int v73), (0, .ref h0)] → W p l e ((headSpec (xw yX7_remove cX7_remove 6 none) { frames := 0, cells := 0, slots := 0, locals := 0 }).room) s m ([.ref h0, .int p0, .int p1] : List Value).toArray below meth c H locs 0 0 QQ (F0 m 80 ls []) := by
          intro n2
          induction n2 with
          | zero => intro H locs ls t80_0 t80_1 hwp; exact False.elim hwp
          | succ n2 ih2 =>
            intro H locs ls t80_0 t80_1 hwp hP hD hS hl
            rw [wLX7_remove_80] at hwp
            refine lv_iload hx hb dX7_remove_80 (lv_at hl 0 rfl) ?_
            refine lv_aload_n hx hb dX7_remove_82 rfl (lv_at hl 2 rfl) ?_
            refine va_get (D := G) (ci := 7) (v := .int i0) (C := RX7) (T := TX7) (N := 3) hx hb hts xinX7 hown hK hP 0 rfl rfl 2 (by decide) (hts _ wo_22) (fun _ h9 => h9) rfl dX7_remove_83 ?_
            refine lv_icmp_gt (tgt := 107) hx hb dX7_remove_86 (by decide) (fun c86 => ?_) (fun c86 => ?_)
            · replace hwp := hwp.1 c86
              have hP9 : va_P G vwCl [(h0, .inr (7, [.ref h2, .ref h1, .int i0])), (h1, aI cI 181 t80_0), (h2, aI cI 160 t15_0)] H := hP.sub [0, 1, 2] rfl
              have hD9 : va_D A [(h0, .inr (7, [.ref h2, .ref h1, .int i0])), (h1, aI cI 181 t80_0), (h2, aI cI 160 t15_0)] := hD.sub [0, 1, 2] (by decide) rfl
              rw [← hQQ]
              exact W.vret hx hb hr (fun t ht hW => ⟨⟨(t80_0, t15_0), rfl, hwp, by rw [ht]; exact hP9, hD9⟩, hS.F ht⟩) hS.2.2 dX7_remove_107
            · replace hwp := hwp.2 c86
              refine lv_aload_n hx hb dX7_remove_89 rfl (lv_at hl 2 rfl) ?_
              refine va_get (D := G) (ci := 7) (v := .ref h1) (C := RX7) (T := TX7) (N := 3) hx hb hts xinX7 hown hK hP 0 rfl rfl 1 (by decide) (hts _ wo_23) (fun _ h9 => h9) rfl dX7_remove_90 ?_
              refine lv_iload hx hb dX7_remove_93 (lv_at hl 0 rfl) ?_
              refine lv_dup2_11 hx hb dX7_remove_95 rfl rfl ?_
              obtain ⟨hi, hwp⟩ := hwp
              refine va_iald hx hb hK hP 1 0 rfl rfl hi dX7_remove_96 ?_
              refine lv_iload hx hb dX7_remove_97 (lv_at hl 1 rfl) ?_
              refine lv_isub hx hb dX7_remove_99 ?_
              obtain ⟨hi, hwp⟩ := hwp
              refine va_iast hx hb hK hP hD hS 1 0 rfl rfl hi dX7_remove_100 (fun H locs hP hD hS => ?_)
              obtain ⟨g100, eg100⟩ : ∃ z, z = upd t80_0 (Int32.toNatClampNeg t80_1) ((t80_0 (Int32.toNatClampNeg t80_1)) - v73) := ⟨_, rfl⟩
              replace hwp := hwp g100 eg100
              replace hP : va_P G vwCl [(h0, .inr (7, [.ref h2, .ref h1, .int i0])), (h1, aI cI 181 g100), (h2, aI cI 160 t15_0)] H := by rw [eg100]; exact hP
              replace hD : va_D A [(h0, .inr (7, [.ref h2, .ref h1, .int i0])), (h1, aI cI 181 g100), (h2, aI cI 160 t15_0)] := by rw [eg100]; exact hD
              clear eg100
              refine lv_iinc (v := (t80_1 + 1)) (lv' := [(5, .int (t80_1 + 1)), (4, .int v73), (0, .ref h0)]) hx hb dX7_remove_101 hl (k := 0) rfl rfl (by decide) rfl (fun ls hl => ?_)
              refine lv_goto (tgt := 80) hx hb dX7_remove_104 (by decide) ?_
              replace hl : lv_has ls 6 [(5, .int (t80_1 + 1)), (4, .int v73), (0, .ref h0)] := lv_sub hl [0, 1, 2] rfl
              exact ih2 H locs ls g100 (t80_1 + 1) hwp hP hD hS hl
        exact hs2 n2 H locs ls f1 v78 hwp hP hD hS hl
      · replace hwp := hwp.2 c26
        refine lv_aload_n hx hb dX7_remove_29 rfl (lv_at hl 2 rfl) ?_
        refine va_get (D := G) (ci := 7) (v := .ref h2) (C := RX7) (T := TX7) (N := 3) hx hb hts xinX7 hown hK hP 0 rfl rfl 0 (by decide) (hts _ wo_29) (fun _ h9 => h9) rfl dX7_remove_30 ?_
        refine lv_iload hx hb dX7_remove_33 (lv_at hl 0 rfl) ?_
        obtain ⟨hi, hwp⟩ := hwp
        refine va_iald hx hb hK hP 2 0 rfl rfl hi dX7_remove_35 ?_
        refine lv_iload_n hx hb dX7_remove_36 rfl (lv_at hl 4 rfl) ?_
        refine lv_icmp_eq (tgt := 56) hx hb dX7_remove_37 (by decide) (fun c37 => ?_) (fun c37 => ?_)
        · replace hwp := hwp.1 c37
          refine lv_iinc (v := (t15_2 + 1)) (lv' := [(4, .int (t15_2 + 1)), (3, .int t15_1), (0, .ref h0), (1, .int p0), (2, .int p1)]) hx hb dX7_remove_56 hl (k := 0) rfl rfl (by decide) rfl (fun ls hl => ?_)
          refine lv_goto (tgt := 15) hx hb dX7_remove_59 (by decide) ?_
          replace hl : lv_has ls 6 [(4, .int (t15_2 + 1)), (3, .int t15_1), (0, .ref h0), (1, .int p0), (2, .int p1)] := lv_sub hl [0, 1, 2, 3, 4] rfl
          exact ih1 H locs ls t15_0 t15_1 (t15_2 + 1) hwp hP hD hS hl
        · replace hwp := hwp.2 c37
          refine lv_aload_n hx hb dX7_remove_40 rfl (lv_at hl 2 rfl) ?_
          refine va_get (D := G) (ci := 7) (v := .ref h2) (C := RX7) (T := TX7) (N := 3) hx hb hts xinX7 hown hK hP 0 rfl rfl 0 (by decide) (hts _ wo_29) (fun _ h9 => h9) rfl dX7_remove_41 ?_
          refine lv_iload_n hx hb dX7_remove_44 rfl (lv_at hl 1 rfl) ?_
          refine lv_aload_n hx hb dX7_remove_45 rfl (lv_at hl 2 rfl) ?_
          refine va_get (D := G) (ci := 7) (v := .ref h2) (C := RX7) (T := TX7) (N := 3) hx hb hts xinX7 hown hK hP 0 rfl rfl 0 (by decide) (hts _ wo_29) (fun _ h9 => h9) rfl dX7_remove_46 ?_
          refine lv_iload hx hb dX7_remove_49 (lv_at hl 0 rfl) ?_
          obtain ⟨hi, hwp⟩ := hwp
          refine va_iald hx hb hK hP 2 0 rfl rfl hi dX7_remove_51 ?_
          obtain ⟨hi, hwp⟩ := hwp
          refine va_iast hx hb hK hP hD hS 2 0 rfl rfl hi dX7_remove_52 (fun H locs hP hD hS => ?_)
          obtain ⟨g52, eg52⟩ : ∃ z, z = upd t15_0 (Int32.toNatClampNeg t15_1) (t15_0 (Int32.toNatClampNeg t15_2)) := ⟨_, rfl⟩
          replace hwp := hwp g52 eg52
          replace hP : va_P G vwCl [(h0, .inr (7, [.ref h2, .ref h1, .int i0])), (h1, aI cI 181 f1), (h2, aI cI 160 g52)] H := by rw [eg52]; exact hP
          replace hD : va_D A [(h0, .inr (7, [.ref h2, .ref h1, .int i0])), (h1, aI cI 181 f1), (h2, aI cI 160 g52)] := by rw [eg52]; exact hD
          clear eg52
          refine lv_iinc (v := (t15_1 + 1)) (lv' := [(3, .int (t15_1 + 1)), (4, .int t15_2), (0, .ref h0), (1, .int p0), (2, .int p1)]) hx hb dX7_remove_53 hl (k := 1) rfl rfl (by decide) rfl (fun ls hl => ?_)
          refine lv_iinc (v := (t15_2 + 1)) (lv' := [(4, .int (t15_2 + 1)), (3, .int (t15_1 + 1)), (0, .ref h0), (1, .int p0), (2, .int p1)]) hx hb dX7_remove_56 hl (k := 1) rfl rfl (by decide) rfl (fun ls hl => ?_)
          refine lv_goto (tgt := 15) hx hb dX7_remove_59 (by decide) ?_
          replace hl : lv_has ls 6 [(4, .int (t15_2 + 1)), (3, .int (t15_1 + 1)), (0, .ref h0), (1, .int p0), (2, .int p1)] := lv_sub hl [0, 1, 2, 3, 4] rfl
          exact ih1 H locs ls g52 (t15_1 + 1) (t15_2 + 1) hwp hP hD hS hl
  exact hs1 n1 H locs ls f2 v6 v13 hwp hP hD hS hl
def wX7_exchange (i0 : Int32) (f1 : Nat → Int32) (f2 : Nat → Int32) (p0 : Int32) (p1 : Int32) (p2 : Int32) (K : ((Nat → Int32)) → Prop) : Prop := (vp_in p0 181 ∧ (vp_in ((f1 (Int32.toNatClampNeg p0)) + p1) 160 ∧ (∀ v13 : Int32, v13 = (f2 (Int32.toNatClampNeg ((f1 (Int32.toNatClampNeg p0)) + p1))) → (vp_in p0 181 ∧ (vp_in p0 181 ∧ (vp_in ((f1 (Int32.toNatClampNeg p0)) + p2) 160 ∧ (vp_in ((f1 (Int32.toNatClampNeg p0)) + p1) 160 ∧ (∀ g40 : Nat → Int32, g40 = upd f2 (Int32.toNatClampNeg ((f1 (Int32.toNatClampNeg p0)) + p1)) (f2 (Int32.toNatClampNeg ((f1 (Int32.toNatClampNeg p0)) + p2))) → (vp_in p0 181 ∧ (vp_in ((f1 (Int32.toNatClampNeg p0)) + p2) 160 ∧ (∀ g55 : Nat → Int32, g55 = upd g40 (Int32.toNatClampNeg ((f1 (Int32.toNatClampNeg p0)) + p2)) v13 → K g55)))))))))))
set_option maxHeartbeats 4000000 in
set_option maxRecDepth 100000 in
theorem zX7_exchange (l : Launch) (G : va_G) (cI cJ cZ : ClassId) (h0 h1 h2 sz : Nat) (i0 : Int32) (f1 : Nat → Int32) (f2 : Nat → Int32) (p0 : Int32) (p1 : Int32) (p2 : Int32) (K : ((Nat → Int32)) → Prop) (hwp : wX7_exchange i0 f1 f2 p0 p1 p2 K) : Met l yX7_exchange (xw yX7_exchange cX7_exchange 5 none) ({ frames := 0, cells := 0, slots := 0, locals := 0 }) (xPc G cI cJ cZ [.ref h0, .int p0, .int p1, .int p2] [(h0, .inr (7, [.ref h2, .ref h1, .int i0])), (h1, aI cI 181 f1), (h2, aI cI 160 f2)] sz) (va_Qv (fun (u : (Nat → Int32)) => K u) (fun (u : (Nat → Int32)) t => xB G (va_A [(h0, .inr (7, [.ref h2, .ref h1, .int i0])), (h1, aI cI 181 f1), (h2, aI cI 160 f2)] sz) [(h0, .inr (7, [.ref h2, .ref h1, .int i0])), (h1, aI cI 181 f1), (h2, aI cI 160 u)] t) (va_A [(h0, .inr (7, [.ref h2, .ref h1, .int i0])), (h1, aI cI 181 f1), (h2, aI cI 160 f2)] sz)) 0 0 (va_A [(h0, .inr (7, [.ref h2, .ref h1, .int i0])), (h1, aI cI 181 f1), (h2, aI cI 160 f2)] sz) := by
  refine Met.ofW (cc := cX7_exchange) (maxL := 5) (ret := none) (by decide) rfl ?_
  intro p e s m args below meth c s₁ B hml hv
  obtain ⟨rfl, hsz, hP, hK, hD0, hN⟩ := hv
  have hx := B.exec
  have hb := B.bytes
  have hr := B.returns
  have hts : ∀ w ∈ xW, w.before _ s = true := fun w h => atoms_spec (ws := xw yX7_exchange cX7_exchange 5 none) B.pre w (List.mem_cons_of_mem _ h)
  have hown : s.vm.findClass RX7 = some m.cls := findClass_of_methodNamed B.named
  have hlocks := B.notSynchronized
  subst hsz
  have hD := hD0.self (sz := s.heap.size)
  clear hD0
  generalize hAe : va_A [(h0, .inr (7, [.ref h2, .ref h1, .int i0])), (h1, aI cI 181 f1), (h2, aI cI 160 f2)] s.heap.size = A at hD ⊢
  have hA : ∀ q : Nat, s.heap.size ≤ q → A q := fun q h => by rw [← hAe]; exact Or.inr h
  clear hAe
  have hS : va_S A s.heap s.heap [] := va_S.rf
  replace hP : va_P G vwCl [(h0, .inr (7, [.ref h2, .ref h1, .int i0])), (h1, aI cI 181 f1), (h2, aI cI 160 f2)] s.heap := hP
  have hl := lv_entry ([.ref h0, .int p0, .int p1, .int p2]) (n := 5) (Nat.le_of_ble_eq_true rfl)
  rw [lg_entry_eq]
  generalize (lg_sl ([.ref h0, .int p0, .int p1, .int p2]) ++ List.replicate (5 - (lg_sl ([.ref h0, .int p0, .int p1, .int p2])).length) Slot.unset).toArray = ls at hl ⊢
  replace hl : lv_has ls 5 [(0, .ref h0), (1, .int p0), (2, .int p1), (3, .int p2)] := hl
  generalize hQQ : MQ below _ _ s 0 0 _ = QQ
  skip
  unfold wX7_exchange at hwp
  refine lv_aload_n hx hb dX7_exchange_0 rfl (lv_at hl 0 rfl) ?_
  refine va_get (D := G) (ci := 7) (v := .ref h2) (C := RX7) (T := TX7) (N := 3) hx hb hts xinX7 hown hK hP 0 rfl rfl 0 (by decide) (hts _ wo_29) (fun _ h9 => h9) rfl dX7_exchange_1 ?_
  refine lv_aload_n hx hb dX7_exchange_4 rfl (lv_at hl 0 rfl) ?_
  refine va_get (D := G) (ci := 7) (v := .ref h1) (C := RX7) (T := TX7) (N := 3) hx hb hts xinX7 hown hK hP 0 rfl rfl 1 (by decide) (hts _ wo_23) (fun _ h9 => h9) rfl dX7_exchange_5 ?_
  refine lv_iload_n hx hb dX7_exchange_8 rfl (lv_at hl 1 rfl) ?_
  obtain ⟨hi, hwp⟩ := hwp
  refine va_iald hx hb hK hP 1 0 rfl rfl hi dX7_exchange_9 ?_
  refine lv_iload_n hx hb dX7_exchange_10 rfl (lv_at hl 2 rfl) ?_
  refine lv_iadd hx hb dX7_exchange_11 ?_
  obtain ⟨hi, hwp⟩ := hwp
  refine va_iald hx hb hK hP 2 0 rfl rfl hi dX7_exchange_12 ?_
  refine lv_topi (fun v13 ev13 => ?_)
  replace hwp := hwp v13 ev13
  clear ev13
  refine lv_istore (lv' := [(4, .int v13), (0, .ref h0), (1, .int p0), (2, .int p1), (3, .int p2)]) hx hb dX7_exchange_13 hl (by decide) rfl (fun ls hl => ?_)
  refine lv_aload_n hx hb dX7_exchange_15 rfl (lv_at hl 1 rfl) ?_
  refine va_get (D := G) (ci := 7) (v := .ref h2) (C := RX7) (T := TX7) (N := 3) hx hb hts xinX7 hown hK hP 0 rfl rfl 0 (by decide) (hts _ wo_29) (fun _ h9 => h9) rfl dX7_exchange_16 ?_
  refine lv_aload_n hx hb dX7_exchange_19 rfl (lv_at hl 1 rfl) ?_
  refine va_get (D := G) (ci := 7) (v := .ref h1) (C := RX7) (T := TX7) (N := 3) hx hb hts xinX7 hown hK hP 0 rfl rfl 1 (by decide) (hts _ wo_23) (fun _ h9 => h9) rfl dX7_exchange_20 ?_
  refine lv_iload_n hx hb dX7_exchange_23 rfl (lv_at hl 2 rfl) ?_
  obtain ⟨hi, hwp⟩ := hwp
  refine va_iald hx hb hK hP 1 0 rfl rfl hi dX7_exchange_24 ?_
  refine lv_iload_n hx hb dX7_exchange_25 rfl (lv_at hl 3 rfl) ?_
  refine lv_iadd hx hb dX7_exchange_26 ?_
  refine lv_aload_n hx hb dX7_exchange_27 rfl (lv_at hl 1 rfl) ?_
  refine va_get (D := G) (ci := 7) (v := .ref h2) (C := RX7) (T := TX7) (N := 3) hx hb hts xinX7 hown hK hP 0 rfl rfl 0 (by decide) (hts _ wo_29) (fun _ h9 => h9) rfl dX7_exchange_28 ?_
  refine lv_aload_n hx hb dX7_exchange_31 rfl (lv_at hl 1 rfl) ?_
  refine va_get (D := G) (ci := 7) (v := .ref h1) (C := RX7) (T := TX7) (N := 3) hx hb hts xinX7 hown hK hP 0 rfl rfl 1 (by decide) (hts _ wo_23) (fun _ h9 => h9) rfl dX7_exchange_32 ?_
  refine lv_iload_n hx hb dX7_exchange_35 rfl (lv_at hl 2 rfl) ?_
  obtain ⟨hi, hwp⟩ := hwp
  refine va_iald hx hb hK hP 1 0 rfl rfl hi dX7_exchange_36 ?_
  refine lv_iload_n hx hb dX7_exchange_37 rfl (lv_at hl 4 rfl) ?_
  refine lv_iadd hx hb dX7_exchange_38 ?_
  obtain ⟨hi, hwp⟩ := hwp
  refine va_iald hx hb hK hP 2 0 rfl rfl hi dX7_exchange_39 ?_
  obtain ⟨hi, hwp⟩ := hwp
  refine va_iast hx hb hK hP hD hS 2 0 rfl rfl hi dX7_exchange_40 (fun H locs hP hD hS => ?_)
  obtain ⟨g40, eg40⟩ : ∃ z, z = upd f2 (Int32.toNatClampNeg ((f1 (Int32.toNatClampNeg p0)) + p1)) (f2 (Int32.toNatClampNeg ((f1 (Int32.toNatClampNeg p0)) + p2))) := ⟨_, rfl⟩
  replace hwp := hwp g40 eg40
  replace hP : va_P G vwCl [(h0, .inr (7, [.ref h2, .ref h1, .int i0])), (h1, aI cI 181 f1), (h2, aI cI 160 g40)] H := by rw [eg40]; exact hP
  replace hD : va_D A [(h0, .inr (7, [.ref h2, .ref h1, .int i0])), (h1, aI cI 181 f1), (h2, aI cI 160 g40)] := by rw [eg40]; exact hD
  clear eg40
  refine lv_aload_n hx hb dX7_exchange_41 rfl (lv_at hl 1 rfl) ?_
  refine va_get (D := G) (ci := 7) (v := .ref h2) (C := RX7) (T := TX7) (N := 3) hx hb hts xinX7 hown hK hP 0 rfl rfl 0 (by decide) (hts _ wo_29) (fun _ h9 => h9) rfl dX7_exchange_42 ?_
  refine lv_aload_n hx hb dX7_exchange_45 rfl (lv_at hl 1 rfl) ?_
  refine va_get (D := G) (ci := 7) (v := .ref h1) (C := RX7) (T := TX7) (N := 3) hx hb hts xinX7 hown hK hP 0 rfl rfl 1 (by decide) (hts _ wo_23) (fun _ h9 => h9) rfl dX7_exchange_46 ?_
  refine lv_iload_n hx hb dX7_exchange_49 rfl (lv_at hl 2 rfl) ?_
  obtain ⟨hi, hwp⟩ := hwp
  refine va_iald hx hb hK hP 1 0 rfl rfl hi dX7_exchange_50 ?_
  refine lv_iload_n hx hb dX7_exchange_51 rfl (lv_at hl 4 rfl) ?_
  refine lv_iadd hx hb dX7_exchange_52 ?_
  refine lv_iload hx hb dX7_exchange_53 (lv_at hl 0 rfl) ?_
  obtain ⟨hi, hwp⟩ := hwp
  refine va_iast hx hb hK hP hD hS 2 0 rfl rfl hi dX7_exchange_55 (fun H locs hP hD hS => ?_)
  obtain ⟨g55, eg55⟩ : ∃ z, z = upd g40 (Int32.toNatClampNeg ((f1 (Int32.toNatClampNeg p0)) + p2)) v13 := ⟨_, rfl⟩
  replace hwp := hwp g55 eg55
  replace hP : va_P G vwCl [(h0, .inr (7, [.ref h2, .ref h1, .int i0])), (h1, aI cI 181 f1), (h2, aI cI 160 g55)] H := by rw [eg55]; exact hP
  replace hD : va_D A [(h0, .inr (7, [.ref h2, .ref h1, .int i0])), (h1, aI cI 181 f1), (h2, aI cI 160 g55)] := by rw [eg55]; exact hD
  clear eg55
  have hP9 : va_P G vwCl [(h0, .inr (7, [.ref h2, .ref h1, .int i0])), (h1, aI cI 181 f1), (h2, aI cI 160 g55)] H := hP.sub [0, 1, 2] rfl
  have hD9 : va_D A [(h0, .inr (7, [.ref h2, .ref h1, .int i0])), (h1, aI cI 181 f1), (h2, aI cI 160 g55)] := hD.sub [0, 1, 2] (by decide) rfl
  rw [← hQQ]
  exact W.vret hx hb hr (fun t ht hW => ⟨⟨g55, rfl, hwp, by rw [ht]; exact hP9, hD9⟩, hS.F ht⟩) hS.2.2 dX7_exchange_56

set_option maxHeartbeats 4000000 in
set_option maxRecDepth 100000 in
theorem nX3_hasNode (l : Launch) (G : va_G) (cI cJ cZ : ClassId) (h0 k0 k1 k2 sz : Nat) (i0 : Int32) (i1 : Int32) (i2 : Int32) (p0 : Int32) : Met l yX3_hasNode (xw yX3_hasNode cX3_hasNode 2 (some .boolean)) ({ frames := 0, cells := 0, slots := 0, locals := 0 }) (xPc G cI cJ cZ [.ref h0, .int p0] [(h0, .inr (3, [.ref k0, .ref k1, .ref k2, .int i0, .int i1, .int i2]))] sz) (va_Qi (fun (r : Int32) (u : Unit) => (p0 < 0 ∧ r = 0 ∧ True) ∨ (¬ p0 < 0 ∧ i0 ≤ p0 ∧ r = 0 ∧ True) ∨ (¬ p0 < 0 ∧ ¬ i0 ≤ p0 ∧ r = 1 ∧ True)) (fun (u : Unit) t => xB G (va_A [(h0, .inr (3, [.ref k0, .ref k1, .ref k2, .int i0, .int i1, .int i2]))] sz) [(h0, .inr (3, [.ref k0, .ref k1, .ref k2, .int i0, .int i1, .int i2]))] t) (va_A [(h0, .inr (3, [.ref k0, .ref k1, .ref k2, .int i0, .int i1, .int i2]))] sz)) 0 0 (va_A [(h0, .inr (3, [.ref k0, .ref k1, .ref k2, .int i0, .int i1, .int i2]))] sz) := by
  refine Met.ofW (cc := cX3_hasNode) (maxL := 2) (ret := (some .boolean)) (by decide) rfl ?_
  intro p e s m args below meth c s₁ B hml hv
  obtain ⟨rfl, hsz, hP, hK, hD0, hN⟩ := hv
  have hx := B.exec
  have hb := B.bytes
  have hr := B.returns
  have hts : ∀ w ∈ xW, w.before _ s = true := fun w h => atoms_spec (ws := xw yX3_hasNode cX3_hasNode 2 (some .boolean)) B.pre w (List.mem_cons_of_mem _ h)
  have hown : s.vm.findClass RX3 = some m.cls := findClass_of_methodNamed B.named
  have hlocks := B.notSynchronized
  subst hsz
  have hD := hD0.self (sz := s.heap.size)
  clear hD0
  generalize hAe : va_A [(h0, .inr (3, [.ref k0, .ref k1, .ref k2, .int i0, .int i1, .int i2]))] s.heap.size = A at hD ⊢
  have hA : ∀ q : Nat, s.heap.size ≤ q → A q := fun q h => by rw [← hAe]; exact Or.inr h
  clear hAe
  have hS : va_S A s.heap s.heap [] := va_S.rf
  replace hP : va_P G vwCl [(h0, .inr (3, [.ref k0, .ref k1, .ref k2, .int i0, .int i1, .int i2]))] s.heap := hP
  have hl := lv_entry ([.ref h0, .int p0]) (n := 2) (Nat.le_of_ble_eq_true rfl)
  rw [lg_entry_eq]
  generalize (lg_sl ([.ref h0, .int p0]) ++ List.replicate (2 - (lg_sl ([.ref h0, .int p0])).length) Slot.unset).toArray = ls at hl ⊢
  replace hl : lv_has ls 2 [(0, .ref h0), (1, .int p0)] := hl
  refine lv_iload_n hx hb dX3_hasNode_0 rfl (lv_at hl 1 rfl) ?_
  refine lv_if_lt (tgt := 16) hx hb dX3_hasNode_1 (by decide) (fun c1 => ?_) (fun c1 => ?_)
  · refine lv_iconst (v := 0) hx hb dX3_hasNode_16 (by decide) ?_
    have hP9 : va_P G vwCl [(h0, .inr (3, [.ref k0, .ref k1, .ref k2, .int i0, .int i1, .int i2]))] s.heap := hP.sub [0] rfl
    have hD9 : va_D A [(h0, .inr (3, [.ref k0, .ref k1, .ref k2, .int i0, .int i1, .int i2]))] := hD.sub [0] (by decide) rfl
    exact W.zret (v := 0) hx hb hr rfl (fun t ht hW => ⟨⟨_, (), rfl, Or.inl ⟨c1, rfl, trivial⟩, by rw [ht]; exact hP9, hD9⟩, hS.F ht⟩) hS.2.2 dX3_hasNode_17
  · refine lv_iload_n hx hb dX3_hasNode_4 rfl (lv_at hl 1 rfl) ?_
    refine lv_aload_n hx hb dX3_hasNode_5 rfl (lv_at hl 0 rfl) ?_
    refine va_get (D := G) (ci := 3) (v := .int i0) (C := RX3) (T := TX3) (N := 6) hx hb hts xinX3 hown hK hP 0 rfl rfl 3 (by decide) (hts _ wn_0) (fun _ h9 => h9) rfl dX3_hasNode_6 ?_
    refine lv_icmp_ge (tgt := 16) hx hb dX3_hasNode_9 (by decide) (fun c2 => ?_) (fun c2 => ?_)
    · refine lv_iconst (v := 0) hx hb dX3_hasNode_16 (by decide) ?_
      have hP9 : va_P G vwCl [(h0, .inr (3, [.ref k0, .ref k1, .ref k2, .int i0, .int i1, .int i2]))] s.heap := hP.sub [0] rfl
      have hD9 : va_D A [(h0, .inr (3, [.ref k0, .ref k1, .ref k2, .int i0, .int i1, .int i2]))] := hD.sub [0] (by decide) rfl
      exact W.zret (v := 0) hx hb hr rfl (fun t ht hW => ⟨⟨_, (), rfl, Or.inr (Or.inl ⟨c1, c2, rfl, trivial⟩), by rw [ht]; exact hP9, hD9⟩, hS.F ht⟩) hS.2.2 dX3_hasNode_17
    · refine lv_iconst (v := 1) hx hb dX3_hasNode_12 (by decide) ?_
      refine lv_goto (tgt := 17) hx hb dX3_hasNode_13 (by decide) ?_
      have hP9 : va_P G vwCl [(h0, .inr (3, [.ref k0, .ref k1, .ref k2, .int i0, .int i1, .int i2]))] s.heap := hP.sub [0] rfl
      have hD9 : va_D A [(h0, .inr (3, [.ref k0, .ref k1, .ref k2, .int i0, .int i1, .int i2]))] := hD.sub [0] (by decide) rfl
      exact W.zret (v := 1) hx hb hr rfl (fun t ht hW => ⟨⟨_, (), rfl, Or.inr (Or.inr (⟨c1, c2, rfl, trivial⟩)), by rw [ht]; exact hP9, hD9⟩, hS.F ht⟩) hS.2.2 dX3_hasNode_17
set_option maxHeartbeats 4000000 in
set_option maxRecDepth 100000 in
theorem nX3_hasArc (l : Launch) (G : va_G) (cI cJ cZ : ClassId) (h0 h1 k0 k1 sz : Nat) (i0 : Int32) (i1 : Int32) (i2 : Int32) (f3 : Nat → Int32) (p0 : Int32) (hy0 : (¬ p0 < 0) → (¬ i1 ≤ p0) → vp_in p0 80) : Met l yX3_hasArc (xw yX3_hasArc cX3_hasArc 2 (some .boolean)) ({ frames := 0, cells := 0, slots := 0, locals := 0 }) (xPc G cI cJ cZ [.ref h0, .int p0] [(h0, .inr (3, [.ref k0, .ref h1, .ref k1, .int i0, .int i1, .int i2])), (h1, aI cZ 80 f3)] sz) (va_Qi (fun (r : Int32) (u : Unit) => (p0 < 0 ∧ r = 0 ∧ True) ∨ (¬ p0 < 0 ∧ i1 ≤ p0 ∧ r = 0 ∧ True) ∨ (¬ p0 < 0 ∧ ¬ i1 ≤ p0 ∧ (f3 (Int32.toNatClampNeg p0)) = 0 ∧ r = 0 ∧ True) ∨ (¬ p0 < 0 ∧ ¬ i1 ≤ p0 ∧ ¬ (f3 (Int32.toNatClampNeg p0)) = 0 ∧ r = 1 ∧ True)) (fun (u : Unit) t => xB G (va_A [(h0, .inr (3, [.ref k0, .ref h1, .ref k1, .int i0, .int i1, .int i2])), (h1, aI cZ 80 f3)] sz) [(h0, .inr (3, [.ref k0, .ref h1, .ref k1, .int i0, .int i1, .int i2])), (h1, aI cZ 80 f3)] t) (va_A [(h0, .inr (3, [.ref k0, .ref h1, .ref k1, .int i0, .int i1, .int i2])), (h1, aI cZ 80 f3)] sz)) 0 0 (va_A [(h0, .inr (3, [.ref k0, .ref h1, .ref k1, .int i0, .int i1, .int i2])), (h1, aI cZ 80 f3)] sz) := by
  refine Met.ofW (cc := cX3_hasArc) (maxL := 2) (ret := (some .boolean)) (by decide) rfl ?_
  intro p e s m args below meth c s₁ B hml hv
  obtain ⟨rfl, hsz, hP, hK, hD0, hN⟩ := hv
  have hx := B.exec
  have hb := B.bytes
  have hr := B.returns
  have hts : ∀ w ∈ xW, w.before _ s = true := fun w h => atoms_spec (ws := xw yX3_hasArc cX3_hasArc 2 (some .boolean)) B.pre w (List.mem_cons_of_mem _ h)
  have hown : s.vm.findClass RX3 = some m.cls := findClass_of_methodNamed B.named
  have hlocks := B.notSynchronized
  subst hsz
  have hD := hD0.self (sz := s.heap.size)
  clear hD0
  generalize hAe : va_A [(h0, .inr (3, [.ref k0, .ref h1, .ref k1, .int i0, .int i1, .int i2])), (h1, aI cZ 80 f3)] s.heap.size = A at hD ⊢
  have hA : ∀ q : Nat, s.heap.size ≤ q → A q := fun q h => by rw [← hAe]; exact Or.inr h
  clear hAe
  have hS : va_S A s.heap s.heap [] := va_S.rf
  replace hP : va_P G vwCl [(h0, .inr (3, [.ref k0, .ref h1, .ref k1, .int i0, .int i1, .int i2])), (h1, aI cZ 80 f3)] s.heap := hP
  have hl := lv_entry ([.ref h0, .int p0]) (n := 2) (Nat.le_of_ble_eq_true rfl)
  rw [lg_entry_eq]
  generalize (lg_sl ([.ref h0, .int p0]) ++ List.replicate (2 - (lg_sl ([.ref h0, .int p0])).length) Slot.unset).toArray = ls at hl ⊢
  replace hl : lv_has ls 2 [(0, .ref h0), (1, .int p0)] := hl
  refine lv_iload_n hx hb dX3_hasArc_0 rfl (lv_at hl 1 rfl) ?_
  refine lv_if_lt (tgt := 25) hx hb dX3_hasArc_1 (by decide) (fun c3 => ?_) (fun c3 => ?_)
  · refine lv_iconst (v := 0) hx hb dX3_hasArc_25 (by decide) ?_
    have hP9 : va_P G vwCl [(h0, .inr (3, [.ref k0, .ref h1, .ref k1, .int i0, .int i1, .int i2])), (h1, aI cZ 80 f3)] s.heap := hP.sub [0, 1] rfl
    have hD9 : va_D A [(h0, .inr (3, [.ref k0, .ref h1, .ref k1, .int i0, .int i1, .int i2])), (h1, aI cZ 80 f3)] := hD.sub [0, 1] (by decide) rfl
    exact W.zret (v := 0) hx hb hr rfl (fun t ht hW => ⟨⟨_, (), rfl, Or.inl ⟨c3, rfl, trivial⟩, by rw [ht]; exact hP9, hD9⟩, hS.F ht⟩) hS.2.2 dX3_hasArc_26
  · refine lv_iload_n hx hb dX3_hasArc_4 rfl (lv_at hl 1 rfl) ?_
    refine lv_aload_n hx hb dX3_hasArc_5 rfl (lv_at hl 0 rfl) ?_
    refine va_get (D := G) (ci := 3) (v := .int i1) (C := RX3) (T := TX3) (N := 6) hx hb hts xinX3 hown hK hP 0 rfl rfl 4 (by decide) (hts _ wn_1) (fun _ h9 => h9) rfl dX3_hasArc_6 ?_
    refine lv_icmp_ge (tgt := 25) hx hb dX3_hasArc_9 (by decide) (fun c4 => ?_) (fun c4 => ?_)
    · refine lv_iconst (v := 0) hx hb dX3_hasArc_25 (by decide) ?_
      have hP9 : va_P G vwCl [(h0, .inr (3, [.ref k0, .ref h1, .ref k1, .int i0, .int i1, .int i2])), (h1, aI cZ 80 f3)] s.heap := hP.sub [0, 1] rfl
      have hD9 : va_D A [(h0, .inr (3, [.ref k0, .ref h1, .ref k1, .int i0, .int i1, .int i2])), (h1, aI cZ 80 f3)] := hD.sub [0, 1] (by decide) rfl
      exact W.zret (v := 0) hx hb hr rfl (fun t ht hW => ⟨⟨_, (), rfl, Or.inr (Or.inl ⟨c3, c4, rfl, trivial⟩), by rw [ht]; exact hP9, hD9⟩, hS.F ht⟩) hS.2.2 dX3_hasArc_26
    · refine lv_aload_n hx hb dX3_hasArc_12 rfl (lv_at hl 0 rfl) ?_
      refine va_get (D := G) (ci := 3) (v := .ref h1) (C := RX3) (T := TX3) (N := 6) hx hb hts xinX3 hown hK hP 0 rfl rfl 1 (by decide) (hts _ wn_2) (fun _ h9 => h9) rfl dX3_hasArc_13 ?_
      refine lv_iload_n hx hb dX3_hasArc_16 rfl (lv_at hl 1 rfl) ?_
      refine va_zald hx hb hK hP 1 2 rfl rfl (hy0 c3 c4) dX3_hasArc_17 ?_
      refine lv_if_eq (tgt := 25) hx hb dX3_hasArc_18 (by decide) (fun c5 => ?_) (fun c5 => ?_)
      · refine lv_iconst (v := 0) hx hb dX3_hasArc_25 (by decide) ?_
        have hP9 : va_P G vwCl [(h0, .inr (3, [.ref k0, .ref h1, .ref k1, .int i0, .int i1, .int i2])), (h1, aI cZ 80 f3)] s.heap := hP.sub [0, 1] rfl
        have hD9 : va_D A [(h0, .inr (3, [.ref k0, .ref h1, .ref k1, .int i0, .int i1, .int i2])), (h1, aI cZ 80 f3)] := hD.sub [0, 1] (by decide) rfl
        exact W.zret (v := 0) hx hb hr rfl (fun t ht hW => ⟨⟨_, (), rfl, Or.inr (Or.inr (Or.inl ⟨c3, c4, c5, rfl, trivial⟩)), by rw [ht]; exact hP9, hD9⟩, hS.F ht⟩) hS.2.2 dX3_hasArc_26
      · refine lv_iconst (v := 1) hx hb dX3_hasArc_21 (by decide) ?_
        refine lv_goto (tgt := 26) hx hb dX3_hasArc_22 (by decide) ?_
        have hP9 : va_P G vwCl [(h0, .inr (3, [.ref k0, .ref h1, .ref k1, .int i0, .int i1, .int i2])), (h1, aI cZ 80 f3)] s.heap := hP.sub [0, 1] rfl
        have hD9 : va_D A [(h0, .inr (3, [.ref k0, .ref h1, .ref k1, .int i0, .int i1, .int i2])), (h1, aI cZ 80 f3)] := hD.sub [0, 1] (by decide) rfl
        exact W.zret (v := 1) hx hb hr rfl (fun t ht hW => ⟨⟨_, (), rfl, Or.inr (Or.inr (Or.inr (⟨c3, c4, c5, rfl, trivial⟩))), by rw [ht]; exact hP9, hD9⟩, hS.F ht⟩) hS.2.2 dX3_hasArc_26
set_option maxHeartbeats 4000000 in
set_option maxRecDepth 100000 in
theorem nX3_isLoop (l : Launch) (G : va_G) (cI cJ cZ : ClassId) (h0 h1 k0 k1 sz : Nat) (i0 : Int32) (i1 : Int32) (i2 : Int32) (f3 : Nat → Int32) (p0 : Int32) (hy0 : vp_in ((2 : Int32) * p0) 160) (hy1 : vp_in (((2 : Int32) * p0) + 1) 160) : Met l yX3_isLoop (xw yX3_isLoop cX3_isLoop 2 (some .boolean)) ({ frames := 0, cells := 0, slots := 0, locals := 0 }) (xPc G cI cJ cZ [.ref h0, .int p0] [(h0, .inr (3, [.ref h1, .ref k0, .ref k1, .int i0, .int i1, .int i2])), (h1, aI cI 160 f3)] sz) (va_Qi (fun (r : Int32) (u : Unit) => (¬ (f3 (Int32.toNatClampNeg ((2 : Int32) * p0))) = (f3 (Int32.toNatClampNeg (((2 : Int32) * p0) + 1))) ∧ r = 0 ∧ True) ∨ ((f3 (Int32.toNatClampNeg ((2 : Int32) * p0))) = (f3 (Int32.toNatClampNeg (((2 : Int32) * p0) + 1))) ∧ r = 1 ∧ True)) (fun (u : Unit) t => xB G (va_A [(h0, .inr (3, [.ref h1, .ref k0, .ref k1, .int i0, .int i1, .int i2])), (h1, aI cI 160 f3)] sz) [(h0, .inr (3, [.ref h1, .ref k0, .ref k1, .int i0, .int i1, .int i2])), (h1, aI cI 160 f3)] t) (va_A [(h0, .inr (3, [.ref h1, .ref k0, .ref k1, .int i0, .int i1, .int i2])), (h1, aI cI 160 f3)] sz)) 0 0 (va_A [(h0, .inr (3, [.ref h1, .ref k0, .ref k1, .int i0, .int i1, .int i2])), (h1, aI cI 160 f3)] sz) := by
  refine Met.ofW (cc := cX3_isLoop) (maxL := 2) (ret := (some .boolean)) (by decide) rfl ?_
  intro p e s m args below meth c s₁ B hml hv
  obtain ⟨rfl, hsz, hP, hK, hD0, hN⟩ := hv
  have hx := B.exec
  have hb := B.bytes
  have hr := B.returns
  have hts : ∀ w ∈ xW, w.before _ s = true := fun w h => atoms_spec (ws := xw yX3_isLoop cX3_isLoop 2 (some .boolean)) B.pre w (List.mem_cons_of_mem _ h)
  have hown : s.vm.findClass RX3 = some m.cls := findClass_of_methodNamed B.named
  have hlocks := B.notSynchronized
  subst hsz
  have hD := hD0.self (sz := s.heap.size)
  clear hD0
  generalize hAe : va_A [(h0, .inr (3, [.ref h1, .ref k0, .ref k1, .int i0, .int i1, .int i2])), (h1, aI cI 160 f3)] s.heap.size = A at hD ⊢
  have hA : ∀ q : Nat, s.heap.size ≤ q → A q := fun q h => by rw [← hAe]; exact Or.inr h
  clear hAe
  have hS : va_S A s.heap s.heap [] := va_S.rf
  replace hP : va_P G vwCl [(h0, .inr (3, [.ref h1, .ref k0, .ref k1, .int i0, .int i1, .int i2])), (h1, aI cI 160 f3)] s.heap := hP
  have hl := lv_entry ([.ref h0, .int p0]) (n := 2) (Nat.le_of_ble_eq_true rfl)
  rw [lg_entry_eq]
  generalize (lg_sl ([.ref h0, .int p0]) ++ List.replicate (2 - (lg_sl ([.ref h0, .int p0])).length) Slot.unset).toArray = ls at hl ⊢
  replace hl : lv_has ls 2 [(0, .ref h0), (1, .int p0)] := hl
  refine lv_aload_n hx hb dX3_isLoop_0 rfl (lv_at hl 0 rfl) ?_
  refine va_get (D := G) (ci := 3) (v := .ref h1) (C := RX3) (T := TX3) (N := 6) hx hb hts xinX3 hown hK hP 0 rfl rfl 0 (by decide) (hts _ wn_3) (fun _ h9 => h9) rfl dX3_isLoop_1 ?_
  refine lv_iconst (v := 2) hx hb dX3_isLoop_4 (by decide) ?_
  refine lv_iload_n hx hb dX3_isLoop_5 rfl (lv_at hl 1 rfl) ?_
  refine lv_imul hx hb dX3_isLoop_6 ?_
  refine va_iald hx hb hK hP 1 0 rfl rfl hy0 dX3_isLoop_7 ?_
  refine lv_aload_n hx hb dX3_isLoop_8 rfl (lv_at hl 0 rfl) ?_
  refine va_get (D := G) (ci := 3) (v := .ref h1) (C := RX3) (T := TX3) (N := 6) hx hb hts xinX3 hown hK hP 0 rfl rfl 0 (by decide) (hts _ wn_3) (fun _ h9 => h9) rfl dX3_isLoop_9 ?_
  refine lv_iconst (v := 2) hx hb dX3_isLoop_12 (by decide) ?_
  refine lv_iload_n hx hb dX3_isLoop_13 rfl (lv_at hl 1 rfl) ?_
  refine lv_imul hx hb dX3_isLoop_14 ?_
  refine lv_iconst (v := 1) hx hb dX3_isLoop_15 (by decide) ?_
  refine lv_iadd hx hb dX3_isLoop_16 ?_
  refine va_iald hx hb hK hP 1 0 rfl rfl hy1 dX3_isLoop_17 ?_
  refine lv_icmp_ne (tgt := 25) hx hb dX3_isLoop_18 (by decide) (fun c6 => ?_) (fun c6 => ?_)
  · refine lv_iconst (v := 0) hx hb dX3_isLoop_25 (by decide) ?_
    have hP9 : va_P G vwCl [(h0, .inr (3, [.ref h1, .ref k0, .ref k1, .int i0, .int i1, .int i2])), (h1, aI cI 160 f3)] s.heap := hP.sub [0, 1] rfl
    have hD9 : va_D A [(h0, .inr (3, [.ref h1, .ref k0, .ref k1, .int i0, .int i1, .int i2])), (h1, aI cI 160 f3)] := hD.sub [0, 1] (by decide) rfl
    exact W.zret (v := 0) hx hb hr rfl (fun t ht hW => ⟨⟨_, (), rfl, Or.inl ⟨c6, rfl, trivial⟩, by rw [ht]; exact hP9, hD9⟩, hS.F ht⟩) hS.2.2 dX3_isLoop_26
  · refine lv_iconst (v := 1) hx hb dX3_isLoop_21 (by decide) ?_
    refine lv_goto (tgt := 26) hx hb dX3_isLoop_22 (by decide) ?_
    have hP9 : va_P G vwCl [(h0, .inr (3, [.ref h1, .ref k0, .ref k1, .int i0, .int i1, .int i2])), (h1, aI cI 160 f3)] s.heap := hP.sub [0, 1] rfl
    have hD9 : va_D A [(h0, .inr (3, [.ref h1, .ref k0, .ref k1, .int i0, .int i1, .int i2])), (h1, aI cI 160 f3)] := hD.sub [0, 1] (by decide) rfl
    exact W.zret (v := 1) hx hb hr rfl (fun t ht hW => ⟨⟨_, (), rfl, Or.inr (⟨c6, rfl, trivial⟩), by rw [ht]; exact hP9, hD9⟩, hS.F ht⟩) hS.2.2 dX3_isLoop_26
set_option maxHeartbeats 4000000 in
set_option maxRecDepth 100000 in
theorem nX3_addNode (l : Launch) (G : va_G) (cI cJ cZ : ClassId) (h0 k0 k1 k2 sz : Nat) (i0 : Int32) (i1 : Int32) (i2 : Int32) : Met l yX3_addNode (xw yX3_addNode cX3_addNode 1 (some .int)) ({ frames := 0, cells := 0, slots := 0, locals := 0 }) (xPc G cI cJ cZ [.ref h0] [(h0, .inr (3, [.ref k0, .ref k1, .ref k2, .int i0, .int i1, .int i2]))] sz) (va_Qi (fun (r : Int32) (u : Unit) => (r = ((i0 + 1) - 1) ∧ True)) (fun (u : Unit) t => xB G (va_A [(h0, .inr (3, [.ref k0, .ref k1, .ref k2, .int i0, .int i1, .int i2]))] sz) [(h0, .inr (3, [.ref k0, .ref k1, .ref k2, .int (i0 + 1), .int i1, .int i2]))] t) (va_A [(h0, .inr (3, [.ref k0, .ref k1, .ref k2, .int i0, .int i1, .int i2]))] sz)) 0 0 (va_A [(h0, .inr (3, [.ref k0, .ref k1, .ref k2, .int i0, .int i1, .int i2]))] sz) := by
  refine Met.ofW (cc := cX3_addNode) (maxL := 1) (ret := (some .int)) (by decide) rfl ?_
  intro p e s m args below meth c s₁ B hml hv
  obtain ⟨rfl, hsz, hP, hK, hD0, hN⟩ := hv
  have hx := B.exec
  have hb := B.bytes
  have hr := B.returns
  have hts : ∀ w ∈ xW, w.before _ s = true := fun w h => atoms_spec (ws := xw yX3_addNode cX3_addNode 1 (some .int)) B.pre w (List.mem_cons_of_mem _ h)
  have hown : s.vm.findClass RX3 = some m.cls := findClass_of_methodNamed B.named
  have hlocks := B.notSynchronized
  subst hsz
  have hD := hD0.self (sz := s.heap.size)
  clear hD0
  generalize hAe : va_A [(h0, .inr (3, [.ref k0, .ref k1, .ref k2, .int i0, .int i1, .int i2]))] s.heap.size = A at hD ⊢
  have hA : ∀ q : Nat, s.heap.size ≤ q → A q := fun q h => by rw [← hAe]; exact Or.inr h
  clear hAe
  have hS : va_S A s.heap s.heap [] := va_S.rf
  replace hP : va_P G vwCl [(h0, .inr (3, [.ref k0, .ref k1, .ref k2, .int i0, .int i1, .int i2]))] s.heap := hP
  have hl := lv_entry ([.ref h0]) (n := 1) (Nat.le_of_ble_eq_true rfl)
  rw [lg_entry_eq]
  generalize (lg_sl ([.ref h0]) ++ List.replicate (1 - (lg_sl ([.ref h0])).length) Slot.unset).toArray = ls at hl ⊢
  replace hl : lv_has ls 1 [(0, .ref h0)] := hl
  refine lv_aload_n hx hb dX3_addNode_0 rfl (lv_at hl 0 rfl) ?_
  refine lv_dup hx hb dX3_addNode_1 rfl ?_
  refine va_get (D := G) (ci := 3) (v := .int i0) (C := RX3) (T := TX3) (N := 6) hx hb hts xinX3 hown hK hP 0 rfl rfl 3 (by decide) (hts _ wn_0) (fun _ h9 => h9) rfl dX3_addNode_2 ?_
  refine lv_iconst (v := 1) hx hb dX3_addNode_5 (by decide) ?_
  refine lv_iadd hx hb dX3_addNode_6 ?_
  refine va_put (D := G) (ci := 3) (v := .int (i0 + 1)) (ty := .int) (C := RX3) (T := TX3) (N := 6) hx hb hts xinX3 tyX3 tyX3_ok nmX3 hown hK hP hD hS 0 rfl rfl 3 (by decide) (hts _ wn_0) (fun _ h9 => h9) rfl (by decide +kernel) rfl rfl (Nat.le_of_ble_eq_true rfl) dX3_addNode_7 (fun H locs hP hD hS => ?_)
  replace hP : va_P G vwCl [(h0, .inr (3, [.ref k0, .ref k1, .ref k2, .int (i0 + 1), .int i1, .int i2]))] H := hP
  replace hD : va_D A [(h0, .inr (3, [.ref k0, .ref k1, .ref k2, .int (i0 + 1), .int i1, .int i2]))] := hD
  refine lv_aload_n hx hb dX3_addNode_10 rfl (lv_at hl 0 rfl) ?_
  refine va_get (D := G) (ci := 3) (v := .int (i0 + 1)) (C := RX3) (T := TX3) (N := 6) hx hb hts xinX3 hown hK hP 0 rfl rfl 3 (by decide) (hts _ wn_0) (fun _ h9 => h9) rfl dX3_addNode_11 ?_
  refine lv_iconst (v := 1) hx hb dX3_addNode_14 (by decide) ?_
  refine lv_isub hx hb dX3_addNode_15 ?_
  have hP9 : va_P G vwCl [(h0, .inr (3, [.ref k0, .ref k1, .ref k2, .int (i0 + 1), .int i1, .int i2]))] H := hP.sub [0] rfl
  have hD9 : va_D A [(h0, .inr (3, [.ref k0, .ref k1, .ref k2, .int (i0 + 1), .int i1, .int i2]))] := hD.sub [0] (by decide) rfl
  exact W.iret (v := ((i0 + 1) - 1)) hx hb hr (fun t ht hW => ⟨⟨_, (), rfl, ⟨rfl, trivial⟩, by rw [ht]; exact hP9, hD9⟩, hS.F ht⟩) hS.2.2 dX3_addNode_16
set_option maxHeartbeats 4000000 in
set_option maxRecDepth 100000 in
theorem nX3_endAt (l : Launch) (G : va_G) (cI cJ cZ : ClassId) (h0 h1 h2 k0 sz : Nat) (i0 : Int32) (i1 : Int32) (i2 : Int32) (f3 : Nat → Int32) (f4 : Nat → Int32) (p0 : Int32) (p1 : Int32) (p2 : Int32) (hy0 : vp_in p2 80) (hy1 : (¬ (f3 (Int32.toNatClampNeg p2)) = 0) → vp_in ((2 : Int32) * p2) 160) (hy2 : (¬ (f3 (Int32.toNatClampNeg p2)) = 0) → (¬ (f4 (Int32.toNatClampNeg ((2 : Int32) * p2))) = p0) → vp_in ((2 : Int32) * p2) 160) (hy3 : (¬ (f3 (Int32.toNatClampNeg p2)) = 0) → (¬ (f4 (Int32.toNatClampNeg ((2 : Int32) * p2))) = p0) → ((f4 (Int32.toNatClampNeg ((2 : Int32) * p2))) = p1) → vp_in (((2 : Int32) * p2) + 1) 160) (hy4 : (¬ (f3 (Int32.toNatClampNeg p2)) = 0) → ((f4 (Int32.toNatClampNeg ((2 : Int32) * p2))) = p0) → vp_in (((2 : Int32) * p2) + 1) 160) (hy5 : (¬ (f3 (Int32.toNatClampNeg p2)) = 0) → ((f4 (Int32.toNatClampNeg ((2 : Int32) * p2))) = p0) → (¬ (f4 (Int32.toNatClampNeg (((2 : Int32) * p2) + 1))) = p1) → vp_in ((2 : Int32) * p2) 160) (hy6 : (¬ (f3 (Int32.toNatClampNeg p2)) = 0) → ((f4 (Int32.toNatClampNeg ((2 : Int32) * p2))) = p0) → (¬ (f4 (Int32.toNatClampNeg (((2 : Int32) * p2) + 1))) = p1) → ((f4 (Int32.toNatClampNeg ((2 : Int32) * p2))) = p1) → vp_in (((2 : Int32) * p2) + 1) 160) : Met l yX3_endAt (xw yX3_endAt cX3_endAt 4 (some .int)) ({ frames := 0, cells := 0, slots := 0, locals := 0 }) (xPc G cI cJ cZ [.ref h0, .int p0, .int p1, .int p2] [(h0, .inr (3, [.ref h2, .ref h1, .ref k0, .int i0, .int i1, .int i2])), (h1, aI cZ 80 f3), (h2, aI cI 160 f4)] sz) (va_Qi (fun (r : Int32) (u : Unit) => (¬ (f3 (Int32.toNatClampNeg p2)) = 0 ∧ ¬ (f4 (Int32.toNatClampNeg ((2 : Int32) * p2))) = p0 ∧ ¬ (f4 (Int32.toNatClampNeg ((2 : Int32) * p2))) = p1 ∧ r = (-1) ∧ True) ∨ (¬ (f3 (Int32.toNatClampNeg p2)) = 0 ∧ ¬ (f4 (Int32.toNatClampNeg ((2 : Int32) * p2))) = p0 ∧ (f4 (Int32.toNatClampNeg ((2 : Int32) * p2))) = p1 ∧ ¬ (f4 (Int32.toNatClampNeg (((2 : Int32) * p2) + 1))) = p0 ∧ r = (-1) ∧ True) ∨ (¬ (f3 (Int32.toNatClampNeg p2)) = 0 ∧ ¬ (f4 (Int32.toNatClampNeg ((2 : Int32) * p2))) = p0 ∧ (f4 (Int32.toNatClampNeg ((2 : Int32) * p2))) = p1 ∧ (f4 (Int32.toNatClampNeg (((2 : Int32) * p2) + 1))) = p0 ∧ r = (((2 : Int32) * p2) + 1) ∧ True) ∨ (¬ (f3 (Int32.toNatClampNeg p2)) = 0 ∧ (f4 (Int32.toNatClampNeg ((2 : Int32) * p2))) = p0 ∧ ¬ (f4 (Int32.toNatClampNeg (((2 : Int32) * p2) + 1))) = p1 ∧ ¬ (f4 (Int32.toNatClampNeg ((2 : Int32) * p2))) = p1 ∧ r = (-1) ∧ True) ∨ (¬ (f3 (Int32.toNatClampNeg p2)) = 0 ∧ (f4 (Int32.toNatClampNeg ((2 : Int32) * p2))) = p0 ∧ ¬ (f4 (Int32.toNatClampNeg (((2 : Int32) * p2) + 1))) = p1 ∧ (f4 (Int32.toNatClampNeg ((2 : Int32) * p2))) = p1 ∧ ¬ (f4 (Int32.toNatClampNeg (((2 : Int32) * p2) + 1))) = p0 ∧ r = (-1) ∧ True) ∨ (¬ (f3 (Int32.toNatClampNeg p2)) = 0 ∧ (f4 (Int32.toNatClampNeg ((2 : Int32) * p2))) = p0 ∧ ¬ (f4 (Int32.toNatClampNeg (((2 : Int32) * p2) + 1))) = p1 ∧ (f4 (Int32.toNatClampNeg ((2 : Int32) * p2))) = p1 ∧ (f4 (Int32.toNatClampNeg (((2 : Int32) * p2) + 1))) = p0 ∧ r = (((2 : Int32) * p2) + 1) ∧ True) ∨ (¬ (f3 (Int32.toNatClampNeg p2)) = 0 ∧ (f4 (Int32.toNatClampNeg ((2 : Int32) * p2))) = p0 ∧ (f4 (Int32.toNatClampNeg (((2 : Int32) * p2) + 1))) = p1 ∧ r = ((2 : Int32) * p2) ∧ True) ∨ ((f3 (Int32.toNatClampNeg p2)) = 0 ∧ r = (-1) ∧ True)) (fun (u : Unit) t => xB G (va_A [(h0, .inr (3, [.ref h2, .ref h1, .ref k0, .int i0, .int i1, .int i2])), (h1, aI cZ 80 f3), (h2, aI cI 160 f4)] sz) [(h0, .inr (3, [.ref h2, .ref h1, .ref k0, .int i0, .int i1, .int i2])), (h1, aI cZ 80 f3), (h2, aI cI 160 f4)] t) (va_A [(h0, .inr (3, [.ref h2, .ref h1, .ref k0, .int i0, .int i1, .int i2])), (h1, aI cZ 80 f3), (h2, aI cI 160 f4)] sz)) 0 0 (va_A [(h0, .inr (3, [.ref h2, .ref h1, .ref k0, .int i0, .int i1, .int i2])), (h1, aI cZ 80 f3), (h2, aI cI 160 f4)] sz) := by
  refine Met.ofW (cc := cX3_endAt) (maxL := 4) (ret := (some .int)) (by decide) rfl ?_
  intro p e s m args below meth c s₁ B hml hv
  obtain ⟨rfl, hsz, hP, hK, hD0, hN⟩ := hv
  have hx := B.exec
  have hb := B.bytes
  have hr := B.returns
  have hts : ∀ w ∈ xW, w.before _ s = true := fun w h => atoms_spec (ws := xw yX3_endAt cX3_endAt 4 (some .int)) B.pre w (List.mem_cons_of_mem _ h)
  have hown : s.vm.findClass RX3 = some m.cls := findClass_of_methodNamed B.named
  have hlocks := B.notSynchronized
  subst hsz
  have hD := hD0.self (sz := s.heap.size)
  clear hD0
  generalize hAe : va_A [(h0, .inr (3, [.ref h2, .ref h1, .ref k0, .int i0, .int i1, .int i2])), (h1, aI cZ 80 f3), (h2, aI cI 160 f4)] s.heap.size = A at hD ⊢
  have hA : ∀ q : Nat, s.heap.size ≤ q → A q := fun q h => by rw [← hAe]; exact Or.inr h
  clear hAe
  have hS : va_S A s.heap s.heap [] := va_S.rf
  replace hP : va_P G vwCl [(h0, .inr (3, [.ref h2, .ref h1, .ref k0, .int i0, .int i1, .int i2])), (h1, aI cZ 80 f3), (h2, aI cI 160 f4)] s.heap := hP
  have hl := lv_entry ([.ref h0, .int p0, .int p1, .int p2]) (n := 4) (Nat.le_of_ble_eq_true rfl)
  rw [lg_entry_eq]
  generalize (lg_sl ([.ref h0, .int p0, .int p1, .int p2]) ++ List.replicate (4 - (lg_sl ([.ref h0, .int p0, .int p1, .int p2])).length) Slot.unset).toArray = ls at hl ⊢
  replace hl : lv_has ls 4 [(0, .ref h0), (1, .int p0), (2, .int p1), (3, .int p2)] := hl
  refine lv_aload_n hx hb dX3_endAt_0 rfl (lv_at hl 0 rfl) ?_
  refine va_get (D := G) (ci := 3) (v := .ref h1) (C := RX3) (T := TX3) (N := 6) hx hb hts xinX3 hown hK hP 0 rfl rfl 1 (by decide) (hts _ wn_2) (fun _ h9 => h9) rfl dX3_endAt_1 ?_
  refine lv_iload_n hx hb dX3_endAt_4 rfl (lv_at hl 3 rfl) ?_
  refine va_zald hx hb hK hP 1 2 rfl rfl hy0 dX3_endAt_5 ?_
  refine lv_if_ne (tgt := 11) hx hb dX3_endAt_6 (by decide) (fun c7 => ?_) (fun c7 => ?_)
  · refine lv_aload_n hx hb dX3_endAt_11 rfl (lv_at hl 0 rfl) ?_
    refine va_get (D := G) (ci := 3) (v := .ref h2) (C := RX3) (T := TX3) (N := 6) hx hb hts xinX3 hown hK hP 0 rfl rfl 0 (by decide) (hts _ wn_3) (fun _ h9 => h9) rfl dX3_endAt_12 ?_
    refine lv_iconst (v := 2) hx hb dX3_endAt_15 (by decide) ?_
    refine lv_iload_n hx hb dX3_endAt_16 rfl (lv_at hl 3 rfl) ?_
    refine lv_imul hx hb dX3_endAt_17 ?_
    refine va_iald hx hb hK hP 2 0 rfl rfl (hy1 c7) dX3_endAt_18 ?_
    refine lv_iload_n hx hb dX3_endAt_19 rfl (lv_at hl 1 rfl) ?_
    refine lv_icmp_ne (tgt := 41) hx hb dX3_endAt_20 (by decide) (fun c8 => ?_) (fun c8 => ?_)
    · refine lv_aload_n hx hb dX3_endAt_41 rfl (lv_at hl 0 rfl) ?_
      refine va_get (D := G) (ci := 3) (v := .ref h2) (C := RX3) (T := TX3) (N := 6) hx hb hts xinX3 hown hK hP 0 rfl rfl 0 (by decide) (hts _ wn_3) (fun _ h9 => h9) rfl dX3_endAt_42 ?_
      refine lv_iconst (v := 2) hx hb dX3_endAt_45 (by decide) ?_
      refine lv_iload_n hx hb dX3_endAt_46 rfl (lv_at hl 3 rfl) ?_
      refine lv_imul hx hb dX3_endAt_47 ?_
      refine va_iald hx hb hK hP 2 0 rfl rfl (hy2 c7 c8) dX3_endAt_48 ?_
      refine lv_iload_n hx hb dX3_endAt_49 rfl (lv_at hl 2 rfl) ?_
      refine lv_icmp_ne (tgt := 75) hx hb dX3_endAt_50 (by decide) (fun c9 => ?_) (fun c9 => ?_)
      · refine lv_iconst (v := (-1)) hx hb dX3_endAt_75 (by decide) ?_
        have hP9 : va_P G vwCl [(h0, .inr (3, [.ref h2, .ref h1, .ref k0, .int i0, .int i1, .int i2])), (h1, aI cZ 80 f3), (h2, aI cI 160 f4)] s.heap := hP.sub [0, 1, 2] rfl
        have hD9 : va_D A [(h0, .inr (3, [.ref h2, .ref h1, .ref k0, .int i0, .int i1, .int i2])), (h1, aI cZ 80 f3), (h2, aI cI 160 f4)] := hD.sub [0, 1, 2] (by decide) rfl
        exact W.iret (v := (-1)) hx hb hr (fun t ht hW => ⟨⟨_, (), rfl, Or.inl ⟨c7, c8, c9, rfl, trivial⟩, by rw [ht]; exact hP9, hD9⟩, hS.F ht⟩) hS.2.2 dX3_endAt_76
      · refine lv_aload_n hx hb dX3_endAt_53 rfl (lv_at hl 0 rfl) ?_
        refine va_get (D := G) (ci := 3) (v := .ref h2) (C := RX3) (T := TX3) (N := 6) hx hb hts xinX3 hown hK hP 0 rfl rfl 0 (by decide) (hts _ wn_3) (fun _ h9 => h9) rfl dX3_endAt_54 ?_
        refine lv_iconst (v := 2) hx hb dX3_endAt_57 (by decide) ?_
        refine lv_iload_n hx hb dX3_endAt_58 rfl (lv_at hl 3 rfl) ?_
        refine lv_imul hx hb dX3_endAt_59 ?_
        refine lv_iconst (v := 1) hx hb dX3_endAt_60 (by decide) ?_
        refine lv_iadd hx hb dX3_endAt_61 ?_
        refine va_iald hx hb hK hP 2 0 rfl rfl (hy3 c7 c8 c9) dX3_endAt_62 ?_
        refine lv_iload_n hx hb dX3_endAt_63 rfl (lv_at hl 1 rfl) ?_
        refine lv_icmp_ne (tgt := 75) hx hb dX3_endAt_64 (by decide) (fun c10 => ?_) (fun c10 => ?_)
        · refine lv_iconst (v := (-1)) hx hb dX3_endAt_75 (by decide) ?_
          have hP9 : va_P G vwCl [(h0, .inr (3, [.ref h2, .ref h1, .ref k0, .int i0, .int i1, .int i2])), (h1, aI cZ 80 f3), (h2, aI cI 160 f4)] s.heap := hP.sub [0, 1, 2] rfl
          have hD9 : va_D A [(h0, .inr (3, [.ref h2, .ref h1, .ref k0, .int i0, .int i1, .int i2])), (h1, aI cZ 80 f3), (h2, aI cI 160 f4)] := hD.sub [0, 1, 2] (by decide) rfl
          exact W.iret (v := (-1)) hx hb hr (fun t ht hW => ⟨⟨_, (), rfl, Or.inr (Or.inl ⟨c7, c8, c9, c10, rfl, trivial⟩), by rw [ht]; exact hP9, hD9⟩, hS.F ht⟩) hS.2.2 dX3_endAt_76
        · refine lv_iconst (v := 2) hx hb dX3_endAt_67 (by decide) ?_
          refine lv_iload_n hx hb dX3_endAt_68 rfl (lv_at hl 3 rfl) ?_
          refine lv_imul hx hb dX3_endAt_69 ?_
          refine lv_iconst (v := 1) hx hb dX3_endAt_70 (by decide) ?_
          refine lv_iadd hx hb dX3_endAt_71 ?_
          refine lv_goto (tgt := 76) hx hb dX3_endAt_72 (by decide) ?_
          have hP9 : va_P G vwCl [(h0, .inr (3, [.ref h2, .ref h1, .ref k0, .int i0, .int i1, .int i2])), (h1, aI cZ 80 f3), (h2, aI cI 160 f4)] s.heap := hP.sub [0, 1, 2] rfl
          have hD9 : va_D A [(h0, .inr (3, [.ref h2, .ref h1, .ref k0, .int i0, .int i1, .int i2])), (h1, aI cZ 80 f3), (h2, aI cI 160 f4)] := hD.sub [0, 1, 2] (by decide) rfl
          exact W.iret (v := (((2 : Int32) * p2) + 1)) hx hb hr (fun t ht hW => ⟨⟨_, (), rfl, Or.inr (Or.inr (Or.inl ⟨c7, c8, c9, c10, rfl, trivial⟩)), by rw [ht]; exact hP9, hD9⟩, hS.F ht⟩) hS.2.2 dX3_endAt_76
    · refine lv_aload_n hx hb dX3_endAt_23 rfl (lv_at hl 0 rfl) ?_
      refine va_get (D := G) (ci := 3) (v := .ref h2) (C := RX3) (T := TX3) (N := 6) hx hb hts xinX3 hown hK hP 0 rfl rfl 0 (by decide) (hts _ wn_3) (fun _ h9 => h9) rfl dX3_endAt_24 ?_
      refine lv_iconst (v := 2) hx hb dX3_endAt_27 (by decide) ?_
      refine lv_iload_n hx hb dX3_endAt_28 rfl (lv_at hl 3 rfl) ?_
      refine lv_imul hx hb dX3_endAt_29 ?_
      refine lv_iconst (v := 1) hx hb dX3_endAt_30 (by decide) ?_
      refine lv_iadd hx hb dX3_endAt_31 ?_
      refine va_iald hx hb hK hP 2 0 rfl rfl (hy4 c7 c8) dX3_endAt_32 ?_
      refine lv_iload_n hx hb dX3_endAt_33 rfl (lv_at hl 2 rfl) ?_
      refine lv_icmp_ne (tgt := 41) hx hb dX3_endAt_34 (by decide) (fun c11 => ?_) (fun c11 => ?_)
      · refine lv_aload_n hx hb dX3_endAt_41 rfl (lv_at hl 0 rfl) ?_
        refine va_get (D := G) (ci := 3) (v := .ref h2) (C := RX3) (T := TX3) (N := 6) hx hb hts xinX3 hown hK hP 0 rfl rfl 0 (by decide) (hts _ wn_3) (fun _ h9 => h9) rfl dX3_endAt_42 ?_
        refine lv_iconst (v := 2) hx hb dX3_endAt_45 (by decide) ?_
        refine lv_iload_n hx hb dX3_endAt_46 rfl (lv_at hl 3 rfl) ?_
        refine lv_imul hx hb dX3_endAt_47 ?_
        refine va_iald hx hb hK hP 2 0 rfl rfl (hy5 c7 c8 c11) dX3_endAt_48 ?_
        refine lv_iload_n hx hb dX3_endAt_49 rfl (lv_at hl 2 rfl) ?_
        refine lv_icmp_ne (tgt := 75) hx hb dX3_endAt_50 (by decide) (fun c12 => ?_) (fun c12 => ?_)
        · refine lv_iconst (v := (-1)) hx hb dX3_endAt_75 (by decide) ?_
          have hP9 : va_P G vwCl [(h0, .inr (3, [.ref h2, .ref h1, .ref k0, .int i0, .int i1, .int i2])), (h1, aI cZ 80 f3), (h2, aI cI 160 f4)] s.heap := hP.sub [0, 1, 2] rfl
          have hD9 : va_D A [(h0, .inr (3, [.ref h2, .ref h1, .ref k0, .int i0, .int i1, .int i2])), (h1, aI cZ 80 f3), (h2, aI cI 160 f4)] := hD.sub [0, 1, 2] (by decide) rfl
          exact W.iret (v := (-1)) hx hb hr (fun t ht hW => ⟨⟨_, (), rfl, Or.inr (Or.inr (Or.inr (Or.inl ⟨c7, c8, c11, c12, rfl, trivial⟩))), by rw [ht]; exact hP9, hD9⟩, hS.F ht⟩) hS.2.2 dX3_endAt_76
        · refine lv_aload_n hx hb dX3_endAt_53 rfl (lv_at hl 0 rfl) ?_
          refine va_get (D := G) (ci := 3) (v := .ref h2) (C := RX3) (T := TX3) (N := 6) hx hb hts xinX3 hown hK hP 0 rfl rfl 0 (by decide) (hts _ wn_3) (fun _ h9 => h9) rfl dX3_endAt_54 ?_
          refine lv_iconst (v := 2) hx hb dX3_endAt_57 (by decide) ?_
          refine lv_iload_n hx hb dX3_endAt_58 rfl (lv_at hl 3 rfl) ?_
          refine lv_imul hx hb dX3_endAt_59 ?_
          refine lv_iconst (v := 1) hx hb dX3_endAt_60 (by decide) ?_
          refine lv_iadd hx hb dX3_endAt_61 ?_
          refine va_iald hx hb hK hP 2 0 rfl rfl (hy6 c7 c8 c11 c12) dX3_endAt_62 ?_
          refine lv_iload_n hx hb dX3_endAt_63 rfl (lv_at hl 1 rfl) ?_
          refine lv_icmp_ne (tgt := 75) hx hb dX3_endAt_64 (by decide) (fun c13 => ?_) (fun c13 => ?_)
          · refine lv_iconst (v := (-1)) hx hb dX3_endAt_75 (by decide) ?_
            have hP9 : va_P G vwCl [(h0, .inr (3, [.ref h2, .ref h1, .ref k0, .int i0, .int i1, .int i2])), (h1, aI cZ 80 f3), (h2, aI cI 160 f4)] s.heap := hP.sub [0, 1, 2] rfl
            have hD9 : va_D A [(h0, .inr (3, [.ref h2, .ref h1, .ref k0, .int i0, .int i1, .int i2])), (h1, aI cZ 80 f3), (h2, aI cI 160 f4)] := hD.sub [0, 1, 2] (by decide) rfl
            exact W.iret (v := (-1)) hx hb hr (fun t ht hW => ⟨⟨_, (), rfl, Or.inr (Or.inr (Or.inr (Or.inr (Or.inl ⟨c7, c8, c11, c12, c13, rfl, trivial⟩)))), by rw [ht]; exact hP9, hD9⟩, hS.F ht⟩) hS.2.2 dX3_endAt_76
          · refine lv_iconst (v := 2) hx hb dX3_endAt_67 (by decide) ?_
            refine lv_iload_n hx hb dX3_endAt_68 rfl (lv_at hl 3 rfl) ?_
            refine lv_imul hx hb dX3_endAt_69 ?_
            refine lv_iconst (v := 1) hx hb dX3_endAt_70 (by decide) ?_
            refine lv_iadd hx hb dX3_endAt_71 ?_
            refine lv_goto (tgt := 76) hx hb dX3_endAt_72 (by decide) ?_
            have hP9 : va_P G vwCl [(h0, .inr (3, [.ref h2, .ref h1, .ref k0, .int i0, .int i1, .int i2])), (h1, aI cZ 80 f3), (h2, aI cI 160 f4)] s.heap := hP.sub [0, 1, 2] rfl
            have hD9 : va_D A [(h0, .inr (3, [.ref h2, .ref h1, .ref k0, .int i0, .int i1, .int i2])), (h1, aI cZ 80 f3), (h2, aI cI 160 f4)] := hD.sub [0, 1, 2] (by decide) rfl
            exact W.iret (v := (((2 : Int32) * p2) + 1)) hx hb hr (fun t ht hW => ⟨⟨_, (), rfl, Or.inr (Or.inr (Or.inr (Or.inr (Or.inr (Or.inl ⟨c7, c8, c11, c12, c13, rfl, trivial⟩))))), by rw [ht]; exact hP9, hD9⟩, hS.F ht⟩) hS.2.2 dX3_endAt_76
      · refine lv_iconst (v := 2) hx hb dX3_endAt_37 (by decide) ?_
        refine lv_iload_n hx hb dX3_endAt_38 rfl (lv_at hl 3 rfl) ?_
        refine lv_imul hx hb dX3_endAt_39 ?_
        have hP9 : va_P G vwCl [(h0, .inr (3, [.ref h2, .ref h1, .ref k0, .int i0, .int i1, .int i2])), (h1, aI cZ 80 f3), (h2, aI cI 160 f4)] s.heap := hP.sub [0, 1, 2] rfl
        have hD9 : va_D A [(h0, .inr (3, [.ref h2, .ref h1, .ref k0, .int i0, .int i1, .int i2])), (h1, aI cZ 80 f3), (h2, aI cI 160 f4)] := hD.sub [0, 1, 2] (by decide) rfl
        exact W.iret (v := ((2 : Int32) * p2)) hx hb hr (fun t ht hW => ⟨⟨_, (), rfl, Or.inr (Or.inr (Or.inr (Or.inr (Or.inr (Or.inr (Or.inl ⟨c7, c8, c11, rfl, trivial⟩)))))), by rw [ht]; exact hP9, hD9⟩, hS.F ht⟩) hS.2.2 dX3_endAt_40
  · refine lv_iconst (v := (-1)) hx hb dX3_endAt_9 (by decide) ?_
    have hP9 : va_P G vwCl [(h0, .inr (3, [.ref h2, .ref h1, .ref k0, .int i0, .int i1, .int i2])), (h1, aI cZ 80 f3), (h2, aI cI 160 f4)] s.heap := hP.sub [0, 1, 2] rfl
    have hD9 : va_D A [(h0, .inr (3, [.ref h2, .ref h1, .ref k0, .int i0, .int i1, .int i2])), (h1, aI cZ 80 f3), (h2, aI cI 160 f4)] := hD.sub [0, 1, 2] (by decide) rfl
    exact W.iret (v := (-1)) hx hb hr (fun t ht hW => ⟨⟨_, (), rfl, Or.inr (Or.inr (Or.inr (Or.inr (Or.inr (Or.inr (Or.inr (⟨c7, rfl, trivial⟩))))))), by rw [ht]; exact hP9, hD9⟩, hS.F ht⟩) hS.2.2 dX3_endAt_10
set_option maxHeartbeats 4000000 in
set_option maxRecDepth 100000 in
theorem nX7_empty (l : Launch) (G : va_G) (cI cJ cZ : ClassId) (h0 k0 k1 sz : Nat) (i0 : Int32) : Met l yX7_empty (xw yX7_empty cX7_empty 1 none) ({ frames := 0, cells := 0, slots := 0, locals := 0 }) (xPc G cI cJ cZ [.ref h0] [(h0, .inr (7, [.ref k0, .ref k1, .int i0]))] sz) (va_Qv (fun (u : Unit) => (True)) (fun (u : Unit) t => xB G (va_A [(h0, .inr (7, [.ref k0, .ref k1, .int i0]))] sz) [(h0, .inr (7, [.ref k0, .ref k1, .int 0]))] t) (va_A [(h0, .inr (7, [.ref k0, .ref k1, .int i0]))] sz)) 0 0 (va_A [(h0, .inr (7, [.ref k0, .ref k1, .int i0]))] sz) := by
  refine Met.ofW (cc := cX7_empty) (maxL := 1) (ret := none) (by decide) rfl ?_
  intro p e s m args below meth c s₁ B hml hv
  obtain ⟨rfl, hsz, hP, hK, hD0, hN⟩ := hv
  have hx := B.exec
  have hb := B.bytes
  have hr := B.returns
  have hts : ∀ w ∈ xW, w.before _ s = true := fun w h => atoms_spec (ws := xw yX7_empty cX7_empty 1 none) B.pre w (List.mem_cons_of_mem _ h)
  have hown : s.vm.findClass RX7 = some m.cls := findClass_of_methodNamed B.named
  have hlocks := B.notSynchronized
  subst hsz
  have hD := hD0.self (sz := s.heap.size)
  clear hD0
  generalize hAe : va_A [(h0, .inr (7, [.ref k0, .ref k1, .int i0]))] s.heap.size = A at hD ⊢
  have hA : ∀ q : Nat, s.heap.size ≤ q → A q := fun q h => by rw [← hAe]; exact Or.inr h
  clear hAe
  have hS : va_S A s.heap s.heap [] := va_S.rf
  replace hP : va_P G vwCl [(h0, .inr (7, [.ref k0, .ref k1, .int i0]))] s.heap := hP
  have hl := lv_entry ([.ref h0]) (n := 1) (Nat.le_of_ble_eq_true rfl)
  rw [lg_entry_eq]
  generalize (lg_sl ([.ref h0]) ++ List.replicate (1 - (lg_sl ([.ref h0])).length) Slot.unset).toArray = ls at hl ⊢
  replace hl : lv_has ls 1 [(0, .ref h0)] := hl
  refine lv_aload_n hx hb dX7_empty_0 rfl (lv_at hl 0 rfl) ?_
  refine lv_iconst (v := 0) hx hb dX7_empty_1 (by decide) ?_
  refine va_put (D := G) (ci := 7) (v := .int 0) (ty := .int) (C := RX7) (T := TX7) (N := 3) hx hb hts xinX7 tyX7 tyX7_ok nmX7 hown hK hP hD hS 0 rfl rfl 2 (by decide) (hts _ wn_4) (fun _ h9 => h9) rfl (by decide +kernel) rfl rfl (Nat.le_of_ble_eq_true rfl) dX7_empty_2 (fun H locs hP hD hS => ?_)
  replace hP : va_P G vwCl [(h0, .inr (7, [.ref k0, .ref k1, .int 0]))] H := hP
  replace hD : va_D A [(h0, .inr (7, [.ref k0, .ref k1, .int 0]))] := hD
  have hP9 : va_P G vwCl [(h0, .inr (7, [.ref k0, .ref k1, .int 0]))] H := hP.sub [0] rfl
  have hD9 : va_D A [(h0, .inr (7, [.ref k0, .ref k1, .int 0]))] := hD.sub [0] (by decide) rfl
  exact W.vret hx hb hr (fun t ht hW => ⟨⟨(), rfl, trivial, by rw [ht]; exact hP9, hD9⟩, hS.F ht⟩) hS.2.2 dX7_empty_5
set_option maxHeartbeats 4000000 in
set_option maxRecDepth 100000 in
theorem nX7_open (l : Launch) (G : va_G) (cI cJ cZ : ClassId) (h0 h1 k0 sz : Nat) (i0 : Int32) (f1 : Nat → Int32) (hy0 : (¬ 180 ≤ i0) → vp_in i0 181) (hy1 : (¬ 180 ≤ i0) → vp_in (i0 + 1) 181) : Met l yX7_open (xw yX7_open cX7_open 1 none) ({ frames := 0, cells := 0, slots := 0, locals := 0 }) (xPc G cI cJ cZ [.ref h0] [(h0, .inr (7, [.ref k0, .ref h1, .int i0])), (h1, aI cI 181 f1)] sz) (va_Qv (fun (u : Nat) => (180 ≤ i0 ∧ u = 0 ∧ True) ∨ (¬ 180 ≤ i0 ∧ u = 1 ∧ True)) (fun (u : Nat) t => xB G (va_A [(h0, .inr (7, [.ref k0, .ref h1, .int i0])), (h1, aI cI 181 f1)] sz) (match u with | 0 => [(h0, .inr (7, [.ref k0, .ref h1, .int i0])), (h1, aI cI 181 f1)] | _ => [(h0, .inr (7, [.ref k0, .ref h1, .int (i0 + 1)])), (h1, aI cI 181 (upd f1 (Int32.toNatClampNeg (i0 + 1)) (f1 (Int32.toNatClampNeg i0))))]) t) (va_A [(h0, .inr (7, [.ref k0, .ref h1, .int i0])), (h1, aI cI 181 f1)] sz)) 0 0 (va_A [(h0, .inr (7, [.ref k0, .ref h1, .int i0])), (h1, aI cI 181 f1)] sz) := by
  refine Met.ofW (cc := cX7_open) (maxL := 1) (ret := none) (by decide) rfl ?_
  intro p e s m args below meth c s₁ B hml hv
  obtain ⟨rfl, hsz, hP, hK, hD0, hN⟩ := hv
  have hx := B.exec
  have hb := B.bytes
  have hr := B.returns
  have hts : ∀ w ∈ xW, w.before _ s = true := fun w h => atoms_spec (ws := xw yX7_open cX7_open 1 none) B.pre w (List.mem_cons_of_mem _ h)
  have hown : s.vm.findClass RX7 = some m.cls := findClass_of_methodNamed B.named
  have hlocks := B.notSynchronized
  subst hsz
  have hD := hD0.self (sz := s.heap.size)
  clear hD0
  generalize hAe : va_A [(h0, .inr (7, [.ref k0, .ref h1, .int i0])), (h1, aI cI 181 f1)] s.heap.size = A at hD ⊢
  have hA : ∀ q : Nat, s.heap.size ≤ q → A q := fun q h => by rw [← hAe]; exact Or.inr h
  clear hAe
  have hS : va_S A s.heap s.heap [] := va_S.rf
  replace hP : va_P G vwCl [(h0, .inr (7, [.ref k0, .ref h1, .int i0])), (h1, aI cI 181 f1)] s.heap := hP
  have hl := lv_entry ([.ref h0]) (n := 1) (Nat.le_of_ble_eq_true rfl)
  rw [lg_entry_eq]
  generalize (lg_sl ([.ref h0]) ++ List.replicate (1 - (lg_sl ([.ref h0])).length) Slot.unset).toArray = ls at hl ⊢
  replace hl : lv_has ls 1 [(0, .ref h0)] := hl
  refine lv_aload_n hx hb dX7_open_0 rfl (lv_at hl 0 rfl) ?_
  refine va_get (D := G) (ci := 7) (v := .int i0) (C := RX7) (T := TX7) (N := 3) hx hb hts xinX7 hown hK hP 0 rfl rfl 2 (by decide) (hts _ wn_4) (fun _ h9 => h9) rfl dX7_open_1 ?_
  refine lv_sipush (v := 180) hx hb dX7_open_4 (by decide) ?_
  refine lv_icmp_ge (tgt := 40) hx hb dX7_open_7 (by decide) (fun c14 => ?_) (fun c14 => ?_)
  · have hP9 : va_P G vwCl [(h0, .inr (7, [.ref k0, .ref h1, .int i0])), (h1, aI cI 181 f1)] s.heap := hP.sub [0, 1] rfl
    have hD9 : va_D A [(h0, .inr (7, [.ref k0, .ref h1, .int i0])), (h1, aI cI 181 f1)] := hD.sub [0, 1] (by decide) rfl
    exact W.vret hx hb hr (fun t ht hW => ⟨⟨0, rfl, Or.inl ⟨c14, rfl, trivial⟩, by rw [ht]; exact hP9, hD9⟩, hS.F ht⟩) hS.2.2 dX7_open_40
  · refine lv_aload_n hx hb dX7_open_10 rfl (lv_at hl 0 rfl) ?_
    refine va_get (D := G) (ci := 7) (v := .ref h1) (C := RX7) (T := TX7) (N := 3) hx hb hts xinX7 hown hK hP 0 rfl rfl 1 (by decide) (hts _ wn_5) (fun _ h9 => h9) rfl dX7_open_11 ?_
    refine lv_aload_n hx hb dX7_open_14 rfl (lv_at hl 0 rfl) ?_
    refine va_get (D := G) (ci := 7) (v := .int i0) (C := RX7) (T := TX7) (N := 3) hx hb hts xinX7 hown hK hP 0 rfl rfl 2 (by decide) (hts _ wn_4) (fun _ h9 => h9) rfl dX7_open_15 ?_
    refine lv_iconst (v := 1) hx hb dX7_open_18 (by decide) ?_
    refine lv_iadd hx hb dX7_open_19 ?_
    refine lv_aload_n hx hb dX7_open_20 rfl (lv_at hl 0 rfl) ?_
    refine va_get (D := G) (ci := 7) (v := .ref h1) (C := RX7) (T := TX7) (N := 3) hx hb hts xinX7 hown hK hP 0 rfl rfl 1 (by decide) (hts _ wn_5) (fun _ h9 => h9) rfl dX7_open_21 ?_
    refine lv_aload_n hx hb dX7_open_24 rfl (lv_at hl 0 rfl) ?_
    refine va_get (D := G) (ci := 7) (v := .int i0) (C := RX7) (T := TX7) (N := 3) hx hb hts xinX7 hown hK hP 0 rfl rfl 2 (by decide) (hts _ wn_4) (fun _ h9 => h9) rfl dX7_open_25 ?_
    refine va_iald hx hb hK hP 1 0 rfl rfl (hy0 c14) dX7_open_28 ?_
    refine va_iast hx hb hK hP hD hS 1 0 rfl rfl (hy1 c14) dX7_open_29 (fun H locs hP hD hS => ?_)
    replace hP : va_P G vwCl [(h0, .inr (7, [.ref k0, .ref h1, .int i0])), (h1, aI cI 181 (upd f1 (Int32.toNatClampNeg (i0 + 1)) (f1 (Int32.toNatClampNeg i0))))] H := hP
    replace hD : va_D A [(h0, .inr (7, [.ref k0, .ref h1, .int i0])), (h1, aI cI 181 (upd f1 (Int32.toNatClampNeg (i0 + 1)) (f1 (Int32.toNatClampNeg i0))))] := hD
    refine lv_aload_n hx hb dX7_open_30 rfl (lv_at hl 0 rfl) ?_
    refine lv_dup hx hb dX7_open_31 rfl ?_
    refine va_get (D := G) (ci := 7) (v := .int i0) (C := RX7) (T := TX7) (N := 3) hx hb hts xinX7 hown hK hP 0 rfl rfl 2 (by decide) (hts _ wn_4) (fun _ h9 => h9) rfl dX7_open_32 ?_
    refine lv_iconst (v := 1) hx hb dX7_open_35 (by decide) ?_
    refine lv_iadd hx hb dX7_open_36 ?_
    refine va_put (D := G) (ci := 7) (v := .int (i0 + 1)) (ty := .int) (C := RX7) (T := TX7) (N := 3) hx hb hts xinX7 tyX7 tyX7_ok nmX7 hown hK hP hD hS 0 rfl rfl 2 (by decide) (hts _ wn_4) (fun _ h9 => h9) rfl (by decide +kernel) rfl rfl (Nat.le_of_ble_eq_true rfl) dX7_open_37 (fun H locs hP hD hS => ?_)
    replace hP : va_P G vwCl [(h0, .inr (7, [.ref k0, .ref h1, .int (i0 + 1)])), (h1, aI cI 181 (upd f1 (Int32.toNatClampNeg (i0 + 1)) (f1 (Int32.toNatClampNeg i0))))] H := hP
    replace hD : va_D A [(h0, .inr (7, [.ref k0, .ref h1, .int (i0 + 1)])), (h1, aI cI 181 (upd f1 (Int32.toNatClampNeg (i0 + 1)) (f1 (Int32.toNatClampNeg i0))))] := hD
    have hP9 : va_P G vwCl [(h0, .inr (7, [.ref k0, .ref h1, .int (i0 + 1)])), (h1, aI cI 181 (upd f1 (Int32.toNatClampNeg (i0 + 1)) (f1 (Int32.toNatClampNeg i0))))] H := hP.sub [0, 1] rfl
    have hD9 : va_D A [(h0, .inr (7, [.ref k0, .ref h1, .int (i0 + 1)])), (h1, aI cI 181 (upd f1 (Int32.toNatClampNeg (i0 + 1)) (f1 (Int32.toNatClampNeg i0))))] := hD.sub [0, 1] (by decide) rfl
    exact W.vret hx hb hr (fun t ht hW => ⟨⟨1, rfl, Or.inr (⟨c14, rfl, trivial⟩), by rw [ht]; exact hP9, hD9⟩, hS.F ht⟩) hS.2.2 dX7_open_40
set_option maxHeartbeats 4000000 in
set_option maxRecDepth 100000 in
theorem nX7_size (l : Launch) (G : va_G) (cI cJ cZ : ClassId) (h0 h1 k0 sz : Nat) (i0 : Int32) (f1 : Nat → Int32) (p0 : Int32) (hy0 : vp_in (p0 + 1) 181) (hy1 : vp_in p0 181) : Met l yX7_size (xw yX7_size cX7_size 2 (some .int)) ({ frames := 0, cells := 0, slots := 0, locals := 0 }) (xPc G cI cJ cZ [.ref h0, .int p0] [(h0, .inr (7, [.ref k0, .ref h1, .int i0])), (h1, aI cI 181 f1)] sz) (va_Qi (fun (r : Int32) (u : Unit) => (r = ((f1 (Int32.toNatClampNeg (p0 + 1))) - (f1 (Int32.toNatClampNeg p0))) ∧ True)) (fun (u : Unit) t => xB G (va_A [(h0, .inr (7, [.ref k0, .ref h1, .int i0])), (h1, aI cI 181 f1)] sz) [(h0, .inr (7, [.ref k0, .ref h1, .int i0])), (h1, aI cI 181 f1)] t) (va_A [(h0, .inr (7, [.ref k0, .ref h1, .int i0])), (h1, aI cI 181 f1)] sz)) 0 0 (va_A [(h0, .inr (7, [.ref k0, .ref h1, .int i0])), (h1, aI cI 181 f1)] sz) := by
  refine Met.ofW (cc := cX7_size) (maxL := 2) (ret := (some .int)) (by decide) rfl ?_
  intro p e s m args below meth c s₁ B hml hv
  obtain ⟨rfl, hsz, hP, hK, hD0, hN⟩ := hv
  have hx := B.exec
  have hb := B.bytes
  have hr := B.returns
  have hts : ∀ w ∈ xW, w.before _ s = true := fun w h => atoms_spec (ws := xw yX7_size cX7_size 2 (some .int)) B.pre w (List.mem_cons_of_mem _ h)
  have hown : s.vm.findClass RX7 = some m.cls := findClass_of_methodNamed B.named
  have hlocks := B.notSynchronized
  subst hsz
  have hD := hD0.self (sz := s.heap.size)
  clear hD0
  generalize hAe : va_A [(h0, .inr (7, [.ref k0, .ref h1, .int i0])), (h1, aI cI 181 f1)] s.heap.size = A at hD ⊢
  have hA : ∀ q : Nat, s.heap.size ≤ q → A q := fun q h => by rw [← hAe]; exact Or.inr h
  clear hAe
  have hS : va_S A s.heap s.heap [] := va_S.rf
  replace hP : va_P G vwCl [(h0, .inr (7, [.ref k0, .ref h1, .int i0])), (h1, aI cI 181 f1)] s.heap := hP
  have hl := lv_entry ([.ref h0, .int p0]) (n := 2) (Nat.le_of_ble_eq_true rfl)
  rw [lg_entry_eq]
  generalize (lg_sl ([.ref h0, .int p0]) ++ List.replicate (2 - (lg_sl ([.ref h0, .int p0])).length) Slot.unset).toArray = ls at hl ⊢
  replace hl : lv_has ls 2 [(0, .ref h0), (1, .int p0)] := hl
  refine lv_aload_n hx hb dX7_size_0 rfl (lv_at hl 0 rfl) ?_
  refine va_get (D := G) (ci := 7) (v := .ref h1) (C := RX7) (T := TX7) (N := 3) hx hb hts xinX7 hown hK hP 0 rfl rfl 1 (by decide) (hts _ wn_5) (fun _ h9 => h9) rfl dX7_size_1 ?_
  refine lv_iload_n hx hb dX7_size_4 rfl (lv_at hl 1 rfl) ?_
  refine lv_iconst (v := 1) hx hb dX7_size_5 (by decide) ?_
  refine lv_iadd hx hb dX7_size_6 ?_
  refine va_iald hx hb hK hP 1 0 rfl rfl hy0 dX7_size_7 ?_
  refine lv_aload_n hx hb dX7_size_8 rfl (lv_at hl 0 rfl) ?_
  refine va_get (D := G) (ci := 7) (v := .ref h1) (C := RX7) (T := TX7) (N := 3) hx hb hts xinX7 hown hK hP 0 rfl rfl 1 (by decide) (hts _ wn_5) (fun _ h9 => h9) rfl dX7_size_9 ?_
  refine lv_iload_n hx hb dX7_size_12 rfl (lv_at hl 1 rfl) ?_
  refine va_iald hx hb hK hP 1 0 rfl rfl hy1 dX7_size_13 ?_
  refine lv_isub hx hb dX7_size_14 ?_
  have hP9 : va_P G vwCl [(h0, .inr (7, [.ref k0, .ref h1, .int i0])), (h1, aI cI 181 f1)] s.heap := hP.sub [0, 1] rfl
  have hD9 : va_D A [(h0, .inr (7, [.ref k0, .ref h1, .int i0])), (h1, aI cI 181 f1)] := hD.sub [0, 1] (by decide) rfl
  exact W.iret (v := ((f1 (Int32.toNatClampNeg (p0 + 1))) - (f1 (Int32.toNatClampNeg p0)))) hx hb hr (fun t ht hW => ⟨⟨_, (), rfl, ⟨rfl, trivial⟩, by rw [ht]; exact hP9, hD9⟩, hS.F ht⟩) hS.2.2 dX7_size_15
set_option maxHeartbeats 4000000 in
set_option maxRecDepth 100000 in
theorem nX7_has (l : Launch) (G : va_G) (cI cJ cZ : ClassId) (h0 h1 k0 sz : Nat) (i0 : Int32) (f1 : Nat → Int32) (p0 : Int32) (p1 : Int32) (hy0 : (¬ p0 < 0) → (¬ i0 ≤ p0) → (¬ p1 < 0) → vp_in (p0 + 1) 181) (hy1 : (¬ p0 < 0) → (¬ i0 ≤ p0) → (¬ p1 < 0) → vp_in p0 181) : Met l yX7_has (xw yX7_has cX7_has 3 (some .boolean)) ({ frames := 1, cells := 0, slots := 0, locals := 21 }) (xPc G cI cJ cZ [.ref h0, .int p0, .int p1] [(h0, .inr (7, [.ref k0, .ref h1, .int i0])), (h1, aI cI 181 f1)] sz) (va_Qi (fun (r : Int32) (u : Unit) => (p0 < 0 ∧ r = 0 ∧ True) ∨ (¬ p0 < 0 ∧ i0 ≤ p0 ∧ r = 0 ∧ True) ∨ (¬ p0 < 0 ∧ ¬ i0 ≤ p0 ∧ p1 < 0 ∧ r = 0 ∧ True) ∨ (¬ p0 < 0 ∧ ¬ i0 ≤ p0 ∧ ¬ p1 < 0 ∧ ((f1 (Int32.toNatClampNeg (p0 + 1))) - (f1 (Int32.toNatClampNeg p0))) ≤ p1 ∧ r = 0 ∧ True) ∨ (¬ p0 < 0 ∧ ¬ i0 ≤ p0 ∧ ¬ p1 < 0 ∧ ¬ ((f1 (Int32.toNatClampNeg (p0 + 1))) - (f1 (Int32.toNatClampNeg p0))) ≤ p1 ∧ r = 1 ∧ True)) (fun (u : Unit) t => xB G (va_A [(h0, .inr (7, [.ref k0, .ref h1, .int i0])), (h1, aI cI 181 f1)] sz) [(h0, .inr (7, [.ref k0, .ref h1, .int i0])), (h1, aI cI 181 f1)] t) (va_A [(h0, .inr (7, [.ref k0, .ref h1, .int i0])), (h1, aI cI 181 f1)] sz)) 0 0 (va_A [(h0, .inr (7, [.ref k0, .ref h1, .int i0])), (h1, aI cI 181 f1)] sz) := by
  refine Met.ofW (cc := cX7_has) (maxL := 3) (ret := (some .boolean)) (by decide) rfl ?_
  intro p e s m args below meth c s₁ B hml hv
  obtain ⟨rfl, hsz, hP, hK, hD0, hN⟩ := hv
  have hx := B.exec
  have hb := B.bytes
  have hr := B.returns
  have hts : ∀ w ∈ xW, w.before _ s = true := fun w h => atoms_spec (ws := xw yX7_has cX7_has 3 (some .boolean)) B.pre w (List.mem_cons_of_mem _ h)
  have hown : s.vm.findClass RX7 = some m.cls := findClass_of_methodNamed B.named
  have hlocks := B.notSynchronized
  subst hsz
  have hD := hD0.self (sz := s.heap.size)
  clear hD0
  generalize hAe : va_A [(h0, .inr (7, [.ref k0, .ref h1, .int i0])), (h1, aI cI 181 f1)] s.heap.size = A at hD ⊢
  have hA : ∀ q : Nat, s.heap.size ≤ q → A q := fun q h => by rw [← hAe]; exact Or.inr h
  clear hAe
  have hS : va_S A s.heap s.heap [] := va_S.rf
  replace hP : va_P G vwCl [(h0, .inr (7, [.ref k0, .ref h1, .int i0])), (h1, aI cI 181 f1)] s.heap := hP
  have hl := lv_entry ([.ref h0, .int p0, .int p1]) (n := 3) (Nat.le_of_ble_eq_true rfl)
  rw [lg_entry_eq]
  generalize (lg_sl ([.ref h0, .int p0, .int p1]) ++ List.replicate (3 - (lg_sl ([.ref h0, .int p0, .int p1])).length) Slot.unset).toArray = ls at hl ⊢
  replace hl : lv_has ls 3 [(0, .ref h0), (1, .int p0), (2, .int p1)] := hl
  refine lv_iload_n hx hb dX7_has_0 rfl (lv_at hl 1 rfl) ?_
  refine lv_if_lt (tgt := 29) hx hb dX7_has_1 (by decide) (fun c15 => ?_) (fun c15 => ?_)
  · refine lv_iconst (v := 0) hx hb dX7_has_29 (by decide) ?_
    have hP9 : va_P G vwCl [(h0, .inr (7, [.ref k0, .ref h1, .int i0])), (h1, aI cI 181 f1)] s.heap := hP.sub [0, 1] rfl
    have hD9 : va_D A [(h0, .inr (7, [.ref k0, .ref h1, .int i0])), (h1, aI cI 181 f1)] := hD.sub [0, 1] (by decide) rfl
    exact W.zret (v := 0) hx hb hr rfl (fun t ht hW => ⟨⟨_, (), rfl, Or.inl ⟨c15, rfl, trivial⟩, by rw [ht]; exact hP9, hD9⟩, hS.F ht⟩) hS.2.2 dX7_has_30
  · refine lv_iload_n hx hb dX7_has_4 rfl (lv_at hl 1 rfl) ?_
    refine lv_aload_n hx hb dX7_has_5 rfl (lv_at hl 0 rfl) ?_
    refine va_get (D := G) (ci := 7) (v := .int i0) (C := RX7) (T := TX7) (N := 3) hx hb hts xinX7 hown hK hP 0 rfl rfl 2 (by decide) (hts _ wn_4) (fun _ h9 => h9) rfl dX7_has_6 ?_
    refine lv_icmp_ge (tgt := 29) hx hb dX7_has_9 (by decide) (fun c16 => ?_) (fun c16 => ?_)
    · refine lv_iconst (v := 0) hx hb dX7_has_29 (by decide) ?_
      have hP9 : va_P G vwCl [(h0, .inr (7, [.ref k0, .ref h1, .int i0])), (h1, aI cI 181 f1)] s.heap := hP.sub [0, 1] rfl
      have hD9 : va_D A [(h0, .inr (7, [.ref k0, .ref h1, .int i0])), (h1, aI cI 181 f1)] := hD.sub [0, 1] (by decide) rfl
      exact W.zret (v := 0) hx hb hr rfl (fun t ht hW => ⟨⟨_, (), rfl, Or.inr (Or.inl ⟨c15, c16, rfl, trivial⟩), by rw [ht]; exact hP9, hD9⟩, hS.F ht⟩) hS.2.2 dX7_has_30
    · refine lv_iload_n hx hb dX7_has_12 rfl (lv_at hl 2 rfl) ?_
      refine lv_if_lt (tgt := 29) hx hb dX7_has_13 (by decide) (fun c17 => ?_) (fun c17 => ?_)
      · refine lv_iconst (v := 0) hx hb dX7_has_29 (by decide) ?_
        have hP9 : va_P G vwCl [(h0, .inr (7, [.ref k0, .ref h1, .int i0])), (h1, aI cI 181 f1)] s.heap := hP.sub [0, 1] rfl
        have hD9 : va_D A [(h0, .inr (7, [.ref k0, .ref h1, .int i0])), (h1, aI cI 181 f1)] := hD.sub [0, 1] (by decide) rfl
        exact W.zret (v := 0) hx hb hr rfl (fun t ht hW => ⟨⟨_, (), rfl, Or.inr (Or.inr (Or.inl ⟨c15, c16, c17, rfl, trivial⟩)), by rw [ht]; exact hP9, hD9⟩, hS.F ht⟩) hS.2.2 dX7_has_30
      · refine lv_iload_n hx hb dX7_has_16 rfl (lv_at hl 2 rfl) ?_
        refine lv_aload_n hx hb dX7_has_17 rfl (lv_at hl 0 rfl) ?_
        refine lv_iload_n hx hb dX7_has_18 rfl (lv_at hl 1 rfl) ?_
        refine xci (wr := []) (va_runV (As := [.int p0]) (rest := [.int p1]) ⟨hx, hb, hml, hown, hts⟩ (nX7_size l G cI cJ cZ h0 h1 k0 s.heap.size i0 f1 p0 (hy0 c15 c16 c17) (hy1 c15 c16 c17)) (cwV 1 hts (xgoodV wn_6 wn_7 wn_8 wn_9 wn_10) rfl rfl rfl (by decide +kernel) ⟨Nat.le_of_ble_eq_true rfl, Nat.le_of_ble_eq_true rfl⟩) (xPreV (q := (RX7, TX7, 3)) (q0 := 0) hK hN hP hD [0, 1] (by decide) rfl rfl rfl) rfl rfl hl.1 rfl (lv_room (Nat.le_of_ble_eq_true rfl)) dX7_has_19 ⟨Nat.le_of_ble_eq_true rfl, Nat.le_of_ble_eq_true rfl⟩) hP hD hS hA [0, 1] [] rfl rfl (by decide) (by decide) (fun r1 u1 H locs hw hP hD hS => ?_)
        obtain ⟨rfl, -⟩ := hw
        replace hP : va_P G vwCl [(h0, .inr (7, [.ref k0, .ref h1, .int i0])), (h1, aI cI 181 f1)] H := hP
        replace hD : va_D A [(h0, .inr (7, [.ref k0, .ref h1, .int i0])), (h1, aI cI 181 f1)] := hD
        refine lv_icmp_ge (tgt := 29) hx hb dX7_has_22 (by decide) (fun c18 => ?_) (fun c18 => ?_)
        · refine lv_iconst (v := 0) hx hb dX7_has_29 (by decide) ?_
          have hP9 : va_P G vwCl [(h0, .inr (7, [.ref k0, .ref h1, .int i0])), (h1, aI cI 181 f1)] H := hP.sub [0, 1] rfl
          have hD9 : va_D A [(h0, .inr (7, [.ref k0, .ref h1, .int i0])), (h1, aI cI 181 f1)] := hD.sub [0, 1] (by decide) rfl
          exact W.zret (v := 0) hx hb hr rfl (fun t ht hW => ⟨⟨_, (), rfl, Or.inr (Or.inr (Or.inr (Or.inl ⟨c15, c16, c17, c18, rfl, trivial⟩))), by rw [ht]; exact hP9, hD9⟩, hS.F ht⟩) hS.2.2 dX7_has_30
        · refine lv_iconst (v := 1) hx hb dX7_has_25 (by decide) ?_
          refine lv_goto (tgt := 30) hx hb dX7_has_26 (by decide) ?_
          have hP9 : va_P G vwCl [(h0, .inr (7, [.ref k0, .ref h1, .int i0])), (h1, aI cI 181 f1)] H := hP.sub [0, 1] rfl
          have hD9 : va_D A [(h0, .inr (7, [.ref k0, .ref h1, .int i0])), (h1, aI cI 181 f1)] := hD.sub [0, 1] (by decide) rfl
          exact W.zret (v := 1) hx hb hr rfl (fun t ht hW => ⟨⟨_, (), rfl, Or.inr (Or.inr (Or.inr (Or.inr (⟨c15, c16, c17, c18, rfl, trivial⟩)))), by rw [ht]; exact hP9, hD9⟩, hS.F ht⟩) hS.2.2 dX7_has_30
set_option maxHeartbeats 4000000 in
set_option maxRecDepth 100000 in
theorem nX7_get (l : Launch) (G : va_G) (cI cJ cZ : ClassId) (h0 h1 h2 sz : Nat) (i0 : Int32) (f1 : Nat → Int32) (f2 : Nat → Int32) (p0 : Int32) (p1 : Int32) (hy0 : vp_in p0 181) (hy1 : vp_in ((f1 (Int32.toNatClampNeg p0)) + p1) 160) : Met l yX7_get (xw yX7_get cX7_get 3 (some .int)) ({ frames := 0, cells := 0, slots := 0, locals := 0 }) (xPc G cI cJ cZ [.ref h0, .int p0, .int p1] [(h0, .inr (7, [.ref h2, .ref h1, .int i0])), (h1, aI cI 181 f1), (h2, aI cI 160 f2)] sz) (va_Qi (fun (r : Int32) (u : Unit) => (r = (f2 (Int32.toNatClampNeg ((f1 (Int32.toNatClampNeg p0)) + p1))) ∧ True)) (fun (u : Unit) t => xB G (va_A [(h0, .inr (7, [.ref h2, .ref h1, .int i0])), (h1, aI cI 181 f1), (h2, aI cI 160 f2)] sz) [(h0, .inr (7, [.ref h2, .ref h1, .int i0])), (h1, aI cI 181 f1), (h2, aI cI 160 f2)] t) (va_A [(h0, .inr (7, [.ref h2, .ref h1, .int i0])), (h1, aI cI 181 f1), (h2, aI cI 160 f2)] sz)) 0 0 (va_A [(h0, .inr (7, [.ref h2, .ref h1, .int i0])), (h1, aI cI 181 f1), (h2, aI cI 160 f2)] sz) := by
  refine Met.ofW (cc := cX7_get) (maxL := 3) (ret := (some .int)) (by decide) rfl ?_
  intro p e s m args below meth c s₁ B hml hv
  obtain ⟨rfl, hsz, hP, hK, hD0, hN⟩ := hv
  have hx := B.exec
  have hb := B.bytes
  have hr := B.returns
  have hts : ∀ w ∈ xW, w.before _ s = true := fun w h => atoms_spec (ws := xw yX7_get cX7_get 3 (some .int)) B.pre w (List.mem_cons_of_mem _ h)
  have hown : s.vm.findClass RX7 = some m.cls := findClass_of_methodNamed B.named
  have hlocks := B.notSynchronized
  subst hsz
  have hD := hD0.self (sz := s.heap.size)
  clear hD0
  generalize hAe : va_A [(h0, .inr (7, [.ref h2, .ref h1, .int i0])), (h1, aI cI 181 f1), (h2, aI cI 160 f2)] s.heap.size = A at hD ⊢
  have hA : ∀ q : Nat, s.heap.size ≤ q → A q := fun q h => by rw [← hAe]; exact Or.inr h
  clear hAe
  have hS : va_S A s.heap s.heap [] := va_S.rf
  replace hP : va_P G vwCl [(h0, .inr (7, [.ref h2, .ref h1, .int i0])), (h1, aI cI 181 f1), (h2, aI cI 160 f2)] s.heap := hP
  have hl := lv_entry ([.ref h0, .int p0, .int p1]) (n := 3) (Nat.le_of_ble_eq_true rfl)
  rw [lg_entry_eq]
  generalize (lg_sl ([.ref h0, .int p0, .int p1]) ++ List.replicate (3 - (lg_sl ([.ref h0, .int p0, .int p1])).length) Slot.unset).toArray = ls at hl ⊢
  replace hl : lv_has ls 3 [(0, .ref h0), (1, .int p0), (2, .int p1)] := hl
  refine lv_aload_n hx hb dX7_get_0 rfl (lv_at hl 0 rfl) ?_
  refine va_get (D := G) (ci := 7) (v := .ref h2) (C := RX7) (T := TX7) (N := 3) hx hb hts xinX7 hown hK hP 0 rfl rfl 0 (by decide) (hts _ wn_11) (fun _ h9 => h9) rfl dX7_get_1 ?_
  refine lv_aload_n hx hb dX7_get_4 rfl (lv_at hl 0 rfl) ?_
  refine va_get (D := G) (ci := 7) (v := .ref h1) (C := RX7) (T := TX7) (N := 3) hx hb hts xinX7 hown hK hP 0 rfl rfl 1 (by decide) (hts _ wn_5) (fun _ h9 => h9) rfl dX7_get_5 ?_
  refine lv_iload_n hx hb dX7_get_8 rfl (lv_at hl 1 rfl) ?_
  refine va_iald hx hb hK hP 1 0 rfl rfl hy0 dX7_get_9 ?_
  refine lv_iload_n hx hb dX7_get_10 rfl (lv_at hl 2 rfl) ?_
  refine lv_iadd hx hb dX7_get_11 ?_
  refine va_iald hx hb hK hP 2 0 rfl rfl hy1 dX7_get_12 ?_
  have hP9 : va_P G vwCl [(h0, .inr (7, [.ref h2, .ref h1, .int i0])), (h1, aI cI 181 f1), (h2, aI cI 160 f2)] s.heap := hP.sub [0, 1, 2] rfl
  have hD9 : va_D A [(h0, .inr (7, [.ref h2, .ref h1, .int i0])), (h1, aI cI 181 f1), (h2, aI cI 160 f2)] := hD.sub [0, 1, 2] (by decide) rfl
  exact W.iret (v := (f2 (Int32.toNatClampNeg ((f1 (Int32.toNatClampNeg p0)) + p1)))) hx hb hr (fun t ht hW => ⟨⟨_, (), rfl, ⟨rfl, trivial⟩, by rw [ht]; exact hP9, hD9⟩, hS.F ht⟩) hS.2.2 dX7_get_13
set_option maxHeartbeats 4000000 in
set_option maxRecDepth 100000 in
theorem nX7_exchange (l : Launch) (G : va_G) (cI cJ cZ : ClassId) (h0 h1 h2 sz : Nat) (i0 : Int32) (f1 : Nat → Int32) (f2 : Nat → Int32) (p0 : Int32) (p1 : Int32) (p2 : Int32) (hy0 : vp_in p0 181) (hy1 : vp_in ((f1 (Int32.toNatClampNeg p0)) + p1) 160) (hy2 : vp_in ((f1 (Int32.toNatClampNeg p0)) + p2) 160) : Met l yX7_exchange (xw yX7_exchange cX7_exchange 5 none) ({ frames := 0, cells := 0, slots := 0, locals := 0 }) (xPc G cI cJ cZ [.ref h0, .int p0, .int p1, .int p2] [(h0, .inr (7, [.ref h2, .ref h1, .int i0])), (h1, aI cI 181 f1), (h2, aI cI 160 f2)] sz) (va_Qv (fun (u : Unit) => (True)) (fun (u : Unit) t => xB G (va_A [(h0, .inr (7, [.ref h2, .ref h1, .int i0])), (h1, aI cI 181 f1), (h2, aI cI 160 f2)] sz) [(h0, .inr (7, [.ref h2, .ref h1, .int i0])), (h1, aI cI 181 f1), (h2, aI cI 160 (upd (upd f2 (Int32.toNatClampNeg ((f1 (Int32.toNatClampNeg p0)) + p1)) (f2 (Int32.toNatClampNeg ((f1 (Int32.toNatClampNeg p0)) + p2)))) (Int32.toNatClampNeg ((f1 (Int32.toNatClampNeg p0)) + p2)) (f2 (Int32.toNatClampNeg ((f1 (Int32.toNatClampNeg p0)) + p1)))))] t) (va_A [(h0, .inr (7, [.ref h2, .ref h1, .int i0])), (h1, aI cI 181 f1), (h2, aI cI 160 f2)] sz)) 0 0 (va_A [(h0, .inr (7, [.ref h2, .ref h1, .int i0])), (h1, aI cI 181 f1), (h2, aI cI 160 f2)] sz) := by
  refine Met.ofW (cc := cX7_exchange) (maxL := 5) (ret := none) (by decide) rfl ?_
  intro p e s m args below meth c s₁ B hml hv
  obtain ⟨rfl, hsz, hP, hK, hD0, hN⟩ := hv
  have hx := B.exec
  have hb := B.bytes
  have hr := B.returns
  have hts : ∀ w ∈ xW, w.before _ s = true := fun w h => atoms_spec (ws := xw yX7_exchange cX7_exchange 5 none) B.pre w (List.mem_cons_of_mem _ h)
  have hown : s.vm.findClass RX7 = some m.cls := findClass_of_methodNamed B.named
  have hlocks := B.notSynchronized
  subst hsz
  have hD := hD0.self (sz := s.heap.size)
  clear hD0
  generalize hAe : va_A [(h0, .inr (7, [.ref h2, .ref h1, .int i0])), (h1, aI cI 181 f1), (h2, aI cI 160 f2)] s.heap.size = A at hD ⊢
  have hA : ∀ q : Nat, s.heap.size ≤ q → A q := fun q h => by rw [← hAe]; exact Or.inr h
  clear hAe
  have hS : va_S A s.heap s.heap [] := va_S.rf
  replace hP : va_P G vwCl [(h0, .inr (7, [.ref h2, .ref h1, .int i0])), (h1, aI cI 181 f1), (h2, aI cI 160 f2)] s.heap := hP
  have hl := lv_entry ([.ref h0, .int p0, .int p1, .int p2]) (n := 5) (Nat.le_of_ble_eq_true rfl)
  rw [lg_entry_eq]
  generalize (lg_sl ([.ref h0, .int p0, .int p1, .int p2]) ++ List.replicate (5 - (lg_sl ([.ref h0, .int p0, .int p1, .int p2])).length) Slot.unset).toArray = ls at hl ⊢
  replace hl : lv_has ls 5 [(0, .ref h0), (1, .int p0), (2, .int p1), (3, .int p2)] := hl
  refine lv_aload_n hx hb dX7_exchange_0 rfl (lv_at hl 0 rfl) ?_
  refine va_get (D := G) (ci := 7) (v := .ref h2) (C := RX7) (T := TX7) (N := 3) hx hb hts xinX7 hown hK hP 0 rfl rfl 0 (by decide) (hts _ wn_11) (fun _ h9 => h9) rfl dX7_exchange_1 ?_
  refine lv_aload_n hx hb dX7_exchange_4 rfl (lv_at hl 0 rfl) ?_
  refine va_get (D := G) (ci := 7) (v := .ref h1) (C := RX7) (T := TX7) (N := 3) hx hb hts xinX7 hown hK hP 0 rfl rfl 1 (by decide) (hts _ wn_5) (fun _ h9 => h9) rfl dX7_exchange_5 ?_
  refine lv_iload_n hx hb dX7_exchange_8 rfl (lv_at hl 1 rfl) ?_
  refine va_iald hx hb hK hP 1 0 rfl rfl hy0 dX7_exchange_9 ?_
  refine lv_iload_n hx hb dX7_exchange_10 rfl (lv_at hl 2 rfl) ?_
  refine lv_iadd hx hb dX7_exchange_11 ?_
  refine va_iald hx hb hK hP 2 0 rfl rfl hy1 dX7_exchange_12 ?_
  refine lv_istore (lv' := [(4, .int (f2 (Int32.toNatClampNeg ((f1 (Int32.toNatClampNeg p0)) + p1)))), (0, .ref h0), (1, .int p0), (2, .int p1), (3, .int p2)]) hx hb dX7_exchange_13 hl (by decide) rfl (fun ls hl => ?_)
  refine lv_aload_n hx hb dX7_exchange_15 rfl (lv_at hl 1 rfl) ?_
  refine va_get (D := G) (ci := 7) (v := .ref h2) (C := RX7) (T := TX7) (N := 3) hx hb hts xinX7 hown hK hP 0 rfl rfl 0 (by decide) (hts _ wn_11) (fun _ h9 => h9) rfl dX7_exchange_16 ?_
  refine lv_aload_n hx hb dX7_exchange_19 rfl (lv_at hl 1 rfl) ?_
  refine va_get (D := G) (ci := 7) (v := .ref h1) (C := RX7) (T := TX7) (N := 3) hx hb hts xinX7 hown hK hP 0 rfl rfl 1 (by decide) (hts _ wn_5) (fun _ h9 => h9) rfl dX7_exchange_20 ?_
  refine lv_iload_n hx hb dX7_exchange_23 rfl (lv_at hl 2 rfl) ?_
  refine va_iald hx hb hK hP 1 0 rfl rfl hy0 dX7_exchange_24 ?_
  refine lv_iload_n hx hb dX7_exchange_25 rfl (lv_at hl 3 rfl) ?_
  refine lv_iadd hx hb dX7_exchange_26 ?_
  refine lv_aload_n hx hb dX7_exchange_27 rfl (lv_at hl 1 rfl) ?_
  refine va_get (D := G) (ci := 7) (v := .ref h2) (C := RX7) (T := TX7) (N := 3) hx hb hts xinX7 hown hK hP 0 rfl rfl 0 (by decide) (hts _ wn_11) (fun _ h9 => h9) rfl dX7_exchange_28 ?_
  refine lv_aload_n hx hb dX7_exchange_31 rfl (lv_at hl 1 rfl) ?_
  refine va_get (D := G) (ci := 7) (v := .ref h1) (C := RX7) (T := TX7) (N := 3) hx hb hts xinX7 hown hK hP 0 rfl rfl 1 (by decide) (hts _ wn_5) (fun _ h9 => h9) rfl dX7_exchange_32 ?_
  refine lv_iload_n hx hb dX7_exchange_35 rfl (lv_at hl 2 rfl) ?_
  refine va_iald hx hb hK hP 1 0 rfl rfl hy0 dX7_exchange_36 ?_
  refine lv_iload_n hx hb dX7_exchange_37 rfl (lv_at hl 4 rfl) ?_
  refine lv_iadd hx hb dX7_exchange_38 ?_
  refine va_iald hx hb hK hP 2 0 rfl rfl hy2 dX7_exchange_39 ?_
  refine va_iast hx hb hK hP hD hS 2 0 rfl rfl hy1 dX7_exchange_40 (fun H locs hP hD hS => ?_)
  replace hP : va_P G vwCl [(h0, .inr (7, [.ref h2, .ref h1, .int i0])), (h1, aI cI 181 f1), (h2, aI cI 160 (upd f2 (Int32.toNatClampNeg ((f1 (Int32.toNatClampNeg p0)) + p1)) (f2 (Int32.toNatClampNeg ((f1 (Int32.toNatClampNeg p0)) + p2)))))] H := hP
  replace hD : va_D A [(h0, .inr (7, [.ref h2, .ref h1, .int i0])), (h1, aI cI 181 f1), (h2, aI cI 160 (upd f2 (Int32.toNatClampNeg ((f1 (Int32.toNatClampNeg p0)) + p1)) (f2 (Int32.toNatClampNeg ((f1 (Int32.toNatClampNeg p0)) + p2)))))] := hD
  refine lv_aload_n hx hb dX7_exchange_41 rfl (lv_at hl 1 rfl) ?_
  refine va_get (D := G) (ci := 7) (v := .ref h2) (C := RX7) (T := TX7) (N := 3) hx hb hts xinX7 hown hK hP 0 rfl rfl 0 (by decide) (hts _ wn_11) (fun _ h9 => h9) rfl dX7_exchange_42 ?_
  refine lv_aload_n hx hb dX7_exchange_45 rfl (lv_at hl 1 rfl) ?_
  refine va_get (D := G) (ci := 7) (v := .ref h1) (C := RX7) (T := TX7) (N := 3) hx hb hts xinX7 hown hK hP 0 rfl rfl 1 (by decide) (hts _ wn_5) (fun _ h9 => h9) rfl dX7_exchange_46 ?_
  refine lv_iload_n hx hb dX7_exchange_49 rfl (lv_at hl 2 rfl) ?_
  refine va_iald hx hb hK hP 1 0 rfl rfl hy0 dX7_exchange_50 ?_
  refine lv_iload_n hx hb dX7_exchange_51 rfl (lv_at hl 4 rfl) ?_
  refine lv_iadd hx hb dX7_exchange_52 ?_
  refine lv_iload hx hb dX7_exchange_53 (lv_at hl 0 rfl) ?_
  refine va_iast hx hb hK hP hD hS 2 0 rfl rfl hy2 dX7_exchange_55 (fun H locs hP hD hS => ?_)
  replace hP : va_P G vwCl [(h0, .inr (7, [.ref h2, .ref h1, .int i0])), (h1, aI cI 181 f1), (h2, aI cI 160 (upd (upd f2 (Int32.toNatClampNeg ((f1 (Int32.toNatClampNeg p0)) + p1)) (f2 (Int32.toNatClampNeg ((f1 (Int32.toNatClampNeg p0)) + p2)))) (Int32.toNatClampNeg ((f1 (Int32.toNatClampNeg p0)) + p2)) (f2 (Int32.toNatClampNeg ((f1 (Int32.toNatClampNeg p0)) + p1)))))] H := hP
  replace hD : va_D A [(h0, .inr (7, [.ref h2, .ref h1, .int i0])), (h1, aI cI 181 f1), (h2, aI cI 160 (upd (upd f2 (Int32.toNatClampNeg ((f1 (Int32.toNatClampNeg p0)) + p1)) (f2 (Int32.toNatClampNeg ((f1 (Int32.toNatClampNeg p0)) + p2)))) (Int32.toNatClampNeg ((f1 (Int32.toNatClampNeg p0)) + p2)) (f2 (Int32.toNatClampNeg ((f1 (Int32.toNatClampNeg p0)) + p1)))))] := hD
  have hP9 : va_P G vwCl [(h0, .inr (7, [.ref h2, .ref h1, .int i0])), (h1, aI cI 181 f1), (h2, aI cI 160 (upd (upd f2 (Int32.toNatClampNeg ((f1 (Int32.toNatClampNeg p0)) + p1)) (f2 (Int32.toNatClampNeg ((f1 (Int32.toNatClampNeg p0)) + p2)))) (Int32.toNatClampNeg ((f1 (Int32.toNatClampNeg p0)) + p2)) (f2 (Int32.toNatClampNeg ((f1 (Int32.toNatClampNeg p0)) + p1)))))] H := hP.sub [0, 1, 2] rfl
  have hD9 : va_D A [(h0, .inr (7, [.ref h2, .ref h1, .int i0])), (h1, aI cI 181 f1), (h2, aI cI 160 (upd (upd f2 (Int32.toNatClampNeg ((f1 (Int32.toNatClampNeg p0)) + p1)) (f2 (Int32.toNatClampNeg ((f1 (Int32.toNatClampNeg p0)) + p2)))) (Int32.toNatClampNeg ((f1 (Int32.toNatClampNeg p0)) + p2)) (f2 (Int32.toNatClampNeg ((f1 (Int32.toNatClampNeg p0)) + p1)))))] := hD.sub [0, 1, 2] (by decide) rfl
  exact W.vret hx hb hr (fun t ht hW => ⟨⟨(), rfl, trivial, by rw [ht]; exact hP9, hD9⟩, hS.F ht⟩) hS.2.2 dX7_exchange_56
set_option maxHeartbeats 4000000 in
set_option maxRecDepth 100000 in
theorem nX2_turnOver (l : Launch) (G : va_G) (cI cJ cZ : ClassId) (h0 h1 k0 sz : Nat) (i0 : Int32) (f1 : Nat → Int32) (p0 : Int32) (p1 : Int32) (hy0 : vp_in p0 20) (hy1 : vp_in p1 20) : Met l yX2_turnOver (xw yX2_turnOver cX2_turnOver 3 none) ({ frames := 0, cells := 0, slots := 0, locals := 0 }) (xPc G cI cJ cZ [.ref h0, .int p0, .int p1] [(h0, .inr (2, [.ref k0, .ref h1, .int i0])), (h1, aI cI 20 f1)] sz) (va_Qv (fun (u : Unit) => (True)) (fun (u : Unit) t => xB G (va_A [(h0, .inr (2, [.ref k0, .ref h1, .int i0])), (h1, aI cI 20 f1)] sz) [(h0, .inr (2, [.ref k0, .ref h1, .int i0])), (h1, aI cI 20 (upd (upd f1 (Int32.toNatClampNeg p0) ((f1 (Int32.toNatClampNeg p0)) ^^^ ((1 : Int32) <<< (p1 &&& 31)))) (Int32.toNatClampNeg p1) (((upd f1 (Int32.toNatClampNeg p0) ((f1 (Int32.toNatClampNeg p0)) ^^^ ((1 : Int32) <<< (p1 &&& 31)))) (Int32.toNatClampNeg p1)) ^^^ ((1 : Int32) <<< (p0 &&& 31)))))] t) (va_A [(h0, .inr (2, [.ref k0, .ref h1, .int i0])), (h1, aI cI 20 f1)] sz)) 0 0 (va_A [(h0, .inr (2, [.ref k0, .ref h1, .int i0])), (h1, aI cI 20 f1)] sz) := by
  refine Met.ofW (cc := cX2_turnOver) (maxL := 3) (ret := none) (by decide) rfl ?_
  intro p e s m args below meth c s₁ B hml hv
  obtain ⟨rfl, hsz, hP, hK, hD0, hN⟩ := hv
  have hx := B.exec
  have hb := B.bytes
  have hr := B.returns
  have hts : ∀ w ∈ xW, w.before _ s = true := fun w h => atoms_spec (ws := xw yX2_turnOver cX2_turnOver 3 none) B.pre w (List.mem_cons_of_mem _ h)
  have hown : s.vm.findClass RX2 = some m.cls := findClass_of_methodNamed B.named
  have hlocks := B.notSynchronized
  subst hsz
  have hD := hD0.self (sz := s.heap.size)
  clear hD0
  generalize hAe : va_A [(h0, .inr (2, [.ref k0, .ref h1, .int i0])), (h1, aI cI 20 f1)] s.heap.size = A at hD ⊢
  have hA : ∀ q : Nat, s.heap.size ≤ q → A q := fun q h => by rw [← hAe]; exact Or.inr h
  clear hAe
  have hS : va_S A s.heap s.heap [] := va_S.rf
  replace hP : va_P G vwCl [(h0, .inr (2, [.ref k0, .ref h1, .int i0])), (h1, aI cI 20 f1)] s.heap := hP
  have hl := lv_entry ([.ref h0, .int p0, .int p1]) (n := 3) (Nat.le_of_ble_eq_true rfl)
  rw [lg_entry_eq]
  generalize (lg_sl ([.ref h0, .int p0, .int p1]) ++ List.replicate (3 - (lg_sl ([.ref h0, .int p0, .int p1])).length) Slot.unset).toArray = ls at hl ⊢
  replace hl : lv_has ls 3 [(0, .ref h0), (1, .int p0), (2, .int p1)] := hl
  refine lv_aload_n hx hb dX2_turnOver_0 rfl (lv_at hl 0 rfl) ?_
  refine va_get (D := G) (ci := 2) (v := .ref h1) (C := RX2) (T := TX2) (N := 3) hx hb hts xinX2 hown hK hP 0 rfl rfl 1 (by decide) (hts _ wn_12) (fun _ h9 => h9) rfl dX2_turnOver_1 ?_
  refine lv_iload_n hx hb dX2_turnOver_4 rfl (lv_at hl 1 rfl) ?_
  refine lv_dup2_11 hx hb dX2_turnOver_5 rfl rfl ?_
  refine va_iald hx hb hK hP 1 0 rfl rfl hy0 dX2_turnOver_6 ?_
  refine lv_iconst (v := 1) hx hb dX2_turnOver_7 (by decide) ?_
  refine lv_iload_n hx hb dX2_turnOver_8 rfl (lv_at hl 2 rfl) ?_
  refine lv_ishl hx hb dX2_turnOver_9 ?_
  refine lv_ixor hx hb dX2_turnOver_10 ?_
  refine va_iast hx hb hK hP hD hS 1 0 rfl rfl hy0 dX2_turnOver_11 (fun H locs hP hD hS => ?_)
  replace hP : va_P G vwCl [(h0, .inr (2, [.ref k0, .ref h1, .int i0])), (h1, aI cI 20 (upd f1 (Int32.toNatClampNeg p0) ((f1 (Int32.toNatClampNeg p0)) ^^^ ((1 : Int32) <<< (p1 &&& 31)))))] H := hP
  replace hD : va_D A [(h0, .inr (2, [.ref k0, .ref h1, .int i0])), (h1, aI cI 20 (upd f1 (Int32.toNatClampNeg p0) ((f1 (Int32.toNatClampNeg p0)) ^^^ ((1 : Int32) <<< (p1 &&& 31)))))] := hD
  refine lv_aload_n hx hb dX2_turnOver_12 rfl (lv_at hl 0 rfl) ?_
  refine va_get (D := G) (ci := 2) (v := .ref h1) (C := RX2) (T := TX2) (N := 3) hx hb hts xinX2 hown hK hP 0 rfl rfl 1 (by decide) (hts _ wn_12) (fun _ h9 => h9) rfl dX2_turnOver_13 ?_
  refine lv_iload_n hx hb dX2_turnOver_16 rfl (lv_at hl 2 rfl) ?_
  refine lv_dup2_11 hx hb dX2_turnOver_17 rfl rfl ?_
  refine va_iald hx hb hK hP 1 0 rfl rfl hy1 dX2_turnOver_18 ?_
  refine lv_iconst (v := 1) hx hb dX2_turnOver_19 (by decide) ?_
  refine lv_iload_n hx hb dX2_turnOver_20 rfl (lv_at hl 1 rfl) ?_
  refine lv_ishl hx hb dX2_turnOver_21 ?_
  refine lv_ixor hx hb dX2_turnOver_22 ?_
  refine va_iast hx hb hK hP hD hS 1 0 rfl rfl hy1 dX2_turnOver_23 (fun H locs hP hD hS => ?_)
  replace hP : va_P G vwCl [(h0, .inr (2, [.ref k0, .ref h1, .int i0])), (h1, aI cI 20 (upd (upd f1 (Int32.toNatClampNeg p0) ((f1 (Int32.toNatClampNeg p0)) ^^^ ((1 : Int32) <<< (p1 &&& 31)))) (Int32.toNatClampNeg p1) (((upd f1 (Int32.toNatClampNeg p0) ((f1 (Int32.toNatClampNeg p0)) ^^^ ((1 : Int32) <<< (p1 &&& 31)))) (Int32.toNatClampNeg p1)) ^^^ ((1 : Int32) <<< (p0 &&& 31)))))] H := hP
  replace hD : va_D A [(h0, .inr (2, [.ref k0, .ref h1, .int i0])), (h1, aI cI 20 (upd (upd f1 (Int32.toNatClampNeg p0) ((f1 (Int32.toNatClampNeg p0)) ^^^ ((1 : Int32) <<< (p1 &&& 31)))) (Int32.toNatClampNeg p1) (((upd f1 (Int32.toNatClampNeg p0) ((f1 (Int32.toNatClampNeg p0)) ^^^ ((1 : Int32) <<< (p1 &&& 31)))) (Int32.toNatClampNeg p1)) ^^^ ((1 : Int32) <<< (p0 &&& 31)))))] := hD
  have hP9 : va_P G vwCl [(h0, .inr (2, [.ref k0, .ref h1, .int i0])), (h1, aI cI 20 (upd (upd f1 (Int32.toNatClampNeg p0) ((f1 (Int32.toNatClampNeg p0)) ^^^ ((1 : Int32) <<< (p1 &&& 31)))) (Int32.toNatClampNeg p1) (((upd f1 (Int32.toNatClampNeg p0) ((f1 (Int32.toNatClampNeg p0)) ^^^ ((1 : Int32) <<< (p1 &&& 31)))) (Int32.toNatClampNeg p1)) ^^^ ((1 : Int32) <<< (p0 &&& 31)))))] H := hP.sub [0, 1] rfl
  have hD9 : va_D A [(h0, .inr (2, [.ref k0, .ref h1, .int i0])), (h1, aI cI 20 (upd (upd f1 (Int32.toNatClampNeg p0) ((f1 (Int32.toNatClampNeg p0)) ^^^ ((1 : Int32) <<< (p1 &&& 31)))) (Int32.toNatClampNeg p1) (((upd f1 (Int32.toNatClampNeg p0) ((f1 (Int32.toNatClampNeg p0)) ^^^ ((1 : Int32) <<< (p1 &&& 31)))) (Int32.toNatClampNeg p1)) ^^^ ((1 : Int32) <<< (p0 &&& 31)))))] := hD.sub [0, 1] (by decide) rfl
  exact W.vret hx hb hr (fun t ht hW => ⟨⟨(), rfl, trivial, by rw [ht]; exact hP9, hD9⟩, hS.F ht⟩) hS.2.2 dX2_turnOver_24
set_option maxHeartbeats 4000000 in
set_option maxRecDepth 100000 in
theorem nX6_behind (l : Launch) (G : va_G) (cI cJ cZ : ClassId) (h0 h1 k0 k1 sz : Nat) (f0 : Nat → Int32) (p0 : Int32) (p1 : Int32) (hy0 : (¬ p1 < 0) → (¬ 20 ≤ p1) → vp_in ((p0 * 20) + p1) 400) : Met l yX6_behind (xw yX6_behind cX6_behind 3 (some .int)) ({ frames := 0, cells := 0, slots := 0, locals := 0 }) (xPc G cI cJ cZ [.ref h0, .int p0, .int p1] [(h0, .inr (6, [.ref k0, .ref k1, .ref h1])), (h1, aI cI 400 f0)] sz) (va_Qi (fun (r : Int32) (u : Unit) => (p1 < 0 ∧ r = (-1) ∧ True) ∨ (¬ p1 < 0 ∧ 20 ≤ p1 ∧ r = (-1) ∧ True) ∨ (¬ p1 < 0 ∧ ¬ 20 ≤ p1 ∧ r = (f0 (Int32.toNatClampNeg ((p0 * 20) + p1))) ∧ True)) (fun (u : Unit) t => xB G (va_A [(h0, .inr (6, [.ref k0, .ref k1, .ref h1])), (h1, aI cI 400 f0)] sz) [(h0, .inr (6, [.ref k0, .ref k1, .ref h1])), (h1, aI cI 400 f0)] t) (va_A [(h0, .inr (6, [.ref k0, .ref k1, .ref h1])), (h1, aI cI 400 f0)] sz)) 0 0 (va_A [(h0, .inr (6, [.ref k0, .ref k1, .ref h1])), (h1, aI cI 400 f0)] sz) := by
  refine Met.ofW (cc := cX6_behind) (maxL := 3) (ret := (some .int)) (by decide) rfl ?_
  intro p e s m args below meth c s₁ B hml hv
  obtain ⟨rfl, hsz, hP, hK, hD0, hN⟩ := hv
  have hx := B.exec
  have hb := B.bytes
  have hr := B.returns
  have hts : ∀ w ∈ xW, w.before _ s = true := fun w h => atoms_spec (ws := xw yX6_behind cX6_behind 3 (some .int)) B.pre w (List.mem_cons_of_mem _ h)
  have hown : s.vm.findClass RX6 = some m.cls := findClass_of_methodNamed B.named
  have hlocks := B.notSynchronized
  subst hsz
  have hD := hD0.self (sz := s.heap.size)
  clear hD0
  generalize hAe : va_A [(h0, .inr (6, [.ref k0, .ref k1, .ref h1])), (h1, aI cI 400 f0)] s.heap.size = A at hD ⊢
  have hA : ∀ q : Nat, s.heap.size ≤ q → A q := fun q h => by rw [← hAe]; exact Or.inr h
  clear hAe
  have hS : va_S A s.heap s.heap [] := va_S.rf
  replace hP : va_P G vwCl [(h0, .inr (6, [.ref k0, .ref k1, .ref h1])), (h1, aI cI 400 f0)] s.heap := hP
  have hl := lv_entry ([.ref h0, .int p0, .int p1]) (n := 3) (Nat.le_of_ble_eq_true rfl)
  rw [lg_entry_eq]
  generalize (lg_sl ([.ref h0, .int p0, .int p1]) ++ List.replicate (3 - (lg_sl ([.ref h0, .int p0, .int p1])).length) Slot.unset).toArray = ls at hl ⊢
  replace hl : lv_has ls 3 [(0, .ref h0), (1, .int p0), (2, .int p1)] := hl
  refine lv_iload_n hx hb dX6_behind_0 rfl (lv_at hl 2 rfl) ?_
  refine lv_if_lt (tgt := 24) hx hb dX6_behind_1 (by decide) (fun c19 => ?_) (fun c19 => ?_)
  · refine lv_iconst (v := (-1)) hx hb dX6_behind_24 (by decide) ?_
    have hP9 : va_P G vwCl [(h0, .inr (6, [.ref k0, .ref k1, .ref h1])), (h1, aI cI 400 f0)] s.heap := hP.sub [0, 1] rfl
    have hD9 : va_D A [(h0, .inr (6, [.ref k0, .ref k1, .ref h1])), (h1, aI cI 400 f0)] := hD.sub [0, 1] (by decide) rfl
    exact W.iret (v := (-1)) hx hb hr (fun t ht hW => ⟨⟨_, (), rfl, Or.inl ⟨c19, rfl, trivial⟩, by rw [ht]; exact hP9, hD9⟩, hS.F ht⟩) hS.2.2 dX6_behind_25
  · refine lv_iload_n hx hb dX6_behind_4 rfl (lv_at hl 2 rfl) ?_
    refine lv_bipush (v := 20) hx hb dX6_behind_5 (by decide) ?_
    refine lv_icmp_ge (tgt := 24) hx hb dX6_behind_7 (by decide) (fun c20 => ?_) (fun c20 => ?_)
    · refine lv_iconst (v := (-1)) hx hb dX6_behind_24 (by decide) ?_
      have hP9 : va_P G vwCl [(h0, .inr (6, [.ref k0, .ref k1, .ref h1])), (h1, aI cI 400 f0)] s.heap := hP.sub [0, 1] rfl
      have hD9 : va_D A [(h0, .inr (6, [.ref k0, .ref k1, .ref h1])), (h1, aI cI 400 f0)] := hD.sub [0, 1] (by decide) rfl
      exact W.iret (v := (-1)) hx hb hr (fun t ht hW => ⟨⟨_, (), rfl, Or.inr (Or.inl ⟨c19, c20, rfl, trivial⟩), by rw [ht]; exact hP9, hD9⟩, hS.F ht⟩) hS.2.2 dX6_behind_25
    · refine lv_aload_n hx hb dX6_behind_10 rfl (lv_at hl 0 rfl) ?_
      refine va_get (D := G) (ci := 6) (v := .ref h1) (C := RX6) (T := TX6) (N := 3) hx hb hts xinX6 hown hK hP 0 rfl rfl 2 (by decide) (hts _ wn_13) (fun _ h9 => h9) rfl dX6_behind_11 ?_
      refine lv_iload_n hx hb dX6_behind_14 rfl (lv_at hl 1 rfl) ?_
      refine lv_bipush (v := 20) hx hb dX6_behind_15 (by decide) ?_
      refine lv_imul hx hb dX6_behind_17 ?_
      refine lv_iload_n hx hb dX6_behind_18 rfl (lv_at hl 2 rfl) ?_
      refine lv_iadd hx hb dX6_behind_19 ?_
      refine va_iald hx hb hK hP 1 0 rfl rfl (hy0 c19 c20) dX6_behind_20 ?_
      refine lv_goto (tgt := 25) hx hb dX6_behind_21 (by decide) ?_
      have hP9 : va_P G vwCl [(h0, .inr (6, [.ref k0, .ref k1, .ref h1])), (h1, aI cI 400 f0)] s.heap := hP.sub [0, 1] rfl
      have hD9 : va_D A [(h0, .inr (6, [.ref k0, .ref k1, .ref h1])), (h1, aI cI 400 f0)] := hD.sub [0, 1] (by decide) rfl
      exact W.iret (v := (f0 (Int32.toNatClampNeg ((p0 * 20) + p1)))) hx hb hr (fun t ht hW => ⟨⟨_, (), rfl, Or.inr (Or.inr (⟨c19, c20, rfl, trivial⟩)), by rw [ht]; exact hP9, hD9⟩, hS.F ht⟩) hS.2.2 dX6_behind_25
set_option maxHeartbeats 4000000 in
set_option maxRecDepth 100000 in
theorem nX6_thirdsOf (l : Launch) (G : va_G) (cI cJ cZ : ClassId) (h0 h1 k0 k1 sz : Nat) (f0 : Nat → Int32) (p0 : Int32) (p1 : Int32) (hy0 : vp_in ((p0 * 20) + p1) 400) : Met l yX6_thirdsOf (xw yX6_thirdsOf cX6_thirdsOf 3 (some .int)) ({ frames := 0, cells := 0, slots := 0, locals := 0 }) (xPc G cI cJ cZ [.ref h0, .int p0, .int p1] [(h0, .inr (6, [.ref k0, .ref h1, .ref k1])), (h1, aI cI 400 f0)] sz) (va_Qi (fun (r : Int32) (u : Unit) => (r = (f0 (Int32.toNatClampNeg ((p0 * 20) + p1))) ∧ True)) (fun (u : Unit) t => xB G (va_A [(h0, .inr (6, [.ref k0, .ref h1, .ref k1])), (h1, aI cI 400 f0)] sz) [(h0, .inr (6, [.ref k0, .ref h1, .ref k1])), (h1, aI cI 400 f0)] t) (va_A [(h0, .inr (6, [.ref k0, .ref h1, .ref k1])), (h1, aI cI 400 f0)] sz)) 0 0 (va_A [(h0, .inr (6, [.ref k0, .ref h1, .ref k1])), (h1, aI cI 400 f0)] sz) := by
  refine Met.ofW (cc := cX6_thirdsOf) (maxL := 3) (ret := (some .int)) (by decide) rfl ?_
  intro p e s m args below meth c s₁ B hml hv
  obtain ⟨rfl, hsz, hP, hK, hD0, hN⟩ := hv
  have hx := B.exec
  have hb := B.bytes
  have hr := B.returns
  have hts : ∀ w ∈ xW, w.before _ s = true := fun w h => atoms_spec (ws := xw yX6_thirdsOf cX6_thirdsOf 3 (some .int)) B.pre w (List.mem_cons_of_mem _ h)
  have hown : s.vm.findClass RX6 = some m.cls := findClass_of_methodNamed B.named
  have hlocks := B.notSynchronized
  subst hsz
  have hD := hD0.self (sz := s.heap.size)
  clear hD0
  generalize hAe : va_A [(h0, .inr (6, [.ref k0, .ref h1, .ref k1])), (h1, aI cI 400 f0)] s.heap.size = A at hD ⊢
  have hA : ∀ q : Nat, s.heap.size ≤ q → A q := fun q h => by rw [← hAe]; exact Or.inr h
  clear hAe
  have hS : va_S A s.heap s.heap [] := va_S.rf
  replace hP : va_P G vwCl [(h0, .inr (6, [.ref k0, .ref h1, .ref k1])), (h1, aI cI 400 f0)] s.heap := hP
  have hl := lv_entry ([.ref h0, .int p0, .int p1]) (n := 3) (Nat.le_of_ble_eq_true rfl)
  rw [lg_entry_eq]
  generalize (lg_sl ([.ref h0, .int p0, .int p1]) ++ List.replicate (3 - (lg_sl ([.ref h0, .int p0, .int p1])).length) Slot.unset).toArray = ls at hl ⊢
  replace hl : lv_has ls 3 [(0, .ref h0), (1, .int p0), (2, .int p1)] := hl
  refine lv_aload_n hx hb dX6_thirdsOf_0 rfl (lv_at hl 0 rfl) ?_
  refine va_get (D := G) (ci := 6) (v := .ref h1) (C := RX6) (T := TX6) (N := 3) hx hb hts xinX6 hown hK hP 0 rfl rfl 1 (by decide) (hts _ wn_14) (fun _ h9 => h9) rfl dX6_thirdsOf_1 ?_
  refine lv_iload_n hx hb dX6_thirdsOf_4 rfl (lv_at hl 1 rfl) ?_
  refine lv_bipush (v := 20) hx hb dX6_thirdsOf_5 (by decide) ?_
  refine lv_imul hx hb dX6_thirdsOf_7 ?_
  refine lv_iload_n hx hb dX6_thirdsOf_8 rfl (lv_at hl 2 rfl) ?_
  refine lv_iadd hx hb dX6_thirdsOf_9 ?_
  refine va_iald hx hb hK hP 1 0 rfl rfl hy0 dX6_thirdsOf_10 ?_
  have hP9 : va_P G vwCl [(h0, .inr (6, [.ref k0, .ref h1, .ref k1])), (h1, aI cI 400 f0)] s.heap := hP.sub [0, 1] rfl
  have hD9 : va_D A [(h0, .inr (6, [.ref k0, .ref h1, .ref k1])), (h1, aI cI 400 f0)] := hD.sub [0, 1] (by decide) rfl
  exact W.iret (v := (f0 (Int32.toNatClampNeg ((p0 * 20) + p1)))) hx hb hr (fun t ht hW => ⟨⟨_, (), rfl, ⟨rfl, trivial⟩, by rw [ht]; exact hP9, hD9⟩, hS.F ht⟩) hS.2.2 dX6_thirdsOf_11
set_option maxHeartbeats 4000000 in
set_option maxRecDepth 100000 in
theorem nX6_addFace (l : Launch) (G : va_G) (cI cJ cZ : ClassId) (h0 h1 k0 k1 sz : Nat) (f0 : Nat → Int32) (p0 : Int32) (p1 : Int32) (p2 : Int32) (hy0 : vp_in ((p0 * 20) + p1) 400) (hy1 : vp_in ((p1 * 20) + p0) 400) : Met l yX6_addFace (xw yX6_addFace cX6_addFace 4 none) ({ frames := 0, cells := 0, slots := 0, locals := 0 }) (xPc G cI cJ cZ [.ref h0, .int p0, .int p1, .int p2] [(h0, .inr (6, [.ref k0, .ref h1, .ref k1])), (h1, aI cI 400 f0)] sz) (va_Qv (fun (u : Unit) => (True)) (fun (u : Unit) t => xB G (va_A [(h0, .inr (6, [.ref k0, .ref h1, .ref k1])), (h1, aI cI 400 f0)] sz) [(h0, .inr (6, [.ref k0, .ref h1, .ref k1])), (h1, aI cI 400 (upd (upd f0 (Int32.toNatClampNeg ((p0 * 20) + p1)) ((f0 (Int32.toNatClampNeg ((p0 * 20) + p1))) ||| ((1 : Int32) <<< (p2 &&& 31)))) (Int32.toNatClampNeg ((p1 * 20) + p0)) (((upd f0 (Int32.toNatClampNeg ((p0 * 20) + p1)) ((f0 (Int32.toNatClampNeg ((p0 * 20) + p1))) ||| ((1 : Int32) <<< (p2 &&& 31)))) (Int32.toNatClampNeg ((p1 * 20) + p0))) ||| ((1 : Int32) <<< (p2 &&& 31)))))] t) (va_A [(h0, .inr (6, [.ref k0, .ref h1, .ref k1])), (h1, aI cI 400 f0)] sz)) 0 0 (va_A [(h0, .inr (6, [.ref k0, .ref h1, .ref k1])), (h1, aI cI 400 f0)] sz) := by
  refine Met.ofW (cc := cX6_addFace) (maxL := 4) (ret := none) (by decide) rfl ?_
  intro p e s m args below meth c s₁ B hml hv
  obtain ⟨rfl, hsz, hP, hK, hD0, hN⟩ := hv
  have hx := B.exec
  have hb := B.bytes
  have hr := B.returns
  have hts : ∀ w ∈ xW, w.before _ s = true := fun w h => atoms_spec (ws := xw yX6_addFace cX6_addFace 4 none) B.pre w (List.mem_cons_of_mem _ h)
  have hown : s.vm.findClass RX6 = some m.cls := findClass_of_methodNamed B.named
  have hlocks := B.notSynchronized
  subst hsz
  have hD := hD0.self (sz := s.heap.size)
  clear hD0
  generalize hAe : va_A [(h0, .inr (6, [.ref k0, .ref h1, .ref k1])), (h1, aI cI 400 f0)] s.heap.size = A at hD ⊢
  have hA : ∀ q : Nat, s.heap.size ≤ q → A q := fun q h => by rw [← hAe]; exact Or.inr h
  clear hAe
  have hS : va_S A s.heap s.heap [] := va_S.rf
  replace hP : va_P G vwCl [(h0, .inr (6, [.ref k0, .ref h1, .ref k1])), (h1, aI cI 400 f0)] s.heap := hP
  have hl := lv_entry ([.ref h0, .int p0, .int p1, .int p2]) (n := 4) (Nat.le_of_ble_eq_true rfl)
  rw [lg_entry_eq]
  generalize (lg_sl ([.ref h0, .int p0, .int p1, .int p2]) ++ List.replicate (4 - (lg_sl ([.ref h0, .int p0, .int p1, .int p2])).length) Slot.unset).toArray = ls at hl ⊢
  replace hl : lv_has ls 4 [(0, .ref h0), (1, .int p0), (2, .int p1), (3, .int p2)] := hl
  refine lv_aload_n hx hb dX6_addFace_0 rfl (lv_at hl 0 rfl) ?_
  refine va_get (D := G) (ci := 6) (v := .ref h1) (C := RX6) (T := TX6) (N := 3) hx hb hts xinX6 hown hK hP 0 rfl rfl 1 (by decide) (hts _ wn_14) (fun _ h9 => h9) rfl dX6_addFace_1 ?_
  refine lv_iload_n hx hb dX6_addFace_4 rfl (lv_at hl 1 rfl) ?_
  refine lv_bipush (v := 20) hx hb dX6_addFace_5 (by decide) ?_
  refine lv_imul hx hb dX6_addFace_7 ?_
  refine lv_iload_n hx hb dX6_addFace_8 rfl (lv_at hl 2 rfl) ?_
  refine lv_iadd hx hb dX6_addFace_9 ?_
  refine lv_dup2_11 hx hb dX6_addFace_10 rfl rfl ?_
  refine va_iald hx hb hK hP 1 0 rfl rfl hy0 dX6_addFace_11 ?_
  refine lv_iconst (v := 1) hx hb dX6_addFace_12 (by decide) ?_
  refine lv_iload_n hx hb dX6_addFace_13 rfl (lv_at hl 3 rfl) ?_
  refine lv_ishl hx hb dX6_addFace_14 ?_
  refine lv_ior hx hb dX6_addFace_15 ?_
  refine va_iast hx hb hK hP hD hS 1 0 rfl rfl hy0 dX6_addFace_16 (fun H locs hP hD hS => ?_)
  replace hP : va_P G vwCl [(h0, .inr (6, [.ref k0, .ref h1, .ref k1])), (h1, aI cI 400 (upd f0 (Int32.toNatClampNeg ((p0 * 20) + p1)) ((f0 (Int32.toNatClampNeg ((p0 * 20) + p1))) ||| ((1 : Int32) <<< (p2 &&& 31)))))] H := hP
  replace hD : va_D A [(h0, .inr (6, [.ref k0, .ref h1, .ref k1])), (h1, aI cI 400 (upd f0 (Int32.toNatClampNeg ((p0 * 20) + p1)) ((f0 (Int32.toNatClampNeg ((p0 * 20) + p1))) ||| ((1 : Int32) <<< (p2 &&& 31)))))] := hD
  refine lv_aload_n hx hb dX6_addFace_17 rfl (lv_at hl 0 rfl) ?_
  refine va_get (D := G) (ci := 6) (v := .ref h1) (C := RX6) (T := TX6) (N := 3) hx hb hts xinX6 hown hK hP 0 rfl rfl 1 (by decide) (hts _ wn_14) (fun _ h9 => h9) rfl dX6_addFace_18 ?_
  refine lv_iload_n hx hb dX6_addFace_21 rfl (lv_at hl 2 rfl) ?_
  refine lv_bipush (v := 20) hx hb dX6_addFace_22 (by decide) ?_
  refine lv_imul hx hb dX6_addFace_24 ?_
  refine lv_iload_n hx hb dX6_addFace_25 rfl (lv_at hl 1 rfl) ?_
  refine lv_iadd hx hb dX6_addFace_26 ?_
  refine lv_dup2_11 hx hb dX6_addFace_27 rfl rfl ?_
  refine va_iald hx hb hK hP 1 0 rfl rfl hy1 dX6_addFace_28 ?_
  refine lv_iconst (v := 1) hx hb dX6_addFace_29 (by decide) ?_
  refine lv_iload_n hx hb dX6_addFace_30 rfl (lv_at hl 3 rfl) ?_
  refine lv_ishl hx hb dX6_addFace_31 ?_
  refine lv_ior hx hb dX6_addFace_32 ?_
  refine va_iast hx hb hK hP hD hS 1 0 rfl rfl hy1 dX6_addFace_33 (fun H locs hP hD hS => ?_)
  replace hP : va_P G vwCl [(h0, .inr (6, [.ref k0, .ref h1, .ref k1])), (h1, aI cI 400 (upd (upd f0 (Int32.toNatClampNeg ((p0 * 20) + p1)) ((f0 (Int32.toNatClampNeg ((p0 * 20) + p1))) ||| ((1 : Int32) <<< (p2 &&& 31)))) (Int32.toNatClampNeg ((p1 * 20) + p0)) (((upd f0 (Int32.toNatClampNeg ((p0 * 20) + p1)) ((f0 (Int32.toNatClampNeg ((p0 * 20) + p1))) ||| ((1 : Int32) <<< (p2 &&& 31)))) (Int32.toNatClampNeg ((p1 * 20) + p0))) ||| ((1 : Int32) <<< (p2 &&& 31)))))] H := hP
  replace hD : va_D A [(h0, .inr (6, [.ref k0, .ref h1, .ref k1])), (h1, aI cI 400 (upd (upd f0 (Int32.toNatClampNeg ((p0 * 20) + p1)) ((f0 (Int32.toNatClampNeg ((p0 * 20) + p1))) ||| ((1 : Int32) <<< (p2 &&& 31)))) (Int32.toNatClampNeg ((p1 * 20) + p0)) (((upd f0 (Int32.toNatClampNeg ((p0 * 20) + p1)) ((f0 (Int32.toNatClampNeg ((p0 * 20) + p1))) ||| ((1 : Int32) <<< (p2 &&& 31)))) (Int32.toNatClampNeg ((p1 * 20) + p0))) ||| ((1 : Int32) <<< (p2 &&& 31)))))] := hD
  have hP9 : va_P G vwCl [(h0, .inr (6, [.ref k0, .ref h1, .ref k1])), (h1, aI cI 400 (upd (upd f0 (Int32.toNatClampNeg ((p0 * 20) + p1)) ((f0 (Int32.toNatClampNeg ((p0 * 20) + p1))) ||| ((1 : Int32) <<< (p2 &&& 31)))) (Int32.toNatClampNeg ((p1 * 20) + p0)) (((upd f0 (Int32.toNatClampNeg ((p0 * 20) + p1)) ((f0 (Int32.toNatClampNeg ((p0 * 20) + p1))) ||| ((1 : Int32) <<< (p2 &&& 31)))) (Int32.toNatClampNeg ((p1 * 20) + p0))) ||| ((1 : Int32) <<< (p2 &&& 31)))))] H := hP.sub [0, 1] rfl
  have hD9 : va_D A [(h0, .inr (6, [.ref k0, .ref h1, .ref k1])), (h1, aI cI 400 (upd (upd f0 (Int32.toNatClampNeg ((p0 * 20) + p1)) ((f0 (Int32.toNatClampNeg ((p0 * 20) + p1))) ||| ((1 : Int32) <<< (p2 &&& 31)))) (Int32.toNatClampNeg ((p1 * 20) + p0)) (((upd f0 (Int32.toNatClampNeg ((p0 * 20) + p1)) ((f0 (Int32.toNatClampNeg ((p0 * 20) + p1))) ||| ((1 : Int32) <<< (p2 &&& 31)))) (Int32.toNatClampNeg ((p1 * 20) + p0))) ||| ((1 : Int32) <<< (p2 &&& 31)))))] := hD.sub [0, 1] (by decide) rfl
  exact W.vret hx hb hr (fun t ht hW => ⟨⟨(), rfl, trivial, by rw [ht]; exact hP9, hD9⟩, hS.F ht⟩) hS.2.2 dX6_addFace_34
set_option maxHeartbeats 4000000 in
set_option maxRecDepth 100000 in
theorem nX6_setFace (l : Launch) (G : va_G) (cI cJ cZ : ClassId) (h0 h1 k0 k1 sz : Nat) (f0 : Nat → Int32) (p0 : Int32) (p1 : Int32) (p2 : Int32) (hy0 : vp_in ((p0 * 20) + p1) 400) (hy1 : vp_in ((p1 * 20) + p2) 400) (hy2 : vp_in ((p2 * 20) + p0) 400) : Met l yX6_setFace (xw yX6_setFace cX6_setFace 4 none) ({ frames := 0, cells := 0, slots := 0, locals := 0 }) (xPc G cI cJ cZ [.ref h0, .int p0, .int p1, .int p2] [(h0, .inr (6, [.ref k0, .ref k1, .ref h1])), (h1, aI cI 400 f0)] sz) (va_Qv (fun (u : Unit) => (True)) (fun (u : Unit) t => xB G (va_A [(h0, .inr (6, [.ref k0, .ref k1, .ref h1])), (h1, aI cI 400 f0)] sz) [(h0, .inr (6, [.ref k0, .ref k1, .ref h1])), (h1, aI cI 400 (upd (upd (upd f0 (Int32.toNatClampNeg ((p0 * 20) + p1)) p2) (Int32.toNatClampNeg ((p1 * 20) + p2)) p0) (Int32.toNatClampNeg ((p2 * 20) + p0)) p1))] t) (va_A [(h0, .inr (6, [.ref k0, .ref k1, .ref h1])), (h1, aI cI 400 f0)] sz)) 0 0 (va_A [(h0, .inr (6, [.ref k0, .ref k1, .ref h1])), (h1, aI cI 400 f0)] sz) := by
  refine Met.ofW (cc := cX6_setFace) (maxL := 4) (ret := none) (by decide) rfl ?_
  intro p e s m args below meth c s₁ B hml hv
  obtain ⟨rfl, hsz, hP, hK, hD0, hN⟩ := hv
  have hx := B.exec
  have hb := B.bytes
  have hr := B.returns
  have hts : ∀ w ∈ xW, w.before _ s = true := fun w h => atoms_spec (ws := xw yX6_setFace cX6_setFace 4 none) B.pre w (List.mem_cons_of_mem _ h)
  have hown : s.vm.findClass RX6 = some m.cls := findClass_of_methodNamed B.named
  have hlocks := B.notSynchronized
  subst hsz
  have hD := hD0.self (sz := s.heap.size)
  clear hD0
  generalize hAe : va_A [(h0, .inr (6, [.ref k0, .ref k1, .ref h1])), (h1, aI cI 400 f0)] s.heap.size = A at hD ⊢
  have hA : ∀ q : Nat, s.heap.size ≤ q → A q := fun q h => by rw [← hAe]; exact Or.inr h
  clear hAe
  have hS : va_S A s.heap s.heap [] := va_S.rf
  replace hP : va_P G vwCl [(h0, .inr (6, [.ref k0, .ref k1, .ref h1])), (h1, aI cI 400 f0)] s.heap := hP
  have hl := lv_entry ([.ref h0, .int p0, .int p1, .int p2]) (n := 4) (Nat.le_of_ble_eq_true rfl)
  rw [lg_entry_eq]
  generalize (lg_sl ([.ref h0, .int p0, .int p1, .int p2]) ++ List.replicate (4 - (lg_sl ([.ref h0, .int p0, .int p1, .int p2])).length) Slot.unset).toArray = ls at hl ⊢
  replace hl : lv_has ls 4 [(0, .ref h0), (1, .int p0), (2, .int p1), (3, .int p2)] := hl
  refine lv_aload_n hx hb dX6_setFace_0 rfl (lv_at hl 0 rfl) ?_
  refine va_get (D := G) (ci := 6) (v := .ref h1) (C := RX6) (T := TX6) (N := 3) hx hb hts xinX6 hown hK hP 0 rfl rfl 2 (by decide) (hts _ wn_13) (fun _ h9 => h9) rfl dX6_setFace_1 ?_
  refine lv_iload_n hx hb dX6_setFace_4 rfl (lv_at hl 1 rfl) ?_
  refine lv_bipush (v := 20) hx hb dX6_setFace_5 (by decide) ?_
  refine lv_imul hx hb dX6_setFace_7 ?_
  refine lv_iload_n hx hb dX6_setFace_8 rfl (lv_at hl 2 rfl) ?_
  refine lv_iadd hx hb dX6_setFace_9 ?_
  refine lv_iload_n hx hb dX6_setFace_10 rfl (lv_at hl 3 rfl) ?_
  refine va_iast hx hb hK hP hD hS 1 0 rfl rfl hy0 dX6_setFace_11 (fun H locs hP hD hS => ?_)
  replace hP : va_P G vwCl [(h0, .inr (6, [.ref k0, .ref k1, .ref h1])), (h1, aI cI 400 (upd f0 (Int32.toNatClampNeg ((p0 * 20) + p1)) p2))] H := hP
  replace hD : va_D A [(h0, .inr (6, [.ref k0, .ref k1, .ref h1])), (h1, aI cI 400 (upd f0 (Int32.toNatClampNeg ((p0 * 20) + p1)) p2))] := hD
  refine lv_aload_n hx hb dX6_setFace_12 rfl (lv_at hl 0 rfl) ?_
  refine va_get (D := G) (ci := 6) (v := .ref h1) (C := RX6) (T := TX6) (N := 3) hx hb hts xinX6 hown hK hP 0 rfl rfl 2 (by decide) (hts _ wn_13) (fun _ h9 => h9) rfl dX6_setFace_13 ?_
  refine lv_iload_n hx hb dX6_setFace_16 rfl (lv_at hl 2 rfl) ?_
  refine lv_bipush (v := 20) hx hb dX6_setFace_17 (by decide) ?_
  refine lv_imul hx hb dX6_setFace_19 ?_
  refine lv_iload_n hx hb dX6_setFace_20 rfl (lv_at hl 3 rfl) ?_
  refine lv_iadd hx hb dX6_setFace_21 ?_
  refine lv_iload_n hx hb dX6_setFace_22 rfl (lv_at hl 1 rfl) ?_
  refine va_iast hx hb hK hP hD hS 1 0 rfl rfl hy1 dX6_setFace_23 (fun H locs hP hD hS => ?_)
  replace hP : va_P G vwCl [(h0, .inr (6, [.ref k0, .ref k1, .ref h1])), (h1, aI cI 400 (upd (upd f0 (Int32.toNatClampNeg ((p0 * 20) + p1)) p2) (Int32.toNatClampNeg ((p1 * 20) + p2)) p0))] H := hP
  replace hD : va_D A [(h0, .inr (6, [.ref k0, .ref k1, .ref h1])), (h1, aI cI 400 (upd (upd f0 (Int32.toNatClampNeg ((p0 * 20) + p1)) p2) (Int32.toNatClampNeg ((p1 * 20) + p2)) p0))] := hD
  refine lv_aload_n hx hb dX6_setFace_24 rfl (lv_at hl 0 rfl) ?_
  refine va_get (D := G) (ci := 6) (v := .ref h1) (C := RX6) (T := TX6) (N := 3) hx hb hts xinX6 hown hK hP 0 rfl rfl 2 (by decide) (hts _ wn_13) (fun _ h9 => h9) rfl dX6_setFace_25 ?_
  refine lv_iload_n hx hb dX6_setFace_28 rfl (lv_at hl 3 rfl) ?_
  refine lv_bipush (v := 20) hx hb dX6_setFace_29 (by decide) ?_
  refine lv_imul hx hb dX6_setFace_31 ?_
  refine lv_iload_n hx hb dX6_setFace_32 rfl (lv_at hl 1 rfl) ?_
  refine lv_iadd hx hb dX6_setFace_33 ?_
  refine lv_iload_n hx hb dX6_setFace_34 rfl (lv_at hl 2 rfl) ?_
  refine va_iast hx hb hK hP hD hS 1 0 rfl rfl hy2 dX6_setFace_35 (fun H locs hP hD hS => ?_)
  replace hP : va_P G vwCl [(h0, .inr (6, [.ref k0, .ref k1, .ref h1])), (h1, aI cI 400 (upd (upd (upd f0 (Int32.toNatClampNeg ((p0 * 20) + p1)) p2) (Int32.toNatClampNeg ((p1 * 20) + p2)) p0) (Int32.toNatClampNeg ((p2 * 20) + p0)) p1))] H := hP
  replace hD : va_D A [(h0, .inr (6, [.ref k0, .ref k1, .ref h1])), (h1, aI cI 400 (upd (upd (upd f0 (Int32.toNatClampNeg ((p0 * 20) + p1)) p2) (Int32.toNatClampNeg ((p1 * 20) + p2)) p0) (Int32.toNatClampNeg ((p2 * 20) + p0)) p1))] := hD
  have hP9 : va_P G vwCl [(h0, .inr (6, [.ref k0, .ref k1, .ref h1])), (h1, aI cI 400 (upd (upd (upd f0 (Int32.toNatClampNeg ((p0 * 20) + p1)) p2) (Int32.toNatClampNeg ((p1 * 20) + p2)) p0) (Int32.toNatClampNeg ((p2 * 20) + p0)) p1))] H := hP.sub [0, 1] rfl
  have hD9 : va_D A [(h0, .inr (6, [.ref k0, .ref k1, .ref h1])), (h1, aI cI 400 (upd (upd (upd f0 (Int32.toNatClampNeg ((p0 * 20) + p1)) p2) (Int32.toNatClampNeg ((p1 * 20) + p2)) p0) (Int32.toNatClampNeg ((p2 * 20) + p0)) p1))] := hD.sub [0, 1] (by decide) rfl
  exact W.vret hx hb hr (fun t ht hW => ⟨⟨(), rfl, trivial, by rw [ht]; exact hP9, hD9⟩, hS.F ht⟩) hS.2.2 dX6_setFace_36
set_option maxHeartbeats 4000000 in
set_option maxRecDepth 100000 in
theorem nX5_leave (l : Launch) (G : va_G) (cI cJ cZ : ClassId) (h0 h1 h2 h3 k0 k1 k2 k3 k4 k5 k6 sz : Nat) (i0 : Int32) (i1 : Int32) (f2 : Nat → Int64) (f3 : Nat → Int64) (f4 : Nat → Int32) (p0 : Int32) (hy0 : vp_in p0 21) (hy1 : ((f4 (Int32.toNatClampNeg p0)) < 0) → vp_in p0 21) (hy2 : (¬ (f4 (Int32.toNatClampNeg p0)) < 0) → vp_in p0 21) (hy3 : (¬ (f4 (Int32.toNatClampNeg p0)) < 0) → vp_in (f4 (Int32.toNatClampNeg p0)) 21) : Met l yX5_leave (xw yX5_leave cX5_leave 2 (some .int)) ({ frames := 0, cells := 0, slots := 0, locals := 0 }) (xPc G cI cJ cZ [.ref h0, .int p0] [(h0, .inr (5, [.ref k0, .ref h3, .ref k1, .ref h2, .ref h1, .ref k2, .ref k3, .ref k4, .ref k5, .ref k6, .int i0, .int i1])), (h1, aJ cJ 21 f2), (h2, aJ cJ 21 f3), (h3, aI cI 21 f4)] sz) (va_Qi (fun (r : Int32) (u : Nat) => ((f4 (Int32.toNatClampNeg p0)) < 0 ∧ r = (f4 (Int32.toNatClampNeg p0)) ∧ u = 0 ∧ True) ∨ (¬ (f4 (Int32.toNatClampNeg p0)) < 0 ∧ r = (f4 (Int32.toNatClampNeg p0)) ∧ u = 1 ∧ True)) (fun (u : Nat) t => xB G (va_A [(h0, .inr (5, [.ref k0, .ref h3, .ref k1, .ref h2, .ref h1, .ref k2, .ref k3, .ref k4, .ref k5, .ref k6, .int i0, .int i1])), (h1, aJ cJ 21 f2), (h2, aJ cJ 21 f3), (h3, aI cI 21 f4)] sz) (match u with | 0 => [(h0, .inr (5, [.ref k0, .ref h3, .ref k1, .ref h2, .ref h1, .ref k2, .ref k3, .ref k4, .ref k5, .ref k6, .int i0, .int i1])), (h1, aJ cJ 21 (vp_updL f2 (Int32.toNatClampNeg p0) ((f2 (Int32.toNatClampNeg p0)) ||| (f3 (Int32.toNatClampNeg p0))))), (h2, aJ cJ 21 f3), (h3, aI cI 21 f4)] | _ => [(h0, .inr (5, [.ref k0, .ref h3, .ref k1, .ref h2, .ref h1, .ref k2, .ref k3, .ref k4, .ref k5, .ref k6, .int i0, .int i1])), (h1, aJ cJ 21 (vp_updL (vp_updL f2 (Int32.toNatClampNeg p0) ((f2 (Int32.toNatClampNeg p0)) ||| (f3 (Int32.toNatClampNeg p0)))) (Int32.toNatClampNeg (f4 (Int32.toNatClampNeg p0))) (((vp_updL f2 (Int32.toNatClampNeg p0) ((f2 (Int32.toNatClampNeg p0)) ||| (f3 (Int32.toNatClampNeg p0)))) (Int32.toNatClampNeg (f4 (Int32.toNatClampNeg p0)))) ||| ((vp_updL f2 (Int32.toNatClampNeg p0) ((f2 (Int32.toNatClampNeg p0)) ||| (f3 (Int32.toNatClampNeg p0)))) (Int32.toNatClampNeg p0))))), (h2, aJ cJ 21 f3), (h3, aI cI 21 f4)]) t) (va_A [(h0, .inr (5, [.ref k0, .ref h3, .ref k1, .ref h2, .ref h1, .ref k2, .ref k3, .ref k4, .ref k5, .ref k6, .int i0, .int i1])), (h1, aJ cJ 21 f2), (h2, aJ cJ 21 f3), (h3, aI cI 21 f4)] sz)) 0 0 (va_A [(h0, .inr (5, [.ref k0, .ref h3, .ref k1, .ref h2, .ref h1, .ref k2, .ref k3, .ref k4, .ref k5, .ref k6, .int i0, .int i1])), (h1, aJ cJ 21 f2), (h2, aJ cJ 21 f3), (h3, aI cI 21 f4)] sz) := by
  refine Met.ofW (cc := cX5_leave) (maxL := 2) (ret := (some .int)) (by decide) rfl ?_
  intro p e s m args below meth c s₁ B hml hv
  obtain ⟨rfl, hsz, hP, hK, hD0, hN⟩ := hv
  have hx := B.exec
  have hb := B.bytes
  have hr := B.returns
  have hts : ∀ w ∈ xW, w.before _ s = true := fun w h => atoms_spec (ws := xw yX5_leave cX5_leave 2 (some .int)) B.pre w (List.mem_cons_of_mem _ h)
  have hown : s.vm.findClass RX5 = some m.cls := findClass_of_methodNamed B.named
  have hlocks := B.notSynchronized
  subst hsz
  have hD := hD0.self (sz := s.heap.size)
  clear hD0
  generalize hAe : va_A [(h0, .inr (5, [.ref k0, .ref h3, .ref k1, .ref h2, .ref h1, .ref k2, .ref k3, .ref k4, .ref k5, .ref k6, .int i0, .int i1])), (h1, aJ cJ 21 f2), (h2, aJ cJ 21 f3), (h3, aI cI 21 f4)] s.heap.size = A at hD ⊢
  have hA : ∀ q : Nat, s.heap.size ≤ q → A q := fun q h => by rw [← hAe]; exact Or.inr h
  clear hAe
  have hS : va_S A s.heap s.heap [] := va_S.rf
  replace hP : va_P G vwCl [(h0, .inr (5, [.ref k0, .ref h3, .ref k1, .ref h2, .ref h1, .ref k2, .ref k3, .ref k4, .ref k5, .ref k6, .int i0, .int i1])), (h1, aJ cJ 21 f2), (h2, aJ cJ 21 f3), (h3, aI cI 21 f4)] s.heap := hP
  have hl := lv_entry ([.ref h0, .int p0]) (n := 2) (Nat.le_of_ble_eq_true rfl)
  rw [lg_entry_eq]
  generalize (lg_sl ([.ref h0, .int p0]) ++ List.replicate (2 - (lg_sl ([.ref h0, .int p0])).length) Slot.unset).toArray = ls at hl ⊢
  replace hl : lv_has ls 2 [(0, .ref h0), (1, .int p0)] := hl
  refine lv_aload_n hx hb dX5_leave_0 rfl (lv_at hl 0 rfl) ?_
  refine va_get (D := G) (ci := 5) (v := .ref h1) (C := RX5) (T := TX5) (N := 12) hx hb hts xinX5 hown hK hP 0 rfl rfl 4 (by decide) (hts _ wn_15) (fun _ h9 => h9) rfl dX5_leave_1 ?_
  refine lv_iload_n hx hb dX5_leave_4 rfl (lv_at hl 1 rfl) ?_
  refine lv_dup2_11 hx hb dX5_leave_5 rfl rfl ?_
  refine va_lald hx hb hK hP 1 1 rfl rfl hy0 dX5_leave_6 ?_
  refine lv_aload_n hx hb dX5_leave_7 rfl (lv_at hl 0 rfl) ?_
  refine va_get (D := G) (ci := 5) (v := .ref h2) (C := RX5) (T := TX5) (N := 12) hx hb hts xinX5 hown hK hP 0 rfl rfl 3 (by decide) (hts _ wn_16) (fun _ h9 => h9) rfl dX5_leave_8 ?_
  refine lv_iload_n hx hb dX5_leave_11 rfl (lv_at hl 1 rfl) ?_
  refine va_lald hx hb hK hP 2 1 rfl rfl hy0 dX5_leave_12 ?_
  refine lv_lor hx hb dX5_leave_13 ?_
  refine va_last hx hb hK hP hD hS 1 1 rfl rfl hy0 dX5_leave_14 (fun H locs hP hD hS => ?_)
  replace hP : va_P G vwCl [(h0, .inr (5, [.ref k0, .ref h3, .ref k1, .ref h2, .ref h1, .ref k2, .ref k3, .ref k4, .ref k5, .ref k6, .int i0, .int i1])), (h1, aJ cJ 21 (vp_updL f2 (Int32.toNatClampNeg p0) ((f2 (Int32.toNatClampNeg p0)) ||| (f3 (Int32.toNatClampNeg p0))))), (h2, aJ cJ 21 f3), (h3, aI cI 21 f4)] H := hP
  replace hD : va_D A [(h0, .inr (5, [.ref k0, .ref h3, .ref k1, .ref h2, .ref h1, .ref k2, .ref k3, .ref k4, .ref k5, .ref k6, .int i0, .int i1])), (h1, aJ cJ 21 (vp_updL f2 (Int32.toNatClampNeg p0) ((f2 (Int32.toNatClampNeg p0)) ||| (f3 (Int32.toNatClampNeg p0))))), (h2, aJ cJ 21 f3), (h3, aI cI 21 f4)] := hD
  refine lv_aload_n hx hb dX5_leave_15 rfl (lv_at hl 0 rfl) ?_
  refine va_get (D := G) (ci := 5) (v := .ref h3) (C := RX5) (T := TX5) (N := 12) hx hb hts xinX5 hown hK hP 0 rfl rfl 1 (by decide) (hts _ wn_17) (fun _ h9 => h9) rfl dX5_leave_16 ?_
  refine lv_iload_n hx hb dX5_leave_19 rfl (lv_at hl 1 rfl) ?_
  refine va_iald hx hb hK hP 3 0 rfl rfl hy0 dX5_leave_20 ?_
  refine lv_if_lt (tgt := 44) hx hb dX5_leave_21 (by decide) (fun c21 => ?_) (fun c21 => ?_)
  · refine lv_aload_n hx hb dX5_leave_44 rfl (lv_at hl 0 rfl) ?_
    refine va_get (D := G) (ci := 5) (v := .ref h3) (C := RX5) (T := TX5) (N := 12) hx hb hts xinX5 hown hK hP 0 rfl rfl 1 (by decide) (hts _ wn_17) (fun _ h9 => h9) rfl dX5_leave_45 ?_
    refine lv_iload_n hx hb dX5_leave_48 rfl (lv_at hl 1 rfl) ?_
    refine va_iald hx hb hK hP 3 0 rfl rfl (hy1 c21) dX5_leave_49 ?_
    have hP9 : va_P G vwCl [(h0, .inr (5, [.ref k0, .ref h3, .ref k1, .ref h2, .ref h1, .ref k2, .ref k3, .ref k4, .ref k5, .ref k6, .int i0, .int i1])), (h1, aJ cJ 21 (vp_updL f2 (Int32.toNatClampNeg p0) ((f2 (Int32.toNatClampNeg p0)) ||| (f3 (Int32.toNatClampNeg p0))))), (h2, aJ cJ 21 f3), (h3, aI cI 21 f4)] H := hP.sub [0, 1, 2, 3] rfl
    have hD9 : va_D A [(h0, .inr (5, [.ref k0, .ref h3, .ref k1, .ref h2, .ref h1, .ref k2, .ref k3, .ref k4, .ref k5, .ref k6, .int i0, .int i1])), (h1, aJ cJ 21 (vp_updL f2 (Int32.toNatClampNeg p0) ((f2 (Int32.toNatClampNeg p0)) ||| (f3 (Int32.toNatClampNeg p0))))), (h2, aJ cJ 21 f3), (h3, aI cI 21 f4)] := hD.sub [0, 1, 2, 3] (by decide) rfl
    exact W.iret (v := (f4 (Int32.toNatClampNeg p0))) hx hb hr (fun t ht hW => ⟨⟨_, 0, rfl, Or.inl ⟨c21, rfl, rfl, trivial⟩, by rw [ht]; exact hP9, hD9⟩, hS.F ht⟩) hS.2.2 dX5_leave_50
  · refine lv_aload_n hx hb dX5_leave_24 rfl (lv_at hl 0 rfl) ?_
    refine va_get (D := G) (ci := 5) (v := .ref h1) (C := RX5) (T := TX5) (N := 12) hx hb hts xinX5 hown hK hP 0 rfl rfl 4 (by decide) (hts _ wn_15) (fun _ h9 => h9) rfl dX5_leave_25 ?_
    refine lv_aload_n hx hb dX5_leave_28 rfl (lv_at hl 0 rfl) ?_
    refine va_get (D := G) (ci := 5) (v := .ref h3) (C := RX5) (T := TX5) (N := 12) hx hb hts xinX5 hown hK hP 0 rfl rfl 1 (by decide) (hts _ wn_17) (fun _ h9 => h9) rfl dX5_leave_29 ?_
    refine lv_iload_n hx hb dX5_leave_32 rfl (lv_at hl 1 rfl) ?_
    refine va_iald hx hb hK hP 3 0 rfl rfl (hy2 c21) dX5_leave_33 ?_
    refine lv_dup2_11 hx hb dX5_leave_34 rfl rfl ?_
    refine va_lald hx hb hK hP 1 1 rfl rfl (hy3 c21) dX5_leave_35 ?_
    refine lv_aload_n hx hb dX5_leave_36 rfl (lv_at hl 0 rfl) ?_
    refine va_get (D := G) (ci := 5) (v := .ref h1) (C := RX5) (T := TX5) (N := 12) hx hb hts xinX5 hown hK hP 0 rfl rfl 4 (by decide) (hts _ wn_15) (fun _ h9 => h9) rfl dX5_leave_37 ?_
    refine lv_iload_n hx hb dX5_leave_40 rfl (lv_at hl 1 rfl) ?_
    refine va_lald hx hb hK hP 1 1 rfl rfl (hy2 c21) dX5_leave_41 ?_
    refine lv_lor hx hb dX5_leave_42 ?_
    refine va_last hx hb hK hP hD hS 1 1 rfl rfl (hy3 c21) dX5_leave_43 (fun H locs hP hD hS => ?_)
    replace hP : va_P G vwCl [(h0, .inr (5, [.ref k0, .ref h3, .ref k1, .ref h2, .ref h1, .ref k2, .ref k3, .ref k4, .ref k5, .ref k6, .int i0, .int i1])), (h1, aJ cJ 21 (vp_updL (vp_updL f2 (Int32.toNatClampNeg p0) ((f2 (Int32.toNatClampNeg p0)) ||| (f3 (Int32.toNatClampNeg p0)))) (Int32.toNatClampNeg (f4 (Int32.toNatClampNeg p0))) (((vp_updL f2 (Int32.toNatClampNeg p0) ((f2 (Int32.toNatClampNeg p0)) ||| (f3 (Int32.toNatClampNeg p0)))) (Int32.toNatClampNeg (f4 (Int32.toNatClampNeg p0)))) ||| ((vp_updL f2 (Int32.toNatClampNeg p0) ((f2 (Int32.toNatClampNeg p0)) ||| (f3 (Int32.toNatClampNeg p0)))) (Int32.toNatClampNeg p0))))), (h2, aJ cJ 21 f3), (h3, aI cI 21 f4)] H := hP
    replace hD : va_D A [(h0, .inr (5, [.ref k0, .ref h3, .ref k1, .ref h2, .ref h1, .ref k2, .ref k3, .ref k4, .ref k5, .ref k6, .int i0, .int i1])), (h1, aJ cJ 21 (vp_updL (vp_updL f2 (Int32.toNatClampNeg p0) ((f2 (Int32.toNatClampNeg p0)) ||| (f3 (Int32.toNatClampNeg p0)))) (Int32.toNatClampNeg (f4 (Int32.toNatClampNeg p0))) (((vp_updL f2 (Int32.toNatClampNeg p0) ((f2 (Int32.toNatClampNeg p0)) ||| (f3 (Int32.toNatClampNeg p0)))) (Int32.toNatClampNeg (f4 (Int32.toNatClampNeg p0)))) ||| ((vp_updL f2 (Int32.toNatClampNeg p0) ((f2 (Int32.toNatClampNeg p0)) ||| (f3 (Int32.toNatClampNeg p0)))) (Int32.toNatClampNeg p0))))), (h2, aJ cJ 21 f3), (h3, aI cI 21 f4)] := hD
    refine lv_aload_n hx hb dX5_leave_44 rfl (lv_at hl 0 rfl) ?_
    refine va_get (D := G) (ci := 5) (v := .ref h3) (C := RX5) (T := TX5) (N := 12) hx hb hts xinX5 hown hK hP 0 rfl rfl 1 (by decide) (hts _ wn_17) (fun _ h9 => h9) rfl dX5_leave_45 ?_
    refine lv_iload_n hx hb dX5_leave_48 rfl (lv_at hl 1 rfl) ?_
    refine va_iald hx hb hK hP 3 0 rfl rfl (hy2 c21) dX5_leave_49 ?_
    have hP9 : va_P G vwCl [(h0, .inr (5, [.ref k0, .ref h3, .ref k1, .ref h2, .ref h1, .ref k2, .ref k3, .ref k4, .ref k5, .ref k6, .int i0, .int i1])), (h1, aJ cJ 21 (vp_updL (vp_updL f2 (Int32.toNatClampNeg p0) ((f2 (Int32.toNatClampNeg p0)) ||| (f3 (Int32.toNatClampNeg p0)))) (Int32.toNatClampNeg (f4 (Int32.toNatClampNeg p0))) (((vp_updL f2 (Int32.toNatClampNeg p0) ((f2 (Int32.toNatClampNeg p0)) ||| (f3 (Int32.toNatClampNeg p0)))) (Int32.toNatClampNeg (f4 (Int32.toNatClampNeg p0)))) ||| ((vp_updL f2 (Int32.toNatClampNeg p0) ((f2 (Int32.toNatClampNeg p0)) ||| (f3 (Int32.toNatClampNeg p0)))) (Int32.toNatClampNeg p0))))), (h2, aJ cJ 21 f3), (h3, aI cI 21 f4)] H := hP.sub [0, 1, 2, 3] rfl
    have hD9 : va_D A [(h0, .inr (5, [.ref k0, .ref h3, .ref k1, .ref h2, .ref h1, .ref k2, .ref k3, .ref k4, .ref k5, .ref k6, .int i0, .int i1])), (h1, aJ cJ 21 (vp_updL (vp_updL f2 (Int32.toNatClampNeg p0) ((f2 (Int32.toNatClampNeg p0)) ||| (f3 (Int32.toNatClampNeg p0)))) (Int32.toNatClampNeg (f4 (Int32.toNatClampNeg p0))) (((vp_updL f2 (Int32.toNatClampNeg p0) ((f2 (Int32.toNatClampNeg p0)) ||| (f3 (Int32.toNatClampNeg p0)))) (Int32.toNatClampNeg (f4 (Int32.toNatClampNeg p0)))) ||| ((vp_updL f2 (Int32.toNatClampNeg p0) ((f2 (Int32.toNatClampNeg p0)) ||| (f3 (Int32.toNatClampNeg p0)))) (Int32.toNatClampNeg p0))))), (h2, aJ cJ 21 f3), (h3, aI cI 21 f4)] := hD.sub [0, 1, 2, 3] (by decide) rfl
    exact W.iret (v := (f4 (Int32.toNatClampNeg p0))) hx hb hr (fun t ht hW => ⟨⟨_, 1, rfl, Or.inr (⟨c21, rfl, rfl, trivial⟩), by rw [ht]; exact hP9, hD9⟩, hS.F ht⟩) hS.2.2 dX5_leave_50
set_option maxHeartbeats 4000000 in
set_option maxRecDepth 100000 in
theorem nX8_hasBit (l : Launch) (G : va_G) (cI cJ cZ : ClassId) ( sz : Nat) (p0 : Int32) (p1 : Int32) : Met l yX8_hasBit (xw yX8_hasBit cX8_hasBit 2 (some .boolean)) ({ frames := 0, cells := 0, slots := 0, locals := 0 }) (xPc G cI cJ cZ [.int p0, .int p1] [] sz) (va_Qi (fun (r : Int32) (u : Unit) => (((((p0).toUInt32 >>> ((p1).toUInt32 &&& Int32.toUInt32 31)).toInt32) &&& 1) = 0 ∧ r = 0 ∧ True) ∨ (¬ ((((p0).toUInt32 >>> ((p1).toUInt32 &&& Int32.toUInt32 31)).toInt32) &&& 1) = 0 ∧ r = 1 ∧ True)) (fun (u : Unit) t => xB G (va_A [] sz) [] t) (va_A [] sz)) 0 0 (va_A [] sz) := by
  refine Met.ofW (cc := cX8_hasBit) (maxL := 2) (ret := (some .boolean)) (by decide) rfl ?_
  intro p e s m args below meth c s₁ B hml hv
  obtain ⟨rfl, hsz, hP, hK, hD0, hN⟩ := hv
  have hx := B.exec
  have hb := B.bytes
  have hr := B.returns
  have hts : ∀ w ∈ xW, w.before _ s = true := fun w h => atoms_spec (ws := xw yX8_hasBit cX8_hasBit 2 (some .boolean)) B.pre w (List.mem_cons_of_mem _ h)
  have hown : s.vm.findClass RX8 = some m.cls := findClass_of_methodNamed B.named
  have hlocks := B.notSynchronized
  subst hsz
  have hD := hD0.self (sz := s.heap.size)
  clear hD0
  generalize hAe : va_A [] s.heap.size = A at hD ⊢
  have hA : ∀ q : Nat, s.heap.size ≤ q → A q := fun q h => by rw [← hAe]; exact Or.inr h
  clear hAe
  have hS : va_S A s.heap s.heap [] := va_S.rf
  replace hP : va_P G vwCl [] s.heap := hP
  have hl := lv_entry ([.int p0, .int p1]) (n := 2) (Nat.le_of_ble_eq_true rfl)
  rw [lg_entry_eq]
  generalize (lg_sl ([.int p0, .int p1]) ++ List.replicate (2 - (lg_sl ([.int p0, .int p1])).length) Slot.unset).toArray = ls at hl ⊢
  replace hl : lv_has ls 2 [(0, .int p0), (1, .int p1)] := hl
  refine lv_iload_n hx hb dX8_hasBit_0 rfl (lv_at hl 0 rfl) ?_
  refine lv_iload_n hx hb dX8_hasBit_1 rfl (lv_at hl 1 rfl) ?_
  refine lv_iushr (v := (((p0).toUInt32 >>> ((p1).toUInt32 &&& Int32.toUInt32 31)).toInt32)) hx hb dX8_hasBit_2 rfl ?_
  refine lv_iconst (v := 1) hx hb dX8_hasBit_3 (by decide) ?_
  refine lv_iand hx hb dX8_hasBit_4 ?_
  refine lv_if_eq (tgt := 12) hx hb dX8_hasBit_5 (by decide) (fun c22 => ?_) (fun c22 => ?_)
  · refine lv_iconst (v := 0) hx hb dX8_hasBit_12 (by decide) ?_
    have hP9 : va_P G vwCl [] s.heap := hP.sub [] rfl
    have hD9 : va_D A [] := hD.sub [] (by decide) rfl
    exact W.zret (v := 0) hx hb hr rfl (fun t ht hW => ⟨⟨_, (), rfl, Or.inl ⟨c22, rfl, trivial⟩, by rw [ht]; exact hP9, hD9⟩, hS.F ht⟩) hS.2.2 dX8_hasBit_13
  · refine lv_iconst (v := 1) hx hb dX8_hasBit_8 (by decide) ?_
    refine lv_goto (tgt := 13) hx hb dX8_hasBit_9 (by decide) ?_
    have hP9 : va_P G vwCl [] s.heap := hP.sub [] rfl
    have hD9 : va_D A [] := hD.sub [] (by decide) rfl
    exact W.zret (v := 1) hx hb hr rfl (fun t ht hW => ⟨⟨_, (), rfl, Or.inr (⟨c22, rfl, trivial⟩), by rw [ht]; exact hP9, hD9⟩, hS.F ht⟩) hS.2.2 dX8_hasBit_13
set_option maxHeartbeats 4000000 in
set_option maxRecDepth 100000 in
theorem nX0_link (l : Launch) (G : va_G) (cI cJ cZ : ClassId) (h0 h1 h2 k0 k1 k2 k3 k4 k5 k6 k7 k8 sz : Nat) (i0 : Int32) (i1 : Int32) (i2 : Int32) (i3 : Int32) (f4 : Nat → Int32) (f5 : Nat → Int32) (p0 : Int32) (p1 : Int32) (hy0 : vp_in p0 20) (hy1 : vp_in p1 20) : Met l yX0_link (xw yX0_link cX0_link 3 none) ({ frames := 0, cells := 0, slots := 0, locals := 0 }) (xPc G cI cJ cZ [.ref h0, .int p0, .int p1] [(h0, .inr (0, [.ref k0, .ref k1, .ref k2, .ref k3, .ref k4, .ref k5, .ref k6, .ref h1, .ref h2, .ref k7, .ref k8, .int i0, .int i1, .int i2, .int i3])), (h1, aI cI 20 f4), (h2, aI cI 20 f5)] sz) (va_Qv (fun (u : Unit) => (True)) (fun (u : Unit) t => xB G (va_A [(h0, .inr (0, [.ref k0, .ref k1, .ref k2, .ref k3, .ref k4, .ref k5, .ref k6, .ref h1, .ref h2, .ref k7, .ref k8, .int i0, .int i1, .int i2, .int i3])), (h1, aI cI 20 f4), (h2, aI cI 20 f5)] sz) [(h0, .inr (0, [.ref k0, .ref k1, .ref k2, .ref k3, .ref k4, .ref k5, .ref k6, .ref h1, .ref h2, .ref k7, .ref k8, .int i0, .int i1, .int i2, .int i3])), (h1, aI cI 20 (upd f4 (Int32.toNatClampNeg p0) p1)), (h2, aI cI 20 (upd f5 (Int32.toNatClampNeg p1) p0))] t) (va_A [(h0, .inr (0, [.ref k0, .ref k1, .ref k2, .ref k3, .ref k4, .ref k5, .ref k6, .ref h1, .ref h2, .ref k7, .ref k8, .int i0, .int i1, .int i2, .int i3])), (h1, aI cI 20 f4), (h2, aI cI 20 f5)] sz)) 0 0 (va_A [(h0, .inr (0, [.ref k0, .ref k1, .ref k2, .ref k3, .ref k4, .ref k5, .ref k6, .ref h1, .ref h2, .ref k7, .ref k8, .int i0, .int i1, .int i2, .int i3])), (h1, aI cI 20 f4), (h2, aI cI 20 f5)] sz) := by
  refine Met.ofW (cc := cX0_link) (maxL := 3) (ret := none) (by decide) rfl ?_
  intro p e s m args below meth c s₁ B hml hv
  obtain ⟨rfl, hsz, hP, hK, hD0, hN⟩ := hv
  have hx := B.exec
  have hb := B.bytes
  have hr := B.returns
  have hts : ∀ w ∈ xW, w.before _ s = true := fun w h => atoms_spec (ws := xw yX0_link cX0_link 3 none) B.pre w (List.mem_cons_of_mem _ h)
  have hown : s.vm.findClass RX0 = some m.cls := findClass_of_methodNamed B.named
  have hlocks := B.notSynchronized
  subst hsz
  have hD := hD0.self (sz := s.heap.size)
  clear hD0
  generalize hAe : va_A [(h0, .inr (0, [.ref k0, .ref k1, .ref k2, .ref k3, .ref k4, .ref k5, .ref k6, .ref h1, .ref h2, .ref k7, .ref k8, .int i0, .int i1, .int i2, .int i3])), (h1, aI cI 20 f4), (h2, aI cI 20 f5)] s.heap.size = A at hD ⊢
  have hA : ∀ q : Nat, s.heap.size ≤ q → A q := fun q h => by rw [← hAe]; exact Or.inr h
  clear hAe
  have hS : va_S A s.heap s.heap [] := va_S.rf
  replace hP : va_P G vwCl [(h0, .inr (0, [.ref k0, .ref k1, .ref k2, .ref k3, .ref k4, .ref k5, .ref k6, .ref h1, .ref h2, .ref k7, .ref k8, .int i0, .int i1, .int i2, .int i3])), (h1, aI cI 20 f4), (h2, aI cI 20 f5)] s.heap := hP
  have hl := lv_entry ([.ref h0, .int p0, .int p1]) (n := 3) (Nat.le_of_ble_eq_true rfl)
  rw [lg_entry_eq]
  generalize (lg_sl ([.ref h0, .int p0, .int p1]) ++ List.replicate (3 - (lg_sl ([.ref h0, .int p0, .int p1])).length) Slot.unset).toArray = ls at hl ⊢
  replace hl : lv_has ls 3 [(0, .ref h0), (1, .int p0), (2, .int p1)] := hl
  refine lv_aload_n hx hb dX0_link_0 rfl (lv_at hl 0 rfl) ?_
  refine va_get (D := G) (ci := 0) (v := .ref h1) (C := RX0) (T := TX0) (N := 15) hx hb hts xinX0 hown hK hP 0 rfl rfl 7 (by decide) (hts _ wn_18) (fun _ h9 => h9) rfl dX0_link_1 ?_
  refine lv_iload_n hx hb dX0_link_4 rfl (lv_at hl 1 rfl) ?_
  refine lv_iload_n hx hb dX0_link_5 rfl (lv_at hl 2 rfl) ?_
  refine va_iast hx hb hK hP hD hS 1 0 rfl rfl hy0 dX0_link_6 (fun H locs hP hD hS => ?_)
  replace hP : va_P G vwCl [(h0, .inr (0, [.ref k0, .ref k1, .ref k2, .ref k3, .ref k4, .ref k5, .ref k6, .ref h1, .ref h2, .ref k7, .ref k8, .int i0, .int i1, .int i2, .int i3])), (h1, aI cI 20 (upd f4 (Int32.toNatClampNeg p0) p1)), (h2, aI cI 20 f5)] H := hP
  replace hD : va_D A [(h0, .inr (0, [.ref k0, .ref k1, .ref k2, .ref k3, .ref k4, .ref k5, .ref k6, .ref h1, .ref h2, .ref k7, .ref k8, .int i0, .int i1, .int i2, .int i3])), (h1, aI cI 20 (upd f4 (Int32.toNatClampNeg p0) p1)), (h2, aI cI 20 f5)] := hD
  refine lv_aload_n hx hb dX0_link_7 rfl (lv_at hl 0 rfl) ?_
  refine va_get (D := G) (ci := 0) (v := .ref h2) (C := RX0) (T := TX0) (N := 15) hx hb hts xinX0 hown hK hP 0 rfl rfl 8 (by decide) (hts _ wn_19) (fun _ h9 => h9) rfl dX0_link_8 ?_
  refine lv_iload_n hx hb dX0_link_11 rfl (lv_at hl 2 rfl) ?_
  refine lv_iload_n hx hb dX0_link_12 rfl (lv_at hl 1 rfl) ?_
  refine va_iast hx hb hK hP hD hS 2 0 rfl rfl hy1 dX0_link_13 (fun H locs hP hD hS => ?_)
  replace hP : va_P G vwCl [(h0, .inr (0, [.ref k0, .ref k1, .ref k2, .ref k3, .ref k4, .ref k5, .ref k6, .ref h1, .ref h2, .ref k7, .ref k8, .int i0, .int i1, .int i2, .int i3])), (h1, aI cI 20 (upd f4 (Int32.toNatClampNeg p0) p1)), (h2, aI cI 20 (upd f5 (Int32.toNatClampNeg p1) p0))] H := hP
  replace hD : va_D A [(h0, .inr (0, [.ref k0, .ref k1, .ref k2, .ref k3, .ref k4, .ref k5, .ref k6, .ref h1, .ref h2, .ref k7, .ref k8, .int i0, .int i1, .int i2, .int i3])), (h1, aI cI 20 (upd f4 (Int32.toNatClampNeg p0) p1)), (h2, aI cI 20 (upd f5 (Int32.toNatClampNeg p1) p0))] := hD
  have hP9 : va_P G vwCl [(h0, .inr (0, [.ref k0, .ref k1, .ref k2, .ref k3, .ref k4, .ref k5, .ref k6, .ref h1, .ref h2, .ref k7, .ref k8, .int i0, .int i1, .int i2, .int i3])), (h1, aI cI 20 (upd f4 (Int32.toNatClampNeg p0) p1)), (h2, aI cI 20 (upd f5 (Int32.toNatClampNeg p1) p0))] H := hP.sub [0, 1, 2] rfl
  have hD9 : va_D A [(h0, .inr (0, [.ref k0, .ref k1, .ref k2, .ref k3, .ref k4, .ref k5, .ref k6, .ref h1, .ref h2, .ref k7, .ref k8, .int i0, .int i1, .int i2, .int i3])), (h1, aI cI 20 (upd f4 (Int32.toNatClampNeg p0) p1)), (h2, aI cI 20 (upd f5 (Int32.toNatClampNeg p1) p0))] := hD.sub [0, 1, 2] (by decide) rfl
  exact W.vret hx hb hr (fun t ht hW => ⟨⟨(), rfl, trivial, by rw [ht]; exact hP9, hD9⟩, hS.F ht⟩) hS.2.2 dX0_link_14
set_option maxHeartbeats 4000000 in
set_option maxRecDepth 100000 in
theorem nX0_area (l : Launch) (G : va_G) (cI cJ cZ : ClassId) (h0 h1 h2 k0 k1 k2 k3 k4 k5 k6 k7 k8 sz : Nat) (i0 : Int32) (i1 : Int32) (i2 : Int32) (i3 : Int32) (f4 : Nat → Int32) (f5 : Nat → Int32) (p0 : Int32) (p1 : Int32) (p2 : Int32) (hy0 : vp_in p1 20) (hy1 : vp_in p0 20) (hy2 : vp_in p2 20) : Met l yX0_area (xw yX0_area cX0_area 4 (some .int)) ({ frames := 0, cells := 0, slots := 0, locals := 0 }) (xPc G cI cJ cZ [.ref h0, .int p0, .int p1, .int p2] [(h0, .inr (0, [.ref k0, .ref k1, .ref h1, .ref h2, .ref k2, .ref k3, .ref k4, .ref k5, .ref k6, .ref k7, .ref k8, .int i0, .int i1, .int i2, .int i3])), (h1, aI cI 20 f4), (h2, aI cI 20 f5)] sz) (va_Qi (fun (r : Int32) (u : Unit) => (r = ((((f4 (Int32.toNatClampNeg p1)) - (f4 (Int32.toNatClampNeg p0))) * ((f5 (Int32.toNatClampNeg p2)) - (f5 (Int32.toNatClampNeg p0)))) - (((f4 (Int32.toNatClampNeg p2)) - (f4 (Int32.toNatClampNeg p0))) * ((f5 (Int32.toNatClampNeg p1)) - (f5 (Int32.toNatClampNeg p0))))) ∧ True)) (fun (u : Unit) t => xB G (va_A [(h0, .inr (0, [.ref k0, .ref k1, .ref h1, .ref h2, .ref k2, .ref k3, .ref k4, .ref k5, .ref k6, .ref k7, .ref k8, .int i0, .int i1, .int i2, .int i3])), (h1, aI cI 20 f4), (h2, aI cI 20 f5)] sz) [(h0, .inr (0, [.ref k0, .ref k1, .ref h1, .ref h2, .ref k2, .ref k3, .ref k4, .ref k5, .ref k6, .ref k7, .ref k8, .int i0, .int i1, .int i2, .int i3])), (h1, aI cI 20 f4), (h2, aI cI 20 f5)] t) (va_A [(h0, .inr (0, [.ref k0, .ref k1, .ref h1, .ref h2, .ref k2, .ref k3, .ref k4, .ref k5, .ref k6, .ref k7, .ref k8, .int i0, .int i1, .int i2, .int i3])), (h1, aI cI 20 f4), (h2, aI cI 20 f5)] sz)) 0 0 (va_A [(h0, .inr (0, [.ref k0, .ref k1, .ref h1, .ref h2, .ref k2, .ref k3, .ref k4, .ref k5, .ref k6, .ref k7, .ref k8, .int i0, .int i1, .int i2, .int i3])), (h1, aI cI 20 f4), (h2, aI cI 20 f5)] sz) := by
  refine Met.ofW (cc := cX0_area) (maxL := 4) (ret := (some .int)) (by decide) rfl ?_
  intro p e s m args below meth c s₁ B hml hv
  obtain ⟨rfl, hsz, hP, hK, hD0, hN⟩ := hv
  have hx := B.exec
  have hb := B.bytes
  have hr := B.returns
  have hts : ∀ w ∈ xW, w.before _ s = true := fun w h => atoms_spec (ws := xw yX0_area cX0_area 4 (some .int)) B.pre w (List.mem_cons_of_mem _ h)
  have hown : s.vm.findClass RX0 = some m.cls := findClass_of_methodNamed B.named
  have hlocks := B.notSynchronized
  subst hsz
  have hD := hD0.self (sz := s.heap.size)
  clear hD0
  generalize hAe : va_A [(h0, .inr (0, [.ref k0, .ref k1, .ref h1, .ref h2, .ref k2, .ref k3, .ref k4, .ref k5, .ref k6, .ref k7, .ref k8, .int i0, .int i1, .int i2, .int i3])), (h1, aI cI 20 f4), (h2, aI cI 20 f5)] s.heap.size = A at hD ⊢
  have hA : ∀ q : Nat, s.heap.size ≤ q → A q := fun q h => by rw [← hAe]; exact Or.inr h
  clear hAe
  have hS : va_S A s.heap s.heap [] := va_S.rf
  replace hP : va_P G vwCl [(h0, .inr (0, [.ref k0, .ref k1, .ref h1, .ref h2, .ref k2, .ref k3, .ref k4, .ref k5, .ref k6, .ref k7, .ref k8, .int i0, .int i1, .int i2, .int i3])), (h1, aI cI 20 f4), (h2, aI cI 20 f5)] s.heap := hP
  have hl := lv_entry ([.ref h0, .int p0, .int p1, .int p2]) (n := 4) (Nat.le_of_ble_eq_true rfl)
  rw [lg_entry_eq]
  generalize (lg_sl ([.ref h0, .int p0, .int p1, .int p2]) ++ List.replicate (4 - (lg_sl ([.ref h0, .int p0, .int p1, .int p2])).length) Slot.unset).toArray = ls at hl ⊢
  replace hl : lv_has ls 4 [(0, .ref h0), (1, .int p0), (2, .int p1), (3, .int p2)] := hl
  refine lv_aload_n hx hb dX0_area_0 rfl (lv_at hl 0 rfl) ?_
  refine va_get (D := G) (ci := 0) (v := .ref h1) (C := RX0) (T := TX0) (N := 15) hx hb hts xinX0 hown hK hP 0 rfl rfl 2 (by decide) (hts _ wn_20) (fun _ h9 => h9) rfl dX0_area_1 ?_
  refine lv_iload_n hx hb dX0_area_4 rfl (lv_at hl 2 rfl) ?_
  refine va_iald hx hb hK hP 1 0 rfl rfl hy0 dX0_area_5 ?_
  refine lv_aload_n hx hb dX0_area_6 rfl (lv_at hl 0 rfl) ?_
  refine va_get (D := G) (ci := 0) (v := .ref h1) (C := RX0) (T := TX0) (N := 15) hx hb hts xinX0 hown hK hP 0 rfl rfl 2 (by decide) (hts _ wn_20) (fun _ h9 => h9) rfl dX0_area_7 ?_
  refine lv_iload_n hx hb dX0_area_10 rfl (lv_at hl 1 rfl) ?_
  refine va_iald hx hb hK hP 1 0 rfl rfl hy1 dX0_area_11 ?_
  refine lv_isub hx hb dX0_area_12 ?_
  refine lv_aload_n hx hb dX0_area_13 rfl (lv_at hl 0 rfl) ?_
  refine va_get (D := G) (ci := 0) (v := .ref h2) (C := RX0) (T := TX0) (N := 15) hx hb hts xinX0 hown hK hP 0 rfl rfl 3 (by decide) (hts _ wn_21) (fun _ h9 => h9) rfl dX0_area_14 ?_
  refine lv_iload_n hx hb dX0_area_17 rfl (lv_at hl 3 rfl) ?_
  refine va_iald hx hb hK hP 2 0 rfl rfl hy2 dX0_area_18 ?_
  refine lv_aload_n hx hb dX0_area_19 rfl (lv_at hl 0 rfl) ?_
  refine va_get (D := G) (ci := 0) (v := .ref h2) (C := RX0) (T := TX0) (N := 15) hx hb hts xinX0 hown hK hP 0 rfl rfl 3 (by decide) (hts _ wn_21) (fun _ h9 => h9) rfl dX0_area_20 ?_
  refine lv_iload_n hx hb dX0_area_23 rfl (lv_at hl 1 rfl) ?_
  refine va_iald hx hb hK hP 2 0 rfl rfl hy1 dX0_area_24 ?_
  refine lv_isub hx hb dX0_area_25 ?_
  refine lv_imul hx hb dX0_area_26 ?_
  refine lv_aload_n hx hb dX0_area_27 rfl (lv_at hl 0 rfl) ?_
  refine va_get (D := G) (ci := 0) (v := .ref h1) (C := RX0) (T := TX0) (N := 15) hx hb hts xinX0 hown hK hP 0 rfl rfl 2 (by decide) (hts _ wn_20) (fun _ h9 => h9) rfl dX0_area_28 ?_
  refine lv_iload_n hx hb dX0_area_31 rfl (lv_at hl 3 rfl) ?_
  refine va_iald hx hb hK hP 1 0 rfl rfl hy2 dX0_area_32 ?_
  refine lv_aload_n hx hb dX0_area_33 rfl (lv_at hl 0 rfl) ?_
  refine va_get (D := G) (ci := 0) (v := .ref h1) (C := RX0) (T := TX0) (N := 15) hx hb hts xinX0 hown hK hP 0 rfl rfl 2 (by decide) (hts _ wn_20) (fun _ h9 => h9) rfl dX0_area_34 ?_
  refine lv_iload_n hx hb dX0_area_37 rfl (lv_at hl 1 rfl) ?_
  refine va_iald hx hb hK hP 1 0 rfl rfl hy1 dX0_area_38 ?_
  refine lv_isub hx hb dX0_area_39 ?_
  refine lv_aload_n hx hb dX0_area_40 rfl (lv_at hl 0 rfl) ?_
  refine va_get (D := G) (ci := 0) (v := .ref h2) (C := RX0) (T := TX0) (N := 15) hx hb hts xinX0 hown hK hP 0 rfl rfl 3 (by decide) (hts _ wn_21) (fun _ h9 => h9) rfl dX0_area_41 ?_
  refine lv_iload_n hx hb dX0_area_44 rfl (lv_at hl 2 rfl) ?_
  refine va_iald hx hb hK hP 2 0 rfl rfl hy0 dX0_area_45 ?_
  refine lv_aload_n hx hb dX0_area_46 rfl (lv_at hl 0 rfl) ?_
  refine va_get (D := G) (ci := 0) (v := .ref h2) (C := RX0) (T := TX0) (N := 15) hx hb hts xinX0 hown hK hP 0 rfl rfl 3 (by decide) (hts _ wn_21) (fun _ h9 => h9) rfl dX0_area_47 ?_
  refine lv_iload_n hx hb dX0_area_50 rfl (lv_at hl 1 rfl) ?_
  refine va_iald hx hb hK hP 2 0 rfl rfl hy1 dX0_area_51 ?_
  refine lv_isub hx hb dX0_area_52 ?_
  refine lv_imul hx hb dX0_area_53 ?_
  refine lv_isub hx hb dX0_area_54 ?_
  have hP9 : va_P G vwCl [(h0, .inr (0, [.ref k0, .ref k1, .ref h1, .ref h2, .ref k2, .ref k3, .ref k4, .ref k5, .ref k6, .ref k7, .ref k8, .int i0, .int i1, .int i2, .int i3])), (h1, aI cI 20 f4), (h2, aI cI 20 f5)] s.heap := hP.sub [0, 1, 2] rfl
  have hD9 : va_D A [(h0, .inr (0, [.ref k0, .ref k1, .ref h1, .ref h2, .ref k2, .ref k3, .ref k4, .ref k5, .ref k6, .ref k7, .ref k8, .int i0, .int i1, .int i2, .int i3])), (h1, aI cI 20 f4), (h2, aI cI 20 f5)] := hD.sub [0, 1, 2] (by decide) rfl
  exact W.iret (v := ((((f4 (Int32.toNatClampNeg p1)) - (f4 (Int32.toNatClampNeg p0))) * ((f5 (Int32.toNatClampNeg p2)) - (f5 (Int32.toNatClampNeg p0)))) - (((f4 (Int32.toNatClampNeg p2)) - (f4 (Int32.toNatClampNeg p0))) * ((f5 (Int32.toNatClampNeg p1)) - (f5 (Int32.toNatClampNeg p0)))))) hx hb hr (fun t ht hW => ⟨⟨_, (), rfl, ⟨rfl, trivial⟩, by rw [ht]; exact hP9, hD9⟩, hS.F ht⟩) hS.2.2 dX0_area_55
set_option maxHeartbeats 4000000 in
set_option maxRecDepth 100000 in
theorem nX0_overlap (l : Launch) (G : va_G) (cI cJ cZ : ClassId) (h0 h1 h2 k0 k1 k2 k3 k4 k5 k6 k7 k8 sz : Nat) (i0 : Int32) (i1 : Int32) (i2 : Int32) (i3 : Int32) (f4 : Nat → Int32) (f5 : Nat → Int32) (p0 : Int32) (p1 : Int32) (p2 : Int32) (hy0 : vp_in p1 20) (hy1 : vp_in p0 20) (hy2 : vp_in p2 20) : Met l yX0_overlap (xw yX0_overlap cX0_overlap 5 (some .boolean)) ({ frames := 1, cells := 0, slots := 0, locals := 23 }) (xPc G cI cJ cZ [.ref h0, .int p0, .int p1, .int p2] [(h0, .inr (0, [.ref k0, .ref k1, .ref h1, .ref h2, .ref k2, .ref k3, .ref k4, .ref k5, .ref k6, .ref k7, .ref k8, .int i0, .int i1, .int i2, .int i3])), (h1, aI cI 20 f4), (h2, aI cI 20 f5)] sz) (va_Qi (fun (r : Int32) (u : Unit) => (¬ ((((f4 (Int32.toNatClampNeg p1)) - (f4 (Int32.toNatClampNeg p0))) * ((f5 (Int32.toNatClampNeg p2)) - (f5 (Int32.toNatClampNeg p0)))) - (((f4 (Int32.toNatClampNeg p2)) - (f4 (Int32.toNatClampNeg p0))) * ((f5 (Int32.toNatClampNeg p1)) - (f5 (Int32.toNatClampNeg p0))))) = 0 ∧ r = 0 ∧ True) ∨ (((((f4 (Int32.toNatClampNeg p1)) - (f4 (Int32.toNatClampNeg p0))) * ((f5 (Int32.toNatClampNeg p2)) - (f5 (Int32.toNatClampNeg p0)))) - (((f4 (Int32.toNatClampNeg p2)) - (f4 (Int32.toNatClampNeg p0))) * ((f5 (Int32.toNatClampNeg p1)) - (f5 (Int32.toNatClampNeg p0))))) = 0 ∧ ((((f4 (Int32.toNatClampNeg p1)) - (f4 (Int32.toNatClampNeg p0))) * ((f4 (Int32.toNatClampNeg p2)) - (f4 (Int32.toNatClampNeg p0)))) + (((f5 (Int32.toNatClampNeg p1)) - (f5 (Int32.toNatClampNeg p0))) * ((f5 (Int32.toNatClampNeg p2)) - (f5 (Int32.toNatClampNeg p0))))) ≤ 0 ∧ r = 0 ∧ True) ∨ (((((f4 (Int32.toNatClampNeg p1)) - (f4 (Int32.toNatClampNeg p0))) * ((f5 (Int32.toNatClampNeg p2)) - (f5 (Int32.toNatClampNeg p0)))) - (((f4 (Int32.toNatClampNeg p2)) - (f4 (Int32.toNatClampNeg p0))) * ((f5 (Int32.toNatClampNeg p1)) - (f5 (Int32.toNatClampNeg p0))))) = 0 ∧ ¬ ((((f4 (Int32.toNatClampNeg p1)) - (f4 (Int32.toNatClampNeg p0))) * ((f4 (Int32.toNatClampNeg p2)) - (f4 (Int32.toNatClampNeg p0)))) + (((f5 (Int32.toNatClampNeg p1)) - (f5 (Int32.toNatClampNeg p0))) * ((f5 (Int32.toNatClampNeg p2)) - (f5 (Int32.toNatClampNeg p0))))) ≤ 0 ∧ r = 1 ∧ True)) (fun (u : Unit) t => xB G (va_A [(h0, .inr (0, [.ref k0, .ref k1, .ref h1, .ref h2, .ref k2, .ref k3, .ref k4, .ref k5, .ref k6, .ref k7, .ref k8, .int i0, .int i1, .int i2, .int i3])), (h1, aI cI 20 f4), (h2, aI cI 20 f5)] sz) [(h0, .inr (0, [.ref k0, .ref k1, .ref h1, .ref h2, .ref k2, .ref k3, .ref k4, .ref k5, .ref k6, .ref k7, .ref k8, .int i0, .int i1, .int i2, .int i3])), (h1, aI cI 20 f4), (h2, aI cI 20 f5)] t) (va_A [(h0, .inr (0, [.ref k0, .ref k1, .ref h1, .ref h2, .ref k2, .ref k3, .ref k4, .ref k5, .ref k6, .ref k7, .ref k8, .int i0, .int i1, .int i2, .int i3])), (h1, aI cI 20 f4), (h2, aI cI 20 f5)] sz)) 0 0 (va_A [(h0, .inr (0, [.ref k0, .ref k1, .ref h1, .ref h2, .ref k2, .ref k3, .ref k4, .ref k5, .ref k6, .ref k7, .ref k8, .int i0, .int i1, .int i2, .int i3])), (h1, aI cI 20 f4), (h2, aI cI 20 f5)] sz) := by
  refine Met.ofW (cc := cX0_overlap) (maxL := 5) (ret := (some .boolean)) (by decide) rfl ?_
  intro p e s m args below meth c s₁ B hml hv
  obtain ⟨rfl, hsz, hP, hK, hD0, hN⟩ := hv
  have hx := B.exec
  have hb := B.bytes
  have hr := B.returns
  have hts : ∀ w ∈ xW, w.before _ s = true := fun w h => atoms_spec (ws := xw yX0_overlap cX0_overlap 5 (some .boolean)) B.pre w (List.mem_cons_of_mem _ h)
  have hown : s.vm.findClass RX0 = some m.cls := findClass_of_methodNamed B.named
  have hlocks := B.notSynchronized
  subst hsz
  have hD := hD0.self (sz := s.heap.size)
  clear hD0
  generalize hAe : va_A [(h0, .inr (0, [.ref k0, .ref k1, .ref h1, .ref h2, .ref k2, .ref k3, .ref k4, .ref k5, .ref k6, .ref k7, .ref k8, .int i0, .int i1, .int i2, .int i3])), (h1, aI cI 20 f4), (h2, aI cI 20 f5)] s.heap.size = A at hD ⊢
  have hA : ∀ q : Nat, s.heap.size ≤ q → A q := fun q h => by rw [← hAe]; exact Or.inr h
  clear hAe
  have hS : va_S A s.heap s.heap [] := va_S.rf
  replace hP : va_P G vwCl [(h0, .inr (0, [.ref k0, .ref k1, .ref h1, .ref h2, .ref k2, .ref k3, .ref k4, .ref k5, .ref k6, .ref k7, .ref k8, .int i0, .int i1, .int i2, .int i3])), (h1, aI cI 20 f4), (h2, aI cI 20 f5)] s.heap := hP
  have hl := lv_entry ([.ref h0, .int p0, .int p1, .int p2]) (n := 5) (Nat.le_of_ble_eq_true rfl)
  rw [lg_entry_eq]
  generalize (lg_sl ([.ref h0, .int p0, .int p1, .int p2]) ++ List.replicate (5 - (lg_sl ([.ref h0, .int p0, .int p1, .int p2])).length) Slot.unset).toArray = ls at hl ⊢
  replace hl : lv_has ls 5 [(0, .ref h0), (1, .int p0), (2, .int p1), (3, .int p2)] := hl
  refine lv_aload_n hx hb dX0_overlap_0 rfl (lv_at hl 0 rfl) ?_
  refine va_get (D := G) (ci := 0) (v := .ref h1) (C := RX0) (T := TX0) (N := 15) hx hb hts xinX0 hown hK hP 0 rfl rfl 2 (by decide) (hts _ wn_20) (fun _ h9 => h9) rfl dX0_overlap_1 ?_
  refine lv_iload_n hx hb dX0_overlap_4 rfl (lv_at hl 2 rfl) ?_
  refine va_iald hx hb hK hP 1 0 rfl rfl hy0 dX0_overlap_5 ?_
  refine lv_aload_n hx hb dX0_overlap_6 rfl (lv_at hl 0 rfl) ?_
  refine va_get (D := G) (ci := 0) (v := .ref h1) (C := RX0) (T := TX0) (N := 15) hx hb hts xinX0 hown hK hP 0 rfl rfl 2 (by decide) (hts _ wn_20) (fun _ h9 => h9) rfl dX0_overlap_7 ?_
  refine lv_iload_n hx hb dX0_overlap_10 rfl (lv_at hl 1 rfl) ?_
  refine va_iald hx hb hK hP 1 0 rfl rfl hy1 dX0_overlap_11 ?_
  refine lv_isub hx hb dX0_overlap_12 ?_
  refine lv_aload_n hx hb dX0_overlap_13 rfl (lv_at hl 0 rfl) ?_
  refine va_get (D := G) (ci := 0) (v := .ref h1) (C := RX0) (T := TX0) (N := 15) hx hb hts xinX0 hown hK hP 0 rfl rfl 2 (by decide) (hts _ wn_20) (fun _ h9 => h9) rfl dX0_overlap_14 ?_
  refine lv_iload_n hx hb dX0_overlap_17 rfl (lv_at hl 3 rfl) ?_
  refine va_iald hx hb hK hP 1 0 rfl rfl hy2 dX0_overlap_18 ?_
  refine lv_aload_n hx hb dX0_overlap_19 rfl (lv_at hl 0 rfl) ?_
  refine va_get (D := G) (ci := 0) (v := .ref h1) (C := RX0) (T := TX0) (N := 15) hx hb hts xinX0 hown hK hP 0 rfl rfl 2 (by decide) (hts _ wn_20) (fun _ h9 => h9) rfl dX0_overlap_20 ?_
  refine lv_iload_n hx hb dX0_overlap_23 rfl (lv_at hl 1 rfl) ?_
  refine va_iald hx hb hK hP 1 0 rfl rfl hy1 dX0_overlap_24 ?_
  refine lv_isub hx hb dX0_overlap_25 ?_
  refine lv_imul hx hb dX0_overlap_26 ?_
  refine lv_aload_n hx hb dX0_overlap_27 rfl (lv_at hl 0 rfl) ?_
  refine va_get (D := G) (ci := 0) (v := .ref h2) (C := RX0) (T := TX0) (N := 15) hx hb hts xinX0 hown hK hP 0 rfl rfl 3 (by decide) (hts _ wn_21) (fun _ h9 => h9) rfl dX0_overlap_28 ?_
  refine lv_iload_n hx hb dX0_overlap_31 rfl (lv_at hl 2 rfl) ?_
  refine va_iald hx hb hK hP 2 0 rfl rfl hy0 dX0_overlap_32 ?_
  refine lv_aload_n hx hb dX0_overlap_33 rfl (lv_at hl 0 rfl) ?_
  refine va_get (D := G) (ci := 0) (v := .ref h2) (C := RX0) (T := TX0) (N := 15) hx hb hts xinX0 hown hK hP 0 rfl rfl 3 (by decide) (hts _ wn_21) (fun _ h9 => h9) rfl dX0_overlap_34 ?_
  refine lv_iload_n hx hb dX0_overlap_37 rfl (lv_at hl 1 rfl) ?_
  refine va_iald hx hb hK hP 2 0 rfl rfl hy1 dX0_overlap_38 ?_
  refine lv_isub hx hb dX0_overlap_39 ?_
  refine lv_aload_n hx hb dX0_overlap_40 rfl (lv_at hl 0 rfl) ?_
  refine va_get (D := G) (ci := 0) (v := .ref h2) (C := RX0) (T := TX0) (N := 15) hx hb hts xinX0 hown hK hP 0 rfl rfl 3 (by decide) (hts _ wn_21) (fun _ h9 => h9) rfl dX0_overlap_41 ?_
  refine lv_iload_n hx hb dX0_overlap_44 rfl (lv_at hl 3 rfl) ?_
  refine va_iald hx hb hK hP 2 0 rfl rfl hy2 dX0_overlap_45 ?_
  refine lv_aload_n hx hb dX0_overlap_46 rfl (lv_at hl 0 rfl) ?_
  refine va_get (D := G) (ci := 0) (v := .ref h2) (C := RX0) (T := TX0) (N := 15) hx hb hts xinX0 hown hK hP 0 rfl rfl 3 (by decide) (hts _ wn_21) (fun _ h9 => h9) rfl dX0_overlap_47 ?_
  refine lv_iload_n hx hb dX0_overlap_50 rfl (lv_at hl 1 rfl) ?_
  refine va_iald hx hb hK hP 2 0 rfl rfl hy1 dX0_overlap_51 ?_
  refine lv_isub hx hb dX0_overlap_52 ?_
  refine lv_imul hx hb dX0_overlap_53 ?_
  refine lv_iadd hx hb dX0_overlap_54 ?_
  refine lv_istore (lv' := [(4, .int ((((f4 (Int32.toNatClampNeg p1)) - (f4 (Int32.toNatClampNeg p0))) * ((f4 (Int32.toNatClampNeg p2)) - (f4 (Int32.toNatClampNeg p0)))) + (((f5 (Int32.toNatClampNeg p1)) - (f5 (Int32.toNatClampNeg p0))) * ((f5 (Int32.toNatClampNeg p2)) - (f5 (Int32.toNatClampNeg p0)))))), (0, .ref h0), (1, .int p0), (2, .int p1), (3, .int p2)]) hx hb dX0_overlap_55 hl (by decide) rfl (fun ls hl => ?_)
  refine lv_aload_n hx hb dX0_overlap_57 rfl (lv_at hl 1 rfl) ?_
  refine lv_iload_n hx hb dX0_overlap_58 rfl (lv_at hl 2 rfl) ?_
  refine lv_iload_n hx hb dX0_overlap_59 rfl (lv_at hl 3 rfl) ?_
  refine lv_iload_n hx hb dX0_overlap_60 rfl (lv_at hl 4 rfl) ?_
  refine xci (wr := []) (va_runV (As := [.int p0, .int p1, .int p2]) (rest := []) ⟨hx, hb, hml, hown, hts⟩ (nX0_area l G cI cJ cZ h0 h1 h2 k0 k1 k2 k3 k4 k5 k6 k7 k8 s.heap.size i0 i1 i2 i3 f4 f5 p0 p1 p2 hy0 hy1 hy2) (cwV 3 hts (xgoodV wn_22 wn_23 wn_24 wn_25 wn_26) rfl rfl rfl (by decide +kernel) ⟨Nat.le_of_ble_eq_true rfl, Nat.le_of_ble_eq_true rfl⟩) (xPreV (q := (RX0, TX0, 15)) (q0 := 0) hK hN hP hD [0, 1, 2] (by decide) rfl rfl rfl) rfl rfl hl.1 rfl (lv_room (Nat.le_of_ble_eq_true rfl)) dX0_overlap_61 ⟨Nat.le_of_ble_eq_true rfl, Nat.le_of_ble_eq_true rfl⟩) hP hD hS hA [0, 1, 2] [] rfl rfl (by decide) (by decide) (fun r2 u2 H locs hw hP hD hS => ?_)
  obtain ⟨rfl, -⟩ := hw
  replace hP : va_P G vwCl [(h0, .inr (0, [.ref k0, .ref k1, .ref h1, .ref h2, .ref k2, .ref k3, .ref k4, .ref k5, .ref k6, .ref k7, .ref k8, .int i0, .int i1, .int i2, .int i3])), (h1, aI cI 20 f4), (h2, aI cI 20 f5)] H := hP
  replace hD : va_D A [(h0, .inr (0, [.ref k0, .ref k1, .ref h1, .ref h2, .ref k2, .ref k3, .ref k4, .ref k5, .ref k6, .ref k7, .ref k8, .int i0, .int i1, .int i2, .int i3])), (h1, aI cI 20 f4), (h2, aI cI 20 f5)] := hD
  refine lv_if_ne (tgt := 76) hx hb dX0_overlap_64 (by decide) (fun c23 => ?_) (fun c23 => ?_)
  · refine lv_iconst (v := 0) hx hb dX0_overlap_76 (by decide) ?_
    have hP9 : va_P G vwCl [(h0, .inr (0, [.ref k0, .ref k1, .ref h1, .ref h2, .ref k2, .ref k3, .ref k4, .ref k5, .ref k6, .ref k7, .ref k8, .int i0, .int i1, .int i2, .int i3])), (h1, aI cI 20 f4), (h2, aI cI 20 f5)] H := hP.sub [0, 1, 2] rfl
    have hD9 : va_D A [(h0, .inr (0, [.ref k0, .ref k1, .ref h1, .ref h2, .ref k2, .ref k3, .ref k4, .ref k5, .ref k6, .ref k7, .ref k8, .int i0, .int i1, .int i2, .int i3])), (h1, aI cI 20 f4), (h2, aI cI 20 f5)] := hD.sub [0, 1, 2] (by decide) rfl
    exact W.zret (v := 0) hx hb hr rfl (fun t ht hW => ⟨⟨_, (), rfl, Or.inl ⟨c23, rfl, trivial⟩, by rw [ht]; exact hP9, hD9⟩, hS.F ht⟩) hS.2.2 dX0_overlap_77
  · refine lv_iload hx hb dX0_overlap_67 (lv_at hl 0 rfl) ?_
    refine lv_if_le (tgt := 76) hx hb dX0_overlap_69 (by decide) (fun c24 => ?_) (fun c24 => ?_)
    · refine lv_iconst (v := 0) hx hb dX0_overlap_76 (by decide) ?_
      have hP9 : va_P G vwCl [(h0, .inr (0, [.ref k0, .ref k1, .ref h1, .ref h2, .ref k2, .ref k3, .ref k4, .ref k5, .ref k6, .ref k7, .ref k8, .int i0, .int i1, .int i2, .int i3])), (h1, aI cI 20 f4), (h2, aI cI 20 f5)] H := hP.sub [0, 1, 2] rfl
      have hD9 : va_D A [(h0, .inr (0, [.ref k0, .ref k1, .ref h1, .ref h2, .ref k2, .ref k3, .ref k4, .ref k5, .ref k6, .ref k7, .ref k8, .int i0, .int i1, .int i2, .int i3])), (h1, aI cI 20 f4), (h2, aI cI 20 f5)] := hD.sub [0, 1, 2] (by decide) rfl
      exact W.zret (v := 0) hx hb hr rfl (fun t ht hW => ⟨⟨_, (), rfl, Or.inr (Or.inl ⟨c23, c24, rfl, trivial⟩), by rw [ht]; exact hP9, hD9⟩, hS.F ht⟩) hS.2.2 dX0_overlap_77
    · refine lv_iconst (v := 1) hx hb dX0_overlap_72 (by decide) ?_
      refine lv_goto (tgt := 77) hx hb dX0_overlap_73 (by decide) ?_
      have hP9 : va_P G vwCl [(h0, .inr (0, [.ref k0, .ref k1, .ref h1, .ref h2, .ref k2, .ref k3, .ref k4, .ref k5, .ref k6, .ref k7, .ref k8, .int i0, .int i1, .int i2, .int i3])), (h1, aI cI 20 f4), (h2, aI cI 20 f5)] H := hP.sub [0, 1, 2] rfl
      have hD9 : va_D A [(h0, .inr (0, [.ref k0, .ref k1, .ref h1, .ref h2, .ref k2, .ref k3, .ref k4, .ref k5, .ref k6, .ref k7, .ref k8, .int i0, .int i1, .int i2, .int i3])), (h1, aI cI 20 f4), (h2, aI cI 20 f5)] := hD.sub [0, 1, 2] (by decide) rfl
      exact W.zret (v := 1) hx hb hr rfl (fun t ht hW => ⟨⟨_, (), rfl, Or.inr (Or.inr (⟨c23, c24, rfl, trivial⟩)), by rw [ht]; exact hP9, hD9⟩, hS.F ht⟩) hS.2.2 dX0_overlap_77
set_option maxHeartbeats 4000000 in
set_option maxRecDepth 100000 in
theorem nX0_onOneSide (l : Launch) (G : va_G) (cI cJ cZ : ClassId) (h0 h1 h2 k0 k1 k2 k3 k4 k5 k6 k7 k8 sz : Nat) (i0 : Int32) (i1 : Int32) (i2 : Int32) (i3 : Int32) (f4 : Nat → Int32) (f5 : Nat → Int32) (p0 : Int32) (p1 : Int32) (p2 : Int32) (p3 : Int32) (hy0 : vp_in p1 20) (hy1 : vp_in p0 20) (hy2 : vp_in p2 20) (hy3 : vp_in p3 20) : Met l yX0_onOneSide (xw yX0_onOneSide cX0_onOneSide 7 (some .boolean)) ({ frames := 1, cells := 0, slots := 0, locals := 23 }) (xPc G cI cJ cZ [.ref h0, .int p0, .int p1, .int p2, .int p3] [(h0, .inr (0, [.ref k0, .ref k1, .ref h1, .ref h2, .ref k2, .ref k3, .ref k4, .ref k5, .ref k6, .ref k7, .ref k8, .int i0, .int i1, .int i2, .int i3])), (h1, aI cI 20 f4), (h2, aI cI 20 f5)] sz) (va_Qi (fun (r : Int32) (u : Unit) => (((((f4 (Int32.toNatClampNeg p1)) - (f4 (Int32.toNatClampNeg p0))) * ((f5 (Int32.toNatClampNeg p2)) - (f5 (Int32.toNatClampNeg p0)))) - (((f4 (Int32.toNatClampNeg p2)) - (f4 (Int32.toNatClampNeg p0))) * ((f5 (Int32.toNatClampNeg p1)) - (f5 (Int32.toNatClampNeg p0))))) ≤ 0 ∧ 0 ≤ ((((f4 (Int32.toNatClampNeg p1)) - (f4 (Int32.toNatClampNeg p0))) * ((f5 (Int32.toNatClampNeg p2)) - (f5 (Int32.toNatClampNeg p0)))) - (((f4 (Int32.toNatClampNeg p2)) - (f4 (Int32.toNatClampNeg p0))) * ((f5 (Int32.toNatClampNeg p1)) - (f5 (Int32.toNatClampNeg p0))))) ∧ r = 0 ∧ True) ∨ (((((f4 (Int32.toNatClampNeg p1)) - (f4 (Int32.toNatClampNeg p0))) * ((f5 (Int32.toNatClampNeg p2)) - (f5 (Int32.toNatClampNeg p0)))) - (((f4 (Int32.toNatClampNeg p2)) - (f4 (Int32.toNatClampNeg p0))) * ((f5 (Int32.toNatClampNeg p1)) - (f5 (Int32.toNatClampNeg p0))))) ≤ 0 ∧ ¬ 0 ≤ ((((f4 (Int32.toNatClampNeg p1)) - (f4 (Int32.toNatClampNeg p0))) * ((f5 (Int32.toNatClampNeg p2)) - (f5 (Int32.toNatClampNeg p0)))) - (((f4 (Int32.toNatClampNeg p2)) - (f4 (Int32.toNatClampNeg p0))) * ((f5 (Int32.toNatClampNeg p1)) - (f5 (Int32.toNatClampNeg p0))))) ∧ 0 ≤ ((((f4 (Int32.toNatClampNeg p1)) - (f4 (Int32.toNatClampNeg p0))) * ((f5 (Int32.toNatClampNeg p3)) - (f5 (Int32.toNatClampNeg p0)))) - (((f4 (Int32.toNatClampNeg p3)) - (f4 (Int32.toNatClampNeg p0))) * ((f5 (Int32.toNatClampNeg p1)) - (f5 (Int32.toNatClampNeg p0))))) ∧ r = 0 ∧ True) ∨ (((((f4 (Int32.toNatClampNeg p1)) - (f4 (Int32.toNatClampNeg p0))) * ((f5 (Int32.toNatClampNeg p2)) - (f5 (Int32.toNatClampNeg p0)))) - (((f4 (Int32.toNatClampNeg p2)) - (f4 (Int32.toNatClampNeg p0))) * ((f5 (Int32.toNatClampNeg p1)) - (f5 (Int32.toNatClampNeg p0))))) ≤ 0 ∧ ¬ 0 ≤ ((((f4 (Int32.toNatClampNeg p1)) - (f4 (Int32.toNatClampNeg p0))) * ((f5 (Int32.toNatClampNeg p2)) - (f5 (Int32.toNatClampNeg p0)))) - (((f4 (Int32.toNatClampNeg p2)) - (f4 (Int32.toNatClampNeg p0))) * ((f5 (Int32.toNatClampNeg p1)) - (f5 (Int32.toNatClampNeg p0))))) ∧ ¬ 0 ≤ ((((f4 (Int32.toNatClampNeg p1)) - (f4 (Int32.toNatClampNeg p0))) * ((f5 (Int32.toNatClampNeg p3)) - (f5 (Int32.toNatClampNeg p0)))) - (((f4 (Int32.toNatClampNeg p3)) - (f4 (Int32.toNatClampNeg p0))) * ((f5 (Int32.toNatClampNeg p1)) - (f5 (Int32.toNatClampNeg p0))))) ∧ r = 1 ∧ True) ∨ (¬ ((((f4 (Int32.toNatClampNeg p1)) - (f4 (Int32.toNatClampNeg p0))) * ((f5 (Int32.toNatClampNeg p2)) - (f5 (Int32.toNatClampNeg p0)))) - (((f4 (Int32.toNatClampNeg p2)) - (f4 (Int32.toNatClampNeg p0))) * ((f5 (Int32.toNatClampNeg p1)) - (f5 (Int32.toNatClampNeg p0))))) ≤ 0 ∧ 0 < ((((f4 (Int32.toNatClampNeg p1)) - (f4 (Int32.toNatClampNeg p0))) * ((f5 (Int32.toNatClampNeg p3)) - (f5 (Int32.toNatClampNeg p0)))) - (((f4 (Int32.toNatClampNeg p3)) - (f4 (Int32.toNatClampNeg p0))) * ((f5 (Int32.toNatClampNeg p1)) - (f5 (Int32.toNatClampNeg p0))))) ∧ r = 1 ∧ True) ∨ (¬ ((((f4 (Int32.toNatClampNeg p1)) - (f4 (Int32.toNatClampNeg p0))) * ((f5 (Int32.toNatClampNeg p2)) - (f5 (Int32.toNatClampNeg p0)))) - (((f4 (Int32.toNatClampNeg p2)) - (f4 (Int32.toNatClampNeg p0))) * ((f5 (Int32.toNatClampNeg p1)) - (f5 (Int32.toNatClampNeg p0))))) ≤ 0 ∧ ¬ 0 < ((((f4 (Int32.toNatClampNeg p1)) - (f4 (Int32.toNatClampNeg p0))) * ((f5 (Int32.toNatClampNeg p3)) - (f5 (Int32.toNatClampNeg p0)))) - (((f4 (Int32.toNatClampNeg p3)) - (f4 (Int32.toNatClampNeg p0))) * ((f5 (Int32.toNatClampNeg p1)) - (f5 (Int32.toNatClampNeg p0))))) ∧ 0 ≤ ((((f4 (Int32.toNatClampNeg p1)) - (f4 (Int32.toNatClampNeg p0))) * ((f5 (Int32.toNatClampNeg p2)) - (f5 (Int32.toNatClampNeg p0)))) - (((f4 (Int32.toNatClampNeg p2)) - (f4 (Int32.toNatClampNeg p0))) * ((f5 (Int32.toNatClampNeg p1)) - (f5 (Int32.toNatClampNeg p0))))) ∧ r = 0 ∧ True) ∨ (¬ ((((f4 (Int32.toNatClampNeg p1)) - (f4 (Int32.toNatClampNeg p0))) * ((f5 (Int32.toNatClampNeg p2)) - (f5 (Int32.toNatClampNeg p0)))) - (((f4 (Int32.toNatClampNeg p2)) - (f4 (Int32.toNatClampNeg p0))) * ((f5 (Int32.toNatClampNeg p1)) - (f5 (Int32.toNatClampNeg p0))))) ≤ 0 ∧ ¬ 0 < ((((f4 (Int32.toNatClampNeg p1)) - (f4 (Int32.toNatClampNeg p0))) * ((f5 (Int32.toNatClampNeg p3)) - (f5 (Int32.toNatClampNeg p0)))) - (((f4 (Int32.toNatClampNeg p3)) - (f4 (Int32.toNatClampNeg p0))) * ((f5 (Int32.toNatClampNeg p1)) - (f5 (Int32.toNatClampNeg p0))))) ∧ ¬ 0 ≤ ((((f4 (Int32.toNatClampNeg p1)) - (f4 (Int32.toNatClampNeg p0))) * ((f5 (Int32.toNatClampNeg p2)) - (f5 (Int32.toNatClampNeg p0)))) - (((f4 (Int32.toNatClampNeg p2)) - (f4 (Int32.toNatClampNeg p0))) * ((f5 (Int32.toNatClampNeg p1)) - (f5 (Int32.toNatClampNeg p0))))) ∧ 0 ≤ ((((f4 (Int32.toNatClampNeg p1)) - (f4 (Int32.toNatClampNeg p0))) * ((f5 (Int32.toNatClampNeg p3)) - (f5 (Int32.toNatClampNeg p0)))) - (((f4 (Int32.toNatClampNeg p3)) - (f4 (Int32.toNatClampNeg p0))) * ((f5 (Int32.toNatClampNeg p1)) - (f5 (Int32.toNatClampNeg p0))))) ∧ r = 0 ∧ True) ∨ (¬ ((((f4 (Int32.toNatClampNeg p1)) - (f4 (Int32.toNatClampNeg p0))) * ((f5 (Int32.toNatClampNeg p2)) - (f5 (Int32.toNatClampNeg p0)))) - (((f4 (Int32.toNatClampNeg p2)) - (f4 (Int32.toNatClampNeg p0))) * ((f5 (Int32.toNatClampNeg p1)) - (f5 (Int32.toNatClampNeg p0))))) ≤ 0 ∧ ¬ 0 < ((((f4 (Int32.toNatClampNeg p1)) - (f4 (Int32.toNatClampNeg p0))) * ((f5 (Int32.toNatClampNeg p3)) - (f5 (Int32.toNatClampNeg p0)))) - (((f4 (Int32.toNatClampNeg p3)) - (f4 (Int32.toNatClampNeg p0))) * ((f5 (Int32.toNatClampNeg p1)) - (f5 (Int32.toNatClampNeg p0))))) ∧ ¬ 0 ≤ ((((f4 (Int32.toNatClampNeg p1)) - (f4 (Int32.toNatClampNeg p0))) * ((f5 (Int32.toNatClampNeg p2)) - (f5 (Int32.toNatClampNeg p0)))) - (((f4 (Int32.toNatClampNeg p2)) - (f4 (Int32.toNatClampNeg p0))) * ((f5 (Int32.toNatClampNeg p1)) - (f5 (Int32.toNatClampNeg p0))))) ∧ ¬ 0 ≤ ((((f4 (Int32.toNatClampNeg p1)) - (f4 (Int32.toNatClampNeg p0))) * ((f5 (Int32.toNatClampNeg p3)) - (f5 (Int32.toNatClampNeg p0)))) - (((f4 (Int32.toNatClampNeg p3)) - (f4 (Int32.toNatClampNeg p0))) * ((f5 (Int32.toNatClampNeg p1)) - (f5 (Int32.toNatClampNeg p0))))) ∧ r = 1 ∧ True)) (fun (u : Unit) t => xB G (va_A [(h0, .inr (0, [.ref k0, .ref k1, .ref h1, .ref h2, .ref k2, .ref k3, .ref k4, .ref k5, .ref k6, .ref k7, .ref k8, .int i0, .int i1, .int i2, .int i3])), (h1, aI cI 20 f4), (h2, aI cI 20 f5)] sz) [(h0, .inr (0, [.ref k0, .ref k1, .ref h1, .ref h2, .ref k2, .ref k3, .ref k4, .ref k5, .ref k6, .ref k7, .ref k8, .int i0, .int i1, .int i2, .int i3])), (h1, aI cI 20 f4), (h2, aI cI 20 f5)] t) (va_A [(h0, .inr (0, [.ref k0, .ref k1, .ref h1, .ref h2, .ref k2, .ref k3, .ref k4, .ref k5, .ref k6, .ref k7, .ref k8, .int i0, .int i1, .int i2, .int i3])), (h1, aI cI 20 f4), (h2, aI cI 20 f5)] sz)) 0 0 (va_A [(h0, .inr (0, [.ref k0, .ref k1, .ref h1, .ref h2, .ref k2, .ref k3, .ref k4, .ref k5, .ref k6, .ref k7, .ref k8, .int i0, .int i1, .int i2, .int i3])), (h1, aI cI 20 f4), (h2, aI cI 20 f5)] sz) := by
  refine Met.ofW (cc := cX0_onOneSide) (maxL := 7) (ret := (some .boolean)) (by decide) rfl ?_
  intro p e s m args below meth c s₁ B hml hv
  obtain ⟨rfl, hsz, hP, hK, hD0, hN⟩ := hv
  have hx := B.exec
  have hb := B.bytes
  have hr := B.returns
  have hts : ∀ w ∈ xW, w.before _ s = true := fun w h => atoms_spec (ws := xw yX0_onOneSide cX0_onOneSide 7 (some .boolean)) B.pre w (List.mem_cons_of_mem _ h)
  have hown : s.vm.findClass RX0 = some m.cls := findClass_of_methodNamed B.named
  have hlocks := B.notSynchronized
  subst hsz
  have hD := hD0.self (sz := s.heap.size)
  clear hD0
  generalize hAe : va_A [(h0, .inr (0, [.ref k0, .ref k1, .ref h1, .ref h2, .ref k2, .ref k3, .ref k4, .ref k5, .ref k6, .ref k7, .ref k8, .int i0, .int i1, .int i2, .int i3])), (h1, aI cI 20 f4), (h2, aI cI 20 f5)] s.heap.size = A at hD ⊢
  have hA : ∀ q : Nat, s.heap.size ≤ q → A q := fun q h => by rw [← hAe]; exact Or.inr h
  clear hAe
  have hS : va_S A s.heap s.heap [] := va_S.rf
  replace hP : va_P G vwCl [(h0, .inr (0, [.ref k0, .ref k1, .ref h1, .ref h2, .ref k2, .ref k3, .ref k4, .ref k5, .ref k6, .ref k7, .ref k8, .int i0, .int i1, .int i2, .int i3])), (h1, aI cI 20 f4), (h2, aI cI 20 f5)] s.heap := hP
  have hl := lv_entry ([.ref h0, .int p0, .int p1, .int p2, .int p3]) (n := 7) (Nat.le_of_ble_eq_true rfl)
  rw [lg_entry_eq]
  generalize (lg_sl ([.ref h0, .int p0, .int p1, .int p2, .int p3]) ++ List.replicate (7 - (lg_sl ([.ref h0, .int p0, .int p1, .int p2, .int p3])).length) Slot.unset).toArray = ls at hl ⊢
  replace hl : lv_has ls 7 [(0, .ref h0), (1, .int p0), (2, .int p1), (3, .int p2), (4, .int p3)] := hl
  refine lv_aload_n hx hb dX0_onOneSide_0 rfl (lv_at hl 0 rfl) ?_
  refine lv_iload_n hx hb dX0_onOneSide_1 rfl (lv_at hl 1 rfl) ?_
  refine lv_iload_n hx hb dX0_onOneSide_2 rfl (lv_at hl 2 rfl) ?_
  refine lv_iload_n hx hb dX0_onOneSide_3 rfl (lv_at hl 3 rfl) ?_
  refine xci (wr := []) (va_runV (As := [.int p0, .int p1, .int p2]) (rest := []) ⟨hx, hb, hml, hown, hts⟩ (nX0_area l G cI cJ cZ h0 h1 h2 k0 k1 k2 k3 k4 k5 k6 k7 k8 s.heap.size i0 i1 i2 i3 f4 f5 p0 p1 p2 hy0 hy1 hy2) (cwV 3 hts (xgoodV wn_22 wn_23 wn_24 wn_25 wn_26) rfl rfl rfl (by decide +kernel) ⟨Nat.le_of_ble_eq_true rfl, Nat.le_of_ble_eq_true rfl⟩) (xPreV (q := (RX0, TX0, 15)) (q0 := 0) hK hN hP hD [0, 1, 2] (by decide) rfl rfl rfl) rfl rfl hl.1 rfl (lv_room (Nat.le_of_ble_eq_true rfl)) dX0_onOneSide_4 ⟨Nat.le_of_ble_eq_true rfl, Nat.le_of_ble_eq_true rfl⟩) hP hD hS hA [0, 1, 2] [] rfl rfl (by decide) (by decide) (fun r3 u3 H locs hw hP hD hS => ?_)
  obtain ⟨rfl, -⟩ := hw
  replace hP : va_P G vwCl [(h0, .inr (0, [.ref k0, .ref k1, .ref h1, .ref h2, .ref k2, .ref k3, .ref k4, .ref k5, .ref k6, .ref k7, .ref k8, .int i0, .int i1, .int i2, .int i3])), (h1, aI cI 20 f4), (h2, aI cI 20 f5)] H := hP
  replace hD : va_D A [(h0, .inr (0, [.ref k0, .ref k1, .ref h1, .ref h2, .ref k2, .ref k3, .ref k4, .ref k5, .ref k6, .ref k7, .ref k8, .int i0, .int i1, .int i2, .int i3])), (h1, aI cI 20 f4), (h2, aI cI 20 f5)] := hD
  refine lv_istore (lv' := [(5, .int ((((f4 (Int32.toNatClampNeg p1)) - (f4 (Int32.toNatClampNeg p0))) * ((f5 (Int32.toNatClampNeg p2)) - (f5 (Int32.toNatClampNeg p0)))) - (((f4 (Int32.toNatClampNeg p2)) - (f4 (Int32.toNatClampNeg p0))) * ((f5 (Int32.toNatClampNeg p1)) - (f5 (Int32.toNatClampNeg p0)))))), (0, .ref h0), (1, .int p0), (2, .int p1), (3, .int p2), (4, .int p3)]) hx hb dX0_onOneSide_7 hl (by decide) rfl (fun ls hl => ?_)
  refine lv_aload_n hx hb dX0_onOneSide_9 rfl (lv_at hl 1 rfl) ?_
  refine lv_iload_n hx hb dX0_onOneSide_10 rfl (lv_at hl 2 rfl) ?_
  refine lv_iload_n hx hb dX0_onOneSide_11 rfl (lv_at hl 3 rfl) ?_
  refine lv_iload hx hb dX0_onOneSide_12 (lv_at hl 5 rfl) ?_
  refine xci (wr := []) (va_runV (As := [.int p0, .int p1, .int p3]) (rest := []) ⟨hx, hb, hml, hown, hts⟩ (nX0_area l G cI cJ cZ h0 h1 h2 k0 k1 k2 k3 k4 k5 k6 k7 k8 H.size i0 i1 i2 i3 f4 f5 p0 p1 p3 hy0 hy1 hy3) (cwV 3 hts (xgoodV wn_22 wn_23 wn_24 wn_25 wn_26) rfl rfl rfl (by decide +kernel) ⟨Nat.le_of_ble_eq_true rfl, Nat.le_of_ble_eq_true rfl⟩) (xPreV (q := (RX0, TX0, 15)) (q0 := 0) hK hN hP hD [0, 1, 2] (by decide) rfl rfl rfl) rfl rfl hl.1 rfl (lv_room (Nat.le_of_ble_eq_true rfl)) dX0_onOneSide_14 ⟨Nat.le_of_ble_eq_true rfl, Nat.le_of_ble_eq_true rfl⟩) hP hD hS hA [0, 1, 2] [] rfl rfl (by decide) (by decide) (fun r4 u4 H locs hw hP hD hS => ?_)
  obtain ⟨rfl, -⟩ := hw
  replace hP : va_P G vwCl [(h0, .inr (0, [.ref k0, .ref k1, .ref h1, .ref h2, .ref k2, .ref k3, .ref k4, .ref k5, .ref k6, .ref k7, .ref k8, .int i0, .int i1, .int i2, .int i3])), (h1, aI cI 20 f4), (h2, aI cI 20 f5)] H := hP
  replace hD : va_D A [(h0, .inr (0, [.ref k0, .ref k1, .ref h1, .ref h2, .ref k2, .ref k3, .ref k4, .ref k5, .ref k6, .ref k7, .ref k8, .int i0, .int i1, .int i2, .int i3])), (h1, aI cI 20 f4), (h2, aI cI 20 f5)] := hD
  refine lv_istore (lv' := [(6, .int ((((f4 (Int32.toNatClampNeg p1)) - (f4 (Int32.toNatClampNeg p0))) * ((f5 (Int32.toNatClampNeg p3)) - (f5 (Int32.toNatClampNeg p0)))) - (((f4 (Int32.toNatClampNeg p3)) - (f4 (Int32.toNatClampNeg p0))) * ((f5 (Int32.toNatClampNeg p1)) - (f5 (Int32.toNatClampNeg p0)))))), (5, .int ((((f4 (Int32.toNatClampNeg p1)) - (f4 (Int32.toNatClampNeg p0))) * ((f5 (Int32.toNatClampNeg p2)) - (f5 (Int32.toNatClampNeg p0)))) - (((f4 (Int32.toNatClampNeg p2)) - (f4 (Int32.toNatClampNeg p0))) * ((f5 (Int32.toNatClampNeg p1)) - (f5 (Int32.toNatClampNeg p0)))))), (0, .ref h0), (1, .int p0), (2, .int p1), (3, .int p2), (4, .int p3)]) hx hb dX0_onOneSide_17 hl (by decide) rfl (fun ls hl => ?_)
  refine lv_iload hx hb dX0_onOneSide_19 (lv_at hl 1 rfl) ?_
  refine lv_if_le (tgt := 29) hx hb dX0_onOneSide_21 (by decide) (fun c25 => ?_) (fun c25 => ?_)
  · refine lv_iload hx hb dX0_onOneSide_29 (lv_at hl 1 rfl) ?_
    refine lv_if_ge (tgt := 43) hx hb dX0_onOneSide_31 (by decide) (fun c26 => ?_) (fun c26 => ?_)
    · refine lv_iconst (v := 0) hx hb dX0_onOneSide_43 (by decide) ?_
      have hP9 : va_P G vwCl [(h0, .inr (0, [.ref k0, .ref k1, .ref h1, .ref h2, .ref k2, .ref k3, .ref k4, .ref k5, .ref k6, .ref k7, .ref k8, .int i0, .int i1, .int i2, .int i3])), (h1, aI cI 20 f4), (h2, aI cI 20 f5)] H := hP.sub [0, 1, 2] rfl
      have hD9 : va_D A [(h0, .inr (0, [.ref k0, .ref k1, .ref h1, .ref h2, .ref k2, .ref k3, .ref k4, .ref k5, .ref k6, .ref k7, .ref k8, .int i0, .int i1, .int i2, .int i3])), (h1, aI cI 20 f4), (h2, aI cI 20 f5)] := hD.sub [0, 1, 2] (by decide) rfl
      exact W.zret (v := 0) hx hb hr rfl (fun t ht hW => ⟨⟨_, (), rfl, Or.inl ⟨c25, c26, rfl, trivial⟩, by rw [ht]; exact hP9, hD9⟩, hS.F ht⟩) hS.2.2 dX0_onOneSide_44
    · refine lv_iload hx hb dX0_onOneSide_34 (lv_at hl 0 rfl) ?_
      refine lv_if_ge (tgt := 43) hx hb dX0_onOneSide_36 (by decide) (fun c27 => ?_) (fun c27 => ?_)
      · refine lv_iconst (v := 0) hx hb dX0_onOneSide_43 (by decide) ?_
        have hP9 : va_P G vwCl [(h0, .inr (0, [.ref k0, .ref k1, .ref h1, .ref h2, .ref k2, .ref k3, .ref k4, .ref k5, .ref k6, .ref k7, .ref k8, .int i0, .int i1, .int i2, .int i3])), (h1, aI cI 20 f4), (h2, aI cI 20 f5)] H := hP.sub [0, 1, 2] rfl
        have hD9 : va_D A [(h0, .inr (0, [.ref k0, .ref k1, .ref h1, .ref h2, .ref k2, .ref k3, .ref k4, .ref k5, .ref k6, .ref k7, .ref k8, .int i0, .int i1, .int i2, .int i3])), (h1, aI cI 20 f4), (h2, aI cI 20 f5)] := hD.sub [0, 1, 2] (by decide) rfl
        exact W.zret (v := 0) hx hb hr rfl (fun t ht hW => ⟨⟨_, (), rfl, Or.inr (Or.inl ⟨c25, c26, c27, rfl, trivial⟩), by rw [ht]; exact hP9, hD9⟩, hS.F ht⟩) hS.2.2 dX0_onOneSide_44
      · refine lv_iconst (v := 1) hx hb dX0_onOneSide_39 (by decide) ?_
        refine lv_goto (tgt := 44) hx hb dX0_onOneSide_40 (by decide) ?_
        have hP9 : va_P G vwCl [(h0, .inr (0, [.ref k0, .ref k1, .ref h1, .ref h2, .ref k2, .ref k3, .ref k4, .ref k5, .ref k6, .ref k7, .ref k8, .int i0, .int i1, .int i2, .int i3])), (h1, aI cI 20 f4), (h2, aI cI 20 f5)] H := hP.sub [0, 1, 2] rfl
        have hD9 : va_D A [(h0, .inr (0, [.ref k0, .ref k1, .ref h1, .ref h2, .ref k2, .ref k3, .ref k4, .ref k5, .ref k6, .ref k7, .ref k8, .int i0, .int i1, .int i2, .int i3])), (h1, aI cI 20 f4), (h2, aI cI 20 f5)] := hD.sub [0, 1, 2] (by decide) rfl
        exact W.zret (v := 1) hx hb hr rfl (fun t ht hW => ⟨⟨_, (), rfl, Or.inr (Or.inr (Or.inl ⟨c25, c26, c27, rfl, trivial⟩)), by rw [ht]; exact hP9, hD9⟩, hS.F ht⟩) hS.2.2 dX0_onOneSide_44
  · refine lv_iload hx hb dX0_onOneSide_24 (lv_at hl 0 rfl) ?_
    refine lv_if_gt (tgt := 39) hx hb dX0_onOneSide_26 (by decide) (fun c28 => ?_) (fun c28 => ?_)
    · refine lv_iconst (v := 1) hx hb dX0_onOneSide_39 (by decide) ?_
      refine lv_goto (tgt := 44) hx hb dX0_onOneSide_40 (by decide) ?_
      have hP9 : va_P G vwCl [(h0, .inr (0, [.ref k0, .ref k1, .ref h1, .ref h2, .ref k2, .ref k3, .ref k4, .ref k5, .ref k6, .ref k7, .ref k8, .int i0, .int i1, .int i2, .int i3])), (h1, aI cI 20 f4), (h2, aI cI 20 f5)] H := hP.sub [0, 1, 2] rfl
      have hD9 : va_D A [(h0, .inr (0, [.ref k0, .ref k1, .ref h1, .ref h2, .ref k2, .ref k3, .ref k4, .ref k5, .ref k6, .ref k7, .ref k8, .int i0, .int i1, .int i2, .int i3])), (h1, aI cI 20 f4), (h2, aI cI 20 f5)] := hD.sub [0, 1, 2] (by decide) rfl
      exact W.zret (v := 1) hx hb hr rfl (fun t ht hW => ⟨⟨_, (), rfl, Or.inr (Or.inr (Or.inr (Or.inl ⟨c25, c28, rfl, trivial⟩))), by rw [ht]; exact hP9, hD9⟩, hS.F ht⟩) hS.2.2 dX0_onOneSide_44
    · refine lv_iload hx hb dX0_onOneSide_29 (lv_at hl 1 rfl) ?_
      refine lv_if_ge (tgt := 43) hx hb dX0_onOneSide_31 (by decide) (fun c29 => ?_) (fun c29 => ?_)
      · refine lv_iconst (v := 0) hx hb dX0_onOneSide_43 (by decide) ?_
        have hP9 : va_P G vwCl [(h0, .inr (0, [.ref k0, .ref k1, .ref h1, .ref h2, .ref k2, .ref k3, .ref k4, .ref k5, .ref k6, .ref k7, .ref k8, .int i0, .int i1, .int i2, .int i3])), (h1, aI cI 20 f4), (h2, aI cI 20 f5)] H := hP.sub [0, 1, 2] rfl
        have hD9 : va_D A [(h0, .inr (0, [.ref k0, .ref k1, .ref h1, .ref h2, .ref k2, .ref k3, .ref k4, .ref k5, .ref k6, .ref k7, .ref k8, .int i0, .int i1, .int i2, .int i3])), (h1, aI cI 20 f4), (h2, aI cI 20 f5)] := hD.sub [0, 1, 2] (by decide) rfl
        exact W.zret (v := 0) hx hb hr rfl (fun t ht hW => ⟨⟨_, (), rfl, Or.inr (Or.inr (Or.inr (Or.inr (Or.inl ⟨c25, c28, c29, rfl, trivial⟩)))), by rw [ht]; exact hP9, hD9⟩, hS.F ht⟩) hS.2.2 dX0_onOneSide_44
      · refine lv_iload hx hb dX0_onOneSide_34 (lv_at hl 0 rfl) ?_
        refine lv_if_ge (tgt := 43) hx hb dX0_onOneSide_36 (by decide) (fun c30 => ?_) (fun c30 => ?_)
        · refine lv_iconst (v := 0) hx hb dX0_onOneSide_43 (by decide) ?_
          have hP9 : va_P G vwCl [(h0, .inr (0, [.ref k0, .ref k1, .ref h1, .ref h2, .ref k2, .ref k3, .ref k4, .ref k5, .ref k6, .ref k7, .ref k8, .int i0, .int i1, .int i2, .int i3])), (h1, aI cI 20 f4), (h2, aI cI 20 f5)] H := hP.sub [0, 1, 2] rfl
          have hD9 : va_D A [(h0, .inr (0, [.ref k0, .ref k1, .ref h1, .ref h2, .ref k2, .ref k3, .ref k4, .ref k5, .ref k6, .ref k7, .ref k8, .int i0, .int i1, .int i2, .int i3])), (h1, aI cI 20 f4), (h2, aI cI 20 f5)] := hD.sub [0, 1, 2] (by decide) rfl
          exact W.zret (v := 0) hx hb hr rfl (fun t ht hW => ⟨⟨_, (), rfl, Or.inr (Or.inr (Or.inr (Or.inr (Or.inr (Or.inl ⟨c25, c28, c29, c30, rfl, trivial⟩))))), by rw [ht]; exact hP9, hD9⟩, hS.F ht⟩) hS.2.2 dX0_onOneSide_44
        · refine lv_iconst (v := 1) hx hb dX0_onOneSide_39 (by decide) ?_
          refine lv_goto (tgt := 44) hx hb dX0_onOneSide_40 (by decide) ?_
          have hP9 : va_P G vwCl [(h0, .inr (0, [.ref k0, .ref k1, .ref h1, .ref h2, .ref k2, .ref k3, .ref k4, .ref k5, .ref k6, .ref k7, .ref k8, .int i0, .int i1, .int i2, .int i3])), (h1, aI cI 20 f4), (h2, aI cI 20 f5)] H := hP.sub [0, 1, 2] rfl
          have hD9 : va_D A [(h0, .inr (0, [.ref k0, .ref k1, .ref h1, .ref h2, .ref k2, .ref k3, .ref k4, .ref k5, .ref k6, .ref k7, .ref k8, .int i0, .int i1, .int i2, .int i3])), (h1, aI cI 20 f4), (h2, aI cI 20 f5)] := hD.sub [0, 1, 2] (by decide) rfl
          exact W.zret (v := 1) hx hb hr rfl (fun t ht hW => ⟨⟨_, (), rfl, Or.inr (Or.inr (Or.inr (Or.inr (Or.inr (Or.inr (⟨c25, c28, c29, c30, rfl, trivial⟩)))))), by rw [ht]; exact hP9, hD9⟩, hS.F ht⟩) hS.2.2 dX0_onOneSide_44

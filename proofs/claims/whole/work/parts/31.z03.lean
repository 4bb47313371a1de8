def wLX5_part_12 (i1 : Int32) (p0 : Int64) (p1 : Int64) (K : Int32 → (Int32 × (Nat → Int64) × (Nat → Int64)) → Prop)  : Nat → (Nat → Int64) → (Nat → Int64) → Int32 → Int64 → Int64 → Int32 → Prop
  | 0, _, _, _, _, _, _ => False
  | n12 + 1, t12_0, t12_1, t12_2, t12_3, t12_4, t12_5 => ((i1 ≤ t12_2 → (vp_in t12_5 58 ∧ (∀ g136 : Nat → Int64, g136 = vp_updL t12_0 (Int32.toNatClampNeg t12_5) t12_3 → (vp_in t12_5 58 ∧ (∀ g145 : Nat → Int64, g145 = vp_updL t12_1 (Int32.toNatClampNeg t12_5) t12_4 → (∀ v151 : Int32, v151 = (t12_5 + 1) → ((¬ (lg_cmp (t12_3 &&& t12_4) (0 : Int64)) = 0 → K (0 : Int32) (v151, g136, g145)) ∧ ((lg_cmp (t12_3 &&& t12_4) (0 : Int64)) = 0 → K (1 : Int32) (v151, g136, g145))))))))) ∧ (¬ i1 ≤ t12_2 → (vp_in t12_2 58 ∧ (∀ v28 : Int64, v28 = (t12_0 (Int32.toNatClampNeg t12_2)) → (vp_in t12_2 58 ∧ (∀ v37 : Int64, v37 = (t12_1 (Int32.toNatClampNeg t12_2)) → ((¬ (lg_cmp ((v28 ||| v37) &&& (p0 ||| p1)) (0 : Int64)) = 0 → (((lg_cmp ((v28 &&& p0) ||| (v37 &&& p1)) (0 : Int64)) = 0 → (∀ v113 : Int64, v113 = (t12_3 ||| v37) → (∀ v120 : Int64, v120 = (t12_4 ||| v28) → (wLX5_part_12 i1 p0 p1 K  n12) t12_0 t12_1 (t12_2 + 1) v113 v120 t12_5))) ∧ (¬ (lg_cmp ((v28 &&& p0) ||| (v37 &&& p1)) (0 : Int64)) = 0 → (∀ v96 : Int64, v96 = (t12_3 ||| v28) → (∀ v103 : Int64, v103 = (t12_4 ||| v37) → (wLX5_part_12 i1 p0 p1 K  n12) t12_0 t12_1 (t12_2 + 1) v96 v103 t12_5))))) ∧ ((lg_cmp ((v28 ||| v37) &&& (p0 ||| p1)) (0 : Int64)) = 0 → (vp_in t12_5 58 ∧ (∀ g61 : Nat → Int64, g61 = vp_updL t12_0 (Int32.toNatClampNeg t12_5) v28 → (vp_in t12_5 58 ∧ (∀ g70 : Nat → Int64, g70 = vp_updL t12_1 (Int32.toNatClampNeg t12_5) v37 → (wLX5_part_12 i1 p0 p1 K  n12) g61 g70 (t12_2 + 1) t12_3 t12_4 (t12_5 + 1)))))))))))))
def wX5_part (i0 : Int32) (i1 : Int32) (f2 : Nat → Int64) (f3 : Nat → Int64) (p0 : Int64) (p1 : Int64) (K : Int32 → (Int32 × (Nat → Int64) × (Nat → Int64)) → Prop) : Prop := (∃ n12, wLX5_part_12 i1 p0 p1 K  n12 f2 f3 0 p0 p1 0)
set_option maxHeartbeats 4000000 in
set_option maxRecDepth 100000 in
theorem zX5_part (l : Launch) (G : va_G) (cI cJ cZ : ClassId) (h0 h1 h2 k0 k1 k2 k3 k4 k5 k6 k7 sz : Nat) (i0 : Int32) (i1 : Int32) (f2 : Nat → Int64) (f3 : Nat → Int64) (p0 : Int64) (p1 : Int64) (K : Int32 → (Int32 × (Nat → Int64) × (Nat → Int64)) → Prop) (hwp : wX5_part i0 i1 f2 f3 p0 p1 K) : Met l yX5_part (xw yX5_part cX5_part 15 (some .boolean)) ({ frames := 0, cells := 0, slots := 0, locals := 0 }) (xPc G cI cJ cZ [.ref h0, .long p0, .long p1] [(h0, .inr (5, [.ref k0, .ref k1, .ref k2, .ref k3, .ref k4, .ref k5, .ref k6, .ref k7, .ref h1, .ref h2, .int i0, .int i1])), (h1, aJ cJ 58 f2), (h2, aJ cJ 58 f3)] sz) (va_Qi (fun (r : Int32) (u : Int32 × (Nat → Int64) × (Nat → Int64)) => K r u) (fun (u : Int32 × (Nat → Int64) × (Nat → Int64)) t => xB G (va_A [(h0, .inr (5, [.ref k0, .ref k1, .ref k2, .ref k3, .ref k4, .ref k5, .ref k6, .ref k7, .ref h1, .ref h2, .int i0, .int i1])), (h1, aJ cJ 58 f2), (h2, aJ cJ 58 f3)] sz) [(h0, .inr (5, [.ref k0, .ref k1, .ref k2, .ref k3, .ref k4, .ref k5, .ref k6, .ref k7, .ref h1, .ref h2, .int i0, .int u.1])), (h1, aJ cJ 58 u.2.1), (h2, aJ cJ 58 u.2.2)] t) (va_A [(h0, .inr (5, [.ref k0, .ref k1, .ref k2, .ref k3, .ref k4, .ref k5, .ref k6, .ref k7, .ref h1, .ref h2, .int i0, .int i1])), (h1, aJ cJ 58 f2), (h2, aJ cJ 58 f3)] sz)) 0 0 (va_A [(h0, .inr (5, [.ref k0, .ref k1, .ref k2, .ref k3, .ref k4, .ref k5, .ref k6, .ref k7, .ref h1, .ref h2, .int i0, .int i1])), (h1, aJ cJ 58 f2), (h2, aJ cJ 58 f3)] sz) := by
  refine Met.ofW (cc := cX5_part) (maxL := 15) (ret := (some .boolean)) (by decide) rfl ?_
  intro p e s m args below meth c s₁ B hml hv
  obtain ⟨rfl, hsz, hP, hK, hD0, hN⟩ := hv
  have hx := B.exec
  have hb := B.bytes
  have hr := B.returns
  have hts : ∀ w ∈ xW, w.before _ s = true := fun w h => atoms_spec (ws := xw yX5_part cX5_part 15 (some .boolean)) B.pre w (List.mem_cons_of_mem _ h)
  have hown : s.vm.findClass RX5 = some m.cls := findClass_of_methodNamed B.named
  have hlocks := B.notSynchronized
  subst hsz
  have hD := hD0.self (sz := s.heap.size)
  clear hD0
  generalize hAe : va_A [(h0, .inr (5, [.ref k0, .ref k1, .ref k2, .ref k3, .ref k4, .ref k5, .ref k6, .ref k7, .ref h1, .ref h2, .int i0, .int i1])), (h1, aJ cJ 58 f2), (h2, aJ cJ 58 f3)] s.heap.size = A at hD ⊢
  have hA : ∀ q : Nat, s.heap.size ≤ q → A q := fun q h => by rw [← hAe]; exact Or.inr h
  clear hAe
  have hS : va_S A s.heap s.heap [] := va_S.rf
  replace hP : va_P G vwCl [(h0, .inr (5, [.ref k0, .ref k1, .ref k2, .ref k3, .ref k4, .ref k5, .ref k6, .ref k7, .ref h1, .ref h2, .int i0, .int i1])), (h1, aJ cJ 58 f2), (h2, aJ cJ 58 f3)] s.heap := hP
  have hl := lv_entry ([.ref h0, .long p0, .long p1]) (n := 15) (Nat.le_of_ble_eq_true rfl)
  rw [lg_entry_eq]
  generalize (lg_sl ([.ref h0, .long p0, .long p1]) ++ List.replicate (15 - (lg_sl ([.ref h0, .long p0, .long p1])).length) Slot.unset).toArray = ls at hl ⊢
  replace hl : lv_has ls 15 [(0, .ref h0), (1, .long p0), (3, .long p1)] := hl
  generalize hQQ : MQ below _ _ s 0 0 _ = QQ
  skip
  unfold wX5_part at hwp
  refine lv_lload_n hx hb dX5_part_0 rfl (lv_at hl 1 rfl) ?_
  refine lv_lstore (lv' := [(5, .long p0), (0, .ref h0), (1, .long p0), (3, .long p1)]) hx hb dX5_part_1 hl (by decide) rfl (fun ls hl => ?_)
  refine lv_lload_n hx hb dX5_part_3 rfl (lv_at hl 3 rfl) ?_
  refine lv_lstore (lv' := [(7, .long p1), (5, .long p0), (0, .ref h0), (1, .long p0), (3, .long p1)]) hx hb dX5_part_4 hl (by decide) rfl (fun ls hl => ?_)
  refine lv_iconst (v := 0) hx hb dX5_part_6 (by decide) ?_
  refine lv_istore (lv' := [(9, .int 0), (7, .long p1), (5, .long p0), (0, .ref h0), (1, .long p0), (3, .long p1)]) hx hb dX5_part_7 hl (by decide) rfl (fun ls hl => ?_)
  refine lv_iconst (v := 0) hx hb dX5_part_9 (by decide) ?_
  refine lv_istore (lv' := [(10, .int 0), (9, .int 0), (7, .long p1), (5, .long p0), (0, .ref h0), (1, .long p0), (3, .long p1)]) hx hb dX5_part_10 hl (by decide) rfl (fun ls hl => ?_)
  refine xgen (Pp := fun H locs => W p l e _ s m _ below meth c H locs _ _ _ _) (fun H locs hP hD hS => ?_) hP hD hS
  replace hl : lv_has ls 15 [(10, .int 0), (9, .int 0), (7, .long p1), (5, .long p0), (0, .ref h0), (1, .long p0), (3, .long p1)] := lv_sub hl [0, 1, 2, 3, 4, 5, 6] rfl
  obtain ⟨n1, hwp⟩ := hwp
  have hs1 : ∀ (n1 : Nat) (H : Heap) (locs : List Loc) (ls : Array Slot) (t12_0 : Nat → Int64) (t12_1 : Nat → Int64) (t12_2 : Int32) (t12_3 : Int64) (t12_4 : Int64) (t12_5 : Int32), wLX5_part_12 i1 p0 p1 K  n1 t12_0 t12_1 t12_2 t12_3 t12_4 t12_5 → va_P G vwCl [(h0, .inr (5, [.ref k0, .ref k1, .ref k2, .ref k3, .ref k4, .ref k5, .ref k6, .ref k7, .ref h1, .ref h2, .int i0, .int i1])), (h1, aJ cJ 58 t12_0), (h2, aJ cJ 58 t12_1)] H → va_D A [(h0, .inr (5, [.ref k0, .ref k1, .ref k2, .ref k3, .ref k4, .ref k5, .ref k6, .ref k7, .ref h1, .ref h2, .int i0, .int i1])), (h1, aJ cJ 58 t12_0), (h2, aJ cJ 58 t12_1)] → va_S A s.heap H locs → lv_has ls 15 [(10, .int t12_2), (9, .int t12_5), (7, .long t12_4), (5, .long t12_3), (0, .ref h0), (1, .long p0), (3, .long p1)] → W p l e ((headSpec (xw yX5_part cX5_part 15 (some .boolean)) { frames := 0, cells := 0, slots := 0, locals := 0 }).room) s m ([.ref h0, .long p0, .long p1] : List Value).toArray below meth c H locs 0 0 QQ (F0 m 12 ls []) := by
    intro n1
    induction n1 with
    | zero => intro H locs ls t12_0 t12_1 t12_2 t12_3 t12_4 t12_5 hwp; exact False.elim hwp
    | succ n1 ih1 =>
      intro H locs ls t12_0 t12_1 t12_2 t12_3 t12_4 t12_5 hwp hP hD hS hl
      rw [wLX5_part_12] at hwp
      refine lv_iload hx hb dX5_part_12 (lv_at hl 0 rfl) ?_
      refine lv_aload_n hx hb dX5_part_14 rfl (lv_at hl 4 rfl) ?_
      refine va_get (D := G) (ci := 5) (v := .int i1) (C := RX5) (T := TX5) (N := 12) hx hb hts xinX5 hown hK hP 0 rfl rfl 11 (by decide) (hts _ wo_118) (fun _ h9 => h9) rfl dX5_part_15 ?_
      refine lv_icmp_ge (tgt := 128) hx hb dX5_part_18 (by decide) (fun c18 => ?_) (fun c18 => ?_)
      · replace hwp := hwp.1 c18
        refine lv_aload_n hx hb dX5_part_128 rfl (lv_at hl 4 rfl) ?_
        refine va_get (D := G) (ci := 5) (v := .ref h1) (C := RX5) (T := TX5) (N := 12) hx hb hts xinX5 hown hK hP 0 rfl rfl 8 (by decide) (hts _ wo_119) (fun _ h9 => h9) rfl dX5_part_129 ?_
        refine lv_iload hx hb dX5_part_132 (lv_at hl 1 rfl) ?_
        refine lv_lload hx hb dX5_part_134 (lv_at hl 3 rfl) ?_
        obtain ⟨hi, hwp⟩ := hwp
        refine va_last hx hb hK hP hD hS 1 1 rfl rfl hi dX5_part_136 (fun H locs hP hD hS => ?_)
        obtain ⟨g136, eg136⟩ : ∃ z, z = vp_updL t12_0 (Int32.toNatClampNeg t12_5) t12_3 := ⟨_, rfl⟩
        replace hwp := hwp g136 eg136
        replace hP : va_P G vwCl [(h0, .inr (5, [.ref k0, .ref k1, .ref k2, .ref k3, .ref k4, .ref k5, .ref k6, .ref k7, .ref h1, .ref h2, .int i0, .int i1])), (h1, aJ cJ 58 g136), (h2, aJ cJ 58 t12_1)] H := by rw [eg136]; exact hP
        replace hD : va_D A [(h0, .inr (5, [.ref k0, .ref k1, .ref k2, .ref k3, .ref k4, .ref k5, .ref k6, .ref k7, .ref h1, .ref h2, .int i0, .int i1])), (h1, aJ cJ 58 g136), (h2, aJ cJ 58 t12_1)] := by rw [eg136]; exact hD
        clear eg136
        refine lv_aload_n hx hb dX5_part_137 rfl (lv_at hl 4 rfl) ?_
        refine va_get (D := G) (ci := 5) (v := .ref h2) (C := RX5) (T := TX5) (N := 12) hx hb hts xinX5 hown hK hP 0 rfl rfl 9 (by decide) (hts _ wo_120) (fun _ h9 => h9) rfl dX5_part_138 ?_
        refine lv_iload hx hb dX5_part_141 (lv_at hl 1 rfl) ?_
        refine lv_lload hx hb dX5_part_143 (lv_at hl 2 rfl) ?_
        obtain ⟨hi, hwp⟩ := hwp
        refine va_last hx hb hK hP hD hS 2 1 rfl rfl hi dX5_part_145 (fun H locs hP hD hS => ?_)
        obtain ⟨g145, eg145⟩ : ∃ z, z = vp_updL t12_1 (Int32.toNatClampNeg t12_5) t12_4 := ⟨_, rfl⟩
        replace hwp := hwp g145 eg145
        replace hP : va_P G vwCl [(h0, .inr (5, [.ref k0, .ref k1, .ref k2, .ref k3, .ref k4, .ref k5, .ref k6, .ref k7, .ref h1, .ref h2, .int i0, .int i1])), (h1, aJ cJ 58 g136), (h2, aJ cJ 58 g145)] H := by rw [eg145]; exact hP
        replace hD : va_D A [(h0, .inr (5, [.ref k0, .ref k1, .ref k2, .ref k3, .ref k4, .ref k5, .ref k6, .ref k7, .ref h1, .ref h2, .int i0, .int i1])), (h1, aJ cJ 58 g136), (h2, aJ cJ 58 g145)] := by rw [eg145]; exact hD
        clear eg145
        refine lv_aload_n hx hb dX5_part_146 rfl (lv_at hl 4 rfl) ?_
        refine lv_iload hx hb dX5_part_147 (lv_at hl 1 rfl) ?_
        refine lv_iconst (v := 1) hx hb dX5_part_149 (by decide) ?_
        refine lv_iadd hx hb dX5_part_150 ?_
        refine lv_topi (fun v151 ev151 => ?_)
        replace hwp := hwp v151 ev151
        clear ev151
        refine va_put (D := G) (ci := 5) (v := .int v151) (ty := .int) (C := RX5) (T := TX5) (N := 12) hx hb hts xinX5 tyX5 tyX5_ok nmX5 hown hK hP hD hS 0 rfl rfl 11 (by decide) (hts _ wo_118) (fun _ h9 => h9) rfl (by decide +kernel) rfl rfl (Nat.le_of_ble_eq_true rfl) dX5_part_151 (fun H locs hP hD hS => ?_)
        replace hP : va_P G vwCl [(h0, .inr (5, [.ref k0, .ref k1, .ref k2, .ref k3, .ref k4, .ref k5, .ref k6, .ref k7, .ref h1, .ref h2, .int i0, .int v151])), (h1, aJ cJ 58 g136), (h2, aJ cJ 58 g145)] H := hP
        replace hD : va_D A [(h0, .inr (5, [.ref k0, .ref k1, .ref k2, .ref k3, .ref k4, .ref k5, .ref k6, .ref k7, .ref h1, .ref h2, .int i0, .int v151])), (h1, aJ cJ 58 g136), (h2, aJ cJ 58 g145)] := hD
        refine lv_lload hx hb dX5_part_154 (lv_at hl 3 rfl) ?_
        refine lv_lload hx hb dX5_part_156 (lv_at hl 2 rfl) ?_
        refine lv_land hx hb dX5_part_158 ?_
        refine lv_lconst (v := 0) hx hb dX5_part_159 rfl ?_
        refine W.lcmp hx hb dX5_part_160 ?_
        refine lv_if_ne (tgt := 168) hx hb dX5_part_161 (by decide) (fun c161 => ?_) (fun c161 => ?_)
        · replace hwp := hwp.1 c161
          refine lv_iconst (v := 0) hx hb dX5_part_168 (by decide) ?_
          have hP9 : va_P G vwCl [(h0, .inr (5, [.ref k0, .ref k1, .ref k2, .ref k3, .ref k4, .ref k5, .ref k6, .ref k7, .ref h1, .ref h2, .int i0, .int v151])), (h1, aJ cJ 58 g136), (h2, aJ cJ 58 g145)] H := hP.sub [0, 1, 2] rfl
          have hD9 : va_D A [(h0, .inr (5, [.ref k0, .ref k1, .ref k2, .ref k3, .ref k4, .ref k5, .ref k6, .ref k7, .ref h1, .ref h2, .int i0, .int v151])), (h1, aJ cJ 58 g136), (h2, aJ cJ 58 g145)] := hD.sub [0, 1, 2] (by decide) rfl
          rw [← hQQ]
          exact W.zret (v := 0) hx hb hr rfl (fun t ht hW => ⟨⟨_, (v151, g136, g145), rfl, hwp, by rw [ht]; exact hP9, hD9⟩, hS.F ht⟩) hS.2.2 dX5_part_169
        · replace hwp := hwp.2 c161
          refine lv_iconst (v := 1) hx hb dX5_part_164 (by decide) ?_
          refine lv_goto (tgt := 169) hx hb dX5_part_165 (by decide) ?_
          have hP9 : va_P G vwCl [(h0, .inr (5, [.ref k0, .ref k1, .ref k2, .ref k3, .ref k4, .ref k5, .ref k6, .ref k7, .ref h1, .ref h2, .int i0, .int v151])), (h1, aJ cJ 58 g136), (h2, aJ cJ 58 g145)] H := hP.sub [0, 1, 2] rfl
          have hD9 : va_D A [(h0, .inr (5, [.ref k0, .ref k1, .ref k2, .ref k3, .ref k4, .ref k5, .ref k6, .ref k7, .ref h1, .ref h2, .int i0, .int v151])), (h1, aJ cJ 58 g136), (h2, aJ cJ 58 g145)] := hD.sub [0, 1, 2] (by decide) rfl
          rw [← hQQ]
          exact W.zret (v := 1) hx hb hr rfl (fun t ht hW => ⟨⟨_, (v151, g136, g145), rfl, hwp, by rw [ht]; exact hP9, hD9⟩, hS.F ht⟩) hS.2.2 dX5_part_169
      · replace hwp := hwp.2 c18
        refine lv_aload_n hx hb dX5_part_21 rfl (lv_at hl 4 rfl) ?_
        refine va_get (D := G) (ci := 5) (v := .ref h1) (C := RX5) (T := TX5) (N := 12) hx hb hts xinX5 hown hK hP 0 rfl rfl 8 (by decide) (hts _ wo_119) (fun _ h9 => h9) rfl dX5_part_22 ?_
        refine lv_iload hx hb dX5_part_25 (lv_at hl 0 rfl) ?_
        obtain ⟨hi, hwp⟩ := hwp
        refine va_lald hx hb hK hP 1 1 rfl rfl hi dX5_part_27 ?_
        refine lv_topl (fun v28 ev28 => ?_)
        replace hwp := hwp v28 ev28
        clear ev28
        refine lv_lstore (lv' := [(11, .long v28), (10, .int t12_2), (9, .int t12_5), (7, .long t12_4), (5, .long t12_3), (0, .ref h0), (1, .long p0), (3, .long p1)]) hx hb dX5_part_28 hl (by decide) rfl (fun ls hl => ?_)
        refine lv_aload_n hx hb dX5_part_30 rfl (lv_at hl 5 rfl) ?_
        refine va_get (D := G) (ci := 5) (v := .ref h2) (C := RX5) (T := TX5) (N := 12) hx hb hts xinX5 hown hK hP 0 rfl rfl 9 (by decide) (hts _ wo_120) (fun _ h9 => h9) rfl dX5_part_31 ?_
        refine lv_iload hx hb dX5_part_34 (lv_at hl 1 rfl) ?_
        obtain ⟨hi, hwp⟩ := hwp
        refine va_lald hx hb hK hP 2 1 rfl rfl hi dX5_part_36 ?_
        refine lv_topl (fun v37 ev37 => ?_)
        replace hwp := hwp v37 ev37
        clear ev37
        refine lv_lstore (lv' := [(13, .long v37), (11, .long v28), (10, .int t12_2), (9, .int t12_5), (7, .long t12_4), (5, .long t12_3), (0, .ref h0), (1, .long p0), (3, .long p1)]) hx hb dX5_part_37 hl (by decide) rfl (fun ls hl => ?_)
        refine lv_lload hx hb dX5_part_39 (lv_at hl 1 rfl) ?_
        refine lv_lload hx hb dX5_part_41 (lv_at hl 0 rfl) ?_
        refine lv_lor hx hb dX5_part_43 ?_
        refine lv_lload_n hx hb dX5_part_44 rfl (lv_at hl 7 rfl) ?_
        refine lv_lload_n hx hb dX5_part_45 rfl (lv_at hl 8 rfl) ?_
        refine lv_lor hx hb dX5_part_46 ?_
        refine lv_land hx hb dX5_part_47 ?_
        refine lv_lconst (v := 0) hx hb dX5_part_48 rfl ?_
        refine W.lcmp hx hb dX5_part_49 ?_
        refine lv_if_ne (tgt := 77) hx hb dX5_part_50 (by decide) (fun c50 => ?_) (fun c50 => ?_)
        · replace hwp := hwp.1 c50
          refine lv_lload hx hb dX5_part_77 (lv_at hl 1 rfl) ?_
          refine lv_lload_n hx hb dX5_part_79 rfl (lv_at hl 7 rfl) ?_
          refine lv_land hx hb dX5_part_80 ?_
          refine lv_lload hx hb dX5_part_81 (lv_at hl 0 rfl) ?_
          refine lv_lload_n hx hb dX5_part_83 rfl (lv_at hl 8 rfl) ?_
          refine lv_land hx hb dX5_part_84 ?_
          refine lv_lor hx hb dX5_part_85 ?_
          refine lv_lconst (v := 0) hx hb dX5_part_86 rfl ?_
          refine W.lcmp hx hb dX5_part_87 ?_
          refine lv_if_eq (tgt := 108) hx hb dX5_part_88 (by decide) (fun c88 => ?_) (fun c88 => ?_)
          · replace hwp := hwp.1 c88
            refine lv_lload hx hb dX5_part_108 (lv_at hl 5 rfl) ?_
            refine lv_lload hx hb dX5_part_110 (lv_at hl 0 rfl) ?_
            refine lv_lor hx hb dX5_part_112 ?_
            refine lv_topl (fun v113 ev113 => ?_)
            replace hwp := hwp v113 ev113
            clear ev113
            refine lv_lstore (lv' := [(5, .long v113), (13, .long v37), (11, .long v28), (10, .int t12_2), (9, .int t12_5), (7, .long t12_4), (0, .ref h0), (1, .long p0), (3, .long p1)]) hx hb dX5_part_113 hl (by decide) rfl (fun ls hl => ?_)
            refine lv_lload hx hb dX5_part_115 (lv_at hl 5 rfl) ?_
            refine lv_lload hx hb dX5_part_117 (lv_at hl 2 rfl) ?_
            refine lv_lor hx hb dX5_part_119 ?_
            refine lv_topl (fun v120 ev120 => ?_)
            replace hwp := hwp v120 ev120
            clear ev120
            refine lv_lstore (lv' := [(7, .long v120), (5, .long v113), (13, .long v37), (11, .long v28), (10, .int t12_2), (9, .int t12_5), (0, .ref h0), (1, .long p0), (3, .long p1)]) hx hb dX5_part_120 hl (by decide) rfl (fun ls hl => ?_)
            refine lv_iinc (v := (t12_2 + 1)) (lv' := [(10, .int (t12_2 + 1)), (7, .long v120), (5, .long v113), (13, .long v37), (11, .long v28), (9, .int t12_5), (0, .ref h0), (1, .long p0), (3, .long p1)]) hx hb dX5_part_122 hl (k := 4) rfl rfl (by decide) rfl (fun ls hl => ?_)
            refine lv_goto (tgt := 12) hx hb dX5_part_125 (by decide) ?_
            replace hl : lv_has ls 15 [(10, .int (t12_2 + 1)), (9, .int t12_5), (7, .long v120), (5, .long v113), (0, .ref h0), (1, .long p0), (3, .long p1)] := lv_sub hl [0, 5, 1, 2, 6, 7, 8] rfl
            exact ih1 H locs ls t12_0 t12_1 (t12_2 + 1) v113 v120 t12_5 hwp hP hD hS hl
          · replace hwp := hwp.2 c88
            refine lv_lload hx hb dX5_part_91 (lv_at hl 5 rfl) ?_
            refine lv_lload hx hb dX5_part_93 (lv_at hl 1 rfl) ?_
            refine lv_lor hx hb dX5_part_95 ?_
            refine lv_topl (fun v96 ev96 => ?_)
            replace hwp := hwp v96 ev96
            clear ev96
            refine lv_lstore (lv' := [(5, .long v96), (13, .long v37), (11, .long v28), (10, .int t12_2), (9, .int t12_5), (7, .long t12_4), (0, .ref h0), (1, .long p0), (3, .long p1)]) hx hb dX5_part_96 hl (by decide) rfl (fun ls hl => ?_)
            refine lv_lload hx hb dX5_part_98 (lv_at hl 5 rfl) ?_
            refine lv_lload hx hb dX5_part_100 (lv_at hl 1 rfl) ?_
            refine lv_lor hx hb dX5_part_102 ?_
            refine lv_topl (fun v103 ev103 => ?_)
            replace hwp := hwp v103 ev103
            clear ev103
            refine lv_lstore (lv' := [(7, .long v103), (5, .long v96), (13, .long v37), (11, .long v28), (10, .int t12_2), (9, .int t12_5), (0, .ref h0), (1, .long p0), (3, .long p1)]) hx hb dX5_part_103 hl (by decide) rfl (fun ls hl => ?_)
            refine lv_goto (tgt := 122) hx hb dX5_part_105 (by decide) ?_
            refine lv_iinc (v := (t12_2 + 1)) (lv' := [(10, .int (t12_2 + 1)), (7, .long v103), (5, .long v96), (13, .long v37), (11, .long v28), (9, .int t12_5), (0, .ref h0), (1, .long p0), (3, .long p1)]) hx hb dX5_part_122 hl (k := 4) rfl rfl (by decide) rfl (fun ls hl => ?_)
            refine lv_goto (tgt := 12) hx hb dX5_part_125 (by decide) ?_
            replace hl : lv_has ls 15 [(10, .int (t12_2 + 1)), (9, .int t12_5), (7, .long v103), (5, .long v96), (0, .ref h0), (1, .long p0), (3, .long p1)] := lv_sub hl [0, 5, 1, 2, 6, 7, 8] rfl
            exact ih1 H locs ls t12_0 t12_1 (t12_2 + 1) v96 v103 t12_5 hwp hP hD hS hl
        · replace hwp := hwp.2 c50
          refine lv_aload_n hx hb dX5_part_53 rfl (lv_at hl 6 rfl) ?_
          refine va_get (D := G) (ci := 5) (v := .ref h1) (C := RX5) (T := TX5) (N := 12) hx hb hts xinX5 hown hK hP 0 rfl rfl 8 (by decide) (hts _ wo_119) (fun _ h9 => h9) rfl dX5_part_54 ?_
          refine lv_iload hx hb dX5_part_57 (lv_at hl 3 rfl) ?_
          refine lv_lload hx hb dX5_part_59 (lv_at hl 1 rfl) ?_
          obtain ⟨hi, hwp⟩ := hwp
          refine va_last hx hb hK hP hD hS 1 1 rfl rfl hi dX5_part_61 (fun H locs hP hD hS => ?_)
          obtain ⟨g61, eg61⟩ : ∃ z, z = vp_updL t12_0 (Int32.toNatClampNeg t12_5) v28 := ⟨_, rfl⟩
          replace hwp := hwp g61 eg61
          replace hP : va_P G vwCl [(h0, .inr (5, [.ref k0, .ref k1, .ref k2, .ref k3, .ref k4, .ref k5, .ref k6, .ref k7, .ref h1, .ref h2, .int i0, .int i1])), (h1, aJ cJ 58 g61), (h2, aJ cJ 58 t12_1)] H := by rw [eg61]; exact hP
          replace hD : va_D A [(h0, .inr (5, [.ref k0, .ref k1, .ref k2, .ref k3, .ref k4, .ref k5, .ref k6, .ref k7, .ref h1, .ref h2, .int i0, .int i1])), (h1, aJ cJ 58 g61), (h2, aJ cJ 58 t12_1)] := by rw [eg61]; exact hD
          clear eg61
          refine lv_aload_n hx hb dX5_part_62 rfl (lv_at hl 6 rfl) ?_
          refine va_get (D := G) (ci := 5) (v := .ref h2) (C := RX5) (T := TX5) (N := 12) hx hb hts xinX5 hown hK hP 0 rfl rfl 9 (by decide) (hts _ wo_120) (fun _ h9 => h9) rfl dX5_part_63 ?_
          refine lv_iload hx hb dX5_part_66 (lv_at hl 3 rfl) ?_
          refine lv_lload hx hb dX5_part_68 (lv_at hl 0 rfl) ?_
          obtain ⟨hi, hwp⟩ := hwp
          refine va_last hx hb hK hP hD hS 2 1 rfl rfl hi dX5_part_70 (fun H locs hP hD hS => ?_)
          obtain ⟨g70, eg70⟩ : ∃ z, z = vp_updL t12_1 (Int32.toNatClampNeg t12_5) v37 := ⟨_, rfl⟩
          replace hwp := hwp g70 eg70
          replace hP : va_P G vwCl [(h0, .inr (5, [.ref k0, .ref k1, .ref k2, .ref k3, .ref k4, .ref k5, .ref k6, .ref k7, .ref h1, .ref h2, .int i0, .int i1])), (h1, aJ cJ 58 g61), (h2, aJ cJ 58 g70)] H := by rw [eg70]; exact hP
          replace hD : va_D A [(h0, .inr (5, [.ref k0, .ref k1, .ref k2, .ref k3, .ref k4, .ref k5, .ref k6, .ref k7, .ref h1, .ref h2, .int i0, .int i1])), (h1, aJ cJ 58 g61), (h2, aJ cJ 58 g70)] := by rw [eg70]; exact hD
          clear eg70
          refine lv_iinc (v := (t12_5 + 1)) (lv' := [(9, .int (t12_5 + 1)), (13, .long v37), (11, .long v28), (10, .int t12_2), (7, .long t12_4), (5, .long t12_3), (0, .ref h0), (1, .long p0), (3, .long p1)]) hx hb dX5_part_71 hl (k := 3) rfl rfl (by decide) rfl (fun ls hl => ?_)
          refine lv_goto (tgt := 122) hx hb dX5_part_74 (by decide) ?_
          refine lv_iinc (v := (t12_2 + 1)) (lv' := [(10, .int (t12_2 + 1)), (9, .int (t12_5 + 1)), (13, .long v37), (11, .long v28), (7, .long t12_4), (5, .long t12_3), (0, .ref h0), (1, .long p0), (3, .long p1)]) hx hb dX5_part_122 hl (k := 3) rfl rfl (by decide) rfl (fun ls hl => ?_)
          refine lv_goto (tgt := 12) hx hb dX5_part_125 (by decide) ?_
          replace hl : lv_has ls 15 [(10, .int (t12_2 + 1)), (9, .int (t12_5 + 1)), (7, .long t12_4), (5, .long t12_3), (0, .ref h0), (1, .long p0), (3, .long p1)] := lv_sub hl [0, 1, 4, 5, 6, 7, 8] rfl
          exact ih1 H locs ls g61 g70 (t12_2 + 1) t12_3 t12_4 (t12_5 + 1) hwp hP hD hS hl
  exact hs1 n1 H locs ls f2 f3 0 p0 p1 0 hwp hP hD hS hl
def wLX5_sidesFit_9 (i0 : Int32) (f2 : Nat → Int64) (f3 : Nat → Int32) (f4 : Nat → Int64) (t2_3 : Int32) (K : Int32 → (Int32 × (Nat → Int64) × (Nat → Int64)) → Prop) (B2_1 : (Nat → Int64) → (Nat → Int64) → Int32 → Int32 → Prop) : Nat → (Nat → Int64) → (Nat → Int64) → Int32 → Int32 → Prop
  | 0, _, _, _, _ => False
  | n9 + 1, t9_0, t9_1, t9_2, t9_3 => ((t2_3 ≤ t9_3 → B2_1 t9_0 t9_1 t9_2 (t2_3 + 1)) ∧ (¬ t2_3 ≤ t9_3 → (vp_in t2_3 21 ∧ (vp_in t9_3 21 ∧ (vp_in ((f3 (Int32.toNatClampNeg t9_3)) + 1) 22 ∧ (∀ v38 : Int64, v38 = ((f2 (Int32.toNatClampNeg t2_3)) &&& ((f4 (Int32.toNatClampNeg ((f3 (Int32.toNatClampNeg t9_3)) + 1))) ^^^ (-1 : Int64))) → (vp_in t9_3 21 ∧ (vp_in t2_3 21 ∧ (vp_in ((f3 (Int32.toNatClampNeg t2_3)) + 1) 22 ∧ (∀ v64 : Int64, v64 = ((f2 (Int32.toNatClampNeg t9_3)) &&& ((f4 (Int32.toNatClampNeg ((f3 (Int32.toNatClampNeg t2_3)) + 1))) ^^^ (-1 : Int64))) → (((lg_cmp (v38 ||| v64) (0 : Int64)) = 0 → (wLX5_sidesFit_9 i0 f2 f3 f4 t2_3 K B2_1 n9) t9_0 t9_1 t9_2 (t9_3 + 1)) ∧ (¬ (lg_cmp (v38 ||| v64) (0 : Int64)) = 0 → (wX5_part i0 t9_2 t9_0 t9_1 v38 v64 (fun r81 u81 => ((¬ r81 = 0 → (wLX5_sidesFit_9 i0 f2 f3 f4 t2_3 K B2_1 n9) (u81.2.1) (u81.2.2) (u81.1) (t9_3 + 1)) ∧ (r81 = 0 → K (0 : Int32) (u81.1, u81.2.1, u81.2.2)))))))))))))))))
def wLX5_sidesFit_2 (i0 : Int32) (f2 : Nat → Int64) (f3 : Nat → Int32) (f4 : Nat → Int64) (p0 : Int32) (K : Int32 → (Int32 × (Nat → Int64) × (Nat → Int64)) → Prop)  : Nat → (Nat → Int64) → (Nat → Int64) → Int32 → Int32 → Prop
  | 0, _, _, _, _ => False
  | n2 + 1, t2_0, t2_1, t2_2, t2_3 => ((p0 ≤ t2_3 → K (1 : Int32) (t2_2, t2_0, t2_1)) ∧ (¬ p0 ≤ t2_3 → (∃ n9, wLX5_sidesFit_9 i0 f2 f3 f4 t2_3 K (fun z0 z1 z2 z3 => (wLX5_sidesFit_2 i0 f2 f3 f4 p0 K  n2) z0 z1 z2 z3) n9 t2_0 t2_1 t2_2 0)))
def wX5_sidesFit (i0 : Int32) (i1 : Int32) (f2 : Nat → Int64) (f3 : Nat → Int32) (f4 : Nat → Int64) (f5 : Nat → Int64) (f6 : Nat → Int64) (p0 : Int32) (K : Int32 → (Int32 × (Nat → Int64) × (Nat → Int64)) → Prop) : Prop := (∃ n2, wLX5_sidesFit_2 i0 f2 f3 f4 p0 K  n2 f5 f6 i1 0)
set_option maxHeartbeats 4000000 in
set_option maxRecDepth 100000 in
theorem zX5_sidesFit (l : Launch) (G : va_G) (cI cJ cZ : ClassId) (h0 h1 h2 h3 h4 h5 k0 k1 k2 k3 k4 sz : Nat) (i0 : Int32) (i1 : Int32) (f2 : Nat → Int64) (f3 : Nat → Int32) (f4 : Nat → Int64) (f5 : Nat → Int64) (f6 : Nat → Int64) (p0 : Int32) (K : Int32 → (Int32 × (Nat → Int64) × (Nat → Int64)) → Prop) (hwp : wX5_sidesFit i0 i1 f2 f3 f4 f5 f6 p0 K) : Met l yX5_sidesFit (xw yX5_sidesFit cX5_sidesFit 8 (some .boolean)) ({ frames := 1, cells := 0, slots := 0, locals := 34 }) (xPc G cI cJ cZ [.ref h0, .int p0] [(h0, .inr (5, [.ref k0, .ref k1, .ref k2, .ref k3, .ref k4, .ref h3, .ref h1, .ref h2, .ref h4, .ref h5, .int i0, .int i1])), (h1, aJ cJ 21 f2), (h2, aI cI 21 f3), (h3, aJ cJ 22 f4), (h4, aJ cJ 58 f5), (h5, aJ cJ 58 f6)] sz) (va_Qi (fun (r : Int32) (u : Int32 × (Nat → Int64) × (Nat → Int64)) => K r u) (fun (u : Int32 × (Nat → Int64) × (Nat → Int64)) t => xB G (va_A [(h0, .inr (5, [.ref k0, .ref k1, .ref k2, .ref k3, .ref k4, .ref h3, .ref h1, .ref h2, .ref h4, .ref h5, .int i0, .int i1])), (h1, aJ cJ 21 f2), (h2, aI cI 21 f3), (h3, aJ cJ 22 f4), (h4, aJ cJ 58 f5), (h5, aJ cJ 58 f6)] sz) [(h0, .inr (5, [.ref k0, .ref k1, .ref k2, .ref k3, .ref k4, .ref h3, .ref h1, .ref h2, .ref h4, .ref h5, .int i0, .int u.1])), (h1, aJ cJ 21 f2), (h2, aI cI 21 f3), (h3, aJ cJ 22 f4), (h4, aJ cJ 58 u.2.1), (h5, aJ cJ 58 u.2.2)] t) (va_A [(h0, .inr (5, [.ref k0, .ref k1, .ref k2, .ref k3, .ref k4, .ref h3, .ref h1, .ref h2, .ref h4, .ref h5, .int i0, .int i1])), (h1, aJ cJ 21 f2), (h2, aI cI 21 f3), (h3, aJ cJ 22 f4), (h4, aJ cJ 58 f5), (h5, aJ cJ 58 f6)] sz)) 0 0 (va_A [(h0, .inr (5, [.ref k0, .ref k1, .ref k2, .ref k3, .ref k4, .ref h3, .ref h1, .ref h2, .ref h4, .ref h5, .int i0, .int i1])), (h1, aJ cJ 21 f2), (h2, aI cI 21 f3), (h3, aJ cJ 22 f4), (h4, aJ cJ 58 f5), (h5, aJ cJ 58 f6)] sz) := by
  refine Met.ofW (cc := cX5_sidesFit) (maxL := 8) (ret := (some .boolean)) (by decide) rfl ?_
  intro p e s m args below meth c s₁ B hml hv
  obtain ⟨rfl, hsz, hP, hK, hD0, hN⟩ := hv
  have hx := B.exec
  have hb := B.bytes
  have hr := B.returns
  have hts : ∀ w ∈ xW, w.before _ s = true := fun w h => atoms_spec (ws := xw yX5_sidesFit cX5_sidesFit 8 (some .boolean)) B.pre w (List.mem_cons_of_mem _ h)
  have hown : s.vm.findClass RX5 = some m.cls := findClass_of_methodNamed B.named
  have hlocks := B.notSynchronized
  subst hsz
  have hD := hD0.self (sz := s.heap.size)
  clear hD0
  generalize hAe : va_A [(h0, .inr (5, [.ref k0, .ref k1, .ref k2, .ref k3, .ref k4, .ref h3, .ref h1, .ref h2, .ref h4, .ref h5, .int i0, .int i1])), (h1, aJ cJ 21 f2), (h2, aI cI 21 f3), (h3, aJ cJ 22 f4), (h4, aJ cJ 58 f5), (h5, aJ cJ 58 f6)] s.heap.size = A at hD ⊢
  have hA : ∀ q : Nat, s.heap.size ≤ q → A q := fun q h => by rw [← hAe]; exact Or.inr h
  clear hAe
  have hS : va_S A s.heap s.heap [] := va_S.rf
  replace hP : va_P G vwCl [(h0, .inr (5, [.ref k0, .ref k1, .ref k2, .ref k3, .ref k4, .ref h3, .ref h1, .ref h2, .ref h4, .ref h5, .int i0, .int i1])), (h1, aJ cJ 21 f2), (h2, aI cI 21 f3), (h3, aJ cJ 22 f4), (h4, aJ cJ 58 f5), (h5, aJ cJ 58 f6)] s.heap := hP
  have hl := lv_entry ([.ref h0, .int p0]) (n := 8) (Nat.le_of_ble_eq_true rfl)
  rw [lg_entry_eq]
  generalize (lg_sl ([.ref h0, .int p0]) ++ List.replicate (8 - (lg_sl ([.ref h0, .int p0])).length) Slot.unset).toArray = ls at hl ⊢
  replace hl : lv_has ls 8 [(0, .ref h0), (1, .int p0)] := hl
  generalize hQQ : MQ below _ _ s 0 0 _ = QQ
  skip
  unfold wX5_sidesFit at hwp
  refine lv_iconst (v := 0) hx hb dX5_sidesFit_0 (by decide) ?_
  refine lv_istore_n (lv' := [(2, .int 0), (0, .ref h0), (1, .int p0)]) hx hb dX5_sidesFit_1 rfl hl (by decide) rfl (fun ls hl => ?_)
  refine xgen (Pp := fun H locs => W p l e _ s m _ below meth c H locs _ _ _ _) (fun H locs hP hD hS => ?_) hP hD hS
  replace hl : lv_has ls 8 [(2, .int 0), (0, .ref h0), (1, .int p0)] := lv_sub hl [0, 1, 2] rfl
  obtain ⟨n1, hwp⟩ := hwp
  have hs1 : ∀ (n1 : Nat) (H : Heap) (locs : List Loc) (ls : Array Slot) (t2_0 : Nat → Int64) (t2_1 : Nat → Int64) (t2_2 : Int32) (t2_3 : Int32), wLX5_sidesFit_2 i0 f2 f3 f4 p0 K  n1 t2_0 t2_1 t2_2 t2_3 → va_P G vwCl [(h0, .inr (5, [.ref k0, .ref k1, .ref k2, .ref k3, .ref k4, .ref h3, .ref h1, .ref h2, .ref h4, .ref h5, .int i0, .int t2_2])), (h1, aJ cJ 21 f2), (h2, aI cI 21 f3), (h3, aJ cJ 22 f4), (h4, aJ cJ 58 t2_0), (h5, aJ cJ 58 t2_1)] H → va_D A [(h0, .inr (5, [.ref k0, .ref k1, .ref k2, .ref k3, .ref k4, .ref h3, .ref h1, .ref h2, .ref h4, .ref h5, .int i0, .int t2_2])), (h1, aJ cJ 21 f2), (h2, aI cI 21 f3), (h3, aJ cJ 22 f4), (h4, aJ cJ 58 t2_0), (h5, aJ cJ 58 t2_1)] → va_S A s.heap H locs → lv_has ls 8 [(2, .int t2_3), (0, .ref h0), (1, .int p0)] → W p l e ((headSpec (xw yX5_sidesFit cX5_sidesFit 8 (some .boolean)) { frames := 1, cells := 0, slots := 0, locals := 34 }).room) s m ([.ref h0, .int p0] : List Value).toArray below meth c H locs 0 0 QQ (F0 m 2 ls []) := by
    intro n1
    induction n1 with
    | zero => intro H locs ls t2_0 t2_1 t2_2 t2_3 hwp; exact False.elim hwp
    | succ n1 ih1 =>
      intro H locs ls t2_0 t2_1 t2_2 t2_3 hwp hP hD hS hl
      rw [wLX5_sidesFit_2] at hwp
      refine lv_iload_n hx hb dX5_sidesFit_2 rfl (lv_at hl 0 rfl) ?_
      refine lv_iload_n hx hb dX5_sidesFit_3 rfl (lv_at hl 2 rfl) ?_
      refine lv_icmp_ge (tgt := 101) hx hb dX5_sidesFit_4 (by decide) (fun c4 => ?_) (fun c4 => ?_)
      · replace hwp := hwp.1 c4
        refine lv_iconst (v := 1) hx hb dX5_sidesFit_101 (by decide) ?_
        have hP9 : va_P G vwCl [(h0, .inr (5, [.ref k0, .ref k1, .ref k2, .ref k3, .ref k4, .ref h3, .ref h1, .ref h2, .ref h4, .ref h5, .int i0, .int t2_2])), (h1, aJ cJ 21 f2), (h2, aI cI 21 f3), (h3, aJ cJ 22 f4), (h4, aJ cJ 58 t2_0), (h5, aJ cJ 58 t2_1)] H := hP.sub [0, 1, 2, 3, 4, 5] rfl
        have hD9 : va_D A [(h0, .inr (5, [.ref k0, .ref k1, .ref k2, .ref k3, .ref k4, .ref h3, .ref h1, .ref h2, .ref h4, .ref h5, .int i0, .int t2_2])), (h1, aJ cJ 21 f2), (h2, aI cI 21 f3), (h3, aJ cJ 22 f4), (h4, aJ cJ 58 t2_0), (h5, aJ cJ 58 t2_1)] := hD.sub [0, 1, 2, 3, 4, 5] (by decide) rfl
        rw [← hQQ]
        exact W.zret (v := 1) hx hb hr rfl (fun t ht hW => ⟨⟨_, (t2_2, t2_0, t2_1), rfl, hwp, by rw [ht]; exact hP9, hD9⟩, hS.F ht⟩) hS.2.2 dX5_sidesFit_102
      · replace hwp := hwp.2 c4
        refine lv_iconst (v := 0) hx hb dX5_sidesFit_7 (by decide) ?_
        refine lv_istore_n (lv' := [(3, .int 0), (2, .int t2_3), (0, .ref h0), (1, .int p0)]) hx hb dX5_sidesFit_8 rfl hl (by decide) rfl (fun ls hl => ?_)
        replace hl : lv_has ls 8 [(3, .int 0), (2, .int t2_3), (0, .ref h0), (1, .int p0)] := lv_sub hl [0, 1, 2, 3] rfl
        obtain ⟨n2, hwp⟩ := hwp
        have hs2 : ∀ (n2 : Nat) (H : Heap) (locs : List Loc) (ls : Array Slot) (t9_0 : Nat → Int64) (t9_1 : Nat → Int64) (t9_2 : Int32) (t9_3 : Int32), wLX5_sidesFit_9 i0 f2 f3 f4 t2_3 K (fun z0 z1 z2 z3 => wLX5_sidesFit_2 i0 f2 f3 f4 p0 K  n1 z0 z1 z2 z3) n2 t9_0 t9_1 t9_2 t9_3 → va_P G vwCl [(h0, .inr (5, [.ref k0, .ref k1, .ref k2, .ref k3, .ref k4, .ref h3, .ref h1, .ref h2, .ref h4, .ref h5, .int i0, .int t9_2])), (h1, aJ cJ 21 f2), (h2, aI cI 21 f3), (h3, aJ cJ 22 f4), (h4, aJ cJ 58 t9_0), (h5, aJ cJ 58 t9_1)] H → va_D A [(h0, .inr (5, [.ref k0, .ref k1, .ref k2, .ref k3, .ref k4, .ref h3, .ref h1, .ref h2, .ref h4, .ref h5, .int i0, .int t9_2])), (h1, aJ cJ 21 f2), (h2, aI cI 21 f3), (h3, aJ cJ 22 f4), (h4, aJ cJ 58 t9_0), (h5, aJ cJ 58 t9_1)] → va_S A s.heap H locs → lv_has ls 8 [(3, .int t9_3), (2, .int t2_3), (0, .ref h0), (1, .int p0)] → W p l e ((headSpec (xw yX5_sidesFit cX5_sidesFit 8 (some .boolean)) { frames := 1, cells := 0, slots := 0, locals := 34 }).room) s m ([.ref h0, .int p0] : List Value).toArray below meth c H locs 0 0 QQ (F0 m 9 ls []) := by
          intro n2
          induction n2 with
          | zero => intro H locs ls t9_0 t9_1 t9_2 t9_3 hwp; exact False.elim hwp
          | succ n2 ih2 =>
            intro H locs ls t9_0 t9_1 t9_2 t9_3 hwp hP hD hS hl
            rw [wLX5_sidesFit_9] at hwp
            refine lv_iload_n hx hb dX5_sidesFit_9 rfl (lv_at hl 0 rfl) ?_
            refine lv_iload_n hx hb dX5_sidesFit_10 rfl (lv_at hl 1 rfl) ?_
            refine lv_icmp_ge (tgt := 95) hx hb dX5_sidesFit_11 (by decide) (fun c11 => ?_) (fun c11 => ?_)
            · replace hwp := hwp.1 c11
              refine lv_iinc (v := (t2_3 + 1)) (lv' := [(2, .int (t2_3 + 1)), (3, .int t9_3), (0, .ref h0), (1, .int p0)]) hx hb dX5_sidesFit_95 hl (k := 1) rfl rfl (by decide) rfl (fun ls hl => ?_)
              refine lv_goto (tgt := 2) hx hb dX5_sidesFit_98 (by decide) ?_
              replace hl : lv_has ls 8 [(2, .int (t2_3 + 1)), (0, .ref h0), (1, .int p0)] := lv_sub hl [0, 2, 3] rfl
              exact ih1 H locs ls t9_0 t9_1 t9_2 (t2_3 + 1) hwp hP hD hS hl
            · replace hwp := hwp.2 c11
              refine lv_aload_n hx hb dX5_sidesFit_14 rfl (lv_at hl 2 rfl) ?_
              refine va_get (D := G) (ci := 5) (v := .ref h1) (C := RX5) (T := TX5) (N := 12) hx hb hts xinX5 hown hK hP 0 rfl rfl 6 (by decide) (hts _ wo_112) (fun _ h9 => h9) rfl dX5_sidesFit_15 ?_
              refine lv_iload_n hx hb dX5_sidesFit_18 rfl (lv_at hl 1 rfl) ?_
              obtain ⟨hi, hwp⟩ := hwp
              refine va_lald hx hb hK hP 1 1 rfl rfl hi dX5_sidesFit_19 ?_
              refine lv_aload_n hx hb dX5_sidesFit_20 rfl (lv_at hl 2 rfl) ?_
              refine va_get (D := G) (ci := 5) (v := .ref h3) (C := RX5) (T := TX5) (N := 12) hx hb hts xinX5 hown hK hP 0 rfl rfl 5 (by decide) (hts _ wo_98) (fun _ h9 => h9) rfl dX5_sidesFit_21 ?_
              refine lv_aload_n hx hb dX5_sidesFit_24 rfl (lv_at hl 2 rfl) ?_
              refine va_get (D := G) (ci := 5) (v := .ref h2) (C := RX5) (T := TX5) (N := 12) hx hb hts xinX5 hown hK hP 0 rfl rfl 7 (by decide) (hts _ wo_113) (fun _ h9 => h9) rfl dX5_sidesFit_25 ?_
              refine lv_iload_n hx hb dX5_sidesFit_28 rfl (lv_at hl 0 rfl) ?_
              obtain ⟨hi, hwp⟩ := hwp
              refine va_iald hx hb hK hP 2 0 rfl rfl hi dX5_sidesFit_29 ?_
              refine lv_iconst (v := 1) hx hb dX5_sidesFit_30 (by decide) ?_
              refine lv_iadd hx hb dX5_sidesFit_31 ?_
              obtain ⟨hi, hwp⟩ := hwp
              refine va_lald hx hb hK hP 3 1 rfl rfl hi dX5_sidesFit_32 ?_
              refine lv_ldc2 (v := (-1)) hx hb hown (hts _ wo_121) dX5_sidesFit_33 ?_
              refine lv_lxor hx hb dX5_sidesFit_36 ?_
              refine lv_land hx hb dX5_sidesFit_37 ?_
              refine lv_topl (fun v38 ev38 => ?_)
              replace hwp := hwp v38 ev38
              clear ev38
              refine lv_lstore (lv' := [(4, .long v38), (3, .int t9_3), (2, .int t2_3), (0, .ref h0), (1, .int p0)]) hx hb dX5_sidesFit_38 hl (by decide) rfl (fun ls hl => ?_)
              refine lv_aload_n hx hb dX5_sidesFit_40 rfl (lv_at hl 3 rfl) ?_
              refine va_get (D := G) (ci := 5) (v := .ref h1) (C := RX5) (T := TX5) (N := 12) hx hb hts xinX5 hown hK hP 0 rfl rfl 6 (by decide) (hts _ wo_112) (fun _ h9 => h9) rfl dX5_sidesFit_41 ?_
              refine lv_iload_n hx hb dX5_sidesFit_44 rfl (lv_at hl 1 rfl) ?_
              obtain ⟨hi, hwp⟩ := hwp
              refine va_lald hx hb hK hP 1 1 rfl rfl hi dX5_sidesFit_45 ?_
              refine lv_aload_n hx hb dX5_sidesFit_46 rfl (lv_at hl 3 rfl) ?_
              refine va_get (D := G) (ci := 5) (v := .ref h3) (C := RX5) (T := TX5) (N := 12) hx hb hts xinX5 hown hK hP 0 rfl rfl 5 (by decide) (hts _ wo_98) (fun _ h9 => h9) rfl dX5_sidesFit_47 ?_
              refine lv_aload_n hx hb dX5_sidesFit_50 rfl (lv_at hl 3 rfl) ?_
              refine va_get (D := G) (ci := 5) (v := .ref h2) (C := RX5) (T := TX5) (N := 12) hx hb hts xinX5 hown hK hP 0 rfl rfl 7 (by decide) (hts _ wo_113) (fun _ h9 => h9) rfl dX5_sidesFit_51 ?_
              refine lv_iload_n hx hb dX5_sidesFit_54 rfl (lv_at hl 2 rfl) ?_
              obtain ⟨hi, hwp⟩ := hwp
              refine va_iald hx hb hK hP 2 0 rfl rfl hi dX5_sidesFit_55 ?_
              refine lv_iconst (v := 1) hx hb dX5_sidesFit_56 (by decide) ?_
              refine lv_iadd hx hb dX5_sidesFit_57 ?_
              obtain ⟨hi, hwp⟩ := hwp
              refine va_lald hx hb hK hP 3 1 rfl rfl hi dX5_sidesFit_58 ?_
              refine lv_ldc2 (v := (-1)) hx hb hown (hts _ wo_121) dX5_sidesFit_59 ?_
              refine lv_lxor hx hb dX5_sidesFit_62 ?_
              refine lv_land hx hb dX5_sidesFit_63 ?_
              refine lv_topl (fun v64 ev64 => ?_)
              replace hwp := hwp v64 ev64
              clear ev64
              refine lv_lstore (lv' := [(6, .long v64), (4, .long v38), (3, .int t9_3), (2, .int t2_3), (0, .ref h0), (1, .int p0)]) hx hb dX5_sidesFit_64 hl (by decide) rfl (fun ls hl => ?_)
              refine lv_lload hx hb dX5_sidesFit_66 (lv_at hl 1 rfl) ?_
              refine lv_lload hx hb dX5_sidesFit_68 (lv_at hl 0 rfl) ?_
              refine lv_lor hx hb dX5_sidesFit_70 ?_
              refine lv_lconst (v := 0) hx hb dX5_sidesFit_71 rfl ?_
              refine W.lcmp hx hb dX5_sidesFit_72 ?_
              refine lv_if_eq (tgt := 89) hx hb dX5_sidesFit_73 (by decide) (fun c73 => ?_) (fun c73 => ?_)
              · replace hwp := hwp.1 c73
                refine lv_iinc (v := (t9_3 + 1)) (lv' := [(3, .int (t9_3 + 1)), (6, .long v64), (4, .long v38), (2, .int t2_3), (0, .ref h0), (1, .int p0)]) hx hb dX5_sidesFit_89 hl (k := 2) rfl rfl (by decide) rfl (fun ls hl => ?_)
                refine lv_goto (tgt := 9) hx hb dX5_sidesFit_92 (by decide) ?_
                replace hl : lv_has ls 8 [(3, .int (t9_3 + 1)), (2, .int t2_3), (0, .ref h0), (1, .int p0)] := lv_sub hl [0, 3, 4, 5] rfl
                exact ih2 H locs ls t9_0 t9_1 t9_2 (t9_3 + 1) hwp hP hD hS hl
              · replace hwp := hwp.2 c73
                refine lv_aload_n hx hb dX5_sidesFit_76 rfl (lv_at hl 4 rfl) ?_
                refine lv_lload hx hb dX5_sidesFit_77 (lv_at hl 1 rfl) ?_
                refine lv_lload hx hb dX5_sidesFit_79 (lv_at hl 0 rfl) ?_
                refine xci (wr := [(h1, aJ cJ 21 f2), (h2, aI cI 21 f3), (h3, aJ cJ 22 f4)]) (va_runV (As := [.long v38, .long v64]) (rest := []) ⟨hx, hb, hml, hown, hts⟩ (zX5_part l G cI cJ cZ h0 h4 h5 k0 k1 k2 k3 k4 h3 h1 h2 H.size i0 t9_2 t9_0 t9_1 v38 v64 _ hwp) (cwV 2 hts (xgoodV wo_122 wo_123 wo_124 wo_125 wo_107) rfl rfl rfl (by decide +kernel) ⟨Nat.le_of_ble_eq_true rfl, Nat.le_of_ble_eq_true rfl⟩) (xPreV (q := (RX5, TX5, 12)) (q0 := 0) hK hN hP hD [0, 4, 5] (by decide) rfl rfl rfl) rfl rfl hl.1 rfl (lv_room (Nat.le_of_ble_eq_true rfl)) dX5_sidesFit_81 ⟨Nat.le_of_ble_eq_true rfl, Nat.le_of_ble_eq_true rfl⟩) hP hD hS hA [0, 4, 5] [1, 2, 3] rfl rfl (by decide) (by decide) (fun r81 u81 H locs hwp hP hD hS => ?_)
                replace hP : va_P G vwCl [(h1, aJ cJ 21 f2), (h2, aI cI 21 f3), (h3, aJ cJ 22 f4), (h0, .inr (5, [.ref k0, .ref k1, .ref k2, .ref k3, .ref k4, .ref h3, .ref h1, .ref h2, .ref h4, .ref h5, .int i0, .int u81.1])), (h4, aJ cJ 58 u81.2.1), (h5, aJ cJ 58 u81.2.2)] H := hP
                replace hD : va_D A [(h1, aJ cJ 21 f2), (h2, aI cI 21 f3), (h3, aJ cJ 22 f4), (h0, .inr (5, [.ref k0, .ref k1, .ref k2, .ref k3, .ref k4, .ref h3, .ref h1, .ref h2, .ref h4, .ref h5, .int i0, .int u81.1])), (h4, aJ cJ 58 u81.2.1), (h5, aJ cJ 58 u81.2.2)] := hD
                refine lv_if_ne (tgt := 89) hx hb dX5_sidesFit_84 (by decide) (fun c84 => ?_) (fun c84 => ?_)
                · replace hwp := hwp.1 c84
                  refine lv_iinc (v := (t9_3 + 1)) (lv' := [(3, .int (t9_3 + 1)), (6, .long v64), (4, .long v38), (2, .int t2_3), (0, .ref h0), (1, .int p0)]) hx hb dX5_sidesFit_89 hl (k := 2) rfl rfl (by decide) rfl (fun ls hl => ?_)
                  refine lv_goto (tgt := 9) hx hb dX5_sidesFit_92 (by decide) ?_
                  replace hl : lv_has ls 8 [(3, .int (t9_3 + 1)), (2, .int t2_3), (0, .ref h0), (1, .int p0)] := lv_sub hl [0, 3, 4, 5] rfl
                  replace hP : va_P G vwCl [(h0, .inr (5, [.ref k0, .ref k1, .ref k2, .ref k3, .ref k4, .ref h3, .ref h1, .ref h2, .ref h4, .ref h5, .int i0, .int u81.1])), (h1, aJ cJ 21 f2), (h2, aI cI 21 f3), (h3, aJ cJ 22 f4), (h4, aJ cJ 58 u81.2.1), (h5, aJ cJ 58 u81.2.2)] H := hP.sub [3, 0, 1, 2, 4, 5] rfl
                  replace hD : va_D A [(h0, .inr (5, [.ref k0, .ref k1, .ref k2, .ref k3, .ref k4, .ref h3, .ref h1, .ref h2, .ref h4, .ref h5, .int i0, .int u81.1])), (h1, aJ cJ 21 f2), (h2, aI cI 21 f3), (h3, aJ cJ 22 f4), (h4, aJ cJ 58 u81.2.1), (h5, aJ cJ 58 u81.2.2)] := hD.sub [3, 0, 1, 2, 4, 5] (by decide) rfl
                  exact ih2 H locs ls (u81.2.1) (u81.2.2) (u81.1) (t9_3 + 1) hwp hP hD hS hl
                · replace hwp := hwp.2 c84
                  refine lv_iconst (v := 0) hx hb dX5_sidesFit_87 (by decide) ?_
                  have hP9 : va_P G vwCl [(h0, .inr (5, [.ref k0, .ref k1, .ref k2, .ref k3, .ref k4, .ref h3, .ref h1, .ref h2, .ref h4, .ref h5, .int i0, .int u81.1])), (h1, aJ cJ 21 f2), (h2, aI cI 21 f3), (h3, aJ cJ 22 f4), (h4, aJ cJ 58 u81.2.1), (h5, aJ cJ 58 u81.2.2)] H := hP.sub [3, 0, 1, 2, 4, 5] rfl
                  have hD9 : va_D A [(h0, .inr (5, [.ref k0, .ref k1, .ref k2, .ref k3, .ref k4, .ref h3, .ref h1, .ref h2, .ref h4, .ref h5, .int i0, .int u81.1])), (h1, aJ cJ 21 f2), (h2, aI cI 21 f3), (h3, aJ cJ 22 f4), (h4, aJ cJ 58 u81.2.1), (h5, aJ cJ 58 u81.2.2)] := hD.sub [3, 0, 1, 2, 4, 5] (by decide) rfl
                  rw [← hQQ]
                  exact W.zret (v := 0) hx hb hr rfl (fun t ht hW => ⟨⟨_, (u81.1, u81.2.1, u81.2.2), rfl, hwp, by rw [ht]; exact hP9, hD9⟩, hS.F ht⟩) hS.2.2 dX5_sidesFit_88
        exact hs2 n2 H locs ls t2_0 t2_1 t2_2 0 hwp hP hD hS hl
  exact hs1 n1 H locs ls f5 f6 i1 0 hwp hP hD hS hl
def wX0_findOuter (i0 : Int32) (i1 : Int32) (i2 : Int32) (i3 : Int32) (i4 : Int32) (f5 : Nat → Int32) (f6 : Nat → Int32) (K : Int32 → (Int32 × Int32 × Int32) → Prop) : Prop := (wX8_lowest (f5 (Int32.toNatClampNeg (0 : Int32))) (fun r18 _ => (wX6_behind f6 (0 : Int32) r18 (fun r37 _ => ((r37 < 0 → K (0 : Int32) ((0 : Int32), r18, r37)) ∧ (¬ r37 < 0 → K (1 : Int32) ((0 : Int32), r18, r37)))))))
set_option maxHeartbeats 4000000 in
set_option maxRecDepth 100000 in
theorem zX0_findOuter (l : Launch) (G : va_G) (cI cJ cZ : ClassId) (h0 h1 h2 h3 h4 k0 k1 k2 k3 k4 k5 k6 k7 k8 k9 k10 sz : Nat) (i0 : Int32) (i1 : Int32) (i2 : Int32) (i3 : Int32) (i4 : Int32) (f5 : Nat → Int32) (f6 : Nat → Int32) (K : Int32 → (Int32 × Int32 × Int32) → Prop) (hwp : wX0_findOuter i0 i1 i2 i3 i4 f5 f6 K) : Met l yX0_findOuter (xw yX0_findOuter cX0_findOuter 1 (some .boolean)) ({ frames := 2, cells := 0, slots := 0, locals := 40 }) (xPc G cI cJ cZ [.ref h0] [(h0, .inr (0, [.ref h1, .ref h3, .ref k0, .ref k1, .ref k2, .ref k3, .ref k4, .ref k5, .ref k6, .ref k7, .ref k8, .int i0, .int i1, .int i2, .int i3])), (h1, .inr (2, [.ref k9, .ref h2, .int i4])), (h2, aI cI 20 f5), (h3, .inr (6, [.ref h1, .ref k10, .ref h4])), (h4, aI cI 400 f6)] sz) (va_Qi (fun (r : Int32) (u : Int32 × Int32 × Int32) => K r u) (fun (u : Int32 × Int32 × Int32) t => xB G (va_A [(h0, .inr (0, [.ref h1, .ref h3, .ref k0, .ref k1, .ref k2, .ref k3, .ref k4, .ref k5, .ref k6, .ref k7, .ref k8, .int i0, .int i1, .int i2, .int i3])), (h1, .inr (2, [.ref k9, .ref h2, .int i4])), (h2, aI cI 20 f5), (h3, .inr (6, [.ref h1, .ref k10, .ref h4])), (h4, aI cI 400 f6)] sz) [(h0, .inr (0, [.ref h1, .ref h3, .ref k0, .ref k1, .ref k2, .ref k3, .ref k4, .ref k5, .ref k6, .ref k7, .ref k8, .int u.1, .int u.2.1, .int u.2.2, .int i3])), (h1, .inr (2, [.ref k9, .ref h2, .int i4])), (h2, aI cI 20 f5), (h3, .inr (6, [.ref h1, .ref k10, .ref h4])), (h4, aI cI 400 f6)] t) (va_A [(h0, .inr (0, [.ref h1, .ref h3, .ref k0, .ref k1, .ref k2, .ref k3, .ref k4, .ref k5, .ref k6, .ref k7, .ref k8, .int i0, .int i1, .int i2, .int i3])), (h1, .inr (2, [.ref k9, .ref h2, .int i4])), (h2, aI cI 20 f5), (h3, .inr (6, [.ref h1, .ref k10, .ref h4])), (h4, aI cI 400 f6)] sz)) 0 0 (va_A [(h0, .inr (0, [.ref h1, .ref h3, .ref k0, .ref k1, .ref k2, .ref k3, .ref k4, .ref k5, .ref k6, .ref k7, .ref k8, .int i0, .int i1, .int i2, .int i3])), (h1, .inr (2, [.ref k9, .ref h2, .int i4])), (h2, aI cI 20 f5), (h3, .inr (6, [.ref h1, .ref k10, .ref h4])), (h4, aI cI 400 f6)] sz) := by
  refine Met.ofW (cc := cX0_findOuter) (maxL := 1) (ret := (some .boolean)) (by decide) rfl ?_
  intro p e s m args below meth c s₁ B hml hv
  obtain ⟨rfl, hsz, hP, hK, hD0, hN⟩ := hv
  have hx := B.exec
  have hb := B.bytes
  have hr := B.returns
  have hts : ∀ w ∈ xW, w.before _ s = true := fun w h => atoms_spec (ws := xw yX0_findOuter cX0_findOuter 1 (some .boolean)) B.pre w (List.mem_cons_of_mem _ h)
  have hown : s.vm.findClass RX0 = some m.cls := findClass_of_methodNamed B.named
  have hlocks := B.notSynchronized
  subst hsz
  have hD := hD0.self (sz := s.heap.size)
  clear hD0
  generalize hAe : va_A [(h0, .inr (0, [.ref h1, .ref h3, .ref k0, .ref k1, .ref k2, .ref k3, .ref k4, .ref k5, .ref k6, .ref k7, .ref k8, .int i0, .int i1, .int i2, .int i3])), (h1, .inr (2, [.ref k9, .ref h2, .int i4])), (h2, aI cI 20 f5), (h3, .inr (6, [.ref h1, .ref k10, .ref h4])), (h4, aI cI 400 f6)] s.heap.size = A at hD ⊢
  have hA : ∀ q : Nat, s.heap.size ≤ q → A q := fun q h => by rw [← hAe]; exact Or.inr h
  clear hAe
  have hS : va_S A s.heap s.heap [] := va_S.rf
  replace hP : va_P G vwCl [(h0, .inr (0, [.ref h1, .ref h3, .ref k0, .ref k1, .ref k2, .ref k3, .ref k4, .ref k5, .ref k6, .ref k7, .ref k8, .int i0, .int i1, .int i2, .int i3])), (h1, .inr (2, [.ref k9, .ref h2, .int i4])), (h2, aI cI 20 f5), (h3, .inr (6, [.ref h1, .ref k10, .ref h4])), (h4, aI cI 400 f6)] s.heap := hP
  have hl := lv_entry ([.ref h0]) (n := 1) (Nat.le_of_ble_eq_true rfl)
  rw [lg_entry_eq]
  generalize (lg_sl ([.ref h0]) ++ List.replicate (1 - (lg_sl ([.ref h0])).length) Slot.unset).toArray = ls at hl ⊢
  replace hl : lv_has ls 1 [(0, .ref h0)] := hl
  generalize hQQ : MQ below _ _ s 0 0 _ = QQ
  skip
  unfold wX0_findOuter at hwp
  refine lv_aload_n hx hb dX0_findOuter_0 rfl (lv_at hl 0 rfl) ?_
  refine lv_iconst (v := 0) hx hb dX0_findOuter_1 (by decide) ?_
  refine va_put (D := G) (ci := 0) (v := .int 0) (ty := .int) (C := RX0) (T := TX0) (N := 15) hx hb hts xinX0 tyX0 tyX0_ok nmX0 hown hK hP hD hS 0 rfl rfl 11 (by decide) (hts _ wo_126) (fun _ h9 => h9) rfl (by decide +kernel) rfl rfl (Nat.le_of_ble_eq_true rfl) dX0_findOuter_2 (fun H locs hP hD hS => ?_)
  replace hP : va_P G vwCl [(h0, .inr (0, [.ref h1, .ref h3, .ref k0, .ref k1, .ref k2, .ref k3, .ref k4, .ref k5, .ref k6, .ref k7, .ref k8, .int 0, .int i1, .int i2, .int i3])), (h1, .inr (2, [.ref k9, .ref h2, .int i4])), (h2, aI cI 20 f5), (h3, .inr (6, [.ref h1, .ref k10, .ref h4])), (h4, aI cI 400 f6)] H := hP
  replace hD : va_D A [(h0, .inr (0, [.ref h1, .ref h3, .ref k0, .ref k1, .ref k2, .ref k3, .ref k4, .ref k5, .ref k6, .ref k7, .ref k8, .int 0, .int i1, .int i2, .int i3])), (h1, .inr (2, [.ref k9, .ref h2, .int i4])), (h2, aI cI 20 f5), (h3, .inr (6, [.ref h1, .ref k10, .ref h4])), (h4, aI cI 400 f6)] := hD
  refine lv_aload_n hx hb dX0_findOuter_5 rfl (lv_at hl 0 rfl) ?_
  refine lv_aload_n hx hb dX0_findOuter_6 rfl (lv_at hl 0 rfl) ?_
  refine va_get (D := G) (ci := 0) (v := .ref h1) (C := RX0) (T := TX0) (N := 15) hx hb hts xinX0 hown hK hP 0 rfl rfl 0 (by decide) (hts _ wo_127) (fun _ h9 => h9) rfl dX0_findOuter_7 ?_
  refine va_getN (D := G) (ci := 2) (v := .ref h2) (C := RX2) (T := TX2) (N := 3) hx hb hts xinX2 hown hK hP 1 rfl rfl 1 (by decide) (va_Nw.use rfl (hN.1 ("PlaneTests$Drawing", 72, "PlaneTests$Filled", "joined", "[I", "PlaneTests") (by decide +kernel))) (fun _ h9 => h9) rfl dX0_findOuter_10 ?_
  refine lv_aload_n hx hb dX0_findOuter_13 rfl (lv_at hl 0 rfl) ?_
  refine va_get (D := G) (ci := 0) (v := .int 0) (C := RX0) (T := TX0) (N := 15) hx hb hts xinX0 hown hK hP 0 rfl rfl 11 (by decide) (hts _ wo_126) (fun _ h9 => h9) rfl dX0_findOuter_14 ?_
  refine va_iald hx hb hK hP 2 0 rfl rfl (by unfold vp_in; decide) dX0_findOuter_17 ?_
  refine xci (wr := [(h0, .inr (0, [.ref h1, .ref h3, .ref k0, .ref k1, .ref k2, .ref k3, .ref k4, .ref k5, .ref k6, .ref k7, .ref k8, .int 0, .int i1, .int i2, .int i3])), (h1, .inr (2, [.ref k9, .ref h2, .int i4])), (h2, aI cI 20 f5), (h3, .inr (6, [.ref h1, .ref k10, .ref h4])), (h4, aI cI 400 f6)]) (va_runSN (As := [.int (f5 (Int32.toNatClampNeg (0 : Int32)))]) (rest := [.ref h0]) ⟨hx, hb, hml, hown, hts⟩ (zX8_lowest l G cI cJ cZ H.size (f5 (Int32.toNatClampNeg (0 : Int32))) _ hwp) ⟨(va_cnB 1 hts (xgood wo_48) rfl rfl rfl (hN.2 ("PlaneTests$Drawing", 75, yX8_lowest, "PlaneTests") (by decide +kernel)) (hts _ wo_49) (by decide +kernel) ⟨Nat.le_of_ble_eq_true rfl, Nat.le_of_ble_eq_true rfl⟩), hts _ wo_50, trivial⟩ (xPreS hK hN hP hD [] (by decide) rfl) rfl rfl hl.1 rfl (lv_room (Nat.le_of_ble_eq_true rfl)) dX0_findOuter_18 ⟨Nat.le_of_ble_eq_true rfl, Nat.le_of_ble_eq_true rfl⟩) hP hD hS hA [] [0, 1, 2, 3, 4] rfl rfl (by decide) (by decide) (fun r18 u18 H locs hwp hP hD hS => ?_)
  replace hP : va_P G vwCl [(h0, .inr (0, [.ref h1, .ref h3, .ref k0, .ref k1, .ref k2, .ref k3, .ref k4, .ref k5, .ref k6, .ref k7, .ref k8, .int 0, .int i1, .int i2, .int i3])), (h1, .inr (2, [.ref k9, .ref h2, .int i4])), (h2, aI cI 20 f5), (h3, .inr (6, [.ref h1, .ref k10, .ref h4])), (h4, aI cI 400 f6)] H := hP
  replace hD : va_D A [(h0, .inr (0, [.ref h1, .ref h3, .ref k0, .ref k1, .ref k2, .ref k3, .ref k4, .ref k5, .ref k6, .ref k7, .ref k8, .int 0, .int i1, .int i2, .int i3])), (h1, .inr (2, [.ref k9, .ref h2, .int i4])), (h2, aI cI 20 f5), (h3, .inr (6, [.ref h1, .ref k10, .ref h4])), (h4, aI cI 400 f6)] := hD
  refine va_put (D := G) (ci := 0) (v := .int r18) (ty := .int) (C := RX0) (T := TX0) (N := 15) hx hb hts xinX0 tyX0 tyX0_ok nmX0 hown hK hP hD hS 0 rfl rfl 12 (by decide) (hts _ wo_128) (fun _ h9 => h9) rfl (by decide +kernel) rfl rfl (Nat.le_of_ble_eq_true rfl) dX0_findOuter_21 (fun H locs hP hD hS => ?_)
  replace hP : va_P G vwCl [(h0, .inr (0, [.ref h1, .ref h3, .ref k0, .ref k1, .ref k2, .ref k3, .ref k4, .ref k5, .ref k6, .ref k7, .ref k8, .int 0, .int r18, .int i2, .int i3])), (h1, .inr (2, [.ref k9, .ref h2, .int i4])), (h2, aI cI 20 f5), (h3, .inr (6, [.ref h1, .ref k10, .ref h4])), (h4, aI cI 400 f6)] H := hP
  replace hD : va_D A [(h0, .inr (0, [.ref h1, .ref h3, .ref k0, .ref k1, .ref k2, .ref k3, .ref k4, .ref k5, .ref k6, .ref k7, .ref k8, .int 0, .int r18, .int i2, .int i3])), (h1, .inr (2, [.ref k9, .ref h2, .int i4])), (h2, aI cI 20 f5), (h3, .inr (6, [.ref h1, .ref k10, .ref h4])), (h4, aI cI 400 f6)] := hD
  refine lv_aload_n hx hb dX0_findOuter_24 rfl (lv_at hl 0 rfl) ?_
  refine lv_aload_n hx hb dX0_findOuter_25 rfl (lv_at hl 0 rfl) ?_
  refine va_get (D := G) (ci := 0) (v := .ref h3) (C := RX0) (T := TX0) (N := 15) hx hb hts xinX0 hown hK hP 0 rfl rfl 1 (by decide) (hts _ wo_129) (fun _ h9 => h9) rfl dX0_findOuter_26 ?_
  refine lv_aload_n hx hb dX0_findOuter_29 rfl (lv_at hl 0 rfl) ?_
  refine va_get (D := G) (ci := 0) (v := .int 0) (C := RX0) (T := TX0) (N := 15) hx hb hts xinX0 hown hK hP 0 rfl rfl 11 (by decide) (hts _ wo_126) (fun _ h9 => h9) rfl dX0_findOuter_30 ?_
  refine lv_aload_n hx hb dX0_findOuter_33 rfl (lv_at hl 0 rfl) ?_
  refine va_get (D := G) (ci := 0) (v := .int r18) (C := RX0) (T := TX0) (N := 15) hx hb hts xinX0 hown hK hP 0 rfl rfl 12 (by decide) (hts _ wo_128) (fun _ h9 => h9) rfl dX0_findOuter_34 ?_
  refine xci (wr := [(h0, .inr (0, [.ref h1, .ref h3, .ref k0, .ref k1, .ref k2, .ref k3, .ref k4, .ref k5, .ref k6, .ref k7, .ref k8, .int 0, .int r18, .int i2, .int i3])), (h1, .inr (2, [.ref k9, .ref h2, .int i4])), (h2, aI cI 20 f5)]) (va_runV (As := [.int 0, .int r18]) (rest := [.ref h0]) ⟨hx, hb, hml, hown, hts⟩ (zX6_behind l G cI cJ cZ h3 h4 h1 k10 H.size f6 (0 : Int32) r18 _ hwp) (cwV 2 hts (xgoodV wo_51 wo_130 wo_53 wo_54 wo_55) rfl rfl rfl (by decide +kernel) ⟨Nat.le_of_ble_eq_true rfl, Nat.le_of_ble_eq_true rfl⟩) (xPreV (q := (RX6, TX6, 3)) (q0 := 3) hK hN hP hD [3, 4] (by decide) rfl rfl rfl) rfl rfl hl.1 rfl (lv_room (Nat.le_of_ble_eq_true rfl)) dX0_findOuter_37 ⟨Nat.le_of_ble_eq_true rfl, Nat.le_of_ble_eq_true rfl⟩) hP hD hS hA [3, 4] [0, 1, 2] rfl rfl (by decide) (by decide) (fun r37 u37 H locs hwp hP hD hS => ?_)
  replace hP : va_P G vwCl [(h0, .inr (0, [.ref h1, .ref h3, .ref k0, .ref k1, .ref k2, .ref k3, .ref k4, .ref k5, .ref k6, .ref k7, .ref k8, .int 0, .int r18, .int i2, .int i3])), (h1, .inr (2, [.ref k9, .ref h2, .int i4])), (h2, aI cI 20 f5), (h3, .inr (6, [.ref h1, .ref k10, .ref h4])), (h4, aI cI 400 f6)] H := hP
  replace hD : va_D A [(h0, .inr (0, [.ref h1, .ref h3, .ref k0, .ref k1, .ref k2, .ref k3, .ref k4, .ref k5, .ref k6, .ref k7, .ref k8, .int 0, .int r18, .int i2, .int i3])), (h1, .inr (2, [.ref k9, .ref h2, .int i4])), (h2, aI cI 20 f5), (h3, .inr (6, [.ref h1, .ref k10, .ref h4])), (h4, aI cI 400 f6)] := hD
  refine va_put (D := G) (ci := 0) (v := .int r37) (ty := .int) (C := RX0) (T := TX0) (N := 15) hx hb hts xinX0 tyX0 tyX0_ok nmX0 hown hK hP hD hS 0 rfl rfl 13 (by decide) (hts _ wo_131) (fun _ h9 => h9) rfl (by decide +kernel) rfl rfl (Nat.le_of_ble_eq_true rfl) dX0_findOuter_40 (fun H locs hP hD hS => ?_)
  replace hP : va_P G vwCl [(h0, .inr (0, [.ref h1, .ref h3, .ref k0, .ref k1, .ref k2, .ref k3, .ref k4, .ref k5, .ref k6, .ref k7, .ref k8, .int 0, .int r18, .int r37, .int i3])), (h1, .inr (2, [.ref k9, .ref h2, .int i4])), (h2, aI cI 20 f5), (h3, .inr (6, [.ref h1, .ref k10, .ref h4])), (h4, aI cI 400 f6)] H := hP
  replace hD : va_D A [(h0, .inr (0, [.ref h1, .ref h3, .ref k0, .ref k1, .ref k2, .ref k3, .ref k4, .ref k5, .ref k6, .ref k7, .ref k8, .int 0, .int r18, .int r37, .int i3])), (h1, .inr (2, [.ref k9, .ref h2, .int i4])), (h2, aI cI 20 f5), (h3, .inr (6, [.ref h1, .ref k10, .ref h4])), (h4, aI cI 400 f6)] := hD
  refine lv_aload_n hx hb dX0_findOuter_43 rfl (lv_at hl 0 rfl) ?_
  refine va_get (D := G) (ci := 0) (v := .int r37) (C := RX0) (T := TX0) (N := 15) hx hb hts xinX0 hown hK hP 0 rfl rfl 13 (by decide) (hts _ wo_131) (fun _ h9 => h9) rfl dX0_findOuter_44 ?_
  refine lv_if_lt (tgt := 54) hx hb dX0_findOuter_47 (by decide) (fun c47 => ?_) (fun c47 => ?_)
  · replace hwp := hwp.1 c47
    refine lv_iconst (v := 0) hx hb dX0_findOuter_54 (by decide) ?_
    have hP9 : va_P G vwCl [(h0, .inr (0, [.ref h1, .ref h3, .ref k0, .ref k1, .ref k2, .ref k3, .ref k4, .ref k5, .ref k6, .ref k7, .ref k8, .int 0, .int r18, .int r37, .int i3])), (h1, .inr (2, [.ref k9, .ref h2, .int i4])), (h2, aI cI 20 f5), (h3, .inr (6, [.ref h1, .ref k10, .ref h4])), (h4, aI cI 400 f6)] H := hP.sub [0, 1, 2, 3, 4] rfl
    have hD9 : va_D A [(h0, .inr (0, [.ref h1, .ref h3, .ref k0, .ref k1, .ref k2, .ref k3, .ref k4, .ref k5, .ref k6, .ref k7, .ref k8, .int 0, .int r18, .int r37, .int i3])), (h1, .inr (2, [.ref k9, .ref h2, .int i4])), (h2, aI cI 20 f5), (h3, .inr (6, [.ref h1, .ref k10, .ref h4])), (h4, aI cI 400 f6)] := hD.sub [0, 1, 2, 3, 4] (by decide) rfl
    rw [← hQQ]
    exact W.zret (v := 0) hx hb hr rfl (fun t ht hW => ⟨⟨_, ((0 : Int32), r18, r37), rfl, hwp, by rw [ht]; exact hP9, hD9⟩, hS.F ht⟩) hS.2.2 dX0_findOuter_55
  · replace hwp := hwp.2 c47
    refine lv_iconst (v := 1) hx hb dX0_findOuter_50 (by decide) ?_
    refine lv_goto (tgt := 55) hx hb dX0_findOuter_51 (by decide) ?_
    have hP9 : va_P G vwCl [(h0, .inr (0, [.ref h1, .ref h3, .ref k0, .ref k1, .ref k2, .ref k3, .ref k4, .ref k5, .ref k6, .ref k7, .ref k8, .int 0, .int r18, .int r37, .int i3])), (h1, .inr (2, [.ref k9, .ref h2, .int i4])), (h2, aI cI 20 f5), (h3, .inr (6, [.ref h1, .ref k10, .ref h4])), (h4, aI cI 400 f6)] H := hP.sub [0, 1, 2, 3, 4] rfl
    have hD9 : va_D A [(h0, .inr (0, [.ref h1, .ref h3, .ref k0, .ref k1, .ref k2, .ref k3, .ref k4, .ref k5, .ref k6, .ref k7, .ref k8, .int 0, .int r18, .int r37, .int i3])), (h1, .inr (2, [.ref k9, .ref h2, .int i4])), (h2, aI cI 20 f5), (h3, .inr (6, [.ref h1, .ref k10, .ref h4])), (h4, aI cI 400 f6)] := hD.sub [0, 1, 2, 3, 4] (by decide) rfl
    rw [← hQQ]
    exact W.zret (v := 1) hx hb hr rfl (fun t ht hW => ⟨⟨_, ((0 : Int32), r18, r37), rfl, hwp, by rw [ht]; exact hP9, hD9⟩, hS.F ht⟩) hS.2.2 dX0_findOuter_55
def wX0_link (i0 : Int32) (i1 : Int32) (i2 : Int32) (i3 : Int32) (f4 : Nat → Int32) (f5 : Nat → Int32) (p0 : Int32) (p1 : Int32) (K : ((Nat → Int32) × (Nat → Int32)) → Prop) : Prop := (vp_in p0 20 ∧ (∀ g6 : Nat → Int32, g6 = upd f4 (Int32.toNatClampNeg p0) p1 → (vp_in p1 20 ∧ (∀ g13 : Nat → Int32, g13 = upd f5 (Int32.toNatClampNeg p1) p0 → K (g6, g13)))))
set_option maxHeartbeats 4000000 in
set_option maxRecDepth 100000 in
theorem zX0_link (l : Launch) (G : va_G) (cI cJ cZ : ClassId) (h0 h1 h2 k0 k1 k2 k3 k4 k5 k6 k7 k8 sz : Nat) (i0 : Int32) (i1 : Int32) (i2 : Int32) (i3 : Int32) (f4 : Nat → Int32) (f5 : Nat → Int32) (p0 : Int32) (p1 : Int32) (K : ((Nat → Int32) × (Nat → Int32)) → Prop) (hwp : wX0_link i0 i1 i2 i3 f4 f5 p0 p1 K) : Met l yX0_link (xw yX0_link cX0_link 3 none) ({ frames := 0, cells := 0, slots := 0, locals := 0 }) (xPc G cI cJ cZ [.ref h0, .int p0, .int p1] [(h0, .inr (0, [.ref k0, .ref k1, .ref k2, .ref k3, .ref k4, .ref k5, .ref k6, .ref h1, .ref h2, .ref k7, .ref k8, .int i0, .int i1, .int i2, .int i3])), (h1, aI cI 20 f4), (h2, aI cI 20 f5)] sz) (va_Qv (fun (u : (Nat → Int32) × (Nat → Int32)) => K u) (fun (u : (Nat → Int32) × (Nat → Int32)) t => xB G (va_A [(h0, .inr (0, [.ref k0, .ref k1, .ref k2, .ref k3, .ref k4, .ref k5, .ref k6, .ref h1, .ref h2, .ref k7, .ref k8, .int i0, .int i1, .int i2, .int i3])), (h1, aI cI 20 f4), (h2, aI cI 20 f5)] sz) [(h0, .inr (0, [.ref k0, .ref k1, .ref k2, .ref k3, .ref k4, .ref k5, .ref k6, .ref h1, .ref h2, .ref k7, .ref k8, .int i0, .int i1, .int i2, .int i3])), (h1, aI cI 20 u.1), (h2, aI cI 20 u.2)] t) (va_A [(h0, .inr (0, [.ref k0, .ref k1, .ref k2, .ref k3, .ref k4, .ref k5, .ref k6, .ref h1, .ref h2, .ref k7, .ref k8, .int i0, .int i1, .int i2, .int i3])), (h1, aI cI 20 f4), (h2, aI cI 20 f5)] sz)) 0 0 (va_A [(h0, .inr (0, [.ref k0, .ref k1, .ref k2, .ref k3, .ref k4, .ref k5, .ref k6, .ref h1, .ref h2, .ref k7, .ref k8, .int i0, .int i1, .int i2, .int i3])), (h1, aI cI 20 f4), (h2, aI cI 20 f5)] sz) := by
  refine Met.ofW (cc := cX0_link) (maxL := 3) (ret := none) (by decide) rfl ?_
  intro p e s m args below meth c s₁ B hml hv
  obtain ⟨rfl, hsz, hP, hK, hD0, hN⟩ := hv
  have hx := B.exec
  have hb := B.bytes
  have hr := B.returns
  have hts : ∀ w ∈ xW, w.before _ s = true := fun w h => atoms_spec (ws := xw yX0_link cX0_link 3 none) B.pre w (List.mem_cons_of_mem _ h)
  have hown : s.vm.findClass RX0 = some m.cls := findClass_of_methodNamed B.named
  have hlocks := B.notSynchronized
  subst hsz
  have hD := hD0.self (sz := s.heap.size)
  clear hD0
  generalize hAe : va_A [(h0, .inr (0, [.ref k0, .ref k1, .ref k2, .ref k3, .ref k4, .ref k5, .ref k6, .ref h1, .ref h2, .ref k7, .ref k8, .int i0, .int i1, .int i2, .int i3])), (h1, aI cI 20 f4), (h2, aI cI 20 f5)] s.heap.size = A at hD ⊢
  have hA : ∀ q : Nat, s.heap.size ≤ q → A q := fun q h => by rw [← hAe]; exact Or.inr h
  clear hAe
  have hS : va_S A s.heap s.heap [] := va_S.rf
  replace hP : va_P G vwCl [(h0, .inr (0, [.ref k0, .ref k1, .ref k2, .ref k3, .ref k4, .ref k5, .ref k6, .ref h1, .ref h2, .ref k7, .ref k8, .int i0, .int i1, .int i2, .int i3])), (h1, aI cI 20 f4), (h2, aI cI 20 f5)] s.heap := hP
  have hl := lv_entry ([.ref h0, .int p0, .int p1]) (n := 3) (Nat.le_of_ble_eq_true rfl)
  rw [lg_entry_eq]
  generalize (lg_sl ([.ref h0, .int p0, .int p1]) ++ List.replicate (3 - (lg_sl ([.ref h0, .int p0, .int p1])).length) Slot.unset).toArray = ls at hl ⊢
  replace hl : lv_has ls 3 [(0, .ref h0), (1, .int p0), (2, .int p1)] := hl
  generalize hQQ : MQ below _ _ s 0 0 _ = QQ
  skip
  unfold wX0_link at hwp
  refine lv_aload_n hx hb dX0_link_0 rfl (lv_at hl 0 rfl) ?_
  refine va_get (D := G) (ci := 0) (v := .ref h1) (C := RX0) (T := TX0) (N := 15) hx hb hts xinX0 hown hK hP 0 rfl rfl 7 (by decide) (hts _ wo_132) (fun _ h9 => h9) rfl dX0_link_1 ?_
  refine lv_iload_n hx hb dX0_link_4 rfl (lv_at hl 1 rfl) ?_
  refine lv_iload_n hx hb dX0_link_5 rfl (lv_at hl 2 rfl) ?_
  obtain ⟨hi, hwp⟩ := hwp
  refine va_iast hx hb hK hP hD hS 1 0 rfl rfl hi dX0_link_6 (fun H locs hP hD hS => ?_)
  obtain ⟨g6, eg6⟩ : ∃ z, z = upd f4 (Int32.toNatClampNeg p0) p1 := ⟨_, rfl⟩
  replace hwp := hwp g6 eg6
  replace hP : va_P G vwCl [(h0, .inr (0, [.ref k0, .ref k1, .ref k2, .ref k3, .ref k4, .ref k5, .ref k6, .ref h1, .ref h2, .ref k7, .ref k8, .int i0, .int i1, .int i2, .int i3])), (h1, aI cI 20 g6), (h2, aI cI 20 f5)] H := by rw [eg6]; exact hP
  replace hD : va_D A [(h0, .inr (0, [.ref k0, .ref k1, .ref k2, .ref k3, .ref k4, .ref k5, .ref k6, .ref h1, .ref h2, .ref k7, .ref k8, .int i0, .int i1, .int i2, .int i3])), (h1, aI cI 20 g6), (h2, aI cI 20 f5)] := by rw [eg6]; exact hD
  clear eg6
  refine lv_aload_n hx hb dX0_link_7 rfl (lv_at hl 0 rfl) ?_
  refine va_get (D := G) (ci := 0) (v := .ref h2) (C := RX0) (T := TX0) (N := 15) hx hb hts xinX0 hown hK hP 0 rfl rfl 8 (by decide) (hts _ wo_133) (fun _ h9 => h9) rfl dX0_link_8 ?_
  refine lv_iload_n hx hb dX0_link_11 rfl (lv_at hl 2 rfl) ?_
  refine lv_iload_n hx hb dX0_link_12 rfl (lv_at hl 1 rfl) ?_
  obtain ⟨hi, hwp⟩ := hwp
  refine va_iast hx hb hK hP hD hS 2 0 rfl rfl hi dX0_link_13 (fun H locs hP hD hS => ?_)
  obtain ⟨g13, eg13⟩ : ∃ z, z = upd f5 (Int32.toNatClampNeg p1) p0 := ⟨_, rfl⟩
  replace hwp := hwp g13 eg13
  replace hP : va_P G vwCl [(h0, .inr (0, [.ref k0, .ref k1, .ref k2, .ref k3, .ref k4, .ref k5, .ref k6, .ref h1, .ref h2, .ref k7, .ref k8, .int i0, .int i1, .int i2, .int i3])), (h1, aI cI 20 g6), (h2, aI cI 20 g13)] H := by rw [eg13]; exact hP
  replace hD : va_D A [(h0, .inr (0, [.ref k0, .ref k1, .ref k2, .ref k3, .ref k4, .ref k5, .ref k6, .ref h1, .ref h2, .ref k7, .ref k8, .int i0, .int i1, .int i2, .int i3])), (h1, aI cI 20 g6), (h2, aI cI 20 g13)] := by rw [eg13]; exact hD
  clear eg13
  have hP9 : va_P G vwCl [(h0, .inr (0, [.ref k0, .ref k1, .ref k2, .ref k3, .ref k4, .ref k5, .ref k6, .ref h1, .ref h2, .ref k7, .ref k8, .int i0, .int i1, .int i2, .int i3])), (h1, aI cI 20 g6), (h2, aI cI 20 g13)] H := hP.sub [0, 1, 2] rfl
  have hD9 : va_D A [(h0, .inr (0, [.ref k0, .ref k1, .ref k2, .ref k3, .ref k4, .ref k5, .ref k6, .ref h1, .ref h2, .ref k7, .ref k8, .int i0, .int i1, .int i2, .int i3])), (h1, aI cI 20 g6), (h2, aI cI 20 g13)] := hD.sub [0, 1, 2] (by decide) rfl
  rw [← hQQ]
  exact W.vret hx hb hr (fun t ht hW => ⟨⟨(g6, g13), rfl, hwp, by rw [ht]; exact hP9, hD9⟩, hS.F ht⟩) hS.2.2 dX0_link_14
def wLX0_takeOff_63 (i0 : Int32) (i1 : Int32) (i2 : Int32) (f8 : Nat → Int32) (p0 : Int32) (g16 : Nat → Int32) (g28 : Nat → Int32) (K : (Int32 × (Nat → Int32) × (Nat → Int32) × (Nat → Int32) × (Nat → Int32) × (Nat → Int32)) → Prop)  : Nat → (Nat → Int32) → (Nat → Int32) → (Nat → Int32) → Int32 → Int32 → Int32 → Int32 → Prop
  | 0, _, _, _, _, _, _, _ => False
  | n63 + 1, t63_0, t63_1, t63_2, t63_3, t63_4, t63_5, t63_6 => ((20 ≤ t63_6 → (vp_in p0 20 ∧ (wX0_link i0 i1 i2 t63_3 t63_0 t63_1 t63_4 (g16 (Int32.toNatClampNeg p0)) (fun u135 => K (t63_3, u135.1, g16, u135.2, g28, t63_2))))) ∧ (¬ 20 ≤ t63_6 → ((t63_5 < 0 → (vp_in p0 20 ∧ (wX0_link i0 i1 i2 t63_3 t63_0 t63_1 t63_4 (g16 (Int32.toNatClampNeg p0)) (fun u135 => K (t63_3, u135.1, g16, u135.2, g28, t63_2))))) ∧ (¬ t63_5 < 0 → (vp_in p0 20 ∧ ((t63_5 = (g16 (Int32.toNatClampNeg p0)) → (vp_in p0 20 ∧ (wX0_link i0 i1 i2 t63_3 t63_0 t63_1 t63_4 (g16 (Int32.toNatClampNeg p0)) (fun u135 => K (t63_3, u135.1, g16, u135.2, g28, t63_2))))) ∧ (¬ t63_5 = (g16 (Int32.toNatClampNeg p0)) → (vp_in t63_5 20 ∧ (∀ g90 : Nat → Int32, g90 = upd t63_2 (Int32.toNatClampNeg t63_5) p0 → (∀ v100 : Int32, v100 = (t63_3 ||| ((1 : Int32) <<< (t63_5 &&& 31))) → (wX0_link i0 i1 i2 v100 t63_0 t63_1 t63_4 t63_5 (fun u106 => (wX6_behind f8 p0 t63_5 (fun r117 _ => (wLX0_takeOff_63 i0 i1 i2 f8 p0 g16 g28 K  n63) (u106.1) (u106.2) g90 v100 t63_5 r117 (t63_6 + 1)))))))))))))))
def wX0_takeOff (i0 : Int32) (i1 : Int32) (i2 : Int32) (i3 : Int32) (f4 : Nat → Int32) (f5 : Nat → Int32) (f6 : Nat → Int32) (f7 : Nat → Int32) (f8 : Nat → Int32) (f9 : Nat → Int32) (p0 : Int32) (K : (Int32 × (Nat → Int32) × (Nat → Int32) × (Nat → Int32) × (Nat → Int32) × (Nat → Int32)) → Prop) : Prop := ((0 ≤ p0 → (vp_in p0 20 ∧ (vp_in p0 20 ∧ (∀ g16 : Nat → Int32, g16 = upd f5 (Int32.toNatClampNeg p0) (f4 (Int32.toNatClampNeg p0)) → (vp_in p0 20 ∧ (vp_in p0 20 ∧ (∀ g28 : Nat → Int32, g28 = upd f7 (Int32.toNatClampNeg p0) (f6 (Int32.toNatClampNeg p0)) → (∀ v40 : Int32, v40 = (i3 &&& (((1 : Int32) <<< (p0 &&& 31)) ^^^ (-1))) → (vp_in p0 20 ∧ (∀ v49 : Int32, v49 = (g28 (Int32.toNatClampNeg p0)) → (wX6_behind f8 p0 v49 (fun r56 _ => (∃ n63, wLX0_takeOff_63 i0 i1 i2 f8 p0 g16 g28 K  n63 f4 f6 f9 v40 v49 r56 0))))))))))))) ∧ (¬ 0 ≤ p0 → K (i3, f4, f5, f6, f7, f9)))
set_option maxHeartbeats 4000000 in
set_option maxRecDepth 100000 in
theorem zX0_takeOff (l : Launch) (G : va_G) (cI cJ cZ : ClassId) (h0 h1 h2 h3 h4 h5 h6 h7 k0 k1 k2 k3 k4 k5 sz : Nat) (i0 : Int32) (i1 : Int32) (i2 : Int32) (i3 : Int32) (f4 : Nat → Int32) (f5 : Nat → Int32) (f6 : Nat → Int32) (f7 : Nat → Int32) (f8 : Nat → Int32) (f9 : Nat → Int32) (p0 : Int32) (K : (Int32 × (Nat → Int32) × (Nat → Int32) × (Nat → Int32) × (Nat → Int32) × (Nat → Int32)) → Prop) (hwp : wX0_takeOff i0 i1 i2 i3 f4 f5 f6 f7 f8 f9 p0 K) : Met l yX0_takeOff (xw yX0_takeOff cX0_takeOff 5 none) ({ frames := 1, cells := 0, slots := 0, locals := 22 }) (xPc G cI cJ cZ [.ref h0, .int p0] [(h0, .inr (0, [.ref k0, .ref h5, .ref k1, .ref k2, .ref h2, .ref h4, .ref h7, .ref h1, .ref h3, .ref k3, .ref k4, .int i0, .int i1, .int i2, .int i3])), (h1, aI cI 20 f4), (h2, aI cI 20 f5), (h3, aI cI 20 f6), (h4, aI cI 20 f7), (h5, .inr (6, [.ref k0, .ref k5, .ref h6])), (h6, aI cI 400 f8), (h7, aI cI 20 f9)] sz) (va_Qv (fun (u : Int32 × (Nat → Int32) × (Nat → Int32) × (Nat → Int32) × (Nat → Int32) × (Nat → Int32)) => K u) (fun (u : Int32 × (Nat → Int32) × (Nat → Int32) × (Nat → Int32) × (Nat → Int32) × (Nat → Int32)) t => xB G (va_A [(h0, .inr (0, [.ref k0, .ref h5, .ref k1, .ref k2, .ref h2, .ref h4, .ref h7, .ref h1, .ref h3, .ref k3, .ref k4, .int i0, .int i1, .int i2, .int i3])), (h1, aI cI 20 f4), (h2, aI cI 20 f5), (h3, aI cI 20 f6), (h4, aI cI 20 f7), (h5, .inr (6, [.ref k0, .ref k5, .ref h6])), (h6, aI cI 400 f8), (h7, aI cI 20 f9)] sz) [(h0, .inr (0, [.ref k0, .ref h5, .ref k1, .ref k2, .ref h2, .ref h4, .ref h7, .ref h1, .ref h3, .ref k3, .ref k4, .int i0, .int i1, .int i2, .int u.1])), (h1, aI cI 20 u.2.1), (h2, aI cI 20 u.2.2.1), (h3, aI cI 20 u.2.2.2.1), (h4, aI cI 20 u.2.2.2.2.1), (h5, .inr (6, [.ref k0, .ref k5, .ref h6])), (h6, aI cI 400 f8), (h7, aI cI 20 u.2.2.2.2.2)] t) (va_A [(h0, .inr (0, [.ref k0, .ref h5, .ref k1, .ref k2, .ref h2, .ref h4, .ref h7, .ref h1, .ref h3, .ref k3, .ref k4, .int i0, .int i1, .int i2, .int i3])), (h1, aI cI 20 f4), (h2, aI cI 20 f5), (h3, aI cI 20 f6), (h4, aI cI 20 f7), (h5, .inr (6, [.ref k0, .ref k5, .ref h6])), (h6, aI cI 400 f8), (h7, aI cI 20 f9)] sz)) 0 0 (va_A [(h0, .inr (0, [.ref k0, .ref h5, .ref k1, .ref k2, .ref h2, .ref h4, .ref h7, .ref h1, .ref h3, .ref k3, .ref k4, .int i0, .int i1, .int i2, .int i3])), (h1, aI cI 20 f4), (h2, aI cI 20 f5), (h3, aI cI 20 f6), (h4, aI cI 20 f7), (h5, .inr (6, [.ref k0, .ref k5, .ref h6])), (h6, aI cI 400 f8), (h7, aI cI 20 f9)] sz) := by
  refine Met.ofW (cc := cX0_takeOff) (maxL := 5) (ret := none) (by decide) rfl ?_
  intro p e s m args below meth c s₁ B hml hv
  obtain ⟨rfl, hsz, hP, hK, hD0, hN⟩ := hv
  have hx := B.exec
  have hb := B.bytes
  have hr := B.returns
  have hts : ∀ w ∈ xW, w.before _ s = true := fun w h => atoms_spec (ws := xw yX0_takeOff cX0_takeOff 5 none) B.pre w (List.mem_cons_of_mem _ h)
  have hown : s.vm.findClass RX0 = some m.cls := findClass_of_methodNamed B.named
  have hlocks := B.notSynchronized
  subst hsz
  have hD := hD0.self (sz := s.heap.size)
  clear hD0
  generalize hAe : va_A [(h0, .inr (0, [.ref k0, .ref h5, .ref k1, .ref k2, .ref h2, .ref h4, .ref h7, .ref h1, .ref h3, .ref k3, .ref k4, .int i0, .int i1, .int i2, .int i3])), (h1, aI cI 20 f4), (h2, aI cI 20 f5), (h3, aI cI 20 f6), (h4, aI cI 20 f7), (h5, .inr (6, [.ref k0, .ref k5, .ref h6])), (h6, aI cI 400 f8), (h7, aI cI 20 f9)] s.heap.size = A at hD ⊢
  have hA : ∀ q : Nat, s.heap.size ≤ q → A q := fun q h => by rw [← hAe]; exact Or.inr h
  clear hAe
  have hS : va_S A s.heap s.heap [] := va_S.rf
  replace hP : va_P G vwCl [(h0, .inr (0, [.ref k0, .ref h5, .ref k1, .ref k2, .ref h2, .ref h4, .ref h7, .ref h1, .ref h3, .ref k3, .ref k4, .int i0, .int i1, .int i2, .int i3])), (h1, aI cI 20 f4), (h2, aI cI 20 f5), (h3, aI cI 20 f6), (h4, aI cI 20 f7), (h5, .inr (6, [.ref k0, .ref k5, .ref h6])), (h6, aI cI 400 f8), (h7, aI cI 20 f9)] s.heap := hP
  have hl := lv_entry ([.ref h0, .int p0]) (n := 5) (Nat.le_of_ble_eq_true rfl)
  rw [lg_entry_eq]
  generalize (lg_sl ([.ref h0, .int p0]) ++ List.replicate (5 - (lg_sl ([.ref h0, .int p0])).length) Slot.unset).toArray = ls at hl ⊢
  replace hl : lv_has ls 5 [(0, .ref h0), (1, .int p0)] := hl
  generalize hQQ : MQ below _ _ s 0 0 _ = QQ
  skip
  unfold wX0_takeOff at hwp
  refine lv_iload_n hx hb dX0_takeOff_0 rfl (lv_at hl 1 rfl) ?_
  refine lv_if_ge (tgt := 5) hx hb dX0_takeOff_1 (by decide) (fun c1 => ?_) (fun c1 => ?_)
  · replace hwp := hwp.1 c1
    refine lv_aload_n hx hb dX0_takeOff_5 rfl (lv_at hl 0 rfl) ?_
    refine va_get (D := G) (ci := 0) (v := .ref h2) (C := RX0) (T := TX0) (N := 15) hx hb hts xinX0 hown hK hP 0 rfl rfl 4 (by decide) (hts _ wo_134) (fun _ h9 => h9) rfl dX0_takeOff_6 ?_
    refine lv_iload_n hx hb dX0_takeOff_9 rfl (lv_at hl 1 rfl) ?_
    refine lv_aload_n hx hb dX0_takeOff_10 rfl (lv_at hl 0 rfl) ?_
    refine va_get (D := G) (ci := 0) (v := .ref h1) (C := RX0) (T := TX0) (N := 15) hx hb hts xinX0 hown hK hP 0 rfl rfl 7 (by decide) (hts _ wo_132) (fun _ h9 => h9) rfl dX0_takeOff_11 ?_
    refine lv_iload_n hx hb dX0_takeOff_14 rfl (lv_at hl 1 rfl) ?_
    obtain ⟨hi, hwp⟩ := hwp
    refine va_iald hx hb hK hP 1 0 rfl rfl hi dX0_takeOff_15 ?_
    obtain ⟨hi, hwp⟩ := hwp
    refine va_iast hx hb hK hP hD hS 2 0 rfl rfl hi dX0_takeOff_16 (fun H locs hP hD hS => ?_)
    obtain ⟨g16, eg16⟩ : ∃ z, z = upd f5 (Int32.toNatClampNeg p0) (f4 (Int32.toNatClampNeg p0)) := ⟨_, rfl⟩
    replace hwp := hwp g16 eg16
    replace hP : va_P G vwCl [(h0, .inr (0, [.ref k0, .ref h5, .ref k1, .ref k2, .ref h2, .ref h4, .ref h7, .ref h1, .ref h3, .ref k3, .ref k4, .int i0, .int i1, .int i2, .int i3])), (h1, aI cI 20 f4), (h2, aI cI 20 g16), (h3, aI cI 20 f6), (h4, aI cI 20 f7), (h5, .inr (6, [.ref k0, .ref k5, .ref h6])), (h6, aI cI 400 f8), (h7, aI cI 20 f9)] H := by rw [eg16]; exact hP
    replace hD : va_D A [(h0, .inr (0, [.ref k0, .ref h5, .ref k1, .ref k2, .ref h2, .ref h4, .ref h7, .ref h1, .ref h3, .ref k3, .ref k4, .int i0, .int i1, .int i2, .int i3])), (h1, aI cI 20 f4), (h2, aI cI 20 g16), (h3, aI cI 20 f6), (h4, aI cI 20 f7), (h5, .inr (6, [.ref k0, .ref k5, .ref h6])), (h6, aI cI 400 f8), (h7, aI cI 20 f9)] := by rw [eg16]; exact hD
    clear eg16
    refine lv_aload_n hx hb dX0_takeOff_17 rfl (lv_at hl 0 rfl) ?_
    refine va_get (D := G) (ci := 0) (v := .ref h4) (C := RX0) (T := TX0) (N := 15) hx hb hts xinX0 hown hK hP 0 rfl rfl 5 (by decide) (hts _ wo_135) (fun _ h9 => h9) rfl dX0_takeOff_18 ?_
    refine lv_iload_n hx hb dX0_takeOff_21 rfl (lv_at hl 1 rfl) ?_
    refine lv_aload_n hx hb dX0_takeOff_22 rfl (lv_at hl 0 rfl) ?_
    refine va_get (D := G) (ci := 0) (v := .ref h3) (C := RX0) (T := TX0) (N := 15) hx hb hts xinX0 hown hK hP 0 rfl rfl 8 (by decide) (hts _ wo_133) (fun _ h9 => h9) rfl dX0_takeOff_23 ?_
    refine lv_iload_n hx hb dX0_takeOff_26 rfl (lv_at hl 1 rfl) ?_
    obtain ⟨hi, hwp⟩ := hwp
    refine va_iald hx hb hK hP 3 0 rfl rfl hi dX0_takeOff_27 ?_
    obtain ⟨hi, hwp⟩ := hwp
    refine va_iast hx hb hK hP hD hS 4 0 rfl rfl hi dX0_takeOff_28 (fun H locs hP hD hS => ?_)
    obtain ⟨g28, eg28⟩ : ∃ z, z = upd f7 (Int32.toNatClampNeg p0) (f6 (Int32.toNatClampNeg p0)) := ⟨_, rfl⟩
    replace hwp := hwp g28 eg28
    replace hP : va_P G vwCl [(h0, .inr (0, [.ref k0, .ref h5, .ref k1, .ref k2, .ref h2, .ref h4, .ref h7, .ref h1, .ref h3, .ref k3, .ref k4, .int i0, .int i1, .int i2, .int i3])), (h1, aI cI 20 f4), (h2, aI cI 20 g16), (h3, aI cI 20 f6), (h4, aI cI 20 g28), (h5, .inr (6, [.ref k0, .ref k5, .ref h6])), (h6, aI cI 400 f8), (h7, aI cI 20 f9)] H := by rw [eg28]; exact hP
    replace hD : va_D A [(h0, .inr (0, [.ref k0, .ref h5, .ref k1, .ref k2, .ref h2, .ref h4, .ref h7, .ref h1, .ref h3, .ref k3, .ref k4, .int i0, .int i1, .int i2, .int i3])), (h1, aI cI 20 f4), (h2, aI cI 20 g16), (h3, aI cI 20 f6), (h4, aI cI 20 g28), (h5, .inr (6, [.ref k0, .ref k5, .ref h6])), (h6, aI cI 400 f8), (h7, aI cI 20 f9)] := by rw [eg28]; exact hD
    clear eg28
    refine lv_aload_n hx hb dX0_takeOff_29 rfl (lv_at hl 0 rfl) ?_
    refine lv_dup hx hb dX0_takeOff_30 rfl ?_
    refine va_get (D := G) (ci := 0) (v := .int i3) (C := RX0) (T := TX0) (N := 15) hx hb hts xinX0 hown hK hP 0 rfl rfl 14 (by decide) (hts _ wo_136) (fun _ h9 => h9) rfl dX0_takeOff_31 ?_
    refine lv_iconst (v := 1) hx hb dX0_takeOff_34 (by decide) ?_
    refine lv_iload_n hx hb dX0_takeOff_35 rfl (lv_at hl 1 rfl) ?_
    refine lv_ishl hx hb dX0_takeOff_36 ?_
    refine lv_iconst (v := (-1)) hx hb dX0_takeOff_37 (by decide) ?_
    refine lv_ixor hx hb dX0_takeOff_38 ?_
    refine lv_iand hx hb dX0_takeOff_39 ?_
    refine lv_topi (fun v40 ev40 => ?_)
    replace hwp := hwp v40 ev40
    clear ev40
    refine va_put (D := G) (ci := 0) (v := .int v40) (ty := .int) (C := RX0) (T := TX0) (N := 15) hx hb hts xinX0 tyX0 tyX0_ok nmX0 hown hK hP hD hS 0 rfl rfl 14 (by decide) (hts _ wo_136) (fun _ h9 => h9) rfl (by decide +kernel) rfl rfl (Nat.le_of_ble_eq_true rfl) dX0_takeOff_40 (fun H locs hP hD hS => ?_)
    replace hP : va_P G vwCl [(h0, .inr (0, [.ref k0, .ref h5, .ref k1, .ref k2, .ref h2, .ref h4, .ref h7, .ref h1, .ref h3, .ref k3, .ref k4, .int i0, .int i1, .int i2, .int v40])), (h1, aI cI 20 f4), (h2, aI cI 20 g16), (h3, aI cI 20 f6), (h4, aI cI 20 g28), (h5, .inr (6, [.ref k0, .ref k5, .ref h6])), (h6, aI cI 400 f8), (h7, aI cI 20 f9)] H := hP
    replace hD : va_D A [(h0, .inr (0, [.ref k0, .ref h5, .ref k1, .ref k2, .ref h2, .ref h4, .ref h7, .ref h1, .ref h3, .ref k3, .ref k4, .int i0, .int i1, .int i2, .int v40])), (h1, aI cI 20 f4), (h2, aI cI 20 g16), (h3, aI cI 20 f6), (h4, aI cI 20 g28), (h5, .inr (6, [.ref k0, .ref k5, .ref h6])), (h6, aI cI 400 f8), (h7, aI cI 20 f9)] := hD
    refine lv_aload_n hx hb dX0_takeOff_43 rfl (lv_at hl 0 rfl) ?_
    refine va_get (D := G) (ci := 0) (v := .ref h4) (C := RX0) (T := TX0) (N := 15) hx hb hts xinX0 hown hK hP 0 rfl rfl 5 (by decide) (hts _ wo_135) (fun _ h9 => h9) rfl dX0_takeOff_44 ?_
    refine lv_iload_n hx hb dX0_takeOff_47 rfl (lv_at hl 1 rfl) ?_
    obtain ⟨hi, hwp⟩ := hwp
    refine va_iald hx hb hK hP 4 0 rfl rfl hi dX0_takeOff_48 ?_
    refine lv_topi (fun v49 ev49 => ?_)
    replace hwp := hwp v49 ev49
    clear ev49
    refine lv_istore_n (lv' := [(2, .int v49), (0, .ref h0), (1, .int p0)]) hx hb dX0_takeOff_49 rfl hl (by decide) rfl (fun ls hl => ?_)
    refine lv_aload_n hx hb dX0_takeOff_50 rfl (lv_at hl 1 rfl) ?_
    refine va_get (D := G) (ci := 0) (v := .ref h5) (C := RX0) (T := TX0) (N := 15) hx hb hts xinX0 hown hK hP 0 rfl rfl 1 (by decide) (hts _ wo_129) (fun _ h9 => h9) rfl dX0_takeOff_51 ?_
    refine lv_iload_n hx hb dX0_takeOff_54 rfl (lv_at hl 2 rfl) ?_
    refine lv_iload_n hx hb dX0_takeOff_55 rfl (lv_at hl 0 rfl) ?_
    refine xci (wr := [(h0, .inr (0, [.ref k0, .ref h5, .ref k1, .ref k2, .ref h2, .ref h4, .ref h7, .ref h1, .ref h3, .ref k3, .ref k4, .int i0, .int i1, .int i2, .int v40])), (h1, aI cI 20 f4), (h2, aI cI 20 g16), (h3, aI cI 20 f6), (h4, aI cI 20 g28), (h7, aI cI 20 f9)]) (va_runV (As := [.int p0, .int v49]) (rest := []) ⟨hx, hb, hml, hown, hts⟩ (zX6_behind l G cI cJ cZ h5 h6 k0 k5 H.size f8 p0 v49 _ hwp) (cwV 2 hts (xgoodV wo_51 wo_130 wo_53 wo_54 wo_55) rfl rfl rfl (by decide +kernel) ⟨Nat.le_of_ble_eq_true rfl, Nat.le_of_ble_eq_true rfl⟩) (xPreV (q := (RX6, TX6, 3)) (q0 := 5) hK hN hP hD [5, 6] (by decide) rfl rfl rfl) rfl rfl hl.1 rfl (lv_room (Nat.le_of_ble_eq_true rfl)) dX0_takeOff_56 ⟨Nat.le_of_ble_eq_true rfl, Nat.le_of_ble_eq_true rfl⟩) hP hD hS hA [5, 6] [0, 1, 2, 3, 4, 7] rfl rfl (by decide) (by decide) (fun r56 u56 H locs hwp hP hD hS => ?_)
    replace hP : va_P G vwCl [(h0, .inr (0, [.ref k0, .ref h5, .ref k1, .ref k2, .ref h2, .ref h4, .ref h7, .ref h1, .ref h3, .ref k3, .ref k4, .int i0, .int i1, .int i2, .int v40])), (h1, aI cI 20 f4), (h2, aI cI 20 g16), (h3, aI cI 20 f6), (h4, aI cI 20 g28), (h7, aI cI 20 f9), (h5, .inr (6, [.ref k0, .ref k5, .ref h6])), (h6, aI cI 400 f8)] H := hP
    replace hD : va_D A [(h0, .inr (0, [.ref k0, .ref h5, .ref k1, .ref k2, .ref h2, .ref h4, .ref h7, .ref h1, .ref h3, .ref k3, .ref k4, .int i0, .int i1, .int i2, .int v40])), (h1, aI cI 20 f4), (h2, aI cI 20 g16), (h3, aI cI 20 f6), (h4, aI cI 20 g28), (h7, aI cI 20 f9), (h5, .inr (6, [.ref k0, .ref k5, .ref h6])), (h6, aI cI 400 f8)] := hD
    refine lv_istore_n (lv' := [(3, .int r56), (2, .int v49), (0, .ref h0), (1, .int p0)]) hx hb dX0_takeOff_59 rfl hl (by decide) rfl (fun ls hl => ?_)
    refine lv_iconst (v := 0) hx hb dX0_takeOff_60 (by decide) ?_
    refine lv_istore (lv' := [(4, .int 0), (3, .int r56), (2, .int v49), (0, .ref h0), (1, .int p0)]) hx hb dX0_takeOff_61 hl (by decide) rfl (fun ls hl => ?_)
    replace hl : lv_has ls 5 [(4, .int 0), (3, .int r56), (2, .int v49), (0, .ref h0), (1, .int p0)] := lv_sub hl [0, 1, 2, 3, 4] rfl
    obtain ⟨n1, hwp⟩ := hwp
    have hs1 : ∀ (n1 : Nat) (H : Heap) (locs : List Loc) (ls : Array Slot) (t63_0 : Nat → Int32) (t63_1 : Nat → Int32) (t63_2 : Nat → Int32) (t63_3 : Int32) (t63_4 : Int32) (t63_5 : Int32) (t63_6 : Int32), wLX0_takeOff_63 i0 i1 i2 f8 p0 g16 g28 K  n1 t63_0 t63_1 t63_2 t63_3 t63_4 t63_5 t63_6 → va_P G vwCl [(h0, .inr (0, [.ref k0, .ref h5, .ref k1, .ref k2, .ref h2, .ref h4, .ref h7, .ref h1, .ref h3, .ref k3, .ref k4, .int i0, .int i1, .int i2, .int t63_3])), (h1, aI cI 20 t63_0), (h2, aI cI 20 g16), (h3, aI cI 20 t63_1), (h4, aI cI 20 g28), (h7, aI cI 20 t63_2), (h5, .inr (6, [.ref k0, .ref k5, .ref h6])), (h6, aI cI 400 f8)] H → va_D A [(h0, .inr (0, [.ref k0, .ref h5, .ref k1, .ref k2, .ref h2, .ref h4, .ref h7, .ref h1, .ref h3, .ref k3, .ref k4, .int i0, .int i1, .int i2, .int t63_3])), (h1, aI cI 20 t63_0), (h2, aI cI 20 g16), (h3, aI cI 20 t63_1), (h4, aI cI 20 g28), (h7, aI cI 20 t63_2), (h5, .inr (6, [.ref k0, .ref k5, .ref h6])), (h6, aI cI 400 f8)] → va_S A s.heap H locs → lv_has ls 5 [(4, .int t63_6), (3, .int t63_5), (2, .int t63_4), (0, .ref h0), (1, .int p0)] → W p l e ((headSpec (xw yX0_takeOff cX0_takeOff 5 none) { frames := 1, cells := 0, slots := 0, locals := 22 }).room) s m ([.ref h0, .int p0] : List Value).toArray below meth c H locs 0 0 QQ (F0 m 63 ls []) := by
      intro n1
      induction n1 with
      | zero => intro H locs ls t63_0 t63_1 t63_2 t63_3 t63_4 t63_5 t63_6 hwp; exact False.elim hwp
      | succ n1 ih1 =>
        intro H locs ls t63_0 t63_1 t63_2 t63_3 t63_4 t63_5 t63_6 hwp hP hD hS hl
        rw [wLX0_takeOff_63] at hwp
        refine lv_iload hx hb dX0_takeOff_63 (lv_at hl 0 rfl) ?_
        refine lv_bipush (v := 20) hx hb dX0_takeOff_65 (by decide) ?_
        refine lv_icmp_ge (tgt := 127) hx hb dX0_takeOff_67 (by decide) (fun c67 => ?_) (fun c67 => ?_)
        · replace hwp := hwp.1 c67
          refine lv_aload_n hx hb dX0_takeOff_127 rfl (lv_at hl 3 rfl) ?_
          refine lv_iload_n hx hb dX0_takeOff_128 rfl (lv_at hl 2 rfl) ?_
          refine lv_aload_n hx hb dX0_takeOff_129 rfl (lv_at hl 3 rfl) ?_
          refine va_get (D := G) (ci := 0) (v := .ref h2) (C := RX0) (T := TX0) (N := 15) hx hb hts xinX0 hown hK hP 0 rfl rfl 4 (by decide) (hts _ wo_134) (fun _ h9 => h9) rfl dX0_takeOff_130 ?_
          refine lv_iload_n hx hb dX0_takeOff_133 rfl (lv_at hl 4 rfl) ?_
          obtain ⟨hi, hwp⟩ := hwp
          refine va_iald hx hb hK hP 2 0 rfl rfl hi dX0_takeOff_134 ?_
          refine xcv (wr := [(h2, aI cI 20 g16), (h4, aI cI 20 g28), (h7, aI cI 20 t63_2), (h5, .inr (6, [.ref k0, .ref k5, .ref h6])), (h6, aI cI 400 f8)]) (va_runV (As := [.int t63_4, .int (g16 (Int32.toNatClampNeg p0))]) (rest := []) ⟨hx, hb, hml, hown, hts⟩ (zX0_link l G cI cJ cZ h0 h1 h3 k0 h5 k1 k2 h2 h4 h7 k3 k4 H.size i0 i1 i2 t63_3 t63_0 t63_1 t63_4 (g16 (Int32.toNatClampNeg p0)) _ hwp) (cwV 2 hts (xgoodV wo_137 wo_138 wo_139 wo_140 wo_141) rfl rfl rfl (by decide +kernel) ⟨Nat.le_of_ble_eq_true rfl, Nat.le_of_ble_eq_true rfl⟩) (xPreV (q := (RX0, TX0, 15)) (q0 := 0) hK hN hP hD [0, 1, 3] (by decide) rfl rfl rfl) rfl rfl hl.1 rfl (lv_room (Nat.le_of_ble_eq_true rfl)) dX0_takeOff_135 ⟨Nat.le_of_ble_eq_true rfl, Nat.le_of_ble_eq_true rfl⟩) hP hD hS hA [0, 1, 3] [2, 4, 5, 6, 7] rfl rfl (by decide) (by decide) (fun u135 H locs hwp hP hD hS => ?_)
          replace hP : va_P G vwCl [(h2, aI cI 20 g16), (h4, aI cI 20 g28), (h7, aI cI 20 t63_2), (h5, .inr (6, [.ref k0, .ref k5, .ref h6])), (h6, aI cI 400 f8), (h0, .inr (0, [.ref k0, .ref h5, .ref k1, .ref k2, .ref h2, .ref h4, .ref h7, .ref h1, .ref h3, .ref k3, .ref k4, .int i0, .int i1, .int i2, .int t63_3])), (h1, aI cI 20 u135.1), (h3, aI cI 20 u135.2)] H := hP
          replace hD : va_D A [(h2, aI cI 20 g16), (h4, aI cI 20 g28), (h7, aI cI 20 t63_2), (h5, .inr (6, [.ref k0, .ref k5, .ref h6])), (h6, aI cI 400 f8), (h0, .inr (0, [.ref k0, .ref h5, .ref k1, .ref k2, .ref h2, .ref h4, .ref h7, .ref h1, .ref h3, .ref k3, .ref k4, .int i0, .int i1, .int i2, .int t63_3])), (h1, aI cI 20 u135.1), (h3, aI cI 20 u135.2)] := hD
          have hP9 : va_P G vwCl [(h0, .inr (0, [.ref k0, .ref h5, .ref k1, .ref k2, .ref h2, .ref h4, .ref h7, .ref h1, .ref h3, .ref k3, .ref k4, .int i0, .int i1, .int i2, .int t63_3])), (h1, aI cI 20 u135.1), (h2, aI cI 20 g16), (h3, aI cI 20 u135.2), (h4, aI cI 20 g28), (h5, .inr (6, [.ref k0, .ref k5, .ref h6])), (h6, aI cI 400 f8), (h7, aI cI 20 t63_2)] H := hP.sub [5, 6, 0, 7, 1, 3, 4, 2] rfl
          have hD9 : va_D A [(h0, .inr (0, [.ref k0, .ref h5, .ref k1, .ref k2, .ref h2, .ref h4, .ref h7, .ref h1, .ref h3, .ref k3, .ref k4, .int i0, .int i1, .int i2, .int t63_3])), (h1, aI cI 20 u135.1), (h2, aI cI 20 g16), (h3, aI cI 20 u135.2), (h4, aI cI 20 g28), (h5, .inr (6, [.ref k0, .ref k5, .ref h6])), (h6, aI cI 400 f8), (h7, aI cI 20 t63_2)] := hD.sub [5, 6, 0, 7, 1, 3, 4, 2] (by decide) rfl
          rw [← hQQ]
          exact W.vret hx hb hr (fun t ht hW => ⟨⟨(t63_3, u135.1, g16, u135.2, g28, t63_2), rfl, hwp, by rw [ht]; exact hP9, hD9⟩, hS.F ht⟩) hS.2.2 dX0_takeOff_138
        · replace hwp := hwp.2 c67
          refine lv_iload_n hx hb dX0_takeOff_70 rfl (lv_at hl 1 rfl) ?_
          refine lv_if_lt (tgt := 127) hx hb dX0_takeOff_71 (by decide) (fun c71 => ?_) (fun c71 => ?_)
          · replace hwp := hwp.1 c71
            refine lv_aload_n hx hb dX0_takeOff_127 rfl (lv_at hl 3 rfl) ?_
            refine lv_iload_n hx hb dX0_takeOff_128 rfl (lv_at hl 2 rfl) ?_
            refine lv_aload_n hx hb dX0_takeOff_129 rfl (lv_at hl 3 rfl) ?_
            refine va_get (D := G) (ci := 0) (v := .ref h2) (C := RX0) (T := TX0) (N := 15) hx hb hts xinX0 hown hK hP 0 rfl rfl 4 (by decide) (hts _ wo_134) (fun _ h9 => h9) rfl dX0_takeOff_130 ?_
            refine lv_iload_n hx hb dX0_takeOff_133 rfl (lv_at hl 4 rfl) ?_
            obtain ⟨hi, hwp⟩ := hwp
            refine va_iald hx hb hK hP 2 0 rfl rfl hi dX0_takeOff_134 ?_
            refine xcv (wr := [(h2, aI cI 20 g16), (h4, aI cI 20 g28), (h7, aI cI 20 t63_2), (h5, .inr (6, [.ref k0, .ref k5, .ref h6])), (h6, aI cI 400 f8)]) (va_runV (As := [.int t63_4, .int (g16 (Int32.toNatClampNeg p0))]) (rest := []) ⟨hx, hb, hml, hown, hts⟩ (zX0_link l G cI cJ cZ h0 h1 h3 k0 h5 k1 k2 h2 h4 h7 k3 k4 H.size i0 i1 i2 t63_3 t63_0 t63_1 t63_4 (g16 (Int32.toNatClampNeg p0)) _ hwp) (cwV 2 hts (xgoodV wo_137 wo_138 wo_139 wo_140 wo_141) rfl rfl rfl (by decide +kernel) ⟨Nat.le_of_ble_eq_true rfl, Nat.le_of_ble_eq_true rfl⟩) (xPreV (q := (RX0, TX0, 15)) (q0 := 0) hK hN hP hD [0, 1, 3] (by decide) rfl rfl rfl) rfl rfl hl.1 rfl (lv_room (Nat.le_of_ble_eq_true rfl)) dX0_takeOff_135 ⟨Nat.le_of_ble_eq_true rfl, Nat.le_of_ble_eq_true rfl⟩) hP hD hS hA [0, 1, 3] [2, 4, 5, 6, 7] rfl rfl (by decide) (by decide) (fun u135 H locs hwp hP hD hS => ?_)
            replace hP : va_P G vwCl [(h2, aI cI 20 g16), (h4, aI cI 20 g28), (h7, aI cI 20 t63_2), (h5, .inr (6, [.ref k0, .ref k5, .ref h6])), (h6, aI cI 400 f8), (h0, .inr (0, [.ref k0, .ref h5, .ref k1, .ref k2, .ref h2, .ref h4, .ref h7, .ref h1, .ref h3, .ref k3, .ref k4, .int i0, .int i1, .int i2, .int t63_3])), (h1, aI cI 20 u135.1), (h3, aI cI 20 u135.2)] H := hP
            replace hD : va_D A [(h2, aI cI 20 g16), (h4, aI cI 20 g28), (h7, aI cI 20 t63_2), (h5, .inr (6, [.ref k0, .ref k5, .ref h6])), (h6, aI cI 400 f8), (h0, .inr (0, [.ref k0, .ref h5, .ref k1, .ref k2, .ref h2, .ref h4, .ref h7, .ref h1, .ref h3, .ref k3, .ref k4, .int i0, .int i1, .int i2, .int t63_3])), (h1, aI cI 20 u135.1), (h3, aI cI 20 u135.2)] := hD
            have hP9 : va_P G vwCl [(h0, .inr (0, [.ref k0, .ref h5, .ref k1, .ref k2, .ref h2, .ref h4, .ref h7, .ref h1, .ref h3, .ref k3, .ref k4, .int i0, .int i1, .int i2, .int t63_3])), (h1, aI cI 20 u135.1), (h2, aI cI 20 g16), (h3, aI cI 20 u135.2), (h4, aI cI 20 g28), (h5, .inr (6, [.ref k0, .ref k5, .ref h6])), (h6, aI cI 400 f8), (h7, aI cI 20 t63_2)] H := hP.sub [5, 6, 0, 7, 1, 3, 4, 2] rfl
            have hD9 : va_D A [(h0, .inr (0, [.ref k0, .ref h5, .ref k1, .ref k2, .ref h2, .ref h4, .ref h7, .ref h1, .ref h3, .ref k3, .ref k4, .int i0, .int i1, .int i2, .int t63_3])), (h1, aI cI 20 u135.1), (h2, aI cI 20 g16), (h3, aI cI 20 u135.2), (h4, aI cI 20 g28), (h5, .inr (6, [.ref k0, .ref k5, .ref h6])), (h6, aI cI 400 f8), (h7, aI cI 20 t63_2)] := hD.sub [5, 6, 0, 7, 1, 3, 4, 2] (by decide) rfl
            rw [← hQQ]
            exact W.vret hx hb hr (fun t ht hW => ⟨⟨(t63_3, u135.1, g16, u135.2, g28, t63_2), rfl, hwp, by rw [ht]; exact hP9, hD9⟩, hS.F ht⟩) hS.2.2 dX0_takeOff_138
          · replace hwp := hwp.2 c71
            refine lv_iload_n hx hb dX0_takeOff_74 rfl (lv_at hl 1 rfl) ?_
            refine lv_aload_n hx hb dX0_takeOff_75 rfl (lv_at hl 3 rfl) ?_
            refine va_get (D := G) (ci := 0) (v := .ref h2) (C := RX0) (T := TX0) (N := 15) hx hb hts xinX0 hown hK hP 0 rfl rfl 4 (by decide) (hts _ wo_134) (fun _ h9 => h9) rfl dX0_takeOff_76 ?_
            refine lv_iload_n hx hb dX0_takeOff_79 rfl (lv_at hl 4 rfl) ?_
            obtain ⟨hi, hwp⟩ := hwp
            refine va_iald hx hb hK hP 2 0 rfl rfl hi dX0_takeOff_80 ?_
            refine lv_icmp_eq (tgt := 127) hx hb dX0_takeOff_81 (by decide) (fun c81 => ?_) (fun c81 => ?_)
            · replace hwp := hwp.1 c81
              refine lv_aload_n hx hb dX0_takeOff_127 rfl (lv_at hl 3 rfl) ?_
              refine lv_iload_n hx hb dX0_takeOff_128 rfl (lv_at hl 2 rfl) ?_
              refine lv_aload_n hx hb dX0_takeOff_129 rfl (lv_at hl 3 rfl) ?_
              refine va_get (D := G) (ci := 0) (v := .ref h2) (C := RX0) (T := TX0) (N := 15) hx hb hts xinX0 hown hK hP 0 rfl rfl 4 (by decide) (hts _ wo_134) (fun _ h9 => h9) rfl dX0_takeOff_130 ?_
              refine lv_iload_n hx hb dX0_takeOff_133 rfl (lv_at hl 4 rfl) ?_
              obtain ⟨hi, hwp⟩ := hwp
              refine va_iald hx hb hK hP 2 0 rfl rfl hi dX0_takeOff_134 ?_
              refine xcv (wr := [(h2, aI cI 20 g16), (h4, aI cI 20 g28), (h7, aI cI 20 t63_2), (h5, .inr (6, [.ref k0, .ref k5, .ref h6])), (h6, aI cI 400 f8)]) (va_runV (As := [.int t63_4, .int (g16 (Int32.toNatClampNeg p0))]) (rest := []) ⟨hx, hb, hml, hown, hts⟩ (zX0_link l G cI cJ cZ h0 h1 h3 k0 h5 k1 k2 h2 h4 h7 k3 k4 H.size i0 i1 i2 t63_3 t63_0 t63_1 t63_4 (g16 (Int32.toNatClampNeg p0)) _ hwp) (cwV 2 hts (xgoodV wo_137 wo_138 wo_139 wo_140 wo_141) rfl rfl rfl (by decide +kernel) ⟨Nat.le_of_ble_eq_true rfl, Nat.le_of_ble_eq_true rfl⟩) (xPreV (q := (RX0, TX0, 15)) (q0 := 0) hK hN hP hD [0, 1, 3] (by decide) rfl rfl rfl) rfl rfl hl.1 rfl (lv_room (Nat.le_of_ble_eq_true rfl)) dX0_takeOff_135 ⟨Nat.le_of_ble_eq_true rfl, Nat.le_of_ble_eq_true rfl⟩) hP hD hS hA [0, 1, 3] [2, 4, 5, 6, 7] rfl rfl (by decide) (by decide) (fun u135 H locs hwp hP hD hS => ?_)
              replace hP : va_P G vwCl [(h2, aI cI 20 g16), (h4, aI cI 20 g28), (h7, aI cI 20 t63_2), (h5, .inr (6, [.ref k0, .ref k5, .ref h6])), (h6, aI cI 400 f8), (h0, .inr (0, [.ref k0, .ref h5, .ref k1, .ref k2, .ref h2, .ref h4, .ref h7, .ref h1, .ref h3, .ref k3, .ref k4, .int i0, .int i1, .int i2, .int t63_3])), (h1, aI cI 20 u135.1), (h3, aI cI 20 u135.2)] H := hP
              replace hD : va_D A [(h2, aI cI 20 g16), (h4, aI cI 20 g28), (h7, aI cI 20 t63_2), (h5, .inr (6, [.ref k0, .ref k5, .ref h6])), (h6, aI cI 400 f8), (h0, .inr (0, [.ref k0, .ref h5, .ref k1, .ref k2, .ref h2, .ref h4, .ref h7, .ref h1, .ref h3, .ref k3, .ref k4, .int i0, .int i1, .int i2, .int t63_3])), (h1, aI cI 20 u135.1), (h3, aI cI 20 u135.2)] := hD
              have hP9 : va_P G vwCl [(h0, .inr (0, [.ref k0, .ref h5, .ref k1, .ref k2, .ref h2, .ref h4, .ref h7, .ref h1, .ref h3, .ref k3, .ref k4, .int i0, .int i1, .int i2, .int t63_3])), (h1, aI cI 20 u135.1), (h2, aI cI 20 g16), (h3, aI cI 20 u135.2), (h4, aI cI 20 g28), (h5, .inr (6, [.ref k0, .ref k5, .ref h6])), (h6, aI cI 400 f8), (h7, aI cI 20 t63_2)] H := hP.sub [5, 6, 0, 7, 1, 3, 4, 2] rfl
              have hD9 : va_D A [(h0, .inr (0, [.ref k0, .ref h5, .ref k1, .ref k2, .ref h2, .ref h4, .ref h7, .ref h1, .ref h3, .ref k3, .ref k4, .int i0, .int i1, .int i2, .int t63_3])), (h1, aI cI 20 u135.1), (h2, aI cI 20 g16), (h3, aI cI 20 u135.2), (h4, aI cI 20 g28), (h5, .inr (6, [.ref k0, .ref k5, .ref h6])), (h6, aI cI 400 f8), (h7, aI cI 20 t63_2)] := hD.sub [5, 6, 0, 7, 1, 3, 4, 2] (by decide) rfl
              rw [← hQQ]
              exact W.vret hx hb hr (fun t ht hW => ⟨⟨(t63_3, u135.1, g16, u135.2, g28, t63_2), rfl, hwp, by rw [ht]; exact hP9, hD9⟩, hS.F ht⟩) hS.2.2 dX0_takeOff_138
            · replace hwp := hwp.2 c81
              refine lv_aload_n hx hb dX0_takeOff_84 rfl (lv_at hl 3 rfl) ?_
              refine va_get (D := G) (ci := 0) (v := .ref h7) (C := RX0) (T := TX0) (N := 15) hx hb hts xinX0 hown hK hP 0 rfl rfl 6 (by decide) (hts _ wo_142) (fun _ h9 => h9) rfl dX0_takeOff_85 ?_
              refine lv_iload_n hx hb dX0_takeOff_88 rfl (lv_at hl 1 rfl) ?_
              refine lv_iload_n hx hb dX0_takeOff_89 rfl (lv_at hl 4 rfl) ?_
              obtain ⟨hi, hwp⟩ := hwp
              refine va_iast hx hb hK hP hD hS 5 0 rfl rfl hi dX0_takeOff_90 (fun H locs hP hD hS => ?_)
              obtain ⟨g90, eg90⟩ : ∃ z, z = upd t63_2 (Int32.toNatClampNeg t63_5) p0 := ⟨_, rfl⟩
              replace hwp := hwp g90 eg90
              replace hP : va_P G vwCl [(h0, .inr (0, [.ref k0, .ref h5, .ref k1, .ref k2, .ref h2, .ref h4, .ref h7, .ref h1, .ref h3, .ref k3, .ref k4, .int i0, .int i1, .int i2, .int t63_3])), (h1, aI cI 20 t63_0), (h2, aI cI 20 g16), (h3, aI cI 20 t63_1), (h4, aI cI 20 g28), (h7, aI cI 20 g90), (h5, .inr (6, [.ref k0, .ref k5, .ref h6])), (h6, aI cI 400 f8)] H := by rw [eg90]; exact hP
              replace hD : va_D A [(h0, .inr (0, [.ref k0, .ref h5, .ref k1, .ref k2, .ref h2, .ref h4, .ref h7, .ref h1, .ref h3, .ref k3, .ref k4, .int i0, .int i1, .int i2, .int t63_3])), (h1, aI cI 20 t63_0), (h2, aI cI 20 g16), (h3, aI cI 20 t63_1), (h4, aI cI 20 g28), (h7, aI cI 20 g90), (h5, .inr (6, [.ref k0, .ref k5, .ref h6])), (h6, aI cI 400 f8)] := by rw [eg90]; exact hD
              clear eg90
              refine lv_aload_n hx hb dX0_takeOff_91 rfl (lv_at hl 3 rfl) ?_
              refine lv_dup hx hb dX0_takeOff_92 rfl ?_
              refine va_get (D := G) (ci := 0) (v := .int t63_3) (C := RX0) (T := TX0) (N := 15) hx hb hts xinX0 hown hK hP 0 rfl rfl 14 (by decide) (hts _ wo_136) (fun _ h9 => h9) rfl dX0_takeOff_93 ?_
              refine lv_iconst (v := 1) hx hb dX0_takeOff_96 (by decide) ?_
              refine lv_iload_n hx hb dX0_takeOff_97 rfl (lv_at hl 1 rfl) ?_
              refine lv_ishl hx hb dX0_takeOff_98 ?_
              refine lv_ior hx hb dX0_takeOff_99 ?_
              refine lv_topi (fun v100 ev100 => ?_)
              replace hwp := hwp v100 ev100
              clear ev100
              refine va_put (D := G) (ci := 0) (v := .int v100) (ty := .int) (C := RX0) (T := TX0) (N := 15) hx hb hts xinX0 tyX0 tyX0_ok nmX0 hown hK hP hD hS 0 rfl rfl 14 (by decide) (hts _ wo_136) (fun _ h9 => h9) rfl (by decide +kernel) rfl rfl (Nat.le_of_ble_eq_true rfl) dX0_takeOff_100 (fun H locs hP hD hS => ?_)
              replace hP : va_P G vwCl [(h0, .inr (0, [.ref k0, .ref h5, .ref k1, .ref k2, .ref h2, .ref h4, .ref h7, .ref h1, .ref h3, .ref k3, .ref k4, .int i0, .int i1, .int i2, .int v100])), (h1, aI cI 20 t63_0), (h2, aI cI 20 g16), (h3, aI cI 20 t63_1), (h4, aI cI 20 g28), (h7, aI cI 20 g90), (h5, .inr (6, [.ref k0, .ref k5, .ref h6])), (h6, aI cI 400 f8)] H := hP
              replace hD : va_D A [(h0, .inr (0, [.ref k0, .ref h5, .ref k1, .ref k2, .ref h2, .ref h4, .ref h7, .ref h1, .ref h3, .ref k3, .ref k4, .int i0, .int i1, .int i2, .int v100])), (h1, aI cI 20 t63_0), (h2, aI cI 20 g16), (h3, aI cI 20 t63_1), (h4, aI cI 20 g28), (h7, aI cI 20 g90), (h5, .inr (6, [.ref k0, .ref k5, .ref h6])), (h6, aI cI 400 f8)] := hD
              refine lv_aload_n hx hb dX0_takeOff_103 rfl (lv_at hl 3 rfl) ?_
              refine lv_iload_n hx hb dX0_takeOff_104 rfl (lv_at hl 2 rfl) ?_
              refine lv_iload_n hx hb dX0_takeOff_105 rfl (lv_at hl 1 rfl) ?_
              refine xcv (wr := [(h2, aI cI 20 g16), (h4, aI cI 20 g28), (h7, aI cI 20 g90), (h5, .inr (6, [.ref k0, .ref k5, .ref h6])), (h6, aI cI 400 f8)]) (va_runV (As := [.int t63_4, .int t63_5]) (rest := []) ⟨hx, hb, hml, hown, hts⟩ (zX0_link l G cI cJ cZ h0 h1 h3 k0 h5 k1 k2 h2 h4 h7 k3 k4 H.size i0 i1 i2 v100 t63_0 t63_1 t63_4 t63_5 _ hwp) (cwV 2 hts (xgoodV wo_137 wo_138 wo_139 wo_140 wo_141) rfl rfl rfl (by decide +kernel) ⟨Nat.le_of_ble_eq_true rfl, Nat.le_of_ble_eq_true rfl⟩) (xPreV (q := (RX0, TX0, 15)) (q0 := 0) hK hN hP hD [0, 1, 3] (by decide) rfl rfl rfl) rfl rfl hl.1 rfl (lv_room (Nat.le_of_ble_eq_true rfl)) dX0_takeOff_106 ⟨Nat.le_of_ble_eq_true rfl, Nat.le_of_ble_eq_true rfl⟩) hP hD hS hA [0, 1, 3] [2, 4, 5, 6, 7] rfl rfl (by decide) (by decide) (fun u106 H locs hwp hP hD hS => ?_)
              replace hP : va_P G vwCl [(h2, aI cI 20 g16), (h4, aI cI 20 g28), (h7, aI cI 20 g90), (h5, .inr (6, [.ref k0, .ref k5, .ref h6])), (h6, aI cI 400 f8), (h0, .inr (0, [.ref k0, .ref h5, .ref k1, .ref k2, .ref h2, .ref h4, .ref h7, .ref h1, .ref h3, .ref k3, .ref k4, .int i0, .int i1, .int i2, .int v100])), (h1, aI cI 20 u106.1), (h3, aI cI 20 u106.2)] H := hP
              replace hD : va_D A [(h2, aI cI 20 g16), (h4, aI cI 20 g28), (h7, aI cI 20 g90), (h5, .inr (6, [.ref k0, .ref k5, .ref h6])), (h6, aI cI 400 f8), (h0, .inr (0, [.ref k0, .ref h5, .ref k1, .ref k2, .ref h2, .ref h4, .ref h7, .ref h1, .ref h3, .ref k3, .ref k4, .int i0, .int i1, .int i2, .int v100])), (h1, aI cI 20 u106.1), (h3, aI cI 20 u106.2)] := hD
              refine lv_iload_n hx hb dX0_takeOff_109 rfl (lv_at hl 1 rfl) ?_
              refine lv_istore_n (lv' := [(2, .int t63_5), (4, .int t63_6), (3, .int t63_5), (0, .ref h0), (1, .int p0)]) hx hb dX0_takeOff_110 rfl hl (by decide) rfl (fun ls hl => ?_)
              refine lv_aload_n hx hb dX0_takeOff_111 rfl (lv_at hl 3 rfl) ?_
              refine va_get (D := G) (ci := 0) (v := .ref h5) (C := RX0) (T := TX0) (N := 15) hx hb hts xinX0 hown hK hP 5 rfl rfl 1 (by decide) (hts _ wo_129) (fun _ h9 => h9) rfl dX0_takeOff_112 ?_
              refine lv_iload_n hx hb dX0_takeOff_115 rfl (lv_at hl 4 rfl) ?_
              refine lv_iload_n hx hb dX0_takeOff_116 rfl (lv_at hl 2 rfl) ?_
              refine xci (wr := [(h2, aI cI 20 g16), (h4, aI cI 20 g28), (h7, aI cI 20 g90), (h0, .inr (0, [.ref k0, .ref h5, .ref k1, .ref k2, .ref h2, .ref h4, .ref h7, .ref h1, .ref h3, .ref k3, .ref k4, .int i0, .int i1, .int i2, .int v100])), (h1, aI cI 20 u106.1), (h3, aI cI 20 u106.2)]) (va_runV (As := [.int p0, .int t63_5]) (rest := []) ⟨hx, hb, hml, hown, hts⟩ (zX6_behind l G cI cJ cZ h5 h6 k0 k5 H.size f8 p0 t63_5 _ hwp) (cwV 2 hts (xgoodV wo_51 wo_130 wo_53 wo_54 wo_55) rfl rfl rfl (by decide +kernel) ⟨Nat.le_of_ble_eq_true rfl, Nat.le_of_ble_eq_true rfl⟩) (xPreV (q := (RX6, TX6, 3)) (q0 := 3) hK hN hP hD [3, 4] (by decide) rfl rfl rfl) rfl rfl hl.1 rfl (lv_room (Nat.le_of_ble_eq_true rfl)) dX0_takeOff_117 ⟨Nat.le_of_ble_eq_true rfl, Nat.le_of_ble_eq_true rfl⟩) hP hD hS hA [3, 4] [0, 1, 2, 5, 6, 7] rfl rfl (by decide) (by decide) (fun r117 u117 H locs hwp hP hD hS => ?_)
              replace hP : va_P G vwCl [(h2, aI cI 20 g16), (h4, aI cI 20 g28), (h7, aI cI 20 g90), (h0, .inr (0, [.ref k0, .ref h5, .ref k1, .ref k2, .ref h2, .ref h4, .ref h7, .ref h1, .ref h3, .ref k3, .ref k4, .int i0, .int i1, .int i2, .int v100])), (h1, aI cI 20 u106.1), (h3, aI cI 20 u106.2), (h5, .inr (6, [.ref k0, .ref k5, .ref h6])), (h6, aI cI 400 f8)] H := hP
              replace hD : va_D A [(h2, aI cI 20 g16), (h4, aI cI 20 g28), (h7, aI cI 20 g90), (h0, .inr (0, [.ref k0, .ref h5, .ref k1, .ref k2, .ref h2, .ref h4, .ref h7, .ref h1, .ref h3, .ref k3, .ref k4, .int i0, .int i1, .int i2, .int v100])), (h1, aI cI 20 u106.1), (h3, aI cI 20 u106.2), (h5, .inr (6, [.ref k0, .ref k5, .ref h6])), (h6, aI cI 400 f8)] := hD
              refine lv_istore_n (lv' := [(3, .int r117), (2, .int t63_5), (4, .int t63_6), (0, .ref h0), (1, .int p0)]) hx hb dX0_takeOff_120 rfl hl (by decide) rfl (fun ls hl => ?_)
              refine lv_iinc (v := (t63_6 + 1)) (lv' := [(4, .int (t63_6 + 1)), (3, .int r117), (2, .int t63_5), (0, .ref h0), (1, .int p0)]) hx hb dX0_takeOff_121 hl (k := 2) rfl rfl (by decide) rfl (fun ls hl => ?_)
              refine lv_goto (tgt := 63) hx hb dX0_takeOff_124 (by decide) ?_
              replace hl : lv_has ls 5 [(4, .int (t63_6 + 1)), (3, .int r117), (2, .int t63_5), (0, .ref h0), (1, .int p0)] := lv_sub hl [0, 1, 2, 3, 4] rfl
              replace hP : va_P G vwCl [(h0, .inr (0, [.ref k0, .ref h5, .ref k1, .ref k2, .ref h2, .ref h4, .ref h7, .ref h1, .ref h3, .ref k3, .ref k4, .int i0, .int i1, .int i2, .int v100])), (h1, aI cI 20 u106.1), (h2, aI cI 20 g16), (h3, aI cI 20 u106.2), (h4, aI cI 20 g28), (h7, aI cI 20 g90), (h5, .inr (6, [.ref k0, .ref k5, .ref h6])), (h6, aI cI 400 f8)] H := hP.sub [3, 4, 0, 5, 1, 2, 6, 7] rfl
              replace hD : va_D A [(h0, .inr (0, [.ref k0, .ref h5, .ref k1, .ref k2, .ref h2, .ref h4, .ref h7, .ref h1, .ref h3, .ref k3, .ref k4, .int i0, .int i1, .int i2, .int v100])), (h1, aI cI 20 u106.1), (h2, aI cI 20 g16), (h3, aI cI 20 u106.2), (h4, aI cI 20 g28), (h7, aI cI 20 g90), (h5, .inr (6, [.ref k0, .ref k5, .ref h6])), (h6, aI cI 400 f8)] := hD.sub [3, 4, 0, 5, 1, 2, 6, 7] (by decide) rfl
              exact ih1 H locs ls (u106.1) (u106.2) g90 v100 t63_5 r117 (t63_6 + 1) hwp hP hD hS hl
    exact hs1 n1 H locs ls f4 f6 f9 v40 v49 r56 0 hwp hP hD hS hl
  · replace hwp := hwp.2 c1
    have hP9 : va_P G vwCl [(h0, .inr (0, [.ref k0, .ref h5, .ref k1, .ref k2, .ref h2, .ref h4, .ref h7, .ref h1, .ref h3, .ref k3, .ref k4, .int i0, .int i1, .int i2, .int i3])), (h1, aI cI 20 f4), (h2, aI cI 20 f5), (h3, aI cI 20 f6), (h4, aI cI 20 f7), (h5, .inr (6, [.ref k0, .ref k5, .ref h6])), (h6, aI cI 400 f8), (h7, aI cI 20 f9)] s.heap := hP.sub [0, 1, 2, 3, 4, 5, 6, 7] rfl
    have hD9 : va_D A [(h0, .inr (0, [.ref k0, .ref h5, .ref k1, .ref k2, .ref h2, .ref h4, .ref h7, .ref h1, .ref h3, .ref k3, .ref k4, .int i0, .int i1, .int i2, .int i3])), (h1, aI cI 20 f4), (h2, aI cI 20 f5), (h3, aI cI 20 f6), (h4, aI cI 20 f7), (h5, .inr (6, [.ref k0, .ref k5, .ref h6])), (h6, aI cI 400 f8), (h7, aI cI 20 f9)] := hD.sub [0, 1, 2, 3, 4, 5, 6, 7] (by decide) rfl
    rw [← hQQ]
    exact W.vret hx hb hr (fun t ht hW => ⟨⟨(i3, f4, f5, f6, f7, f9), rfl, hwp, by rw [ht]; exact hP9, hD9⟩, hS.F ht⟩) hS.2.2 dX0_takeOff_4
def wLX0_greatestFree_10 (i0 : Int32) (i1 : Int32) (i3 : Int32) (f5 : Nat → Int32) (K : Int32 → Unit → Prop)  : Nat → Int32 → Prop
  | 0, _ => False
  | n10 + 1, t10_0 => ((t10_0 < 0 → K ((-1) : Int32) ()) ∧ (¬ t10_0 < 0 → (wX8_hasBit i3 t10_0 (fun r19 _ => ((r19 = 0 → (wLX0_greatestFree_10 i0 i1 i3 f5 K  n10) (t10_0 + (-1))) ∧ (¬ r19 = 0 → ((t10_0 = i0 → (wLX0_greatestFree_10 i0 i1 i3 f5 K  n10) (t10_0 + (-1))) ∧ (¬ t10_0 = i0 → ((t10_0 = i1 → (wLX0_greatestFree_10 i0 i1 i3 f5 K  n10) (t10_0 + (-1))) ∧ (¬ t10_0 = i1 → (vp_in t10_0 20 ∧ (wJ6_bitCount_0f7a4 ((f5 (Int32.toNatClampNeg t10_0)) &&& i3) (fun r55 _ => ((¬ r55 = 2 → (wLX0_greatestFree_10 i0 i1 i3 f5 K  n10) (t10_0 + (-1))) ∧ (r55 = 2 → K t10_0 ())))))))))))))))
def wX0_greatestFree (i0 : Int32) (i1 : Int32) (i2 : Int32) (i3 : Int32) (i4 : Int32) (f5 : Nat → Int32) (K : Int32 → Unit → Prop) : Prop := (∀ v9 : Int32, v9 = (i4 - 1) → (∃ n10, wLX0_greatestFree_10 i0 i1 i3 f5 K  n10 v9))
set_option maxHeartbeats 4000000 in
set_option maxRecDepth 100000 in
theorem zX0_greatestFree (l : Launch) (G : va_G) (cI cJ cZ : ClassId) (h0 h1 h2 k0 k1 k2 k3 k4 k5 k6 k7 k8 k9 k10 sz : Nat) (i0 : Int32) (i1 : Int32) (i2 : Int32) (i3 : Int32) (i4 : Int32) (f5 : Nat → Int32) (K : Int32 → Unit → Prop) (hwp : wX0_greatestFree i0 i1 i2 i3 i4 f5 K) : Met l yX0_greatestFree (xw yX0_greatestFree cX0_greatestFree 2 (some .int)) ({ frames := 1, cells := 0, slots := 0, locals := 21 }) (xPc G cI cJ cZ [.ref h0] [(h0, .inr (0, [.ref h1, .ref k0, .ref k1, .ref k2, .ref k3, .ref k4, .ref k5, .ref k6, .ref k7, .ref k8, .ref k9, .int i0, .int i1, .int i2, .int i3])), (h1, .inr (2, [.ref k10, .ref h2, .int i4])), (h2, aI cI 20 f5)] sz) (va_Qi (fun (r : Int32) (u : Unit) => K r u) (fun (u : Unit) t => xB G (va_A [(h0, .inr (0, [.ref h1, .ref k0, .ref k1, .ref k2, .ref k3, .ref k4, .ref k5, .ref k6, .ref k7, .ref k8, .ref k9, .int i0, .int i1, .int i2, .int i3])), (h1, .inr (2, [.ref k10, .ref h2, .int i4])), (h2, aI cI 20 f5)] sz) [(h0, .inr (0, [.ref h1, .ref k0, .ref k1, .ref k2, .ref k3, .ref k4, .ref k5, .ref k6, .ref k7, .ref k8, .ref k9, .int i0, .int i1, .int i2, .int i3])), (h1, .inr (2, [.ref k10, .ref h2, .int i4])), (h2, aI cI 20 f5)] t) (va_A [(h0, .inr (0, [.ref h1, .ref k0, .ref k1, .ref k2, .ref k3, .ref k4, .ref k5, .ref k6, .ref k7, .ref k8, .ref k9, .int i0, .int i1, .int i2, .int i3])), (h1, .inr (2, [.ref k10, .ref h2, .int i4])), (h2, aI cI 20 f5)] sz)) 0 0 (va_A [(h0, .inr (0, [.ref h1, .ref k0, .ref k1, .ref k2, .ref k3, .ref k4, .ref k5, .ref k6, .ref k7, .ref k8, .ref k9, .int i0, .int i1, .int i2, .int i3])), (h1, .inr (2, [.ref k10, .ref h2, .int i4])), (h2, aI cI 20 f5)] sz) := by
  refine Met.ofW (cc := cX0_greatestFree) (maxL := 2) (ret := (some .int)) (by decide) rfl ?_
  intro p e s m args below meth c s₁ B hml hv
  obtain ⟨rfl, hsz, hP, hK, hD0, hN⟩ := hv
  have hx := B.exec
  have hb := B.bytes
  have hr := B.returns
  have hts : ∀ w ∈ xW, w.before _ s = true := fun w h => atoms_spec (ws := xw yX0_greatestFree cX0_greatestFree 2 (some .int)) B.pre w (List.mem_cons_of_mem _ h)
  have hown : s.vm.findClass RX0 = some m.cls := findClass_of_methodNamed B.named
  have hlocks := B.notSynchronized
  subst hsz
  have hD := hD0.self (sz := s.heap.size)
  clear hD0
  generalize hAe : va_A [(h0, .inr (0, [.ref h1, .ref k0, .ref k1, .ref k2, .ref k3, .ref k4, .ref k5, .ref k6, .ref k7, .ref k8, .ref k9, .int i0, .int i1, .int i2, .int i3])), (h1, .inr (2, [.ref k10, .ref h2, .int i4])), (h2, aI cI 20 f5)] s.heap.size = A at hD ⊢
  have hA : ∀ q : Nat, s.heap.size ≤ q → A q := fun q h => by rw [← hAe]; exact Or.inr h
  clear hAe
  have hS : va_S A s.heap s.heap [] := va_S.rf
  replace hP : va_P G vwCl [(h0, .inr (0, [.ref h1, .ref k0, .ref k1, .ref k2, .ref k3, .ref k4, .ref k5, .ref k6, .ref k7, .ref k8, .ref k9, .int i0, .int i1, .int i2, .int i3])), (h1, .inr (2, [.ref k10, .ref h2, .int i4])), (h2, aI cI 20 f5)] s.heap := hP
  have hl := lv_entry ([.ref h0]) (n := 2) (Nat.le_of_ble_eq_true rfl)
  rw [lg_entry_eq]
  generalize (lg_sl ([.ref h0]) ++ List.replicate (2 - (lg_sl ([.ref h0])).length) Slot.unset).toArray = ls at hl ⊢
  replace hl : lv_has ls 2 [(0, .ref h0)] := hl
  generalize hQQ : MQ below _ _ s 0 0 _ = QQ
  skip
  unfold wX0_greatestFree at hwp
  refine lv_aload_n hx hb dX0_greatestFree_0 rfl (lv_at hl 0 rfl) ?_
  refine va_get (D := G) (ci := 0) (v := .ref h1) (C := RX0) (T := TX0) (N := 15) hx hb hts xinX0 hown hK hP 0 rfl rfl 0 (by decide) (hts _ wo_127) (fun _ h9 => h9) rfl dX0_greatestFree_1 ?_
  refine va_getN (D := G) (ci := 2) (v := .int i4) (C := RX2) (T := TX2) (N := 3) hx hb hts xinX2 hown hK hP 1 rfl rfl 2 (by decide) (va_Nw.use rfl (hN.1 ("PlaneTests$Drawing", 53, "PlaneTests$Filled", "nodes", "I", "PlaneTests") (by decide +kernel))) (fun _ h9 => h9) rfl dX0_greatestFree_4 ?_
  refine lv_iconst (v := 1) hx hb dX0_greatestFree_7 (by decide) ?_
  refine lv_isub hx hb dX0_greatestFree_8 ?_
  refine lv_topi (fun v9 ev9 => ?_)
  replace hwp := hwp v9 ev9
  clear ev9
  refine lv_istore_n (lv' := [(1, .int v9), (0, .ref h0)]) hx hb dX0_greatestFree_9 rfl hl (by decide) rfl (fun ls hl => ?_)
  refine xgen (Pp := fun H locs => W p l e _ s m _ below meth c H locs _ _ _ _) (fun H locs hP hD hS => ?_) hP hD hS
  replace hl : lv_has ls 2 [(1, .int v9), (0, .ref h0)] := lv_sub hl [0, 1] rfl
  obtain ⟨n1, hwp⟩ := hwp
  have hs1 : ∀ (n1 : Nat) (H : Heap) (locs : List Loc) (ls : Array Slot) (t10_0 : Int32), wLX0_greatestFree_10 i0 i1 i3 f5 K  n1 t10_0 → va_P G vwCl [(h0, .inr (0, [.ref h1, .ref k0, .ref k1, .ref k2, .ref k3, .ref k4, .ref k5, .ref k6, .ref k7, .ref k8, .ref k9, .int i0, .int i1, .int i2, .int i3])), (h1, .inr (2, [.ref k10, .ref h2, .int i4])), (h2, aI cI 20 f5)] H → va_D A [(h0, .inr (0, [.ref h1, .ref k0, .ref k1, .ref k2, .ref k3, .ref k4, .ref k5, .ref k6, .ref k7, .ref k8, .ref k9, .int i0, .int i1, .int i2, .int i3])), (h1, .inr (2, [.ref k10, .ref h2, .int i4])), (h2, aI cI 20 f5)] → va_S A s.heap H locs → lv_has ls 2 [(1, .int t10_0), (0, .ref h0)] → W p l e ((headSpec (xw yX0_greatestFree cX0_greatestFree 2 (some .int)) { frames := 1, cells := 0, slots := 0, locals := 21 }).room) s m ([.ref h0] : List Value).toArray below meth c H locs 0 0 QQ (F0 m 10 ls []) := by
    intro n1
    induction n1 with
    | zero => intro H locs ls t10_0 hwp; exact False.elim hwp
    | succ n1 ih1 =>
      intro H locs ls t10_0 hwp hP hD hS hl
      rw [wLX0_greatestFree_10] at hwp
      refine lv_iload_n hx hb dX0_greatestFree_10 rfl (lv_at hl 0 rfl) ?_
      refine lv_if_lt (tgt := 70) hx hb dX0_greatestFree_11 (by decide) (fun c11 => ?_) (fun c11 => ?_)
      · replace hwp := hwp.1 c11
        refine lv_iconst (v := (-1)) hx hb dX0_greatestFree_70 (by decide) ?_
        have hP9 : va_P G vwCl [(h0, .inr (0, [.ref h1, .ref k0, .ref k1, .ref k2, .ref k3, .ref k4, .ref k5, .ref k6, .ref k7, .ref k8, .ref k9, .int i0, .int i1, .int i2, .int i3])), (h1, .inr (2, [.ref k10, .ref h2, .int i4])), (h2, aI cI 20 f5)] H := hP.sub [0, 1, 2] rfl
        have hD9 : va_D A [(h0, .inr (0, [.ref h1, .ref k0, .ref k1, .ref k2, .ref k3, .ref k4, .ref k5, .ref k6, .ref k7, .ref k8, .ref k9, .int i0, .int i1, .int i2, .int i3])), (h1, .inr (2, [.ref k10, .ref h2, .int i4])), (h2, aI cI 20 f5)] := hD.sub [0, 1, 2] (by decide) rfl
        rw [← hQQ]
        exact W.iret (v := (-1)) hx hb hr (fun t ht hW => ⟨⟨_, (), rfl, hwp, by rw [ht]; exact hP9, hD9⟩, hS.F ht⟩) hS.2.2 dX0_greatestFree_71
      · replace hwp := hwp.2 c11
        refine lv_aload_n hx hb dX0_greatestFree_14 rfl (lv_at hl 1 rfl) ?_
        refine va_get (D := G) (ci := 0) (v := .int i3) (C := RX0) (T := TX0) (N := 15) hx hb hts xinX0 hown hK hP 0 rfl rfl 14 (by decide) (hts _ wo_136) (fun _ h9 => h9) rfl dX0_greatestFree_15 ?_
        refine lv_iload_n hx hb dX0_greatestFree_18 rfl (lv_at hl 0 rfl) ?_
        refine xci (wr := [(h0, .inr (0, [.ref h1, .ref k0, .ref k1, .ref k2, .ref k3, .ref k4, .ref k5, .ref k6, .ref k7, .ref k8, .ref k9, .int i0, .int i1, .int i2, .int i3])), (h1, .inr (2, [.ref k10, .ref h2, .int i4])), (h2, aI cI 20 f5)]) (va_runSN (As := [.int i3, .int t10_0]) (rest := []) ⟨hx, hb, hml, hown, hts⟩ (zX8_hasBit l G cI cJ cZ H.size i3 t10_0 _ hwp) ⟨(va_cnB 2 hts (xgood wo_61) rfl rfl rfl (hN.2 ("PlaneTests$Drawing", 106, yX8_hasBit, "PlaneTests") (by decide +kernel)) (hts _ wo_49) (by decide +kernel) ⟨Nat.le_of_ble_eq_true rfl, Nat.le_of_ble_eq_true rfl⟩), hts _ wo_62, trivial⟩ (xPreS hK hN hP hD [] (by decide) rfl) rfl rfl hl.1 rfl (lv_room (Nat.le_of_ble_eq_true rfl)) dX0_greatestFree_19 ⟨Nat.le_of_ble_eq_true rfl, Nat.le_of_ble_eq_true rfl⟩) hP hD hS hA [] [0, 1, 2] rfl rfl (by decide) (by decide) (fun r19 u19 H locs hwp hP hD hS => ?_)
        replace hP : va_P G vwCl [(h0, .inr (0, [.ref h1, .ref k0, .ref k1, .ref k2, .ref k3, .ref k4, .ref k5, .ref k6, .ref k7, .ref k8, .ref k9, .int i0, .int i1, .int i2, .int i3])), (h1, .inr (2, [.ref k10, .ref h2, .int i4])), (h2, aI cI 20 f5)] H := hP
        replace hD : va_D A [(h0, .inr (0, [.ref h1, .ref k0, .ref k1, .ref k2, .ref k3, .ref k4, .ref k5, .ref k6, .ref k7, .ref k8, .ref k9, .int i0, .int i1, .int i2, .int i3])), (h1, .inr (2, [.ref k10, .ref h2, .int i4])), (h2, aI cI 20 f5)] := hD
        refine lv_if_eq (tgt := 64) hx hb dX0_greatestFree_22 (by decide) (fun c22 => ?_) (fun c22 => ?_)
        · replace hwp := hwp.1 c22
          refine lv_iinc (v := (t10_0 + (-1))) (lv' := [(1, .int (t10_0 + (-1))), (0, .ref h0)]) hx hb dX0_greatestFree_64 hl (k := 0) rfl rfl (by decide) rfl (fun ls hl => ?_)
          refine lv_goto (tgt := 10) hx hb dX0_greatestFree_67 (by decide) ?_
          replace hl : lv_has ls 2 [(1, .int (t10_0 + (-1))), (0, .ref h0)] := lv_sub hl [0, 1] rfl
          exact ih1 H locs ls (t10_0 + (-1)) hwp hP hD hS hl
        · replace hwp := hwp.2 c22
          refine lv_iload_n hx hb dX0_greatestFree_25 rfl (lv_at hl 0 rfl) ?_
          refine lv_aload_n hx hb dX0_greatestFree_26 rfl (lv_at hl 1 rfl) ?_
          refine va_get (D := G) (ci := 0) (v := .int i0) (C := RX0) (T := TX0) (N := 15) hx hb hts xinX0 hown hK hP 0 rfl rfl 11 (by decide) (hts _ wo_126) (fun _ h9 => h9) rfl dX0_greatestFree_27 ?_
          refine lv_icmp_eq (tgt := 64) hx hb dX0_greatestFree_30 (by decide) (fun c30 => ?_) (fun c30 => ?_)
          · replace hwp := hwp.1 c30
            refine lv_iinc (v := (t10_0 + (-1))) (lv' := [(1, .int (t10_0 + (-1))), (0, .ref h0)]) hx hb dX0_greatestFree_64 hl (k := 0) rfl rfl (by decide) rfl (fun ls hl => ?_)
            refine lv_goto (tgt := 10) hx hb dX0_greatestFree_67 (by decide) ?_
            replace hl : lv_has ls 2 [(1, .int (t10_0 + (-1))), (0, .ref h0)] := lv_sub hl [0, 1] rfl
            exact ih1 H locs ls (t10_0 + (-1)) hwp hP hD hS hl
          · replace hwp := hwp.2 c30
            refine lv_iload_n hx hb dX0_greatestFree_33 rfl (lv_at hl 0 rfl) ?_
            refine lv_aload_n hx hb dX0_greatestFree_34 rfl (lv_at hl 1 rfl) ?_
            refine va_get (D := G) (ci := 0) (v := .int i1) (C := RX0) (T := TX0) (N := 15) hx hb hts xinX0 hown hK hP 0 rfl rfl 12 (by decide) (hts _ wo_128) (fun _ h9 => h9) rfl dX0_greatestFree_35 ?_
            refine lv_icmp_eq (tgt := 64) hx hb dX0_greatestFree_38 (by decide) (fun c38 => ?_) (fun c38 => ?_)
            · replace hwp := hwp.1 c38
              refine lv_iinc (v := (t10_0 + (-1))) (lv' := [(1, .int (t10_0 + (-1))), (0, .ref h0)]) hx hb dX0_greatestFree_64 hl (k := 0) rfl rfl (by decide) rfl (fun ls hl => ?_)
              refine lv_goto (tgt := 10) hx hb dX0_greatestFree_67 (by decide) ?_
              replace hl : lv_has ls 2 [(1, .int (t10_0 + (-1))), (0, .ref h0)] := lv_sub hl [0, 1] rfl
              exact ih1 H locs ls (t10_0 + (-1)) hwp hP hD hS hl
            · replace hwp := hwp.2 c38
              refine lv_aload_n hx hb dX0_greatestFree_41 rfl (lv_at hl 1 rfl) ?_
              refine va_get (D := G) (ci := 0) (v := .ref h1) (C := RX0) (T := TX0) (N := 15) hx hb hts xinX0 hown hK hP 0 rfl rfl 0 (by decide) (hts _ wo_127) (fun _ h9 => h9) rfl dX0_greatestFree_42 ?_
              refine va_getN (D := G) (ci := 2) (v := .ref h2) (C := RX2) (T := TX2) (N := 3) hx hb hts xinX2 hown hK hP 1 rfl rfl 1 (by decide) (va_Nw.use rfl (hN.1 ("PlaneTests$Drawing", 72, "PlaneTests$Filled", "joined", "[I", "PlaneTests") (by decide +kernel))) (fun _ h9 => h9) rfl dX0_greatestFree_45 ?_
              refine lv_iload_n hx hb dX0_greatestFree_48 rfl (lv_at hl 0 rfl) ?_
              obtain ⟨hi, hwp⟩ := hwp
              refine va_iald hx hb hK hP 2 0 rfl rfl hi dX0_greatestFree_49 ?_
              refine lv_aload_n hx hb dX0_greatestFree_50 rfl (lv_at hl 1 rfl) ?_
              refine va_get (D := G) (ci := 0) (v := .int i3) (C := RX0) (T := TX0) (N := 15) hx hb hts xinX0 hown hK hP 0 rfl rfl 14 (by decide) (hts _ wo_136) (fun _ h9 => h9) rfl dX0_greatestFree_51 ?_
              refine lv_iand hx hb dX0_greatestFree_54 ?_
              refine xci (wr := [(h0, .inr (0, [.ref h1, .ref k0, .ref k1, .ref k2, .ref k3, .ref k4, .ref k5, .ref k6, .ref k7, .ref k8, .ref k9, .int i0, .int i1, .int i2, .int i3])), (h1, .inr (2, [.ref k10, .ref h2, .int i4])), (h2, aI cI 20 f5)]) (va_runS (As := [.int ((f5 (Int32.toNatClampNeg t10_0)) &&& i3)]) (rest := []) ⟨hx, hb, hml, hown, hts⟩ (zJ6_bitCount_0f7a4 l G cI cJ cZ H.size ((f5 (Int32.toNatClampNeg t10_0)) &&& i3) _ hwp) (va_cwS 1 hts (xgoodS wo_43 wo_143 wo_45 wo_46) rfl rfl rfl (by decide +kernel) ⟨Nat.le_of_ble_eq_true rfl, Nat.le_of_ble_eq_true rfl⟩) (xPreS hK hN hP hD [] (by decide) rfl) rfl rfl hl.1 rfl (lv_room (Nat.le_of_ble_eq_true rfl)) dX0_greatestFree_55 ⟨Nat.le_of_ble_eq_true rfl, Nat.le_of_ble_eq_true rfl⟩) hP hD hS hA [] [0, 1, 2] rfl rfl (by decide) (by decide) (fun r55 u55 H locs hwp hP hD hS => ?_)
              replace hP : va_P G vwCl [(h0, .inr (0, [.ref h1, .ref k0, .ref k1, .ref k2, .ref k3, .ref k4, .ref k5, .ref k6, .ref k7, .ref k8, .ref k9, .int i0, .int i1, .int i2, .int i3])), (h1, .inr (2, [.ref k10, .ref h2, .int i4])), (h2, aI cI 20 f5)] H := hP
              replace hD : va_D A [(h0, .inr (0, [.ref h1, .ref k0, .ref k1, .ref k2, .ref k3, .ref k4, .ref k5, .ref k6, .ref k7, .ref k8, .ref k9, .int i0, .int i1, .int i2, .int i3])), (h1, .inr (2, [.ref k10, .ref h2, .int i4])), (h2, aI cI 20 f5)] := hD
              refine lv_iconst (v := 2) hx hb dX0_greatestFree_58 (by decide) ?_
              refine lv_icmp_ne (tgt := 64) hx hb dX0_greatestFree_59 (by decide) (fun c59 => ?_) (fun c59 => ?_)
              · replace hwp := hwp.1 c59
                refine lv_iinc (v := (t10_0 + (-1))) (lv' := [(1, .int (t10_0 + (-1))), (0, .ref h0)]) hx hb dX0_greatestFree_64 hl (k := 0) rfl rfl (by decide) rfl (fun ls hl => ?_)
                refine lv_goto (tgt := 10) hx hb dX0_greatestFree_67 (by decide) ?_
                replace hl : lv_has ls 2 [(1, .int (t10_0 + (-1))), (0, .ref h0)] := lv_sub hl [0, 1] rfl
                exact ih1 H locs ls (t10_0 + (-1)) hwp hP hD hS hl
              · replace hwp := hwp.2 c59
                refine lv_iload_n hx hb dX0_greatestFree_62 rfl (lv_at hl 0 rfl) ?_
                have hP9 : va_P G vwCl [(h0, .inr (0, [.ref h1, .ref k0, .ref k1, .ref k2, .ref k3, .ref k4, .ref k5, .ref k6, .ref k7, .ref k8, .ref k9, .int i0, .int i1, .int i2, .int i3])), (h1, .inr (2, [.ref k10, .ref h2, .int i4])), (h2, aI cI 20 f5)] H := hP.sub [0, 1, 2] rfl
                have hD9 : va_D A [(h0, .inr (0, [.ref h1, .ref k0, .ref k1, .ref k2, .ref k3, .ref k4, .ref k5, .ref k6, .ref k7, .ref k8, .ref k9, .int i0, .int i1, .int i2, .int i3])), (h1, .inr (2, [.ref k10, .ref h2, .int i4])), (h2, aI cI 20 f5)] := hD.sub [0, 1, 2] (by decide) rfl
                rw [← hQQ]
                exact W.iret (v := t10_0) hx hb hr (fun t ht hW => ⟨⟨_, (), rfl, hwp, by rw [ht]; exact hP9, hD9⟩, hS.F ht⟩) hS.2.2 dX0_greatestFree_63
  exact hs1 n1 H locs ls v9 hwp hP hD hS hl
def wLX0_findWays_82 (i0 : Int32) (i1 : Int32) (i2 : Int32) (f9 : Nat → Int32) (i10 : Int32) (f11 : Nat → Int32) (K : (Int32 × (Nat → Int32) × (Nat → Int32) × (Nat → Int32) × (Nat → Int32) × (Nat → Int32)) → Prop)  : Nat → (Nat → Int32) → (Nat → Int32) → (Nat → Int32) → (Nat → Int32) → (Nat → Int32) → Int32 → Int32 → Prop
  | 0, _, _, _, _, _, _, _ => False
  | n82 + 1, t82_0, t82_1, t82_2, t82_3, t82_4, t82_5, t82_6 => ((i10 ≤ t82_6 → K (t82_5, t82_0, t82_1, t82_2, t82_3, t82_4)) ∧ (¬ i10 ≤ t82_6 → (wX0_greatestFree i0 i1 i2 t82_5 i10 f11 (fun r95 _ => (wX0_takeOff i0 i1 i2 t82_5 t82_3 t82_0 t82_4 t82_1 f9 t82_2 r95 (fun u98 => (wLX0_findWays_82 i0 i1 i2 f9 i10 f11 K  n82) (u98.2.2.1) (u98.2.2.2.2.1) (u98.2.2.2.2.2) (u98.2.1) (u98.2.2.2.1) (u98.1) (t82_6 + 1)))))))
def wX0_findWays (i0 : Int32) (i1 : Int32) (i2 : Int32) (i3 : Int32) (f4 : Nat → Int32) (f5 : Nat → Int32) (f6 : Nat → Int32) (f7 : Nat → Int32) (f8 : Nat → Int32) (f9 : Nat → Int32) (i10 : Int32) (f11 : Nat → Int32) (K : (Int32 × (Nat → Int32) × (Nat → Int32) × (Nat → Int32) × (Nat → Int32) × (Nat → Int32)) → Prop) : Prop := (wJ7_fill_53178 f4 ((-1) : Int32) (fun u5 => (wJ7_fill_53178 f5 ((-1) : Int32) (fun u13 => (wJ7_fill_53178 f6 ((-1) : Int32) (fun u21 => (∀ v45 : Int32, v45 = ((((1 : Int32) <<< (i0 &&& 31)) ||| ((1 : Int32) <<< (i1 &&& 31))) ||| ((1 : Int32) <<< (i2 &&& 31))) → (wX0_link i0 i1 i2 v45 f7 f8 i1 i2 (fun u57 => (wX0_link i0 i1 i2 v45 (u57.1) (u57.2) i2 i0 (fun u69 => (wX0_takeOff i0 i1 i2 v45 (u69.1) u5 (u69.2) u13 f9 u21 i2 (fun u77 => (∃ n82, wLX0_findWays_82 i0 i1 i2 f9 i10 f11 K  n82 (u77.2.2.1) (u77.2.2.2.2.1) (u77.2.2.2.2.2) (u77.2.1) (u77.2.2.2.1) (u77.1) 3))))))))))))))
set_option maxHeartbeats 4000000 in
set_option maxRecDepth 100000 in
theorem zX0_findWays (l : Launch) (G : va_G) (cI cJ cZ : ClassId) (h0 h1 h2 h3 h4 h5 h6 h7 h8 h9 k0 k1 k2 k3 k4 k5 sz : Nat) (i0 : Int32) (i1 : Int32) (i2 : Int32) (i3 : Int32) (f4 : Nat → Int32) (f5 : Nat → Int32) (f6 : Nat → Int32) (f7 : Nat → Int32) (f8 : Nat → Int32) (f9 : Nat → Int32) (i10 : Int32) (f11 : Nat → Int32) (K : (Int32 × (Nat → Int32) × (Nat → Int32) × (Nat → Int32) × (Nat → Int32) × (Nat → Int32)) → Prop) (hwp : wX0_findWays i0 i1 i2 i3 f4 f5 f6 f7 f8 f9 i10 f11 K) : Met l yX0_findWays (xw yX0_findWays cX0_findWays 2 none) ({ frames := 2, cells := 0, slots := 0, locals := 46 }) (xPc G cI cJ cZ [.ref h0] [(h0, .inr (0, [.ref h8, .ref h6, .ref k0, .ref k1, .ref h1, .ref h2, .ref h3, .ref h4, .ref h5, .ref k2, .ref k3, .int i0, .int i1, .int i2, .int i3])), (h1, aI cI 20 f4), (h2, aI cI 20 f5), (h3, aI cI 20 f6), (h4, aI cI 20 f7), (h5, aI cI 20 f8), (h6, .inr (6, [.ref h8, .ref k4, .ref h7])), (h7, aI cI 400 f9), (h8, .inr (2, [.ref k5, .ref h9, .int i10])), (h9, aI cI 20 f11)] sz) (va_Qv (fun (u : Int32 × (Nat → Int32) × (Nat → Int32) × (Nat → Int32) × (Nat → Int32) × (Nat → Int32)) => K u) (fun (u : Int32 × (Nat → Int32) × (Nat → Int32) × (Nat → Int32) × (Nat → Int32) × (Nat → Int32)) t => xB G (va_A [(h0, .inr (0, [.ref h8, .ref h6, .ref k0, .ref k1, .ref h1, .ref h2, .ref h3, .ref h4, .ref h5, .ref k2, .ref k3, .int i0, .int i1, .int i2, .int i3])), (h1, aI cI 20 f4), (h2, aI cI 20 f5), (h3, aI cI 20 f6), (h4, aI cI 20 f7), (h5, aI cI 20 f8), (h6, .inr (6, [.ref h8, .ref k4, .ref h7])), (h7, aI cI 400 f9), (h8, .inr (2, [.ref k5, .ref h9, .int i10])), (h9, aI cI 20 f11)] sz) [(h0, .inr (0, [.ref h8, .ref h6, .ref k0, .ref k1, .ref h1, .ref h2, .ref h3, .ref h4, .ref h5, .ref k2, .ref k3, .int i0, .int i1, .int i2, .int u.1])), (h1, aI cI 20 u.2.1), (h2, aI cI 20 u.2.2.1), (h3, aI cI 20 u.2.2.2.1), (h4, aI cI 20 u.2.2.2.2.1), (h5, aI cI 20 u.2.2.2.2.2), (h6, .inr (6, [.ref h8, .ref k4, .ref h7])), (h7, aI cI 400 f9), (h8, .inr (2, [.ref k5, .ref h9, .int i10])), (h9, aI cI 20 f11)] t) (va_A [(h0, .inr (0, [.ref h8, .ref h6, .ref k0, .ref k1, .ref h1, .ref h2, .ref h3, .ref h4, .ref h5, .ref k2, .ref k3, .int i0, .int i1, .int i2, .int i3])), (h1, aI cI 20 f4), (h2, aI cI 20 f5), (h3, aI cI 20 f6), (h4, aI cI 20 f7), (h5, aI cI 20 f8), (h6, .inr (6, [.ref h8, .ref k4, .ref h7])), (h7, aI cI 400 f9), (h8, .inr (2, [.ref k5, .ref h9, .int i10])), (h9, aI cI 20 f11)] sz)) 0 0 (va_A [(h0, .inr (0, [.ref h8, .ref h6, .ref k0, .ref k1, .ref h1, .ref h2, .ref h3, .ref h4, .ref h5, .ref k2, .ref k3, .int i0, .int i1, .int i2, .int i3])), (h1, aI cI 20 f4), (h2, aI cI 20 f5), (h3, aI cI 20 f6), (h4, aI cI 20 f7), (h5, aI cI 20 f8), (h6, .inr (6, [.ref h8, .ref k4, .ref h7])), (h7, aI cI 400 f9), (h8, .inr (2, [.ref k5, .ref h9, .int i10])), (h9, aI cI 20 f11)] sz) := by
  refine Met.ofW (cc := cX0_findWays) (maxL := 2) (ret := none) (by decide) rfl ?_
  intro p e s m args below meth c s₁ B hml hv
  obtain ⟨rfl, hsz, hP, hK, hD0, hN⟩ := hv
  have hx := B.exec
  have hb := B.bytes
  have hr := B.returns
  have hts : ∀ w ∈ xW, w.before _ s = true := fun w h => atoms_spec (ws := xw yX0_findWays cX0_findWays 2 none) B.pre w (List.mem_cons_of_mem _ h)
  have hown : s.vm.findClass RX0 = some m.cls := findClass_of_methodNamed B.named
  have hlocks := B.notSynchronized
  subst hsz
  have hD := hD0.self (sz := s.heap.size)
  clear hD0
  generalize hAe : va_A [(h0, .inr (0, [.ref h8, .ref h6, .ref k0, .ref k1, .ref h1, .ref h2, .ref h3, .ref h4, .ref h5, .ref k2, .ref k3, .int i0, .int i1, .int i2, .int i3])), (h1, aI cI 20 f4), (h2, aI cI 20 f5), (h3, aI cI 20 f6), (h4, aI cI 20 f7), (h5, aI cI 20 f8), (h6, .inr (6, [.ref h8, .ref k4, .ref h7])), (h7, aI cI 400 f9), (h8, .inr (2, [.ref k5, .ref h9, .int i10])), (h9, aI cI 20 f11)] s.heap.size = A at hD ⊢
  have hA : ∀ q : Nat, s.heap.size ≤ q → A q := fun q h => by rw [← hAe]; exact Or.inr h
  clear hAe
  have hS : va_S A s.heap s.heap [] := va_S.rf
  replace hP : va_P G vwCl [(h0, .inr (0, [.ref h8, .ref h6, .ref k0, .ref k1, .ref h1, .ref h2, .ref h3, .ref h4, .ref h5, .ref k2, .ref k3, .int i0, .int i1, .int i2, .int i3])), (h1, aI cI 20 f4), (h2, aI cI 20 f5), (h3, aI cI 20 f6), (h4, aI cI 20 f7), (h5, aI cI 20 f8), (h6, .inr (6, [.ref h8, .ref k4, .ref h7])), (h7, aI cI 400 f9), (h8, .inr (2, [.ref k5, .ref h9, .int i10])), (h9, aI cI 20 f11)] s.heap := hP
  have hl := lv_entry ([.ref h0]) (n := 2) (Nat.le_of_ble_eq_true rfl)
  rw [lg_entry_eq]
  generalize (lg_sl ([.ref h0]) ++ List.replicate (2 - (lg_sl ([.ref h0])).length) Slot.unset).toArray = ls at hl ⊢
  replace hl : lv_has ls 2 [(0, .ref h0)] := hl
  generalize hQQ : MQ below _ _ s 0 0 _ = QQ
  skip
  unfold wX0_findWays at hwp
  refine lv_aload_n hx hb dX0_findWays_0 rfl (lv_at hl 0 rfl) ?_
  refine va_get (D := G) (ci := 0) (v := .ref h1) (C := RX0) (T := TX0) (N := 15) hx hb hts xinX0 hown hK hP 0 rfl rfl 4 (by decide) (hts _ wo_134) (fun _ h9 => h9) rfl dX0_findWays_1 ?_
  refine lv_iconst (v := (-1)) hx hb dX0_findWays_4 (by decide) ?_
  refine xcv (wr := [(h0, .inr (0, [.ref h8, .ref h6, .ref k0, .ref k1, .ref h1, .ref h2, .ref h3, .ref h4, .ref h5, .ref k2, .ref k3, .int i0, .int i1, .int i2, .int i3])), (h2, aI cI 20 f5), (h3, aI cI 20 f6), (h4, aI cI 20 f7), (h5, aI cI 20 f8), (h6, .inr (6, [.ref h8, .ref k4, .ref h7])), (h7, aI cI 400 f9), (h8, .inr (2, [.ref k5, .ref h9, .int i10])), (h9, aI cI 20 f11)]) (va_runS (As := [.ref h1, .int (-1)]) (rest := []) ⟨hx, hb, hml, hown, hts⟩ (zJ7_fill_53178 l G cI cJ cZ h1 s.heap.size f4 ((-1) : Int32) _ hwp) (va_cwS 2 hts (xgoodS wo_4 wo_144 wo_6 wo_7) rfl rfl rfl (by decide +kernel) ⟨Nat.le_of_ble_eq_true rfl, Nat.le_of_ble_eq_true rfl⟩) (xPreS hK hN hP hD [1] (by decide) rfl) rfl rfl hl.1 rfl (lv_room (Nat.le_of_ble_eq_true rfl)) dX0_findWays_5 ⟨Nat.le_of_ble_eq_true rfl, Nat.le_of_ble_eq_true rfl⟩) hP hD hS hA [1] [0, 2, 3, 4, 5, 6, 7, 8, 9] rfl rfl (by decide) (by decide) (fun u5 H locs hwp hP hD hS => ?_)
  replace hP : va_P G vwCl [(h0, .inr (0, [.ref h8, .ref h6, .ref k0, .ref k1, .ref h1, .ref h2, .ref h3, .ref h4, .ref h5, .ref k2, .ref k3, .int i0, .int i1, .int i2, .int i3])), (h2, aI cI 20 f5), (h3, aI cI 20 f6), (h4, aI cI 20 f7), (h5, aI cI 20 f8), (h6, .inr (6, [.ref h8, .ref k4, .ref h7])), (h7, aI cI 400 f9), (h8, .inr (2, [.ref k5, .ref h9, .int i10])), (h9, aI cI 20 f11), (h1, aI cI 20 u5)] H := hP
  replace hD : va_D A [(h0, .inr (0, [.ref h8, .ref h6, .ref k0, .ref k1, .ref h1, .ref h2, .ref h3, .ref h4, .ref h5, .ref k2, .ref k3, .int i0, .int i1, .int i2, .int i3])), (h2, aI cI 20 f5), (h3, aI cI 20 f6), (h4, aI cI 20 f7), (h5, aI cI 20 f8), (h6, .inr (6, [.ref h8, .ref k4, .ref h7])), (h7, aI cI 400 f9), (h8, .inr (2, [.ref k5, .ref h9, .int i10])), (h9, aI cI 20 f11), (h1, aI cI 20 u5)] := hD
  refine lv_aload_n hx hb dX0_findWays_8 rfl (lv_at hl 0 rfl) ?_
  refine va_get (D := G) (ci := 0) (v := .ref h2) (C := RX0) (T := TX0) (N := 15) hx hb hts xinX0 hown hK hP 0 rfl rfl 5 (by decide) (hts _ wo_135) (fun _ h9 => h9) rfl dX0_findWays_9 ?_
  refine lv_iconst (v := (-1)) hx hb dX0_findWays_12 (by decide) ?_
  refine xcv (wr := [(h0, .inr (0, [.ref h8, .ref h6, .ref k0, .ref k1, .ref h1, .ref h2, .ref h3, .ref h4, .ref h5, .ref k2, .ref k3, .int i0, .int i1, .int i2, .int i3])), (h3, aI cI 20 f6), (h4, aI cI 20 f7), (h5, aI cI 20 f8), (h6, .inr (6, [.ref h8, .ref k4, .ref h7])), (h7, aI cI 400 f9), (h8, .inr (2, [.ref k5, .ref h9, .int i10])), (h9, aI cI 20 f11), (h1, aI cI 20 u5)]) (va_runS (As := [.ref h2, .int (-1)]) (rest := []) ⟨hx, hb, hml, hown, hts⟩ (zJ7_fill_53178 l G cI cJ cZ h2 H.size f5 ((-1) : Int32) _ hwp) (va_cwS 2 hts (xgoodS wo_4 wo_144 wo_6 wo_7) rfl rfl rfl (by decide +kernel) ⟨Nat.le_of_ble_eq_true rfl, Nat.le_of_ble_eq_true rfl⟩) (xPreS hK hN hP hD [1] (by decide) rfl) rfl rfl hl.1 rfl (lv_room (Nat.le_of_ble_eq_true rfl)) dX0_findWays_13 ⟨Nat.le_of_ble_eq_true rfl, Nat.le_of_ble_eq_true rfl⟩) hP hD hS hA [1] [0, 2, 3, 4, 5, 6, 7, 8, 9] rfl rfl (by decide) (by decide) (fun u13 H locs hwp hP hD hS => ?_)
  replace hP : va_P G vwCl [(h0, .inr (0, [.ref h8, .ref h6, .ref k0, .ref k1, .ref h1, .ref h2, .ref h3, .ref h4, .ref h5, .ref k2, .ref k3, .int i0, .int i1, .int i2, .int i3])), (h3, aI cI 20 f6), (h4, aI cI 20 f7), (h5, aI cI 20 f8), (h6, .inr (6, [.ref h8, .ref k4, .ref h7])), (h7, aI cI 400 f9), (h8, .inr (2, [.ref k5, .ref h9, .int i10])), (h9, aI cI 20 f11), (h1, aI cI 20 u5), (h2, aI cI 20 u13)] H := hP
  replace hD : va_D A [(h0, .inr (0, [.ref h8, .ref h6, .ref k0, .ref k1, .ref h1, .ref h2, .ref h3, .ref h4, .ref h5, .ref k2, .ref k3, .int i0, .int i1, .int i2, .int i3])), (h3, aI cI 20 f6), (h4, aI cI 20 f7), (h5, aI cI 20 f8), (h6, .inr (6, [.ref h8, .ref k4, .ref h7])), (h7, aI cI 400 f9), (h8, .inr (2, [.ref k5, .ref h9, .int i10])), (h9, aI cI 20 f11), (h1, aI cI 20 u5), (h2, aI cI 20 u13)] := hD
  refine lv_aload_n hx hb dX0_findWays_16 rfl (lv_at hl 0 rfl) ?_
  refine va_get (D := G) (ci := 0) (v := .ref h3) (C := RX0) (T := TX0) (N := 15) hx hb hts xinX0 hown hK hP 0 rfl rfl 6 (by decide) (hts _ wo_142) (fun _ h9 => h9) rfl dX0_findWays_17 ?_
  refine lv_iconst (v := (-1)) hx hb dX0_findWays_20 (by decide) ?_
  refine xcv (wr := [(h0, .inr (0, [.ref h8, .ref h6, .ref k0, .ref k1, .ref h1, .ref h2, .ref h3, .ref h4, .ref h5, .ref k2, .ref k3, .int i0, .int i1, .int i2, .int i3])), (h4, aI cI 20 f7), (h5, aI cI 20 f8), (h6, .inr (6, [.ref h8, .ref k4, .ref h7])), (h7, aI cI 400 f9), (h8, .inr (2, [.ref k5, .ref h9, .int i10])), (h9, aI cI 20 f11), (h1, aI cI 20 u5), (h2, aI cI 20 u13)]) (va_runS (As := [.ref h3, .int (-1)]) (rest := []) ⟨hx, hb, hml, hown, hts⟩ (zJ7_fill_53178 l G cI cJ cZ h3 H.size f6 ((-1) : Int32) _ hwp) (va_cwS 2 hts (xgoodS wo_4 wo_144 wo_6 wo_7) rfl rfl rfl (by decide +kernel) ⟨Nat.le_of_ble_eq_true rfl, Nat.le_of_ble_eq_true rfl⟩) (xPreS hK hN hP hD [1] (by decide) rfl) rfl rfl hl.1 rfl (lv_room (Nat.le_of_ble_eq_true rfl)) dX0_findWays_21 ⟨Nat.le_of_ble_eq_true rfl, Nat.le_of_ble_eq_true rfl⟩) hP hD hS hA [1] [0, 2, 3, 4, 5, 6, 7, 8, 9] rfl rfl (by decide) (by decide) (fun u21 H locs hwp hP hD hS => ?_)
  replace hP : va_P G vwCl [(h0, .inr (0, [.ref h8, .ref h6, .ref k0, .ref k1, .ref h1, .ref h2, .ref h3, .ref h4, .ref h5, .ref k2, .ref k3, .int i0, .int i1, .int i2, .int i3])), (h4, aI cI 20 f7), (h5, aI cI 20 f8), (h6, .inr (6, [.ref h8, .ref k4, .ref h7])), (h7, aI cI 400 f9), (h8, .inr (2, [.ref k5, .ref h9, .int i10])), (h9, aI cI 20 f11), (h1, aI cI 20 u5), (h2, aI cI 20 u13), (h3, aI cI 20 u21)] H := hP
  replace hD : va_D A [(h0, .inr (0, [.ref h8, .ref h6, .ref k0, .ref k1, .ref h1, .ref h2, .ref h3, .ref h4, .ref h5, .ref k2, .ref k3, .int i0, .int i1, .int i2, .int i3])), (h4, aI cI 20 f7), (h5, aI cI 20 f8), (h6, .inr (6, [.ref h8, .ref k4, .ref h7])), (h7, aI cI 400 f9), (h8, .inr (2, [.ref k5, .ref h9, .int i10])), (h9, aI cI 20 f11), (h1, aI cI 20 u5), (h2, aI cI 20 u13), (h3, aI cI 20 u21)] := hD
  refine lv_aload_n hx hb dX0_findWays_24 rfl (lv_at hl 0 rfl) ?_
  refine lv_iconst (v := 1) hx hb dX0_findWays_25 (by decide) ?_
  refine lv_aload_n hx hb dX0_findWays_26 rfl (lv_at hl 0 rfl) ?_
  refine va_get (D := G) (ci := 0) (v := .int i0) (C := RX0) (T := TX0) (N := 15) hx hb hts xinX0 hown hK hP 0 rfl rfl 11 (by decide) (hts _ wo_126) (fun _ h9 => h9) rfl dX0_findWays_27 ?_
  refine lv_ishl hx hb dX0_findWays_30 ?_
  refine lv_iconst (v := 1) hx hb dX0_findWays_31 (by decide) ?_
  refine lv_aload_n hx hb dX0_findWays_32 rfl (lv_at hl 0 rfl) ?_
  refine va_get (D := G) (ci := 0) (v := .int i1) (C := RX0) (T := TX0) (N := 15) hx hb hts xinX0 hown hK hP 0 rfl rfl 12 (by decide) (hts _ wo_128) (fun _ h9 => h9) rfl dX0_findWays_33 ?_
  refine lv_ishl hx hb dX0_findWays_36 ?_
  refine lv_ior hx hb dX0_findWays_37 ?_
  refine lv_iconst (v := 1) hx hb dX0_findWays_38 (by decide) ?_
  refine lv_aload_n hx hb dX0_findWays_39 rfl (lv_at hl 0 rfl) ?_
  refine va_get (D := G) (ci := 0) (v := .int i2) (C := RX0) (T := TX0) (N := 15) hx hb hts xinX0 hown hK hP 0 rfl rfl 13 (by decide) (hts _ wo_131) (fun _ h9 => h9) rfl dX0_findWays_40 ?_
  refine lv_ishl hx hb dX0_findWays_43 ?_
  refine lv_ior hx hb dX0_findWays_44 ?_
  refine lv_topi (fun v45 ev45 => ?_)
  replace hwp := hwp v45 ev45
  clear ev45
  refine va_put (D := G) (ci := 0) (v := .int v45) (ty := .int) (C := RX0) (T := TX0) (N := 15) hx hb hts xinX0 tyX0 tyX0_ok nmX0 hown hK hP hD hS 0 rfl rfl 14 (by decide) (hts _ wo_136) (fun _ h9 => h9) rfl (by decide +kernel) rfl rfl (Nat.le_of_ble_eq_true rfl) dX0_findWays_45 (fun H locs hP hD hS => ?_)
  replace hP : va_P G vwCl [(h0, .inr (0, [.ref h8, .ref h6, .ref k0, .ref k1, .ref h1, .ref h2, .ref h3, .ref h4, .ref h5, .ref k2, .ref k3, .int i0, .int i1, .int i2, .int v45])), (h4, aI cI 20 f7), (h5, aI cI 20 f8), (h6, .inr (6, [.ref h8, .ref k4, .ref h7])), (h7, aI cI 400 f9), (h8, .inr (2, [.ref k5, .ref h9, .int i10])), (h9, aI cI 20 f11), (h1, aI cI 20 u5), (h2, aI cI 20 u13), (h3, aI cI 20 u21)] H := hP
  replace hD : va_D A [(h0, .inr (0, [.ref h8, .ref h6, .ref k0, .ref k1, .ref h1, .ref h2, .ref h3, .ref h4, .ref h5, .ref k2, .ref k3, .int i0, .int i1, .int i2, .int v45])), (h4, aI cI 20 f7), (h5, aI cI 20 f8), (h6, .inr (6, [.ref h8, .ref k4, .ref h7])), (h7, aI cI 400 f9), (h8, .inr (2, [.ref k5, .ref h9, .int i10])), (h9, aI cI 20 f11), (h1, aI cI 20 u5), (h2, aI cI 20 u13), (h3, aI cI 20 u21)] := hD
  refine lv_aload_n hx hb dX0_findWays_48 rfl (lv_at hl 0 rfl) ?_
  refine lv_aload_n hx hb dX0_findWays_49 rfl (lv_at hl 0 rfl) ?_
  refine va_get (D := G) (ci := 0) (v := .int i1) (C := RX0) (T := TX0) (N := 15) hx hb hts xinX0 hown hK hP 0 rfl rfl 12 (by decide) (hts _ wo_128) (fun _ h9 => h9) rfl dX0_findWays_50 ?_
  refine lv_aload_n hx hb dX0_findWays_53 rfl (lv_at hl 0 rfl) ?_
  refine va_get (D := G) (ci := 0) (v := .int i2) (C := RX0) (T := TX0) (N := 15) hx hb hts xinX0 hown hK hP 0 rfl rfl 13 (by decide) (hts _ wo_131) (fun _ h9 => h9) rfl dX0_findWays_54 ?_
  refine xcv (wr := [(h6, .inr (6, [.ref h8, .ref k4, .ref h7])), (h7, aI cI 400 f9), (h8, .inr (2, [.ref k5, .ref h9, .int i10])), (h9, aI cI 20 f11), (h1, aI cI 20 u5), (h2, aI cI 20 u13), (h3, aI cI 20 u21)]) (va_runV (As := [.int i1, .int i2]) (rest := []) ⟨hx, hb, hml, hown, hts⟩ (zX0_link l G cI cJ cZ h0 h4 h5 h8 h6 k0 k1 h1 h2 h3 k2 k3 H.size i0 i1 i2 v45 f7 f8 i1 i2 _ hwp) (cwV 2 hts (xgoodV wo_137 wo_138 wo_139 wo_140 wo_141) rfl rfl rfl (by decide +kernel) ⟨Nat.le_of_ble_eq_true rfl, Nat.le_of_ble_eq_true rfl⟩) (xPreV (q := (RX0, TX0, 15)) (q0 := 0) hK hN hP hD [0, 1, 2] (by decide) rfl rfl rfl) rfl rfl hl.1 rfl (lv_room (Nat.le_of_ble_eq_true rfl)) dX0_findWays_57 ⟨Nat.le_of_ble_eq_true rfl, Nat.le_of_ble_eq_true rfl⟩) hP hD hS hA [0, 1, 2] [3, 4, 5, 6, 7, 8, 9] rfl rfl (by decide) (by decide) (fun u57 H locs hwp hP hD hS => ?_)
  replace hP : va_P G vwCl [(h6, .inr (6, [.ref h8, .ref k4, .ref h7])), (h7, aI cI 400 f9), (h8, .inr (2, [.ref k5, .ref h9, .int i10])), (h9, aI cI 20 f11), (h1, aI cI 20 u5), (h2, aI cI 20 u13), (h3, aI cI 20 u21), (h0, .inr (0, [.ref h8, .ref h6, .ref k0, .ref k1, .ref h1, .ref h2, .ref h3, .ref h4, .ref h5, .ref k2, .ref k3, .int i0, .int i1, .int i2, .int v45])), (h4, aI cI 20 u57.1), (h5, aI cI 20 u57.2)] H := hP
  replace hD : va_D A [(h6, .inr (6, [.ref h8, .ref k4, .ref h7])), (h7, aI cI 400 f9), (h8, .inr (2, [.ref k5, .ref h9, .int i10])), (h9, aI cI 20 f11), (h1, aI cI 20 u5), (h2, aI cI 20 u13), (h3, aI cI 20 u21), (h0, .inr (0, [.ref h8, .ref h6, .ref k0, .ref k1, .ref h1, .ref h2, .ref h3, .ref h4, .ref h5, .ref k2, .ref k3, .int i0, .int i1, .int i2, .int v45])), (h4, aI cI 20 u57.1), (h5, aI cI 20 u57.2)] := hD
  refine lv_aload_n hx hb dX0_findWays_60 rfl (lv_at hl 0 rfl) ?_
  refine lv_aload_n hx hb dX0_findWays_61 rfl (lv_at hl 0 rfl) ?_
  refine va_get (D := G) (ci := 0) (v := .int i2) (C := RX0) (T := TX0) (N := 15) hx hb hts xinX0 hown hK hP 7 rfl rfl 13 (by decide) (hts _ wo_131) (fun _ h9 => h9) rfl dX0_findWays_62 ?_
  refine lv_aload_n hx hb dX0_findWays_65 rfl (lv_at hl 0 rfl) ?_
  refine va_get (D := G) (ci := 0) (v := .int i0) (C := RX0) (T := TX0) (N := 15) hx hb hts xinX0 hown hK hP 7 rfl rfl 11 (by decide) (hts _ wo_126) (fun _ h9 => h9) rfl dX0_findWays_66 ?_
  refine xcv (wr := [(h6, .inr (6, [.ref h8, .ref k4, .ref h7])), (h7, aI cI 400 f9), (h8, .inr (2, [.ref k5, .ref h9, .int i10])), (h9, aI cI 20 f11), (h1, aI cI 20 u5), (h2, aI cI 20 u13), (h3, aI cI 20 u21)]) (va_runV (As := [.int i2, .int i0]) (rest := []) ⟨hx, hb, hml, hown, hts⟩ (zX0_link l G cI cJ cZ h0 h4 h5 h8 h6 k0 k1 h1 h2 h3 k2 k3 H.size i0 i1 i2 v45 (u57.1) (u57.2) i2 i0 _ hwp) (cwV 2 hts (xgoodV wo_137 wo_138 wo_139 wo_140 wo_141) rfl rfl rfl (by decide +kernel) ⟨Nat.le_of_ble_eq_true rfl, Nat.le_of_ble_eq_true rfl⟩) (xPreV (q := (RX0, TX0, 15)) (q0 := 7) hK hN hP hD [7, 8, 9] (by decide) rfl rfl rfl) rfl rfl hl.1 rfl (lv_room (Nat.le_of_ble_eq_true rfl)) dX0_findWays_69 ⟨Nat.le_of_ble_eq_true rfl, Nat.le_of_ble_eq_true rfl⟩) hP hD hS hA [7, 8, 9] [0, 1, 2, 3, 4, 5, 6] rfl rfl (by decide) (by decide) (fun u69 H locs hwp hP hD hS => ?_)
  replace hP : va_P G vwCl [(h6, .inr (6, [.ref h8, .ref k4, .ref h7])), (h7, aI cI 400 f9), (h8, .inr (2, [.ref k5, .ref h9, .int i10])), (h9, aI cI 20 f11), (h1, aI cI 20 u5), (h2, aI cI 20 u13), (h3, aI cI 20 u21), (h0, .inr (0, [.ref h8, .ref h6, .ref k0, .ref k1, .ref h1, .ref h2, .ref h3, .ref h4, .ref h5, .ref k2, .ref k3, .int i0, .int i1, .int i2, .int v45])), (h4, aI cI 20 u69.1), (h5, aI cI 20 u69.2)] H := hP
  replace hD : va_D A [(h6, .inr (6, [.ref h8, .ref k4, .ref h7])), (h7, aI cI 400 f9), (h8, .inr (2, [.ref k5, .ref h9, .int i10])), (h9, aI cI 20 f11), (h1, aI cI 20 u5), (h2, aI cI 20 u13), (h3, aI cI 20 u21), (h0, .inr (0, [.ref h8, .ref h6, .ref k0, .ref k1, .ref h1, .ref h2, .ref h3, .ref h4, .ref h5, .ref k2, .ref k3, .int i0, .int i1, .int i2, .int v45])), (h4, aI cI 20 u69.1), (h5, aI cI 20 u69.2)] := hD
  refine lv_aload_n hx hb dX0_findWays_72 rfl (lv_at hl 0 rfl) ?_
  refine lv_aload_n hx hb dX0_findWays_73 rfl (lv_at hl 0 rfl) ?_
  refine va_get (D := G) (ci := 0) (v := .int i2) (C := RX0) (T := TX0) (N := 15) hx hb hts xinX0 hown hK hP 7 rfl rfl 13 (by decide) (hts _ wo_131) (fun _ h9 => h9) rfl dX0_findWays_74 ?_
  refine xcv (wr := [(h8, .inr (2, [.ref k5, .ref h9, .int i10])), (h9, aI cI 20 f11)]) (va_runV (As := [.int i2]) (rest := []) ⟨hx, hb, hml, hown, hts⟩ (zX0_takeOff l G cI cJ cZ h0 h4 h1 h5 h2 h6 h7 h3 h8 k0 k1 k2 k3 k4 H.size i0 i1 i2 v45 (u69.1) u5 (u69.2) u13 f9 u21 i2 _ hwp) (cwV 1 hts (xgoodV wo_145 wo_146 wo_147 wo_148 wo_141) rfl rfl rfl (by decide +kernel) ⟨Nat.le_of_ble_eq_true rfl, Nat.le_of_ble_eq_true rfl⟩) (xPreV (q := (RX0, TX0, 15)) (q0 := 7) hK hN hP hD [7, 8, 4, 9, 5, 0, 1, 6] (by decide) rfl rfl rfl) rfl rfl hl.1 rfl (lv_room (Nat.le_of_ble_eq_true rfl)) dX0_findWays_77 ⟨Nat.le_of_ble_eq_true rfl, Nat.le_of_ble_eq_true rfl⟩) hP hD hS hA [7, 8, 4, 9, 5, 0, 1, 6] [2, 3] rfl rfl (by decide) (by decide) (fun u77 H locs hwp hP hD hS => ?_)
  replace hP : va_P G vwCl [(h8, .inr (2, [.ref k5, .ref h9, .int i10])), (h9, aI cI 20 f11), (h0, .inr (0, [.ref h8, .ref h6, .ref k0, .ref k1, .ref h1, .ref h2, .ref h3, .ref h4, .ref h5, .ref k2, .ref k3, .int i0, .int i1, .int i2, .int u77.1])), (h4, aI cI 20 u77.2.1), (h1, aI cI 20 u77.2.2.1), (h5, aI cI 20 u77.2.2.2.1), (h2, aI cI 20 u77.2.2.2.2.1), (h6, .inr (6, [.ref h8, .ref k4, .ref h7])), (h7, aI cI 400 f9), (h3, aI cI 20 u77.2.2.2.2.2)] H := hP
  replace hD : va_D A [(h8, .inr (2, [.ref k5, .ref h9, .int i10])), (h9, aI cI 20 f11), (h0, .inr (0, [.ref h8, .ref h6, .ref k0, .ref k1, .ref h1, .ref h2, .ref h3, .ref h4, .ref h5, .ref k2, .ref k3, .int i0, .int i1, .int i2, .int u77.1])), (h4, aI cI 20 u77.2.1), (h1, aI cI 20 u77.2.2.1), (h5, aI cI 20 u77.2.2.2.1), (h2, aI cI 20 u77.2.2.2.2.1), (h6, .inr (6, [.ref h8, .ref k4, .ref h7])), (h7, aI cI 400 f9), (h3, aI cI 20 u77.2.2.2.2.2)] := hD
  refine lv_iconst (v := 3) hx hb dX0_findWays_80 (by decide) ?_
  refine lv_istore_n (lv' := [(1, .int 3), (0, .ref h0)]) hx hb dX0_findWays_81 rfl hl (by decide) rfl (fun ls hl => ?_)
  replace hl : lv_has ls 2 [(1, .int 3), (0, .ref h0)] := lv_sub hl [0, 1] rfl
  obtain ⟨n1, hwp⟩ := hwp
  have hs1 : ∀ (n1 : Nat) (H : Heap) (locs : List Loc) (ls : Array Slot) (t82_0 : Nat → Int32) (t82_1 : Nat → Int32) (t82_2 : Nat → Int32) (t82_3 : Nat → Int32) (t82_4 : Nat → Int32) (t82_5 : Int32) (t82_6 : Int32), wLX0_findWays_82 i0 i1 i2 f9 i10 f11 K  n1 t82_0 t82_1 t82_2 t82_3 t82_4 t82_5 t82_6 → va_P G vwCl [(h8, .inr (2, [.ref k5, .ref h9, .int i10])), (h9, aI cI 20 f11), (h0, .inr (0, [.ref h8, .ref h6, .ref k0, .ref k1, .ref h1, .ref h2, .ref h3, .ref h4, .ref h5, .ref k2, .ref k3, .int i0, .int i1, .int i2, .int t82_5])), (h4, aI cI 20 t82_3), (h1, aI cI 20 t82_0), (h5, aI cI 20 t82_4), (h2, aI cI 20 t82_1), (h6, .inr (6, [.ref h8, .ref k4, .ref h7])), (h7, aI cI 400 f9), (h3, aI cI 20 t82_2)] H → va_D A [(h8, .inr (2, [.ref k5, .ref h9, .int i10])), (h9, aI cI 20 f11), (h0, .inr (0, [.ref h8, .ref h6, .ref k0, .ref k1, .ref h1, .ref h2, .ref h3, .ref h4, .ref h5, .ref k2, .ref k3, .int i0, .int i1, .int i2, .int t82_5])), (h4, aI cI 20 t82_3), (h1, aI cI 20 t82_0), (h5, aI cI 20 t82_4), (h2, aI cI 20 t82_1), (h6, .inr (6, [.ref h8, .ref k4, .ref h7])), (h7, aI cI 400 f9), (h3, aI cI 20 t82_2)] → va_S A s.heap H locs → lv_has ls 2 [(1, .int t82_6), (0, .ref h0)] → W p l e ((headSpec (xw yX0_findWays cX0_findWays 2 none) { frames := 2, cells := 0, slots := 0, locals := 46 }).room) s m ([.ref h0] : List Value).toArray below meth c H locs 0 0 QQ (F0 m 82 ls []) := by
    intro n1
    induction n1 with
    | zero => intro H locs ls t82_0 t82_1 t82_2 t82_3 t82_4 t82_5 t82_6 hwp; exact False.elim hwp
    | succ n1 ih1 =>
      intro H locs ls t82_0 t82_1 t82_2 t82_3 t82_4 t82_5 t82_6 hwp hP hD hS hl
      rw [wLX0_findWays_82] at hwp
      refine lv_iload_n hx hb dX0_findWays_82 rfl (lv_at hl 0 rfl) ?_
      refine lv_aload_n hx hb dX0_findWays_83 rfl (lv_at hl 1 rfl) ?_
      refine va_get (D := G) (ci := 0) (v := .ref h8) (C := RX0) (T := TX0) (N := 15) hx hb hts xinX0 hown hK hP 2 rfl rfl 0 (by decide) (hts _ wo_127) (fun _ h9 => h9) rfl dX0_findWays_84 ?_
      refine va_getN (D := G) (ci := 2) (v := .int i10) (C := RX2) (T := TX2) (N := 3) hx hb hts xinX2 hown hK hP 0 rfl rfl 2 (by decide) (va_Nw.use rfl (hN.1 ("PlaneTests$Drawing", 53, "PlaneTests$Filled", "nodes", "I", "PlaneTests") (by decide +kernel))) (fun _ h9 => h9) rfl dX0_findWays_87 ?_
      refine lv_icmp_ge (tgt := 107) hx hb dX0_findWays_90 (by decide) (fun c90 => ?_) (fun c90 => ?_)
      · replace hwp := hwp.1 c90
        have hP9 : va_P G vwCl [(h0, .inr (0, [.ref h8, .ref h6, .ref k0, .ref k1, .ref h1, .ref h2, .ref h3, .ref h4, .ref h5, .ref k2, .ref k3, .int i0, .int i1, .int i2, .int t82_5])), (h1, aI cI 20 t82_0), (h2, aI cI 20 t82_1), (h3, aI cI 20 t82_2), (h4, aI cI 20 t82_3), (h5, aI cI 20 t82_4), (h6, .inr (6, [.ref h8, .ref k4, .ref h7])), (h7, aI cI 400 f9), (h8, .inr (2, [.ref k5, .ref h9, .int i10])), (h9, aI cI 20 f11)] H := hP.sub [2, 4, 6, 9, 3, 5, 7, 8, 0, 1] rfl
        have hD9 : va_D A [(h0, .inr (0, [.ref h8, .ref h6, .ref k0, .ref k1, .ref h1, .ref h2, .ref h3, .ref h4, .ref h5, .ref k2, .ref k3, .int i0, .int i1, .int i2, .int t82_5])), (h1, aI cI 20 t82_0), (h2, aI cI 20 t82_1), (h3, aI cI 20 t82_2), (h4, aI cI 20 t82_3), (h5, aI cI 20 t82_4), (h6, .inr (6, [.ref h8, .ref k4, .ref h7])), (h7, aI cI 400 f9), (h8, .inr (2, [.ref k5, .ref h9, .int i10])), (h9, aI cI 20 f11)] := hD.sub [2, 4, 6, 9, 3, 5, 7, 8, 0, 1] (by decide) rfl
        rw [← hQQ]
        exact W.vret hx hb hr (fun t ht hW => ⟨⟨(t82_5, t82_0, t82_1, t82_2, t82_3, t82_4), rfl, hwp, by rw [ht]; exact hP9, hD9⟩, hS.F ht⟩) hS.2.2 dX0_findWays_107
      · replace hwp := hwp.2 c90
        refine lv_aload_n hx hb dX0_findWays_93 rfl (lv_at hl 1 rfl) ?_
        refine lv_aload_n hx hb dX0_findWays_94 rfl (lv_at hl 1 rfl) ?_
        refine xci (wr := [(h4, aI cI 20 t82_3), (h1, aI cI 20 t82_0), (h5, aI cI 20 t82_4), (h2, aI cI 20 t82_1), (h6, .inr (6, [.ref h8, .ref k4, .ref h7])), (h7, aI cI 400 f9), (h3, aI cI 20 t82_2)]) (va_runV (As := []) (rest := [.ref h0]) ⟨hx, hb, hml, hown, hts⟩ (zX0_greatestFree l G cI cJ cZ h0 h8 h9 h6 k0 k1 h1 h2 h3 h4 h5 k2 k3 k5 H.size i0 i1 i2 t82_5 i10 f11 _ hwp) (cwV 0 hts (xgoodV wo_149 wo_150 wo_151 wo_152 wo_141) rfl rfl rfl (by decide +kernel) ⟨Nat.le_of_ble_eq_true rfl, Nat.le_of_ble_eq_true rfl⟩) (xPreV (q := (RX0, TX0, 15)) (q0 := 2) hK hN hP hD [2, 0, 1] (by decide) rfl rfl rfl) rfl rfl hl.1 rfl (lv_room (Nat.le_of_ble_eq_true rfl)) dX0_findWays_95 ⟨Nat.le_of_ble_eq_true rfl, Nat.le_of_ble_eq_true rfl⟩) hP hD hS hA [2, 0, 1] [3, 4, 5, 6, 7, 8, 9] rfl rfl (by decide) (by decide) (fun r95 u95 H locs hwp hP hD hS => ?_)
        replace hP : va_P G vwCl [(h4, aI cI 20 t82_3), (h1, aI cI 20 t82_0), (h5, aI cI 20 t82_4), (h2, aI cI 20 t82_1), (h6, .inr (6, [.ref h8, .ref k4, .ref h7])), (h7, aI cI 400 f9), (h3, aI cI 20 t82_2), (h0, .inr (0, [.ref h8, .ref h6, .ref k0, .ref k1, .ref h1, .ref h2, .ref h3, .ref h4, .ref h5, .ref k2, .ref k3, .int i0, .int i1, .int i2, .int t82_5])), (h8, .inr (2, [.ref k5, .ref h9, .int i10])), (h9, aI cI 20 f11)] H := hP
        replace hD : va_D A [(h4, aI cI 20 t82_3), (h1, aI cI 20 t82_0), (h5, aI cI 20 t82_4), (h2, aI cI 20 t82_1), (h6, .inr (6, [.ref h8, .ref k4, .ref h7])), (h7, aI cI 400 f9), (h3, aI cI 20 t82_2), (h0, .inr (0, [.ref h8, .ref h6, .ref k0, .ref k1, .ref h1, .ref h2, .ref h3, .ref h4, .ref h5, .ref k2, .ref k3, .int i0, .int i1, .int i2, .int t82_5])), (h8, .inr (2, [.ref k5, .ref h9, .int i10])), (h9, aI cI 20 f11)] := hD
        refine xcv (wr := [(h8, .inr (2, [.ref k5, .ref h9, .int i10])), (h9, aI cI 20 f11)]) (va_runV (As := [.int r95]) (rest := []) ⟨hx, hb, hml, hown, hts⟩ (zX0_takeOff l G cI cJ cZ h0 h4 h1 h5 h2 h6 h7 h3 h8 k0 k1 k2 k3 k4 H.size i0 i1 i2 t82_5 t82_3 t82_0 t82_4 t82_1 f9 t82_2 r95 _ hwp) (cwV 1 hts (xgoodV wo_145 wo_146 wo_147 wo_148 wo_141) rfl rfl rfl (by decide +kernel) ⟨Nat.le_of_ble_eq_true rfl, Nat.le_of_ble_eq_true rfl⟩) (xPreV (q := (RX0, TX0, 15)) (q0 := 7) hK hN hP hD [7, 0, 1, 2, 3, 4, 5, 6] (by decide) rfl rfl rfl) rfl rfl hl.1 rfl (lv_room (Nat.le_of_ble_eq_true rfl)) dX0_findWays_98 ⟨Nat.le_of_ble_eq_true rfl, Nat.le_of_ble_eq_true rfl⟩) hP hD hS hA [7, 0, 1, 2, 3, 4, 5, 6] [8, 9] rfl rfl (by decide) (by decide) (fun u98 H locs hwp hP hD hS => ?_)
        replace hP : va_P G vwCl [(h8, .inr (2, [.ref k5, .ref h9, .int i10])), (h9, aI cI 20 f11), (h0, .inr (0, [.ref h8, .ref h6, .ref k0, .ref k1, .ref h1, .ref h2, .ref h3, .ref h4, .ref h5, .ref k2, .ref k3, .int i0, .int i1, .int i2, .int u98.1])), (h4, aI cI 20 u98.2.1), (h1, aI cI 20 u98.2.2.1), (h5, aI cI 20 u98.2.2.2.1), (h2, aI cI 20 u98.2.2.2.2.1), (h6, .inr (6, [.ref h8, .ref k4, .ref h7])), (h7, aI cI 400 f9), (h3, aI cI 20 u98.2.2.2.2.2)] H := hP
        replace hD : va_D A [(h8, .inr (2, [.ref k5, .ref h9, .int i10])), (h9, aI cI 20 f11), (h0, .inr (0, [.ref h8, .ref h6, .ref k0, .ref k1, .ref h1, .ref h2, .ref h3, .ref h4, .ref h5, .ref k2, .ref k3, .int i0, .int i1, .int i2, .int u98.1])), (h4, aI cI 20 u98.2.1), (h1, aI cI 20 u98.2.2.1), (h5, aI cI 20 u98.2.2.2.1), (h2, aI cI 20 u98.2.2.2.2.1), (h6, .inr (6, [.ref h8, .ref k4, .ref h7])), (h7, aI cI 400 f9), (h3, aI cI 20 u98.2.2.2.2.2)] := hD
        refine lv_iinc (v := (t82_6 + 1)) (lv' := [(1, .int (t82_6 + 1)), (0, .ref h0)]) hx hb dX0_findWays_101 hl (k := 0) rfl rfl (by decide) rfl (fun ls hl => ?_)
        refine lv_goto (tgt := 82) hx hb dX0_findWays_104 (by decide) ?_
        replace hl : lv_has ls 2 [(1, .int (t82_6 + 1)), (0, .ref h0)] := lv_sub hl [0, 1] rfl
        exact ih1 H locs ls (u98.2.2.1) (u98.2.2.2.2.1) (u98.2.2.2.2.2) (u98.2.1) (u98.2.2.2.1) (u98.1) (t82_6 + 1) hwp hP hD hS hl
  exact hs1 n1 H locs ls (u77.2.2.1) (u77.2.2.2.2.1) (u77.2.2.2.2.2) (u77.2.1) (u77.2.2.2.1) (u77.1) 3 hwp hP hD hS hl
def wLX0_countOver_24 (f6 : Nat → Int32) (t7_1 : Int32) (K : ((Nat → Int32)) → Prop) (B7_1 : (Nat → Int32) → Int32 → Prop) : Nat → (Nat → Int32) → Int32 → Int32 → Prop
  | 0, _, _, _ => False
  | n24 + 1, t24_0, t24_1, t24_2 => ((20 ≤ t24_2 → B7_1 t24_0 (t7_1 + 1)) ∧ (¬ 20 ≤ t24_2 → ((t24_1 < 0 → B7_1 t24_0 (t7_1 + 1)) ∧ (¬ t24_1 < 0 → (vp_in t24_1 20 ∧ (vp_in t24_1 20 ∧ (∀ g43 : Nat → Int32, g43 = upd t24_0 (Int32.toNatClampNeg t24_1) ((t24_0 (Int32.toNatClampNeg t24_1)) + 1) → (vp_in t24_1 20 ∧ (∀ v48 : Int32, v48 = (f6 (Int32.toNatClampNeg t24_1)) → (wLX0_countOver_24 f6 t7_1 K B7_1 n24) g43 v48 (t24_2 + 1))))))))))
def wLX0_countOver_7 (i5 : Int32) (f6 : Nat → Int32) (K : ((Nat → Int32)) → Prop)  : Nat → (Nat → Int32) → Int32 → Prop
  | 0, _, _ => False
  | n7 + 1, t7_0, t7_1 => ((i5 ≤ t7_1 → K t7_0) ∧ (¬ i5 ≤ t7_1 → (∃ n24, wLX0_countOver_24 f6 t7_1 K (fun z0 z1 => (wLX0_countOver_7 i5 f6 K  n7) z0 z1) n24 t7_0 t7_1 0)))
def wX0_countOver (f0 : Nat → Int32) (i1 : Int32) (i2 : Int32) (i3 : Int32) (i4 : Int32) (i5 : Int32) (f6 : Nat → Int32) (K : ((Nat → Int32)) → Prop) : Prop := (wJ7_fill_53178 f0 (0 : Int32) (fun u2 => (∃ n7, wLX0_countOver_7 i5 f6 K  n7 u2 0)))
set_option maxHeartbeats 4000000 in
set_option maxRecDepth 100000 in
theorem zX0_countOver (l : Launch) (G : va_G) (cI cJ cZ : ClassId) (h0 h1 h2 h3 k0 k1 k2 k3 k4 k5 k6 k7 k8 k9 sz : Nat) (f0 : Nat → Int32) (i1 : Int32) (i2 : Int32) (i3 : Int32) (i4 : Int32) (i5 : Int32) (f6 : Nat → Int32) (K : ((Nat → Int32)) → Prop) (hwp : wX0_countOver f0 i1 i2 i3 i4 i5 f6 K) : Met l yX0_countOver (xw yX0_countOver cX0_countOver 6 none) ({ frames := 1, cells := 0, slots := 0, locals := 23 }) (xPc G cI cJ cZ [.ref h1, .ref h3, .ref h0] [(h0, aI cI 20 f0), (h1, .inr (0, [.ref h2, .ref k0, .ref k1, .ref k2, .ref h3, .ref k3, .ref k4, .ref k5, .ref k6, .ref h0, .ref k7, .int i1, .int i2, .int i3, .int i4])), (h2, .inr (2, [.ref k8, .ref k9, .int i5])), (h3, aI cI 20 f6)] sz) (va_Qv (fun (u : (Nat → Int32)) => K u) (fun (u : (Nat → Int32)) t => xB G (va_A [(h0, aI cI 20 f0), (h1, .inr (0, [.ref h2, .ref k0, .ref k1, .ref k2, .ref h3, .ref k3, .ref k4, .ref k5, .ref k6, .ref h0, .ref k7, .int i1, .int i2, .int i3, .int i4])), (h2, .inr (2, [.ref k8, .ref k9, .int i5])), (h3, aI cI 20 f6)] sz) [(h0, aI cI 20 u), (h1, .inr (0, [.ref h2, .ref k0, .ref k1, .ref k2, .ref h3, .ref k3, .ref k4, .ref k5, .ref k6, .ref h0, .ref k7, .int i1, .int i2, .int i3, .int i4])), (h2, .inr (2, [.ref k8, .ref k9, .int i5])), (h3, aI cI 20 f6)] t) (va_A [(h0, aI cI 20 f0), (h1, .inr (0, [.ref h2, .ref k0, .ref k1, .ref k2, .ref h3, .ref k3, .ref k4, .ref k5, .ref k6, .ref h0, .ref k7, .int i1, .int i2, .int i3, .int i4])), (h2, .inr (2, [.ref k8, .ref k9, .int i5])), (h3, aI cI 20 f6)] sz)) 0 0 (va_A [(h0, aI cI 20 f0), (h1, .inr (0, [.ref h2, .ref k0, .ref k1, .ref k2, .ref h3, .ref k3, .ref k4, .ref k5, .ref k6, .ref h0, .ref k7, .int i1, .int i2, .int i3, .int i4])), (h2, .inr (2, [.ref k8, .ref k9, .int i5])), (h3, aI cI 20 f6)] sz) := by
  refine Met.ofW (cc := cX0_countOver) (maxL := 6) (ret := none) (by decide) rfl ?_
  intro p e s m args below meth c s₁ B hml hv
  obtain ⟨rfl, hsz, hP, hK, hD0, hN⟩ := hv
  have hx := B.exec
  have hb := B.bytes
  have hr := B.returns
  have hts : ∀ w ∈ xW, w.before _ s = true := fun w h => atoms_spec (ws := xw yX0_countOver cX0_countOver 6 none) B.pre w (List.mem_cons_of_mem _ h)
  have hown : s.vm.findClass RX0 = some m.cls := findClass_of_methodNamed B.named
  have hlocks := B.notSynchronized
  subst hsz
  have hD := hD0.self (sz := s.heap.size)
  clear hD0
  generalize hAe : va_A [(h0, aI cI 20 f0), (h1, .inr (0, [.ref h2, .ref k0, .ref k1, .ref k2, .ref h3, .ref k3, .ref k4, .ref k5, .ref k6, .ref h0, .ref k7, .int i1, .int i2, .int i3, .int i4])), (h2, .inr (2, [.ref k8, .ref k9, .int i5])), (h3, aI cI 20 f6)] s.heap.size = A at hD ⊢
  have hA : ∀ q : Nat, s.heap.size ≤ q → A q := fun q h => by rw [← hAe]; exact Or.inr h
  clear hAe
  have hS : va_S A s.heap s.heap [] := va_S.rf
  replace hP : va_P G vwCl [(h0, aI cI 20 f0), (h1, .inr (0, [.ref h2, .ref k0, .ref k1, .ref k2, .ref h3, .ref k3, .ref k4, .ref k5, .ref k6, .ref h0, .ref k7, .int i1, .int i2, .int i3, .int i4])), (h2, .inr (2, [.ref k8, .ref k9, .int i5])), (h3, aI cI 20 f6)] s.heap := hP
  have hl := lv_entry ([.ref h1, .ref h3, .ref h0]) (n := 6) (Nat.le_of_ble_eq_true rfl)
  rw [lg_entry_eq]
  generalize (lg_sl ([.ref h1, .ref h3, .ref h0]) ++ List.replicate (6 - (lg_sl ([.ref h1, .ref h3, .ref h0])).length) Slot.unset).toArray = ls at hl ⊢
  replace hl : lv_has ls 6 [(0, .ref h1), (1, .ref h3), (2, .ref h0)] := hl
  generalize hQQ : MQ below _ _ s 0 0 _ = QQ
  skip
  unfold wX0_countOver at hwp
  refine lv_aload_n hx hb dX0_countOver_0 rfl (lv_at hl 2 rfl) ?_
  refine lv_iconst (v := 0) hx hb dX0_countOver_1 (by decide) ?_
  refine xcv (wr := [(h1, .inr (0, [.ref h2, .ref k0, .ref k1, .ref k2, .ref h3, .ref k3, .ref k4, .ref k5, .ref k6, .ref h0, .ref k7, .int i1, .int i2, .int i3, .int i4])), (h2, .inr (2, [.ref k8, .ref k9, .int i5])), (h3, aI cI 20 f6)]) (va_runS (As := [.ref h0, .int 0]) (rest := []) ⟨hx, hb, hml, hown, hts⟩ (zJ7_fill_53178 l G cI cJ cZ h0 s.heap.size f0 (0 : Int32) _ hwp) (va_cwS 2 hts (xgoodS wo_4 wo_144 wo_6 wo_7) rfl rfl rfl (by decide +kernel) ⟨Nat.le_of_ble_eq_true rfl, Nat.le_of_ble_eq_true rfl⟩) (xPreS hK hN hP hD [0] (by decide) rfl) rfl rfl hl.1 rfl (lv_room (Nat.le_of_ble_eq_true rfl)) dX0_countOver_2 ⟨Nat.le_of_ble_eq_true rfl, Nat.le_of_ble_eq_true rfl⟩) hP hD hS hA [0] [1, 2, 3] rfl rfl (by decide) (by decide) (fun u2 H locs hwp hP hD hS => ?_)
  replace hP : va_P G vwCl [(h1, .inr (0, [.ref h2, .ref k0, .ref k1, .ref k2, .ref h3, .ref k3, .ref k4, .ref k5, .ref k6, .ref h0, .ref k7, .int i1, .int i2, .int i3, .int i4])), (h2, .inr (2, [.ref k8, .ref k9, .int i5])), (h3, aI cI 20 f6), (h0, aI cI 20 u2)] H := hP
  replace hD : va_D A [(h1, .inr (0, [.ref h2, .ref k0, .ref k1, .ref k2, .ref h3, .ref k3, .ref k4, .ref k5, .ref k6, .ref h0, .ref k7, .int i1, .int i2, .int i3, .int i4])), (h2, .inr (2, [.ref k8, .ref k9, .int i5])), (h3, aI cI 20 f6), (h0, aI cI 20 u2)] := hD
  refine lv_iconst (v := 0) hx hb dX0_countOver_5 (by decide) ?_
  refine lv_istore_n (lv' := [(3, .int 0), (0, .ref h1), (1, .ref h3), (2, .ref h0)]) hx hb dX0_countOver_6 rfl hl (by decide) rfl (fun ls hl => ?_)
  replace hl : lv_has ls 6 [(3, .int 0), (0, .ref h1), (1, .ref h3), (2, .ref h0)] := lv_sub hl [0, 1, 2, 3] rfl
  obtain ⟨n1, hwp⟩ := hwp
  have hs1 : ∀ (n1 : Nat) (H : Heap) (locs : List Loc) (ls : Array Slot) (t7_0 : Nat → Int32) (t7_1 : Int32), wLX0_countOver_7 i5 f6 K  n1 t7_0 t7_1 → va_P G vwCl [(h1, .inr (0, [.ref h2, .ref k0, .ref k1, .ref k2, .ref h3, .ref k3, .ref k4, .ref k5, .ref k6, .ref h0, .ref k7, .int i1, .int i2, .int i3, .int i4])), (h2, .inr (2, [.ref k8, .ref k9, .int i5])), (h3, aI cI 20 f6), (h0, aI cI 20 t7_0)] H → va_D A [(h1, .inr (0, [.ref h2, .ref k0, .ref k1, .ref k2, .ref h3, .ref k3, .ref k4, .ref k5, .ref k6, .ref h0, .ref k7, .int i1, .int i2, .int i3, .int i4])), (h2, .inr (2, [.ref k8, .ref k9, .int i5])), (h3, aI cI 20 f6), (h0, aI cI 20 t7_0)] → va_S A s.heap H locs → lv_has ls 6 [(3, .int t7_1), (0, .ref h1), (1, .ref h3), (2, .ref h0)] → W p l e ((headSpec (xw yX0_countOver cX0_countOver 6 none) { frames := 1, cells := 0, slots := 0, locals := 23 }).room) s m ([.ref h1, .ref h3, .ref h0] : List Value).toArray below meth c H locs 0 0 QQ (F0 m 7 ls []) := by
    intro n1
    induction n1 with
    | zero => intro H locs ls t7_0 t7_1 hwp; exact False.elim hwp
    | succ n1 ih1 =>
      intro H locs ls t7_0 t7_1 hwp hP hD hS hl
      rw [wLX0_countOver_7] at hwp
      refine lv_iload_n hx hb dX0_countOver_7 rfl (lv_at hl 0 rfl) ?_
      refine lv_aload_n hx hb dX0_countOver_8 rfl (lv_at hl 1 rfl) ?_
      refine va_get (D := G) (ci := 0) (v := .ref h2) (C := RX0) (T := TX0) (N := 15) hx hb hts xinX0 hown hK hP 0 rfl rfl 0 (by decide) (hts _ wo_127) (fun _ h9 => h9) rfl dX0_countOver_9 ?_
      refine va_getN (D := G) (ci := 2) (v := .int i5) (C := RX2) (T := TX2) (N := 3) hx hb hts xinX2 hown hK hP 1 rfl rfl 2 (by decide) (va_Nw.use rfl (hN.1 ("PlaneTests$Drawing", 53, "PlaneTests$Filled", "nodes", "I", "PlaneTests") (by decide +kernel))) (fun _ h9 => h9) rfl dX0_countOver_12 ?_
      refine lv_icmp_ge (tgt := 62) hx hb dX0_countOver_15 (by decide) (fun c15 => ?_) (fun c15 => ?_)
      · replace hwp := hwp.1 c15
        have hP9 : va_P G vwCl [(h0, aI cI 20 t7_0), (h1, .inr (0, [.ref h2, .ref k0, .ref k1, .ref k2, .ref h3, .ref k3, .ref k4, .ref k5, .ref k6, .ref h0, .ref k7, .int i1, .int i2, .int i3, .int i4])), (h2, .inr (2, [.ref k8, .ref k9, .int i5])), (h3, aI cI 20 f6)] H := hP.sub [3, 0, 1, 2] rfl
        have hD9 : va_D A [(h0, aI cI 20 t7_0), (h1, .inr (0, [.ref h2, .ref k0, .ref k1, .ref k2, .ref h3, .ref k3, .ref k4, .ref k5, .ref k6, .ref h0, .ref k7, .int i1, .int i2, .int i3, .int i4])), (h2, .inr (2, [.ref k8, .ref k9, .int i5])), (h3, aI cI 20 f6)] := hD.sub [3, 0, 1, 2] (by decide) rfl
        rw [← hQQ]
        exact W.vret hx hb hr (fun t ht hW => ⟨⟨t7_0, rfl, hwp, by rw [ht]; exact hP9, hD9⟩, hS.F ht⟩) hS.2.2 dX0_countOver_62
      · replace hwp := hwp.2 c15
        refine lv_iload_n hx hb dX0_countOver_18 rfl (lv_at hl 0 rfl) ?_
        refine lv_istore (lv' := [(4, .int t7_1), (3, .int t7_1), (0, .ref h1), (1, .ref h3), (2, .ref h0)]) hx hb dX0_countOver_19 hl (by decide) rfl (fun ls hl => ?_)
        refine lv_iconst (v := 0) hx hb dX0_countOver_21 (by decide) ?_
        refine lv_istore (lv' := [(5, .int 0), (4, .int t7_1), (3, .int t7_1), (0, .ref h1), (1, .ref h3), (2, .ref h0)]) hx hb dX0_countOver_22 hl (by decide) rfl (fun ls hl => ?_)
        replace hl : lv_has ls 6 [(5, .int 0), (4, .int t7_1), (3, .int t7_1), (0, .ref h1), (1, .ref h3), (2, .ref h0)] := lv_sub hl [0, 1, 2, 3, 4, 5] rfl
        obtain ⟨n2, hwp⟩ := hwp
        have hs2 : ∀ (n2 : Nat) (H : Heap) (locs : List Loc) (ls : Array Slot) (t24_0 : Nat → Int32) (t24_1 : Int32) (t24_2 : Int32), wLX0_countOver_24 f6 t7_1 K (fun z0 z1 => wLX0_countOver_7 i5 f6 K  n1 z0 z1) n2 t24_0 t24_1 t24_2 → va_P G vwCl [(h1, .inr (0, [.ref h2, .ref k0, .ref k1, .ref k2, .ref h3, .ref k3, .ref k4, .ref k5, .ref k6, .ref h0, .ref k7, .int i1, .int i2, .int i3, .int i4])), (h2, .inr (2, [.ref k8, .ref k9, .int i5])), (h3, aI cI 20 f6), (h0, aI cI 20 t24_0)] H → va_D A [(h1, .inr (0, [.ref h2, .ref k0, .ref k1, .ref k2, .ref h3, .ref k3, .ref k4, .ref k5, .ref k6, .ref h0, .ref k7, .int i1, .int i2, .int i3, .int i4])), (h2, .inr (2, [.ref k8, .ref k9, .int i5])), (h3, aI cI 20 f6), (h0, aI cI 20 t24_0)] → va_S A s.heap H locs → lv_has ls 6 [(5, .int t24_2), (4, .int t24_1), (3, .int t7_1), (0, .ref h1), (1, .ref h3), (2, .ref h0)] → W p l e ((headSpec (xw yX0_countOver cX0_countOver 6 none) { frames := 1, cells := 0, slots := 0, locals := 23 }).room) s m ([.ref h1, .ref h3, .ref h0] : List Value).toArray below meth c H locs 0 0 QQ (F0 m 24 ls []) := by
          intro n2
          induction n2 with
          | zero => intro H locs ls t24_0 t24_1 t24_2 hwp; exact False.elim hwp
          | succ n2 ih2 =>
            intro H locs ls t24_0 t24_1 t24_2 hwp hP hD hS hl
            rw [wLX0_countOver_24] at hwp
            refine lv_iload hx hb dX0_countOver_24 (lv_at hl 0 rfl) ?_
            refine lv_bipush (v := 20) hx hb dX0_countOver_26 (by decide) ?_
            refine lv_icmp_ge (tgt := 56) hx hb dX0_countOver_28 (by decide) (fun c28 => ?_) (fun c28 => ?_)
            · replace hwp := hwp.1 c28
              refine lv_iinc (v := (t7_1 + 1)) (lv' := [(3, .int (t7_1 + 1)), (5, .int t24_2), (4, .int t24_1), (0, .ref h1), (1, .ref h3), (2, .ref h0)]) hx hb dX0_countOver_56 hl (k := 2) rfl rfl (by decide) rfl (fun ls hl => ?_)
              refine lv_goto (tgt := 7) hx hb dX0_countOver_59 (by decide) ?_
              replace hl : lv_has ls 6 [(3, .int (t7_1 + 1)), (0, .ref h1), (1, .ref h3), (2, .ref h0)] := lv_sub hl [0, 3, 4, 5] rfl
              exact ih1 H locs ls t24_0 (t7_1 + 1) hwp hP hD hS hl
            · replace hwp := hwp.2 c28
              refine lv_iload hx hb dX0_countOver_31 (lv_at hl 1 rfl) ?_
              refine lv_if_lt (tgt := 56) hx hb dX0_countOver_33 (by decide) (fun c33 => ?_) (fun c33 => ?_)
              · replace hwp := hwp.1 c33
                refine lv_iinc (v := (t7_1 + 1)) (lv' := [(3, .int (t7_1 + 1)), (5, .int t24_2), (4, .int t24_1), (0, .ref h1), (1, .ref h3), (2, .ref h0)]) hx hb dX0_countOver_56 hl (k := 2) rfl rfl (by decide) rfl (fun ls hl => ?_)
                refine lv_goto (tgt := 7) hx hb dX0_countOver_59 (by decide) ?_
                replace hl : lv_has ls 6 [(3, .int (t7_1 + 1)), (0, .ref h1), (1, .ref h3), (2, .ref h0)] := lv_sub hl [0, 3, 4, 5] rfl
                exact ih1 H locs ls t24_0 (t7_1 + 1) hwp hP hD hS hl
              · replace hwp := hwp.2 c33
                refine lv_aload_n hx hb dX0_countOver_36 rfl (lv_at hl 5 rfl) ?_
                refine lv_iload hx hb dX0_countOver_37 (lv_at hl 1 rfl) ?_
                refine lv_dup2_11 hx hb dX0_countOver_39 rfl rfl ?_
                obtain ⟨hi, hwp⟩ := hwp
                refine va_iald hx hb hK hP 3 0 rfl rfl hi dX0_countOver_40 ?_
                refine lv_iconst (v := 1) hx hb dX0_countOver_41 (by decide) ?_
                refine lv_iadd hx hb dX0_countOver_42 ?_
                obtain ⟨hi, hwp⟩ := hwp
                refine va_iast hx hb hK hP hD hS 3 0 rfl rfl hi dX0_countOver_43 (fun H locs hP hD hS => ?_)
                obtain ⟨g43, eg43⟩ : ∃ z, z = upd t24_0 (Int32.toNatClampNeg t24_1) ((t24_0 (Int32.toNatClampNeg t24_1)) + 1) := ⟨_, rfl⟩
                replace hwp := hwp g43 eg43
                replace hP : va_P G vwCl [(h1, .inr (0, [.ref h2, .ref k0, .ref k1, .ref k2, .ref h3, .ref k3, .ref k4, .ref k5, .ref k6, .ref h0, .ref k7, .int i1, .int i2, .int i3, .int i4])), (h2, .inr (2, [.ref k8, .ref k9, .int i5])), (h3, aI cI 20 f6), (h0, aI cI 20 g43)] H := by rw [eg43]; exact hP
                replace hD : va_D A [(h1, .inr (0, [.ref h2, .ref k0, .ref k1, .ref k2, .ref h3, .ref k3, .ref k4, .ref k5, .ref k6, .ref h0, .ref k7, .int i1, .int i2, .int i3, .int i4])), (h2, .inr (2, [.ref k8, .ref k9, .int i5])), (h3, aI cI 20 f6), (h0, aI cI 20 g43)] := by rw [eg43]; exact hD
                clear eg43
                refine lv_aload_n hx hb dX0_countOver_44 rfl (lv_at hl 4 rfl) ?_
                refine lv_iload hx hb dX0_countOver_45 (lv_at hl 1 rfl) ?_
                obtain ⟨hi, hwp⟩ := hwp
                refine va_iald hx hb hK hP 2 0 rfl rfl hi dX0_countOver_47 ?_
                refine lv_topi (fun v48 ev48 => ?_)
                replace hwp := hwp v48 ev48
                clear ev48
                refine lv_istore (lv' := [(4, .int v48), (5, .int t24_2), (3, .int t7_1), (0, .ref h1), (1, .ref h3), (2, .ref h0)]) hx hb dX0_countOver_48 hl (by decide) rfl (fun ls hl => ?_)
                refine lv_iinc (v := (t24_2 + 1)) (lv' := [(5, .int (t24_2 + 1)), (4, .int v48), (3, .int t7_1), (0, .ref h1), (1, .ref h3), (2, .ref h0)]) hx hb dX0_countOver_50 hl (k := 1) rfl rfl (by decide) rfl (fun ls hl => ?_)
                refine lv_goto (tgt := 24) hx hb dX0_countOver_53 (by decide) ?_
                replace hl : lv_has ls 6 [(5, .int (t24_2 + 1)), (4, .int v48), (3, .int t7_1), (0, .ref h1), (1, .ref h3), (2, .ref h0)] := lv_sub hl [0, 1, 2, 3, 4, 5] rfl
                exact ih2 H locs ls g43 v48 (t24_2 + 1) hwp hP hD hS hl
        exact hs2 n2 H locs ls t7_0 t7_1 0 hwp hP hD hS hl
  exact hs1 n1 H locs ls u2 0 hwp hP hD hS hl

def wLX0_countOver_1_24 (f6 : Nat → Int32) (t7_1 : Int32) (K : ((Nat → Int32)) → Prop) (B7_1 : (Nat → Int32) → Int32 → Prop) : Nat → (Nat → Int32) → Int32 → Int32 → Prop
  | 0, _, _, _ => False
  | n24 + 1, t24_0, t24_1, t24_2 => ((20 ≤ t24_2 → B7_1 t24_0 (t7_1 + 1)) ∧ (¬ 20 ≤ t24_2 → ((t24_1 < 0 → B7_1 t24_0 (t7_1 + 1)) ∧ (¬ t24_1 < 0 → (vp_in t24_1 20 ∧ (vp_in t24_1 20 ∧ (∀ g43 : Nat → Int32, g43 = upd t24_0 (Int32.toNatClampNeg t24_1) ((t24_0 (Int32.toNatClampNeg t24_1)) + 1) → (vp_in t24_1 20 ∧ (∀ v48 : Int32, v48 = (f6 (Int32.toNatClampNeg t24_1)) → (wLX0_countOver_1_24 f6 t7_1 K B7_1 n24) g43 v48 (t24_2 + 1))))))))))
def wLX0_countOver_1_7 (i5 : Int32) (f6 : Nat → Int32) (K : ((Nat → Int32)) → Prop)  : Nat → (Nat → Int32) → Int32 → Prop
  | 0, _, _ => False
  | n7 + 1, t7_0, t7_1 => ((i5 ≤ t7_1 → K t7_0) ∧ (¬ i5 ≤ t7_1 → (∃ n24, wLX0_countOver_1_24 f6 t7_1 K (fun z0 z1 => (wLX0_countOver_1_7 i5 f6 K  n7) z0 z1) n24 t7_0 t7_1 0)))
def wX0_countOver_1 (f0 : Nat → Int32) (i1 : Int32) (i2 : Int32) (i3 : Int32) (i4 : Int32) (i5 : Int32) (f6 : Nat → Int32) (K : ((Nat → Int32)) → Prop) : Prop := (wJ7_fill_53178 f0 (0 : Int32) (fun u2 => (∃ n7, wLX0_countOver_1_7 i5 f6 K  n7 u2 0)))
set_option maxHeartbeats 4000000 in
set_option maxRecDepth 100000 in
theorem zX0_countOver_1 (l : Launch) (G : va_G) (cI cJ cZ : ClassId) (h0 h1 h2 h3 k0 k1 k2 k3 k4 k5 k6 k7 k8 k9 sz : Nat) (f0 : Nat → Int32) (i1 : Int32) (i2 : Int32) (i3 : Int32) (i4 : Int32) (i5 : Int32) (f6 : Nat → Int32) (K : ((Nat → Int32)) → Prop) (hwp : wX0_countOver_1 f0 i1 i2 i3 i4 i5 f6 K) : Met l yX0_countOver (xw yX0_countOver cX0_countOver 6 none) ({ frames := 1, cells := 0, slots := 0, locals := 23 }) (xPc G cI cJ cZ [.ref h1, .ref h3, .ref h0] [(h0, aI cI 20 f0), (h1, .inr (0, [.ref h2, .ref k0, .ref k1, .ref k2, .ref k3, .ref h3, .ref k4, .ref k5, .ref k6, .ref k7, .ref h0, .int i1, .int i2, .int i3, .int i4])), (h2, .inr (2, [.ref k8, .ref k9, .int i5])), (h3, aI cI 20 f6)] sz) (va_Qv (fun (u : (Nat → Int32)) => K u) (fun (u : (Nat → Int32)) t => xB G (va_A [(h0, aI cI 20 f0), (h1, .inr (0, [.ref h2, .ref k0, .ref k1, .ref k2, .ref k3, .ref h3, .ref k4, .ref k5, .ref k6, .ref k7, .ref h0, .int i1, .int i2, .int i3, .int i4])), (h2, .inr (2, [.ref k8, .ref k9, .int i5])), (h3, aI cI 20 f6)] sz) [(h0, aI cI 20 u), (h1, .inr (0, [.ref h2, .ref k0, .ref k1, .ref k2, .ref k3, .ref h3, .ref k4, .ref k5, .ref k6, .ref k7, .ref h0, .int i1, .int i2, .int i3, .int i4])), (h2, .inr (2, [.ref k8, .ref k9, .int i5])), (h3, aI cI 20 f6)] t) (va_A [(h0, aI cI 20 f0), (h1, .inr (0, [.ref h2, .ref k0, .ref k1, .ref k2, .ref k3, .ref h3, .ref k4, .ref k5, .ref k6, .ref k7, .ref h0, .int i1, .int i2, .int i3, .int i4])), (h2, .inr (2, [.ref k8, .ref k9, .int i5])), (h3, aI cI 20 f6)] sz)) 0 0 (va_A [(h0, aI cI 20 f0), (h1, .inr (0, [.ref h2, .ref k0, .ref k1, .ref k2, .ref k3, .ref h3, .ref k4, .ref k5, .ref k6, .ref k7, .ref h0, .int i1, .int i2, .int i3, .int i4])), (h2, .inr (2, [.ref k8, .ref k9, .int i5])), (h3, aI cI 20 f6)] sz) := by
  refine Met.ofW (cc := cX0_countOver) (maxL := 6) (ret := none) (by decide) rfl ?_
  intro p e s m args below meth c s₁ B hml hv
  obtain ⟨rfl, hsz, hP, hK, hD0, hN⟩ := hv
  have hx := B.exec
  have hb := B.bytes
  have hr := B.returns
  have hts : ∀ w ∈ xW, w.before _ s = true := fun w h => atoms_spec (ws := xw yX0_countOver cX0_countOver 6 none) B.pre w (List.mem_cons_of_mem _ h)
  have hown : s.vm.findClass RX0 = some m.cls := findClass_of_methodNamed B.named
  have hlocks := B.notSynchronized
  subst hsz
  have hD := hD0.self (sz := s.heap.size)
  clear hD0
  generalize hAe : va_A [(h0, aI cI 20 f0), (h1, .inr (0, [.ref h2, .ref k0, .ref k1, .ref k2, .ref k3, .ref h3, .ref k4, .ref k5, .ref k6, .ref k7, .ref h0, .int i1, .int i2, .int i3, .int i4])), (h2, .inr (2, [.ref k8, .ref k9, .int i5])), (h3, aI cI 20 f6)] s.heap.size = A at hD ⊢
  have hA : ∀ q : Nat, s.heap.size ≤ q → A q := fun q h => by rw [← hAe]; exact Or.inr h
  clear hAe
  have hS : va_S A s.heap s.heap [] := va_S.rf
  replace hP : va_P G vwCl [(h0, aI cI 20 f0), (h1, .inr (0, [.ref h2, .ref k0, .ref k1, .ref k2, .ref k3, .ref h3, .ref k4, .ref k5, .ref k6, .ref k7, .ref h0, .int i1, .int i2, .int i3, .int i4])), (h2, .inr (2, [.ref k8, .ref k9, .int i5])), (h3, aI cI 20 f6)] s.heap := hP
  have hl := lv_entry ([.ref h1, .ref h3, .ref h0]) (n := 6) (Nat.le_of_ble_eq_true rfl)
  rw [lg_entry_eq]
  generalize (lg_sl ([.ref h1, .ref h3, .ref h0]) ++ List.replicate (6 - (lg_sl ([.ref h1, .ref h3, .ref h0])).length) Slot.unset).toArray = ls at hl ⊢
  replace hl : lv_has ls 6 [(0, .ref h1), (1, .ref h3), (2, .ref h0)] := hl
  generalize hQQ : MQ below _ _ s 0 0 _ = QQ
  skip
  unfold wX0_countOver_1 at hwp
  refine lv_aload_n hx hb dX0_countOver_0 rfl (lv_at hl 2 rfl) ?_
  refine lv_iconst (v := 0) hx hb dX0_countOver_1 (by decide) ?_
  refine xcv (wr := [(h1, .inr (0, [.ref h2, .ref k0, .ref k1, .ref k2, .ref k3, .ref h3, .ref k4, .ref k5, .ref k6, .ref k7, .ref h0, .int i1, .int i2, .int i3, .int i4])), (h2, .inr (2, [.ref k8, .ref k9, .int i5])), (h3, aI cI 20 f6)]) (va_runS (As := [.ref h0, .int 0]) (rest := []) ⟨hx, hb, hml, hown, hts⟩ (zJ7_fill_53178 l G cI cJ cZ h0 s.heap.size f0 (0 : Int32) _ hwp) (va_cwS 2 hts (xgoodS wo_4 wo_144 wo_6 wo_7) rfl rfl rfl (by decide +kernel) ⟨Nat.le_of_ble_eq_true rfl, Nat.le_of_ble_eq_true rfl⟩) (xPreS hK hN hP hD [0] (by decide) rfl) rfl rfl hl.1 rfl (lv_room (Nat.le_of_ble_eq_true rfl)) dX0_countOver_2 ⟨Nat.le_of_ble_eq_true rfl, Nat.le_of_ble_eq_true rfl⟩) hP hD hS hA [0] [1, 2, 3] rfl rfl (by decide) (by decide) (fun u2 H locs hwp hP hD hS => ?_)
  replace hP : va_P G vwCl [(h1, .inr (0, [.ref h2, .ref k0, .ref k1, .ref k2, .ref k3, .ref h3, .ref k4, .ref k5, .ref k6, .ref k7, .ref h0, .int i1, .int i2, .int i3, .int i4])), (h2, .inr (2, [.ref k8, .ref k9, .int i5])), (h3, aI cI 20 f6), (h0, aI cI 20 u2)] H := hP
  replace hD : va_D A [(h1, .inr (0, [.ref h2, .ref k0, .ref k1, .ref k2, .ref k3, .ref h3, .ref k4, .ref k5, .ref k6, .ref k7, .ref h0, .int i1, .int i2, .int i3, .int i4])), (h2, .inr (2, [.ref k8, .ref k9, .int i5])), (h3, aI cI 20 f6), (h0, aI cI 20 u2)] := hD
  refine lv_iconst (v := 0) hx hb dX0_countOver_5 (by decide) ?_
  refine lv_istore_n (lv' := [(3, .int 0), (0, .ref h1), (1, .ref h3), (2, .ref h0)]) hx hb dX0_countOver_6 rfl hl (by decide) rfl (fun ls hl => ?_)
  replace hl : lv_has ls 6 [(3, .int 0), (0, .ref h1), (1, .ref h3), (2, .ref h0)] := lv_sub hl [0, 1, 2, 3] rfl
  obtain ⟨n1, hwp⟩ := hwp
  have hs1 : ∀ (n1 : Nat) (H : Heap) (locs : List Loc) (ls : Array Slot) (t7_0 : Nat → Int32) (t7_1 : Int32), wLX0_countOver_1_7 i5 f6 K  n1 t7_0 t7_1 → va_P G vwCl [(h1, .inr (0, [.ref h2, .ref k0, .ref k1, .ref k2, .ref k3, .ref h3, .ref k4, .ref k5, .ref k6, .ref k7, .ref h0, .int i1, .int i2, .int i3, .int i4])), (h2, .inr (2, [.ref k8, .ref k9, .int i5])), (h3, aI cI 20 f6), (h0, aI cI 20 t7_0)] H → va_D A [(h1, .inr (0, [.ref h2, .ref k0, .ref k1, .ref k2, .ref k3, .ref h3, .ref k4, .ref k5, .ref k6, .ref k7, .ref h0, .int i1, .int i2, .int i3, .int i4])), (h2, .inr (2, [.ref k8, .ref k9, .int i5])), (h3, aI cI 20 f6), (h0, aI cI 20 t7_0)] → va_S A s.heap H locs → lv_has ls 6 [(3, .int t7_1), (0, .ref h1), (1, .ref h3), (2, .ref h0)] → W p l e ((headSpec (xw yX0_countOver cX0_countOver 6 none) { frames := 1, cells := 0, slots := 0, locals := 23 }).room) s m ([.ref h1, .ref h3, .ref h0] : List Value).toArray below meth c H locs 0 0 QQ (F0 m 7 ls []) := by
    intro n1
    induction n1 with
    | zero => intro H locs ls t7_0 t7_1 hwp; exact False.elim hwp
    | succ n1 ih1 =>
      intro H locs ls t7_0 t7_1 hwp hP hD hS hl
      rw [wLX0_countOver_1_7] at hwp
      refine lv_iload_n hx hb dX0_countOver_7 rfl (lv_at hl 0 rfl) ?_
      refine lv_aload_n hx hb dX0_countOver_8 rfl (lv_at hl 1 rfl) ?_
      refine va_get (D := G) (ci := 0) (v := .ref h2) (C := RX0) (T := TX0) (N := 15) hx hb hts xinX0 hown hK hP 0 rfl rfl 0 (by decide) (hts _ wo_127) (fun _ h9 => h9) rfl dX0_countOver_9 ?_
      refine va_getN (D := G) (ci := 2) (v := .int i5) (C := RX2) (T := TX2) (N := 3) hx hb hts xinX2 hown hK hP 1 rfl rfl 2 (by decide) (va_Nw.use rfl (hN.1 ("PlaneTests$Drawing", 53, "PlaneTests$Filled", "nodes", "I", "PlaneTests") (by decide +kernel))) (fun _ h9 => h9) rfl dX0_countOver_12 ?_
      refine lv_icmp_ge (tgt := 62) hx hb dX0_countOver_15 (by decide) (fun c15 => ?_) (fun c15 => ?_)
      · replace hwp := hwp.1 c15
        have hP9 : va_P G vwCl [(h0, aI cI 20 t7_0), (h1, .inr (0, [.ref h2, .ref k0, .ref k1, .ref k2, .ref k3, .ref h3, .ref k4, .ref k5, .ref k6, .ref k7, .ref h0, .int i1, .int i2, .int i3, .int i4])), (h2, .inr (2, [.ref k8, .ref k9, .int i5])), (h3, aI cI 20 f6)] H := hP.sub [3, 0, 1, 2] rfl
        have hD9 : va_D A [(h0, aI cI 20 t7_0), (h1, .inr (0, [.ref h2, .ref k0, .ref k1, .ref k2, .ref k3, .ref h3, .ref k4, .ref k5, .ref k6, .ref k7, .ref h0, .int i1, .int i2, .int i3, .int i4])), (h2, .inr (2, [.ref k8, .ref k9, .int i5])), (h3, aI cI 20 f6)] := hD.sub [3, 0, 1, 2] (by decide) rfl
        rw [← hQQ]
        exact W.vret hx hb hr (fun t ht hW => ⟨⟨t7_0, rfl, hwp, by rw [ht]; exact hP9, hD9⟩, hS.F ht⟩) hS.2.2 dX0_countOver_62
      · replace hwp := hwp.2 c15
        refine lv_iload_n hx hb dX0_countOver_18 rfl (lv_at hl 0 rfl) ?_
        refine lv_istore (lv' := [(4, .int t7_1), (3, .int t7_1), (0, .ref h1), (1, .ref h3), (2, .ref h0)]) hx hb dX0_countOver_19 hl (by decide) rfl (fun ls hl => ?_)
        refine lv_iconst (v := 0) hx hb dX0_countOver_21 (by decide) ?_
        refine lv_istore (lv' := [(5, .int 0), (4, .int t7_1), (3, .int t7_1), (0, .ref h1), (1, .ref h3), (2, .ref h0)]) hx hb dX0_countOver_22 hl (by decide) rfl (fun ls hl => ?_)
        replace hl : lv_has ls 6 [(5, .int 0), (4, .int t7_1), (3, .int t7_1), (0, .ref h1), (1, .ref h3), (2, .ref h0)] := lv_sub hl [0, 1, 2, 3, 4, 5] rfl
        obtain ⟨n2, hwp⟩ := hwp
        have hs2 : ∀ (n2 : Nat) (H : Heap) (locs : List Loc) (ls : Array Slot) (t24_0 : Nat → Int32) (t24_1 : Int32) (t24_2 : Int32), wLX0_countOver_1_24 f6 t7_1 K (fun z0 z1 => wLX0_countOver_1_7 i5 f6 K  n1 z0 z1) n2 t24_0 t24_1 t24_2 → va_P G vwCl [(h1, .inr (0, [.ref h2, .ref k0, .ref k1, .ref k2, .ref k3, .ref h3, .ref k4, .ref k5, .ref k6, .ref k7, .ref h0, .int i1, .int i2, .int i3, .int i4])), (h2, .inr (2, [.ref k8, .ref k9, .int i5])), (h3, aI cI 20 f6), (h0, aI cI 20 t24_0)] H → va_D A [(h1, .inr (0, [.ref h2, .ref k0, .ref k1, .ref k2, .ref k3, .ref h3, .ref k4, .ref k5, .ref k6, .ref k7, .ref h0, .int i1, .int i2, .int i3, .int i4])), (h2, .inr (2, [.ref k8, .ref k9, .int i5])), (h3, aI cI 20 f6), (h0, aI cI 20 t24_0)] → va_S A s.heap H locs → lv_has ls 6 [(5, .int t24_2), (4, .int t24_1), (3, .int t7_1), (0, .ref h1), (1, .ref h3), (2, .ref h0)] → W p l e ((headSpec (xw yX0_countOver cX0_countOver 6 none) { frames := 1, cells := 0, slots := 0, locals := 23 }).room) s m ([.ref h1, .ref h3, .ref h0] : List Value).toArray below meth c H locs 0 0 QQ (F0 m 24 ls []) := by
          intro n2
          induction n2 with
          | zero => intro H locs ls t24_0 t24_1 t24_2 hwp; exact False.elim hwp
          | succ n2 ih2 =>
            intro H locs ls t24_0 t24_1 t24_2 hwp hP hD hS hl
            rw [wLX0_countOver_1_24] at hwp
            refine lv_iload hx hb dX0_countOver_24 (lv_at hl 0 rfl) ?_
            refine lv_bipush (v := 20) hx hb dX0_countOver_26 (by decide) ?_
            refine lv_icmp_ge (tgt := 56) hx hb dX0_countOver_28 (by decide) (fun c28 => ?_) (fun c28 => ?_)
            · replace hwp := hwp.1 c28
              refine lv_iinc (v := (t7_1 + 1)) (lv' := [(3, .int (t7_1 + 1)), (5, .int t24_2), (4, .int t24_1), (0, .ref h1), (1, .ref h3), (2, .ref h0)]) hx hb dX0_countOver_56 hl (k := 2) rfl rfl (by decide) rfl (fun ls hl => ?_)
              refine lv_goto (tgt := 7) hx hb dX0_countOver_59 (by decide) ?_
              replace hl : lv_has ls 6 [(3, .int (t7_1 + 1)), (0, .ref h1), (1, .ref h3), (2, .ref h0)] := lv_sub hl [0, 3, 4, 5] rfl
              exact ih1 H locs ls t24_0 (t7_1 + 1) hwp hP hD hS hl
            · replace hwp := hwp.2 c28
              refine lv_iload hx hb dX0_countOver_31 (lv_at hl 1 rfl) ?_
              refine lv_if_lt (tgt := 56) hx hb dX0_countOver_33 (by decide) (fun c33 => ?_) (fun c33 => ?_)
              · replace hwp := hwp.1 c33
                refine lv_iinc (v := (t7_1 + 1)) (lv' := [(3, .int (t7_1 + 1)), (5, .int t24_2), (4, .int t24_1), (0, .ref h1), (1, .ref h3), (2, .ref h0)]) hx hb dX0_countOver_56 hl (k := 2) rfl rfl (by decide) rfl (fun ls hl => ?_)
                refine lv_goto (tgt := 7) hx hb dX0_countOver_59 (by decide) ?_
                replace hl : lv_has ls 6 [(3, .int (t7_1 + 1)), (0, .ref h1), (1, .ref h3), (2, .ref h0)] := lv_sub hl [0, 3, 4, 5] rfl
                exact ih1 H locs ls t24_0 (t7_1 + 1) hwp hP hD hS hl
              · replace hwp := hwp.2 c33
                refine lv_aload_n hx hb dX0_countOver_36 rfl (lv_at hl 5 rfl) ?_
                refine lv_iload hx hb dX0_countOver_37 (lv_at hl 1 rfl) ?_
                refine lv_dup2_11 hx hb dX0_countOver_39 rfl rfl ?_
                obtain ⟨hi, hwp⟩ := hwp
                refine va_iald hx hb hK hP 3 0 rfl rfl hi dX0_countOver_40 ?_
                refine lv_iconst (v := 1) hx hb dX0_countOver_41 (by decide) ?_
                refine lv_iadd hx hb dX0_countOver_42 ?_
                obtain ⟨hi, hwp⟩ := hwp
                refine va_iast hx hb hK hP hD hS 3 0 rfl rfl hi dX0_countOver_43 (fun H locs hP hD hS => ?_)
                obtain ⟨g43, eg43⟩ : ∃ z, z = upd t24_0 (Int32.toNatClampNeg t24_1) ((t24_0 (Int32.toNatClampNeg t24_1)) + 1) := ⟨_, rfl⟩
                replace hwp := hwp g43 eg43
                replace hP : va_P G vwCl [(h1, .inr (0, [.ref h2, .ref k0, .ref k1, .ref k2, .ref k3, .ref h3, .ref k4, .ref k5, .ref k6, .ref k7, .ref h0, .int i1, .int i2, .int i3, .int i4])), (h2, .inr (2, [.ref k8, .ref k9, .int i5])), (h3, aI cI 20 f6), (h0, aI cI 20 g43)] H := by rw [eg43]; exact hP
                replace hD : va_D A [(h1, .inr (0, [.ref h2, .ref k0, .ref k1, .ref k2, .ref k3, .ref h3, .ref k4, .ref k5, .ref k6, .ref k7, .ref h0, .int i1, .int i2, .int i3, .int i4])), (h2, .inr (2, [.ref k8, .ref k9, .int i5])), (h3, aI cI 20 f6), (h0, aI cI 20 g43)] := by rw [eg43]; exact hD
                clear eg43
                refine lv_aload_n hx hb dX0_countOver_44 rfl (lv_at hl 4 rfl) ?_
                refine lv_iload hx hb dX0_countOver_45 (lv_at hl 1 rfl) ?_
                obtain ⟨hi, hwp⟩ := hwp
                refine va_iald hx hb hK hP 2 0 rfl rfl hi dX0_countOver_47 ?_
                refine lv_topi (fun v48 ev48 => ?_)
                replace hwp := hwp v48 ev48
                clear ev48
                refine lv_istore (lv' := [(4, .int v48), (5, .int t24_2), (3, .int t7_1), (0, .ref h1), (1, .ref h3), (2, .ref h0)]) hx hb dX0_countOver_48 hl (by decide) rfl (fun ls hl => ?_)
                refine lv_iinc (v := (t24_2 + 1)) (lv' := [(5, .int (t24_2 + 1)), (4, .int v48), (3, .int t7_1), (0, .ref h1), (1, .ref h3), (2, .ref h0)]) hx hb dX0_countOver_50 hl (k := 1) rfl rfl (by decide) rfl (fun ls hl => ?_)
                refine lv_goto (tgt := 24) hx hb dX0_countOver_53 (by decide) ?_
                replace hl : lv_has ls 6 [(5, .int (t24_2 + 1)), (4, .int v48), (3, .int t7_1), (0, .ref h1), (1, .ref h3), (2, .ref h0)] := lv_sub hl [0, 1, 2, 3, 4, 5] rfl
                exact ih2 H locs ls g43 v48 (t24_2 + 1) hwp hP hD hS hl
        exact hs2 n2 H locs ls t7_0 t7_1 0 hwp hP hD hS hl
  exact hs1 n1 H locs ls u2 0 hwp hP hD hS hl
def wLX0_facesBetween_57 (f0 : Nat → Int32) (f5 : Nat → Int32) (K : Int32 → Unit → Prop)  : Nat → Int32 → Int32 → Int32 → Int32 → Prop
  | 0, _, _, _, _ => False
  | n57 + 1, t57_0, t57_1, t57_2, t57_3 => ((20 ≤ t57_3 → K ((((2 : Int32) * t57_0) - t57_1) - 2) ()) ∧ (¬ 20 ≤ t57_3 → ((t57_2 < 0 → K ((((2 : Int32) * t57_0) - t57_1) - 2) ()) ∧ (¬ t57_2 < 0 → (vp_in t57_2 20 ∧ (∀ v76 : Int32, v76 = (t57_0 + (f0 (Int32.toNatClampNeg t57_2))) → (vp_in t57_2 20 ∧ (∀ v88 : Int32, v88 = (f5 (Int32.toNatClampNeg t57_2)) → (wLX0_facesBetween_57 f0 f5 K  n57) v76 (t57_1 + 1) v88 (t57_3 + 1)))))))))
def wLX0_facesBetween_57_1 (f0 : Nat → Int32) (f5 : Nat → Int32) (K : Int32 → Unit → Prop)  : Nat → Int32 → Int32 → Int32 → Int32 → Prop
  | 0, _, _, _, _ => False
  | n57 + 1, t57_0, t57_1, t57_2, t57_3 => ((20 ≤ t57_3 → K ((((2 : Int32) * t57_0) - t57_1) - 2) ()) ∧ (¬ 20 ≤ t57_3 → ((t57_2 < 0 → K ((((2 : Int32) * t57_0) - t57_1) - 2) ()) ∧ (¬ t57_2 < 0 → (vp_in t57_2 20 ∧ (∀ v76 : Int32, v76 = (t57_0 + (f0 (Int32.toNatClampNeg t57_2))) → (vp_in t57_2 20 ∧ (∀ v88 : Int32, v88 = (f5 (Int32.toNatClampNeg t57_2)) → (wLX0_facesBetween_57_1 f0 f5 K  n57) v76 (t57_1 + 1) v88 (t57_3 + 1)))))))))
def wLX0_facesBetween_15 (f0 : Nat → Int32) (f5 : Nat → Int32) (f6 : Nat → Int32) (p0 : Int32) (K : Int32 → Unit → Prop)  : Nat → Int32 → Int32 → Int32 → Int32 → Prop
  | 0, _, _, _, _ => False
  | n15 + 1, t15_0, t15_1, t15_2, t15_3 => ((20 ≤ t15_3 → (∃ n57, wLX0_facesBetween_57 f0 f5 K  n57 t15_0 t15_1 p0 0)) ∧ (¬ 20 ≤ t15_3 → ((t15_2 < 0 → (∃ n57, wLX0_facesBetween_57_1 f0 f5 K  n57 t15_0 t15_1 p0 0)) ∧ (¬ t15_2 < 0 → (vp_in t15_2 20 ∧ (∀ v34 : Int32, v34 = (t15_0 + (f0 (Int32.toNatClampNeg t15_2))) → (vp_in t15_2 20 ∧ (∀ v43 : Int32, v43 = (f6 (Int32.toNatClampNeg t15_2)) → (wLX0_facesBetween_15 f0 f5 f6 p0 K  n15) v34 (t15_1 + 1) v43 (t15_3 + 1)))))))))
def wX0_facesBetween (f0 : Nat → Int32) (i1 : Int32) (i2 : Int32) (i3 : Int32) (i4 : Int32) (f5 : Nat → Int32) (f6 : Nat → Int32) (p0 : Int32) (K : Int32 → Unit → Prop) : Prop := (vp_in p0 20 ∧ (∀ v4 : Int32, v4 = (-(f0 (Int32.toNatClampNeg p0))) → (∃ n15, wLX0_facesBetween_15 f0 f5 f6 p0 K  n15 v4 (-1) p0 0)))
set_option maxHeartbeats 4000000 in
set_option maxRecDepth 100000 in
theorem zX0_facesBetween (l : Launch) (G : va_G) (cI cJ cZ : ClassId) (h0 h1 h2 h3 k0 k1 k2 k3 k4 k5 k6 k7 sz : Nat) (f0 : Nat → Int32) (i1 : Int32) (i2 : Int32) (i3 : Int32) (i4 : Int32) (f5 : Nat → Int32) (f6 : Nat → Int32) (p0 : Int32) (K : Int32 → Unit → Prop) (hwp : wX0_facesBetween f0 i1 i2 i3 i4 f5 f6 p0 K) : Met l yX0_facesBetween (xw yX0_facesBetween cX0_facesBetween 8 (some .int)) ({ frames := 0, cells := 0, slots := 0, locals := 0 }) (xPc G cI cJ cZ [.ref h1, .int p0, .ref h3, .ref h0] [(h0, aI cI 20 f0), (h1, .inr (0, [.ref k0, .ref k1, .ref k2, .ref k3, .ref k4, .ref h3, .ref h2, .ref k5, .ref k6, .ref h0, .ref k7, .int i1, .int i2, .int i3, .int i4])), (h2, aI cI 20 f5), (h3, aI cI 20 f6)] sz) (va_Qi (fun (r : Int32) (u : Unit) => K r u) (fun (u : Unit) t => xB G (va_A [(h0, aI cI 20 f0), (h1, .inr (0, [.ref k0, .ref k1, .ref k2, .ref k3, .ref k4, .ref h3, .ref h2, .ref k5, .ref k6, .ref h0, .ref k7, .int i1, .int i2, .int i3, .int i4])), (h2, aI cI 20 f5), (h3, aI cI 20 f6)] sz) [(h0, aI cI 20 f0), (h1, .inr (0, [.ref k0, .ref k1, .ref k2, .ref k3, .ref k4, .ref h3, .ref h2, .ref k5, .ref k6, .ref h0, .ref k7, .int i1, .int i2, .int i3, .int i4])), (h2, aI cI 20 f5), (h3, aI cI 20 f6)] t) (va_A [(h0, aI cI 20 f0), (h1, .inr (0, [.ref k0, .ref k1, .ref k2, .ref k3, .ref k4, .ref h3, .ref h2, .ref k5, .ref k6, .ref h0, .ref k7, .int i1, .int i2, .int i3, .int i4])), (h2, aI cI 20 f5), (h3, aI cI 20 f6)] sz)) 0 0 (va_A [(h0, aI cI 20 f0), (h1, .inr (0, [.ref k0, .ref k1, .ref k2, .ref k3, .ref k4, .ref h3, .ref h2, .ref k5, .ref k6, .ref h0, .ref k7, .int i1, .int i2, .int i3, .int i4])), (h2, aI cI 20 f5), (h3, aI cI 20 f6)] sz) := by
  refine Met.ofW (cc := cX0_facesBetween) (maxL := 8) (ret := (some .int)) (by decide) rfl ?_
  intro p e s m args below meth c s₁ B hml hv
  obtain ⟨rfl, hsz, hP, hK, hD0, hN⟩ := hv
  have hx := B.exec
  have hb := B.bytes
  have hr := B.returns
  have hts : ∀ w ∈ xW, w.before _ s = true := fun w h => atoms_spec (ws := xw yX0_facesBetween cX0_facesBetween 8 (some .int)) B.pre w (List.mem_cons_of_mem _ h)
  have hown : s.vm.findClass RX0 = some m.cls := findClass_of_methodNamed B.named
  have hlocks := B.notSynchronized
  subst hsz
  have hD := hD0.self (sz := s.heap.size)
  clear hD0
  generalize hAe : va_A [(h0, aI cI 20 f0), (h1, .inr (0, [.ref k0, .ref k1, .ref k2, .ref k3, .ref k4, .ref h3, .ref h2, .ref k5, .ref k6, .ref h0, .ref k7, .int i1, .int i2, .int i3, .int i4])), (h2, aI cI 20 f5), (h3, aI cI 20 f6)] s.heap.size = A at hD ⊢
  have hA : ∀ q : Nat, s.heap.size ≤ q → A q := fun q h => by rw [← hAe]; exact Or.inr h
  clear hAe
  have hS : va_S A s.heap s.heap [] := va_S.rf
  replace hP : va_P G vwCl [(h0, aI cI 20 f0), (h1, .inr (0, [.ref k0, .ref k1, .ref k2, .ref k3, .ref k4, .ref h3, .ref h2, .ref k5, .ref k6, .ref h0, .ref k7, .int i1, .int i2, .int i3, .int i4])), (h2, aI cI 20 f5), (h3, aI cI 20 f6)] s.heap := hP
  have hl := lv_entry ([.ref h1, .int p0, .ref h3, .ref h0]) (n := 8) (Nat.le_of_ble_eq_true rfl)
  rw [lg_entry_eq]
  generalize (lg_sl ([.ref h1, .int p0, .ref h3, .ref h0]) ++ List.replicate (8 - (lg_sl ([.ref h1, .int p0, .ref h3, .ref h0])).length) Slot.unset).toArray = ls at hl ⊢
  replace hl : lv_has ls 8 [(0, .ref h1), (1, .int p0), (2, .ref h3), (3, .ref h0)] := hl
  generalize hQQ : MQ below _ _ s 0 0 _ = QQ
  skip
  unfold wX0_facesBetween at hwp
  refine lv_aload_n hx hb dX0_facesBetween_0 rfl (lv_at hl 3 rfl) ?_
  refine lv_iload_n hx hb dX0_facesBetween_1 rfl (lv_at hl 1 rfl) ?_
  obtain ⟨hi, hwp⟩ := hwp
  refine va_iald hx hb hK hP 0 0 rfl rfl hi dX0_facesBetween_2 ?_
  refine lv_ineg hx hb dX0_facesBetween_3 ?_
  refine lv_topi (fun v4 ev4 => ?_)
  replace hwp := hwp v4 ev4
  clear ev4
  refine lv_istore (lv' := [(4, .int v4), (0, .ref h1), (1, .int p0), (2, .ref h3), (3, .ref h0)]) hx hb dX0_facesBetween_4 hl (by decide) rfl (fun ls hl => ?_)
  refine lv_iconst (v := (-1)) hx hb dX0_facesBetween_6 (by decide) ?_
  refine lv_istore (lv' := [(5, .int (-1)), (4, .int v4), (0, .ref h1), (1, .int p0), (2, .ref h3), (3, .ref h0)]) hx hb dX0_facesBetween_7 hl (by decide) rfl (fun ls hl => ?_)
  refine lv_iload_n hx hb dX0_facesBetween_9 rfl (lv_at hl 3 rfl) ?_
  refine lv_istore (lv' := [(6, .int p0), (5, .int (-1)), (4, .int v4), (0, .ref h1), (1, .int p0), (2, .ref h3), (3, .ref h0)]) hx hb dX0_facesBetween_10 hl (by decide) rfl (fun ls hl => ?_)
  refine lv_iconst (v := 0) hx hb dX0_facesBetween_12 (by decide) ?_
  refine lv_istore (lv' := [(7, .int 0), (6, .int p0), (5, .int (-1)), (4, .int v4), (0, .ref h1), (1, .int p0), (2, .ref h3), (3, .ref h0)]) hx hb dX0_facesBetween_13 hl (by decide) rfl (fun ls hl => ?_)
  refine xgen (Pp := fun H locs => W p l e _ s m _ below meth c H locs _ _ _ _) (fun H locs hP hD hS => ?_) hP hD hS
  replace hl : lv_has ls 8 [(7, .int 0), (6, .int p0), (5, .int (-1)), (4, .int v4), (0, .ref h1), (1, .int p0), (2, .ref h3), (3, .ref h0)] := lv_sub hl [0, 1, 2, 3, 4, 5, 6, 7] rfl
  obtain ⟨n1, hwp⟩ := hwp
  have hs1 : ∀ (n1 : Nat) (H : Heap) (locs : List Loc) (ls : Array Slot) (t15_0 : Int32) (t15_1 : Int32) (t15_2 : Int32) (t15_3 : Int32), wLX0_facesBetween_15 f0 f5 f6 p0 K  n1 t15_0 t15_1 t15_2 t15_3 → va_P G vwCl [(h0, aI cI 20 f0), (h1, .inr (0, [.ref k0, .ref k1, .ref k2, .ref k3, .ref k4, .ref h3, .ref h2, .ref k5, .ref k6, .ref h0, .ref k7, .int i1, .int i2, .int i3, .int i4])), (h2, aI cI 20 f5), (h3, aI cI 20 f6)] H → va_D A [(h0, aI cI 20 f0), (h1, .inr (0, [.ref k0, .ref k1, .ref k2, .ref k3, .ref k4, .ref h3, .ref h2, .ref k5, .ref k6, .ref h0, .ref k7, .int i1, .int i2, .int i3, .int i4])), (h2, aI cI 20 f5), (h3, aI cI 20 f6)] → va_S A s.heap H locs → lv_has ls 8 [(7, .int t15_3), (6, .int t15_2), (5, .int t15_1), (4, .int t15_0), (0, .ref h1), (1, .int p0), (2, .ref h3), (3, .ref h0)] → W p l e ((headSpec (xw yX0_facesBetween cX0_facesBetween 8 (some .int)) { frames := 0, cells := 0, slots := 0, locals := 0 }).room) s m ([.ref h1, .int p0, .ref h3, .ref h0] : List Value).toArray below meth c H locs 0 0 QQ (F0 m 15 ls []) := by
    intro n1
    induction n1 with
    | zero => intro H locs ls t15_0 t15_1 t15_2 t15_3 hwp; exact False.elim hwp
    | succ n1 ih1 =>
      intro H locs ls t15_0 t15_1 t15_2 t15_3 hwp hP hD hS hl
      rw [wLX0_facesBetween_15] at hwp
      refine lv_iload hx hb dX0_facesBetween_15 (lv_at hl 0 rfl) ?_
      refine lv_bipush (v := 20) hx hb dX0_facesBetween_17 (by decide) ?_
      refine lv_icmp_ge (tgt := 51) hx hb dX0_facesBetween_19 (by decide) (fun c19 => ?_) (fun c19 => ?_)
      · replace hwp := hwp.1 c19
        refine lv_iload_n hx hb dX0_facesBetween_51 rfl (lv_at hl 5 rfl) ?_
        refine lv_istore (lv' := [(6, .int p0), (7, .int t15_3), (5, .int t15_1), (4, .int t15_0), (0, .ref h1), (1, .int p0), (2, .ref h3), (3, .ref h0)]) hx hb dX0_facesBetween_52 hl (by decide) rfl (fun ls hl => ?_)
        refine lv_iconst (v := 0) hx hb dX0_facesBetween_54 (by decide) ?_
        refine lv_istore (lv' := [(7, .int 0), (6, .int p0), (5, .int t15_1), (4, .int t15_0), (0, .ref h1), (1, .int p0), (2, .ref h3), (3, .ref h0)]) hx hb dX0_facesBetween_55 hl (by decide) rfl (fun ls hl => ?_)
        replace hl : lv_has ls 8 [(7, .int 0), (6, .int p0), (5, .int t15_1), (4, .int t15_0), (0, .ref h1), (3, .ref h0)] := lv_sub hl [0, 1, 2, 3, 4, 7] rfl
        obtain ⟨n2, hwp⟩ := hwp
        have hs2 : ∀ (n2 : Nat) (H : Heap) (locs : List Loc) (ls : Array Slot) (t57_0 : Int32) (t57_1 : Int32) (t57_2 : Int32) (t57_3 : Int32), wLX0_facesBetween_57 f0 f5 K  n2 t57_0 t57_1 t57_2 t57_3 → va_P G vwCl [(h0, aI cI 20 f0), (h1, .inr (0, [.ref k0, .ref k1, .ref k2, .ref k3, .ref k4, .ref h3, .ref h2, .ref k5, .ref k6, .ref h0, .ref k7, .int i1, .int i2, .int i3, .int i4])), (h2, aI cI 20 f5), (h3, aI cI 20 f6)] H → va_D A [(h0, aI cI 20 f0), (h1, .inr (0, [.ref k0, .ref k1, .ref k2, .ref k3, .ref k4, .ref h3, .ref h2, .ref k5, .ref k6, .ref h0, .ref k7, .int i1, .int i2, .int i3, .int i4])), (h2, aI cI 20 f5), (h3, aI cI 20 f6)] → va_S A s.heap H locs → lv_has ls 8 [(7, .int t57_3), (6, .int t57_2), (5, .int t57_1), (4, .int t57_0), (0, .ref h1), (3, .ref h0)] → W p l e ((headSpec (xw yX0_facesBetween cX0_facesBetween 8 (some .int)) { frames := 0, cells := 0, slots := 0, locals := 0 }).room) s m ([.ref h1, .int p0, .ref h3, .ref h0] : List Value).toArray below meth c H locs 0 0 QQ (F0 m 57 ls []) := by
          intro n2
          induction n2 with
          | zero => intro H locs ls t57_0 t57_1 t57_2 t57_3 hwp; exact False.elim hwp
          | succ n2 ih2 =>
            intro H locs ls t57_0 t57_1 t57_2 t57_3 hwp hP hD hS hl
            rw [wLX0_facesBetween_57] at hwp
            refine lv_iload hx hb dX0_facesBetween_57 (lv_at hl 0 rfl) ?_
            refine lv_bipush (v := 20) hx hb dX0_facesBetween_59 (by decide) ?_
            refine lv_icmp_ge (tgt := 96) hx hb dX0_facesBetween_61 (by decide) (fun c61 => ?_) (fun c61 => ?_)
            · replace hwp := hwp.1 c61
              refine lv_iconst (v := 2) hx hb dX0_facesBetween_96 (by decide) ?_
              refine lv_iload hx hb dX0_facesBetween_97 (lv_at hl 3 rfl) ?_
              refine lv_imul hx hb dX0_facesBetween_99 ?_
              refine lv_iload hx hb dX0_facesBetween_100 (lv_at hl 2 rfl) ?_
              refine lv_isub hx hb dX0_facesBetween_102 ?_
              refine lv_iconst (v := 2) hx hb dX0_facesBetween_103 (by decide) ?_
              refine lv_isub hx hb dX0_facesBetween_104 ?_
              have hP9 : va_P G vwCl [(h0, aI cI 20 f0), (h1, .inr (0, [.ref k0, .ref k1, .ref k2, .ref k3, .ref k4, .ref h3, .ref h2, .ref k5, .ref k6, .ref h0, .ref k7, .int i1, .int i2, .int i3, .int i4])), (h2, aI cI 20 f5), (h3, aI cI 20 f6)] H := hP.sub [0, 1, 2, 3] rfl
              have hD9 : va_D A [(h0, aI cI 20 f0), (h1, .inr (0, [.ref k0, .ref k1, .ref k2, .ref k3, .ref k4, .ref h3, .ref h2, .ref k5, .ref k6, .ref h0, .ref k7, .int i1, .int i2, .int i3, .int i4])), (h2, aI cI 20 f5), (h3, aI cI 20 f6)] := hD.sub [0, 1, 2, 3] (by decide) rfl
              rw [← hQQ]
              exact W.iret (v := ((((2 : Int32) * t57_0) - t57_1) - 2)) hx hb hr (fun t ht hW => ⟨⟨_, (), rfl, hwp, by rw [ht]; exact hP9, hD9⟩, hS.F ht⟩) hS.2.2 dX0_facesBetween_105
            · replace hwp := hwp.2 c61
              refine lv_iload hx hb dX0_facesBetween_64 (lv_at hl 1 rfl) ?_
              refine lv_if_lt (tgt := 96) hx hb dX0_facesBetween_66 (by decide) (fun c66 => ?_) (fun c66 => ?_)
              · replace hwp := hwp.1 c66
                refine lv_iconst (v := 2) hx hb dX0_facesBetween_96 (by decide) ?_
                refine lv_iload hx hb dX0_facesBetween_97 (lv_at hl 3 rfl) ?_
                refine lv_imul hx hb dX0_facesBetween_99 ?_
                refine lv_iload hx hb dX0_facesBetween_100 (lv_at hl 2 rfl) ?_
                refine lv_isub hx hb dX0_facesBetween_102 ?_
                refine lv_iconst (v := 2) hx hb dX0_facesBetween_103 (by decide) ?_
                refine lv_isub hx hb dX0_facesBetween_104 ?_
                have hP9 : va_P G vwCl [(h0, aI cI 20 f0), (h1, .inr (0, [.ref k0, .ref k1, .ref k2, .ref k3, .ref k4, .ref h3, .ref h2, .ref k5, .ref k6, .ref h0, .ref k7, .int i1, .int i2, .int i3, .int i4])), (h2, aI cI 20 f5), (h3, aI cI 20 f6)] H := hP.sub [0, 1, 2, 3] rfl
                have hD9 : va_D A [(h0, aI cI 20 f0), (h1, .inr (0, [.ref k0, .ref k1, .ref k2, .ref k3, .ref k4, .ref h3, .ref h2, .ref k5, .ref k6, .ref h0, .ref k7, .int i1, .int i2, .int i3, .int i4])), (h2, aI cI 20 f5), (h3, aI cI 20 f6)] := hD.sub [0, 1, 2, 3] (by decide) rfl
                rw [← hQQ]
                exact W.iret (v := ((((2 : Int32) * t57_0) - t57_1) - 2)) hx hb hr (fun t ht hW => ⟨⟨_, (), rfl, hwp, by rw [ht]; exact hP9, hD9⟩, hS.F ht⟩) hS.2.2 dX0_facesBetween_105
              · replace hwp := hwp.2 c66
                refine lv_iload hx hb dX0_facesBetween_69 (lv_at hl 3 rfl) ?_
                refine lv_aload_n hx hb dX0_facesBetween_71 rfl (lv_at hl 5 rfl) ?_
                refine lv_iload hx hb dX0_facesBetween_72 (lv_at hl 1 rfl) ?_
                obtain ⟨hi, hwp⟩ := hwp
                refine va_iald hx hb hK hP 0 0 rfl rfl hi dX0_facesBetween_74 ?_
                refine lv_iadd hx hb dX0_facesBetween_75 ?_
                refine lv_topi (fun v76 ev76 => ?_)
                replace hwp := hwp v76 ev76
                clear ev76
                refine lv_istore (lv' := [(4, .int v76), (7, .int t57_3), (6, .int t57_2), (5, .int t57_1), (0, .ref h1), (3, .ref h0)]) hx hb dX0_facesBetween_76 hl (by decide) rfl (fun ls hl => ?_)
                refine lv_iinc (v := (t57_1 + 1)) (lv' := [(5, .int (t57_1 + 1)), (4, .int v76), (7, .int t57_3), (6, .int t57_2), (0, .ref h1), (3, .ref h0)]) hx hb dX0_facesBetween_78 hl (k := 3) rfl rfl (by decide) rfl (fun ls hl => ?_)
                refine lv_aload_n hx hb dX0_facesBetween_81 rfl (lv_at hl 4 rfl) ?_
                refine va_get (D := G) (ci := 0) (v := .ref h2) (C := RX0) (T := TX0) (N := 15) hx hb hts xinX0 hown hK hP 1 rfl rfl 6 (by decide) (hts _ wo_142) (fun _ h9 => h9) rfl dX0_facesBetween_82 ?_
                refine lv_iload hx hb dX0_facesBetween_85 (lv_at hl 3 rfl) ?_
                obtain ⟨hi, hwp⟩ := hwp
                refine va_iald hx hb hK hP 2 0 rfl rfl hi dX0_facesBetween_87 ?_
                refine lv_topi (fun v88 ev88 => ?_)
                replace hwp := hwp v88 ev88
                clear ev88
                refine lv_istore (lv' := [(6, .int v88), (5, .int (t57_1 + 1)), (4, .int v76), (7, .int t57_3), (0, .ref h1), (3, .ref h0)]) hx hb dX0_facesBetween_88 hl (by decide) rfl (fun ls hl => ?_)
                refine lv_iinc (v := (t57_3 + 1)) (lv' := [(7, .int (t57_3 + 1)), (6, .int v88), (5, .int (t57_1 + 1)), (4, .int v76), (0, .ref h1), (3, .ref h0)]) hx hb dX0_facesBetween_90 hl (k := 3) rfl rfl (by decide) rfl (fun ls hl => ?_)
                refine lv_goto (tgt := 57) hx hb dX0_facesBetween_93 (by decide) ?_
                replace hl : lv_has ls 8 [(7, .int (t57_3 + 1)), (6, .int v88), (5, .int (t57_1 + 1)), (4, .int v76), (0, .ref h1), (3, .ref h0)] := lv_sub hl [0, 1, 2, 3, 4, 5] rfl
                exact ih2 H locs ls v76 (t57_1 + 1) v88 (t57_3 + 1) hwp hP hD hS hl
        exact hs2 n2 H locs ls t15_0 t15_1 p0 0 hwp hP hD hS hl
      · replace hwp := hwp.2 c19
        refine lv_iload hx hb dX0_facesBetween_22 (lv_at hl 1 rfl) ?_
        refine lv_if_lt (tgt := 51) hx hb dX0_facesBetween_24 (by decide) (fun c24 => ?_) (fun c24 => ?_)
        · replace hwp := hwp.1 c24
          refine lv_iload_n hx hb dX0_facesBetween_51 rfl (lv_at hl 5 rfl) ?_
          refine lv_istore (lv' := [(6, .int p0), (7, .int t15_3), (5, .int t15_1), (4, .int t15_0), (0, .ref h1), (1, .int p0), (2, .ref h3), (3, .ref h0)]) hx hb dX0_facesBetween_52 hl (by decide) rfl (fun ls hl => ?_)
          refine lv_iconst (v := 0) hx hb dX0_facesBetween_54 (by decide) ?_
          refine lv_istore (lv' := [(7, .int 0), (6, .int p0), (5, .int t15_1), (4, .int t15_0), (0, .ref h1), (1, .int p0), (2, .ref h3), (3, .ref h0)]) hx hb dX0_facesBetween_55 hl (by decide) rfl (fun ls hl => ?_)
          replace hl : lv_has ls 8 [(7, .int 0), (6, .int p0), (5, .int t15_1), (4, .int t15_0), (0, .ref h1), (3, .ref h0)] := lv_sub hl [0, 1, 2, 3, 4, 7] rfl
          obtain ⟨n3, hwp⟩ := hwp
          have hs3 : ∀ (n3 : Nat) (H : Heap) (locs : List Loc) (ls : Array Slot) (t57_0 : Int32) (t57_1 : Int32) (t57_2 : Int32) (t57_3 : Int32), wLX0_facesBetween_57_1 f0 f5 K  n3 t57_0 t57_1 t57_2 t57_3 → va_P G vwCl [(h0, aI cI 20 f0), (h1, .inr (0, [.ref k0, .ref k1, .ref k2, .ref k3, .ref k4, .ref h3, .ref h2, .ref k5, .ref k6, .ref h0, .ref k7, .int i1, .int i2, .int i3, .int i4])), (h2, aI cI 20 f5), (h3, aI cI 20 f6)] H → va_D A [(h0, aI cI 20 f0), (h1, .inr (0, [.ref k0, .ref k1, .ref k2, .ref k3, .ref k4, .ref h3, .ref h2, .ref k5, .ref k6, .ref h0, .ref k7, .int i1, .int i2, .int i3, .int i4])), (h2, aI cI 20 f5), (h3, aI cI 20 f6)] → va_S A s.heap H locs → lv_has ls 8 [(7, .int t57_3), (6, .int t57_2), (5, .int t57_1), (4, .int t57_0), (0, .ref h1), (3, .ref h0)] → W p l e ((headSpec (xw yX0_facesBetween cX0_facesBetween 8 (some .int)) { frames := 0, cells := 0, slots := 0, locals := 0 }).room) s m ([.ref h1, .int p0, .ref h3, .ref h0] : List Value).toArray below meth c H locs 0 0 QQ (F0 m 57 ls []) := by
            intro n3
            induction n3 with
            | zero => intro H locs ls t57_0 t57_1 t57_2 t57_3 hwp; exact False.elim hwp
            | succ n3 ih3 =>
              intro H locs ls t57_0 t57_1 t57_2 t57_3 hwp hP hD hS hl
              rw [wLX0_facesBetween_57_1] at hwp
              refine lv_iload hx hb dX0_facesBetween_57 (lv_at hl 0 rfl) ?_
              refine lv_bipush (v := 20) hx hb dX0_facesBetween_59 (by decide) ?_
              refine lv_icmp_ge (tgt := 96) hx hb dX0_facesBetween_61 (by decide) (fun c61 => ?_) (fun c61 => ?_)
              · replace hwp := hwp.1 c61
                refine lv_iconst (v := 2) hx hb dX0_facesBetween_96 (by decide) ?_
                refine lv_iload hx hb dX0_facesBetween_97 (lv_at hl 3 rfl) ?_
                refine lv_imul hx hb dX0_facesBetween_99 ?_
                refine lv_iload hx hb dX0_facesBetween_100 (lv_at hl 2 rfl) ?_
                refine lv_isub hx hb dX0_facesBetween_102 ?_
                refine lv_iconst (v := 2) hx hb dX0_facesBetween_103 (by decide) ?_
                refine lv_isub hx hb dX0_facesBetween_104 ?_
                have hP9 : va_P G vwCl [(h0, aI cI 20 f0), (h1, .inr (0, [.ref k0, .ref k1, .ref k2, .ref k3, .ref k4, .ref h3, .ref h2, .ref k5, .ref k6, .ref h0, .ref k7, .int i1, .int i2, .int i3, .int i4])), (h2, aI cI 20 f5), (h3, aI cI 20 f6)] H := hP.sub [0, 1, 2, 3] rfl
                have hD9 : va_D A [(h0, aI cI 20 f0), (h1, .inr (0, [.ref k0, .ref k1, .ref k2, .ref k3, .ref k4, .ref h3, .ref h2, .ref k5, .ref k6, .ref h0, .ref k7, .int i1, .int i2, .int i3, .int i4])), (h2, aI cI 20 f5), (h3, aI cI 20 f6)] := hD.sub [0, 1, 2, 3] (by decide) rfl
                rw [← hQQ]
                exact W.iret (v := ((((2 : Int32) * t57_0) - t57_1) - 2)) hx hb hr (fun t ht hW => ⟨⟨_, (), rfl, hwp, by rw [ht]; exact hP9, hD9⟩, hS.F ht⟩) hS.2.2 dX0_facesBetween_105
              · replace hwp := hwp.2 c61
                refine lv_iload hx hb dX0_facesBetween_64 (lv_at hl 1 rfl) ?_
                refine lv_if_lt (tgt := 96) hx hb dX0_facesBetween_66 (by decide) (fun c66 => ?_) (fun c66 => ?_)
                · replace hwp := hwp.1 c66
                  refine lv_iconst (v := 2) hx hb dX0_facesBetween_96 (by decide) ?_
                  refine lv_iload hx hb dX0_facesBetween_97 (lv_at hl 3 rfl) ?_
                  refine lv_imul hx hb dX0_facesBetween_99 ?_
                  refine lv_iload hx hb dX0_facesBetween_100 (lv_at hl 2 rfl) ?_
                  refine lv_isub hx hb dX0_facesBetween_102 ?_
                  refine lv_iconst (v := 2) hx hb dX0_facesBetween_103 (by decide) ?_
                  refine lv_isub hx hb dX0_facesBetween_104 ?_
                  have hP9 : va_P G vwCl [(h0, aI cI 20 f0), (h1, .inr (0, [.ref k0, .ref k1, .ref k2, .ref k3, .ref k4, .ref h3, .ref h2, .ref k5, .ref k6, .ref h0, .ref k7, .int i1, .int i2, .int i3, .int i4])), (h2, aI cI 20 f5), (h3, aI cI 20 f6)] H := hP.sub [0, 1, 2, 3] rfl
                  have hD9 : va_D A [(h0, aI cI 20 f0), (h1, .inr (0, [.ref k0, .ref k1, .ref k2, .ref k3, .ref k4, .ref h3, .ref h2, .ref k5, .ref k6, .ref h0, .ref k7, .int i1, .int i2, .int i3, .int i4])), (h2, aI cI 20 f5), (h3, aI cI 20 f6)] := hD.sub [0, 1, 2, 3] (by decide) rfl
                  rw [← hQQ]
                  exact W.iret (v := ((((2 : Int32) * t57_0) - t57_1) - 2)) hx hb hr (fun t ht hW => ⟨⟨_, (), rfl, hwp, by rw [ht]; exact hP9, hD9⟩, hS.F ht⟩) hS.2.2 dX0_facesBetween_105
                · replace hwp := hwp.2 c66
                  refine lv_iload hx hb dX0_facesBetween_69 (lv_at hl 3 rfl) ?_
                  refine lv_aload_n hx hb dX0_facesBetween_71 rfl (lv_at hl 5 rfl) ?_
                  refine lv_iload hx hb dX0_facesBetween_72 (lv_at hl 1 rfl) ?_
                  obtain ⟨hi, hwp⟩ := hwp
                  refine va_iald hx hb hK hP 0 0 rfl rfl hi dX0_facesBetween_74 ?_
                  refine lv_iadd hx hb dX0_facesBetween_75 ?_
                  refine lv_topi (fun v76 ev76 => ?_)
                  replace hwp := hwp v76 ev76
                  clear ev76
                  refine lv_istore (lv' := [(4, .int v76), (7, .int t57_3), (6, .int t57_2), (5, .int t57_1), (0, .ref h1), (3, .ref h0)]) hx hb dX0_facesBetween_76 hl (by decide) rfl (fun ls hl => ?_)
                  refine lv_iinc (v := (t57_1 + 1)) (lv' := [(5, .int (t57_1 + 1)), (4, .int v76), (7, .int t57_3), (6, .int t57_2), (0, .ref h1), (3, .ref h0)]) hx hb dX0_facesBetween_78 hl (k := 3) rfl rfl (by decide) rfl (fun ls hl => ?_)
                  refine lv_aload_n hx hb dX0_facesBetween_81 rfl (lv_at hl 4 rfl) ?_
                  refine va_get (D := G) (ci := 0) (v := .ref h2) (C := RX0) (T := TX0) (N := 15) hx hb hts xinX0 hown hK hP 1 rfl rfl 6 (by decide) (hts _ wo_142) (fun _ h9 => h9) rfl dX0_facesBetween_82 ?_
                  refine lv_iload hx hb dX0_facesBetween_85 (lv_at hl 3 rfl) ?_
                  obtain ⟨hi, hwp⟩ := hwp
                  refine va_iald hx hb hK hP 2 0 rfl rfl hi dX0_facesBetween_87 ?_
                  refine lv_topi (fun v88 ev88 => ?_)
                  replace hwp := hwp v88 ev88
                  clear ev88
                  refine lv_istore (lv' := [(6, .int v88), (5, .int (t57_1 + 1)), (4, .int v76), (7, .int t57_3), (0, .ref h1), (3, .ref h0)]) hx hb dX0_facesBetween_88 hl (by decide) rfl (fun ls hl => ?_)
                  refine lv_iinc (v := (t57_3 + 1)) (lv' := [(7, .int (t57_3 + 1)), (6, .int v88), (5, .int (t57_1 + 1)), (4, .int v76), (0, .ref h1), (3, .ref h0)]) hx hb dX0_facesBetween_90 hl (k := 3) rfl rfl (by decide) rfl (fun ls hl => ?_)
                  refine lv_goto (tgt := 57) hx hb dX0_facesBetween_93 (by decide) ?_
                  replace hl : lv_has ls 8 [(7, .int (t57_3 + 1)), (6, .int v88), (5, .int (t57_1 + 1)), (4, .int v76), (0, .ref h1), (3, .ref h0)] := lv_sub hl [0, 1, 2, 3, 4, 5] rfl
                  exact ih3 H locs ls v76 (t57_1 + 1) v88 (t57_3 + 1) hwp hP hD hS hl
          exact hs3 n3 H locs ls t15_0 t15_1 p0 0 hwp hP hD hS hl
        · replace hwp := hwp.2 c24
          refine lv_iload hx hb dX0_facesBetween_27 (lv_at hl 3 rfl) ?_
          refine lv_aload_n hx hb dX0_facesBetween_29 rfl (lv_at hl 7 rfl) ?_
          refine lv_iload hx hb dX0_facesBetween_30 (lv_at hl 1 rfl) ?_
          obtain ⟨hi, hwp⟩ := hwp
          refine va_iald hx hb hK hP 0 0 rfl rfl hi dX0_facesBetween_32 ?_
          refine lv_iadd hx hb dX0_facesBetween_33 ?_
          refine lv_topi (fun v34 ev34 => ?_)
          replace hwp := hwp v34 ev34
          clear ev34
          refine lv_istore (lv' := [(4, .int v34), (7, .int t15_3), (6, .int t15_2), (5, .int t15_1), (0, .ref h1), (1, .int p0), (2, .ref h3), (3, .ref h0)]) hx hb dX0_facesBetween_34 hl (by decide) rfl (fun ls hl => ?_)
          refine lv_iinc (v := (t15_1 + 1)) (lv' := [(5, .int (t15_1 + 1)), (4, .int v34), (7, .int t15_3), (6, .int t15_2), (0, .ref h1), (1, .int p0), (2, .ref h3), (3, .ref h0)]) hx hb dX0_facesBetween_36 hl (k := 3) rfl rfl (by decide) rfl (fun ls hl => ?_)
          refine lv_aload_n hx hb dX0_facesBetween_39 rfl (lv_at hl 6 rfl) ?_
          refine lv_iload hx hb dX0_facesBetween_40 (lv_at hl 3 rfl) ?_
          obtain ⟨hi, hwp⟩ := hwp
          refine va_iald hx hb hK hP 3 0 rfl rfl hi dX0_facesBetween_42 ?_
          refine lv_topi (fun v43 ev43 => ?_)
          replace hwp := hwp v43 ev43
          clear ev43
          refine lv_istore (lv' := [(6, .int v43), (5, .int (t15_1 + 1)), (4, .int v34), (7, .int t15_3), (0, .ref h1), (1, .int p0), (2, .ref h3), (3, .ref h0)]) hx hb dX0_facesBetween_43 hl (by decide) rfl (fun ls hl => ?_)
          refine lv_iinc (v := (t15_3 + 1)) (lv' := [(7, .int (t15_3 + 1)), (6, .int v43), (5, .int (t15_1 + 1)), (4, .int v34), (0, .ref h1), (1, .int p0), (2, .ref h3), (3, .ref h0)]) hx hb dX0_facesBetween_45 hl (k := 3) rfl rfl (by decide) rfl (fun ls hl => ?_)
          refine lv_goto (tgt := 15) hx hb dX0_facesBetween_48 (by decide) ?_
          replace hl : lv_has ls 8 [(7, .int (t15_3 + 1)), (6, .int v43), (5, .int (t15_1 + 1)), (4, .int v34), (0, .ref h1), (1, .int p0), (2, .ref h3), (3, .ref h0)] := lv_sub hl [0, 1, 2, 3, 4, 5, 6, 7] rfl
          exact ih1 H locs ls v34 (t15_1 + 1) v43 (t15_3 + 1) hwp hP hD hS hl
  exact hs1 n1 H locs ls v4 (-1) p0 0 hwp hP hD hS hl
def wLX0_facesBetween_1_57 (f0 : Nat → Int32) (f5 : Nat → Int32) (K : Int32 → Unit → Prop)  : Nat → Int32 → Int32 → Int32 → Int32 → Prop
  | 0, _, _, _, _ => False
  | n57 + 1, t57_0, t57_1, t57_2, t57_3 => ((20 ≤ t57_3 → K ((((2 : Int32) * t57_0) - t57_1) - 2) ()) ∧ (¬ 20 ≤ t57_3 → ((t57_2 < 0 → K ((((2 : Int32) * t57_0) - t57_1) - 2) ()) ∧ (¬ t57_2 < 0 → (vp_in t57_2 20 ∧ (∀ v76 : Int32, v76 = (t57_0 + (f0 (Int32.toNatClampNeg t57_2))) → (vp_in t57_2 20 ∧ (∀ v88 : Int32, v88 = (f5 (Int32.toNatClampNeg t57_2)) → (wLX0_facesBetween_1_57 f0 f5 K  n57) v76 (t57_1 + 1) v88 (t57_3 + 1)))))))))
def wLX0_facesBetween_1_57_1 (f0 : Nat → Int32) (f5 : Nat → Int32) (K : Int32 → Unit → Prop)  : Nat → Int32 → Int32 → Int32 → Int32 → Prop
  | 0, _, _, _, _ => False
  | n57 + 1, t57_0, t57_1, t57_2, t57_3 => ((20 ≤ t57_3 → K ((((2 : Int32) * t57_0) - t57_1) - 2) ()) ∧ (¬ 20 ≤ t57_3 → ((t57_2 < 0 → K ((((2 : Int32) * t57_0) - t57_1) - 2) ()) ∧ (¬ t57_2 < 0 → (vp_in t57_2 20 ∧ (∀ v76 : Int32, v76 = (t57_0 + (f0 (Int32.toNatClampNeg t57_2))) → (vp_in t57_2 20 ∧ (∀ v88 : Int32, v88 = (f5 (Int32.toNatClampNeg t57_2)) → (wLX0_facesBetween_1_57_1 f0 f5 K  n57) v76 (t57_1 + 1) v88 (t57_3 + 1)))))))))
def wLX0_facesBetween_1_15 (f0 : Nat → Int32) (f5 : Nat → Int32) (f6 : Nat → Int32) (p0 : Int32) (K : Int32 → Unit → Prop)  : Nat → Int32 → Int32 → Int32 → Int32 → Prop
  | 0, _, _, _, _ => False
  | n15 + 1, t15_0, t15_1, t15_2, t15_3 => ((20 ≤ t15_3 → (∃ n57, wLX0_facesBetween_1_57 f0 f5 K  n57 t15_0 t15_1 p0 0)) ∧ (¬ 20 ≤ t15_3 → ((t15_2 < 0 → (∃ n57, wLX0_facesBetween_1_57_1 f0 f5 K  n57 t15_0 t15_1 p0 0)) ∧ (¬ t15_2 < 0 → (vp_in t15_2 20 ∧ (∀ v34 : Int32, v34 = (t15_0 + (f0 (Int32.toNatClampNeg t15_2))) → (vp_in t15_2 20 ∧ (∀ v43 : Int32, v43 = (f6 (Int32.toNatClampNeg t15_2)) → (wLX0_facesBetween_1_15 f0 f5 f6 p0 K  n15) v34 (t15_1 + 1) v43 (t15_3 + 1)))))))))
def wX0_facesBetween_1 (f0 : Nat → Int32) (i1 : Int32) (i2 : Int32) (i3 : Int32) (i4 : Int32) (f5 : Nat → Int32) (f6 : Nat → Int32) (p0 : Int32) (K : Int32 → Unit → Prop) : Prop := (vp_in p0 20 ∧ (∀ v4 : Int32, v4 = (-(f0 (Int32.toNatClampNeg p0))) → (∃ n15, wLX0_facesBetween_1_15 f0 f5 f6 p0 K  n15 v4 (-1) p0 0)))
set_option maxHeartbeats 4000000 in
set_option maxRecDepth 100000 in
theorem zX0_facesBetween_1 (l : Launch) (G : va_G) (cI cJ cZ : ClassId) (h0 h1 h2 h3 k0 k1 k2 k3 k4 k5 k6 k7 sz : Nat) (f0 : Nat → Int32) (i1 : Int32) (i2 : Int32) (i3 : Int32) (i4 : Int32) (f5 : Nat → Int32) (f6 : Nat → Int32) (p0 : Int32) (K : Int32 → Unit → Prop) (hwp : wX0_facesBetween_1 f0 i1 i2 i3 i4 f5 f6 p0 K) : Met l yX0_facesBetween (xw yX0_facesBetween cX0_facesBetween 8 (some .int)) ({ frames := 0, cells := 0, slots := 0, locals := 0 }) (xPc G cI cJ cZ [.ref h1, .int p0, .ref h3, .ref h0] [(h0, aI cI 20 f0), (h1, .inr (0, [.ref k0, .ref k1, .ref k2, .ref k3, .ref h3, .ref k4, .ref h2, .ref k5, .ref k6, .ref k7, .ref h0, .int i1, .int i2, .int i3, .int i4])), (h2, aI cI 20 f5), (h3, aI cI 20 f6)] sz) (va_Qi (fun (r : Int32) (u : Unit) => K r u) (fun (u : Unit) t => xB G (va_A [(h0, aI cI 20 f0), (h1, .inr (0, [.ref k0, .ref k1, .ref k2, .ref k3, .ref h3, .ref k4, .ref h2, .ref k5, .ref k6, .ref k7, .ref h0, .int i1, .int i2, .int i3, .int i4])), (h2, aI cI 20 f5), (h3, aI cI 20 f6)] sz) [(h0, aI cI 20 f0), (h1, .inr (0, [.ref k0, .ref k1, .ref k2, .ref k3, .ref h3, .ref k4, .ref h2, .ref k5, .ref k6, .ref k7, .ref h0, .int i1, .int i2, .int i3, .int i4])), (h2, aI cI 20 f5), (h3, aI cI 20 f6)] t) (va_A [(h0, aI cI 20 f0), (h1, .inr (0, [.ref k0, .ref k1, .ref k2, .ref k3, .ref h3, .ref k4, .ref h2, .ref k5, .ref k6, .ref k7, .ref h0, .int i1, .int i2, .int i3, .int i4])), (h2, aI cI 20 f5), (h3, aI cI 20 f6)] sz)) 0 0 (va_A [(h0, aI cI 20 f0), (h1, .inr (0, [.ref k0, .ref k1, .ref k2, .ref k3, .ref h3, .ref k4, .ref h2, .ref k5, .ref k6, .ref k7, .ref h0, .int i1, .int i2, .int i3, .int i4])), (h2, aI cI 20 f5), (h3, aI cI 20 f6)] sz) := by
  refine Met.ofW (cc := cX0_facesBetween) (maxL := 8) (ret := (some .int)) (by decide) rfl ?_
  intro p e s m args below meth c s₁ B hml hv
  obtain ⟨rfl, hsz, hP, hK, hD0, hN⟩ := hv
  have hx := B.exec
  have hb := B.bytes
  have hr := B.returns
  have hts : ∀ w ∈ xW, w.before _ s = true := fun w h => atoms_spec (ws := xw yX0_facesBetween cX0_facesBetween 8 (some .int)) B.pre w (List.mem_cons_of_mem _ h)
  have hown : s.vm.findClass RX0 = some m.cls := findClass_of_methodNamed B.named
  have hlocks := B.notSynchronized
  subst hsz
  have hD := hD0.self (sz := s.heap.size)
  clear hD0
  generalize hAe : va_A [(h0, aI cI 20 f0), (h1, .inr (0, [.ref k0, .ref k1, .ref k2, .ref k3, .ref h3, .ref k4, .ref h2, .ref k5, .ref k6, .ref k7, .ref h0, .int i1, .int i2, .int i3, .int i4])), (h2, aI cI 20 f5), (h3, aI cI 20 f6)] s.heap.size = A at hD ⊢
  have hA : ∀ q : Nat, s.heap.size ≤ q → A q := fun q h => by rw [← hAe]; exact Or.inr h
  clear hAe
  have hS : va_S A s.heap s.heap [] := va_S.rf
  replace hP : va_P G vwCl [(h0, aI cI 20 f0), (h1, .inr (0, [.ref k0, .ref k1, .ref k2, .ref k3, .ref h3, .ref k4, .ref h2, .ref k5, .ref k6, .ref k7, .ref h0, .int i1, .int i2, .int i3, .int i4])), (h2, aI cI 20 f5), (h3, aI cI 20 f6)] s.heap := hP
  have hl := lv_entry ([.ref h1, .int p0, .ref h3, .ref h0]) (n := 8) (Nat.le_of_ble_eq_true rfl)
  rw [lg_entry_eq]
  generalize (lg_sl ([.ref h1, .int p0, .ref h3, .ref h0]) ++ List.replicate (8 - (lg_sl ([.ref h1, .int p0, .ref h3, .ref h0])).length) Slot.unset).toArray = ls at hl ⊢
  replace hl : lv_has ls 8 [(0, .ref h1), (1, .int p0), (2, .ref h3), (3, .ref h0)] := hl
  generalize hQQ : MQ below _ _ s 0 0 _ = QQ
  skip
  unfold wX0_facesBetween_1 at hwp
  refine lv_aload_n hx hb dX0_facesBetween_0 rfl (lv_at hl 3 rfl) ?_
  refine lv_iload_n hx hb dX0_facesBetween_1 rfl (lv_at hl 1 rfl) ?_
  obtain ⟨hi, hwp⟩ := hwp
  refine va_iald hx hb hK hP 0 0 rfl rfl hi dX0_facesBetween_2 ?_
  refine lv_ineg hx hb dX0_facesBetween_3 ?_
  refine lv_topi (fun v4 ev4 => ?_)
  replace hwp := hwp v4 ev4
  clear ev4
  refine lv_istore (lv' := [(4, .int v4), (0, .ref h1), (1, .int p0), (2, .ref h3), (3, .ref h0)]) hx hb dX0_facesBetween_4 hl (by decide) rfl (fun ls hl => ?_)
  refine lv_iconst (v := (-1)) hx hb dX0_facesBetween_6 (by decide) ?_
  refine lv_istore (lv' := [(5, .int (-1)), (4, .int v4), (0, .ref h1), (1, .int p0), (2, .ref h3), (3, .ref h0)]) hx hb dX0_facesBetween_7 hl (by decide) rfl (fun ls hl => ?_)
  refine lv_iload_n hx hb dX0_facesBetween_9 rfl (lv_at hl 3 rfl) ?_
  refine lv_istore (lv' := [(6, .int p0), (5, .int (-1)), (4, .int v4), (0, .ref h1), (1, .int p0), (2, .ref h3), (3, .ref h0)]) hx hb dX0_facesBetween_10 hl (by decide) rfl (fun ls hl => ?_)
  refine lv_iconst (v := 0) hx hb dX0_facesBetween_12 (by decide) ?_
  refine lv_istore (lv' := [(7, .int 0), (6, .int p0), (5, .int (-1)), (4, .int v4), (0, .ref h1), (1, .int p0), (2, .ref h3), (3, .ref h0)]) hx hb dX0_facesBetween_13 hl (by decide) rfl (fun ls hl => ?_)
  refine xgen (Pp := fun H locs => W p l e _ s m _ below meth c H locs _ _ _ _) (fun H locs hP hD hS => ?_) hP hD hS
  replace hl : lv_has ls 8 [(7, .int 0), (6, .int p0), (5, .int (-1)), (4, .int v4), (0, .ref h1), (1, .int p0), (2, .ref h3), (3, .ref h0)] := lv_sub hl [0, 1, 2, 3, 4, 5, 6, 7] rfl
  obtain ⟨n1, hwp⟩ := hwp
  have hs1 : ∀ (n1 : Nat) (H : Heap) (locs : List Loc) (ls : Array Slot) (t15_0 : Int32) (t15_1 : Int32) (t15_2 : Int32) (t15_3 : Int32), wLX0_facesBetween_1_15 f0 f5 f6 p0 K  n1 t15_0 t15_1 t15_2 t15_3 → va_P G vwCl [(h0, aI cI 20 f0), (h1, .inr (0, [.ref k0, .ref k1, .ref k2, .ref k3, .ref h3, .ref k4, .ref h2, .ref k5, .ref k6, .ref k7, .ref h0, .int i1, .int i2, .int i3, .int i4])), (h2, aI cI 20 f5), (h3, aI cI 20 f6)] H → va_D A [(h0, aI cI 20 f0), (h1, .inr (0, [.ref k0, .ref k1, .ref k2, .ref k3, .ref h3, .ref k4, .ref h2, .ref k5, .ref k6, .ref k7, .ref h0, .int i1, .int i2, .int i3, .int i4])), (h2, aI cI 20 f5), (h3, aI cI 20 f6)] → va_S A s.heap H locs → lv_has ls 8 [(7, .int t15_3), (6, .int t15_2), (5, .int t15_1), (4, .int t15_0), (0, .ref h1), (1, .int p0), (2, .ref h3), (3, .ref h0)] → W p l e ((headSpec (xw yX0_facesBetween cX0_facesBetween 8 (some .int)) { frames := 0, cells := 0, slots := 0, locals := 0 }).room) s m ([.ref h1, .int p0, .ref h3, .ref h0] : List Value).toArray below meth c H locs 0 0 QQ (F0 m 15 ls []) := by
    intro n1
    induction n1 with
    | zero => intro H locs ls t15_0 t15_1 t15_2 t15_3 hwp; exact False.elim hwp
    | succ n1 ih1 =>
      intro H locs ls t15_0 t15_1 t15_2 t15_3 hwp hP hD hS hl
      rw [wLX0_facesBetween_1_15] at hwp
      refine lv_iload hx hb dX0_facesBetween_15 (lv_at hl 0 rfl) ?_
      refine lv_bipush (v := 20) hx hb dX0_facesBetween_17 (by decide) ?_
      refine lv_icmp_ge (tgt := 51) hx hb dX0_facesBetween_19 (by decide) (fun c19 => ?_) (fun c19 => ?_)
      · replace hwp := hwp.1 c19
        refine lv_iload_n hx hb dX0_facesBetween_51 rfl (lv_at hl 5 rfl) ?_
        refine lv_istore (lv' := [(6, .int p0), (7, .int t15_3), (5, .int t15_1), (4, .int t15_0), (0, .ref h1), (1, .int p0), (2, .ref h3), (3, .ref h0)]) hx hb dX0_facesBetween_52 hl (by decide) rfl (fun ls hl => ?_)
        refine lv_iconst (v := 0) hx hb dX0_facesBetween_54 (by decide) ?_
        refine lv_istore (lv' := [(7, .int 0), (6, .int p0), (5, .int t15_1), (4, .int t15_0), (0, .ref h1), (1, .int p0), (2, .ref h3), (3, .ref h0)]) hx hb dX0_facesBetween_55 hl (by decide) rfl (fun ls hl => ?_)
        replace hl : lv_has ls 8 [(7, .int 0), (6, .int p0), (5, .int t15_1), (4, .int t15_0), (0, .ref h1), (3, .ref h0)] := lv_sub hl [0, 1, 2, 3, 4, 7] rfl
        obtain ⟨n2, hwp⟩ := hwp
        have hs2 : ∀ (n2 : Nat) (H : Heap) (locs : List Loc) (ls : Array Slot) (t57_0 : Int32) (t57_1 : Int32) (t57_2 : Int32) (t57_3 : Int32), wLX0_facesBetween_1_57 f0 f5 K  n2 t57_0 t57_1 t57_2 t57_3 → va_P G vwCl [(h0, aI cI 20 f0), (h1, .inr (0, [.ref k0, .ref k1, .ref k2, .ref k3, .ref h3, .ref k4, .ref h2, .ref k5, .ref k6, .ref k7, .ref h0, .int i1, .int i2, .int i3, .int i4])), (h2, aI cI 20 f5), (h3, aI cI 20 f6)] H → va_D A [(h0, aI cI 20 f0), (h1, .inr (0, [.ref k0, .ref k1, .ref k2, .ref k3, .ref h3, .ref k4, .ref h2, .ref k5, .ref k6, .ref k7, .ref h0, .int i1, .int i2, .int i3, .int i4])), (h2, aI cI 20 f5), (h3, aI cI 20 f6)] → va_S A s.heap H locs → lv_has ls 8 [(7, .int t57_3), (6, .int t57_2), (5, .int t57_1), (4, .int t57_0), (0, .ref h1), (3, .ref h0)] → W p l e ((headSpec (xw yX0_facesBetween cX0_facesBetween 8 (some .int)) { frames := 0, cells := 0, slots := 0, locals := 0 }).room) s m ([.ref h1, .int p0, .ref h3, .ref h0] : List Value).toArray below meth c H locs 0 0 QQ (F0 m 57 ls []) := by
          intro n2
          induction n2 with
          | zero => intro H locs ls t57_0 t57_1 t57_2 t57_3 hwp; exact False.elim hwp
          | succ n2 ih2 =>
            intro H locs ls t57_0 t57_1 t57_2 t57_3 hwp hP hD hS hl
            rw [wLX0_facesBetween_1_57] at hwp
            refine lv_iload hx hb dX0_facesBetween_57 (lv_at hl 0 rfl) ?_
            refine lv_bipush (v := 20) hx hb dX0_facesBetween_59 (by decide) ?_
            refine lv_icmp_ge (tgt := 96) hx hb dX0_facesBetween_61 (by decide) (fun c61 => ?_) (fun c61 => ?_)
            · replace hwp := hwp.1 c61
              refine lv_iconst (v := 2) hx hb dX0_facesBetween_96 (by decide) ?_
              refine lv_iload hx hb dX0_facesBetween_97 (lv_at hl 3 rfl) ?_
              refine lv_imul hx hb dX0_facesBetween_99 ?_
              refine lv_iload hx hb dX0_facesBetween_100 (lv_at hl 2 rfl) ?_
              refine lv_isub hx hb dX0_facesBetween_102 ?_
              refine lv_iconst (v := 2) hx hb dX0_facesBetween_103 (by decide) ?_
              refine lv_isub hx hb dX0_facesBetween_104 ?_
              have hP9 : va_P G vwCl [(h0, aI cI 20 f0), (h1, .inr (0, [.ref k0, .ref k1, .ref k2, .ref k3, .ref h3, .ref k4, .ref h2, .ref k5, .ref k6, .ref k7, .ref h0, .int i1, .int i2, .int i3, .int i4])), (h2, aI cI 20 f5), (h3, aI cI 20 f6)] H := hP.sub [0, 1, 2, 3] rfl
              have hD9 : va_D A [(h0, aI cI 20 f0), (h1, .inr (0, [.ref k0, .ref k1, .ref k2, .ref k3, .ref h3, .ref k4, .ref h2, .ref k5, .ref k6, .ref k7, .ref h0, .int i1, .int i2, .int i3, .int i4])), (h2, aI cI 20 f5), (h3, aI cI 20 f6)] := hD.sub [0, 1, 2, 3] (by decide) rfl
              rw [← hQQ]
              exact W.iret (v := ((((2 : Int32) * t57_0) - t57_1) - 2)) hx hb hr (fun t ht hW => ⟨⟨_, (), rfl, hwp, by rw [ht]; exact hP9, hD9⟩, hS.F ht⟩) hS.2.2 dX0_facesBetween_105
            · replace hwp := hwp.2 c61
              refine lv_iload hx hb dX0_facesBetween_64 (lv_at hl 1 rfl) ?_
              refine lv_if_lt (tgt := 96) hx hb dX0_facesBetween_66 (by decide) (fun c66 => ?_) (fun c66 => ?_)
              · replace hwp := hwp.1 c66
                refine lv_iconst (v := 2) hx hb dX0_facesBetween_96 (by decide) ?_
                refine lv_iload hx hb dX0_facesBetween_97 (lv_at hl 3 rfl) ?_
                refine lv_imul hx hb dX0_facesBetween_99 ?_
                refine lv_iload hx hb dX0_facesBetween_100 (lv_at hl 2 rfl) ?_
                refine lv_isub hx hb dX0_facesBetween_102 ?_
                refine lv_iconst (v := 2) hx hb dX0_facesBetween_103 (by decide) ?_
                refine lv_isub hx hb dX0_facesBetween_104 ?_
                have hP9 : va_P G vwCl [(h0, aI cI 20 f0), (h1, .inr (0, [.ref k0, .ref k1, .ref k2, .ref k3, .ref h3, .ref k4, .ref h2, .ref k5, .ref k6, .ref k7, .ref h0, .int i1, .int i2, .int i3, .int i4])), (h2, aI cI 20 f5), (h3, aI cI 20 f6)] H := hP.sub [0, 1, 2, 3] rfl
                have hD9 : va_D A [(h0, aI cI 20 f0), (h1, .inr (0, [.ref k0, .ref k1, .ref k2, .ref k3, .ref h3, .ref k4, .ref h2, .ref k5, .ref k6, .ref k7, .ref h0, .int i1, .int i2, .int i3, .int i4])), (h2, aI cI 20 f5), (h3, aI cI 20 f6)] := hD.sub [0, 1, 2, 3] (by decide) rfl
                rw [← hQQ]
                exact W.iret (v := ((((2 : Int32) * t57_0) - t57_1) - 2)) hx hb hr (fun t ht hW => ⟨⟨_, (), rfl, hwp, by rw [ht]; exact hP9, hD9⟩, hS.F ht⟩) hS.2.2 dX0_facesBetween_105
              · replace hwp := hwp.2 c66
                refine lv_iload hx hb dX0_facesBetween_69 (lv_at hl 3 rfl) ?_
                refine lv_aload_n hx hb dX0_facesBetween_71 rfl (lv_at hl 5 rfl) ?_
                refine lv_iload hx hb dX0_facesBetween_72 (lv_at hl 1 rfl) ?_
                obtain ⟨hi, hwp⟩ := hwp
                refine va_iald hx hb hK hP 0 0 rfl rfl hi dX0_facesBetween_74 ?_
                refine lv_iadd hx hb dX0_facesBetween_75 ?_
                refine lv_topi (fun v76 ev76 => ?_)
                replace hwp := hwp v76 ev76
                clear ev76
                refine lv_istore (lv' := [(4, .int v76), (7, .int t57_3), (6, .int t57_2), (5, .int t57_1), (0, .ref h1), (3, .ref h0)]) hx hb dX0_facesBetween_76 hl (by decide) rfl (fun ls hl => ?_)
                refine lv_iinc (v := (t57_1 + 1)) (lv' := [(5, .int (t57_1 + 1)), (4, .int v76), (7, .int t57_3), (6, .int t57_2), (0, .ref h1), (3, .ref h0)]) hx hb dX0_facesBetween_78 hl (k := 3) rfl rfl (by decide) rfl (fun ls hl => ?_)
                refine lv_aload_n hx hb dX0_facesBetween_81 rfl (lv_at hl 4 rfl) ?_
                refine va_get (D := G) (ci := 0) (v := .ref h2) (C := RX0) (T := TX0) (N := 15) hx hb hts xinX0 hown hK hP 1 rfl rfl 6 (by decide) (hts _ wo_142) (fun _ h9 => h9) rfl dX0_facesBetween_82 ?_
                refine lv_iload hx hb dX0_facesBetween_85 (lv_at hl 3 rfl) ?_
                obtain ⟨hi, hwp⟩ := hwp
                refine va_iald hx hb hK hP 2 0 rfl rfl hi dX0_facesBetween_87 ?_
                refine lv_topi (fun v88 ev88 => ?_)
                replace hwp := hwp v88 ev88
                clear ev88
                refine lv_istore (lv' := [(6, .int v88), (5, .int (t57_1 + 1)), (4, .int v76), (7, .int t57_3), (0, .ref h1), (3, .ref h0)]) hx hb dX0_facesBetween_88 hl (by decide) rfl (fun ls hl => ?_)
                refine lv_iinc (v := (t57_3 + 1)) (lv' := [(7, .int (t57_3 + 1)), (6, .int v88), (5, .int (t57_1 + 1)), (4, .int v76), (0, .ref h1), (3, .ref h0)]) hx hb dX0_facesBetween_90 hl (k := 3) rfl rfl (by decide) rfl (fun ls hl => ?_)
                refine lv_goto (tgt := 57) hx hb dX0_facesBetween_93 (by decide) ?_
                replace hl : lv_has ls 8 [(7, .int (t57_3 + 1)), (6, .int v88), (5, .int (t57_1 + 1)), (4, .int v76), (0, .ref h1), (3, .ref h0)] := lv_sub hl [0, 1, 2, 3, 4, 5] rfl
                exact ih2 H locs ls v76 (t57_1 + 1) v88 (t57_3 + 1) hwp hP hD hS hl
        exact hs2 n2 H locs ls t15_0 t15_1 p0 0 hwp hP hD hS hl
      · replace hwp := hwp.2 c19
        refine lv_iload hx hb dX0_facesBetween_22 (lv_at hl 1 rfl) ?_
        refine lv_if_lt (tgt := 51) hx hb dX0_facesBetween_24 (by decide) (fun c24 => ?_) (fun c24 => ?_)
        · replace hwp := hwp.1 c24
          refine lv_iload_n hx hb dX0_facesBetween_51 rfl (lv_at hl 5 rfl) ?_
          refine lv_istore (lv' := [(6, .int p0), (7, .int t15_3), (5, .int t15_1), (4, .int t15_0), (0, .ref h1), (1, .int p0), (2, .ref h3), (3, .ref h0)]) hx hb dX0_facesBetween_52 hl (by decide) rfl (fun ls hl => ?_)
          refine lv_iconst (v := 0) hx hb dX0_facesBetween_54 (by decide) ?_
          refine lv_istore (lv' := [(7, .int 0), (6, .int p0), (5, .int t15_1), (4, .int t15_0), (0, .ref h1), (1, .int p0), (2, .ref h3), (3, .ref h0)]) hx hb dX0_facesBetween_55 hl (by decide) rfl (fun ls hl => ?_)
          replace hl : lv_has ls 8 [(7, .int 0), (6, .int p0), (5, .int t15_1), (4, .int t15_0), (0, .ref h1), (3, .ref h0)] := lv_sub hl [0, 1, 2, 3, 4, 7] rfl
          obtain ⟨n3, hwp⟩ := hwp
          have hs3 : ∀ (n3 : Nat) (H : Heap) (locs : List Loc) (ls : Array Slot) (t57_0 : Int32) (t57_1 : Int32) (t57_2 : Int32) (t57_3 : Int32), wLX0_facesBetween_1_57_1 f0 f5 K  n3 t57_0 t57_1 t57_2 t57_3 → va_P G vwCl [(h0, aI cI 20 f0), (h1, .inr (0, [.ref k0, .ref k1, .ref k2, .ref k3, .ref h3, .ref k4, .ref h2, .ref k5, .ref k6, .ref k7, .ref h0, .int i1, .int i2, .int i3, .int i4])), (h2, aI cI 20 f5), (h3, aI cI 20 f6)] H → va_D A [(h0, aI cI 20 f0), (h1, .inr (0, [.ref k0, .ref k1, .ref k2, .ref k3, .ref h3, .ref k4, .ref h2, .ref k5, .ref k6, .ref k7, .ref h0, .int i1, .int i2, .int i3, .int i4])), (h2, aI cI 20 f5), (h3, aI cI 20 f6)] → va_S A s.heap H locs → lv_has ls 8 [(7, .int t57_3), (6, .int t57_2), (5, .int t57_1), (4, .int t57_0), (0, .ref h1), (3, .ref h0)] → W p l e ((headSpec (xw yX0_facesBetween cX0_facesBetween 8 (some .int)) { frames := 0, cells := 0, slots := 0, locals := 0 }).room) s m ([.ref h1, .int p0, .ref h3, .ref h0] : List Value).toArray below meth c H locs 0 0 QQ (F0 m 57 ls []) := by
            intro n3
            induction n3 with
            | zero => intro H locs ls t57_0 t57_1 t57_2 t57_3 hwp; exact False.elim hwp
            | succ n3 ih3 =>
              intro H locs ls t57_0 t57_1 t57_2 t57_3 hwp hP hD hS hl
              rw [wLX0_facesBetween_1_57_1] at hwp
              refine lv_iload hx hb dX0_facesBetween_57 (lv_at hl 0 rfl) ?_
              refine lv_bipush (v := 20) hx hb dX0_facesBetween_59 (by decide) ?_
              refine lv_icmp_ge (tgt := 96) hx hb dX0_facesBetween_61 (by decide) (fun c61 => ?_) (fun c61 => ?_)
              · replace hwp := hwp.1 c61
                refine lv_iconst (v := 2) hx hb dX0_facesBetween_96 (by decide) ?_
                refine lv_iload hx hb dX0_facesBetween_97 (lv_at hl 3 rfl) ?_
                refine lv_imul hx hb dX0_facesBetween_99 ?_
                refine lv_iload hx hb dX0_facesBetween_100 (lv_at hl 2 rfl) ?_
                refine lv_isub hx hb dX0_facesBetween_102 ?_
                refine lv_iconst (v := 2) hx hb dX0_facesBetween_103 (by decide) ?_
                refine lv_isub hx hb dX0_facesBetween_104 ?_
                have hP9 : va_P G vwCl [(h0, aI cI 20 f0), (h1, .inr (0, [.ref k0, .ref k1, .ref k2, .ref k3, .ref h3, .ref k4, .ref h2, .ref k5, .ref k6, .ref k7, .ref h0, .int i1, .int i2, .int i3, .int i4])), (h2, aI cI 20 f5), (h3, aI cI 20 f6)] H := hP.sub [0, 1, 2, 3] rfl
                have hD9 : va_D A [(h0, aI cI 20 f0), (h1, .inr (0, [.ref k0, .ref k1, .ref k2, .ref k3, .ref h3, .ref k4, .ref h2, .ref k5, .ref k6, .ref k7, .ref h0, .int i1, .int i2, .int i3, .int i4])), (h2, aI cI 20 f5), (h3, aI cI 20 f6)] := hD.sub [0, 1, 2, 3] (by decide) rfl
                rw [← hQQ]
                exact W.iret (v := ((((2 : Int32) * t57_0) - t57_1) - 2)) hx hb hr (fun t ht hW => ⟨⟨_, (), rfl, hwp, by rw [ht]; exact hP9, hD9⟩, hS.F ht⟩) hS.2.2 dX0_facesBetween_105
              · replace hwp := hwp.2 c61
                refine lv_iload hx hb dX0_facesBetween_64 (lv_at hl 1 rfl) ?_
                refine lv_if_lt (tgt := 96) hx hb dX0_facesBetween_66 (by decide) (fun c66 => ?_) (fun c66 => ?_)
                · replace hwp := hwp.1 c66
                  refine lv_iconst (v := 2) hx hb dX0_facesBetween_96 (by decide) ?_
                  refine lv_iload hx hb dX0_facesBetween_97 (lv_at hl 3 rfl) ?_
                  refine lv_imul hx hb dX0_facesBetween_99 ?_
                  refine lv_iload hx hb dX0_facesBetween_100 (lv_at hl 2 rfl) ?_
                  refine lv_isub hx hb dX0_facesBetween_102 ?_
                  refine lv_iconst (v := 2) hx hb dX0_facesBetween_103 (by decide) ?_
                  refine lv_isub hx hb dX0_facesBetween_104 ?_
                  have hP9 : va_P G vwCl [(h0, aI cI 20 f0), (h1, .inr (0, [.ref k0, .ref k1, .ref k2, .ref k3, .ref h3, .ref k4, .ref h2, .ref k5, .ref k6, .ref k7, .ref h0, .int i1, .int i2, .int i3, .int i4])), (h2, aI cI 20 f5), (h3, aI cI 20 f6)] H := hP.sub [0, 1, 2, 3] rfl
                  have hD9 : va_D A [(h0, aI cI 20 f0), (h1, .inr (0, [.ref k0, .ref k1, .ref k2, .ref k3, .ref h3, .ref k4, .ref h2, .ref k5, .ref k6, .ref k7, .ref h0, .int i1, .int i2, .int i3, .int i4])), (h2, aI cI 20 f5), (h3, aI cI 20 f6)] := hD.sub [0, 1, 2, 3] (by decide) rfl
                  rw [← hQQ]
                  exact W.iret (v := ((((2 : Int32) * t57_0) - t57_1) - 2)) hx hb hr (fun t ht hW => ⟨⟨_, (), rfl, hwp, by rw [ht]; exact hP9, hD9⟩, hS.F ht⟩) hS.2.2 dX0_facesBetween_105
                · replace hwp := hwp.2 c66
                  refine lv_iload hx hb dX0_facesBetween_69 (lv_at hl 3 rfl) ?_
                  refine lv_aload_n hx hb dX0_facesBetween_71 rfl (lv_at hl 5 rfl) ?_
                  refine lv_iload hx hb dX0_facesBetween_72 (lv_at hl 1 rfl) ?_
                  obtain ⟨hi, hwp⟩ := hwp
                  refine va_iald hx hb hK hP 0 0 rfl rfl hi dX0_facesBetween_74 ?_
                  refine lv_iadd hx hb dX0_facesBetween_75 ?_
                  refine lv_topi (fun v76 ev76 => ?_)
                  replace hwp := hwp v76 ev76
                  clear ev76
                  refine lv_istore (lv' := [(4, .int v76), (7, .int t57_3), (6, .int t57_2), (5, .int t57_1), (0, .ref h1), (3, .ref h0)]) hx hb dX0_facesBetween_76 hl (by decide) rfl (fun ls hl => ?_)
                  refine lv_iinc (v := (t57_1 + 1)) (lv' := [(5, .int (t57_1 + 1)), (4, .int v76), (7, .int t57_3), (6, .int t57_2), (0, .ref h1), (3, .ref h0)]) hx hb dX0_facesBetween_78 hl (k := 3) rfl rfl (by decide) rfl (fun ls hl => ?_)
                  refine lv_aload_n hx hb dX0_facesBetween_81 rfl (lv_at hl 4 rfl) ?_
                  refine va_get (D := G) (ci := 0) (v := .ref h2) (C := RX0) (T := TX0) (N := 15) hx hb hts xinX0 hown hK hP 1 rfl rfl 6 (by decide) (hts _ wo_142) (fun _ h9 => h9) rfl dX0_facesBetween_82 ?_
                  refine lv_iload hx hb dX0_facesBetween_85 (lv_at hl 3 rfl) ?_
                  obtain ⟨hi, hwp⟩ := hwp
                  refine va_iald hx hb hK hP 2 0 rfl rfl hi dX0_facesBetween_87 ?_
                  refine lv_topi (fun v88 ev88 => ?_)
                  replace hwp := hwp v88 ev88
                  clear ev88
                  refine lv_istore (lv' := [(6, .int v88), (5, .int (t57_1 + 1)), (4, .int v76), (7, .int t57_3), (0, .ref h1), (3, .ref h0)]) hx hb dX0_facesBetween_88 hl (by decide) rfl (fun ls hl => ?_)
                  refine lv_iinc (v := (t57_3 + 1)) (lv' := [(7, .int (t57_3 + 1)), (6, .int v88), (5, .int (t57_1 + 1)), (4, .int v76), (0, .ref h1), (3, .ref h0)]) hx hb dX0_facesBetween_90 hl (k := 3) rfl rfl (by decide) rfl (fun ls hl => ?_)
                  refine lv_goto (tgt := 57) hx hb dX0_facesBetween_93 (by decide) ?_
                  replace hl : lv_has ls 8 [(7, .int (t57_3 + 1)), (6, .int v88), (5, .int (t57_1 + 1)), (4, .int v76), (0, .ref h1), (3, .ref h0)] := lv_sub hl [0, 1, 2, 3, 4, 5] rfl
                  exact ih3 H locs ls v76 (t57_1 + 1) v88 (t57_3 + 1) hwp hP hD hS hl
          exact hs3 n3 H locs ls t15_0 t15_1 p0 0 hwp hP hD hS hl
        · replace hwp := hwp.2 c24
          refine lv_iload hx hb dX0_facesBetween_27 (lv_at hl 3 rfl) ?_
          refine lv_aload_n hx hb dX0_facesBetween_29 rfl (lv_at hl 7 rfl) ?_
          refine lv_iload hx hb dX0_facesBetween_30 (lv_at hl 1 rfl) ?_
          obtain ⟨hi, hwp⟩ := hwp
          refine va_iald hx hb hK hP 0 0 rfl rfl hi dX0_facesBetween_32 ?_
          refine lv_iadd hx hb dX0_facesBetween_33 ?_
          refine lv_topi (fun v34 ev34 => ?_)
          replace hwp := hwp v34 ev34
          clear ev34
          refine lv_istore (lv' := [(4, .int v34), (7, .int t15_3), (6, .int t15_2), (5, .int t15_1), (0, .ref h1), (1, .int p0), (2, .ref h3), (3, .ref h0)]) hx hb dX0_facesBetween_34 hl (by decide) rfl (fun ls hl => ?_)
          refine lv_iinc (v := (t15_1 + 1)) (lv' := [(5, .int (t15_1 + 1)), (4, .int v34), (7, .int t15_3), (6, .int t15_2), (0, .ref h1), (1, .int p0), (2, .ref h3), (3, .ref h0)]) hx hb dX0_facesBetween_36 hl (k := 3) rfl rfl (by decide) rfl (fun ls hl => ?_)
          refine lv_aload_n hx hb dX0_facesBetween_39 rfl (lv_at hl 6 rfl) ?_
          refine lv_iload hx hb dX0_facesBetween_40 (lv_at hl 3 rfl) ?_
          obtain ⟨hi, hwp⟩ := hwp
          refine va_iald hx hb hK hP 3 0 rfl rfl hi dX0_facesBetween_42 ?_
          refine lv_topi (fun v43 ev43 => ?_)
          replace hwp := hwp v43 ev43
          clear ev43
          refine lv_istore (lv' := [(6, .int v43), (5, .int (t15_1 + 1)), (4, .int v34), (7, .int t15_3), (0, .ref h1), (1, .int p0), (2, .ref h3), (3, .ref h0)]) hx hb dX0_facesBetween_43 hl (by decide) rfl (fun ls hl => ?_)
          refine lv_iinc (v := (t15_3 + 1)) (lv' := [(7, .int (t15_3 + 1)), (6, .int v43), (5, .int (t15_1 + 1)), (4, .int v34), (0, .ref h1), (1, .int p0), (2, .ref h3), (3, .ref h0)]) hx hb dX0_facesBetween_45 hl (k := 3) rfl rfl (by decide) rfl (fun ls hl => ?_)
          refine lv_goto (tgt := 15) hx hb dX0_facesBetween_48 (by decide) ?_
          replace hl : lv_has ls 8 [(7, .int (t15_3 + 1)), (6, .int v43), (5, .int (t15_1 + 1)), (4, .int v34), (0, .ref h1), (1, .int p0), (2, .ref h3), (3, .ref h0)] := lv_sub hl [0, 1, 2, 3, 4, 5, 6, 7] rfl
          exact ih1 H locs ls v34 (t15_1 + 1) v43 (t15_3 + 1) hwp hP hD hS hl
  exact hs1 n1 H locs ls v4 (-1) p0 0 hwp hP hD hS hl
def wLX0_countAll_26 (i0 : Int32) (i1 : Int32) (i2 : Int32) (i3 : Int32) (i5 : Int32) (f6 : Nat → Int32) (f8 : Nat → Int32) (f11 : Nat → Int32) (u9 : (Nat → Int32)) (u21 : (Nat → Int32)) (K : ((Nat → Int32) × (Nat → Int32) × (Nat → Int32) × (Nat → Int32)) → Prop)  : Nat → (Nat → Int32) → (Nat → Int32) → Int32 → Prop
  | 0, _, _, _ => False
  | n26 + 1, t26_0, t26_1, t26_2 => ((i5 ≤ t26_2 → (vp_in i0 20 ∧ (∀ g124 : Nat → Int32, g124 = upd t26_0 (Int32.toNatClampNeg i0) (((2 : Int32) * i5) - 5) → (vp_in i1 20 ∧ (∀ g144 : Nat → Int32, g144 = upd t26_1 (Int32.toNatClampNeg i1) (((2 : Int32) * i5) - 5) → K (u9, u21, g124, g144)))))) ∧ (¬ i5 ≤ t26_2 → ((t26_2 = i0 → (wLX0_countAll_26 i0 i1 i2 i3 i5 f6 f8 f11 u9 u21 K  n26) t26_0 t26_1 (t26_2 + 1)) ∧ (¬ t26_2 = i0 → ((t26_2 = i1 → (wLX0_countAll_26 i0 i1 i2 i3 i5 f6 f8 f11 u9 u21 K  n26) t26_0 t26_1 (t26_2 + 1)) ∧ (¬ t26_2 = i1 → ((t26_2 = i2 → (wLX0_countAll_26 i0 i1 i2 i3 i5 f6 f8 f11 u9 u21 K  n26) t26_0 t26_1 (t26_2 + 1)) ∧ (¬ t26_2 = i2 → (wX0_facesBetween u9 i0 i1 i2 i3 f11 f8 t26_2 (fun r76 _ => (vp_in t26_2 20 ∧ (∀ g79 : Nat → Int32, g79 = upd t26_0 (Int32.toNatClampNeg t26_2) r76 → (wX0_facesBetween_1 u21 i0 i1 i2 i3 f11 f6 t26_2 (fun r95 _ => (vp_in t26_2 20 ∧ (∀ g98 : Nat → Int32, g98 = upd t26_1 (Int32.toNatClampNeg t26_2) r95 → (wLX0_countAll_26 i0 i1 i2 i3 i5 f6 f8 f11 u9 u21 K  n26) g79 g98 (t26_2 + 1)))))))))))))))))
def wX0_countAll (i0 : Int32) (i1 : Int32) (i2 : Int32) (i3 : Int32) (f4 : Nat → Int32) (i5 : Int32) (f6 : Nat → Int32) (f7 : Nat → Int32) (f8 : Nat → Int32) (f9 : Nat → Int32) (f10 : Nat → Int32) (f11 : Nat → Int32) (K : ((Nat → Int32) × (Nat → Int32) × (Nat → Int32) × (Nat → Int32)) → Prop) : Prop := (wX0_countOver f4 i0 i1 i2 i3 i5 f6 (fun u9 => (wX0_countOver_1 f7 i0 i1 i2 i3 i5 f8 (fun u21 => (∃ n26, wLX0_countAll_26 i0 i1 i2 i3 i5 f6 f8 f11 u9 u21 K  n26 f9 f10 0)))))
set_option maxHeartbeats 4000000 in
set_option maxRecDepth 100000 in
theorem zX0_countAll (l : Launch) (G : va_G) (cI cJ cZ : ClassId) (h0 h1 h2 h3 h4 h5 h6 h7 h8 k0 k1 k2 k3 k4 sz : Nat) (i0 : Int32) (i1 : Int32) (i2 : Int32) (i3 : Int32) (f4 : Nat → Int32) (i5 : Int32) (f6 : Nat → Int32) (f7 : Nat → Int32) (f8 : Nat → Int32) (f9 : Nat → Int32) (f10 : Nat → Int32) (f11 : Nat → Int32) (K : ((Nat → Int32) × (Nat → Int32) × (Nat → Int32) × (Nat → Int32)) → Prop) (hwp : wX0_countAll i0 i1 i2 i3 f4 i5 f6 f7 f8 f9 f10 f11 K) : Met l yX0_countAll (xw yX0_countAll cX0_countAll 2 none) ({ frames := 2, cells := 0, slots := 0, locals := 48 }) (xPc G cI cJ cZ [.ref h0] [(h0, .inr (0, [.ref h2, .ref k0, .ref h6, .ref h7, .ref h3, .ref h5, .ref h8, .ref k1, .ref k2, .ref h1, .ref h4, .int i0, .int i1, .int i2, .int i3])), (h1, aI cI 20 f4), (h2, .inr (2, [.ref k3, .ref k4, .int i5])), (h3, aI cI 20 f6), (h4, aI cI 20 f7), (h5, aI cI 20 f8), (h6, aI cI 20 f9), (h7, aI cI 20 f10), (h8, aI cI 20 f11)] sz) (va_Qv (fun (u : (Nat → Int32) × (Nat → Int32) × (Nat → Int32) × (Nat → Int32)) => K u) (fun (u : (Nat → Int32) × (Nat → Int32) × (Nat → Int32) × (Nat → Int32)) t => xB G (va_A [(h0, .inr (0, [.ref h2, .ref k0, .ref h6, .ref h7, .ref h3, .ref h5, .ref h8, .ref k1, .ref k2, .ref h1, .ref h4, .int i0, .int i1, .int i2, .int i3])), (h1, aI cI 20 f4), (h2, .inr (2, [.ref k3, .ref k4, .int i5])), (h3, aI cI 20 f6), (h4, aI cI 20 f7), (h5, aI cI 20 f8), (h6, aI cI 20 f9), (h7, aI cI 20 f10), (h8, aI cI 20 f11)] sz) [(h0, .inr (0, [.ref h2, .ref k0, .ref h6, .ref h7, .ref h3, .ref h5, .ref h8, .ref k1, .ref k2, .ref h1, .ref h4, .int i0, .int i1, .int i2, .int i3])), (h1, aI cI 20 u.1), (h2, .inr (2, [.ref k3, .ref k4, .int i5])), (h3, aI cI 20 f6), (h4, aI cI 20 u.2.1), (h5, aI cI 20 f8), (h6, aI cI 20 u.2.2.1), (h7, aI cI 20 u.2.2.2), (h8, aI cI 20 f11)] t) (va_A [(h0, .inr (0, [.ref h2, .ref k0, .ref h6, .ref h7, .ref h3, .ref h5, .ref h8, .ref k1, .ref k2, .ref h1, .ref h4, .int i0, .int i1, .int i2, .int i3])), (h1, aI cI 20 f4), (h2, .inr (2, [.ref k3, .ref k4, .int i5])), (h3, aI cI 20 f6), (h4, aI cI 20 f7), (h5, aI cI 20 f8), (h6, aI cI 20 f9), (h7, aI cI 20 f10), (h8, aI cI 20 f11)] sz)) 0 0 (va_A [(h0, .inr (0, [.ref h2, .ref k0, .ref h6, .ref h7, .ref h3, .ref h5, .ref h8, .ref k1, .ref k2, .ref h1, .ref h4, .int i0, .int i1, .int i2, .int i3])), (h1, aI cI 20 f4), (h2, .inr (2, [.ref k3, .ref k4, .int i5])), (h3, aI cI 20 f6), (h4, aI cI 20 f7), (h5, aI cI 20 f8), (h6, aI cI 20 f9), (h7, aI cI 20 f10), (h8, aI cI 20 f11)] sz) := by
  refine Met.ofW (cc := cX0_countAll) (maxL := 2) (ret := none) (by decide) rfl ?_
  intro p e s m args below meth c s₁ B hml hv
  obtain ⟨rfl, hsz, hP, hK, hD0, hN⟩ := hv
  have hx := B.exec
  have hb := B.bytes
  have hr := B.returns
  have hts : ∀ w ∈ xW, w.before _ s = true := fun w h => atoms_spec (ws := xw yX0_countAll cX0_countAll 2 none) B.pre w (List.mem_cons_of_mem _ h)
  have hown : s.vm.findClass RX0 = some m.cls := findClass_of_methodNamed B.named
  have hlocks := B.notSynchronized
  subst hsz
  have hD := hD0.self (sz := s.heap.size)
  clear hD0
  generalize hAe : va_A [(h0, .inr (0, [.ref h2, .ref k0, .ref h6, .ref h7, .ref h3, .ref h5, .ref h8, .ref k1, .ref k2, .ref h1, .ref h4, .int i0, .int i1, .int i2, .int i3])), (h1, aI cI 20 f4), (h2, .inr (2, [.ref k3, .ref k4, .int i5])), (h3, aI cI 20 f6), (h4, aI cI 20 f7), (h5, aI cI 20 f8), (h6, aI cI 20 f9), (h7, aI cI 20 f10), (h8, aI cI 20 f11)] s.heap.size = A at hD ⊢
  have hA : ∀ q : Nat, s.heap.size ≤ q → A q := fun q h => by rw [← hAe]; exact Or.inr h
  clear hAe
  have hS : va_S A s.heap s.heap [] := va_S.rf
  replace hP : va_P G vwCl [(h0, .inr (0, [.ref h2, .ref k0, .ref h6, .ref h7, .ref h3, .ref h5, .ref h8, .ref k1, .ref k2, .ref h1, .ref h4, .int i0, .int i1, .int i2, .int i3])), (h1, aI cI 20 f4), (h2, .inr (2, [.ref k3, .ref k4, .int i5])), (h3, aI cI 20 f6), (h4, aI cI 20 f7), (h5, aI cI 20 f8), (h6, aI cI 20 f9), (h7, aI cI 20 f10), (h8, aI cI 20 f11)] s.heap := hP
  have hl := lv_entry ([.ref h0]) (n := 2) (Nat.le_of_ble_eq_true rfl)
  rw [lg_entry_eq]
  generalize (lg_sl ([.ref h0]) ++ List.replicate (2 - (lg_sl ([.ref h0])).length) Slot.unset).toArray = ls at hl ⊢
  replace hl : lv_has ls 2 [(0, .ref h0)] := hl
  generalize hQQ : MQ below _ _ s 0 0 _ = QQ
  skip
  unfold wX0_countAll at hwp
  refine lv_aload_n hx hb dX0_countAll_0 rfl (lv_at hl 0 rfl) ?_
  refine lv_aload_n hx hb dX0_countAll_1 rfl (lv_at hl 0 rfl) ?_
  refine va_get (D := G) (ci := 0) (v := .ref h3) (C := RX0) (T := TX0) (N := 15) hx hb hts xinX0 hown hK hP 0 rfl rfl 4 (by decide) (hts _ wo_134) (fun _ h9 => h9) rfl dX0_countAll_2 ?_
  refine lv_aload_n hx hb dX0_countAll_5 rfl (lv_at hl 0 rfl) ?_
  refine va_get (D := G) (ci := 0) (v := .ref h1) (C := RX0) (T := TX0) (N := 15) hx hb hts xinX0 hown hK hP 0 rfl rfl 9 (by decide) (hts _ wo_153) (fun _ h9 => h9) rfl dX0_countAll_6 ?_
  refine xcv (wr := [(h4, aI cI 20 f7), (h5, aI cI 20 f8), (h6, aI cI 20 f9), (h7, aI cI 20 f10), (h8, aI cI 20 f11)]) (va_runV (As := [.ref h3, .ref h1]) (rest := []) ⟨hx, hb, hml, hown, hts⟩ (zX0_countOver l G cI cJ cZ h1 h0 h2 h3 k0 h6 h7 h5 h8 k1 k2 h4 k3 k4 s.heap.size f4 i0 i1 i2 i3 i5 f6 _ hwp) (cwV 2 hts (xgoodV wo_154 wo_155 wo_156 wo_157 wo_141) rfl rfl rfl (by decide +kernel) ⟨Nat.le_of_ble_eq_true rfl, Nat.le_of_ble_eq_true rfl⟩) (xPreV (q := (RX0, TX0, 15)) (q0 := 0) hK hN hP hD [1, 0, 2, 3] (by decide) rfl rfl rfl) rfl rfl hl.1 rfl (lv_room (Nat.le_of_ble_eq_true rfl)) dX0_countAll_9 ⟨Nat.le_of_ble_eq_true rfl, Nat.le_of_ble_eq_true rfl⟩) hP hD hS hA [1, 0, 2, 3] [4, 5, 6, 7, 8] rfl rfl (by decide) (by decide) (fun u9 H locs hwp hP hD hS => ?_)
  replace hP : va_P G vwCl [(h4, aI cI 20 f7), (h5, aI cI 20 f8), (h6, aI cI 20 f9), (h7, aI cI 20 f10), (h8, aI cI 20 f11), (h1, aI cI 20 u9), (h0, .inr (0, [.ref h2, .ref k0, .ref h6, .ref h7, .ref h3, .ref h5, .ref h8, .ref k1, .ref k2, .ref h1, .ref h4, .int i0, .int i1, .int i2, .int i3])), (h2, .inr (2, [.ref k3, .ref k4, .int i5])), (h3, aI cI 20 f6)] H := hP
  replace hD : va_D A [(h4, aI cI 20 f7), (h5, aI cI 20 f8), (h6, aI cI 20 f9), (h7, aI cI 20 f10), (h8, aI cI 20 f11), (h1, aI cI 20 u9), (h0, .inr (0, [.ref h2, .ref k0, .ref h6, .ref h7, .ref h3, .ref h5, .ref h8, .ref k1, .ref k2, .ref h1, .ref h4, .int i0, .int i1, .int i2, .int i3])), (h2, .inr (2, [.ref k3, .ref k4, .int i5])), (h3, aI cI 20 f6)] := hD
  refine lv_aload_n hx hb dX0_countAll_12 rfl (lv_at hl 0 rfl) ?_
  refine lv_aload_n hx hb dX0_countAll_13 rfl (lv_at hl 0 rfl) ?_
  refine va_get (D := G) (ci := 0) (v := .ref h5) (C := RX0) (T := TX0) (N := 15) hx hb hts xinX0 hown hK hP 6 rfl rfl 5 (by decide) (hts _ wo_135) (fun _ h9 => h9) rfl dX0_countAll_14 ?_
  refine lv_aload_n hx hb dX0_countAll_17 rfl (lv_at hl 0 rfl) ?_
  refine va_get (D := G) (ci := 0) (v := .ref h4) (C := RX0) (T := TX0) (N := 15) hx hb hts xinX0 hown hK hP 6 rfl rfl 10 (by decide) (hts _ wo_158) (fun _ h9 => h9) rfl dX0_countAll_18 ?_
  refine xcv (wr := [(h6, aI cI 20 f9), (h7, aI cI 20 f10), (h8, aI cI 20 f11), (h1, aI cI 20 u9), (h3, aI cI 20 f6)]) (va_runV (As := [.ref h5, .ref h4]) (rest := []) ⟨hx, hb, hml, hown, hts⟩ (zX0_countOver_1 l G cI cJ cZ h4 h0 h2 h5 k0 h6 h7 h3 h8 k1 k2 h1 k3 k4 H.size f7 i0 i1 i2 i3 i5 f8 _ hwp) (cwV 2 hts (xgoodV wo_154 wo_155 wo_156 wo_157 wo_141) rfl rfl rfl (by decide +kernel) ⟨Nat.le_of_ble_eq_true rfl, Nat.le_of_ble_eq_true rfl⟩) (xPreV (q := (RX0, TX0, 15)) (q0 := 6) hK hN hP hD [0, 6, 7, 1] (by decide) rfl rfl rfl) rfl rfl hl.1 rfl (lv_room (Nat.le_of_ble_eq_true rfl)) dX0_countAll_21 ⟨Nat.le_of_ble_eq_true rfl, Nat.le_of_ble_eq_true rfl⟩) hP hD hS hA [0, 6, 7, 1] [2, 3, 4, 5, 8] rfl rfl (by decide) (by decide) (fun u21 H locs hwp hP hD hS => ?_)
  replace hP : va_P G vwCl [(h6, aI cI 20 f9), (h7, aI cI 20 f10), (h8, aI cI 20 f11), (h1, aI cI 20 u9), (h3, aI cI 20 f6), (h4, aI cI 20 u21), (h0, .inr (0, [.ref h2, .ref k0, .ref h6, .ref h7, .ref h3, .ref h5, .ref h8, .ref k1, .ref k2, .ref h1, .ref h4, .int i0, .int i1, .int i2, .int i3])), (h2, .inr (2, [.ref k3, .ref k4, .int i5])), (h5, aI cI 20 f8)] H := hP
  replace hD : va_D A [(h6, aI cI 20 f9), (h7, aI cI 20 f10), (h8, aI cI 20 f11), (h1, aI cI 20 u9), (h3, aI cI 20 f6), (h4, aI cI 20 u21), (h0, .inr (0, [.ref h2, .ref k0, .ref h6, .ref h7, .ref h3, .ref h5, .ref h8, .ref k1, .ref k2, .ref h1, .ref h4, .int i0, .int i1, .int i2, .int i3])), (h2, .inr (2, [.ref k3, .ref k4, .int i5])), (h5, aI cI 20 f8)] := hD
  refine lv_iconst (v := 0) hx hb dX0_countAll_24 (by decide) ?_
  refine lv_istore_n (lv' := [(1, .int 0), (0, .ref h0)]) hx hb dX0_countAll_25 rfl hl (by decide) rfl (fun ls hl => ?_)
  replace hl : lv_has ls 2 [(1, .int 0), (0, .ref h0)] := lv_sub hl [0, 1] rfl
  obtain ⟨n1, hwp⟩ := hwp
  have hs1 : ∀ (n1 : Nat) (H : Heap) (locs : List Loc) (ls : Array Slot) (t26_0 : Nat → Int32) (t26_1 : Nat → Int32) (t26_2 : Int32), wLX0_countAll_26 i0 i1 i2 i3 i5 f6 f8 f11 u9 u21 K  n1 t26_0 t26_1 t26_2 → va_P G vwCl [(h6, aI cI 20 t26_0), (h7, aI cI 20 t26_1), (h8, aI cI 20 f11), (h1, aI cI 20 u9), (h3, aI cI 20 f6), (h4, aI cI 20 u21), (h0, .inr (0, [.ref h2, .ref k0, .ref h6, .ref h7, .ref h3, .ref h5, .ref h8, .ref k1, .ref k2, .ref h1, .ref h4, .int i0, .int i1, .int i2, .int i3])), (h2, .inr (2, [.ref k3, .ref k4, .int i5])), (h5, aI cI 20 f8)] H → va_D A [(h6, aI cI 20 t26_0), (h7, aI cI 20 t26_1), (h8, aI cI 20 f11), (h1, aI cI 20 u9), (h3, aI cI 20 f6), (h4, aI cI 20 u21), (h0, .inr (0, [.ref h2, .ref k0, .ref h6, .ref h7, .ref h3, .ref h5, .ref h8, .ref k1, .ref k2, .ref h1, .ref h4, .int i0, .int i1, .int i2, .int i3])), (h2, .inr (2, [.ref k3, .ref k4, .int i5])), (h5, aI cI 20 f8)] → va_S A s.heap H locs → lv_has ls 2 [(1, .int t26_2), (0, .ref h0)] → W p l e ((headSpec (xw yX0_countAll cX0_countAll 2 none) { frames := 2, cells := 0, slots := 0, locals := 48 }).room) s m ([.ref h0] : List Value).toArray below meth c H locs 0 0 QQ (F0 m 26 ls []) := by
    intro n1
    induction n1 with
    | zero => intro H locs ls t26_0 t26_1 t26_2 hwp; exact False.elim hwp
    | succ n1 ih1 =>
      intro H locs ls t26_0 t26_1 t26_2 hwp hP hD hS hl
      rw [wLX0_countAll_26] at hwp
      refine lv_iload_n hx hb dX0_countAll_26 rfl (lv_at hl 0 rfl) ?_
      refine lv_aload_n hx hb dX0_countAll_27 rfl (lv_at hl 1 rfl) ?_
      refine va_get (D := G) (ci := 0) (v := .ref h2) (C := RX0) (T := TX0) (N := 15) hx hb hts xinX0 hown hK hP 6 rfl rfl 0 (by decide) (hts _ wo_127) (fun _ h9 => h9) rfl dX0_countAll_28 ?_
      refine va_getN (D := G) (ci := 2) (v := .int i5) (C := RX2) (T := TX2) (N := 3) hx hb hts xinX2 hown hK hP 7 rfl rfl 2 (by decide) (va_Nw.use rfl (hN.1 ("PlaneTests$Drawing", 53, "PlaneTests$Filled", "nodes", "I", "PlaneTests") (by decide +kernel))) (fun _ h9 => h9) rfl dX0_countAll_31 ?_
      refine lv_icmp_ge (tgt := 105) hx hb dX0_countAll_34 (by decide) (fun c34 => ?_) (fun c34 => ?_)
      · replace hwp := hwp.1 c34
        refine lv_aload_n hx hb dX0_countAll_105 rfl (lv_at hl 1 rfl) ?_
        refine va_get (D := G) (ci := 0) (v := .ref h6) (C := RX0) (T := TX0) (N := 15) hx hb hts xinX0 hown hK hP 6 rfl rfl 2 (by decide) (hts _ wo_159) (fun _ h9 => h9) rfl dX0_countAll_106 ?_
        refine lv_aload_n hx hb dX0_countAll_109 rfl (lv_at hl 1 rfl) ?_
        refine va_get (D := G) (ci := 0) (v := .int i0) (C := RX0) (T := TX0) (N := 15) hx hb hts xinX0 hown hK hP 6 rfl rfl 11 (by decide) (hts _ wo_126) (fun _ h9 => h9) rfl dX0_countAll_110 ?_
        refine lv_iconst (v := 2) hx hb dX0_countAll_113 (by decide) ?_
        refine lv_aload_n hx hb dX0_countAll_114 rfl (lv_at hl 1 rfl) ?_
        refine va_get (D := G) (ci := 0) (v := .ref h2) (C := RX0) (T := TX0) (N := 15) hx hb hts xinX0 hown hK hP 6 rfl rfl 0 (by decide) (hts _ wo_127) (fun _ h9 => h9) rfl dX0_countAll_115 ?_
        refine va_getN (D := G) (ci := 2) (v := .int i5) (C := RX2) (T := TX2) (N := 3) hx hb hts xinX2 hown hK hP 7 rfl rfl 2 (by decide) (va_Nw.use rfl (hN.1 ("PlaneTests$Drawing", 53, "PlaneTests$Filled", "nodes", "I", "PlaneTests") (by decide +kernel))) (fun _ h9 => h9) rfl dX0_countAll_118 ?_
        refine lv_imul hx hb dX0_countAll_121 ?_
        refine lv_iconst (v := 5) hx hb dX0_countAll_122 (by decide) ?_
        refine lv_isub hx hb dX0_countAll_123 ?_
        obtain ⟨hi, hwp⟩ := hwp
        refine va_iast hx hb hK hP hD hS 0 0 rfl rfl hi dX0_countAll_124 (fun H locs hP hD hS => ?_)
        obtain ⟨g124, eg124⟩ : ∃ z, z = upd t26_0 (Int32.toNatClampNeg i0) (((2 : Int32) * i5) - 5) := ⟨_, rfl⟩
        replace hwp := hwp g124 eg124
        replace hP : va_P G vwCl [(h6, aI cI 20 g124), (h7, aI cI 20 t26_1), (h8, aI cI 20 f11), (h1, aI cI 20 u9), (h3, aI cI 20 f6), (h4, aI cI 20 u21), (h0, .inr (0, [.ref h2, .ref k0, .ref h6, .ref h7, .ref h3, .ref h5, .ref h8, .ref k1, .ref k2, .ref h1, .ref h4, .int i0, .int i1, .int i2, .int i3])), (h2, .inr (2, [.ref k3, .ref k4, .int i5])), (h5, aI cI 20 f8)] H := by rw [eg124]; exact hP
        replace hD : va_D A [(h6, aI cI 20 g124), (h7, aI cI 20 t26_1), (h8, aI cI 20 f11), (h1, aI cI 20 u9), (h3, aI cI 20 f6), (h4, aI cI 20 u21), (h0, .inr (0, [.ref h2, .ref k0, .ref h6, .ref h7, .ref h3, .ref h5, .ref h8, .ref k1, .ref k2, .ref h1, .ref h4, .int i0, .int i1, .int i2, .int i3])), (h2, .inr (2, [.ref k3, .ref k4, .int i5])), (h5, aI cI 20 f8)] := by rw [eg124]; exact hD
        clear eg124
        refine lv_aload_n hx hb dX0_countAll_125 rfl (lv_at hl 1 rfl) ?_
        refine va_get (D := G) (ci := 0) (v := .ref h7) (C := RX0) (T := TX0) (N := 15) hx hb hts xinX0 hown hK hP 6 rfl rfl 3 (by decide) (hts _ wo_160) (fun _ h9 => h9) rfl dX0_countAll_126 ?_
        refine lv_aload_n hx hb dX0_countAll_129 rfl (lv_at hl 1 rfl) ?_
        refine va_get (D := G) (ci := 0) (v := .int i1) (C := RX0) (T := TX0) (N := 15) hx hb hts xinX0 hown hK hP 6 rfl rfl 12 (by decide) (hts _ wo_128) (fun _ h9 => h9) rfl dX0_countAll_130 ?_
        refine lv_iconst (v := 2) hx hb dX0_countAll_133 (by decide) ?_
        refine lv_aload_n hx hb dX0_countAll_134 rfl (lv_at hl 1 rfl) ?_
        refine va_get (D := G) (ci := 0) (v := .ref h2) (C := RX0) (T := TX0) (N := 15) hx hb hts xinX0 hown hK hP 6 rfl rfl 0 (by decide) (hts _ wo_127) (fun _ h9 => h9) rfl dX0_countAll_135 ?_
        refine va_getN (D := G) (ci := 2) (v := .int i5) (C := RX2) (T := TX2) (N := 3) hx hb hts xinX2 hown hK hP 7 rfl rfl 2 (by decide) (va_Nw.use rfl (hN.1 ("PlaneTests$Drawing", 53, "PlaneTests$Filled", "nodes", "I", "PlaneTests") (by decide +kernel))) (fun _ h9 => h9) rfl dX0_countAll_138 ?_
        refine lv_imul hx hb dX0_countAll_141 ?_
        refine lv_iconst (v := 5) hx hb dX0_countAll_142 (by decide) ?_
        refine lv_isub hx hb dX0_countAll_143 ?_
        obtain ⟨hi, hwp⟩ := hwp
        refine va_iast hx hb hK hP hD hS 1 0 rfl rfl hi dX0_countAll_144 (fun H locs hP hD hS => ?_)
        obtain ⟨g144, eg144⟩ : ∃ z, z = upd t26_1 (Int32.toNatClampNeg i1) (((2 : Int32) * i5) - 5) := ⟨_, rfl⟩
        replace hwp := hwp g144 eg144
        replace hP : va_P G vwCl [(h6, aI cI 20 g124), (h7, aI cI 20 g144), (h8, aI cI 20 f11), (h1, aI cI 20 u9), (h3, aI cI 20 f6), (h4, aI cI 20 u21), (h0, .inr (0, [.ref h2, .ref k0, .ref h6, .ref h7, .ref h3, .ref h5, .ref h8, .ref k1, .ref k2, .ref h1, .ref h4, .int i0, .int i1, .int i2, .int i3])), (h2, .inr (2, [.ref k3, .ref k4, .int i5])), (h5, aI cI 20 f8)] H := by rw [eg144]; exact hP
        replace hD : va_D A [(h6, aI cI 20 g124), (h7, aI cI 20 g144), (h8, aI cI 20 f11), (h1, aI cI 20 u9), (h3, aI cI 20 f6), (h4, aI cI 20 u21), (h0, .inr (0, [.ref h2, .ref k0, .ref h6, .ref h7, .ref h3, .ref h5, .ref h8, .ref k1, .ref k2, .ref h1, .ref h4, .int i0, .int i1, .int i2, .int i3])), (h2, .inr (2, [.ref k3, .ref k4, .int i5])), (h5, aI cI 20 f8)] := by rw [eg144]; exact hD
        clear eg144
        have hP9 : va_P G vwCl [(h0, .inr (0, [.ref h2, .ref k0, .ref h6, .ref h7, .ref h3, .ref h5, .ref h8, .ref k1, .ref k2, .ref h1, .ref h4, .int i0, .int i1, .int i2, .int i3])), (h1, aI cI 20 u9), (h2, .inr (2, [.ref k3, .ref k4, .int i5])), (h3, aI cI 20 f6), (h4, aI cI 20 u21), (h5, aI cI 20 f8), (h6, aI cI 20 g124), (h7, aI cI 20 g144), (h8, aI cI 20 f11)] H := hP.sub [6, 3, 7, 4, 5, 8, 0, 1, 2] rfl
        have hD9 : va_D A [(h0, .inr (0, [.ref h2, .ref k0, .ref h6, .ref h7, .ref h3, .ref h5, .ref h8, .ref k1, .ref k2, .ref h1, .ref h4, .int i0, .int i1, .int i2, .int i3])), (h1, aI cI 20 u9), (h2, .inr (2, [.ref k3, .ref k4, .int i5])), (h3, aI cI 20 f6), (h4, aI cI 20 u21), (h5, aI cI 20 f8), (h6, aI cI 20 g124), (h7, aI cI 20 g144), (h8, aI cI 20 f11)] := hD.sub [6, 3, 7, 4, 5, 8, 0, 1, 2] (by decide) rfl
        rw [← hQQ]
        exact W.vret hx hb hr (fun t ht hW => ⟨⟨(u9, u21, g124, g144), rfl, hwp, by rw [ht]; exact hP9, hD9⟩, hS.F ht⟩) hS.2.2 dX0_countAll_145
      · replace hwp := hwp.2 c34
        refine lv_iload_n hx hb dX0_countAll_37 rfl (lv_at hl 0 rfl) ?_
        refine lv_aload_n hx hb dX0_countAll_38 rfl (lv_at hl 1 rfl) ?_
        refine va_get (D := G) (ci := 0) (v := .int i0) (C := RX0) (T := TX0) (N := 15) hx hb hts xinX0 hown hK hP 6 rfl rfl 11 (by decide) (hts _ wo_126) (fun _ h9 => h9) rfl dX0_countAll_39 ?_
        refine lv_icmp_eq (tgt := 99) hx hb dX0_countAll_42 (by decide) (fun c42 => ?_) (fun c42 => ?_)
        · replace hwp := hwp.1 c42
          refine lv_iinc (v := (t26_2 + 1)) (lv' := [(1, .int (t26_2 + 1)), (0, .ref h0)]) hx hb dX0_countAll_99 hl (k := 0) rfl rfl (by decide) rfl (fun ls hl => ?_)
          refine lv_goto (tgt := 26) hx hb dX0_countAll_102 (by decide) ?_
          replace hl : lv_has ls 2 [(1, .int (t26_2 + 1)), (0, .ref h0)] := lv_sub hl [0, 1] rfl
          exact ih1 H locs ls t26_0 t26_1 (t26_2 + 1) hwp hP hD hS hl
        · replace hwp := hwp.2 c42
          refine lv_iload_n hx hb dX0_countAll_45 rfl (lv_at hl 0 rfl) ?_
          refine lv_aload_n hx hb dX0_countAll_46 rfl (lv_at hl 1 rfl) ?_
          refine va_get (D := G) (ci := 0) (v := .int i1) (C := RX0) (T := TX0) (N := 15) hx hb hts xinX0 hown hK hP 6 rfl rfl 12 (by decide) (hts _ wo_128) (fun _ h9 => h9) rfl dX0_countAll_47 ?_
          refine lv_icmp_eq (tgt := 99) hx hb dX0_countAll_50 (by decide) (fun c50 => ?_) (fun c50 => ?_)
          · replace hwp := hwp.1 c50
            refine lv_iinc (v := (t26_2 + 1)) (lv' := [(1, .int (t26_2 + 1)), (0, .ref h0)]) hx hb dX0_countAll_99 hl (k := 0) rfl rfl (by decide) rfl (fun ls hl => ?_)
            refine lv_goto (tgt := 26) hx hb dX0_countAll_102 (by decide) ?_
            replace hl : lv_has ls 2 [(1, .int (t26_2 + 1)), (0, .ref h0)] := lv_sub hl [0, 1] rfl
            exact ih1 H locs ls t26_0 t26_1 (t26_2 + 1) hwp hP hD hS hl
          · replace hwp := hwp.2 c50
            refine lv_iload_n hx hb dX0_countAll_53 rfl (lv_at hl 0 rfl) ?_
            refine lv_aload_n hx hb dX0_countAll_54 rfl (lv_at hl 1 rfl) ?_
            refine va_get (D := G) (ci := 0) (v := .int i2) (C := RX0) (T := TX0) (N := 15) hx hb hts xinX0 hown hK hP 6 rfl rfl 13 (by decide) (hts _ wo_131) (fun _ h9 => h9) rfl dX0_countAll_55 ?_
            refine lv_icmp_eq (tgt := 99) hx hb dX0_countAll_58 (by decide) (fun c58 => ?_) (fun c58 => ?_)
            · replace hwp := hwp.1 c58
              refine lv_iinc (v := (t26_2 + 1)) (lv' := [(1, .int (t26_2 + 1)), (0, .ref h0)]) hx hb dX0_countAll_99 hl (k := 0) rfl rfl (by decide) rfl (fun ls hl => ?_)
              refine lv_goto (tgt := 26) hx hb dX0_countAll_102 (by decide) ?_
              replace hl : lv_has ls 2 [(1, .int (t26_2 + 1)), (0, .ref h0)] := lv_sub hl [0, 1] rfl
              exact ih1 H locs ls t26_0 t26_1 (t26_2 + 1) hwp hP hD hS hl
            · replace hwp := hwp.2 c58
              refine lv_aload_n hx hb dX0_countAll_61 rfl (lv_at hl 1 rfl) ?_
              refine va_get (D := G) (ci := 0) (v := .ref h6) (C := RX0) (T := TX0) (N := 15) hx hb hts xinX0 hown hK hP 6 rfl rfl 2 (by decide) (hts _ wo_159) (fun _ h9 => h9) rfl dX0_countAll_62 ?_
              refine lv_iload_n hx hb dX0_countAll_65 rfl (lv_at hl 0 rfl) ?_
              refine lv_aload_n hx hb dX0_countAll_66 rfl (lv_at hl 1 rfl) ?_
              refine lv_iload_n hx hb dX0_countAll_67 rfl (lv_at hl 0 rfl) ?_
              refine lv_aload_n hx hb dX0_countAll_68 rfl (lv_at hl 1 rfl) ?_
              refine va_get (D := G) (ci := 0) (v := .ref h5) (C := RX0) (T := TX0) (N := 15) hx hb hts xinX0 hown hK hP 6 rfl rfl 5 (by decide) (hts _ wo_135) (fun _ h9 => h9) rfl dX0_countAll_69 ?_
              refine lv_aload_n hx hb dX0_countAll_72 rfl (lv_at hl 1 rfl) ?_
              refine va_get (D := G) (ci := 0) (v := .ref h1) (C := RX0) (T := TX0) (N := 15) hx hb hts xinX0 hown hK hP 6 rfl rfl 9 (by decide) (hts _ wo_153) (fun _ h9 => h9) rfl dX0_countAll_73 ?_
              refine xci (wr := [(h6, aI cI 20 t26_0), (h7, aI cI 20 t26_1), (h3, aI cI 20 f6), (h4, aI cI 20 u21), (h2, .inr (2, [.ref k3, .ref k4, .int i5]))]) (va_runV (As := [.int t26_2, .ref h5, .ref h1]) (rest := [.int t26_2, .ref h6]) ⟨hx, hb, hml, hown, hts⟩ (zX0_facesBetween l G cI cJ cZ h1 h0 h8 h5 h2 k0 h6 h7 h3 k1 k2 h4 H.size u9 i0 i1 i2 i3 f11 f8 t26_2 _ hwp) (cwV 3 hts (xgoodV wo_161 wo_162 wo_163 wo_164 wo_141) rfl rfl rfl (by decide +kernel) ⟨Nat.le_of_ble_eq_true rfl, Nat.le_of_ble_eq_true rfl⟩) (xPreV (q := (RX0, TX0, 15)) (q0 := 6) hK hN hP hD [3, 6, 2, 8] (by decide) rfl rfl rfl) rfl rfl hl.1 rfl (lv_room (Nat.le_of_ble_eq_true rfl)) dX0_countAll_76 ⟨Nat.le_of_ble_eq_true rfl, Nat.le_of_ble_eq_true rfl⟩) hP hD hS hA [3, 6, 2, 8] [0, 1, 4, 5, 7] rfl rfl (by decide) (by decide) (fun r76 u76 H locs hwp hP hD hS => ?_)
              replace hP : va_P G vwCl [(h6, aI cI 20 t26_0), (h7, aI cI 20 t26_1), (h3, aI cI 20 f6), (h4, aI cI 20 u21), (h2, .inr (2, [.ref k3, .ref k4, .int i5])), (h1, aI cI 20 u9), (h0, .inr (0, [.ref h2, .ref k0, .ref h6, .ref h7, .ref h3, .ref h5, .ref h8, .ref k1, .ref k2, .ref h1, .ref h4, .int i0, .int i1, .int i2, .int i3])), (h8, aI cI 20 f11), (h5, aI cI 20 f8)] H := hP
              replace hD : va_D A [(h6, aI cI 20 t26_0), (h7, aI cI 20 t26_1), (h3, aI cI 20 f6), (h4, aI cI 20 u21), (h2, .inr (2, [.ref k3, .ref k4, .int i5])), (h1, aI cI 20 u9), (h0, .inr (0, [.ref h2, .ref k0, .ref h6, .ref h7, .ref h3, .ref h5, .ref h8, .ref k1, .ref k2, .ref h1, .ref h4, .int i0, .int i1, .int i2, .int i3])), (h8, aI cI 20 f11), (h5, aI cI 20 f8)] := hD
              obtain ⟨hi, hwp⟩ := hwp
              refine va_iast hx hb hK hP hD hS 0 0 rfl rfl hi dX0_countAll_79 (fun H locs hP hD hS => ?_)
              obtain ⟨g79, eg79⟩ : ∃ z, z = upd t26_0 (Int32.toNatClampNeg t26_2) r76 := ⟨_, rfl⟩
              replace hwp := hwp g79 eg79
              replace hP : va_P G vwCl [(h6, aI cI 20 g79), (h7, aI cI 20 t26_1), (h3, aI cI 20 f6), (h4, aI cI 20 u21), (h2, .inr (2, [.ref k3, .ref k4, .int i5])), (h1, aI cI 20 u9), (h0, .inr (0, [.ref h2, .ref k0, .ref h6, .ref h7, .ref h3, .ref h5, .ref h8, .ref k1, .ref k2, .ref h1, .ref h4, .int i0, .int i1, .int i2, .int i3])), (h8, aI cI 20 f11), (h5, aI cI 20 f8)] H := by rw [eg79]; exact hP
              replace hD : va_D A [(h6, aI cI 20 g79), (h7, aI cI 20 t26_1), (h3, aI cI 20 f6), (h4, aI cI 20 u21), (h2, .inr (2, [.ref k3, .ref k4, .int i5])), (h1, aI cI 20 u9), (h0, .inr (0, [.ref h2, .ref k0, .ref h6, .ref h7, .ref h3, .ref h5, .ref h8, .ref k1, .ref k2, .ref h1, .ref h4, .int i0, .int i1, .int i2, .int i3])), (h8, aI cI 20 f11), (h5, aI cI 20 f8)] := by rw [eg79]; exact hD
              clear eg79
              refine lv_aload_n hx hb dX0_countAll_80 rfl (lv_at hl 1 rfl) ?_
              refine va_get (D := G) (ci := 0) (v := .ref h7) (C := RX0) (T := TX0) (N := 15) hx hb hts xinX0 hown hK hP 6 rfl rfl 3 (by decide) (hts _ wo_160) (fun _ h9 => h9) rfl dX0_countAll_81 ?_
              refine lv_iload_n hx hb dX0_countAll_84 rfl (lv_at hl 0 rfl) ?_
              refine lv_aload_n hx hb dX0_countAll_85 rfl (lv_at hl 1 rfl) ?_
              refine lv_iload_n hx hb dX0_countAll_86 rfl (lv_at hl 0 rfl) ?_
              refine lv_aload_n hx hb dX0_countAll_87 rfl (lv_at hl 1 rfl) ?_
              refine va_get (D := G) (ci := 0) (v := .ref h3) (C := RX0) (T := TX0) (N := 15) hx hb hts xinX0 hown hK hP 6 rfl rfl 4 (by decide) (hts _ wo_134) (fun _ h9 => h9) rfl dX0_countAll_88 ?_
              refine lv_aload_n hx hb dX0_countAll_91 rfl (lv_at hl 1 rfl) ?_
              refine va_get (D := G) (ci := 0) (v := .ref h4) (C := RX0) (T := TX0) (N := 15) hx hb hts xinX0 hown hK hP 6 rfl rfl 10 (by decide) (hts _ wo_158) (fun _ h9 => h9) rfl dX0_countAll_92 ?_
              refine xci (wr := [(h6, aI cI 20 g79), (h7, aI cI 20 t26_1), (h2, .inr (2, [.ref k3, .ref k4, .int i5])), (h1, aI cI 20 u9), (h5, aI cI 20 f8)]) (va_runV (As := [.int t26_2, .ref h3, .ref h4]) (rest := [.int t26_2, .ref h7]) ⟨hx, hb, hml, hown, hts⟩ (zX0_facesBetween_1 l G cI cJ cZ h4 h0 h8 h3 h2 k0 h6 h7 h5 k1 k2 h1 H.size u21 i0 i1 i2 i3 f11 f6 t26_2 _ hwp) (cwV 3 hts (xgoodV wo_161 wo_162 wo_163 wo_164 wo_141) rfl rfl rfl (by decide +kernel) ⟨Nat.le_of_ble_eq_true rfl, Nat.le_of_ble_eq_true rfl⟩) (xPreV (q := (RX0, TX0, 15)) (q0 := 6) hK hN hP hD [3, 6, 7, 2] (by decide) rfl rfl rfl) rfl rfl hl.1 rfl (lv_room (Nat.le_of_ble_eq_true rfl)) dX0_countAll_95 ⟨Nat.le_of_ble_eq_true rfl, Nat.le_of_ble_eq_true rfl⟩) hP hD hS hA [3, 6, 7, 2] [0, 1, 4, 5, 8] rfl rfl (by decide) (by decide) (fun r95 u95 H locs hwp hP hD hS => ?_)
              replace hP : va_P G vwCl [(h6, aI cI 20 g79), (h7, aI cI 20 t26_1), (h2, .inr (2, [.ref k3, .ref k4, .int i5])), (h1, aI cI 20 u9), (h5, aI cI 20 f8), (h4, aI cI 20 u21), (h0, .inr (0, [.ref h2, .ref k0, .ref h6, .ref h7, .ref h3, .ref h5, .ref h8, .ref k1, .ref k2, .ref h1, .ref h4, .int i0, .int i1, .int i2, .int i3])), (h8, aI cI 20 f11), (h3, aI cI 20 f6)] H := hP
              replace hD : va_D A [(h6, aI cI 20 g79), (h7, aI cI 20 t26_1), (h2, .inr (2, [.ref k3, .ref k4, .int i5])), (h1, aI cI 20 u9), (h5, aI cI 20 f8), (h4, aI cI 20 u21), (h0, .inr (0, [.ref h2, .ref k0, .ref h6, .ref h7, .ref h3, .ref h5, .ref h8, .ref k1, .ref k2, .ref h1, .ref h4, .int i0, .int i1, .int i2, .int i3])), (h8, aI cI 20 f11), (h3, aI cI 20 f6)] := hD
              obtain ⟨hi, hwp⟩ := hwp
              refine va_iast hx hb hK hP hD hS 1 0 rfl rfl hi dX0_countAll_98 (fun H locs hP hD hS => ?_)
              obtain ⟨g98, eg98⟩ : ∃ z, z = upd t26_1 (Int32.toNatClampNeg t26_2) r95 := ⟨_, rfl⟩
              replace hwp := hwp g98 eg98
              replace hP : va_P G vwCl [(h6, aI cI 20 g79), (h7, aI cI 20 g98), (h2, .inr (2, [.ref k3, .ref k4, .int i5])), (h1, aI cI 20 u9), (h5, aI cI 20 f8), (h4, aI cI 20 u21), (h0, .inr (0, [.ref h2, .ref k0, .ref h6, .ref h7, .ref h3, .ref h5, .ref h8, .ref k1, .ref k2, .ref h1, .ref h4, .int i0, .int i1, .int i2, .int i3])), (h8, aI cI 20 f11), (h3, aI cI 20 f6)] H := by rw [eg98]; exact hP
              replace hD : va_D A [(h6, aI cI 20 g79), (h7, aI cI 20 g98), (h2, .inr (2, [.ref k3, .ref k4, .int i5])), (h1, aI cI 20 u9), (h5, aI cI 20 f8), (h4, aI cI 20 u21), (h0, .inr (0, [.ref h2, .ref k0, .ref h6, .ref h7, .ref h3, .ref h5, .ref h8, .ref k1, .ref k2, .ref h1, .ref h4, .int i0, .int i1, .int i2, .int i3])), (h8, aI cI 20 f11), (h3, aI cI 20 f6)] := by rw [eg98]; exact hD
              clear eg98
              refine lv_iinc (v := (t26_2 + 1)) (lv' := [(1, .int (t26_2 + 1)), (0, .ref h0)]) hx hb dX0_countAll_99 hl (k := 0) rfl rfl (by decide) rfl (fun ls hl => ?_)
              refine lv_goto (tgt := 26) hx hb dX0_countAll_102 (by decide) ?_
              replace hl : lv_has ls 2 [(1, .int (t26_2 + 1)), (0, .ref h0)] := lv_sub hl [0, 1] rfl
              replace hP : va_P G vwCl [(h6, aI cI 20 g79), (h7, aI cI 20 g98), (h8, aI cI 20 f11), (h1, aI cI 20 u9), (h3, aI cI 20 f6), (h4, aI cI 20 u21), (h0, .inr (0, [.ref h2, .ref k0, .ref h6, .ref h7, .ref h3, .ref h5, .ref h8, .ref k1, .ref k2, .ref h1, .ref h4, .int i0, .int i1, .int i2, .int i3])), (h2, .inr (2, [.ref k3, .ref k4, .int i5])), (h5, aI cI 20 f8)] H := hP.sub [0, 1, 7, 3, 8, 5, 6, 2, 4] rfl
              replace hD : va_D A [(h6, aI cI 20 g79), (h7, aI cI 20 g98), (h8, aI cI 20 f11), (h1, aI cI 20 u9), (h3, aI cI 20 f6), (h4, aI cI 20 u21), (h0, .inr (0, [.ref h2, .ref k0, .ref h6, .ref h7, .ref h3, .ref h5, .ref h8, .ref k1, .ref k2, .ref h1, .ref h4, .int i0, .int i1, .int i2, .int i3])), (h2, .inr (2, [.ref k3, .ref k4, .int i5])), (h5, aI cI 20 f8)] := hD.sub [0, 1, 7, 3, 8, 5, 6, 2, 4] (by decide) rfl
              exact ih1 H locs ls g79 g98 (t26_2 + 1) hwp hP hD hS hl
  exact hs1 n1 H locs ls f9 f10 0 hwp hP hD hS hl
def wX0_lay (i0 : Int32) (i1 : Int32) (i2 : Int32) (i3 : Int32) (f4 : Nat → Int32) (f5 : Nat → Int32) (i6 : Int32) (f7 : Nat → Int32) (f8 : Nat → Int32) (f9 : Nat → Int32) (f10 : Nat → Int32) (f11 : Nat → Int32) (f12 : Nat → Int32) (f13 : Nat → Int32) (f14 : Nat → Int32) (f15 : Nat → Int32) (K : (Int32 × Int32 × Int32 × Int32 × (Nat → Int32) × (Nat → Int32) × (Nat → Int32) × (Nat → Int32) × (Nat → Int32) × (Nat → Int32) × (Nat → Int32) × (Nat → Int32) × (Nat → Int32)) → Prop) : Prop := (wJ7_fill_53178 f4 (0 : Int32) (fun u5 => (wJ7_fill_53178 f5 (0 : Int32) (fun u13 => ((¬ i6 = 2 → ((i6 < 3 → K (i0, i1, i2, i3, u5, u13, f9, f10, f11, f12, f13, f14, f15)) ∧ (¬ i6 < 3 → (wX0_findOuter i0 i1 i2 i3 i6 f7 f8 (fun r46 u46 => ((r46 = 0 → K (u46.1, u46.2.1, u46.2.2, i3, u5, u13, f9, f10, f11, f12, f13, f14, f15)) ∧ (¬ r46 = 0 → (wX0_findWays (u46.1) (u46.2.1) (u46.2.2) i3 f9 f10 f11 f12 f13 f8 i6 f7 (fun u53 => (wX0_countAll (u46.1) (u46.2.1) (u46.2.2) (u53.1) f14 i6 (u53.2.1) f15 (u53.2.2.1) u5 u13 (u53.2.2.2.1) (fun u57 => K (u46.1, u46.2.1, u46.2.2, u53.1, u57.2.2.1, u57.2.2.2, u53.2.1, u53.2.2.1, u53.2.2.2.1, u53.2.2.2.2.1, u53.2.2.2.2.2, u57.1, u57.2.1)))))))))))) ∧ (i6 = 2 → (∀ g33 : Nat → Int32, g33 = upd u5 (Int32.toNatClampNeg (1 : Int32)) 1 → ((i6 < 3 → K (i0, i1, i2, i3, g33, u13, f9, f10, f11, f12, f13, f14, f15)) ∧ (¬ i6 < 3 → (wX0_findOuter i0 i1 i2 i3 i6 f7 f8 (fun r46 u46 => ((r46 = 0 → K (u46.1, u46.2.1, u46.2.2, i3, g33, u13, f9, f10, f11, f12, f13, f14, f15)) ∧ (¬ r46 = 0 → (wX0_findWays (u46.1) (u46.2.1) (u46.2.2) i3 f9 f10 f11 f12 f13 f8 i6 f7 (fun u53 => (wX0_countAll (u46.1) (u46.2.1) (u46.2.2) (u53.1) f14 i6 (u53.2.1) f15 (u53.2.2.1) g33 u13 (u53.2.2.2.1) (fun u57 => K (u46.1, u46.2.1, u46.2.2, u53.1, u57.2.2.1, u57.2.2.2, u53.2.1, u53.2.2.1, u53.2.2.2.1, u53.2.2.2.2.1, u53.2.2.2.2.2, u57.1, u57.2.1))))))))))))))))))
set_option maxHeartbeats 4000000 in
set_option maxRecDepth 100000 in
theorem zX0_lay (l : Launch) (G : va_G) (cI cJ cZ : ClassId) (h0 h1 h2 h3 h4 h5 h6 h7 h8 h9 h10 h11 h12 h13 k0 k1 sz : Nat) (i0 : Int32) (i1 : Int32) (i2 : Int32) (i3 : Int32) (f4 : Nat → Int32) (f5 : Nat → Int32) (i6 : Int32) (f7 : Nat → Int32) (f8 : Nat → Int32) (f9 : Nat → Int32) (f10 : Nat → Int32) (f11 : Nat → Int32) (f12 : Nat → Int32) (f13 : Nat → Int32) (f14 : Nat → Int32) (f15 : Nat → Int32) (K : (Int32 × Int32 × Int32 × Int32 × (Nat → Int32) × (Nat → Int32) × (Nat → Int32) × (Nat → Int32) × (Nat → Int32) × (Nat → Int32) × (Nat → Int32) × (Nat → Int32) × (Nat → Int32)) → Prop) (hwp : wX0_lay i0 i1 i2 i3 f4 f5 i6 f7 f8 f9 f10 f11 f12 f13 f14 f15 K) : Met l yX0_lay (xw yX0_lay cX0_lay 1 none) ({ frames := 3, cells := 0, slots := 0, locals := 69 }) (xPc G cI cJ cZ [.ref h0] [(h0, .inr (0, [.ref h3, .ref h5, .ref h1, .ref h2, .ref h7, .ref h8, .ref h9, .ref h10, .ref h11, .ref h12, .ref h13, .int i0, .int i1, .int i2, .int i3])), (h1, aI cI 20 f4), (h2, aI cI 20 f5), (h3, .inr (2, [.ref k0, .ref h4, .int i6])), (h4, aI cI 20 f7), (h5, .inr (6, [.ref h3, .ref k1, .ref h6])), (h6, aI cI 400 f8), (h7, aI cI 20 f9), (h8, aI cI 20 f10), (h9, aI cI 20 f11), (h10, aI cI 20 f12), (h11, aI cI 20 f13), (h12, aI cI 20 f14), (h13, aI cI 20 f15)] sz) (va_Qv (fun (u : Int32 × Int32 × Int32 × Int32 × (Nat → Int32) × (Nat → Int32) × (Nat → Int32) × (Nat → Int32) × (Nat → Int32) × (Nat → Int32) × (Nat → Int32) × (Nat → Int32) × (Nat → Int32)) => K u) (fun (u : Int32 × Int32 × Int32 × Int32 × (Nat → Int32) × (Nat → Int32) × (Nat → Int32) × (Nat → Int32) × (Nat → Int32) × (Nat → Int32) × (Nat → Int32) × (Nat → Int32) × (Nat → Int32)) t => xB G (va_A [(h0, .inr (0, [.ref h3, .ref h5, .ref h1, .ref h2, .ref h7, .ref h8, .ref h9, .ref h10, .ref h11, .ref h12, .ref h13, .int i0, .int i1, .int i2, .int i3])), (h1, aI cI 20 f4), (h2, aI cI 20 f5), (h3, .inr (2, [.ref k0, .ref h4, .int i6])), (h4, aI cI 20 f7), (h5, .inr (6, [.ref h3, .ref k1, .ref h6])), (h6, aI cI 400 f8), (h7, aI cI 20 f9), (h8, aI cI 20 f10), (h9, aI cI 20 f11), (h10, aI cI 20 f12), (h11, aI cI 20 f13), (h12, aI cI 20 f14), (h13, aI cI 20 f15)] sz) [(h0, .inr (0, [.ref h3, .ref h5, .ref h1, .ref h2, .ref h7, .ref h8, .ref h9, .ref h10, .ref h11, .ref h12, .ref h13, .int u.1, .int u.2.1, .int u.2.2.1, .int u.2.2.2.1])), (h1, aI cI 20 u.2.2.2.2.1), (h2, aI cI 20 u.2.2.2.2.2.1), (h3, .inr (2, [.ref k0, .ref h4, .int i6])), (h4, aI cI 20 f7), (h5, .inr (6, [.ref h3, .ref k1, .ref h6])), (h6, aI cI 400 f8), (h7, aI cI 20 u.2.2.2.2.2.2.1), (h8, aI cI 20 u.2.2.2.2.2.2.2.1), (h9, aI cI 20 u.2.2.2.2.2.2.2.2.1), (h10, aI cI 20 u.2.2.2.2.2.2.2.2.2.1), (h11, aI cI 20 u.2.2.2.2.2.2.2.2.2.2.1), (h12, aI cI 20 u.2.2.2.2.2.2.2.2.2.2.2.1), (h13, aI cI 20 u.2.2.2.2.2.2.2.2.2.2.2.2)] t) (va_A [(h0, .inr (0, [.ref h3, .ref h5, .ref h1, .ref h2, .ref h7, .ref h8, .ref h9, .ref h10, .ref h11, .ref h12, .ref h13, .int i0, .int i1, .int i2, .int i3])), (h1, aI cI 20 f4), (h2, aI cI 20 f5), (h3, .inr (2, [.ref k0, .ref h4, .int i6])), (h4, aI cI 20 f7), (h5, .inr (6, [.ref h3, .ref k1, .ref h6])), (h6, aI cI 400 f8), (h7, aI cI 20 f9), (h8, aI cI 20 f10), (h9, aI cI 20 f11), (h10, aI cI 20 f12), (h11, aI cI 20 f13), (h12, aI cI 20 f14), (h13, aI cI 20 f15)] sz)) 0 0 (va_A [(h0, .inr (0, [.ref h3, .ref h5, .ref h1, .ref h2, .ref h7, .ref h8, .ref h9, .ref h10, .ref h11, .ref h12, .ref h13, .int i0, .int i1, .int i2, .int i3])), (h1, aI cI 20 f4), (h2, aI cI 20 f5), (h3, .inr (2, [.ref k0, .ref h4, .int i6])), (h4, aI cI 20 f7), (h5, .inr (6, [.ref h3, .ref k1, .ref h6])), (h6, aI cI 400 f8), (h7, aI cI 20 f9), (h8, aI cI 20 f10), (h9, aI cI 20 f11), (h10, aI cI 20 f12), (h11, aI cI 20 f13), (h12, aI cI 20 f14), (h13, aI cI 20 f15)] sz) := by
  refine Met.ofW (cc := cX0_lay) (maxL := 1) (ret := none) (by decide) rfl ?_
  intro p e s m args below meth c s₁ B hml hv
  obtain ⟨rfl, hsz, hP, hK, hD0, hN⟩ := hv
  have hx := B.exec
  have hb := B.bytes
  have hr := B.returns
  have hts : ∀ w ∈ xW, w.before _ s = true := fun w h => atoms_spec (ws := xw yX0_lay cX0_lay 1 none) B.pre w (List.mem_cons_of_mem _ h)
  have hown : s.vm.findClass RX0 = some m.cls := findClass_of_methodNamed B.named
  have hlocks := B.notSynchronized
  subst hsz
  have hD := hD0.self (sz := s.heap.size)
  clear hD0
  generalize hAe : va_A [(h0, .inr (0, [.ref h3, .ref h5, .ref h1, .ref h2, .ref h7, .ref h8, .ref h9, .ref h10, .ref h11, .ref h12, .ref h13, .int i0, .int i1, .int i2, .int i3])), (h1, aI cI 20 f4), (h2, aI cI 20 f5), (h3, .inr (2, [.ref k0, .ref h4, .int i6])), (h4, aI cI 20 f7), (h5, .inr (6, [.ref h3, .ref k1, .ref h6])), (h6, aI cI 400 f8), (h7, aI cI 20 f9), (h8, aI cI 20 f10), (h9, aI cI 20 f11), (h10, aI cI 20 f12), (h11, aI cI 20 f13), (h12, aI cI 20 f14), (h13, aI cI 20 f15)] s.heap.size = A at hD ⊢
  have hA : ∀ q : Nat, s.heap.size ≤ q → A q := fun q h => by rw [← hAe]; exact Or.inr h
  clear hAe
  have hS : va_S A s.heap s.heap [] := va_S.rf
  replace hP : va_P G vwCl [(h0, .inr (0, [.ref h3, .ref h5, .ref h1, .ref h2, .ref h7, .ref h8, .ref h9, .ref h10, .ref h11, .ref h12, .ref h13, .int i0, .int i1, .int i2, .int i3])), (h1, aI cI 20 f4), (h2, aI cI 20 f5), (h3, .inr (2, [.ref k0, .ref h4, .int i6])), (h4, aI cI 20 f7), (h5, .inr (6, [.ref h3, .ref k1, .ref h6])), (h6, aI cI 400 f8), (h7, aI cI 20 f9), (h8, aI cI 20 f10), (h9, aI cI 20 f11), (h10, aI cI 20 f12), (h11, aI cI 20 f13), (h12, aI cI 20 f14), (h13, aI cI 20 f15)] s.heap := hP
  have hl := lv_entry ([.ref h0]) (n := 1) (Nat.le_of_ble_eq_true rfl)
  rw [lg_entry_eq]
  generalize (lg_sl ([.ref h0]) ++ List.replicate (1 - (lg_sl ([.ref h0])).length) Slot.unset).toArray = ls at hl ⊢
  replace hl : lv_has ls 1 [(0, .ref h0)] := hl
  generalize hQQ : MQ below _ _ s 0 0 _ = QQ
  skip
  unfold wX0_lay at hwp
  refine lv_aload_n hx hb dX0_lay_0 rfl (lv_at hl 0 rfl) ?_
  refine va_get (D := G) (ci := 0) (v := .ref h1) (C := RX0) (T := TX0) (N := 15) hx hb hts xinX0 hown hK hP 0 rfl rfl 2 (by decide) (hts _ wo_159) (fun _ h9 => h9) rfl dX0_lay_1 ?_
  refine lv_iconst (v := 0) hx hb dX0_lay_4 (by decide) ?_
  refine xcv (wr := [(h0, .inr (0, [.ref h3, .ref h5, .ref h1, .ref h2, .ref h7, .ref h8, .ref h9, .ref h10, .ref h11, .ref h12, .ref h13, .int i0, .int i1, .int i2, .int i3])), (h2, aI cI 20 f5), (h3, .inr (2, [.ref k0, .ref h4, .int i6])), (h4, aI cI 20 f7), (h5, .inr (6, [.ref h3, .ref k1, .ref h6])), (h6, aI cI 400 f8), (h7, aI cI 20 f9), (h8, aI cI 20 f10), (h9, aI cI 20 f11), (h10, aI cI 20 f12), (h11, aI cI 20 f13), (h12, aI cI 20 f14), (h13, aI cI 20 f15)]) (va_runS (As := [.ref h1, .int 0]) (rest := []) ⟨hx, hb, hml, hown, hts⟩ (zJ7_fill_53178 l G cI cJ cZ h1 s.heap.size f4 (0 : Int32) _ hwp) (va_cwS 2 hts (xgoodS wo_4 wo_144 wo_6 wo_7) rfl rfl rfl (by decide +kernel) ⟨Nat.le_of_ble_eq_true rfl, Nat.le_of_ble_eq_true rfl⟩) (xPreS hK hN hP hD [1] (by decide) rfl) rfl rfl hl.1 rfl (lv_room (Nat.le_of_ble_eq_true rfl)) dX0_lay_5 ⟨Nat.le_of_ble_eq_true rfl, Nat.le_of_ble_eq_true rfl⟩) hP hD hS hA [1] [0, 2, 3, 4, 5, 6, 7, 8, 9, 10, 11, 12, 13] rfl rfl (by decide) (by decide) (fun u5 H locs hwp hP hD hS => ?_)
  replace hP : va_P G vwCl [(h0, .inr (0, [.ref h3, .ref h5, .ref h1, .ref h2, .ref h7, .ref h8, .ref h9, .ref h10, .ref h11, .ref h12, .ref h13, .int i0, .int i1, .int i2, .int i3])), (h2, aI cI 20 f5), (h3, .inr (2, [.ref k0, .ref h4, .int i6])), (h4, aI cI 20 f7), (h5, .inr (6, [.ref h3, .ref k1, .ref h6])), (h6, aI cI 400 f8), (h7, aI cI 20 f9), (h8, aI cI 20 f10), (h9, aI cI 20 f11), (h10, aI cI 20 f12), (h11, aI cI 20 f13), (h12, aI cI 20 f14), (h13, aI cI 20 f15), (h1, aI cI 20 u5)] H := hP
  replace hD : va_D A [(h0, .inr (0, [.ref h3, .ref h5, .ref h1, .ref h2, .ref h7, .ref h8, .ref h9, .ref h10, .ref h11, .ref h12, .ref h13, .int i0, .int i1, .int i2, .int i3])), (h2, aI cI 20 f5), (h3, .inr (2, [.ref k0, .ref h4, .int i6])), (h4, aI cI 20 f7), (h5, .inr (6, [.ref h3, .ref k1, .ref h6])), (h6, aI cI 400 f8), (h7, aI cI 20 f9), (h8, aI cI 20 f10), (h9, aI cI 20 f11), (h10, aI cI 20 f12), (h11, aI cI 20 f13), (h12, aI cI 20 f14), (h13, aI cI 20 f15), (h1, aI cI 20 u5)] := hD
  refine lv_aload_n hx hb dX0_lay_8 rfl (lv_at hl 0 rfl) ?_
  refine va_get (D := G) (ci := 0) (v := .ref h2) (C := RX0) (T := TX0) (N := 15) hx hb hts xinX0 hown hK hP 0 rfl rfl 3 (by decide) (hts _ wo_160) (fun _ h9 => h9) rfl dX0_lay_9 ?_
  refine lv_iconst (v := 0) hx hb dX0_lay_12 (by decide) ?_
  refine xcv (wr := [(h0, .inr (0, [.ref h3, .ref h5, .ref h1, .ref h2, .ref h7, .ref h8, .ref h9, .ref h10, .ref h11, .ref h12, .ref h13, .int i0, .int i1, .int i2, .int i3])), (h3, .inr (2, [.ref k0, .ref h4, .int i6])), (h4, aI cI 20 f7), (h5, .inr (6, [.ref h3, .ref k1, .ref h6])), (h6, aI cI 400 f8), (h7, aI cI 20 f9), (h8, aI cI 20 f10), (h9, aI cI 20 f11), (h10, aI cI 20 f12), (h11, aI cI 20 f13), (h12, aI cI 20 f14), (h13, aI cI 20 f15), (h1, aI cI 20 u5)]) (va_runS (As := [.ref h2, .int 0]) (rest := []) ⟨hx, hb, hml, hown, hts⟩ (zJ7_fill_53178 l G cI cJ cZ h2 H.size f5 (0 : Int32) _ hwp) (va_cwS 2 hts (xgoodS wo_4 wo_144 wo_6 wo_7) rfl rfl rfl (by decide +kernel) ⟨Nat.le_of_ble_eq_true rfl, Nat.le_of_ble_eq_true rfl⟩) (xPreS hK hN hP hD [1] (by decide) rfl) rfl rfl hl.1 rfl (lv_room (Nat.le_of_ble_eq_true rfl)) dX0_lay_13 ⟨Nat.le_of_ble_eq_true rfl, Nat.le_of_ble_eq_true rfl⟩) hP hD hS hA [1] [0, 2, 3, 4, 5, 6, 7, 8, 9, 10, 11, 12, 13] rfl rfl (by decide) (by decide) (fun u13 H locs hwp hP hD hS => ?_)
  replace hP : va_P G vwCl [(h0, .inr (0, [.ref h3, .ref h5, .ref h1, .ref h2, .ref h7, .ref h8, .ref h9, .ref h10, .ref h11, .ref h12, .ref h13, .int i0, .int i1, .int i2, .int i3])), (h3, .inr (2, [.ref k0, .ref h4, .int i6])), (h4, aI cI 20 f7), (h5, .inr (6, [.ref h3, .ref k1, .ref h6])), (h6, aI cI 400 f8), (h7, aI cI 20 f9), (h8, aI cI 20 f10), (h9, aI cI 20 f11), (h10, aI cI 20 f12), (h11, aI cI 20 f13), (h12, aI cI 20 f14), (h13, aI cI 20 f15), (h1, aI cI 20 u5), (h2, aI cI 20 u13)] H := hP
  replace hD : va_D A [(h0, .inr (0, [.ref h3, .ref h5, .ref h1, .ref h2, .ref h7, .ref h8, .ref h9, .ref h10, .ref h11, .ref h12, .ref h13, .int i0, .int i1, .int i2, .int i3])), (h3, .inr (2, [.ref k0, .ref h4, .int i6])), (h4, aI cI 20 f7), (h5, .inr (6, [.ref h3, .ref k1, .ref h6])), (h6, aI cI 400 f8), (h7, aI cI 20 f9), (h8, aI cI 20 f10), (h9, aI cI 20 f11), (h10, aI cI 20 f12), (h11, aI cI 20 f13), (h12, aI cI 20 f14), (h13, aI cI 20 f15), (h1, aI cI 20 u5), (h2, aI cI 20 u13)] := hD
  refine lv_aload_n hx hb dX0_lay_16 rfl (lv_at hl 0 rfl) ?_
  refine va_get (D := G) (ci := 0) (v := .ref h3) (C := RX0) (T := TX0) (N := 15) hx hb hts xinX0 hown hK hP 0 rfl rfl 0 (by decide) (hts _ wo_127) (fun _ h9 => h9) rfl dX0_lay_17 ?_
  refine va_getN (D := G) (ci := 2) (v := .int i6) (C := RX2) (T := TX2) (N := 3) hx hb hts xinX2 hown hK hP 1 rfl rfl 2 (by decide) (va_Nw.use rfl (hN.1 ("PlaneTests$Drawing", 53, "PlaneTests$Filled", "nodes", "I", "PlaneTests") (by decide +kernel))) (fun _ h9 => h9) rfl dX0_lay_20 ?_
  refine lv_iconst (v := 2) hx hb dX0_lay_23 (by decide) ?_
  refine lv_icmp_ne (tgt := 34) hx hb dX0_lay_24 (by decide) (fun c24 => ?_) (fun c24 => ?_)
  · replace hwp := hwp.1 c24
    refine lv_aload_n hx hb dX0_lay_34 rfl (lv_at hl 0 rfl) ?_
    refine va_get (D := G) (ci := 0) (v := .ref h3) (C := RX0) (T := TX0) (N := 15) hx hb hts xinX0 hown hK hP 0 rfl rfl 0 (by decide) (hts _ wo_127) (fun _ h9 => h9) rfl dX0_lay_35 ?_
    refine va_getN (D := G) (ci := 2) (v := .int i6) (C := RX2) (T := TX2) (N := 3) hx hb hts xinX2 hown hK hP 1 rfl rfl 2 (by decide) (va_Nw.use rfl (hN.1 ("PlaneTests$Drawing", 53, "PlaneTests$Filled", "nodes", "I", "PlaneTests") (by decide +kernel))) (fun _ h9 => h9) rfl dX0_lay_38 ?_
    refine lv_iconst (v := 3) hx hb dX0_lay_41 (by decide) ?_
    refine lv_icmp_lt (tgt := 60) hx hb dX0_lay_42 (by decide) (fun c42 => ?_) (fun c42 => ?_)
    · replace hwp := hwp.1 c42
      have hP9 : va_P G vwCl [(h0, .inr (0, [.ref h3, .ref h5, .ref h1, .ref h2, .ref h7, .ref h8, .ref h9, .ref h10, .ref h11, .ref h12, .ref h13, .int i0, .int i1, .int i2, .int i3])), (h1, aI cI 20 u5), (h2, aI cI 20 u13), (h3, .inr (2, [.ref k0, .ref h4, .int i6])), (h4, aI cI 20 f7), (h5, .inr (6, [.ref h3, .ref k1, .ref h6])), (h6, aI cI 400 f8), (h7, aI cI 20 f9), (h8, aI cI 20 f10), (h9, aI cI 20 f11), (h10, aI cI 20 f12), (h11, aI cI 20 f13), (h12, aI cI 20 f14), (h13, aI cI 20 f15)] H := hP.sub [0, 12, 13, 1, 2, 3, 4, 5, 6, 7, 8, 9, 10, 11] rfl
      have hD9 : va_D A [(h0, .inr (0, [.ref h3, .ref h5, .ref h1, .ref h2, .ref h7, .ref h8, .ref h9, .ref h10, .ref h11, .ref h12, .ref h13, .int i0, .int i1, .int i2, .int i3])), (h1, aI cI 20 u5), (h2, aI cI 20 u13), (h3, .inr (2, [.ref k0, .ref h4, .int i6])), (h4, aI cI 20 f7), (h5, .inr (6, [.ref h3, .ref k1, .ref h6])), (h6, aI cI 400 f8), (h7, aI cI 20 f9), (h8, aI cI 20 f10), (h9, aI cI 20 f11), (h10, aI cI 20 f12), (h11, aI cI 20 f13), (h12, aI cI 20 f14), (h13, aI cI 20 f15)] := hD.sub [0, 12, 13, 1, 2, 3, 4, 5, 6, 7, 8, 9, 10, 11] (by decide) rfl
      rw [← hQQ]
      exact W.vret hx hb hr (fun t ht hW => ⟨⟨(i0, i1, i2, i3, u5, u13, f9, f10, f11, f12, f13, f14, f15), rfl, hwp, by rw [ht]; exact hP9, hD9⟩, hS.F ht⟩) hS.2.2 dX0_lay_60
    · replace hwp := hwp.2 c42
      refine lv_aload_n hx hb dX0_lay_45 rfl (lv_at hl 0 rfl) ?_
      refine xci (wr := [(h7, aI cI 20 f9), (h8, aI cI 20 f10), (h9, aI cI 20 f11), (h10, aI cI 20 f12), (h11, aI cI 20 f13), (h12, aI cI 20 f14), (h13, aI cI 20 f15), (h1, aI cI 20 u5), (h2, aI cI 20 u13)]) (va_runV (As := []) (rest := []) ⟨hx, hb, hml, hown, hts⟩ (zX0_findOuter l G cI cJ cZ h0 h3 h4 h5 h6 h1 h2 h7 h8 h9 h10 h11 h12 h13 k0 k1 H.size i0 i1 i2 i3 i6 f7 f8 _ hwp) (cwV 0 hts (xgoodV wo_165 wo_166 wo_167 wo_168 wo_141) rfl rfl rfl (by decide +kernel) ⟨Nat.le_of_ble_eq_true rfl, Nat.le_of_ble_eq_true rfl⟩) (xPreV (q := (RX0, TX0, 15)) (q0 := 0) hK hN hP hD [0, 1, 2, 3, 4] (by decide) rfl rfl rfl) rfl rfl hl.1 rfl (lv_room (Nat.le_of_ble_eq_true rfl)) dX0_lay_46 ⟨Nat.le_of_ble_eq_true rfl, Nat.le_of_ble_eq_true rfl⟩) hP hD hS hA [0, 1, 2, 3, 4] [5, 6, 7, 8, 9, 10, 11, 12, 13] rfl rfl (by decide) (by decide) (fun r46 u46 H locs hwp hP hD hS => ?_)
      replace hP : va_P G vwCl [(h7, aI cI 20 f9), (h8, aI cI 20 f10), (h9, aI cI 20 f11), (h10, aI cI 20 f12), (h11, aI cI 20 f13), (h12, aI cI 20 f14), (h13, aI cI 20 f15), (h1, aI cI 20 u5), (h2, aI cI 20 u13), (h0, .inr (0, [.ref h3, .ref h5, .ref h1, .ref h2, .ref h7, .ref h8, .ref h9, .ref h10, .ref h11, .ref h12, .ref h13, .int u46.1, .int u46.2.1, .int u46.2.2, .int i3])), (h3, .inr (2, [.ref k0, .ref h4, .int i6])), (h4, aI cI 20 f7), (h5, .inr (6, [.ref h3, .ref k1, .ref h6])), (h6, aI cI 400 f8)] H := hP
      replace hD : va_D A [(h7, aI cI 20 f9), (h8, aI cI 20 f10), (h9, aI cI 20 f11), (h10, aI cI 20 f12), (h11, aI cI 20 f13), (h12, aI cI 20 f14), (h13, aI cI 20 f15), (h1, aI cI 20 u5), (h2, aI cI 20 u13), (h0, .inr (0, [.ref h3, .ref h5, .ref h1, .ref h2, .ref h7, .ref h8, .ref h9, .ref h10, .ref h11, .ref h12, .ref h13, .int u46.1, .int u46.2.1, .int u46.2.2, .int i3])), (h3, .inr (2, [.ref k0, .ref h4, .int i6])), (h4, aI cI 20 f7), (h5, .inr (6, [.ref h3, .ref k1, .ref h6])), (h6, aI cI 400 f8)] := hD
      refine lv_if_eq (tgt := 60) hx hb dX0_lay_49 (by decide) (fun c49 => ?_) (fun c49 => ?_)
      · replace hwp := hwp.1 c49
        have hP9 : va_P G vwCl [(h0, .inr (0, [.ref h3, .ref h5, .ref h1, .ref h2, .ref h7, .ref h8, .ref h9, .ref h10, .ref h11, .ref h12, .ref h13, .int u46.1, .int u46.2.1, .int u46.2.2, .int i3])), (h1, aI cI 20 u5), (h2, aI cI 20 u13), (h3, .inr (2, [.ref k0, .ref h4, .int i6])), (h4, aI cI 20 f7), (h5, .inr (6, [.ref h3, .ref k1, .ref h6])), (h6, aI cI 400 f8), (h7, aI cI 20 f9), (h8, aI cI 20 f10), (h9, aI cI 20 f11), (h10, aI cI 20 f12), (h11, aI cI 20 f13), (h12, aI cI 20 f14), (h13, aI cI 20 f15)] H := hP.sub [9, 7, 8, 10, 11, 12, 13, 0, 1, 2, 3, 4, 5, 6] rfl
        have hD9 : va_D A [(h0, .inr (0, [.ref h3, .ref h5, .ref h1, .ref h2, .ref h7, .ref h8, .ref h9, .ref h10, .ref h11, .ref h12, .ref h13, .int u46.1, .int u46.2.1, .int u46.2.2, .int i3])), (h1, aI cI 20 u5), (h2, aI cI 20 u13), (h3, .inr (2, [.ref k0, .ref h4, .int i6])), (h4, aI cI 20 f7), (h5, .inr (6, [.ref h3, .ref k1, .ref h6])), (h6, aI cI 400 f8), (h7, aI cI 20 f9), (h8, aI cI 20 f10), (h9, aI cI 20 f11), (h10, aI cI 20 f12), (h11, aI cI 20 f13), (h12, aI cI 20 f14), (h13, aI cI 20 f15)] := hD.sub [9, 7, 8, 10, 11, 12, 13, 0, 1, 2, 3, 4, 5, 6] (by decide) rfl
        rw [← hQQ]
        exact W.vret hx hb hr (fun t ht hW => ⟨⟨(u46.1, u46.2.1, u46.2.2, i3, u5, u13, f9, f10, f11, f12, f13, f14, f15), rfl, hwp, by rw [ht]; exact hP9, hD9⟩, hS.F ht⟩) hS.2.2 dX0_lay_60
      · replace hwp := hwp.2 c49
        refine lv_aload_n hx hb dX0_lay_52 rfl (lv_at hl 0 rfl) ?_
        refine xcv (wr := [(h12, aI cI 20 f14), (h13, aI cI 20 f15), (h1, aI cI 20 u5), (h2, aI cI 20 u13)]) (va_runV (As := []) (rest := []) ⟨hx, hb, hml, hown, hts⟩ (zX0_findWays l G cI cJ cZ h0 h7 h8 h9 h10 h11 h5 h6 h3 h4 h1 h2 h12 h13 k1 k0 H.size (u46.1) (u46.2.1) (u46.2.2) i3 f9 f10 f11 f12 f13 f8 i6 f7 _ hwp) (cwV 0 hts (xgoodV wo_169 wo_170 wo_171 wo_172 wo_141) rfl rfl rfl (by decide +kernel) ⟨Nat.le_of_ble_eq_true rfl, Nat.le_of_ble_eq_true rfl⟩) (xPreV (q := (RX0, TX0, 15)) (q0 := 9) hK hN hP hD [9, 0, 1, 2, 3, 4, 12, 13, 10, 11] (by decide) rfl rfl rfl) rfl rfl hl.1 rfl (lv_room (Nat.le_of_ble_eq_true rfl)) dX0_lay_53 ⟨Nat.le_of_ble_eq_true rfl, Nat.le_of_ble_eq_true rfl⟩) hP hD hS hA [9, 0, 1, 2, 3, 4, 12, 13, 10, 11] [5, 6, 7, 8] rfl rfl (by decide) (by decide) (fun u53 H locs hwp hP hD hS => ?_)
        replace hP : va_P G vwCl [(h12, aI cI 20 f14), (h13, aI cI 20 f15), (h1, aI cI 20 u5), (h2, aI cI 20 u13), (h0, .inr (0, [.ref h3, .ref h5, .ref h1, .ref h2, .ref h7, .ref h8, .ref h9, .ref h10, .ref h11, .ref h12, .ref h13, .int u46.1, .int u46.2.1, .int u46.2.2, .int u53.1])), (h7, aI cI 20 u53.2.1), (h8, aI cI 20 u53.2.2.1), (h9, aI cI 20 u53.2.2.2.1), (h10, aI cI 20 u53.2.2.2.2.1), (h11, aI cI 20 u53.2.2.2.2.2), (h5, .inr (6, [.ref h3, .ref k1, .ref h6])), (h6, aI cI 400 f8), (h3, .inr (2, [.ref k0, .ref h4, .int i6])), (h4, aI cI 20 f7)] H := hP
        replace hD : va_D A [(h12, aI cI 20 f14), (h13, aI cI 20 f15), (h1, aI cI 20 u5), (h2, aI cI 20 u13), (h0, .inr (0, [.ref h3, .ref h5, .ref h1, .ref h2, .ref h7, .ref h8, .ref h9, .ref h10, .ref h11, .ref h12, .ref h13, .int u46.1, .int u46.2.1, .int u46.2.2, .int u53.1])), (h7, aI cI 20 u53.2.1), (h8, aI cI 20 u53.2.2.1), (h9, aI cI 20 u53.2.2.2.1), (h10, aI cI 20 u53.2.2.2.2.1), (h11, aI cI 20 u53.2.2.2.2.2), (h5, .inr (6, [.ref h3, .ref k1, .ref h6])), (h6, aI cI 400 f8), (h3, .inr (2, [.ref k0, .ref h4, .int i6])), (h4, aI cI 20 f7)] := hD
        refine lv_aload_n hx hb dX0_lay_56 rfl (lv_at hl 0 rfl) ?_
        refine xcv (wr := [(h10, aI cI 20 u53.2.2.2.2.1), (h11, aI cI 20 u53.2.2.2.2.2), (h5, .inr (6, [.ref h3, .ref k1, .ref h6])), (h6, aI cI 400 f8), (h4, aI cI 20 f7)]) (va_runV (As := []) (rest := []) ⟨hx, hb, hml, hown, hts⟩ (zX0_countAll l G cI cJ cZ h0 h12 h3 h7 h13 h8 h1 h2 h9 h5 h10 h11 k0 h4 H.size (u46.1) (u46.2.1) (u46.2.2) (u53.1) f14 i6 (u53.2.1) f15 (u53.2.2.1) u5 u13 (u53.2.2.2.1) _ hwp) (cwV 0 hts (xgoodV wo_173 wo_174 wo_175 wo_176 wo_141) rfl rfl rfl (by decide +kernel) ⟨Nat.le_of_ble_eq_true rfl, Nat.le_of_ble_eq_true rfl⟩) (xPreV (q := (RX0, TX0, 15)) (q0 := 4) hK hN hP hD [4, 0, 12, 5, 1, 6, 2, 3, 7] (by decide) rfl rfl rfl) rfl rfl hl.1 rfl (lv_room (Nat.le_of_ble_eq_true rfl)) dX0_lay_57 ⟨Nat.le_of_ble_eq_true rfl, Nat.le_of_ble_eq_true rfl⟩) hP hD hS hA [4, 0, 12, 5, 1, 6, 2, 3, 7] [8, 9, 10, 11, 13] rfl rfl (by decide) (by decide) (fun u57 H locs hwp hP hD hS => ?_)
        replace hP : va_P G vwCl [(h10, aI cI 20 u53.2.2.2.2.1), (h11, aI cI 20 u53.2.2.2.2.2), (h5, .inr (6, [.ref h3, .ref k1, .ref h6])), (h6, aI cI 400 f8), (h4, aI cI 20 f7), (h0, .inr (0, [.ref h3, .ref h5, .ref h1, .ref h2, .ref h7, .ref h8, .ref h9, .ref h10, .ref h11, .ref h12, .ref h13, .int u46.1, .int u46.2.1, .int u46.2.2, .int u53.1])), (h12, aI cI 20 u57.1), (h3, .inr (2, [.ref k0, .ref h4, .int i6])), (h7, aI cI 20 u53.2.1), (h13, aI cI 20 u57.2.1), (h8, aI cI 20 u53.2.2.1), (h1, aI cI 20 u57.2.2.1), (h2, aI cI 20 u57.2.2.2), (h9, aI cI 20 u53.2.2.2.1)] H := hP
        replace hD : va_D A [(h10, aI cI 20 u53.2.2.2.2.1), (h11, aI cI 20 u53.2.2.2.2.2), (h5, .inr (6, [.ref h3, .ref k1, .ref h6])), (h6, aI cI 400 f8), (h4, aI cI 20 f7), (h0, .inr (0, [.ref h3, .ref h5, .ref h1, .ref h2, .ref h7, .ref h8, .ref h9, .ref h10, .ref h11, .ref h12, .ref h13, .int u46.1, .int u46.2.1, .int u46.2.2, .int u53.1])), (h12, aI cI 20 u57.1), (h3, .inr (2, [.ref k0, .ref h4, .int i6])), (h7, aI cI 20 u53.2.1), (h13, aI cI 20 u57.2.1), (h8, aI cI 20 u53.2.2.1), (h1, aI cI 20 u57.2.2.1), (h2, aI cI 20 u57.2.2.2), (h9, aI cI 20 u53.2.2.2.1)] := hD
        have hP9 : va_P G vwCl [(h0, .inr (0, [.ref h3, .ref h5, .ref h1, .ref h2, .ref h7, .ref h8, .ref h9, .ref h10, .ref h11, .ref h12, .ref h13, .int u46.1, .int u46.2.1, .int u46.2.2, .int u53.1])), (h1, aI cI 20 u57.2.2.1), (h2, aI cI 20 u57.2.2.2), (h3, .inr (2, [.ref k0, .ref h4, .int i6])), (h4, aI cI 20 f7), (h5, .inr (6, [.ref h3, .ref k1, .ref h6])), (h6, aI cI 400 f8), (h7, aI cI 20 u53.2.1), (h8, aI cI 20 u53.2.2.1), (h9, aI cI 20 u53.2.2.2.1), (h10, aI cI 20 u53.2.2.2.2.1), (h11, aI cI 20 u53.2.2.2.2.2), (h12, aI cI 20 u57.1), (h13, aI cI 20 u57.2.1)] H := hP.sub [5, 11, 12, 7, 4, 2, 3, 8, 10, 13, 0, 1, 6, 9] rfl
        have hD9 : va_D A [(h0, .inr (0, [.ref h3, .ref h5, .ref h1, .ref h2, .ref h7, .ref h8, .ref h9, .ref h10, .ref h11, .ref h12, .ref h13, .int u46.1, .int u46.2.1, .int u46.2.2, .int u53.1])), (h1, aI cI 20 u57.2.2.1), (h2, aI cI 20 u57.2.2.2), (h3, .inr (2, [.ref k0, .ref h4, .int i6])), (h4, aI cI 20 f7), (h5, .inr (6, [.ref h3, .ref k1, .ref h6])), (h6, aI cI 400 f8), (h7, aI cI 20 u53.2.1), (h8, aI cI 20 u53.2.2.1), (h9, aI cI 20 u53.2.2.2.1), (h10, aI cI 20 u53.2.2.2.2.1), (h11, aI cI 20 u53.2.2.2.2.2), (h12, aI cI 20 u57.1), (h13, aI cI 20 u57.2.1)] := hD.sub [5, 11, 12, 7, 4, 2, 3, 8, 10, 13, 0, 1, 6, 9] (by decide) rfl
        rw [← hQQ]
        exact W.vret hx hb hr (fun t ht hW => ⟨⟨(u46.1, u46.2.1, u46.2.2, u53.1, u57.2.2.1, u57.2.2.2, u53.2.1, u53.2.2.1, u53.2.2.2.1, u53.2.2.2.2.1, u53.2.2.2.2.2, u57.1, u57.2.1), rfl, hwp, by rw [ht]; exact hP9, hD9⟩, hS.F ht⟩) hS.2.2 dX0_lay_60
  · replace hwp := hwp.2 c24
    refine lv_aload_n hx hb dX0_lay_27 rfl (lv_at hl 0 rfl) ?_
    refine va_get (D := G) (ci := 0) (v := .ref h1) (C := RX0) (T := TX0) (N := 15) hx hb hts xinX0 hown hK hP 0 rfl rfl 2 (by decide) (hts _ wo_159) (fun _ h9 => h9) rfl dX0_lay_28 ?_
    refine lv_iconst (v := 1) hx hb dX0_lay_31 (by decide) ?_
    refine lv_iconst (v := 1) hx hb dX0_lay_32 (by decide) ?_
    refine va_iast hx hb hK hP hD hS 12 0 rfl rfl (by unfold vp_in; decide) dX0_lay_33 (fun H locs hP hD hS => ?_)
    obtain ⟨g33, eg33⟩ : ∃ z, z = upd u5 (Int32.toNatClampNeg (1 : Int32)) 1 := ⟨_, rfl⟩
    replace hwp := hwp g33 eg33
    replace hP : va_P G vwCl [(h0, .inr (0, [.ref h3, .ref h5, .ref h1, .ref h2, .ref h7, .ref h8, .ref h9, .ref h10, .ref h11, .ref h12, .ref h13, .int i0, .int i1, .int i2, .int i3])), (h3, .inr (2, [.ref k0, .ref h4, .int i6])), (h4, aI cI 20 f7), (h5, .inr (6, [.ref h3, .ref k1, .ref h6])), (h6, aI cI 400 f8), (h7, aI cI 20 f9), (h8, aI cI 20 f10), (h9, aI cI 20 f11), (h10, aI cI 20 f12), (h11, aI cI 20 f13), (h12, aI cI 20 f14), (h13, aI cI 20 f15), (h1, aI cI 20 g33), (h2, aI cI 20 u13)] H := by rw [eg33]; exact hP
    replace hD : va_D A [(h0, .inr (0, [.ref h3, .ref h5, .ref h1, .ref h2, .ref h7, .ref h8, .ref h9, .ref h10, .ref h11, .ref h12, .ref h13, .int i0, .int i1, .int i2, .int i3])), (h3, .inr (2, [.ref k0, .ref h4, .int i6])), (h4, aI cI 20 f7), (h5, .inr (6, [.ref h3, .ref k1, .ref h6])), (h6, aI cI 400 f8), (h7, aI cI 20 f9), (h8, aI cI 20 f10), (h9, aI cI 20 f11), (h10, aI cI 20 f12), (h11, aI cI 20 f13), (h12, aI cI 20 f14), (h13, aI cI 20 f15), (h1, aI cI 20 g33), (h2, aI cI 20 u13)] := by rw [eg33]; exact hD
    clear eg33
    refine lv_aload_n hx hb dX0_lay_34 rfl (lv_at hl 0 rfl) ?_
    refine va_get (D := G) (ci := 0) (v := .ref h3) (C := RX0) (T := TX0) (N := 15) hx hb hts xinX0 hown hK hP 0 rfl rfl 0 (by decide) (hts _ wo_127) (fun _ h9 => h9) rfl dX0_lay_35 ?_
    refine va_getN (D := G) (ci := 2) (v := .int i6) (C := RX2) (T := TX2) (N := 3) hx hb hts xinX2 hown hK hP 1 rfl rfl 2 (by decide) (va_Nw.use rfl (hN.1 ("PlaneTests$Drawing", 53, "PlaneTests$Filled", "nodes", "I", "PlaneTests") (by decide +kernel))) (fun _ h9 => h9) rfl dX0_lay_38 ?_
    refine lv_iconst (v := 3) hx hb dX0_lay_41 (by decide) ?_
    refine lv_icmp_lt (tgt := 60) hx hb dX0_lay_42 (by decide) (fun c42 => ?_) (fun c42 => ?_)
    · replace hwp := hwp.1 c42
      have hP9 : va_P G vwCl [(h0, .inr (0, [.ref h3, .ref h5, .ref h1, .ref h2, .ref h7, .ref h8, .ref h9, .ref h10, .ref h11, .ref h12, .ref h13, .int i0, .int i1, .int i2, .int i3])), (h1, aI cI 20 g33), (h2, aI cI 20 u13), (h3, .inr (2, [.ref k0, .ref h4, .int i6])), (h4, aI cI 20 f7), (h5, .inr (6, [.ref h3, .ref k1, .ref h6])), (h6, aI cI 400 f8), (h7, aI cI 20 f9), (h8, aI cI 20 f10), (h9, aI cI 20 f11), (h10, aI cI 20 f12), (h11, aI cI 20 f13), (h12, aI cI 20 f14), (h13, aI cI 20 f15)] H := hP.sub [0, 12, 13, 1, 2, 3, 4, 5, 6, 7, 8, 9, 10, 11] rfl
      have hD9 : va_D A [(h0, .inr (0, [.ref h3, .ref h5, .ref h1, .ref h2, .ref h7, .ref h8, .ref h9, .ref h10, .ref h11, .ref h12, .ref h13, .int i0, .int i1, .int i2, .int i3])), (h1, aI cI 20 g33), (h2, aI cI 20 u13), (h3, .inr (2, [.ref k0, .ref h4, .int i6])), (h4, aI cI 20 f7), (h5, .inr (6, [.ref h3, .ref k1, .ref h6])), (h6, aI cI 400 f8), (h7, aI cI 20 f9), (h8, aI cI 20 f10), (h9, aI cI 20 f11), (h10, aI cI 20 f12), (h11, aI cI 20 f13), (h12, aI cI 20 f14), (h13, aI cI 20 f15)] := hD.sub [0, 12, 13, 1, 2, 3, 4, 5, 6, 7, 8, 9, 10, 11] (by decide) rfl
      rw [← hQQ]
      exact W.vret hx hb hr (fun t ht hW => ⟨⟨(i0, i1, i2, i3, g33, u13, f9, f10, f11, f12, f13, f14, f15), rfl, hwp, by rw [ht]; exact hP9, hD9⟩, hS.F ht⟩) hS.2.2 dX0_lay_60
    · replace hwp := hwp.2 c42
      refine lv_aload_n hx hb dX0_lay_45 rfl (lv_at hl 0 rfl) ?_
      refine xci (wr := [(h7, aI cI 20 f9), (h8, aI cI 20 f10), (h9, aI cI 20 f11), (h10, aI cI 20 f12), (h11, aI cI 20 f13), (h12, aI cI 20 f14), (h13, aI cI 20 f15), (h1, aI cI 20 g33), (h2, aI cI 20 u13)]) (va_runV (As := []) (rest := []) ⟨hx, hb, hml, hown, hts⟩ (zX0_findOuter l G cI cJ cZ h0 h3 h4 h5 h6 h1 h2 h7 h8 h9 h10 h11 h12 h13 k0 k1 H.size i0 i1 i2 i3 i6 f7 f8 _ hwp) (cwV 0 hts (xgoodV wo_165 wo_166 wo_167 wo_168 wo_141) rfl rfl rfl (by decide +kernel) ⟨Nat.le_of_ble_eq_true rfl, Nat.le_of_ble_eq_true rfl⟩) (xPreV (q := (RX0, TX0, 15)) (q0 := 0) hK hN hP hD [0, 1, 2, 3, 4] (by decide) rfl rfl rfl) rfl rfl hl.1 rfl (lv_room (Nat.le_of_ble_eq_true rfl)) dX0_lay_46 ⟨Nat.le_of_ble_eq_true rfl, Nat.le_of_ble_eq_true rfl⟩) hP hD hS hA [0, 1, 2, 3, 4] [5, 6, 7, 8, 9, 10, 11, 12, 13] rfl rfl (by decide) (by decide) (fun r46 u46 H locs hwp hP hD hS => ?_)
      replace hP : va_P G vwCl [(h7, aI cI 20 f9), (h8, aI cI 20 f10), (h9, aI cI 20 f11), (h10, aI cI 20 f12), (h11, aI cI 20 f13), (h12, aI cI 20 f14), (h13, aI cI 20 f15), (h1, aI cI 20 g33), (h2, aI cI 20 u13), (h0, .inr (0, [.ref h3, .ref h5, .ref h1, .ref h2, .ref h7, .ref h8, .ref h9, .ref h10, .ref h11, .ref h12, .ref h13, .int u46.1, .int u46.2.1, .int u46.2.2, .int i3])), (h3, .inr (2, [.ref k0, .ref h4, .int i6])), (h4, aI cI 20 f7), (h5, .inr (6, [.ref h3, .ref k1, .ref h6])), (h6, aI cI 400 f8)] H := hP
      replace hD : va_D A [(h7, aI cI 20 f9), (h8, aI cI 20 f10), (h9, aI cI 20 f11), (h10, aI cI 20 f12), (h11, aI cI 20 f13), (h12, aI cI 20 f14), (h13, aI cI 20 f15), (h1, aI cI 20 g33), (h2, aI cI 20 u13), (h0, .inr (0, [.ref h3, .ref h5, .ref h1, .ref h2, .ref h7, .ref h8, .ref h9, .ref h10, .ref h11, .ref h12, .ref h13, .int u46.1, .int u46.2.1, .int u46.2.2, .int i3])), (h3, .inr (2, [.ref k0, .ref h4, .int i6])), (h4, aI cI 20 f7), (h5, .inr (6, [.ref h3, .ref k1, .ref h6])), (h6, aI cI 400 f8)] := hD
      refine lv_if_eq (tgt := 60) hx hb dX0_lay_49 (by decide) (fun c49 => ?_) (fun c49 => ?_)
      · replace hwp := hwp.1 c49
        have hP9 : va_P G vwCl [(h0, .inr (0, [.ref h3, .ref h5, .ref h1, .ref h2, .ref h7, .ref h8, .ref h9, .ref h10, .ref h11, .ref h12, .ref h13, .int u46.1, .int u46.2.1, .int u46.2.2, .int i3])), (h1, aI cI 20 g33), (h2, aI cI 20 u13), (h3, .inr (2, [.ref k0, .ref h4, .int i6])), (h4, aI cI 20 f7), (h5, .inr (6, [.ref h3, .ref k1, .ref h6])), (h6, aI cI 400 f8), (h7, aI cI 20 f9), (h8, aI cI 20 f10), (h9, aI cI 20 f11), (h10, aI cI 20 f12), (h11, aI cI 20 f13), (h12, aI cI 20 f14), (h13, aI cI 20 f15)] H := hP.sub [9, 7, 8, 10, 11, 12, 13, 0, 1, 2, 3, 4, 5, 6] rfl
        have hD9 : va_D A [(h0, .inr (0, [.ref h3, .ref h5, .ref h1, .ref h2, .ref h7, .ref h8, .ref h9, .ref h10, .ref h11, .ref h12, .ref h13, .int u46.1, .int u46.2.1, .int u46.2.2, .int i3])), (h1, aI cI 20 g33), (h2, aI cI 20 u13), (h3, .inr (2, [.ref k0, .ref h4, .int i6])), (h4, aI cI 20 f7), (h5, .inr (6, [.ref h3, .ref k1, .ref h6])), (h6, aI cI 400 f8), (h7, aI cI 20 f9), (h8, aI cI 20 f10), (h9, aI cI 20 f11), (h10, aI cI 20 f12), (h11, aI cI 20 f13), (h12, aI cI 20 f14), (h13, aI cI 20 f15)] := hD.sub [9, 7, 8, 10, 11, 12, 13, 0, 1, 2, 3, 4, 5, 6] (by decide) rfl
        rw [← hQQ]
        exact W.vret hx hb hr (fun t ht hW => ⟨⟨(u46.1, u46.2.1, u46.2.2, i3, g33, u13, f9, f10, f11, f12, f13, f14, f15), rfl, hwp, by rw [ht]; exact hP9, hD9⟩, hS.F ht⟩) hS.2.2 dX0_lay_60
      · replace hwp := hwp.2 c49
        refine lv_aload_n hx hb dX0_lay_52 rfl (lv_at hl 0 rfl) ?_
        refine xcv (wr := [(h12, aI cI 20 f14), (h13, aI cI 20 f15), (h1, aI cI 20 g33), (h2, aI cI 20 u13)]) (va_runV (As := []) (rest := []) ⟨hx, hb, hml, hown, hts⟩ (zX0_findWays l G cI cJ cZ h0 h7 h8 h9 h10 h11 h5 h6 h3 h4 h1 h2 h12 h13 k1 k0 H.size (u46.1) (u46.2.1) (u46.2.2) i3 f9 f10 f11 f12 f13 f8 i6 f7 _ hwp) (cwV 0 hts (xgoodV wo_169 wo_170 wo_171 wo_172 wo_141) rfl rfl rfl (by decide +kernel) ⟨Nat.le_of_ble_eq_true rfl, Nat.le_of_ble_eq_true rfl⟩) (xPreV (q := (RX0, TX0, 15)) (q0 := 9) hK hN hP hD [9, 0, 1, 2, 3, 4, 12, 13, 10, 11] (by decide) rfl rfl rfl) rfl rfl hl.1 rfl (lv_room (Nat.le_of_ble_eq_true rfl)) dX0_lay_53 ⟨Nat.le_of_ble_eq_true rfl, Nat.le_of_ble_eq_true rfl⟩) hP hD hS hA [9, 0, 1, 2, 3, 4, 12, 13, 10, 11] [5, 6, 7, 8] rfl rfl (by decide) (by decide) (fun u53 H locs hwp hP hD hS => ?_)
        replace hP : va_P G vwCl [(h12, aI cI 20 f14), (h13, aI cI 20 f15), (h1, aI cI 20 g33), (h2, aI cI 20 u13), (h0, .inr (0, [.ref h3, .ref h5, .ref h1, .ref h2, .ref h7, .ref h8, .ref h9, .ref h10, .ref h11, .ref h12, .ref h13, .int u46.1, .int u46.2.1, .int u46.2.2, .int u53.1])), (h7, aI cI 20 u53.2.1), (h8, aI cI 20 u53.2.2.1), (h9, aI cI 20 u53.2.2.2.1), (h10, aI cI 20 u53.2.2.2.2.1), (h11, aI cI 20 u53.2.2.2.2.2), (h5, .inr (6, [.ref h3, .ref k1, .ref h6])), (h6, aI cI 400 f8), (h3, .inr (2, [.ref k0, .ref h4, .int i6])), (h4, aI cI 20 f7)] H := hP
        replace hD : va_D A [(h12, aI cI 20 f14), (h13, aI cI 20 f15), (h1, aI cI 20 g33), (h2, aI cI 20 u13), (h0, .inr (0, [.ref h3, .ref h5, .ref h1, .ref h2, .ref h7, .ref h8, .ref h9, .ref h10, .ref h11, .ref h12, .ref h13, .int u46.1, .int u46.2.1, .int u46.2.2, .int u53.1])), (h7, aI cI 20 u53.2.1), (h8, aI cI 20 u53.2.2.1), (h9, aI cI 20 u53.2.2.2.1), (h10, aI cI 20 u53.2.2.2.2.1), (h11, aI cI 20 u53.2.2.2.2.2), (h5, .inr (6, [.ref h3, .ref k1, .ref h6])), (h6, aI cI 400 f8), (h3, .inr (2, [.ref k0, .ref h4, .int i6])), (h4, aI cI 20 f7)] := hD
        refine lv_aload_n hx hb dX0_lay_56 rfl (lv_at hl 0 rfl) ?_
        refine xcv (wr := [(h10, aI cI 20 u53.2.2.2.2.1), (h11, aI cI 20 u53.2.2.2.2.2), (h5, .inr (6, [.ref h3, .ref k1, .ref h6])), (h6, aI cI 400 f8), (h4, aI cI 20 f7)]) (va_runV (As := []) (rest := []) ⟨hx, hb, hml, hown, hts⟩ (zX0_countAll l G cI cJ cZ h0 h12 h3 h7 h13 h8 h1 h2 h9 h5 h10 h11 k0 h4 H.size (u46.1) (u46.2.1) (u46.2.2) (u53.1) f14 i6 (u53.2.1) f15 (u53.2.2.1) g33 u13 (u53.2.2.2.1) _ hwp) (cwV 0 hts (xgoodV wo_173 wo_174 wo_175 wo_176 wo_141) rfl rfl rfl (by decide +kernel) ⟨Nat.le_of_ble_eq_true rfl, Nat.le_of_ble_eq_true rfl⟩) (xPreV (q := (RX0, TX0, 15)) (q0 := 4) hK hN hP hD [4, 0, 12, 5, 1, 6, 2, 3, 7] (by decide) rfl rfl rfl) rfl rfl hl.1 rfl (lv_room (Nat.le_of_ble_eq_true rfl)) dX0_lay_57 ⟨Nat.le_of_ble_eq_true rfl, Nat.le_of_ble_eq_true rfl⟩) hP hD hS hA [4, 0, 12, 5, 1, 6, 2, 3, 7] [8, 9, 10, 11, 13] rfl rfl (by decide) (by decide) (fun u57 H locs hwp hP hD hS => ?_)
        replace hP : va_P G vwCl [(h10, aI cI 20 u53.2.2.2.2.1), (h11, aI cI 20 u53.2.2.2.2.2), (h5, .inr (6, [.ref h3, .ref k1, .ref h6])), (h6, aI cI 400 f8), (h4, aI cI 20 f7), (h0, .inr (0, [.ref h3, .ref h5, .ref h1, .ref h2, .ref h7, .ref h8, .ref h9, .ref h10, .ref h11, .ref h12, .ref h13, .int u46.1, .int u46.2.1, .int u46.2.2, .int u53.1])), (h12, aI cI 20 u57.1), (h3, .inr (2, [.ref k0, .ref h4, .int i6])), (h7, aI cI 20 u53.2.1), (h13, aI cI 20 u57.2.1), (h8, aI cI 20 u53.2.2.1), (h1, aI cI 20 u57.2.2.1), (h2, aI cI 20 u57.2.2.2), (h9, aI cI 20 u53.2.2.2.1)] H := hP
        replace hD : va_D A [(h10, aI cI 20 u53.2.2.2.2.1), (h11, aI cI 20 u53.2.2.2.2.2), (h5, .inr (6, [.ref h3, .ref k1, .ref h6])), (h6, aI cI 400 f8), (h4, aI cI 20 f7), (h0, .inr (0, [.ref h3, .ref h5, .ref h1, .ref h2, .ref h7, .ref h8, .ref h9, .ref h10, .ref h11, .ref h12, .ref h13, .int u46.1, .int u46.2.1, .int u46.2.2, .int u53.1])), (h12, aI cI 20 u57.1), (h3, .inr (2, [.ref k0, .ref h4, .int i6])), (h7, aI cI 20 u53.2.1), (h13, aI cI 20 u57.2.1), (h8, aI cI 20 u53.2.2.1), (h1, aI cI 20 u57.2.2.1), (h2, aI cI 20 u57.2.2.2), (h9, aI cI 20 u53.2.2.2.1)] := hD
        have hP9 : va_P G vwCl [(h0, .inr (0, [.ref h3, .ref h5, .ref h1, .ref h2, .ref h7, .ref h8, .ref h9, .ref h10, .ref h11, .ref h12, .ref h13, .int u46.1, .int u46.2.1, .int u46.2.2, .int u53.1])), (h1, aI cI 20 u57.2.2.1), (h2, aI cI 20 u57.2.2.2), (h3, .inr (2, [.ref k0, .ref h4, .int i6])), (h4, aI cI 20 f7), (h5, .inr (6, [.ref h3, .ref k1, .ref h6])), (h6, aI cI 400 f8), (h7, aI cI 20 u53.2.1), (h8, aI cI 20 u53.2.2.1), (h9, aI cI 20 u53.2.2.2.1), (h10, aI cI 20 u53.2.2.2.2.1), (h11, aI cI 20 u53.2.2.2.2.2), (h12, aI cI 20 u57.1), (h13, aI cI 20 u57.2.1)] H := hP.sub [5, 11, 12, 7, 4, 2, 3, 8, 10, 13, 0, 1, 6, 9] rfl
        have hD9 : va_D A [(h0, .inr (0, [.ref h3, .ref h5, .ref h1, .ref h2, .ref h7, .ref h8, .ref h9, .ref h10, .ref h11, .ref h12, .ref h13, .int u46.1, .int u46.2.1, .int u46.2.2, .int u53.1])), (h1, aI cI 20 u57.2.2.1), (h2, aI cI 20 u57.2.2.2), (h3, .inr (2, [.ref k0, .ref h4, .int i6])), (h4, aI cI 20 f7), (h5, .inr (6, [.ref h3, .ref k1, .ref h6])), (h6, aI cI 400 f8), (h7, aI cI 20 u53.2.1), (h8, aI cI 20 u53.2.2.1), (h9, aI cI 20 u53.2.2.2.1), (h10, aI cI 20 u53.2.2.2.2.1), (h11, aI cI 20 u53.2.2.2.2.2), (h12, aI cI 20 u57.1), (h13, aI cI 20 u57.2.1)] := hD.sub [5, 11, 12, 7, 4, 2, 3, 8, 10, 13, 0, 1, 6, 9] (by decide) rfl
        rw [← hQQ]
        exact W.vret hx hb hr (fun t ht hW => ⟨⟨(u46.1, u46.2.1, u46.2.2, u53.1, u57.2.2.1, u57.2.2.2, u53.2.1, u53.2.2.1, u53.2.2.2.1, u53.2.2.2.2.1, u53.2.2.2.2.2, u57.1, u57.2.1), rfl, hwp, by rw [ht]; exact hP9, hD9⟩, hS.F ht⟩) hS.2.2 dX0_lay_60
def wX0_area (i0 : Int32) (i1 : Int32) (i2 : Int32) (i3 : Int32) (f4 : Nat → Int32) (f5 : Nat → Int32) (p0 : Int32) (p1 : Int32) (p2 : Int32) (K : Int32 → Unit → Prop) : Prop := (vp_in p1 20 ∧ (vp_in p0 20 ∧ (vp_in p2 20 ∧ (vp_in p0 20 ∧ (vp_in p2 20 ∧ (vp_in p0 20 ∧ (vp_in p1 20 ∧ (vp_in p0 20 ∧ K ((((f4 (Int32.toNatClampNeg p1)) - (f4 (Int32.toNatClampNeg p0))) * ((f5 (Int32.toNatClampNeg p2)) - (f5 (Int32.toNatClampNeg p0)))) - (((f4 (Int32.toNatClampNeg p2)) - (f4 (Int32.toNatClampNeg p0))) * ((f5 (Int32.toNatClampNeg p1)) - (f5 (Int32.toNatClampNeg p0))))) ()))))))))
set_option maxHeartbeats 4000000 in
set_option maxRecDepth 100000 in
theorem zX0_area (l : Launch) (G : va_G) (cI cJ cZ : ClassId) (h0 h1 h2 k0 k1 k2 k3 k4 k5 k6 k7 k8 sz : Nat) (i0 : Int32) (i1 : Int32) (i2 : Int32) (i3 : Int32) (f4 : Nat → Int32) (f5 : Nat → Int32) (p0 : Int32) (p1 : Int32) (p2 : Int32) (K : Int32 → Unit → Prop) (hwp : wX0_area i0 i1 i2 i3 f4 f5 p0 p1 p2 K) : Met l yX0_area (xw yX0_area cX0_area 4 (some .int)) ({ frames := 0, cells := 0, slots := 0, locals := 0 }) (xPc G cI cJ cZ [.ref h0, .int p0, .int p1, .int p2] [(h0, .inr (0, [.ref k0, .ref k1, .ref h1, .ref h2, .ref k2, .ref k3, .ref k4, .ref k5, .ref k6, .ref k7, .ref k8, .int i0, .int i1, .int i2, .int i3])), (h1, aI cI 20 f4), (h2, aI cI 20 f5)] sz) (va_Qi (fun (r : Int32) (u : Unit) => K r u) (fun (u : Unit) t => xB G (va_A [(h0, .inr (0, [.ref k0, .ref k1, .ref h1, .ref h2, .ref k2, .ref k3, .ref k4, .ref k5, .ref k6, .ref k7, .ref k8, .int i0, .int i1, .int i2, .int i3])), (h1, aI cI 20 f4), (h2, aI cI 20 f5)] sz) [(h0, .inr (0, [.ref k0, .ref k1, .ref h1, .ref h2, .ref k2, .ref k3, .ref k4, .ref k5, .ref k6, .ref k7, .ref k8, .int i0, .int i1, .int i2, .int i3])), (h1, aI cI 20 f4), (h2, aI cI 20 f5)] t) (va_A [(h0, .inr (0, [.ref k0, .ref k1, .ref h1, .ref h2, .ref k2, .ref k3, .ref k4, .ref k5, .ref k6, .ref k7, .ref k8, .int i0, .int i1, .int i2, .int i3])), (h1, aI cI 20 f4), (h2, aI cI 20 f5)] sz)) 0 0 (va_A [(h0, .inr (0, [.ref k0, .ref k1, .ref h1, .ref h2, .ref k2, .ref k3, .ref k4, .ref k5, .ref k6, .ref k7, .ref k8, .int i0, .int i1, .int i2, .int i3])), (h1, aI cI 20 f4), (h2, aI cI 20 f5)] sz) := by
  refine Met.ofW (cc := cX0_area) (maxL := 4) (ret := (some .int)) (by decide) rfl ?_
  intro p e s m args below meth c s₁ B hml hv
  obtain ⟨rfl, hsz, hP, hK, hD0, hN⟩ := hv
  have hx := B.exec
  have hb := B.bytes
  have hr := B.returns
  have hts : ∀ w ∈ xW, w.before _ s = true := fun w h => atoms_spec (ws := xw yX0_area cX0_area 4 (some .int)) B.pre w (List.mem_cons_of_mem _ h)
  have hown : s.vm.findClass RX0 = some m.cls := findClass_of_methodNamed B.named
  have hlocks := B.notSynchronized
  subst hsz
  have hD := hD0.self (sz := s.heap.size)
  clear hD0
  generalize hAe : va_A [(h0, .inr (0, [.ref k0, .ref k1, .ref h1, .ref h2, .ref k2, .ref k3, .ref k4, .ref k5, .ref k6, .ref k7, .ref k8, .int i0, .int i1, .int i2, .int i3])), (h1, aI cI 20 f4), (h2, aI cI 20 f5)] s.heap.size = A at hD ⊢
  have hA : ∀ q : Nat, s.heap.size ≤ q → A q := fun q h => by rw [← hAe]; exact Or.inr h
  clear hAe
  have hS : va_S A s.heap s.heap [] := va_S.rf
  replace hP : va_P G vwCl [(h0, .inr (0, [.ref k0, .ref k1, .ref h1, .ref h2, .ref k2, .ref k3, .ref k4, .ref k5, .ref k6, .ref k7, .ref k8, .int i0, .int i1, .int i2, .int i3])), (h1, aI cI 20 f4), (h2, aI cI 20 f5)] s.heap := hP
  have hl := lv_entry ([.ref h0, .int p0, .int p1, .int p2]) (n := 4) (Nat.le_of_ble_eq_true rfl)
  rw [lg_entry_eq]
  generalize (lg_sl ([.ref h0, .int p0, .int p1, .int p2]) ++ List.replicate (4 - (lg_sl ([.ref h0, .int p0, .int p1, .int p2])).length) Slot.unset).toArray = ls at hl ⊢
  replace hl : lv_has ls 4 [(0, .ref h0), (1, .int p0), (2, .int p1), (3, .int p2)] := hl
  generalize hQQ : MQ below _ _ s 0 0 _ = QQ
  skip
  unfold wX0_area at hwp
  refine lv_aload_n hx hb dX0_area_0 rfl (lv_at hl 0 rfl) ?_
  refine va_get (D := G) (ci := 0) (v := .ref h1) (C := RX0) (T := TX0) (N := 15) hx hb hts xinX0 hown hK hP 0 rfl rfl 2 (by decide) (hts _ wo_159) (fun _ h9 => h9) rfl dX0_area_1 ?_
  refine lv_iload_n hx hb dX0_area_4 rfl (lv_at hl 2 rfl) ?_
  obtain ⟨hi, hwp⟩ := hwp
  refine va_iald hx hb hK hP 1 0 rfl rfl hi dX0_area_5 ?_
  refine lv_aload_n hx hb dX0_area_6 rfl (lv_at hl 0 rfl) ?_
  refine va_get (D := G) (ci := 0) (v := .ref h1) (C := RX0) (T := TX0) (N := 15) hx hb hts xinX0 hown hK hP 0 rfl rfl 2 (by decide) (hts _ wo_159) (fun _ h9 => h9) rfl dX0_area_7 ?_
  refine lv_iload_n hx hb dX0_area_10 rfl (lv_at hl 1 rfl) ?_
  obtain ⟨hi, hwp⟩ := hwp
  refine va_iald hx hb hK hP 1 0 rfl rfl hi dX0_area_11 ?_
  refine lv_isub hx hb dX0_area_12 ?_
  refine lv_aload_n hx hb dX0_area_13 rfl (lv_at hl 0 rfl) ?_
  refine va_get (D := G) (ci := 0) (v := .ref h2) (C := RX0) (T := TX0) (N := 15) hx hb hts xinX0 hown hK hP 0 rfl rfl 3 (by decide) (hts _ wo_160) (fun _ h9 => h9) rfl dX0_area_14 ?_
  refine lv_iload_n hx hb dX0_area_17 rfl (lv_at hl 3 rfl) ?_
  obtain ⟨hi, hwp⟩ := hwp
  refine va_iald hx hb hK hP 2 0 rfl rfl hi dX0_area_18 ?_
  refine lv_aload_n hx hb dX0_area_19 rfl (lv_at hl 0 rfl) ?_
  refine va_get (D := G) (ci := 0) (v := .ref h2) (C := RX0) (T := TX0) (N := 15) hx hb hts xinX0 hown hK hP 0 rfl rfl 3 (by decide) (hts _ wo_160) (fun _ h9 => h9) rfl dX0_area_20 ?_
  refine lv_iload_n hx hb dX0_area_23 rfl (lv_at hl 1 rfl) ?_
  obtain ⟨hi, hwp⟩ := hwp
  refine va_iald hx hb hK hP 2 0 rfl rfl hi dX0_area_24 ?_
  refine lv_isub hx hb dX0_area_25 ?_
  refine lv_imul hx hb dX0_area_26 ?_
  refine lv_aload_n hx hb dX0_area_27 rfl (lv_at hl 0 rfl) ?_
  refine va_get (D := G) (ci := 0) (v := .ref h1) (C := RX0) (T := TX0) (N := 15) hx hb hts xinX0 hown hK hP 0 rfl rfl 2 (by decide) (hts _ wo_159) (fun _ h9 => h9) rfl dX0_area_28 ?_
  refine lv_iload_n hx hb dX0_area_31 rfl (lv_at hl 3 rfl) ?_
  obtain ⟨hi, hwp⟩ := hwp
  refine va_iald hx hb hK hP 1 0 rfl rfl hi dX0_area_32 ?_
  refine lv_aload_n hx hb dX0_area_33 rfl (lv_at hl 0 rfl) ?_
  refine va_get (D := G) (ci := 0) (v := .ref h1) (C := RX0) (T := TX0) (N := 15) hx hb hts xinX0 hown hK hP 0 rfl rfl 2 (by decide) (hts _ wo_159) (fun _ h9 => h9) rfl dX0_area_34 ?_
  refine lv_iload_n hx hb dX0_area_37 rfl (lv_at hl 1 rfl) ?_
  obtain ⟨hi, hwp⟩ := hwp
  refine va_iald hx hb hK hP 1 0 rfl rfl hi dX0_area_38 ?_
  refine lv_isub hx hb dX0_area_39 ?_
  refine lv_aload_n hx hb dX0_area_40 rfl (lv_at hl 0 rfl) ?_
  refine va_get (D := G) (ci := 0) (v := .ref h2) (C := RX0) (T := TX0) (N := 15) hx hb hts xinX0 hown hK hP 0 rfl rfl 3 (by decide) (hts _ wo_160) (fun _ h9 => h9) rfl dX0_area_41 ?_
  refine lv_iload_n hx hb dX0_area_44 rfl (lv_at hl 2 rfl) ?_
  obtain ⟨hi, hwp⟩ := hwp
  refine va_iald hx hb hK hP 2 0 rfl rfl hi dX0_area_45 ?_
  refine lv_aload_n hx hb dX0_area_46 rfl (lv_at hl 0 rfl) ?_
  refine va_get (D := G) (ci := 0) (v := .ref h2) (C := RX0) (T := TX0) (N := 15) hx hb hts xinX0 hown hK hP 0 rfl rfl 3 (by decide) (hts _ wo_160) (fun _ h9 => h9) rfl dX0_area_47 ?_
  refine lv_iload_n hx hb dX0_area_50 rfl (lv_at hl 1 rfl) ?_
  obtain ⟨hi, hwp⟩ := hwp
  refine va_iald hx hb hK hP 2 0 rfl rfl hi dX0_area_51 ?_
  refine lv_isub hx hb dX0_area_52 ?_
  refine lv_imul hx hb dX0_area_53 ?_
  refine lv_isub hx hb dX0_area_54 ?_
  have hP9 : va_P G vwCl [(h0, .inr (0, [.ref k0, .ref k1, .ref h1, .ref h2, .ref k2, .ref k3, .ref k4, .ref k5, .ref k6, .ref k7, .ref k8, .int i0, .int i1, .int i2, .int i3])), (h1, aI cI 20 f4), (h2, aI cI 20 f5)] s.heap := hP.sub [0, 1, 2] rfl
  have hD9 : va_D A [(h0, .inr (0, [.ref k0, .ref k1, .ref h1, .ref h2, .ref k2, .ref k3, .ref k4, .ref k5, .ref k6, .ref k7, .ref k8, .int i0, .int i1, .int i2, .int i3])), (h1, aI cI 20 f4), (h2, aI cI 20 f5)] := hD.sub [0, 1, 2] (by decide) rfl
  rw [← hQQ]
  exact W.iret (v := ((((f4 (Int32.toNatClampNeg p1)) - (f4 (Int32.toNatClampNeg p0))) * ((f5 (Int32.toNatClampNeg p2)) - (f5 (Int32.toNatClampNeg p0)))) - (((f4 (Int32.toNatClampNeg p2)) - (f4 (Int32.toNatClampNeg p0))) * ((f5 (Int32.toNatClampNeg p1)) - (f5 (Int32.toNatClampNeg p0)))))) hx hb hr (fun t ht hW => ⟨⟨_, (), rfl, hwp, by rw [ht]; exact hP9, hD9⟩, hS.F ht⟩) hS.2.2 dX0_area_55
def wX0_overlap (i0 : Int32) (i1 : Int32) (i2 : Int32) (i3 : Int32) (f4 : Nat → Int32) (f5 : Nat → Int32) (p0 : Int32) (p1 : Int32) (p2 : Int32) (K : Int32 → Unit → Prop) : Prop := (vp_in p1 20 ∧ (vp_in p0 20 ∧ (vp_in p2 20 ∧ (vp_in p0 20 ∧ (vp_in p1 20 ∧ (vp_in p0 20 ∧ (vp_in p2 20 ∧ (vp_in p0 20 ∧ (∀ v55 : Int32, v55 = ((((f4 (Int32.toNatClampNeg p1)) - (f4 (Int32.toNatClampNeg p0))) * ((f4 (Int32.toNatClampNeg p2)) - (f4 (Int32.toNatClampNeg p0)))) + (((f5 (Int32.toNatClampNeg p1)) - (f5 (Int32.toNatClampNeg p0))) * ((f5 (Int32.toNatClampNeg p2)) - (f5 (Int32.toNatClampNeg p0))))) → (wX0_area i0 i1 i2 i3 f4 f5 p0 p1 p2 (fun r61 _ => ((¬ r61 = 0 → K (0 : Int32) ()) ∧ (r61 = 0 → ((v55 ≤ 0 → K (0 : Int32) ()) ∧ (¬ v55 ≤ 0 → K (1 : Int32) ())))))))))))))))
set_option maxHeartbeats 4000000 in
set_option maxRecDepth 100000 in
theorem zX0_overlap (l : Launch) (G : va_G) (cI cJ cZ : ClassId) (h0 h1 h2 k0 k1 k2 k3 k4 k5 k6 k7 k8 sz : Nat) (i0 : Int32) (i1 : Int32) (i2 : Int32) (i3 : Int32) (f4 : Nat → Int32) (f5 : Nat → Int32) (p0 : Int32) (p1 : Int32) (p2 : Int32) (K : Int32 → Unit → Prop) (hwp : wX0_overlap i0 i1 i2 i3 f4 f5 p0 p1 p2 K) : Met l yX0_overlap (xw yX0_overlap cX0_overlap 5 (some .boolean)) ({ frames := 1, cells := 0, slots := 0, locals := 23 }) (xPc G cI cJ cZ [.ref h0, .int p0, .int p1, .int p2] [(h0, .inr (0, [.ref k0, .ref k1, .ref h1, .ref h2, .ref k2, .ref k3, .ref k4, .ref k5, .ref k6, .ref k7, .ref k8, .int i0, .int i1, .int i2, .int i3])), (h1, aI cI 20 f4), (h2, aI cI 20 f5)] sz) (va_Qi (fun (r : Int32) (u : Unit) => K r u) (fun (u : Unit) t => xB G (va_A [(h0, .inr (0, [.ref k0, .ref k1, .ref h1, .ref h2, .ref k2, .ref k3, .ref k4, .ref k5, .ref k6, .ref k7, .ref k8, .int i0, .int i1, .int i2, .int i3])), (h1, aI cI 20 f4), (h2, aI cI 20 f5)] sz) [(h0, .inr (0, [.ref k0, .ref k1, .ref h1, .ref h2, .ref k2, .ref k3, .ref k4, .ref k5, .ref k6, .ref k7, .ref k8, .int i0, .int i1, .int i2, .int i3])), (h1, aI cI 20 f4), (h2, aI cI 20 f5)] t) (va_A [(h0, .inr (0, [.ref k0, .ref k1, .ref h1, .ref h2, .ref k2, .ref k3, .ref k4, .ref k5, .ref k6, .ref k7, .ref k8, .int i0, .int i1, .int i2, .int i3])), (h1, aI cI 20 f4), (h2, aI cI 20 f5)] sz)) 0 0 (va_A [(h0, .inr (0, [.ref k0, .ref k1, .ref h1, .ref h2, .ref k2, .ref k3, .ref k4, .ref k5, .ref k6, .ref k7, .ref k8, .int i0, .int i1, .int i2, .int i3])), (h1, aI cI 20 f4), (h2, aI cI 20 f5)] sz) := by
  refine Met.ofW (cc := cX0_overlap) (maxL := 5) (ret := (some .boolean)) (by decide) rfl ?_
  intro p e s m args below meth c s₁ B hml hv
  obtain ⟨rfl, hsz, hP, hK, hD0, hN⟩ := hv
  have hx := B.exec
  have hb := B.bytes
  have hr := B.returns
  have hts : ∀ w ∈ xW, w.before _ s = true := fun w h => atoms_spec (ws := xw yX0_overlap cX0_overlap 5 (some .boolean)) B.pre w (List.mem_cons_of_mem _ h)
  have hown : s.vm.findClass RX0 = some m.cls := findClass_of_methodNamed B.named
  have hlocks := B.notSynchronized
  subst hsz
  have hD := hD0.self (sz := s.heap.size)
  clear hD0
  generalize hAe : va_A [(h0, .inr (0, [.ref k0, .ref k1, .ref h1, .ref h2, .ref k2, .ref k3, .ref k4, .ref k5, .ref k6, .ref k7, .ref k8, .int i0, .int i1, .int i2, .int i3])), (h1, aI cI 20 f4), (h2, aI cI 20 f5)] s.heap.size = A at hD ⊢
  have hA : ∀ q : Nat, s.heap.size ≤ q → A q := fun q h => by rw [← hAe]; exact Or.inr h
  clear hAe
  have hS : va_S A s.heap s.heap [] := va_S.rf
  replace hP : va_P G vwCl [(h0, .inr (0, [.ref k0, .ref k1, .ref h1, .ref h2, .ref k2, .ref k3, .ref k4, .ref k5, .ref k6, .ref k7, .ref k8, .int i0, .int i1, .int i2, .int i3])), (h1, aI cI 20 f4), (h2, aI cI 20 f5)] s.heap := hP
  have hl := lv_entry ([.ref h0, .int p0, .int p1, .int p2]) (n := 5) (Nat.le_of_ble_eq_true rfl)
  rw [lg_entry_eq]
  generalize (lg_sl ([.ref h0, .int p0, .int p1, .int p2]) ++ List.replicate (5 - (lg_sl ([.ref h0, .int p0, .int p1, .int p2])).length) Slot.unset).toArray = ls at hl ⊢
  replace hl : lv_has ls 5 [(0, .ref h0), (1, .int p0), (2, .int p1), (3, .int p2)] := hl
  generalize hQQ : MQ below _ _ s 0 0 _ = QQ
  skip
  unfold wX0_overlap at hwp
  refine lv_aload_n hx hb dX0_overlap_0 rfl (lv_at hl 0 rfl) ?_
  refine va_get (D := G) (ci := 0) (v := .ref h1) (C := RX0) (T := TX0) (N := 15) hx hb hts xinX0 hown hK hP 0 rfl rfl 2 (by decide) (hts _ wo_159) (fun _ h9 => h9) rfl dX0_overlap_1 ?_
  refine lv_iload_n hx hb dX0_overlap_4 rfl (lv_at hl 2 rfl) ?_
  obtain ⟨hi, hwp⟩ := hwp
  refine va_iald hx hb hK hP 1 0 rfl rfl hi dX0_overlap_5 ?_
  refine lv_aload_n hx hb dX0_overlap_6 rfl (lv_at hl 0 rfl) ?_
  refine va_get (D := G) (ci := 0) (v := .ref h1) (C := RX0) (T := TX0) (N := 15) hx hb hts xinX0 hown hK hP 0 rfl rfl 2 (by decide) (hts _ wo_159) (fun _ h9 => h9) rfl dX0_overlap_7 ?_
  refine lv_iload_n hx hb dX0_overlap_10 rfl (lv_at hl 1 rfl) ?_
  obtain ⟨hi, hwp⟩ := hwp
  refine va_iald hx hb hK hP 1 0 rfl rfl hi dX0_overlap_11 ?_
  refine lv_isub hx hb dX0_overlap_12 ?_
  refine lv_aload_n hx hb dX0_overlap_13 rfl (lv_at hl 0 rfl) ?_
  refine va_get (D := G) (ci := 0) (v := .ref h1) (C := RX0) (T := TX0) (N := 15) hx hb hts xinX0 hown hK hP 0 rfl rfl 2 (by decide) (hts _ wo_159) (fun _ h9 => h9) rfl dX0_overlap_14 ?_
  refine lv_iload_n hx hb dX0_overlap_17 rfl (lv_at hl 3 rfl) ?_
  obtain ⟨hi, hwp⟩ := hwp
  refine va_iald hx hb hK hP 1 0 rfl rfl hi dX0_overlap_18 ?_
  refine lv_aload_n hx hb dX0_overlap_19 rfl (lv_at hl 0 rfl) ?_
  refine va_get (D := G) (ci := 0) (v := .ref h1) (C := RX0) (T := TX0) (N := 15) hx hb hts xinX0 hown hK hP 0 rfl rfl 2 (by decide) (hts _ wo_159) (fun _ h9 => h9) rfl dX0_overlap_20 ?_
  refine lv_iload_n hx hb dX0_overlap_23 rfl (lv_at hl 1 rfl) ?_
  obtain ⟨hi, hwp⟩ := hwp
  refine va_iald hx hb hK hP 1 0 rfl rfl hi dX0_overlap_24 ?_
  refine lv_isub hx hb dX0_overlap_25 ?_
  refine lv_imul hx hb dX0_overlap_26 ?_
  refine lv_aload_n hx hb dX0_overlap_27 rfl (lv_at hl 0 rfl) ?_
  refine va_get (D := G) (ci := 0) (v := .ref h2) (C := RX0) (T := TX0) (N := 15) hx hb hts xinX0 hown hK hP 0 rfl rfl 3 (by decide) (hts _ wo_160) (fun _ h9 => h9) rfl dX0_overlap_28 ?_
  refine lv_iload_n hx hb dX0_overlap_31 rfl (lv_at hl 2 rfl) ?_
  obtain ⟨hi, hwp⟩ := hwp
  refine va_iald hx hb hK hP 2 0 rfl rfl hi dX0_overlap_32 ?_
  refine lv_aload_n hx hb dX0_overlap_33 rfl (lv_at hl 0 rfl) ?_
  refine va_get (D := G) (ci := 0) (v := .ref h2) (C := RX0) (T := TX0) (N := 15) hx hb hts xinX0 hown hK hP 0 rfl rfl 3 (by decide) (hts _ wo_160) (fun _ h9 => h9) rfl dX0_overlap_34 ?_
  refine lv_iload_n hx hb dX0_overlap_37 rfl (lv_at hl 1 rfl) ?_
  obtain ⟨hi, hwp⟩ := hwp
  refine va_iald hx hb hK hP 2 0 rfl rfl hi dX0_overlap_38 ?_
  refine lv_isub hx hb dX0_overlap_39 ?_
  refine lv_aload_n hx hb dX0_overlap_40 rfl (lv_at hl 0 rfl) ?_
  refine va_get (D := G) (ci := 0) (v := .ref h2) (C := RX0) (T := TX0) (N := 15) hx hb hts xinX0 hown hK hP 0 rfl rfl 3 (by decide) (hts _ wo_160) (fun _ h9 => h9) rfl dX0_overlap_41 ?_
  refine lv_iload_n hx hb dX0_overlap_44 rfl (lv_at hl 3 rfl) ?_
  obtain ⟨hi, hwp⟩ := hwp
  refine va_iald hx hb hK hP 2 0 rfl rfl hi dX0_overlap_45 ?_
  refine lv_aload_n hx hb dX0_overlap_46 rfl (lv_at hl 0 rfl) ?_
  refine va_get (D := G) (ci := 0) (v := .ref h2) (C := RX0) (T := TX0) (N := 15) hx hb hts xinX0 hown hK hP 0 rfl rfl 3 (by decide) (hts _ wo_160) (fun _ h9 => h9) rfl dX0_overlap_47 ?_
  refine lv_iload_n hx hb dX0_overlap_50 rfl (lv_at hl 1 rfl) ?_
  obtain ⟨hi, hwp⟩ := hwp
  refine va_iald hx hb hK hP 2 0 rfl rfl hi dX0_overlap_51 ?_
  refine lv_isub hx hb dX0_overlap_52 ?_
  refine lv_imul hx hb dX0_overlap_53 ?_
  refine lv_iadd hx hb dX0_overlap_54 ?_
  refine lv_topi (fun v55 ev55 => ?_)
  replace hwp := hwp v55 ev55
  clear ev55
  refine lv_istore (lv' := [(4, .int v55), (0, .ref h0), (1, .int p0), (2, .int p1), (3, .int p2)]) hx hb dX0_overlap_55 hl (by decide) rfl (fun ls hl => ?_)
  refine lv_aload_n hx hb dX0_overlap_57 rfl (lv_at hl 1 rfl) ?_
  refine lv_iload_n hx hb dX0_overlap_58 rfl (lv_at hl 2 rfl) ?_
  refine lv_iload_n hx hb dX0_overlap_59 rfl (lv_at hl 3 rfl) ?_
  refine lv_iload_n hx hb dX0_overlap_60 rfl (lv_at hl 4 rfl) ?_
  refine xci (wr := []) (va_runV (As := [.int p0, .int p1, .int p2]) (rest := []) ⟨hx, hb, hml, hown, hts⟩ (zX0_area l G cI cJ cZ h0 h1 h2 k0 k1 k2 k3 k4 k5 k6 k7 k8 s.heap.size i0 i1 i2 i3 f4 f5 p0 p1 p2 _ hwp) (cwV 3 hts (xgoodV wo_177 wo_178 wo_179 wo_180 wo_141) rfl rfl rfl (by decide +kernel) ⟨Nat.le_of_ble_eq_true rfl, Nat.le_of_ble_eq_true rfl⟩) (xPreV (q := (RX0, TX0, 15)) (q0 := 0) hK hN hP hD [0, 1, 2] (by decide) rfl rfl rfl) rfl rfl hl.1 rfl (lv_room (Nat.le_of_ble_eq_true rfl)) dX0_overlap_61 ⟨Nat.le_of_ble_eq_true rfl, Nat.le_of_ble_eq_true rfl⟩) hP hD hS hA [0, 1, 2] [] rfl rfl (by decide) (by decide) (fun r61 u61 H locs hwp hP hD hS => ?_)
  replace hP : va_P G vwCl [(h0, .inr (0, [.ref k0, .ref k1, .ref h1, .ref h2, .ref k2, .ref k3, .ref k4, .ref k5, .ref k6, .ref k7, .ref k8, .int i0, .int i1, .int i2, .int i3])), (h1, aI cI 20 f4), (h2, aI cI 20 f5)] H := hP
  replace hD : va_D A [(h0, .inr (0, [.ref k0, .ref k1, .ref h1, .ref h2, .ref k2, .ref k3, .ref k4, .ref k5, .ref k6, .ref k7, .ref k8, .int i0, .int i1, .int i2, .int i3])), (h1, aI cI 20 f4), (h2, aI cI 20 f5)] := hD
  refine lv_if_ne (tgt := 76) hx hb dX0_overlap_64 (by decide) (fun c64 => ?_) (fun c64 => ?_)
  · replace hwp := hwp.1 c64
    refine lv_iconst (v := 0) hx hb dX0_overlap_76 (by decide) ?_
    have hP9 : va_P G vwCl [(h0, .inr (0, [.ref k0, .ref k1, .ref h1, .ref h2, .ref k2, .ref k3, .ref k4, .ref k5, .ref k6, .ref k7, .ref k8, .int i0, .int i1, .int i2, .int i3])), (h1, aI cI 20 f4), (h2, aI cI 20 f5)] H := hP.sub [0, 1, 2] rfl
    have hD9 : va_D A [(h0, .inr (0, [.ref k0, .ref k1, .ref h1, .ref h2, .ref k2, .ref k3, .ref k4, .ref k5, .ref k6, .ref k7, .ref k8, .int i0, .int i1, .int i2, .int i3])), (h1, aI cI 20 f4), (h2, aI cI 20 f5)] := hD.sub [0, 1, 2] (by decide) rfl
    rw [← hQQ]
    exact W.zret (v := 0) hx hb hr rfl (fun t ht hW => ⟨⟨_, (), rfl, hwp, by rw [ht]; exact hP9, hD9⟩, hS.F ht⟩) hS.2.2 dX0_overlap_77
  · replace hwp := hwp.2 c64
    refine lv_iload hx hb dX0_overlap_67 (lv_at hl 0 rfl) ?_
    refine lv_if_le (tgt := 76) hx hb dX0_overlap_69 (by decide) (fun c69 => ?_) (fun c69 => ?_)
    · replace hwp := hwp.1 c69
      refine lv_iconst (v := 0) hx hb dX0_overlap_76 (by decide) ?_
      have hP9 : va_P G vwCl [(h0, .inr (0, [.ref k0, .ref k1, .ref h1, .ref h2, .ref k2, .ref k3, .ref k4, .ref k5, .ref k6, .ref k7, .ref k8, .int i0, .int i1, .int i2, .int i3])), (h1, aI cI 20 f4), (h2, aI cI 20 f5)] H := hP.sub [0, 1, 2] rfl
      have hD9 : va_D A [(h0, .inr (0, [.ref k0, .ref k1, .ref h1, .ref h2, .ref k2, .ref k3, .ref k4, .ref k5, .ref k6, .ref k7, .ref k8, .int i0, .int i1, .int i2, .int i3])), (h1, aI cI 20 f4), (h2, aI cI 20 f5)] := hD.sub [0, 1, 2] (by decide) rfl
      rw [← hQQ]
      exact W.zret (v := 0) hx hb hr rfl (fun t ht hW => ⟨⟨_, (), rfl, hwp, by rw [ht]; exact hP9, hD9⟩, hS.F ht⟩) hS.2.2 dX0_overlap_77
    · replace hwp := hwp.2 c69
      refine lv_iconst (v := 1) hx hb dX0_overlap_72 (by decide) ?_
      refine lv_goto (tgt := 77) hx hb dX0_overlap_73 (by decide) ?_
      have hP9 : va_P G vwCl [(h0, .inr (0, [.ref k0, .ref k1, .ref h1, .ref h2, .ref k2, .ref k3, .ref k4, .ref k5, .ref k6, .ref k7, .ref k8, .int i0, .int i1, .int i2, .int i3])), (h1, aI cI 20 f4), (h2, aI cI 20 f5)] H := hP.sub [0, 1, 2] rfl
      have hD9 : va_D A [(h0, .inr (0, [.ref k0, .ref k1, .ref h1, .ref h2, .ref k2, .ref k3, .ref k4, .ref k5, .ref k6, .ref k7, .ref k8, .int i0, .int i1, .int i2, .int i3])), (h1, aI cI 20 f4), (h2, aI cI 20 f5)] := hD.sub [0, 1, 2] (by decide) rfl
      rw [← hQQ]
      exact W.zret (v := 1) hx hb hr rfl (fun t ht hW => ⟨⟨_, (), rfl, hwp, by rw [ht]; exact hP9, hD9⟩, hS.F ht⟩) hS.2.2 dX0_overlap_77

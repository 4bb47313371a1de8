def wLX6_layByThirds_64 (i1 : Int32) (f2 : Nat → Int32) (f3 : Nat → Int32) (K : ((Nat → Int32)) → Prop)  : Nat → (Nat → Int32) → Int32 → Int32 → Int32 → Prop
  | 0, _, _, _, _ => False
  | n64 + 1, t64_0, t64_1, t64_2, t64_3 => ((i1 ≤ t64_3 → K t64_0) ∧ (¬ i1 ≤ t64_3 → (((t64_1 &&& (t64_2 ^^^ (-1))) = 0 → K t64_0) ∧ (¬ (t64_1 &&& (t64_2 ^^^ (-1))) = 0 → (wX8_lowest (t64_1 &&& (t64_2 ^^^ (-1))) (fun r89 _ => (wX6_goRound i1 t64_0 f2 f3 r89 (fun u97 => (∀ v106 : Int32, v106 = (t64_2 ||| ((1 : Int32) <<< (r89 &&& 31))) → (vp_in r89 20 ∧ (∀ v119 : Int32, v119 = (t64_1 ||| (f2 (Int32.toNatClampNeg r89))) → (wLX6_layByThirds_64 i1 f2 f3 K  n64) u97 v119 v106 (t64_3 + 1))))))))))))
def wX6_layByThirds (f0 : Nat → Int32) (i1 : Int32) (f2 : Nat → Int32) (f3 : Nat → Int32) (K : ((Nat → Int32)) → Prop) : Prop := (wJ7_fill_53178_1 f0 ((-1) : Int32) (fun u5 => (wX8_lowest (f2 (Int32.toNatClampNeg (0 : Int32))) (fun r17 _ => ((i1 ≤ r17 → K u5) ∧ (¬ i1 ≤ r17 → (wX6_thirdsOf f3 (0 : Int32) r17 (fun r35 _ => ((¬ r35 = 0 → (wX6_thirdsOf f3 (0 : Int32) r17 (fun r48 _ => (wX8_lowest r48 (fun r51 _ => (wX6_setFace u5 (0 : Int32) r17 r51 (fun u54 => (∃ n64, wLX6_layByThirds_64 i1 f2 f3 K  n64 u54 1 0 0)))))))) ∧ (r35 = 0 → K u5))))))))))
set_option maxHeartbeats 4000000 in
set_option maxRecDepth 100000 in
theorem zX6_layByThirds (l : Launch) (G : va_G) (cI cJ cZ : ClassId) (h0 h1 h2 h3 h4 k0 sz : Nat) (f0 : Nat → Int32) (i1 : Int32) (f2 : Nat → Int32) (f3 : Nat → Int32) (K : ((Nat → Int32)) → Prop) (hwp : wX6_layByThirds f0 i1 f2 f3 K) : Met l yX6_layByThirds (xw yX6_layByThirds cX6_layByThirds 6 none) ({ frames := 3, cells := 0, slots := 0, locals := 70 }) (xPc G cI cJ cZ [.ref h0] [(h0, .inr (6, [.ref h2, .ref h4, .ref h1])), (h1, aI cI 400 f0), (h2, .inr (2, [.ref k0, .ref h3, .int i1])), (h3, aI cI 20 f2), (h4, aI cI 400 f3)] sz) (va_Qv (fun (u : (Nat → Int32)) => K u) (fun (u : (Nat → Int32)) t => xB G (va_A [(h0, .inr (6, [.ref h2, .ref h4, .ref h1])), (h1, aI cI 400 f0), (h2, .inr (2, [.ref k0, .ref h3, .int i1])), (h3, aI cI 20 f2), (h4, aI cI 400 f3)] sz) [(h0, .inr (6, [.ref h2, .ref h4, .ref h1])), (h1, aI cI 400 u), (h2, .inr (2, [.ref k0, .ref h3, .int i1])), (h3, aI cI 20 f2), (h4, aI cI 400 f3)] t) (va_A [(h0, .inr (6, [.ref h2, .ref h4, .ref h1])), (h1, aI cI 400 f0), (h2, .inr (2, [.ref k0, .ref h3, .int i1])), (h3, aI cI 20 f2), (h4, aI cI 400 f3)] sz)) 0 0 (va_A [(h0, .inr (6, [.ref h2, .ref h4, .ref h1])), (h1, aI cI 400 f0), (h2, .inr (2, [.ref k0, .ref h3, .int i1])), (h3, aI cI 20 f2), (h4, aI cI 400 f3)] sz) := by
  refine Met.ofW (cc := cX6_layByThirds) (maxL := 6) (ret := none) (by decide) rfl ?_
  intro p e s m args below meth c s₁ B hml hv
  obtain ⟨rfl, hsz, hP, hK, hD0, hN⟩ := hv
  have hx := B.exec
  have hb := B.bytes
  have hr := B.returns
  have hts : ∀ w ∈ xW, w.before _ s = true := fun w h => atoms_spec (ws := xw yX6_layByThirds cX6_layByThirds 6 none) B.pre w (List.mem_cons_of_mem _ h)
  have hown : s.vm.findClass RX6 = some m.cls := findClass_of_methodNamed B.named
  have hlocks := B.notSynchronized
  subst hsz
  have hD := hD0.self (sz := s.heap.size)
  clear hD0
  generalize hAe : va_A [(h0, .inr (6, [.ref h2, .ref h4, .ref h1])), (h1, aI cI 400 f0), (h2, .inr (2, [.ref k0, .ref h3, .int i1])), (h3, aI cI 20 f2), (h4, aI cI 400 f3)] s.heap.size = A at hD ⊢
  have hA : ∀ q : Nat, s.heap.size ≤ q → A q := fun q h => by rw [← hAe]; exact Or.inr h
  clear hAe
  have hS : va_S A s.heap s.heap [] := va_S.rf
  replace hP : va_P G vwCl [(h0, .inr (6, [.ref h2, .ref h4, .ref h1])), (h1, aI cI 400 f0), (h2, .inr (2, [.ref k0, .ref h3, .int i1])), (h3, aI cI 20 f2), (h4, aI cI 400 f3)] s.heap := hP
  have hl := lv_entry ([.ref h0]) (n := 6) (Nat.le_of_ble_eq_true rfl)
  rw [lg_entry_eq]
  generalize (lg_sl ([.ref h0]) ++ List.replicate (6 - (lg_sl ([.ref h0])).length) Slot.unset).toArray = ls at hl ⊢
  replace hl : lv_has ls 6 [(0, .ref h0)] := hl
  generalize hQQ : MQ below _ _ s 0 0 _ = QQ
  skip
  unfold wX6_layByThirds at hwp
  refine lv_aload_n hx hb dX6_layByThirds_0 rfl (lv_at hl 0 rfl) ?_
  refine va_get (D := G) (ci := 6) (v := .ref h1) (C := RX6) (T := TX6) (N := 3) hx hb hts xinX6 hown hK hP 0 rfl rfl 2 (by decide) (hts _ wo_42) (fun _ h9 => h9) rfl dX6_layByThirds_1 ?_
  refine lv_iconst (v := (-1)) hx hb dX6_layByThirds_4 (by decide) ?_
  refine xcv (wr := [(h0, .inr (6, [.ref h2, .ref h4, .ref h1])), (h2, .inr (2, [.ref k0, .ref h3, .int i1])), (h3, aI cI 20 f2), (h4, aI cI 400 f3)]) (va_runS (As := [.ref h1, .int (-1)]) (rest := []) ⟨hx, hb, hml, hown, hts⟩ (zJ7_fill_53178_1 l G cI cJ cZ h1 s.heap.size f0 ((-1) : Int32) _ hwp) (va_cwS 2 hts (xgoodS wo_4 wo_60 wo_6 wo_7) rfl rfl rfl (by decide +kernel) ⟨Nat.le_of_ble_eq_true rfl, Nat.le_of_ble_eq_true rfl⟩) (xPreS hK hN hP hD [1] (by decide) rfl) rfl rfl hl.1 rfl (lv_room (Nat.le_of_ble_eq_true rfl)) dX6_layByThirds_5 ⟨Nat.le_of_ble_eq_true rfl, Nat.le_of_ble_eq_true rfl⟩) hP hD hS hA [1] [0, 2, 3, 4] rfl rfl (by decide) (by decide) (fun u5 H locs hwp hP hD hS => ?_)
  replace hP : va_P G vwCl [(h0, .inr (6, [.ref h2, .ref h4, .ref h1])), (h2, .inr (2, [.ref k0, .ref h3, .int i1])), (h3, aI cI 20 f2), (h4, aI cI 400 f3), (h1, aI cI 400 u5)] H := hP
  replace hD : va_D A [(h0, .inr (6, [.ref h2, .ref h4, .ref h1])), (h2, .inr (2, [.ref k0, .ref h3, .int i1])), (h3, aI cI 20 f2), (h4, aI cI 400 f3), (h1, aI cI 400 u5)] := hD
  refine lv_aload_n hx hb dX6_layByThirds_8 rfl (lv_at hl 0 rfl) ?_
  refine va_get (D := G) (ci := 6) (v := .ref h2) (C := RX6) (T := TX6) (N := 3) hx hb hts xinX6 hown hK hP 0 rfl rfl 0 (by decide) (hts _ wo_47) (fun _ h9 => h9) rfl dX6_layByThirds_9 ?_
  refine va_getN (D := G) (ci := 2) (v := .ref h3) (C := RX2) (T := TX2) (N := 3) hx hb hts xinX2 hown hK hP 1 rfl rfl 1 (by decide) (va_Nw.use rfl (hN.1 ("PlaneTests$Round", 22, "PlaneTests$Filled", "joined", "[I", "PlaneTests") (by decide +kernel))) (fun _ h9 => h9) rfl dX6_layByThirds_12 ?_
  refine lv_iconst (v := 0) hx hb dX6_layByThirds_15 (by decide) ?_
  refine va_iald hx hb hK hP 2 0 rfl rfl (by unfold vp_in; decide) dX6_layByThirds_16 ?_
  refine xci (wr := [(h0, .inr (6, [.ref h2, .ref h4, .ref h1])), (h2, .inr (2, [.ref k0, .ref h3, .int i1])), (h3, aI cI 20 f2), (h4, aI cI 400 f3), (h1, aI cI 400 u5)]) (va_runSN (As := [.int (f2 (Int32.toNatClampNeg (0 : Int32)))]) (rest := []) ⟨hx, hb, hml, hown, hts⟩ (zX8_lowest l G cI cJ cZ H.size (f2 (Int32.toNatClampNeg (0 : Int32))) _ hwp) ⟨(va_cnB 1 hts (xgood wo_48) rfl rfl rfl (hN.2 ("PlaneTests$Round", 27, yX8_lowest, "PlaneTests") (by decide +kernel)) (hts _ wo_49) (by decide +kernel) ⟨Nat.le_of_ble_eq_true rfl, Nat.le_of_ble_eq_true rfl⟩), hts _ wo_50, trivial⟩ (xPreS hK hN hP hD [] (by decide) rfl) rfl rfl hl.1 rfl (lv_room (Nat.le_of_ble_eq_true rfl)) dX6_layByThirds_17 ⟨Nat.le_of_ble_eq_true rfl, Nat.le_of_ble_eq_true rfl⟩) hP hD hS hA [] [0, 1, 2, 3, 4] rfl rfl (by decide) (by decide) (fun r17 u17 H locs hwp hP hD hS => ?_)
  replace hP : va_P G vwCl [(h0, .inr (6, [.ref h2, .ref h4, .ref h1])), (h2, .inr (2, [.ref k0, .ref h3, .int i1])), (h3, aI cI 20 f2), (h4, aI cI 400 f3), (h1, aI cI 400 u5)] H := hP
  replace hD : va_D A [(h0, .inr (6, [.ref h2, .ref h4, .ref h1])), (h2, .inr (2, [.ref k0, .ref h3, .int i1])), (h3, aI cI 20 f2), (h4, aI cI 400 f3), (h1, aI cI 400 u5)] := hD
  refine lv_istore_n (lv' := [(1, .int r17), (0, .ref h0)]) hx hb dX6_layByThirds_20 rfl hl (by decide) rfl (fun ls hl => ?_)
  refine lv_iload_n hx hb dX6_layByThirds_21 rfl (lv_at hl 0 rfl) ?_
  refine lv_aload_n hx hb dX6_layByThirds_22 rfl (lv_at hl 1 rfl) ?_
  refine va_get (D := G) (ci := 6) (v := .ref h2) (C := RX6) (T := TX6) (N := 3) hx hb hts xinX6 hown hK hP 0 rfl rfl 0 (by decide) (hts _ wo_47) (fun _ h9 => h9) rfl dX6_layByThirds_23 ?_
  refine va_getN (D := G) (ci := 2) (v := .int i1) (C := RX2) (T := TX2) (N := 3) hx hb hts xinX2 hown hK hP 1 rfl rfl 2 (by decide) (va_Nw.use rfl (hN.1 ("PlaneTests$Round", 41, "PlaneTests$Filled", "nodes", "I", "PlaneTests") (by decide +kernel))) (fun _ h9 => h9) rfl dX6_layByThirds_26 ?_
  refine lv_icmp_ge (tgt := 41) hx hb dX6_layByThirds_29 (by decide) (fun c29 => ?_) (fun c29 => ?_)
  · replace hwp := hwp.1 c29
    have hP9 : va_P G vwCl [(h0, .inr (6, [.ref h2, .ref h4, .ref h1])), (h1, aI cI 400 u5), (h2, .inr (2, [.ref k0, .ref h3, .int i1])), (h3, aI cI 20 f2), (h4, aI cI 400 f3)] H := hP.sub [0, 4, 1, 2, 3] rfl
    have hD9 : va_D A [(h0, .inr (6, [.ref h2, .ref h4, .ref h1])), (h1, aI cI 400 u5), (h2, .inr (2, [.ref k0, .ref h3, .int i1])), (h3, aI cI 20 f2), (h4, aI cI 400 f3)] := hD.sub [0, 4, 1, 2, 3] (by decide) rfl
    rw [← hQQ]
    exact W.vret hx hb hr (fun t ht hW => ⟨⟨u5, rfl, hwp, by rw [ht]; exact hP9, hD9⟩, hS.F ht⟩) hS.2.2 dX6_layByThirds_41
  · replace hwp := hwp.2 c29
    refine lv_aload_n hx hb dX6_layByThirds_32 rfl (lv_at hl 1 rfl) ?_
    refine lv_iconst (v := 0) hx hb dX6_layByThirds_33 (by decide) ?_
    refine lv_iload_n hx hb dX6_layByThirds_34 rfl (lv_at hl 0 rfl) ?_
    refine xci (wr := [(h2, .inr (2, [.ref k0, .ref h3, .int i1])), (h3, aI cI 20 f2), (h1, aI cI 400 u5)]) (va_runV (As := [.int 0, .int r17]) (rest := []) ⟨hx, hb, hml, hown, hts⟩ (zX6_thirdsOf l G cI cJ cZ h0 h4 h2 h1 H.size f3 (0 : Int32) r17 _ hwp) (cwV 2 hts (xgoodV wo_76 wo_77 wo_78 wo_79 wo_55) rfl rfl rfl (by decide +kernel) ⟨Nat.le_of_ble_eq_true rfl, Nat.le_of_ble_eq_true rfl⟩) (xPreV (q := (RX6, TX6, 3)) (q0 := 0) hK hN hP hD [0, 3] (by decide) rfl rfl rfl) rfl rfl hl.1 rfl (lv_room (Nat.le_of_ble_eq_true rfl)) dX6_layByThirds_35 ⟨Nat.le_of_ble_eq_true rfl, Nat.le_of_ble_eq_true rfl⟩) hP hD hS hA [0, 3] [1, 2, 4] rfl rfl (by decide) (by decide) (fun r35 u35 H locs hwp hP hD hS => ?_)
    replace hP : va_P G vwCl [(h2, .inr (2, [.ref k0, .ref h3, .int i1])), (h3, aI cI 20 f2), (h1, aI cI 400 u5), (h0, .inr (6, [.ref h2, .ref h4, .ref h1])), (h4, aI cI 400 f3)] H := hP
    replace hD : va_D A [(h2, .inr (2, [.ref k0, .ref h3, .int i1])), (h3, aI cI 20 f2), (h1, aI cI 400 u5), (h0, .inr (6, [.ref h2, .ref h4, .ref h1])), (h4, aI cI 400 f3)] := hD
    refine lv_if_ne (tgt := 42) hx hb dX6_layByThirds_38 (by decide) (fun c38 => ?_) (fun c38 => ?_)
    · replace hwp := hwp.1 c38
      refine lv_aload_n hx hb dX6_layByThirds_42 rfl (lv_at hl 1 rfl) ?_
      refine lv_iconst (v := 0) hx hb dX6_layByThirds_43 (by decide) ?_
      refine lv_iload_n hx hb dX6_layByThirds_44 rfl (lv_at hl 0 rfl) ?_
      refine lv_aload_n hx hb dX6_layByThirds_45 rfl (lv_at hl 1 rfl) ?_
      refine lv_iconst (v := 0) hx hb dX6_layByThirds_46 (by decide) ?_
      refine lv_iload_n hx hb dX6_layByThirds_47 rfl (lv_at hl 0 rfl) ?_
      refine xci (wr := [(h2, .inr (2, [.ref k0, .ref h3, .int i1])), (h3, aI cI 20 f2), (h1, aI cI 400 u5)]) (va_runV (As := [.int 0, .int r17]) (rest := [.int r17, .int 0, .ref h0]) ⟨hx, hb, hml, hown, hts⟩ (zX6_thirdsOf l G cI cJ cZ h0 h4 h2 h1 H.size f3 (0 : Int32) r17 _ hwp) (cwV 2 hts (xgoodV wo_76 wo_77 wo_78 wo_79 wo_55) rfl rfl rfl (by decide +kernel) ⟨Nat.le_of_ble_eq_true rfl, Nat.le_of_ble_eq_true rfl⟩) (xPreV (q := (RX6, TX6, 3)) (q0 := 3) hK hN hP hD [3, 4] (by decide) rfl rfl rfl) rfl rfl hl.1 rfl (lv_room (Nat.le_of_ble_eq_true rfl)) dX6_layByThirds_48 ⟨Nat.le_of_ble_eq_true rfl, Nat.le_of_ble_eq_true rfl⟩) hP hD hS hA [3, 4] [0, 1, 2] rfl rfl (by decide) (by decide) (fun r48 u48 H locs hwp hP hD hS => ?_)
      replace hP : va_P G vwCl [(h2, .inr (2, [.ref k0, .ref h3, .int i1])), (h3, aI cI 20 f2), (h1, aI cI 400 u5), (h0, .inr (6, [.ref h2, .ref h4, .ref h1])), (h4, aI cI 400 f3)] H := hP
      replace hD : va_D A [(h2, .inr (2, [.ref k0, .ref h3, .int i1])), (h3, aI cI 20 f2), (h1, aI cI 400 u5), (h0, .inr (6, [.ref h2, .ref h4, .ref h1])), (h4, aI cI 400 f3)] := hD
      refine xci (wr := [(h2, .inr (2, [.ref k0, .ref h3, .int i1])), (h3, aI cI 20 f2), (h1, aI cI 400 u5), (h0, .inr (6, [.ref h2, .ref h4, .ref h1])), (h4, aI cI 400 f3)]) (va_runSN (As := [.int r48]) (rest := [.int r17, .int 0, .ref h0]) ⟨hx, hb, hml, hown, hts⟩ (zX8_lowest l G cI cJ cZ H.size r48 _ hwp) ⟨(va_cnB 1 hts (xgood wo_48) rfl rfl rfl (hN.2 ("PlaneTests$Round", 27, yX8_lowest, "PlaneTests") (by decide +kernel)) (hts _ wo_49) (by decide +kernel) ⟨Nat.le_of_ble_eq_true rfl, Nat.le_of_ble_eq_true rfl⟩), hts _ wo_50, trivial⟩ (xPreS hK hN hP hD [] (by decide) rfl) rfl rfl hl.1 rfl (lv_room (Nat.le_of_ble_eq_true rfl)) dX6_layByThirds_51 ⟨Nat.le_of_ble_eq_true rfl, Nat.le_of_ble_eq_true rfl⟩) hP hD hS hA [] [0, 1, 2, 3, 4] rfl rfl (by decide) (by decide) (fun r51 u51 H locs hwp hP hD hS => ?_)
      replace hP : va_P G vwCl [(h2, .inr (2, [.ref k0, .ref h3, .int i1])), (h3, aI cI 20 f2), (h1, aI cI 400 u5), (h0, .inr (6, [.ref h2, .ref h4, .ref h1])), (h4, aI cI 400 f3)] H := hP
      replace hD : va_D A [(h2, .inr (2, [.ref k0, .ref h3, .int i1])), (h3, aI cI 20 f2), (h1, aI cI 400 u5), (h0, .inr (6, [.ref h2, .ref h4, .ref h1])), (h4, aI cI 400 f3)] := hD
      refine xcv (wr := [(h2, .inr (2, [.ref k0, .ref h3, .int i1])), (h3, aI cI 20 f2), (h4, aI cI 400 f3)]) (va_runV (As := [.int 0, .int r17, .int r51]) (rest := []) ⟨hx, hb, hml, hown, hts⟩ (zX6_setFace l G cI cJ cZ h0 h1 h2 h4 H.size u5 (0 : Int32) r17 r51 _ hwp) (cwV 3 hts (xgoodV wo_80 wo_81 wo_82 wo_83 wo_55) rfl rfl rfl (by decide +kernel) ⟨Nat.le_of_ble_eq_true rfl, Nat.le_of_ble_eq_true rfl⟩) (xPreV (q := (RX6, TX6, 3)) (q0 := 3) hK hN hP hD [3, 2] (by decide) rfl rfl rfl) rfl rfl hl.1 rfl (lv_room (Nat.le_of_ble_eq_true rfl)) dX6_layByThirds_54 ⟨Nat.le_of_ble_eq_true rfl, Nat.le_of_ble_eq_true rfl⟩) hP hD hS hA [3, 2] [0, 1, 4] rfl rfl (by decide) (by decide) (fun u54 H locs hwp hP hD hS => ?_)
      replace hP : va_P G vwCl [(h2, .inr (2, [.ref k0, .ref h3, .int i1])), (h3, aI cI 20 f2), (h4, aI cI 400 f3), (h0, .inr (6, [.ref h2, .ref h4, .ref h1])), (h1, aI cI 400 u54)] H := hP
      replace hD : va_D A [(h2, .inr (2, [.ref k0, .ref h3, .int i1])), (h3, aI cI 20 f2), (h4, aI cI 400 f3), (h0, .inr (6, [.ref h2, .ref h4, .ref h1])), (h1, aI cI 400 u54)] := hD
      refine lv_iconst (v := 1) hx hb dX6_layByThirds_57 (by decide) ?_
      refine lv_istore_n (lv' := [(2, .int 1), (1, .int r17), (0, .ref h0)]) hx hb dX6_layByThirds_58 rfl hl (by decide) rfl (fun ls hl => ?_)
      refine lv_iconst (v := 0) hx hb dX6_layByThirds_59 (by decide) ?_
      refine lv_istore_n (lv' := [(3, .int 0), (2, .int 1), (1, .int r17), (0, .ref h0)]) hx hb dX6_layByThirds_60 rfl hl (by decide) rfl (fun ls hl => ?_)
      refine lv_iconst (v := 0) hx hb dX6_layByThirds_61 (by decide) ?_
      refine lv_istore (lv' := [(4, .int 0), (3, .int 0), (2, .int 1), (1, .int r17), (0, .ref h0)]) hx hb dX6_layByThirds_62 hl (by decide) rfl (fun ls hl => ?_)
      replace hl : lv_has ls 6 [(4, .int 0), (3, .int 0), (2, .int 1), (0, .ref h0)] := lv_sub hl [0, 1, 2, 4] rfl
      obtain ⟨n1, hwp⟩ := hwp
      have hs1 : ∀ (n1 : Nat) (H : Heap) (locs : List Loc) (ls : Array Slot) (t64_0 : Nat → Int32) (t64_1 : Int32) (t64_2 : Int32) (t64_3 : Int32), wLX6_layByThirds_64 i1 f2 f3 K  n1 t64_0 t64_1 t64_2 t64_3 → va_P G vwCl [(h2, .inr (2, [.ref k0, .ref h3, .int i1])), (h3, aI cI 20 f2), (h4, aI cI 400 f3), (h0, .inr (6, [.ref h2, .ref h4, .ref h1])), (h1, aI cI 400 t64_0)] H → va_D A [(h2, .inr (2, [.ref k0, .ref h3, .int i1])), (h3, aI cI 20 f2), (h4, aI cI 400 f3), (h0, .inr (6, [.ref h2, .ref h4, .ref h1])), (h1, aI cI 400 t64_0)] → va_S A s.heap H locs → lv_has ls 6 [(4, .int t64_3), (3, .int t64_2), (2, .int t64_1), (0, .ref h0)] → W p l e ((headSpec (xw yX6_layByThirds cX6_layByThirds 6 none) { frames := 3, cells := 0, slots := 0, locals := 70 }).room) s m ([.ref h0] : List Value).toArray below meth c H locs 0 0 QQ (F0 m 64 ls []) := by
        intro n1
        induction n1 with
        | zero => intro H locs ls t64_0 t64_1 t64_2 t64_3 hwp; exact False.elim hwp
        | succ n1 ih1 =>
          intro H locs ls t64_0 t64_1 t64_2 t64_3 hwp hP hD hS hl
          rw [wLX6_layByThirds_64] at hwp
          refine lv_iload hx hb dX6_layByThirds_64 (lv_at hl 0 rfl) ?_
          refine lv_aload_n hx hb dX6_layByThirds_66 rfl (lv_at hl 3 rfl) ?_
          refine va_get (D := G) (ci := 6) (v := .ref h2) (C := RX6) (T := TX6) (N := 3) hx hb hts xinX6 hown hK hP 3 rfl rfl 0 (by decide) (hts _ wo_47) (fun _ h9 => h9) rfl dX6_layByThirds_67 ?_
          refine va_getN (D := G) (ci := 2) (v := .int i1) (C := RX2) (T := TX2) (N := 3) hx hb hts xinX2 hown hK hP 0 rfl rfl 2 (by decide) (va_Nw.use rfl (hN.1 ("PlaneTests$Round", 41, "PlaneTests$Filled", "nodes", "I", "PlaneTests") (by decide +kernel))) (fun _ h9 => h9) rfl dX6_layByThirds_70 ?_
          refine lv_icmp_ge (tgt := 126) hx hb dX6_layByThirds_73 (by decide) (fun c73 => ?_) (fun c73 => ?_)
          · replace hwp := hwp.1 c73
            have hP9 : va_P G vwCl [(h0, .inr (6, [.ref h2, .ref h4, .ref h1])), (h1, aI cI 400 t64_0), (h2, .inr (2, [.ref k0, .ref h3, .int i1])), (h3, aI cI 20 f2), (h4, aI cI 400 f3)] H := hP.sub [3, 4, 0, 1, 2] rfl
            have hD9 : va_D A [(h0, .inr (6, [.ref h2, .ref h4, .ref h1])), (h1, aI cI 400 t64_0), (h2, .inr (2, [.ref k0, .ref h3, .int i1])), (h3, aI cI 20 f2), (h4, aI cI 400 f3)] := hD.sub [3, 4, 0, 1, 2] (by decide) rfl
            rw [← hQQ]
            exact W.vret hx hb hr (fun t ht hW => ⟨⟨t64_0, rfl, hwp, by rw [ht]; exact hP9, hD9⟩, hS.F ht⟩) hS.2.2 dX6_layByThirds_126
          · replace hwp := hwp.2 c73
            refine lv_iload_n hx hb dX6_layByThirds_76 rfl (lv_at hl 2 rfl) ?_
            refine lv_iload_n hx hb dX6_layByThirds_77 rfl (lv_at hl 1 rfl) ?_
            refine lv_iconst (v := (-1)) hx hb dX6_layByThirds_78 (by decide) ?_
            refine lv_ixor hx hb dX6_layByThirds_79 ?_
            refine lv_iand hx hb dX6_layByThirds_80 ?_
            refine lv_if_eq (tgt := 126) hx hb dX6_layByThirds_81 (by decide) (fun c81 => ?_) (fun c81 => ?_)
            · replace hwp := hwp.1 c81
              have hP9 : va_P G vwCl [(h0, .inr (6, [.ref h2, .ref h4, .ref h1])), (h1, aI cI 400 t64_0), (h2, .inr (2, [.ref k0, .ref h3, .int i1])), (h3, aI cI 20 f2), (h4, aI cI 400 f3)] H := hP.sub [3, 4, 0, 1, 2] rfl
              have hD9 : va_D A [(h0, .inr (6, [.ref h2, .ref h4, .ref h1])), (h1, aI cI 400 t64_0), (h2, .inr (2, [.ref k0, .ref h3, .int i1])), (h3, aI cI 20 f2), (h4, aI cI 400 f3)] := hD.sub [3, 4, 0, 1, 2] (by decide) rfl
              rw [← hQQ]
              exact W.vret hx hb hr (fun t ht hW => ⟨⟨t64_0, rfl, hwp, by rw [ht]; exact hP9, hD9⟩, hS.F ht⟩) hS.2.2 dX6_layByThirds_126
            · replace hwp := hwp.2 c81
              refine lv_iload_n hx hb dX6_layByThirds_84 rfl (lv_at hl 2 rfl) ?_
              refine lv_iload_n hx hb dX6_layByThirds_85 rfl (lv_at hl 1 rfl) ?_
              refine lv_iconst (v := (-1)) hx hb dX6_layByThirds_86 (by decide) ?_
              refine lv_ixor hx hb dX6_layByThirds_87 ?_
              refine lv_iand hx hb dX6_layByThirds_88 ?_
              refine xci (wr := [(h2, .inr (2, [.ref k0, .ref h3, .int i1])), (h3, aI cI 20 f2), (h4, aI cI 400 f3), (h0, .inr (6, [.ref h2, .ref h4, .ref h1])), (h1, aI cI 400 t64_0)]) (va_runSN (As := [.int (t64_1 &&& (t64_2 ^^^ (-1)))]) (rest := []) ⟨hx, hb, hml, hown, hts⟩ (zX8_lowest l G cI cJ cZ H.size (t64_1 &&& (t64_2 ^^^ (-1))) _ hwp) ⟨(va_cnB 1 hts (xgood wo_48) rfl rfl rfl (hN.2 ("PlaneTests$Round", 27, yX8_lowest, "PlaneTests") (by decide +kernel)) (hts _ wo_49) (by decide +kernel) ⟨Nat.le_of_ble_eq_true rfl, Nat.le_of_ble_eq_true rfl⟩), hts _ wo_50, trivial⟩ (xPreS hK hN hP hD [] (by decide) rfl) rfl rfl hl.1 rfl (lv_room (Nat.le_of_ble_eq_true rfl)) dX6_layByThirds_89 ⟨Nat.le_of_ble_eq_true rfl, Nat.le_of_ble_eq_true rfl⟩) hP hD hS hA [] [0, 1, 2, 3, 4] rfl rfl (by decide) (by decide) (fun r89 u89 H locs hwp hP hD hS => ?_)
              replace hP : va_P G vwCl [(h2, .inr (2, [.ref k0, .ref h3, .int i1])), (h3, aI cI 20 f2), (h4, aI cI 400 f3), (h0, .inr (6, [.ref h2, .ref h4, .ref h1])), (h1, aI cI 400 t64_0)] H := hP
              replace hD : va_D A [(h2, .inr (2, [.ref k0, .ref h3, .int i1])), (h3, aI cI 20 f2), (h4, aI cI 400 f3), (h0, .inr (6, [.ref h2, .ref h4, .ref h1])), (h1, aI cI 400 t64_0)] := hD
              refine lv_istore (lv' := [(5, .int r89), (4, .int t64_3), (3, .int t64_2), (2, .int t64_1), (0, .ref h0)]) hx hb dX6_layByThirds_92 hl (by decide) rfl (fun ls hl => ?_)
              refine lv_aload_n hx hb dX6_layByThirds_94 rfl (lv_at hl 4 rfl) ?_
              refine lv_iload hx hb dX6_layByThirds_95 (lv_at hl 0 rfl) ?_
              refine xcv (wr := []) (va_runV (As := [.int r89]) (rest := []) ⟨hx, hb, hml, hown, hts⟩ (zX6_goRound l G cI cJ cZ h0 h2 h1 h3 h4 k0 H.size i1 t64_0 f2 f3 r89 _ hwp) (cwV 1 hts (xgoodV wo_84 wo_85 wo_86 wo_87 wo_55) rfl rfl rfl (by decide +kernel) ⟨Nat.le_of_ble_eq_true rfl, Nat.le_of_ble_eq_true rfl⟩) (xPreV (q := (RX6, TX6, 3)) (q0 := 3) hK hN hP hD [3, 0, 4, 1, 2] (by decide) rfl rfl rfl) rfl rfl hl.1 rfl (lv_room (Nat.le_of_ble_eq_true rfl)) dX6_layByThirds_97 ⟨Nat.le_of_ble_eq_true rfl, Nat.le_of_ble_eq_true rfl⟩) hP hD hS hA [3, 0, 4, 1, 2] [] rfl rfl (by decide) (by decide) (fun u97 H locs hwp hP hD hS => ?_)
              replace hP : va_P G vwCl [(h0, .inr (6, [.ref h2, .ref h4, .ref h1])), (h2, .inr (2, [.ref k0, .ref h3, .int i1])), (h1, aI cI 400 u97), (h3, aI cI 20 f2), (h4, aI cI 400 f3)] H := hP
              replace hD : va_D A [(h0, .inr (6, [.ref h2, .ref h4, .ref h1])), (h2, .inr (2, [.ref k0, .ref h3, .int i1])), (h1, aI cI 400 u97), (h3, aI cI 20 f2), (h4, aI cI 400 f3)] := hD
              refine lv_iload_n hx hb dX6_layByThirds_100 rfl (lv_at hl 2 rfl) ?_
              refine lv_iconst (v := 1) hx hb dX6_layByThirds_101 (by decide) ?_
              refine lv_iload hx hb dX6_layByThirds_102 (lv_at hl 0 rfl) ?_
              refine lv_ishl hx hb dX6_layByThirds_104 ?_
              refine lv_ior hx hb dX6_layByThirds_105 ?_
              refine lv_topi (fun v106 ev106 => ?_)
              replace hwp := hwp v106 ev106
              clear ev106
              refine lv_istore_n (lv' := [(3, .int v106), (5, .int r89), (4, .int t64_3), (2, .int t64_1), (0, .ref h0)]) hx hb dX6_layByThirds_106 rfl hl (by decide) rfl (fun ls hl => ?_)
              refine lv_iload_n hx hb dX6_layByThirds_107 rfl (lv_at hl 3 rfl) ?_
              refine lv_aload_n hx hb dX6_layByThirds_108 rfl (lv_at hl 4 rfl) ?_
              refine va_get (D := G) (ci := 6) (v := .ref h2) (C := RX6) (T := TX6) (N := 3) hx hb hts xinX6 hown hK hP 0 rfl rfl 0 (by decide) (hts _ wo_47) (fun _ h9 => h9) rfl dX6_layByThirds_109 ?_
              refine va_getN (D := G) (ci := 2) (v := .ref h3) (C := RX2) (T := TX2) (N := 3) hx hb hts xinX2 hown hK hP 1 rfl rfl 1 (by decide) (va_Nw.use rfl (hN.1 ("PlaneTests$Round", 22, "PlaneTests$Filled", "joined", "[I", "PlaneTests") (by decide +kernel))) (fun _ h9 => h9) rfl dX6_layByThirds_112 ?_
              refine lv_iload hx hb dX6_layByThirds_115 (lv_at hl 1 rfl) ?_
              obtain ⟨hi, hwp⟩ := hwp
              refine va_iald hx hb hK hP 3 0 rfl rfl hi dX6_layByThirds_117 ?_
              refine lv_ior hx hb dX6_layByThirds_118 ?_
              refine lv_topi (fun v119 ev119 => ?_)
              replace hwp := hwp v119 ev119
              clear ev119
              refine lv_istore_n (lv' := [(2, .int v119), (3, .int v106), (5, .int r89), (4, .int t64_3), (0, .ref h0)]) hx hb dX6_layByThirds_119 rfl hl (by decide) rfl (fun ls hl => ?_)
              refine lv_iinc (v := (t64_3 + 1)) (lv' := [(4, .int (t64_3 + 1)), (2, .int v119), (3, .int v106), (5, .int r89), (0, .ref h0)]) hx hb dX6_layByThirds_120 hl (k := 3) rfl rfl (by decide) rfl (fun ls hl => ?_)
              refine lv_goto (tgt := 64) hx hb dX6_layByThirds_123 (by decide) ?_
              replace hl : lv_has ls 6 [(4, .int (t64_3 + 1)), (3, .int v106), (2, .int v119), (0, .ref h0)] := lv_sub hl [0, 2, 1, 4] rfl
              replace hP : va_P G vwCl [(h2, .inr (2, [.ref k0, .ref h3, .int i1])), (h3, aI cI 20 f2), (h4, aI cI 400 f3), (h0, .inr (6, [.ref h2, .ref h4, .ref h1])), (h1, aI cI 400 u97)] H := hP.sub [1, 3, 4, 0, 2] rfl
              replace hD : va_D A [(h2, .inr (2, [.ref k0, .ref h3, .int i1])), (h3, aI cI 20 f2), (h4, aI cI 400 f3), (h0, .inr (6, [.ref h2, .ref h4, .ref h1])), (h1, aI cI 400 u97)] := hD.sub [1, 3, 4, 0, 2] (by decide) rfl
              exact ih1 H locs ls u97 v119 v106 (t64_3 + 1) hwp hP hD hS hl
      exact hs1 n1 H locs ls u54 1 0 0 hwp hP hD hS hl
    · replace hwp := hwp.2 c38
      have hP9 : va_P G vwCl [(h0, .inr (6, [.ref h2, .ref h4, .ref h1])), (h1, aI cI 400 u5), (h2, .inr (2, [.ref k0, .ref h3, .int i1])), (h3, aI cI 20 f2), (h4, aI cI 400 f3)] H := hP.sub [3, 2, 0, 1, 4] rfl
      have hD9 : va_D A [(h0, .inr (6, [.ref h2, .ref h4, .ref h1])), (h1, aI cI 400 u5), (h2, .inr (2, [.ref k0, .ref h3, .int i1])), (h3, aI cI 20 f2), (h4, aI cI 400 f3)] := hD.sub [3, 2, 0, 1, 4] (by decide) rfl
      rw [← hQQ]
      exact W.vret hx hb hr (fun t ht hW => ⟨⟨u5, rfl, hwp, by rw [ht]; exact hP9, hD9⟩, hS.F ht⟩) hS.2.2 dX6_layByThirds_41
def wLX6_layRising_25 (i0 : Int32) (t2_1 : Int32) (v22 : Int32) (K : ((Nat → Int32)) → Prop) (B2_1 : (Nat → Int32) → Int32 → Prop) : Nat → (Nat → Int32) → Int32 → Prop
  | 0, _, _ => False
  | n25 + 1, t25_0, t25_1 => ((i0 ≤ t25_1 → B2_1 t25_0 (t2_1 + 1)) ∧ (¬ i0 ≤ t25_1 → (∀ v42 : Int32, v42 = (v22 &&& (-((2 : Int32) <<< (t25_1 &&& 31)))) → ((v42 = 0 → (wX8_lowest v22 (fun r65 _ => (vp_in ((t2_1 * 20) + t25_1) 400 ∧ (∀ g68 : Nat → Int32, g68 = upd t25_0 (Int32.toNatClampNeg ((t2_1 * 20) + t25_1)) r65 → (wLX6_layRising_25 i0 t2_1 v22 K B2_1 n25) g68 (t25_1 + 1)))))) ∧ (¬ v42 = 0 → (wX8_lowest v42 (fun r65 _ => (vp_in ((t2_1 * 20) + t25_1) 400 ∧ (∀ g68 : Nat → Int32, g68 = upd t25_0 (Int32.toNatClampNeg ((t2_1 * 20) + t25_1)) r65 → (wLX6_layRising_25 i0 t2_1 v22 K B2_1 n25) g68 (t25_1 + 1))))))))))
def wLX6_layRising_2 (i0 : Int32) (f1 : Nat → Int32) (K : ((Nat → Int32)) → Prop)  : Nat → (Nat → Int32) → Int32 → Prop
  | 0, _, _ => False
  | n2 + 1, t2_0, t2_1 => ((i0 ≤ t2_1 → K t2_0) ∧ (¬ i0 ≤ t2_1 → (vp_in t2_1 20 ∧ (∀ v22 : Int32, v22 = (f1 (Int32.toNatClampNeg t2_1)) → (∃ n25, wLX6_layRising_25 i0 t2_1 v22 K (fun z0 z1 => (wLX6_layRising_2 i0 f1 K  n2) z0 z1) n25 t2_0 0)))))
def wX6_layRising (i0 : Int32) (f1 : Nat → Int32) (f2 : Nat → Int32) (K : ((Nat → Int32)) → Prop) : Prop := (∃ n2, wLX6_layRising_2 i0 f1 K  n2 f2 0)
set_option maxHeartbeats 4000000 in
set_option maxRecDepth 100000 in
theorem zX6_layRising (l : Launch) (G : va_G) (cI cJ cZ : ClassId) (h0 h1 h2 h3 k0 k1 sz : Nat) (i0 : Int32) (f1 : Nat → Int32) (f2 : Nat → Int32) (K : ((Nat → Int32)) → Prop) (hwp : wX6_layRising i0 f1 f2 K) : Met l yX6_layRising (xw yX6_layRising cX6_layRising 5 none) ({ frames := 2, cells := 0, slots := 0, locals := 40 }) (xPc G cI cJ cZ [.ref h0] [(h0, .inr (6, [.ref h1, .ref k0, .ref h3])), (h1, .inr (2, [.ref k1, .ref h2, .int i0])), (h2, aI cI 20 f1), (h3, aI cI 400 f2)] sz) (va_Qv (fun (u : (Nat → Int32)) => K u) (fun (u : (Nat → Int32)) t => xB G (va_A [(h0, .inr (6, [.ref h1, .ref k0, .ref h3])), (h1, .inr (2, [.ref k1, .ref h2, .int i0])), (h2, aI cI 20 f1), (h3, aI cI 400 f2)] sz) [(h0, .inr (6, [.ref h1, .ref k0, .ref h3])), (h1, .inr (2, [.ref k1, .ref h2, .int i0])), (h2, aI cI 20 f1), (h3, aI cI 400 u)] t) (va_A [(h0, .inr (6, [.ref h1, .ref k0, .ref h3])), (h1, .inr (2, [.ref k1, .ref h2, .int i0])), (h2, aI cI 20 f1), (h3, aI cI 400 f2)] sz)) 0 0 (va_A [(h0, .inr (6, [.ref h1, .ref k0, .ref h3])), (h1, .inr (2, [.ref k1, .ref h2, .int i0])), (h2, aI cI 20 f1), (h3, aI cI 400 f2)] sz) := by
  refine Met.ofW (cc := cX6_layRising) (maxL := 5) (ret := none) (by decide) rfl ?_
  intro p e s m args below meth c s₁ B hml hv
  obtain ⟨rfl, hsz, hP, hK, hD0, hN⟩ := hv
  have hx := B.exec
  have hb := B.bytes
  have hr := B.returns
  have hts : ∀ w ∈ xW, w.before _ s = true := fun w h => atoms_spec (ws := xw yX6_layRising cX6_layRising 5 none) B.pre w (List.mem_cons_of_mem _ h)
  have hown : s.vm.findClass RX6 = some m.cls := findClass_of_methodNamed B.named
  have hlocks := B.notSynchronized
  subst hsz
  have hD := hD0.self (sz := s.heap.size)
  clear hD0
  generalize hAe : va_A [(h0, .inr (6, [.ref h1, .ref k0, .ref h3])), (h1, .inr (2, [.ref k1, .ref h2, .int i0])), (h2, aI cI 20 f1), (h3, aI cI 400 f2)] s.heap.size = A at hD ⊢
  have hA : ∀ q : Nat, s.heap.size ≤ q → A q := fun q h => by rw [← hAe]; exact Or.inr h
  clear hAe
  have hS : va_S A s.heap s.heap [] := va_S.rf
  replace hP : va_P G vwCl [(h0, .inr (6, [.ref h1, .ref k0, .ref h3])), (h1, .inr (2, [.ref k1, .ref h2, .int i0])), (h2, aI cI 20 f1), (h3, aI cI 400 f2)] s.heap := hP
  have hl := lv_entry ([.ref h0]) (n := 5) (Nat.le_of_ble_eq_true rfl)
  rw [lg_entry_eq]
  generalize (lg_sl ([.ref h0]) ++ List.replicate (5 - (lg_sl ([.ref h0])).length) Slot.unset).toArray = ls at hl ⊢
  replace hl : lv_has ls 5 [(0, .ref h0)] := hl
  generalize hQQ : MQ below _ _ s 0 0 _ = QQ
  skip
  unfold wX6_layRising at hwp
  refine lv_iconst (v := 0) hx hb dX6_layRising_0 (by decide) ?_
  refine lv_istore_n (lv' := [(1, .int 0), (0, .ref h0)]) hx hb dX6_layRising_1 rfl hl (by decide) rfl (fun ls hl => ?_)
  refine xgen (Pp := fun H locs => W p l e _ s m _ below meth c H locs _ _ _ _) (fun H locs hP hD hS => ?_) hP hD hS
  replace hl : lv_has ls 5 [(1, .int 0), (0, .ref h0)] := lv_sub hl [0, 1] rfl
  obtain ⟨n1, hwp⟩ := hwp
  have hs1 : ∀ (n1 : Nat) (H : Heap) (locs : List Loc) (ls : Array Slot) (t2_0 : Nat → Int32) (t2_1 : Int32), wLX6_layRising_2 i0 f1 K  n1 t2_0 t2_1 → va_P G vwCl [(h0, .inr (6, [.ref h1, .ref k0, .ref h3])), (h1, .inr (2, [.ref k1, .ref h2, .int i0])), (h2, aI cI 20 f1), (h3, aI cI 400 t2_0)] H → va_D A [(h0, .inr (6, [.ref h1, .ref k0, .ref h3])), (h1, .inr (2, [.ref k1, .ref h2, .int i0])), (h2, aI cI 20 f1), (h3, aI cI 400 t2_0)] → va_S A s.heap H locs → lv_has ls 5 [(1, .int t2_1), (0, .ref h0)] → W p l e ((headSpec (xw yX6_layRising cX6_layRising 5 none) { frames := 2, cells := 0, slots := 0, locals := 40 }).room) s m ([.ref h0] : List Value).toArray below meth c H locs 0 0 QQ (F0 m 2 ls []) := by
    intro n1
    induction n1 with
    | zero => intro H locs ls t2_0 t2_1 hwp; exact False.elim hwp
    | succ n1 ih1 =>
      intro H locs ls t2_0 t2_1 hwp hP hD hS hl
      rw [wLX6_layRising_2] at hwp
      refine lv_iload_n hx hb dX6_layRising_2 rfl (lv_at hl 0 rfl) ?_
      refine lv_aload_n hx hb dX6_layRising_3 rfl (lv_at hl 1 rfl) ?_
      refine va_get (D := G) (ci := 6) (v := .ref h1) (C := RX6) (T := TX6) (N := 3) hx hb hts xinX6 hown hK hP 0 rfl rfl 0 (by decide) (hts _ wo_47) (fun _ h9 => h9) rfl dX6_layRising_4 ?_
      refine va_getN (D := G) (ci := 2) (v := .int i0) (C := RX2) (T := TX2) (N := 3) hx hb hts xinX2 hown hK hP 1 rfl rfl 2 (by decide) (va_Nw.use rfl (hN.1 ("PlaneTests$Round", 41, "PlaneTests$Filled", "nodes", "I", "PlaneTests") (by decide +kernel))) (fun _ h9 => h9) rfl dX6_layRising_7 ?_
      refine lv_icmp_ge (tgt := 81) hx hb dX6_layRising_10 (by decide) (fun c10 => ?_) (fun c10 => ?_)
      · replace hwp := hwp.1 c10
        have hP9 : va_P G vwCl [(h0, .inr (6, [.ref h1, .ref k0, .ref h3])), (h1, .inr (2, [.ref k1, .ref h2, .int i0])), (h2, aI cI 20 f1), (h3, aI cI 400 t2_0)] H := hP.sub [0, 1, 2, 3] rfl
        have hD9 : va_D A [(h0, .inr (6, [.ref h1, .ref k0, .ref h3])), (h1, .inr (2, [.ref k1, .ref h2, .int i0])), (h2, aI cI 20 f1), (h3, aI cI 400 t2_0)] := hD.sub [0, 1, 2, 3] (by decide) rfl
        rw [← hQQ]
        exact W.vret hx hb hr (fun t ht hW => ⟨⟨t2_0, rfl, hwp, by rw [ht]; exact hP9, hD9⟩, hS.F ht⟩) hS.2.2 dX6_layRising_81
      · replace hwp := hwp.2 c10
        refine lv_aload_n hx hb dX6_layRising_13 rfl (lv_at hl 1 rfl) ?_
        refine va_get (D := G) (ci := 6) (v := .ref h1) (C := RX6) (T := TX6) (N := 3) hx hb hts xinX6 hown hK hP 0 rfl rfl 0 (by decide) (hts _ wo_47) (fun _ h9 => h9) rfl dX6_layRising_14 ?_
        refine va_getN (D := G) (ci := 2) (v := .ref h2) (C := RX2) (T := TX2) (N := 3) hx hb hts xinX2 hown hK hP 1 rfl rfl 1 (by decide) (va_Nw.use rfl (hN.1 ("PlaneTests$Round", 22, "PlaneTests$Filled", "joined", "[I", "PlaneTests") (by decide +kernel))) (fun _ h9 => h9) rfl dX6_layRising_17 ?_
        refine lv_iload_n hx hb dX6_layRising_20 rfl (lv_at hl 0 rfl) ?_
        obtain ⟨hi, hwp⟩ := hwp
        refine va_iald hx hb hK hP 2 0 rfl rfl hi dX6_layRising_21 ?_
        refine lv_topi (fun v22 ev22 => ?_)
        replace hwp := hwp v22 ev22
        clear ev22
        refine lv_istore_n (lv' := [(2, .int v22), (1, .int t2_1), (0, .ref h0)]) hx hb dX6_layRising_22 rfl hl (by decide) rfl (fun ls hl => ?_)
        refine lv_iconst (v := 0) hx hb dX6_layRising_23 (by decide) ?_
        refine lv_istore_n (lv' := [(3, .int 0), (2, .int v22), (1, .int t2_1), (0, .ref h0)]) hx hb dX6_layRising_24 rfl hl (by decide) rfl (fun ls hl => ?_)
        replace hl : lv_has ls 5 [(3, .int 0), (2, .int v22), (1, .int t2_1), (0, .ref h0)] := lv_sub hl [0, 1, 2, 3] rfl
        obtain ⟨n2, hwp⟩ := hwp
        have hs2 : ∀ (n2 : Nat) (H : Heap) (locs : List Loc) (ls : Array Slot) (t25_0 : Nat → Int32) (t25_1 : Int32), wLX6_layRising_25 i0 t2_1 v22 K (fun z0 z1 => wLX6_layRising_2 i0 f1 K  n1 z0 z1) n2 t25_0 t25_1 → va_P G vwCl [(h0, .inr (6, [.ref h1, .ref k0, .ref h3])), (h1, .inr (2, [.ref k1, .ref h2, .int i0])), (h2, aI cI 20 f1), (h3, aI cI 400 t25_0)] H → va_D A [(h0, .inr (6, [.ref h1, .ref k0, .ref h3])), (h1, .inr (2, [.ref k1, .ref h2, .int i0])), (h2, aI cI 20 f1), (h3, aI cI 400 t25_0)] → va_S A s.heap H locs → lv_has ls 5 [(3, .int t25_1), (2, .int v22), (1, .int t2_1), (0, .ref h0)] → W p l e ((headSpec (xw yX6_layRising cX6_layRising 5 none) { frames := 2, cells := 0, slots := 0, locals := 40 }).room) s m ([.ref h0] : List Value).toArray below meth c H locs 0 0 QQ (F0 m 25 ls []) := by
          intro n2
          induction n2 with
          | zero => intro H locs ls t25_0 t25_1 hwp; exact False.elim hwp
          | succ n2 ih2 =>
            intro H locs ls t25_0 t25_1 hwp hP hD hS hl
            rw [wLX6_layRising_25] at hwp
            refine lv_iload_n hx hb dX6_layRising_25 rfl (lv_at hl 0 rfl) ?_
            refine lv_aload_n hx hb dX6_layRising_26 rfl (lv_at hl 3 rfl) ?_
            refine va_get (D := G) (ci := 6) (v := .ref h1) (C := RX6) (T := TX6) (N := 3) hx hb hts xinX6 hown hK hP 0 rfl rfl 0 (by decide) (hts _ wo_47) (fun _ h9 => h9) rfl dX6_layRising_27 ?_
            refine va_getN (D := G) (ci := 2) (v := .int i0) (C := RX2) (T := TX2) (N := 3) hx hb hts xinX2 hown hK hP 1 rfl rfl 2 (by decide) (va_Nw.use rfl (hN.1 ("PlaneTests$Round", 41, "PlaneTests$Filled", "nodes", "I", "PlaneTests") (by decide +kernel))) (fun _ h9 => h9) rfl dX6_layRising_30 ?_
            refine lv_icmp_ge (tgt := 75) hx hb dX6_layRising_33 (by decide) (fun c33 => ?_) (fun c33 => ?_)
            · replace hwp := hwp.1 c33
              refine lv_iinc (v := (t2_1 + 1)) (lv' := [(1, .int (t2_1 + 1)), (3, .int t25_1), (2, .int v22), (0, .ref h0)]) hx hb dX6_layRising_75 hl (k := 2) rfl rfl (by decide) rfl (fun ls hl => ?_)
              refine lv_goto (tgt := 2) hx hb dX6_layRising_78 (by decide) ?_
              replace hl : lv_has ls 5 [(1, .int (t2_1 + 1)), (0, .ref h0)] := lv_sub hl [0, 3] rfl
              exact ih1 H locs ls t25_0 (t2_1 + 1) hwp hP hD hS hl
            · replace hwp := hwp.2 c33
              refine lv_iload_n hx hb dX6_layRising_36 rfl (lv_at hl 1 rfl) ?_
              refine lv_iconst (v := 2) hx hb dX6_layRising_37 (by decide) ?_
              refine lv_iload_n hx hb dX6_layRising_38 rfl (lv_at hl 0 rfl) ?_
              refine lv_ishl hx hb dX6_layRising_39 ?_
              refine lv_ineg hx hb dX6_layRising_40 ?_
              refine lv_iand hx hb dX6_layRising_41 ?_
              refine lv_topi (fun v42 ev42 => ?_)
              replace hwp := hwp v42 ev42
              clear ev42
              refine lv_istore (lv' := [(4, .int v42), (3, .int t25_1), (2, .int v22), (1, .int t2_1), (0, .ref h0)]) hx hb dX6_layRising_42 hl (by decide) rfl (fun ls hl => ?_)
              refine lv_aload_n hx hb dX6_layRising_44 rfl (lv_at hl 4 rfl) ?_
              refine va_get (D := G) (ci := 6) (v := .ref h3) (C := RX6) (T := TX6) (N := 3) hx hb hts xinX6 hown hK hP 0 rfl rfl 2 (by decide) (hts _ wo_42) (fun _ h9 => h9) rfl dX6_layRising_45 ?_
              refine lv_iload_n hx hb dX6_layRising_48 rfl (lv_at hl 3 rfl) ?_
              refine lv_bipush (v := 20) hx hb dX6_layRising_49 (by decide) ?_
              refine lv_imul hx hb dX6_layRising_51 ?_
              refine lv_iload_n hx hb dX6_layRising_52 rfl (lv_at hl 1 rfl) ?_
              refine lv_iadd hx hb dX6_layRising_53 ?_
              refine lv_iload hx hb dX6_layRising_54 (lv_at hl 0 rfl) ?_
              refine lv_if_eq (tgt := 64) hx hb dX6_layRising_56 (by decide) (fun c56 => ?_) (fun c56 => ?_)
              · replace hwp := hwp.1 c56
                refine lv_iload_n hx hb dX6_layRising_64 rfl (lv_at hl 2 rfl) ?_
                refine xci (wr := [(h0, .inr (6, [.ref h1, .ref k0, .ref h3])), (h1, .inr (2, [.ref k1, .ref h2, .int i0])), (h2, aI cI 20 f1), (h3, aI cI 400 t25_0)]) (va_runSN (As := [.int v22]) (rest := [.int ((t2_1 * 20) + t25_1), .ref h3]) ⟨hx, hb, hml, hown, hts⟩ (zX8_lowest l G cI cJ cZ H.size v22 _ hwp) ⟨(va_cnB 1 hts (xgood wo_48) rfl rfl rfl (hN.2 ("PlaneTests$Round", 27, yX8_lowest, "PlaneTests") (by decide +kernel)) (hts _ wo_49) (by decide +kernel) ⟨Nat.le_of_ble_eq_true rfl, Nat.le_of_ble_eq_true rfl⟩), hts _ wo_50, trivial⟩ (xPreS hK hN hP hD [] (by decide) rfl) rfl rfl hl.1 rfl (lv_room (Nat.le_of_ble_eq_true rfl)) dX6_layRising_65 ⟨Nat.le_of_ble_eq_true rfl, Nat.le_of_ble_eq_true rfl⟩) hP hD hS hA [] [0, 1, 2, 3] rfl rfl (by decide) (by decide) (fun r65 u65 H locs hwp hP hD hS => ?_)
                replace hP : va_P G vwCl [(h0, .inr (6, [.ref h1, .ref k0, .ref h3])), (h1, .inr (2, [.ref k1, .ref h2, .int i0])), (h2, aI cI 20 f1), (h3, aI cI 400 t25_0)] H := hP
                replace hD : va_D A [(h0, .inr (6, [.ref h1, .ref k0, .ref h3])), (h1, .inr (2, [.ref k1, .ref h2, .int i0])), (h2, aI cI 20 f1), (h3, aI cI 400 t25_0)] := hD
                obtain ⟨hi, hwp⟩ := hwp
                refine va_iast hx hb hK hP hD hS 3 0 rfl rfl hi dX6_layRising_68 (fun H locs hP hD hS => ?_)
                obtain ⟨g68, eg68⟩ : ∃ z, z = upd t25_0 (Int32.toNatClampNeg ((t2_1 * 20) + t25_1)) r65 := ⟨_, rfl⟩
                replace hwp := hwp g68 eg68
                replace hP : va_P G vwCl [(h0, .inr (6, [.ref h1, .ref k0, .ref h3])), (h1, .inr (2, [.ref k1, .ref h2, .int i0])), (h2, aI cI 20 f1), (h3, aI cI 400 g68)] H := by rw [eg68]; exact hP
                replace hD : va_D A [(h0, .inr (6, [.ref h1, .ref k0, .ref h3])), (h1, .inr (2, [.ref k1, .ref h2, .int i0])), (h2, aI cI 20 f1), (h3, aI cI 400 g68)] := by rw [eg68]; exact hD
                clear eg68
                refine lv_iinc (v := (t25_1 + 1)) (lv' := [(3, .int (t25_1 + 1)), (4, .int v42), (2, .int v22), (1, .int t2_1), (0, .ref h0)]) hx hb dX6_layRising_69 hl (k := 1) rfl rfl (by decide) rfl (fun ls hl => ?_)
                refine lv_goto (tgt := 25) hx hb dX6_layRising_72 (by decide) ?_
                replace hl : lv_has ls 5 [(3, .int (t25_1 + 1)), (2, .int v22), (1, .int t2_1), (0, .ref h0)] := lv_sub hl [0, 2, 3, 4] rfl
                exact ih2 H locs ls g68 (t25_1 + 1) hwp hP hD hS hl
              · replace hwp := hwp.2 c56
                refine lv_iload hx hb dX6_layRising_59 (lv_at hl 0 rfl) ?_
                refine lv_goto (tgt := 65) hx hb dX6_layRising_61 (by decide) ?_
                refine xci (wr := [(h0, .inr (6, [.ref h1, .ref k0, .ref h3])), (h1, .inr (2, [.ref k1, .ref h2, .int i0])), (h2, aI cI 20 f1), (h3, aI cI 400 t25_0)]) (va_runSN (As := [.int v42]) (rest := [.int ((t2_1 * 20) + t25_1), .ref h3]) ⟨hx, hb, hml, hown, hts⟩ (zX8_lowest l G cI cJ cZ H.size v42 _ hwp) ⟨(va_cnB 1 hts (xgood wo_48) rfl rfl rfl (hN.2 ("PlaneTests$Round", 27, yX8_lowest, "PlaneTests") (by decide +kernel)) (hts _ wo_49) (by decide +kernel) ⟨Nat.le_of_ble_eq_true rfl, Nat.le_of_ble_eq_true rfl⟩), hts _ wo_50, trivial⟩ (xPreS hK hN hP hD [] (by decide) rfl) rfl rfl hl.1 rfl (lv_room (Nat.le_of_ble_eq_true rfl)) dX6_layRising_65 ⟨Nat.le_of_ble_eq_true rfl, Nat.le_of_ble_eq_true rfl⟩) hP hD hS hA [] [0, 1, 2, 3] rfl rfl (by decide) (by decide) (fun r65 u65 H locs hwp hP hD hS => ?_)
                replace hP : va_P G vwCl [(h0, .inr (6, [.ref h1, .ref k0, .ref h3])), (h1, .inr (2, [.ref k1, .ref h2, .int i0])), (h2, aI cI 20 f1), (h3, aI cI 400 t25_0)] H := hP
                replace hD : va_D A [(h0, .inr (6, [.ref h1, .ref k0, .ref h3])), (h1, .inr (2, [.ref k1, .ref h2, .int i0])), (h2, aI cI 20 f1), (h3, aI cI 400 t25_0)] := hD
                obtain ⟨hi, hwp⟩ := hwp
                refine va_iast hx hb hK hP hD hS 3 0 rfl rfl hi dX6_layRising_68 (fun H locs hP hD hS => ?_)
                obtain ⟨g68, eg68⟩ : ∃ z, z = upd t25_0 (Int32.toNatClampNeg ((t2_1 * 20) + t25_1)) r65 := ⟨_, rfl⟩
                replace hwp := hwp g68 eg68
                replace hP : va_P G vwCl [(h0, .inr (6, [.ref h1, .ref k0, .ref h3])), (h1, .inr (2, [.ref k1, .ref h2, .int i0])), (h2, aI cI 20 f1), (h3, aI cI 400 g68)] H := by rw [eg68]; exact hP
                replace hD : va_D A [(h0, .inr (6, [.ref h1, .ref k0, .ref h3])), (h1, .inr (2, [.ref k1, .ref h2, .int i0])), (h2, aI cI 20 f1), (h3, aI cI 400 g68)] := by rw [eg68]; exact hD
                clear eg68
                refine lv_iinc (v := (t25_1 + 1)) (lv' := [(3, .int (t25_1 + 1)), (4, .int v42), (2, .int v22), (1, .int t2_1), (0, .ref h0)]) hx hb dX6_layRising_69 hl (k := 1) rfl rfl (by decide) rfl (fun ls hl => ?_)
                refine lv_goto (tgt := 25) hx hb dX6_layRising_72 (by decide) ?_
                replace hl : lv_has ls 5 [(3, .int (t25_1 + 1)), (2, .int v22), (1, .int t2_1), (0, .ref h0)] := lv_sub hl [0, 2, 3, 4] rfl
                exact ih2 H locs ls g68 (t25_1 + 1) hwp hP hD hS hl
        exact hs2 n2 H locs ls t2_0 0 hwp hP hD hS hl
  exact hs1 n1 H locs ls f2 0 hwp hP hD hS hl
def wX6_lay (i0 : Int32) (f1 : Nat → Int32) (f2 : Nat → Int32) (f3 : Nat → Int32) (K : ((Nat → Int32)) → Prop) : Prop := ((4 ≤ i0 → (wX6_layByThirds f1 i0 f2 f3 (fun u19 => K u19))) ∧ (¬ 4 ≤ i0 → (wX6_layRising i0 f2 f1 (fun u12 => K u12))))
set_option maxHeartbeats 4000000 in
set_option maxRecDepth 100000 in
theorem zX6_lay (l : Launch) (G : va_G) (cI cJ cZ : ClassId) (h0 h1 h2 h3 h4 k0 sz : Nat) (i0 : Int32) (f1 : Nat → Int32) (f2 : Nat → Int32) (f3 : Nat → Int32) (K : ((Nat → Int32)) → Prop) (hwp : wX6_lay i0 f1 f2 f3 K) : Met l yX6_lay (xw yX6_lay cX6_lay 1 none) ({ frames := 4, cells := 0, slots := 0, locals := 95 }) (xPc G cI cJ cZ [.ref h0] [(h0, .inr (6, [.ref h1, .ref h4, .ref h2])), (h1, .inr (2, [.ref k0, .ref h3, .int i0])), (h2, aI cI 400 f1), (h3, aI cI 20 f2), (h4, aI cI 400 f3)] sz) (va_Qv (fun (u : (Nat → Int32)) => K u) (fun (u : (Nat → Int32)) t => xB G (va_A [(h0, .inr (6, [.ref h1, .ref h4, .ref h2])), (h1, .inr (2, [.ref k0, .ref h3, .int i0])), (h2, aI cI 400 f1), (h3, aI cI 20 f2), (h4, aI cI 400 f3)] sz) [(h0, .inr (6, [.ref h1, .ref h4, .ref h2])), (h1, .inr (2, [.ref k0, .ref h3, .int i0])), (h2, aI cI 400 u), (h3, aI cI 20 f2), (h4, aI cI 400 f3)] t) (va_A [(h0, .inr (6, [.ref h1, .ref h4, .ref h2])), (h1, .inr (2, [.ref k0, .ref h3, .int i0])), (h2, aI cI 400 f1), (h3, aI cI 20 f2), (h4, aI cI 400 f3)] sz)) 0 0 (va_A [(h0, .inr (6, [.ref h1, .ref h4, .ref h2])), (h1, .inr (2, [.ref k0, .ref h3, .int i0])), (h2, aI cI 400 f1), (h3, aI cI 20 f2), (h4, aI cI 400 f3)] sz) := by
  refine Met.ofW (cc := cX6_lay) (maxL := 1) (ret := none) (by decide) rfl ?_
  intro p e s m args below meth c s₁ B hml hv
  obtain ⟨rfl, hsz, hP, hK, hD0, hN⟩ := hv
  have hx := B.exec
  have hb := B.bytes
  have hr := B.returns
  have hts : ∀ w ∈ xW, w.before _ s = true := fun w h => atoms_spec (ws := xw yX6_lay cX6_lay 1 none) B.pre w (List.mem_cons_of_mem _ h)
  have hown : s.vm.findClass RX6 = some m.cls := findClass_of_methodNamed B.named
  have hlocks := B.notSynchronized
  subst hsz
  have hD := hD0.self (sz := s.heap.size)
  clear hD0
  generalize hAe : va_A [(h0, .inr (6, [.ref h1, .ref h4, .ref h2])), (h1, .inr (2, [.ref k0, .ref h3, .int i0])), (h2, aI cI 400 f1), (h3, aI cI 20 f2), (h4, aI cI 400 f3)] s.heap.size = A at hD ⊢
  have hA : ∀ q : Nat, s.heap.size ≤ q → A q := fun q h => by rw [← hAe]; exact Or.inr h
  clear hAe
  have hS : va_S A s.heap s.heap [] := va_S.rf
  replace hP : va_P G vwCl [(h0, .inr (6, [.ref h1, .ref h4, .ref h2])), (h1, .inr (2, [.ref k0, .ref h3, .int i0])), (h2, aI cI 400 f1), (h3, aI cI 20 f2), (h4, aI cI 400 f3)] s.heap := hP
  have hl := lv_entry ([.ref h0]) (n := 1) (Nat.le_of_ble_eq_true rfl)
  rw [lg_entry_eq]
  generalize (lg_sl ([.ref h0]) ++ List.replicate (1 - (lg_sl ([.ref h0])).length) Slot.unset).toArray = ls at hl ⊢
  replace hl : lv_has ls 1 [(0, .ref h0)] := hl
  generalize hQQ : MQ below _ _ s 0 0 _ = QQ
  skip
  unfold wX6_lay at hwp
  refine lv_aload_n hx hb dX6_lay_0 rfl (lv_at hl 0 rfl) ?_
  refine va_get (D := G) (ci := 6) (v := .ref h1) (C := RX6) (T := TX6) (N := 3) hx hb hts xinX6 hown hK hP 0 rfl rfl 0 (by decide) (hts _ wo_47) (fun _ h9 => h9) rfl dX6_lay_1 ?_
  refine va_getN (D := G) (ci := 2) (v := .int i0) (C := RX2) (T := TX2) (N := 3) hx hb hts xinX2 hown hK hP 1 rfl rfl 2 (by decide) (va_Nw.use rfl (hN.1 ("PlaneTests$Round", 41, "PlaneTests$Filled", "nodes", "I", "PlaneTests") (by decide +kernel))) (fun _ h9 => h9) rfl dX6_lay_4 ?_
  refine lv_iconst (v := 4) hx hb dX6_lay_7 (by decide) ?_
  refine lv_icmp_ge (tgt := 18) hx hb dX6_lay_8 (by decide) (fun c8 => ?_) (fun c8 => ?_)
  · replace hwp := hwp.1 c8
    refine lv_aload_n hx hb dX6_lay_18 rfl (lv_at hl 0 rfl) ?_
    refine xcv (wr := []) (va_runV (As := []) (rest := []) ⟨hx, hb, hml, hown, hts⟩ (zX6_layByThirds l G cI cJ cZ h0 h2 h1 h3 h4 k0 s.heap.size f1 i0 f2 f3 _ hwp) (cwV 0 hts (xgoodV wo_88 wo_89 wo_90 wo_91 wo_55) rfl rfl rfl (by decide +kernel) ⟨Nat.le_of_ble_eq_true rfl, Nat.le_of_ble_eq_true rfl⟩) (xPreV (q := (RX6, TX6, 3)) (q0 := 0) hK hN hP hD [0, 2, 1, 3, 4] (by decide) rfl rfl rfl) rfl rfl hl.1 rfl (lv_room (Nat.le_of_ble_eq_true rfl)) dX6_lay_19 ⟨Nat.le_of_ble_eq_true rfl, Nat.le_of_ble_eq_true rfl⟩) hP hD hS hA [0, 2, 1, 3, 4] [] rfl rfl (by decide) (by decide) (fun u19 H locs hwp hP hD hS => ?_)
    replace hP : va_P G vwCl [(h0, .inr (6, [.ref h1, .ref h4, .ref h2])), (h2, aI cI 400 u19), (h1, .inr (2, [.ref k0, .ref h3, .int i0])), (h3, aI cI 20 f2), (h4, aI cI 400 f3)] H := hP
    replace hD : va_D A [(h0, .inr (6, [.ref h1, .ref h4, .ref h2])), (h2, aI cI 400 u19), (h1, .inr (2, [.ref k0, .ref h3, .int i0])), (h3, aI cI 20 f2), (h4, aI cI 400 f3)] := hD
    have hP9 : va_P G vwCl [(h0, .inr (6, [.ref h1, .ref h4, .ref h2])), (h1, .inr (2, [.ref k0, .ref h3, .int i0])), (h2, aI cI 400 u19), (h3, aI cI 20 f2), (h4, aI cI 400 f3)] H := hP.sub [0, 2, 1, 3, 4] rfl
    have hD9 : va_D A [(h0, .inr (6, [.ref h1, .ref h4, .ref h2])), (h1, .inr (2, [.ref k0, .ref h3, .int i0])), (h2, aI cI 400 u19), (h3, aI cI 20 f2), (h4, aI cI 400 f3)] := hD.sub [0, 2, 1, 3, 4] (by decide) rfl
    rw [← hQQ]
    exact W.vret hx hb hr (fun t ht hW => ⟨⟨u19, rfl, hwp, by rw [ht]; exact hP9, hD9⟩, hS.F ht⟩) hS.2.2 dX6_lay_22
  · replace hwp := hwp.2 c8
    refine lv_aload_n hx hb dX6_lay_11 rfl (lv_at hl 0 rfl) ?_
    refine xcv (wr := [(h4, aI cI 400 f3)]) (va_runV (As := []) (rest := []) ⟨hx, hb, hml, hown, hts⟩ (zX6_layRising l G cI cJ cZ h0 h1 h3 h2 h4 k0 s.heap.size i0 f2 f1 _ hwp) (cwV 0 hts (xgoodV wo_92 wo_93 wo_94 wo_95 wo_55) rfl rfl rfl (by decide +kernel) ⟨Nat.le_of_ble_eq_true rfl, Nat.le_of_ble_eq_true rfl⟩) (xPreV (q := (RX6, TX6, 3)) (q0 := 0) hK hN hP hD [0, 1, 3, 2] (by decide) rfl rfl rfl) rfl rfl hl.1 rfl (lv_room (Nat.le_of_ble_eq_true rfl)) dX6_lay_12 ⟨Nat.le_of_ble_eq_true rfl, Nat.le_of_ble_eq_true rfl⟩) hP hD hS hA [0, 1, 3, 2] [4] rfl rfl (by decide) (by decide) (fun u12 H locs hwp hP hD hS => ?_)
    replace hP : va_P G vwCl [(h4, aI cI 400 f3), (h0, .inr (6, [.ref h1, .ref h4, .ref h2])), (h1, .inr (2, [.ref k0, .ref h3, .int i0])), (h3, aI cI 20 f2), (h2, aI cI 400 u12)] H := hP
    replace hD : va_D A [(h4, aI cI 400 f3), (h0, .inr (6, [.ref h1, .ref h4, .ref h2])), (h1, .inr (2, [.ref k0, .ref h3, .int i0])), (h3, aI cI 20 f2), (h2, aI cI 400 u12)] := hD
    refine lv_goto (tgt := 22) hx hb dX6_lay_15 (by decide) ?_
    have hP9 : va_P G vwCl [(h0, .inr (6, [.ref h1, .ref h4, .ref h2])), (h1, .inr (2, [.ref k0, .ref h3, .int i0])), (h2, aI cI 400 u12), (h3, aI cI 20 f2), (h4, aI cI 400 f3)] H := hP.sub [1, 2, 4, 3, 0] rfl
    have hD9 : va_D A [(h0, .inr (6, [.ref h1, .ref h4, .ref h2])), (h1, .inr (2, [.ref k0, .ref h3, .int i0])), (h2, aI cI 400 u12), (h3, aI cI 20 f2), (h4, aI cI 400 f3)] := hD.sub [1, 2, 4, 3, 0] (by decide) rfl
    rw [← hQQ]
    exact W.vret hx hb hr (fun t ht hW => ⟨⟨u12, rfl, hwp, by rw [ht]; exact hP9, hD9⟩, hS.F ht⟩) hS.2.2 dX6_lay_22
def wX5_addBack (i0 : Int32) (i1 : Int32) (f2 : Nat → Int64) (f3 : Nat → Int64) (p0 : Int32) (p1 : Int32) (K : (Int32 × (Nat → Int64) × (Nat → Int64)) → Prop) : Prop := (∀ v6 : Int64, v6 = ((1 : Int64) <<< (Int32.toInt64 i0 &&& 63)) → (∀ v14 : Int32, v14 = (i0 + 1) → (vp_in p0 21 ∧ (vp_in p0 21 ∧ (∀ g26 : Nat → Int64, g26 = vp_updL f2 (Int32.toNatClampNeg p0) ((f2 (Int32.toNatClampNeg p0)) ||| v6) → (vp_in (p1 + 1) 22 ∧ (vp_in (p1 + 1) 22 ∧ (∀ g38 : Nat → Int64, g38 = vp_updL f3 (Int32.toNatClampNeg (p1 + 1)) ((f3 (Int32.toNatClampNeg (p1 + 1))) ||| v6) → K (v14, g26, g38)))))))))
set_option maxHeartbeats 4000000 in
set_option maxRecDepth 100000 in
theorem zX5_addBack (l : Launch) (G : va_G) (cI cJ cZ : ClassId) (h0 h1 h2 k0 k1 k2 k3 k4 k5 k6 k7 sz : Nat) (i0 : Int32) (i1 : Int32) (f2 : Nat → Int64) (f3 : Nat → Int64) (p0 : Int32) (p1 : Int32) (K : (Int32 × (Nat → Int64) × (Nat → Int64)) → Prop) (hwp : wX5_addBack i0 i1 f2 f3 p0 p1 K) : Met l yX5_addBack (xw yX5_addBack cX5_addBack 5 none) ({ frames := 0, cells := 0, slots := 0, locals := 0 }) (xPc G cI cJ cZ [.ref h0, .int p0, .int p1] [(h0, .inr (5, [.ref k0, .ref k1, .ref k2, .ref h1, .ref k3, .ref h2, .ref k4, .ref k5, .ref k6, .ref k7, .int i0, .int i1])), (h1, aJ cJ 21 f2), (h2, aJ cJ 22 f3)] sz) (va_Qv (fun (u : Int32 × (Nat → Int64) × (Nat → Int64)) => K u) (fun (u : Int32 × (Nat → Int64) × (Nat → Int64)) t => xB G (va_A [(h0, .inr (5, [.ref k0, .ref k1, .ref k2, .ref h1, .ref k3, .ref h2, .ref k4, .ref k5, .ref k6, .ref k7, .int i0, .int i1])), (h1, aJ cJ 21 f2), (h2, aJ cJ 22 f3)] sz) [(h0, .inr (5, [.ref k0, .ref k1, .ref k2, .ref h1, .ref k3, .ref h2, .ref k4, .ref k5, .ref k6, .ref k7, .int u.1, .int i1])), (h1, aJ cJ 21 u.2.1), (h2, aJ cJ 22 u.2.2)] t) (va_A [(h0, .inr (5, [.ref k0, .ref k1, .ref k2, .ref h1, .ref k3, .ref h2, .ref k4, .ref k5, .ref k6, .ref k7, .int i0, .int i1])), (h1, aJ cJ 21 f2), (h2, aJ cJ 22 f3)] sz)) 0 0 (va_A [(h0, .inr (5, [.ref k0, .ref k1, .ref k2, .ref h1, .ref k3, .ref h2, .ref k4, .ref k5, .ref k6, .ref k7, .int i0, .int i1])), (h1, aJ cJ 21 f2), (h2, aJ cJ 22 f3)] sz) := by
  refine Met.ofW (cc := cX5_addBack) (maxL := 5) (ret := none) (by decide) rfl ?_
  intro p e s m args below meth c s₁ B hml hv
  obtain ⟨rfl, hsz, hP, hK, hD0, hN⟩ := hv
  have hx := B.exec
  have hb := B.bytes
  have hr := B.returns
  have hts : ∀ w ∈ xW, w.before _ s = true := fun w h => atoms_spec (ws := xw yX5_addBack cX5_addBack 5 none) B.pre w (List.mem_cons_of_mem _ h)
  have hown : s.vm.findClass RX5 = some m.cls := findClass_of_methodNamed B.named
  have hlocks := B.notSynchronized
  subst hsz
  have hD := hD0.self (sz := s.heap.size)
  clear hD0
  generalize hAe : va_A [(h0, .inr (5, [.ref k0, .ref k1, .ref k2, .ref h1, .ref k3, .ref h2, .ref k4, .ref k5, .ref k6, .ref k7, .int i0, .int i1])), (h1, aJ cJ 21 f2), (h2, aJ cJ 22 f3)] s.heap.size = A at hD ⊢
  have hA : ∀ q : Nat, s.heap.size ≤ q → A q := fun q h => by rw [← hAe]; exact Or.inr h
  clear hAe
  have hS : va_S A s.heap s.heap [] := va_S.rf
  replace hP : va_P G vwCl [(h0, .inr (5, [.ref k0, .ref k1, .ref k2, .ref h1, .ref k3, .ref h2, .ref k4, .ref k5, .ref k6, .ref k7, .int i0, .int i1])), (h1, aJ cJ 21 f2), (h2, aJ cJ 22 f3)] s.heap := hP
  have hl := lv_entry ([.ref h0, .int p0, .int p1]) (n := 5) (Nat.le_of_ble_eq_true rfl)
  rw [lg_entry_eq]
  generalize (lg_sl ([.ref h0, .int p0, .int p1]) ++ List.replicate (5 - (lg_sl ([.ref h0, .int p0, .int p1])).length) Slot.unset).toArray = ls at hl ⊢
  replace hl : lv_has ls 5 [(0, .ref h0), (1, .int p0), (2, .int p1)] := hl
  generalize hQQ : MQ below _ _ s 0 0 _ = QQ
  skip
  unfold wX5_addBack at hwp
  refine lv_lconst (v := 1) hx hb dX5_addBack_0 rfl ?_
  refine lv_aload_n hx hb dX5_addBack_1 rfl (lv_at hl 0 rfl) ?_
  refine va_get (D := G) (ci := 5) (v := .int i0) (C := RX5) (T := TX5) (N := 12) hx hb hts xinX5 hown hK hP 0 rfl rfl 10 (by decide) (hts _ wo_96) (fun _ h9 => h9) rfl dX5_addBack_2 ?_
  refine lv_lshl (v := ((1 : Int64) <<< (Int32.toInt64 i0 &&& 63))) hx hb dX5_addBack_5 rfl ?_
  refine lv_topl (fun v6 ev6 => ?_)
  replace hwp := hwp v6 ev6
  clear ev6
  refine lv_lstore_n (lv' := [(3, .long v6), (0, .ref h0), (1, .int p0), (2, .int p1)]) hx hb dX5_addBack_6 rfl hl (by decide) rfl (fun ls hl => ?_)
  refine lv_aload_n hx hb dX5_addBack_7 rfl (lv_at hl 1 rfl) ?_
  refine lv_dup hx hb dX5_addBack_8 rfl ?_
  refine va_get (D := G) (ci := 5) (v := .int i0) (C := RX5) (T := TX5) (N := 12) hx hb hts xinX5 hown hK hP 0 rfl rfl 10 (by decide) (hts _ wo_96) (fun _ h9 => h9) rfl dX5_addBack_9 ?_
  refine lv_iconst (v := 1) hx hb dX5_addBack_12 (by decide) ?_
  refine lv_iadd hx hb dX5_addBack_13 ?_
  refine lv_topi (fun v14 ev14 => ?_)
  replace hwp := hwp v14 ev14
  clear ev14
  refine va_put (D := G) (ci := 5) (v := .int v14) (ty := .int) (C := RX5) (T := TX5) (N := 12) hx hb hts xinX5 tyX5 tyX5_ok nmX5 hown hK hP hD hS 0 rfl rfl 10 (by decide) (hts _ wo_96) (fun _ h9 => h9) rfl (by decide +kernel) rfl rfl (Nat.le_of_ble_eq_true rfl) dX5_addBack_14 (fun H locs hP hD hS => ?_)
  replace hP : va_P G vwCl [(h0, .inr (5, [.ref k0, .ref k1, .ref k2, .ref h1, .ref k3, .ref h2, .ref k4, .ref k5, .ref k6, .ref k7, .int v14, .int i1])), (h1, aJ cJ 21 f2), (h2, aJ cJ 22 f3)] H := hP
  replace hD : va_D A [(h0, .inr (5, [.ref k0, .ref k1, .ref k2, .ref h1, .ref k3, .ref h2, .ref k4, .ref k5, .ref k6, .ref k7, .int v14, .int i1])), (h1, aJ cJ 21 f2), (h2, aJ cJ 22 f3)] := hD
  refine lv_aload_n hx hb dX5_addBack_17 rfl (lv_at hl 1 rfl) ?_
  refine va_get (D := G) (ci := 5) (v := .ref h1) (C := RX5) (T := TX5) (N := 12) hx hb hts xinX5 hown hK hP 0 rfl rfl 3 (by decide) (hts _ wo_97) (fun _ h9 => h9) rfl dX5_addBack_18 ?_
  refine lv_iload_n hx hb dX5_addBack_21 rfl (lv_at hl 2 rfl) ?_
  refine lv_dup2_11 hx hb dX5_addBack_22 rfl rfl ?_
  obtain ⟨hi, hwp⟩ := hwp
  refine va_lald hx hb hK hP 1 1 rfl rfl hi dX5_addBack_23 ?_
  refine lv_lload_n hx hb dX5_addBack_24 rfl (lv_at hl 0 rfl) ?_
  refine lv_lor hx hb dX5_addBack_25 ?_
  obtain ⟨hi, hwp⟩ := hwp
  refine va_last hx hb hK hP hD hS 1 1 rfl rfl hi dX5_addBack_26 (fun H locs hP hD hS => ?_)
  obtain ⟨g26, eg26⟩ : ∃ z, z = vp_updL f2 (Int32.toNatClampNeg p0) ((f2 (Int32.toNatClampNeg p0)) ||| v6) := ⟨_, rfl⟩
  replace hwp := hwp g26 eg26
  replace hP : va_P G vwCl [(h0, .inr (5, [.ref k0, .ref k1, .ref k2, .ref h1, .ref k3, .ref h2, .ref k4, .ref k5, .ref k6, .ref k7, .int v14, .int i1])), (h1, aJ cJ 21 g26), (h2, aJ cJ 22 f3)] H := by rw [eg26]; exact hP
  replace hD : va_D A [(h0, .inr (5, [.ref k0, .ref k1, .ref k2, .ref h1, .ref k3, .ref h2, .ref k4, .ref k5, .ref k6, .ref k7, .int v14, .int i1])), (h1, aJ cJ 21 g26), (h2, aJ cJ 22 f3)] := by rw [eg26]; exact hD
  clear eg26
  refine lv_aload_n hx hb dX5_addBack_27 rfl (lv_at hl 1 rfl) ?_
  refine va_get (D := G) (ci := 5) (v := .ref h2) (C := RX5) (T := TX5) (N := 12) hx hb hts xinX5 hown hK hP 0 rfl rfl 5 (by decide) (hts _ wo_98) (fun _ h9 => h9) rfl dX5_addBack_28 ?_
  refine lv_iload_n hx hb dX5_addBack_31 rfl (lv_at hl 3 rfl) ?_
  refine lv_iconst (v := 1) hx hb dX5_addBack_32 (by decide) ?_
  refine lv_iadd hx hb dX5_addBack_33 ?_
  refine lv_dup2_11 hx hb dX5_addBack_34 rfl rfl ?_
  obtain ⟨hi, hwp⟩ := hwp
  refine va_lald hx hb hK hP 2 1 rfl rfl hi dX5_addBack_35 ?_
  refine lv_lload_n hx hb dX5_addBack_36 rfl (lv_at hl 0 rfl) ?_
  refine lv_lor hx hb dX5_addBack_37 ?_
  obtain ⟨hi, hwp⟩ := hwp
  refine va_last hx hb hK hP hD hS 2 1 rfl rfl hi dX5_addBack_38 (fun H locs hP hD hS => ?_)
  obtain ⟨g38, eg38⟩ : ∃ z, z = vp_updL f3 (Int32.toNatClampNeg (p1 + 1)) ((f3 (Int32.toNatClampNeg (p1 + 1))) ||| v6) := ⟨_, rfl⟩
  replace hwp := hwp g38 eg38
  replace hP : va_P G vwCl [(h0, .inr (5, [.ref k0, .ref k1, .ref k2, .ref h1, .ref k3, .ref h2, .ref k4, .ref k5, .ref k6, .ref k7, .int v14, .int i1])), (h1, aJ cJ 21 g26), (h2, aJ cJ 22 g38)] H := by rw [eg38]; exact hP
  replace hD : va_D A [(h0, .inr (5, [.ref k0, .ref k1, .ref k2, .ref h1, .ref k3, .ref h2, .ref k4, .ref k5, .ref k6, .ref k7, .int v14, .int i1])), (h1, aJ cJ 21 g26), (h2, aJ cJ 22 g38)] := by rw [eg38]; exact hD
  clear eg38
  have hP9 : va_P G vwCl [(h0, .inr (5, [.ref k0, .ref k1, .ref k2, .ref h1, .ref k3, .ref h2, .ref k4, .ref k5, .ref k6, .ref k7, .int v14, .int i1])), (h1, aJ cJ 21 g26), (h2, aJ cJ 22 g38)] H := hP.sub [0, 1, 2] rfl
  have hD9 : va_D A [(h0, .inr (5, [.ref k0, .ref k1, .ref k2, .ref h1, .ref k3, .ref h2, .ref k4, .ref k5, .ref k6, .ref k7, .int v14, .int i1])), (h1, aJ cJ 21 g26), (h2, aJ cJ 22 g38)] := hD.sub [0, 1, 2] (by decide) rfl
  rw [← hQQ]
  exact W.vret hx hb hr (fun t ht hW => ⟨⟨(v14, g26, g38), rfl, hwp, by rw [ht]; exact hP9, hD9⟩, hS.F ht⟩) hS.2.2 dX5_addBack_39
def wX5_leave (i0 : Int32) (i1 : Int32) (f2 : Nat → Int64) (f3 : Nat → Int64) (f4 : Nat → Int32) (p0 : Int32) (K : Int32 → ((Nat → Int64)) → Prop) : Prop := (vp_in p0 21 ∧ (vp_in p0 21 ∧ (vp_in p0 21 ∧ (∀ g14 : Nat → Int64, g14 = vp_updL f2 (Int32.toNatClampNeg p0) ((f2 (Int32.toNatClampNeg p0)) ||| (f3 (Int32.toNatClampNeg p0))) → (vp_in p0 21 ∧ (((f4 (Int32.toNatClampNeg p0)) < 0 → (vp_in p0 21 ∧ K (f4 (Int32.toNatClampNeg p0)) g14)) ∧ (¬ (f4 (Int32.toNatClampNeg p0)) < 0 → (vp_in p0 21 ∧ (vp_in (f4 (Int32.toNatClampNeg p0)) 21 ∧ (vp_in p0 21 ∧ (vp_in (f4 (Int32.toNatClampNeg p0)) 21 ∧ (∀ g43 : Nat → Int64, g43 = vp_updL g14 (Int32.toNatClampNeg (f4 (Int32.toNatClampNeg p0))) ((g14 (Int32.toNatClampNeg (f4 (Int32.toNatClampNeg p0)))) ||| (g14 (Int32.toNatClampNeg p0))) → (vp_in p0 21 ∧ K (f4 (Int32.toNatClampNeg p0)) g43)))))))))))))
set_option maxHeartbeats 4000000 in
set_option maxRecDepth 100000 in
theorem zX5_leave (l : Launch) (G : va_G) (cI cJ cZ : ClassId) (h0 h1 h2 h3 k0 k1 k2 k3 k4 k5 k6 sz : Nat) (i0 : Int32) (i1 : Int32) (f2 : Nat → Int64) (f3 : Nat → Int64) (f4 : Nat → Int32) (p0 : Int32) (K : Int32 → ((Nat → Int64)) → Prop) (hwp : wX5_leave i0 i1 f2 f3 f4 p0 K) : Met l yX5_leave (xw yX5_leave cX5_leave 2 (some .int)) ({ frames := 0, cells := 0, slots := 0, locals := 0 }) (xPc G cI cJ cZ [.ref h0, .int p0] [(h0, .inr (5, [.ref k0, .ref h3, .ref k1, .ref h2, .ref h1, .ref k2, .ref k3, .ref k4, .ref k5, .ref k6, .int i0, .int i1])), (h1, aJ cJ 21 f2), (h2, aJ cJ 21 f3), (h3, aI cI 21 f4)] sz) (va_Qi (fun (r : Int32) (u : (Nat → Int64)) => K r u) (fun (u : (Nat → Int64)) t => xB G (va_A [(h0, .inr (5, [.ref k0, .ref h3, .ref k1, .ref h2, .ref h1, .ref k2, .ref k3, .ref k4, .ref k5, .ref k6, .int i0, .int i1])), (h1, aJ cJ 21 f2), (h2, aJ cJ 21 f3), (h3, aI cI 21 f4)] sz) [(h0, .inr (5, [.ref k0, .ref h3, .ref k1, .ref h2, .ref h1, .ref k2, .ref k3, .ref k4, .ref k5, .ref k6, .int i0, .int i1])), (h1, aJ cJ 21 u), (h2, aJ cJ 21 f3), (h3, aI cI 21 f4)] t) (va_A [(h0, .inr (5, [.ref k0, .ref h3, .ref k1, .ref h2, .ref h1, .ref k2, .ref k3, .ref k4, .ref k5, .ref k6, .int i0, .int i1])), (h1, aJ cJ 21 f2), (h2, aJ cJ 21 f3), (h3, aI cI 21 f4)] sz)) 0 0 (va_A [(h0, .inr (5, [.ref k0, .ref h3, .ref k1, .ref h2, .ref h1, .ref k2, .ref k3, .ref k4, .ref k5, .ref k6, .int i0, .int i1])), (h1, aJ cJ 21 f2), (h2, aJ cJ 21 f3), (h3, aI cI 21 f4)] sz) := by
  refine Met.ofW (cc := cX5_leave) (maxL := 2) (ret := (some .int)) (by decide) rfl ?_
  intro p e s m args below meth c s₁ B hml hv
  obtain ⟨rfl, hsz, hP, hK, hD0, hN⟩ := hv
  have hx := B.exec
  have hb := B.bytes
  have hr := B.returns
  have hts : ∀ w ∈ xW, w.before _ s = true := fun w h => atoms_spec (ws := xw yX5_leave cX5_leave 2 (some .int)) B.pre w (List.mem_cons_of_mem _ h)
  have hown : s.vm.findClass RX5 = some m.cls := findClass_of_methodNamed B.named
  have hlocks := B.notSynchronized
  subst hsz
  have hD := hD0.self (sz := s.heap.size)
  clear hD0
  generalize hAe : va_A [(h0, .inr (5, [.ref k0, .ref h3, .ref k1, .ref h2, .ref h1, .ref k2, .ref k3, .ref k4, .ref k5, .ref k6, .int i0, .int i1])), (h1, aJ cJ 21 f2), (h2, aJ cJ 21 f3), (h3, aI cI 21 f4)] s.heap.size = A at hD ⊢
  have hA : ∀ q : Nat, s.heap.size ≤ q → A q := fun q h => by rw [← hAe]; exact Or.inr h
  clear hAe
  have hS : va_S A s.heap s.heap [] := va_S.rf
  replace hP : va_P G vwCl [(h0, .inr (5, [.ref k0, .ref h3, .ref k1, .ref h2, .ref h1, .ref k2, .ref k3, .ref k4, .ref k5, .ref k6, .int i0, .int i1])), (h1, aJ cJ 21 f2), (h2, aJ cJ 21 f3), (h3, aI cI 21 f4)] s.heap := hP
  have hl := lv_entry ([.ref h0, .int p0]) (n := 2) (Nat.le_of_ble_eq_true rfl)
  rw [lg_entry_eq]
  generalize (lg_sl ([.ref h0, .int p0]) ++ List.replicate (2 - (lg_sl ([.ref h0, .int p0])).length) Slot.unset).toArray = ls at hl ⊢
  replace hl : lv_has ls 2 [(0, .ref h0), (1, .int p0)] := hl
  generalize hQQ : MQ below _ _ s 0 0 _ = QQ
  skip
  unfold wX5_leave at hwp
  refine lv_aload_n hx hb dX5_leave_0 rfl (lv_at hl 0 rfl) ?_
  refine va_get (D := G) (ci := 5) (v := .ref h1) (C := RX5) (T := TX5) (N := 12) hx hb hts xinX5 hown hK hP 0 rfl rfl 4 (by decide) (hts _ wo_99) (fun _ h9 => h9) rfl dX5_leave_1 ?_
  refine lv_iload_n hx hb dX5_leave_4 rfl (lv_at hl 1 rfl) ?_
  refine lv_dup2_11 hx hb dX5_leave_5 rfl rfl ?_
  obtain ⟨hi, hwp⟩ := hwp
  refine va_lald hx hb hK hP 1 1 rfl rfl hi dX5_leave_6 ?_
  refine lv_aload_n hx hb dX5_leave_7 rfl (lv_at hl 0 rfl) ?_
  refine va_get (D := G) (ci := 5) (v := .ref h2) (C := RX5) (T := TX5) (N := 12) hx hb hts xinX5 hown hK hP 0 rfl rfl 3 (by decide) (hts _ wo_97) (fun _ h9 => h9) rfl dX5_leave_8 ?_
  refine lv_iload_n hx hb dX5_leave_11 rfl (lv_at hl 1 rfl) ?_
  obtain ⟨hi, hwp⟩ := hwp
  refine va_lald hx hb hK hP 2 1 rfl rfl hi dX5_leave_12 ?_
  refine lv_lor hx hb dX5_leave_13 ?_
  obtain ⟨hi, hwp⟩ := hwp
  refine va_last hx hb hK hP hD hS 1 1 rfl rfl hi dX5_leave_14 (fun H locs hP hD hS => ?_)
  obtain ⟨g14, eg14⟩ : ∃ z, z = vp_updL f2 (Int32.toNatClampNeg p0) ((f2 (Int32.toNatClampNeg p0)) ||| (f3 (Int32.toNatClampNeg p0))) := ⟨_, rfl⟩
  replace hwp := hwp g14 eg14
  replace hP : va_P G vwCl [(h0, .inr (5, [.ref k0, .ref h3, .ref k1, .ref h2, .ref h1, .ref k2, .ref k3, .ref k4, .ref k5, .ref k6, .int i0, .int i1])), (h1, aJ cJ 21 g14), (h2, aJ cJ 21 f3), (h3, aI cI 21 f4)] H := by rw [eg14]; exact hP
  replace hD : va_D A [(h0, .inr (5, [.ref k0, .ref h3, .ref k1, .ref h2, .ref h1, .ref k2, .ref k3, .ref k4, .ref k5, .ref k6, .int i0, .int i1])), (h1, aJ cJ 21 g14), (h2, aJ cJ 21 f3), (h3, aI cI 21 f4)] := by rw [eg14]; exact hD
  clear eg14
  refine lv_aload_n hx hb dX5_leave_15 rfl (lv_at hl 0 rfl) ?_
  refine va_get (D := G) (ci := 5) (v := .ref h3) (C := RX5) (T := TX5) (N := 12) hx hb hts xinX5 hown hK hP 0 rfl rfl 1 (by decide) (hts _ wo_100) (fun _ h9 => h9) rfl dX5_leave_16 ?_
  refine lv_iload_n hx hb dX5_leave_19 rfl (lv_at hl 1 rfl) ?_
  obtain ⟨hi, hwp⟩ := hwp
  refine va_iald hx hb hK hP 3 0 rfl rfl hi dX5_leave_20 ?_
  refine lv_if_lt (tgt := 44) hx hb dX5_leave_21 (by decide) (fun c21 => ?_) (fun c21 => ?_)
  · replace hwp := hwp.1 c21
    refine lv_aload_n hx hb dX5_leave_44 rfl (lv_at hl 0 rfl) ?_
    refine va_get (D := G) (ci := 5) (v := .ref h3) (C := RX5) (T := TX5) (N := 12) hx hb hts xinX5 hown hK hP 0 rfl rfl 1 (by decide) (hts _ wo_100) (fun _ h9 => h9) rfl dX5_leave_45 ?_
    refine lv_iload_n hx hb dX5_leave_48 rfl (lv_at hl 1 rfl) ?_
    obtain ⟨hi, hwp⟩ := hwp
    refine va_iald hx hb hK hP 3 0 rfl rfl hi dX5_leave_49 ?_
    have hP9 : va_P G vwCl [(h0, .inr (5, [.ref k0, .ref h3, .ref k1, .ref h2, .ref h1, .ref k2, .ref k3, .ref k4, .ref k5, .ref k6, .int i0, .int i1])), (h1, aJ cJ 21 g14), (h2, aJ cJ 21 f3), (h3, aI cI 21 f4)] H := hP.sub [0, 1, 2, 3] rfl
    have hD9 : va_D A [(h0, .inr (5, [.ref k0, .ref h3, .ref k1, .ref h2, .ref h1, .ref k2, .ref k3, .ref k4, .ref k5, .ref k6, .int i0, .int i1])), (h1, aJ cJ 21 g14), (h2, aJ cJ 21 f3), (h3, aI cI 21 f4)] := hD.sub [0, 1, 2, 3] (by decide) rfl
    rw [← hQQ]
    exact W.iret (v := (f4 (Int32.toNatClampNeg p0))) hx hb hr (fun t ht hW => ⟨⟨_, g14, rfl, hwp, by rw [ht]; exact hP9, hD9⟩, hS.F ht⟩) hS.2.2 dX5_leave_50
  · replace hwp := hwp.2 c21
    refine lv_aload_n hx hb dX5_leave_24 rfl (lv_at hl 0 rfl) ?_
    refine va_get (D := G) (ci := 5) (v := .ref h1) (C := RX5) (T := TX5) (N := 12) hx hb hts xinX5 hown hK hP 0 rfl rfl 4 (by decide) (hts _ wo_99) (fun _ h9 => h9) rfl dX5_leave_25 ?_
    refine lv_aload_n hx hb dX5_leave_28 rfl (lv_at hl 0 rfl) ?_
    refine va_get (D := G) (ci := 5) (v := .ref h3) (C := RX5) (T := TX5) (N := 12) hx hb hts xinX5 hown hK hP 0 rfl rfl 1 (by decide) (hts _ wo_100) (fun _ h9 => h9) rfl dX5_leave_29 ?_
    refine lv_iload_n hx hb dX5_leave_32 rfl (lv_at hl 1 rfl) ?_
    obtain ⟨hi, hwp⟩ := hwp
    refine va_iald hx hb hK hP 3 0 rfl rfl hi dX5_leave_33 ?_
    refine lv_dup2_11 hx hb dX5_leave_34 rfl rfl ?_
    obtain ⟨hi, hwp⟩ := hwp
    refine va_lald hx hb hK hP 1 1 rfl rfl hi dX5_leave_35 ?_
    refine lv_aload_n hx hb dX5_leave_36 rfl (lv_at hl 0 rfl) ?_
    refine va_get (D := G) (ci := 5) (v := .ref h1) (C := RX5) (T := TX5) (N := 12) hx hb hts xinX5 hown hK hP 0 rfl rfl 4 (by decide) (hts _ wo_99) (fun _ h9 => h9) rfl dX5_leave_37 ?_
    refine lv_iload_n hx hb dX5_leave_40 rfl (lv_at hl 1 rfl) ?_
    obtain ⟨hi, hwp⟩ := hwp
    refine va_lald hx hb hK hP 1 1 rfl rfl hi dX5_leave_41 ?_
    refine lv_lor hx hb dX5_leave_42 ?_
    obtain ⟨hi, hwp⟩ := hwp
    refine va_last hx hb hK hP hD hS 1 1 rfl rfl hi dX5_leave_43 (fun H locs hP hD hS => ?_)
    obtain ⟨g43, eg43⟩ : ∃ z, z = vp_updL g14 (Int32.toNatClampNeg (f4 (Int32.toNatClampNeg p0))) ((g14 (Int32.toNatClampNeg (f4 (Int32.toNatClampNeg p0)))) ||| (g14 (Int32.toNatClampNeg p0))) := ⟨_, rfl⟩
    replace hwp := hwp g43 eg43
    replace hP : va_P G vwCl [(h0, .inr (5, [.ref k0, .ref h3, .ref k1, .ref h2, .ref h1, .ref k2, .ref k3, .ref k4, .ref k5, .ref k6, .int i0, .int i1])), (h1, aJ cJ 21 g43), (h2, aJ cJ 21 f3), (h3, aI cI 21 f4)] H := by rw [eg43]; exact hP
    replace hD : va_D A [(h0, .inr (5, [.ref k0, .ref h3, .ref k1, .ref h2, .ref h1, .ref k2, .ref k3, .ref k4, .ref k5, .ref k6, .int i0, .int i1])), (h1, aJ cJ 21 g43), (h2, aJ cJ 21 f3), (h3, aI cI 21 f4)] := by rw [eg43]; exact hD
    clear eg43
    refine lv_aload_n hx hb dX5_leave_44 rfl (lv_at hl 0 rfl) ?_
    refine va_get (D := G) (ci := 5) (v := .ref h3) (C := RX5) (T := TX5) (N := 12) hx hb hts xinX5 hown hK hP 0 rfl rfl 1 (by decide) (hts _ wo_100) (fun _ h9 => h9) rfl dX5_leave_45 ?_
    refine lv_iload_n hx hb dX5_leave_48 rfl (lv_at hl 1 rfl) ?_
    obtain ⟨hi, hwp⟩ := hwp
    refine va_iald hx hb hK hP 3 0 rfl rfl hi dX5_leave_49 ?_
    have hP9 : va_P G vwCl [(h0, .inr (5, [.ref k0, .ref h3, .ref k1, .ref h2, .ref h1, .ref k2, .ref k3, .ref k4, .ref k5, .ref k6, .int i0, .int i1])), (h1, aJ cJ 21 g43), (h2, aJ cJ 21 f3), (h3, aI cI 21 f4)] H := hP.sub [0, 1, 2, 3] rfl
    have hD9 : va_D A [(h0, .inr (5, [.ref k0, .ref h3, .ref k1, .ref h2, .ref h1, .ref k2, .ref k3, .ref k4, .ref k5, .ref k6, .int i0, .int i1])), (h1, aJ cJ 21 g43), (h2, aJ cJ 21 f3), (h3, aI cI 21 f4)] := hD.sub [0, 1, 2, 3] (by decide) rfl
    rw [← hQQ]
    exact W.iret (v := (f4 (Int32.toNatClampNeg p0))) hx hb hr (fun t ht hW => ⟨⟨_, g43, rfl, hwp, by rw [ht]; exact hP9, hD9⟩, hS.F ht⟩) hS.2.2 dX5_leave_50
def wLX5_searchFrom_18 (i1 : Int32) (K : (Int32 × (Nat → Int32) × (Nat → Int32) × (Nat → Int32) × (Nat → Int64) × (Nat → Int64) × (Nat → Int64)) → Prop)  : Nat → (Nat → Int32) → (Nat → Int32) → (Nat → Int32) → (Nat → Int64) → (Nat → Int64) → (Nat → Int64) → Int32 → Int32 → Int32 → Prop
  | 0, _, _, _, _, _, _, _, _, _ => False
  | n18 + 1, t18_0, t18_1, t18_2, t18_3, t18_4, t18_5, t18_6, t18_7, t18_8 => ((462 ≤ t18_8 → K (t18_6, t18_0, t18_1, t18_2, t18_3, t18_4, t18_5)) ∧ (¬ 462 ≤ t18_8 → ((t18_7 < 0 → K (t18_6, t18_0, t18_1, t18_2, t18_3, t18_4, t18_5)) ∧ (¬ t18_7 < 0 → (vp_in t18_7 21 ∧ ((¬ (t18_2 (Int32.toNatClampNeg t18_7)) = 0 → (vp_in t18_7 21 ∧ (wX8_lowest (t18_2 (Int32.toNatClampNeg t18_7)) (fun r53 _ => (vp_in t18_7 21 ∧ (vp_in t18_7 21 ∧ (∀ g72 : Nat → Int32, g72 = upd t18_2 (Int32.toNatClampNeg t18_7) ((t18_2 (Int32.toNatClampNeg t18_7)) &&& (((1 : Int32) <<< (r53 &&& 31)) ^^^ (-1))) → (vp_in r53 21 ∧ ((0 ≤ (t18_0 (Int32.toNatClampNeg r53)) → (vp_in r53 21 ∧ (vp_in t18_7 21 ∧ ((((t18_0 (Int32.toNatClampNeg t18_7)) - 1) ≤ (t18_0 (Int32.toNatClampNeg r53)) → (wLX5_searchFrom_18 i1 K  n18) t18_0 t18_1 g72 t18_3 t18_4 t18_5 t18_6 t18_7 (t18_8 + 1)) ∧ (¬ ((t18_0 (Int32.toNatClampNeg t18_7)) - 1) ≤ (t18_0 (Int32.toNatClampNeg r53)) → (vp_in r53 21 ∧ (wX5_addBack t18_6 i1 t18_3 t18_4 t18_7 (t18_0 (Int32.toNatClampNeg r53)) (fun u139 => (wLX5_searchFrom_18 i1 K  n18) t18_0 t18_1 g72 (u139.2.1) (u139.2.2) t18_5 (u139.1) t18_7 (t18_8 + 1))))))))) ∧ (¬ 0 ≤ (t18_0 (Int32.toNatClampNeg r53)) → (vp_in t18_7 21 ∧ (vp_in r53 21 ∧ (∀ g97 : Nat → Int32, g97 = upd t18_0 (Int32.toNatClampNeg r53) ((t18_0 (Int32.toNatClampNeg t18_7)) + 1) → (vp_in r53 21 ∧ (∀ g105 : Nat → Int32, g105 = upd t18_1 (Int32.toNatClampNeg r53) t18_7 → (wLX5_searchFrom_18 i1 K  n18) g97 g105 g72 t18_3 t18_4 t18_5 t18_6 r53 (t18_8 + 1)))))))))))))))) ∧ ((t18_2 (Int32.toNatClampNeg t18_7)) = 0 → (wX5_leave t18_6 i1 t18_5 t18_3 t18_1 t18_7 (fun r40 u40 => (wLX5_searchFrom_18 i1 K  n18) t18_0 t18_1 t18_2 t18_3 t18_4 u40 t18_6 r40 (t18_8 + 1))))))))))
def wX5_searchFrom (i0 : Int32) (i1 : Int32) (f2 : Nat → Int32) (f3 : Nat → Int32) (f4 : Nat → Int32) (f5 : Nat → Int64) (f6 : Nat → Int64) (f7 : Nat → Int64) (p0 : Int32) (K : (Int32 × (Nat → Int32) × (Nat → Int32) × (Nat → Int32) × (Nat → Int64) × (Nat → Int64) × (Nat → Int64)) → Prop) : Prop := (vp_in p0 21 ∧ (∀ g6 : Nat → Int32, g6 = upd f2 (Int32.toNatClampNeg p0) 0 → (vp_in p0 21 ∧ (∀ g13 : Nat → Int32, g13 = upd f3 (Int32.toNatClampNeg p0) (-1) → (∃ n18, wLX5_searchFrom_18 i1 K  n18 g6 g13 f4 f5 f6 f7 i0 p0 0)))))
set_option maxHeartbeats 4000000 in
set_option maxRecDepth 100000 in
theorem zX5_searchFrom (l : Launch) (G : va_G) (cI cJ cZ : ClassId) (h0 h1 h2 h3 h4 h5 h6 k0 k1 k2 k3 sz : Nat) (i0 : Int32) (i1 : Int32) (f2 : Nat → Int32) (f3 : Nat → Int32) (f4 : Nat → Int32) (f5 : Nat → Int64) (f6 : Nat → Int64) (f7 : Nat → Int64) (p0 : Int32) (K : (Int32 × (Nat → Int32) × (Nat → Int32) × (Nat → Int32) × (Nat → Int64) × (Nat → Int64) × (Nat → Int64)) → Prop) (hwp : wX5_searchFrom i0 i1 f2 f3 f4 f5 f6 f7 p0 K) : Met l yX5_searchFrom (xw yX5_searchFrom cX5_searchFrom 5 none) ({ frames := 2, cells := 0, slots := 0, locals := 40 }) (xPc G cI cJ cZ [.ref h0, .int p0] [(h0, .inr (5, [.ref h1, .ref h2, .ref h3, .ref h4, .ref h6, .ref h5, .ref k0, .ref k1, .ref k2, .ref k3, .int i0, .int i1])), (h1, aI cI 21 f2), (h2, aI cI 21 f3), (h3, aI cI 21 f4), (h4, aJ cJ 21 f5), (h5, aJ cJ 22 f6), (h6, aJ cJ 21 f7)] sz) (va_Qv (fun (u : Int32 × (Nat → Int32) × (Nat → Int32) × (Nat → Int32) × (Nat → Int64) × (Nat → Int64) × (Nat → Int64)) => K u) (fun (u : Int32 × (Nat → Int32) × (Nat → Int32) × (Nat → Int32) × (Nat → Int64) × (Nat → Int64) × (Nat → Int64)) t => xB G (va_A [(h0, .inr (5, [.ref h1, .ref h2, .ref h3, .ref h4, .ref h6, .ref h5, .ref k0, .ref k1, .ref k2, .ref k3, .int i0, .int i1])), (h1, aI cI 21 f2), (h2, aI cI 21 f3), (h3, aI cI 21 f4), (h4, aJ cJ 21 f5), (h5, aJ cJ 22 f6), (h6, aJ cJ 21 f7)] sz) [(h0, .inr (5, [.ref h1, .ref h2, .ref h3, .ref h4, .ref h6, .ref h5, .ref k0, .ref k1, .ref k2, .ref k3, .int u.1, .int i1])), (h1, aI cI 21 u.2.1), (h2, aI cI 21 u.2.2.1), (h3, aI cI 21 u.2.2.2.1), (h4, aJ cJ 21 u.2.2.2.2.1), (h5, aJ cJ 22 u.2.2.2.2.2.1), (h6, aJ cJ 21 u.2.2.2.2.2.2)] t) (va_A [(h0, .inr (5, [.ref h1, .ref h2, .ref h3, .ref h4, .ref h6, .ref h5, .ref k0, .ref k1, .ref k2, .ref k3, .int i0, .int i1])), (h1, aI cI 21 f2), (h2, aI cI 21 f3), (h3, aI cI 21 f4), (h4, aJ cJ 21 f5), (h5, aJ cJ 22 f6), (h6, aJ cJ 21 f7)] sz)) 0 0 (va_A [(h0, .inr (5, [.ref h1, .ref h2, .ref h3, .ref h4, .ref h6, .ref h5, .ref k0, .ref k1, .ref k2, .ref k3, .int i0, .int i1])), (h1, aI cI 21 f2), (h2, aI cI 21 f3), (h3, aI cI 21 f4), (h4, aJ cJ 21 f5), (h5, aJ cJ 22 f6), (h6, aJ cJ 21 f7)] sz) := by
  refine Met.ofW (cc := cX5_searchFrom) (maxL := 5) (ret := none) (by decide) rfl ?_
  intro p e s m args below meth c s₁ B hml hv
  obtain ⟨rfl, hsz, hP, hK, hD0, hN⟩ := hv
  have hx := B.exec
  have hb := B.bytes
  have hr := B.returns
  have hts : ∀ w ∈ xW, w.before _ s = true := fun w h => atoms_spec (ws := xw yX5_searchFrom cX5_searchFrom 5 none) B.pre w (List.mem_cons_of_mem _ h)
  have hown : s.vm.findClass RX5 = some m.cls := findClass_of_methodNamed B.named
  have hlocks := B.notSynchronized
  subst hsz
  have hD := hD0.self (sz := s.heap.size)
  clear hD0
  generalize hAe : va_A [(h0, .inr (5, [.ref h1, .ref h2, .ref h3, .ref h4, .ref h6, .ref h5, .ref k0, .ref k1, .ref k2, .ref k3, .int i0, .int i1])), (h1, aI cI 21 f2), (h2, aI cI 21 f3), (h3, aI cI 21 f4), (h4, aJ cJ 21 f5), (h5, aJ cJ 22 f6), (h6, aJ cJ 21 f7)] s.heap.size = A at hD ⊢
  have hA : ∀ q : Nat, s.heap.size ≤ q → A q := fun q h => by rw [← hAe]; exact Or.inr h
  clear hAe
  have hS : va_S A s.heap s.heap [] := va_S.rf
  replace hP : va_P G vwCl [(h0, .inr (5, [.ref h1, .ref h2, .ref h3, .ref h4, .ref h6, .ref h5, .ref k0, .ref k1, .ref k2, .ref k3, .int i0, .int i1])), (h1, aI cI 21 f2), (h2, aI cI 21 f3), (h3, aI cI 21 f4), (h4, aJ cJ 21 f5), (h5, aJ cJ 22 f6), (h6, aJ cJ 21 f7)] s.heap := hP
  have hl := lv_entry ([.ref h0, .int p0]) (n := 5) (Nat.le_of_ble_eq_true rfl)
  rw [lg_entry_eq]
  generalize (lg_sl ([.ref h0, .int p0]) ++ List.replicate (5 - (lg_sl ([.ref h0, .int p0])).length) Slot.unset).toArray = ls at hl ⊢
  replace hl : lv_has ls 5 [(0, .ref h0), (1, .int p0)] := hl
  generalize hQQ : MQ below _ _ s 0 0 _ = QQ
  skip
  unfold wX5_searchFrom at hwp
  refine lv_aload_n hx hb dX5_searchFrom_0 rfl (lv_at hl 0 rfl) ?_
  refine va_get (D := G) (ci := 5) (v := .ref h1) (C := RX5) (T := TX5) (N := 12) hx hb hts xinX5 hown hK hP 0 rfl rfl 0 (by decide) (hts _ wo_101) (fun _ h9 => h9) rfl dX5_searchFrom_1 ?_
  refine lv_iload_n hx hb dX5_searchFrom_4 rfl (lv_at hl 1 rfl) ?_
  refine lv_iconst (v := 0) hx hb dX5_searchFrom_5 (by decide) ?_
  obtain ⟨hi, hwp⟩ := hwp
  refine va_iast hx hb hK hP hD hS 1 0 rfl rfl hi dX5_searchFrom_6 (fun H locs hP hD hS => ?_)
  obtain ⟨g6, eg6⟩ : ∃ z, z = upd f2 (Int32.toNatClampNeg p0) 0 := ⟨_, rfl⟩
  replace hwp := hwp g6 eg6
  replace hP : va_P G vwCl [(h0, .inr (5, [.ref h1, .ref h2, .ref h3, .ref h4, .ref h6, .ref h5, .ref k0, .ref k1, .ref k2, .ref k3, .int i0, .int i1])), (h1, aI cI 21 g6), (h2, aI cI 21 f3), (h3, aI cI 21 f4), (h4, aJ cJ 21 f5), (h5, aJ cJ 22 f6), (h6, aJ cJ 21 f7)] H := by rw [eg6]; exact hP
  replace hD : va_D A [(h0, .inr (5, [.ref h1, .ref h2, .ref h3, .ref h4, .ref h6, .ref h5, .ref k0, .ref k1, .ref k2, .ref k3, .int i0, .int i1])), (h1, aI cI 21 g6), (h2, aI cI 21 f3), (h3, aI cI 21 f4), (h4, aJ cJ 21 f5), (h5, aJ cJ 22 f6), (h6, aJ cJ 21 f7)] := by rw [eg6]; exact hD
  clear eg6
  refine lv_aload_n hx hb dX5_searchFrom_7 rfl (lv_at hl 0 rfl) ?_
  refine va_get (D := G) (ci := 5) (v := .ref h2) (C := RX5) (T := TX5) (N := 12) hx hb hts xinX5 hown hK hP 0 rfl rfl 1 (by decide) (hts _ wo_100) (fun _ h9 => h9) rfl dX5_searchFrom_8 ?_
  refine lv_iload_n hx hb dX5_searchFrom_11 rfl (lv_at hl 1 rfl) ?_
  refine lv_iconst (v := (-1)) hx hb dX5_searchFrom_12 (by decide) ?_
  obtain ⟨hi, hwp⟩ := hwp
  refine va_iast hx hb hK hP hD hS 2 0 rfl rfl hi dX5_searchFrom_13 (fun H locs hP hD hS => ?_)
  obtain ⟨g13, eg13⟩ : ∃ z, z = upd f3 (Int32.toNatClampNeg p0) (-1) := ⟨_, rfl⟩
  replace hwp := hwp g13 eg13
  replace hP : va_P G vwCl [(h0, .inr (5, [.ref h1, .ref h2, .ref h3, .ref h4, .ref h6, .ref h5, .ref k0, .ref k1, .ref k2, .ref k3, .int i0, .int i1])), (h1, aI cI 21 g6), (h2, aI cI 21 g13), (h3, aI cI 21 f4), (h4, aJ cJ 21 f5), (h5, aJ cJ 22 f6), (h6, aJ cJ 21 f7)] H := by rw [eg13]; exact hP
  replace hD : va_D A [(h0, .inr (5, [.ref h1, .ref h2, .ref h3, .ref h4, .ref h6, .ref h5, .ref k0, .ref k1, .ref k2, .ref k3, .int i0, .int i1])), (h1, aI cI 21 g6), (h2, aI cI 21 g13), (h3, aI cI 21 f4), (h4, aJ cJ 21 f5), (h5, aJ cJ 22 f6), (h6, aJ cJ 21 f7)] := by rw [eg13]; exact hD
  clear eg13
  refine lv_iload_n hx hb dX5_searchFrom_14 rfl (lv_at hl 1 rfl) ?_
  refine lv_istore_n (lv' := [(2, .int p0), (0, .ref h0), (1, .int p0)]) hx hb dX5_searchFrom_15 rfl hl (by decide) rfl (fun ls hl => ?_)
  refine lv_iconst (v := 0) hx hb dX5_searchFrom_16 (by decide) ?_
  refine lv_istore_n (lv' := [(3, .int 0), (2, .int p0), (0, .ref h0), (1, .int p0)]) hx hb dX5_searchFrom_17 rfl hl (by decide) rfl (fun ls hl => ?_)
  replace hl : lv_has ls 5 [(3, .int 0), (2, .int p0), (0, .ref h0)] := lv_sub hl [0, 1, 2] rfl
  obtain ⟨n1, hwp⟩ := hwp
  have hs1 : ∀ (n1 : Nat) (H : Heap) (locs : List Loc) (ls : Array Slot) (t18_0 : Nat → Int32) (t18_1 : Nat → Int32) (t18_2 : Nat → Int32) (t18_3 : Nat → Int64) (t18_4 : Nat → Int64) (t18_5 : Nat → Int64) (t18_6 : Int32) (t18_7 : Int32) (t18_8 : Int32), wLX5_searchFrom_18 i1 K  n1 t18_0 t18_1 t18_2 t18_3 t18_4 t18_5 t18_6 t18_7 t18_8 → va_P G vwCl [(h0, .inr (5, [.ref h1, .ref h2, .ref h3, .ref h4, .ref h6, .ref h5, .ref k0, .ref k1, .ref k2, .ref k3, .int t18_6, .int i1])), (h1, aI cI 21 t18_0), (h2, aI cI 21 t18_1), (h3, aI cI 21 t18_2), (h4, aJ cJ 21 t18_3), (h5, aJ cJ 22 t18_4), (h6, aJ cJ 21 t18_5)] H → va_D A [(h0, .inr (5, [.ref h1, .ref h2, .ref h3, .ref h4, .ref h6, .ref h5, .ref k0, .ref k1, .ref k2, .ref k3, .int t18_6, .int i1])), (h1, aI cI 21 t18_0), (h2, aI cI 21 t18_1), (h3, aI cI 21 t18_2), (h4, aJ cJ 21 t18_3), (h5, aJ cJ 22 t18_4), (h6, aJ cJ 21 t18_5)] → va_S A s.heap H locs → lv_has ls 5 [(3, .int t18_8), (2, .int t18_7), (0, .ref h0)] → W p l e ((headSpec (xw yX5_searchFrom cX5_searchFrom 5 none) { frames := 2, cells := 0, slots := 0, locals := 40 }).room) s m ([.ref h0, .int p0] : List Value).toArray below meth c H locs 0 0 QQ (F0 m 18 ls []) := by
    intro n1
    induction n1 with
    | zero => intro H locs ls t18_0 t18_1 t18_2 t18_3 t18_4 t18_5 t18_6 t18_7 t18_8 hwp; exact False.elim hwp
    | succ n1 ih1 =>
      intro H locs ls t18_0 t18_1 t18_2 t18_3 t18_4 t18_5 t18_6 t18_7 t18_8 hwp hP hD hS hl
      rw [wLX5_searchFrom_18] at hwp
      refine lv_iload_n hx hb dX5_searchFrom_18 rfl (lv_at hl 0 rfl) ?_
      refine lv_sipush (v := 462) hx hb dX5_searchFrom_19 (by decide) ?_
      refine lv_icmp_ge (tgt := 148) hx hb dX5_searchFrom_22 (by decide) (fun c22 => ?_) (fun c22 => ?_)
      · replace hwp := hwp.1 c22
        have hP9 : va_P G vwCl [(h0, .inr (5, [.ref h1, .ref h2, .ref h3, .ref h4, .ref h6, .ref h5, .ref k0, .ref k1, .ref k2, .ref k3, .int t18_6, .int i1])), (h1, aI cI 21 t18_0), (h2, aI cI 21 t18_1), (h3, aI cI 21 t18_2), (h4, aJ cJ 21 t18_3), (h5, aJ cJ 22 t18_4), (h6, aJ cJ 21 t18_5)] H := hP.sub [0, 1, 2, 3, 4, 5, 6] rfl
        have hD9 : va_D A [(h0, .inr (5, [.ref h1, .ref h2, .ref h3, .ref h4, .ref h6, .ref h5, .ref k0, .ref k1, .ref k2, .ref k3, .int t18_6, .int i1])), (h1, aI cI 21 t18_0), (h2, aI cI 21 t18_1), (h3, aI cI 21 t18_2), (h4, aJ cJ 21 t18_3), (h5, aJ cJ 22 t18_4), (h6, aJ cJ 21 t18_5)] := hD.sub [0, 1, 2, 3, 4, 5, 6] (by decide) rfl
        rw [← hQQ]
        exact W.vret hx hb hr (fun t ht hW => ⟨⟨(t18_6, t18_0, t18_1, t18_2, t18_3, t18_4, t18_5), rfl, hwp, by rw [ht]; exact hP9, hD9⟩, hS.F ht⟩) hS.2.2 dX5_searchFrom_148
      · replace hwp := hwp.2 c22
        refine lv_iload_n hx hb dX5_searchFrom_25 rfl (lv_at hl 1 rfl) ?_
        refine lv_if_lt (tgt := 148) hx hb dX5_searchFrom_26 (by decide) (fun c26 => ?_) (fun c26 => ?_)
        · replace hwp := hwp.1 c26
          have hP9 : va_P G vwCl [(h0, .inr (5, [.ref h1, .ref h2, .ref h3, .ref h4, .ref h6, .ref h5, .ref k0, .ref k1, .ref k2, .ref k3, .int t18_6, .int i1])), (h1, aI cI 21 t18_0), (h2, aI cI 21 t18_1), (h3, aI cI 21 t18_2), (h4, aJ cJ 21 t18_3), (h5, aJ cJ 22 t18_4), (h6, aJ cJ 21 t18_5)] H := hP.sub [0, 1, 2, 3, 4, 5, 6] rfl
          have hD9 : va_D A [(h0, .inr (5, [.ref h1, .ref h2, .ref h3, .ref h4, .ref h6, .ref h5, .ref k0, .ref k1, .ref k2, .ref k3, .int t18_6, .int i1])), (h1, aI cI 21 t18_0), (h2, aI cI 21 t18_1), (h3, aI cI 21 t18_2), (h4, aJ cJ 21 t18_3), (h5, aJ cJ 22 t18_4), (h6, aJ cJ 21 t18_5)] := hD.sub [0, 1, 2, 3, 4, 5, 6] (by decide) rfl
          rw [← hQQ]
          exact W.vret hx hb hr (fun t ht hW => ⟨⟨(t18_6, t18_0, t18_1, t18_2, t18_3, t18_4, t18_5), rfl, hwp, by rw [ht]; exact hP9, hD9⟩, hS.F ht⟩) hS.2.2 dX5_searchFrom_148
        · replace hwp := hwp.2 c26
          refine lv_aload_n hx hb dX5_searchFrom_29 rfl (lv_at hl 2 rfl) ?_
          refine va_get (D := G) (ci := 5) (v := .ref h3) (C := RX5) (T := TX5) (N := 12) hx hb hts xinX5 hown hK hP 0 rfl rfl 2 (by decide) (hts _ wo_102) (fun _ h9 => h9) rfl dX5_searchFrom_30 ?_
          refine lv_iload_n hx hb dX5_searchFrom_33 rfl (lv_at hl 1 rfl) ?_
          obtain ⟨hi, hwp⟩ := hwp
          refine va_iald hx hb hK hP 3 0 rfl rfl hi dX5_searchFrom_34 ?_
          refine lv_if_ne (tgt := 47) hx hb dX5_searchFrom_35 (by decide) (fun c35 => ?_) (fun c35 => ?_)
          · replace hwp := hwp.1 c35
            refine lv_aload_n hx hb dX5_searchFrom_47 rfl (lv_at hl 2 rfl) ?_
            refine va_get (D := G) (ci := 5) (v := .ref h3) (C := RX5) (T := TX5) (N := 12) hx hb hts xinX5 hown hK hP 0 rfl rfl 2 (by decide) (hts _ wo_102) (fun _ h9 => h9) rfl dX5_searchFrom_48 ?_
            refine lv_iload_n hx hb dX5_searchFrom_51 rfl (lv_at hl 1 rfl) ?_
            obtain ⟨hi, hwp⟩ := hwp
            refine va_iald hx hb hK hP 3 0 rfl rfl hi dX5_searchFrom_52 ?_
            refine xci (wr := [(h0, .inr (5, [.ref h1, .ref h2, .ref h3, .ref h4, .ref h6, .ref h5, .ref k0, .ref k1, .ref k2, .ref k3, .int t18_6, .int i1])), (h1, aI cI 21 t18_0), (h2, aI cI 21 t18_1), (h3, aI cI 21 t18_2), (h4, aJ cJ 21 t18_3), (h5, aJ cJ 22 t18_4), (h6, aJ cJ 21 t18_5)]) (va_runSN (As := [.int (t18_2 (Int32.toNatClampNeg t18_7))]) (rest := []) ⟨hx, hb, hml, hown, hts⟩ (zX8_lowest l G cI cJ cZ H.size (t18_2 (Int32.toNatClampNeg t18_7)) _ hwp) ⟨(va_cnB 1 hts (xgood wo_48) rfl rfl rfl (hN.2 ("PlaneTests$PlaneCheck", 81, yX8_lowest, "PlaneTests") (by decide +kernel)) (hts _ wo_49) (by decide +kernel) ⟨Nat.le_of_ble_eq_true rfl, Nat.le_of_ble_eq_true rfl⟩), hts _ wo_50, trivial⟩ (xPreS hK hN hP hD [] (by decide) rfl) rfl rfl hl.1 rfl (lv_room (Nat.le_of_ble_eq_true rfl)) dX5_searchFrom_53 ⟨Nat.le_of_ble_eq_true rfl, Nat.le_of_ble_eq_true rfl⟩) hP hD hS hA [] [0, 1, 2, 3, 4, 5, 6] rfl rfl (by decide) (by decide) (fun r53 u53 H locs hwp hP hD hS => ?_)
            replace hP : va_P G vwCl [(h0, .inr (5, [.ref h1, .ref h2, .ref h3, .ref h4, .ref h6, .ref h5, .ref k0, .ref k1, .ref k2, .ref k3, .int t18_6, .int i1])), (h1, aI cI 21 t18_0), (h2, aI cI 21 t18_1), (h3, aI cI 21 t18_2), (h4, aJ cJ 21 t18_3), (h5, aJ cJ 22 t18_4), (h6, aJ cJ 21 t18_5)] H := hP
            replace hD : va_D A [(h0, .inr (5, [.ref h1, .ref h2, .ref h3, .ref h4, .ref h6, .ref h5, .ref k0, .ref k1, .ref k2, .ref k3, .int t18_6, .int i1])), (h1, aI cI 21 t18_0), (h2, aI cI 21 t18_1), (h3, aI cI 21 t18_2), (h4, aJ cJ 21 t18_3), (h5, aJ cJ 22 t18_4), (h6, aJ cJ 21 t18_5)] := hD
            refine lv_istore (lv' := [(4, .int r53), (3, .int t18_8), (2, .int t18_7), (0, .ref h0)]) hx hb dX5_searchFrom_56 hl (by decide) rfl (fun ls hl => ?_)
            refine lv_aload_n hx hb dX5_searchFrom_58 rfl (lv_at hl 3 rfl) ?_
            refine va_get (D := G) (ci := 5) (v := .ref h3) (C := RX5) (T := TX5) (N := 12) hx hb hts xinX5 hown hK hP 0 rfl rfl 2 (by decide) (hts _ wo_102) (fun _ h9 => h9) rfl dX5_searchFrom_59 ?_
            refine lv_iload_n hx hb dX5_searchFrom_62 rfl (lv_at hl 2 rfl) ?_
            refine lv_dup2_11 hx hb dX5_searchFrom_63 rfl rfl ?_
            obtain ⟨hi, hwp⟩ := hwp
            refine va_iald hx hb hK hP 3 0 rfl rfl hi dX5_searchFrom_64 ?_
            refine lv_iconst (v := 1) hx hb dX5_searchFrom_65 (by decide) ?_
            refine lv_iload hx hb dX5_searchFrom_66 (lv_at hl 0 rfl) ?_
            refine lv_ishl hx hb dX5_searchFrom_68 ?_
            refine lv_iconst (v := (-1)) hx hb dX5_searchFrom_69 (by decide) ?_
            refine lv_ixor hx hb dX5_searchFrom_70 ?_
            refine lv_iand hx hb dX5_searchFrom_71 ?_
            obtain ⟨hi, hwp⟩ := hwp
            refine va_iast hx hb hK hP hD hS 3 0 rfl rfl hi dX5_searchFrom_72 (fun H locs hP hD hS => ?_)
            obtain ⟨g72, eg72⟩ : ∃ z, z = upd t18_2 (Int32.toNatClampNeg t18_7) ((t18_2 (Int32.toNatClampNeg t18_7)) &&& (((1 : Int32) <<< (r53 &&& 31)) ^^^ (-1))) := ⟨_, rfl⟩
            replace hwp := hwp g72 eg72
            replace hP : va_P G vwCl [(h0, .inr (5, [.ref h1, .ref h2, .ref h3, .ref h4, .ref h6, .ref h5, .ref k0, .ref k1, .ref k2, .ref k3, .int t18_6, .int i1])), (h1, aI cI 21 t18_0), (h2, aI cI 21 t18_1), (h3, aI cI 21 g72), (h4, aJ cJ 21 t18_3), (h5, aJ cJ 22 t18_4), (h6, aJ cJ 21 t18_5)] H := by rw [eg72]; exact hP
            replace hD : va_D A [(h0, .inr (5, [.ref h1, .ref h2, .ref h3, .ref h4, .ref h6, .ref h5, .ref k0, .ref k1, .ref k2, .ref k3, .int t18_6, .int i1])), (h1, aI cI 21 t18_0), (h2, aI cI 21 t18_1), (h3, aI cI 21 g72), (h4, aJ cJ 21 t18_3), (h5, aJ cJ 22 t18_4), (h6, aJ cJ 21 t18_5)] := by rw [eg72]; exact hD
            clear eg72
            refine lv_aload_n hx hb dX5_searchFrom_73 rfl (lv_at hl 3 rfl) ?_
            refine va_get (D := G) (ci := 5) (v := .ref h1) (C := RX5) (T := TX5) (N := 12) hx hb hts xinX5 hown hK hP 0 rfl rfl 0 (by decide) (hts _ wo_101) (fun _ h9 => h9) rfl dX5_searchFrom_74 ?_
            refine lv_iload hx hb dX5_searchFrom_77 (lv_at hl 0 rfl) ?_
            obtain ⟨hi, hwp⟩ := hwp
            refine va_iald hx hb hK hP 1 0 rfl rfl hi dX5_searchFrom_79 ?_
            refine lv_if_ge (tgt := 112) hx hb dX5_searchFrom_80 (by decide) (fun c80 => ?_) (fun c80 => ?_)
            · replace hwp := hwp.1 c80
              refine lv_aload_n hx hb dX5_searchFrom_112 rfl (lv_at hl 3 rfl) ?_
              refine va_get (D := G) (ci := 5) (v := .ref h1) (C := RX5) (T := TX5) (N := 12) hx hb hts xinX5 hown hK hP 0 rfl rfl 0 (by decide) (hts _ wo_101) (fun _ h9 => h9) rfl dX5_searchFrom_113 ?_
              refine lv_iload hx hb dX5_searchFrom_116 (lv_at hl 0 rfl) ?_
              obtain ⟨hi, hwp⟩ := hwp
              refine va_iald hx hb hK hP 1 0 rfl rfl hi dX5_searchFrom_118 ?_
              refine lv_aload_n hx hb dX5_searchFrom_119 rfl (lv_at hl 3 rfl) ?_
              refine va_get (D := G) (ci := 5) (v := .ref h1) (C := RX5) (T := TX5) (N := 12) hx hb hts xinX5 hown hK hP 0 rfl rfl 0 (by decide) (hts _ wo_101) (fun _ h9 => h9) rfl dX5_searchFrom_120 ?_
              refine lv_iload_n hx hb dX5_searchFrom_123 rfl (lv_at hl 2 rfl) ?_
              obtain ⟨hi, hwp⟩ := hwp
              refine va_iald hx hb hK hP 1 0 rfl rfl hi dX5_searchFrom_124 ?_
              refine lv_iconst (v := 1) hx hb dX5_searchFrom_125 (by decide) ?_
              refine lv_isub hx hb dX5_searchFrom_126 ?_
              refine lv_icmp_ge (tgt := 142) hx hb dX5_searchFrom_127 (by decide) (fun c127 => ?_) (fun c127 => ?_)
              · replace hwp := hwp.1 c127
                refine lv_iinc (v := (t18_8 + 1)) (lv' := [(3, .int (t18_8 + 1)), (4, .int r53), (2, .int t18_7), (0, .ref h0)]) hx hb dX5_searchFrom_142 hl (k := 1) rfl rfl (by decide) rfl (fun ls hl => ?_)
                refine lv_goto (tgt := 18) hx hb dX5_searchFrom_145 (by decide) ?_
                replace hl : lv_has ls 5 [(3, .int (t18_8 + 1)), (2, .int t18_7), (0, .ref h0)] := lv_sub hl [0, 2, 3] rfl
                exact ih1 H locs ls t18_0 t18_1 g72 t18_3 t18_4 t18_5 t18_6 t18_7 (t18_8 + 1) hwp hP hD hS hl
              · replace hwp := hwp.2 c127
                refine lv_aload_n hx hb dX5_searchFrom_130 rfl (lv_at hl 3 rfl) ?_
                refine lv_iload_n hx hb dX5_searchFrom_131 rfl (lv_at hl 2 rfl) ?_
                refine lv_aload_n hx hb dX5_searchFrom_132 rfl (lv_at hl 3 rfl) ?_
                refine va_get (D := G) (ci := 5) (v := .ref h1) (C := RX5) (T := TX5) (N := 12) hx hb hts xinX5 hown hK hP 0 rfl rfl 0 (by decide) (hts _ wo_101) (fun _ h9 => h9) rfl dX5_searchFrom_133 ?_
                refine lv_iload hx hb dX5_searchFrom_136 (lv_at hl 0 rfl) ?_
                obtain ⟨hi, hwp⟩ := hwp
                refine va_iald hx hb hK hP 1 0 rfl rfl hi dX5_searchFrom_138 ?_
                refine xcv (wr := [(h1, aI cI 21 t18_0), (h2, aI cI 21 t18_1), (h3, aI cI 21 g72), (h6, aJ cJ 21 t18_5)]) (va_runV (As := [.int t18_7, .int (t18_0 (Int32.toNatClampNeg r53))]) (rest := []) ⟨hx, hb, hml, hown, hts⟩ (zX5_addBack l G cI cJ cZ h0 h4 h5 h1 h2 h3 h6 k0 k1 k2 k3 H.size t18_6 i1 t18_3 t18_4 t18_7 (t18_0 (Int32.toNatClampNeg r53)) _ hwp) (cwV 2 hts (xgoodV wo_103 wo_104 wo_105 wo_106 wo_107) rfl rfl rfl (by decide +kernel) ⟨Nat.le_of_ble_eq_true rfl, Nat.le_of_ble_eq_true rfl⟩) (xPreV (q := (RX5, TX5, 12)) (q0 := 0) hK hN hP hD [0, 4, 5] (by decide) rfl rfl rfl) rfl rfl hl.1 rfl (lv_room (Nat.le_of_ble_eq_true rfl)) dX5_searchFrom_139 ⟨Nat.le_of_ble_eq_true rfl, Nat.le_of_ble_eq_true rfl⟩) hP hD hS hA [0, 4, 5] [1, 2, 3, 6] rfl rfl (by decide) (by decide) (fun u139 H locs hwp hP hD hS => ?_)
                replace hP : va_P G vwCl [(h1, aI cI 21 t18_0), (h2, aI cI 21 t18_1), (h3, aI cI 21 g72), (h6, aJ cJ 21 t18_5), (h0, .inr (5, [.ref h1, .ref h2, .ref h3, .ref h4, .ref h6, .ref h5, .ref k0, .ref k1, .ref k2, .ref k3, .int u139.1, .int i1])), (h4, aJ cJ 21 u139.2.1), (h5, aJ cJ 22 u139.2.2)] H := hP
                replace hD : va_D A [(h1, aI cI 21 t18_0), (h2, aI cI 21 t18_1), (h3, aI cI 21 g72), (h6, aJ cJ 21 t18_5), (h0, .inr (5, [.ref h1, .ref h2, .ref h3, .ref h4, .ref h6, .ref h5, .ref k0, .ref k1, .ref k2, .ref k3, .int u139.1, .int i1])), (h4, aJ cJ 21 u139.2.1), (h5, aJ cJ 22 u139.2.2)] := hD
                refine lv_iinc (v := (t18_8 + 1)) (lv' := [(3, .int (t18_8 + 1)), (4, .int r53), (2, .int t18_7), (0, .ref h0)]) hx hb dX5_searchFrom_142 hl (k := 1) rfl rfl (by decide) rfl (fun ls hl => ?_)
                refine lv_goto (tgt := 18) hx hb dX5_searchFrom_145 (by decide) ?_
                replace hl : lv_has ls 5 [(3, .int (t18_8 + 1)), (2, .int t18_7), (0, .ref h0)] := lv_sub hl [0, 2, 3] rfl
                replace hP : va_P G vwCl [(h0, .inr (5, [.ref h1, .ref h2, .ref h3, .ref h4, .ref h6, .ref h5, .ref k0, .ref k1, .ref k2, .ref k3, .int u139.1, .int i1])), (h1, aI cI 21 t18_0), (h2, aI cI 21 t18_1), (h3, aI cI 21 g72), (h4, aJ cJ 21 u139.2.1), (h5, aJ cJ 22 u139.2.2), (h6, aJ cJ 21 t18_5)] H := hP.sub [4, 0, 1, 2, 5, 6, 3] rfl
                replace hD : va_D A [(h0, .inr (5, [.ref h1, .ref h2, .ref h3, .ref h4, .ref h6, .ref h5, .ref k0, .ref k1, .ref k2, .ref k3, .int u139.1, .int i1])), (h1, aI cI 21 t18_0), (h2, aI cI 21 t18_1), (h3, aI cI 21 g72), (h4, aJ cJ 21 u139.2.1), (h5, aJ cJ 22 u139.2.2), (h6, aJ cJ 21 t18_5)] := hD.sub [4, 0, 1, 2, 5, 6, 3] (by decide) rfl
                exact ih1 H locs ls t18_0 t18_1 g72 (u139.2.1) (u139.2.2) t18_5 (u139.1) t18_7 (t18_8 + 1) hwp hP hD hS hl
            · replace hwp := hwp.2 c80
              refine lv_aload_n hx hb dX5_searchFrom_83 rfl (lv_at hl 3 rfl) ?_
              refine va_get (D := G) (ci := 5) (v := .ref h1) (C := RX5) (T := TX5) (N := 12) hx hb hts xinX5 hown hK hP 0 rfl rfl 0 (by decide) (hts _ wo_101) (fun _ h9 => h9) rfl dX5_searchFrom_84 ?_
              refine lv_iload hx hb dX5_searchFrom_87 (lv_at hl 0 rfl) ?_
              refine lv_aload_n hx hb dX5_searchFrom_89 rfl (lv_at hl 3 rfl) ?_
              refine va_get (D := G) (ci := 5) (v := .ref h1) (C := RX5) (T := TX5) (N := 12) hx hb hts xinX5 hown hK hP 0 rfl rfl 0 (by decide) (hts _ wo_101) (fun _ h9 => h9) rfl dX5_searchFrom_90 ?_
              refine lv_iload_n hx hb dX5_searchFrom_93 rfl (lv_at hl 2 rfl) ?_
              obtain ⟨hi, hwp⟩ := hwp
              refine va_iald hx hb hK hP 1 0 rfl rfl hi dX5_searchFrom_94 ?_
              refine lv_iconst (v := 1) hx hb dX5_searchFrom_95 (by decide) ?_
              refine lv_iadd hx hb dX5_searchFrom_96 ?_
              obtain ⟨hi, hwp⟩ := hwp
              refine va_iast hx hb hK hP hD hS 1 0 rfl rfl hi dX5_searchFrom_97 (fun H locs hP hD hS => ?_)
              obtain ⟨g97, eg97⟩ : ∃ z, z = upd t18_0 (Int32.toNatClampNeg r53) ((t18_0 (Int32.toNatClampNeg t18_7)) + 1) := ⟨_, rfl⟩
              replace hwp := hwp g97 eg97
              replace hP : va_P G vwCl [(h0, .inr (5, [.ref h1, .ref h2, .ref h3, .ref h4, .ref h6, .ref h5, .ref k0, .ref k1, .ref k2, .ref k3, .int t18_6, .int i1])), (h1, aI cI 21 g97), (h2, aI cI 21 t18_1), (h3, aI cI 21 g72), (h4, aJ cJ 21 t18_3), (h5, aJ cJ 22 t18_4), (h6, aJ cJ 21 t18_5)] H := by rw [eg97]; exact hP
              replace hD : va_D A [(h0, .inr (5, [.ref h1, .ref h2, .ref h3, .ref h4, .ref h6, .ref h5, .ref k0, .ref k1, .ref k2, .ref k3, .int t18_6, .int i1])), (h1, aI cI 21 g97), (h2, aI cI 21 t18_1), (h3, aI cI 21 g72), (h4, aJ cJ 21 t18_3), (h5, aJ cJ 22 t18_4), (h6, aJ cJ 21 t18_5)] := by rw [eg97]; exact hD
              clear eg97
              refine lv_aload_n hx hb dX5_searchFrom_98 rfl (lv_at hl 3 rfl) ?_
              refine va_get (D := G) (ci := 5) (v := .ref h2) (C := RX5) (T := TX5) (N := 12) hx hb hts xinX5 hown hK hP 0 rfl rfl 1 (by decide) (hts _ wo_100) (fun _ h9 => h9) rfl dX5_searchFrom_99 ?_
              refine lv_iload hx hb dX5_searchFrom_102 (lv_at hl 0 rfl) ?_
              refine lv_iload_n hx hb dX5_searchFrom_104 rfl (lv_at hl 2 rfl) ?_
              obtain ⟨hi, hwp⟩ := hwp
              refine va_iast hx hb hK hP hD hS 2 0 rfl rfl hi dX5_searchFrom_105 (fun H locs hP hD hS => ?_)
              obtain ⟨g105, eg105⟩ : ∃ z, z = upd t18_1 (Int32.toNatClampNeg r53) t18_7 := ⟨_, rfl⟩
              replace hwp := hwp g105 eg105
              replace hP : va_P G vwCl [(h0, .inr (5, [.ref h1, .ref h2, .ref h3, .ref h4, .ref h6, .ref h5, .ref k0, .ref k1, .ref k2, .ref k3, .int t18_6, .int i1])), (h1, aI cI 21 g97), (h2, aI cI 21 g105), (h3, aI cI 21 g72), (h4, aJ cJ 21 t18_3), (h5, aJ cJ 22 t18_4), (h6, aJ cJ 21 t18_5)] H := by rw [eg105]; exact hP
              replace hD : va_D A [(h0, .inr (5, [.ref h1, .ref h2, .ref h3, .ref h4, .ref h6, .ref h5, .ref k0, .ref k1, .ref k2, .ref k3, .int t18_6, .int i1])), (h1, aI cI 21 g97), (h2, aI cI 21 g105), (h3, aI cI 21 g72), (h4, aJ cJ 21 t18_3), (h5, aJ cJ 22 t18_4), (h6, aJ cJ 21 t18_5)] := by rw [eg105]; exact hD
              clear eg105
              refine lv_iload hx hb dX5_searchFrom_106 (lv_at hl 0 rfl) ?_
              refine lv_istore_n (lv' := [(2, .int r53), (4, .int r53), (3, .int t18_8), (0, .ref h0)]) hx hb dX5_searchFrom_108 rfl hl (by decide) rfl (fun ls hl => ?_)
              refine lv_goto (tgt := 142) hx hb dX5_searchFrom_109 (by decide) ?_
              refine lv_iinc (v := (t18_8 + 1)) (lv' := [(3, .int (t18_8 + 1)), (2, .int r53), (4, .int r53), (0, .ref h0)]) hx hb dX5_searchFrom_142 hl (k := 2) rfl rfl (by decide) rfl (fun ls hl => ?_)
              refine lv_goto (tgt := 18) hx hb dX5_searchFrom_145 (by decide) ?_
              replace hl : lv_has ls 5 [(3, .int (t18_8 + 1)), (2, .int r53), (0, .ref h0)] := lv_sub hl [0, 1, 3] rfl
              exact ih1 H locs ls g97 g105 g72 t18_3 t18_4 t18_5 t18_6 r53 (t18_8 + 1) hwp hP hD hS hl
          · replace hwp := hwp.2 c35
            refine lv_aload_n hx hb dX5_searchFrom_38 rfl (lv_at hl 2 rfl) ?_
            refine lv_iload_n hx hb dX5_searchFrom_39 rfl (lv_at hl 1 rfl) ?_
            refine xci (wr := [(h1, aI cI 21 t18_0), (h3, aI cI 21 t18_2), (h5, aJ cJ 22 t18_4)]) (va_runV (As := [.int t18_7]) (rest := []) ⟨hx, hb, hml, hown, hts⟩ (zX5_leave l G cI cJ cZ h0 h6 h4 h2 h1 h3 h5 k0 k1 k2 k3 H.size t18_6 i1 t18_5 t18_3 t18_1 t18_7 _ hwp) (cwV 1 hts (xgoodV wo_108 wo_109 wo_110 wo_111 wo_107) rfl rfl rfl (by decide +kernel) ⟨Nat.le_of_ble_eq_true rfl, Nat.le_of_ble_eq_true rfl⟩) (xPreV (q := (RX5, TX5, 12)) (q0 := 0) hK hN hP hD [0, 6, 4, 2] (by decide) rfl rfl rfl) rfl rfl hl.1 rfl (lv_room (Nat.le_of_ble_eq_true rfl)) dX5_searchFrom_40 ⟨Nat.le_of_ble_eq_true rfl, Nat.le_of_ble_eq_true rfl⟩) hP hD hS hA [0, 6, 4, 2] [1, 3, 5] rfl rfl (by decide) (by decide) (fun r40 u40 H locs hwp hP hD hS => ?_)
            replace hP : va_P G vwCl [(h1, aI cI 21 t18_0), (h3, aI cI 21 t18_2), (h5, aJ cJ 22 t18_4), (h0, .inr (5, [.ref h1, .ref h2, .ref h3, .ref h4, .ref h6, .ref h5, .ref k0, .ref k1, .ref k2, .ref k3, .int t18_6, .int i1])), (h6, aJ cJ 21 u40), (h4, aJ cJ 21 t18_3), (h2, aI cI 21 t18_1)] H := hP
            replace hD : va_D A [(h1, aI cI 21 t18_0), (h3, aI cI 21 t18_2), (h5, aJ cJ 22 t18_4), (h0, .inr (5, [.ref h1, .ref h2, .ref h3, .ref h4, .ref h6, .ref h5, .ref k0, .ref k1, .ref k2, .ref k3, .int t18_6, .int i1])), (h6, aJ cJ 21 u40), (h4, aJ cJ 21 t18_3), (h2, aI cI 21 t18_1)] := hD
            refine lv_istore_n (lv' := [(2, .int r40), (3, .int t18_8), (0, .ref h0)]) hx hb dX5_searchFrom_43 rfl hl (by decide) rfl (fun ls hl => ?_)
            refine lv_goto (tgt := 142) hx hb dX5_searchFrom_44 (by decide) ?_
            refine lv_iinc (v := (t18_8 + 1)) (lv' := [(3, .int (t18_8 + 1)), (2, .int r40), (0, .ref h0)]) hx hb dX5_searchFrom_142 hl (k := 1) rfl rfl (by decide) rfl (fun ls hl => ?_)
            refine lv_goto (tgt := 18) hx hb dX5_searchFrom_145 (by decide) ?_
            replace hl : lv_has ls 5 [(3, .int (t18_8 + 1)), (2, .int r40), (0, .ref h0)] := lv_sub hl [0, 1, 2] rfl
            replace hP : va_P G vwCl [(h0, .inr (5, [.ref h1, .ref h2, .ref h3, .ref h4, .ref h6, .ref h5, .ref k0, .ref k1, .ref k2, .ref k3, .int t18_6, .int i1])), (h1, aI cI 21 t18_0), (h2, aI cI 21 t18_1), (h3, aI cI 21 t18_2), (h4, aJ cJ 21 t18_3), (h5, aJ cJ 22 t18_4), (h6, aJ cJ 21 u40)] H := hP.sub [3, 0, 6, 1, 5, 2, 4] rfl
            replace hD : va_D A [(h0, .inr (5, [.ref h1, .ref h2, .ref h3, .ref h4, .ref h6, .ref h5, .ref k0, .ref k1, .ref k2, .ref k3, .int t18_6, .int i1])), (h1, aI cI 21 t18_0), (h2, aI cI 21 t18_1), (h3, aI cI 21 t18_2), (h4, aJ cJ 21 t18_3), (h5, aJ cJ 22 t18_4), (h6, aJ cJ 21 u40)] := hD.sub [3, 0, 6, 1, 5, 2, 4] (by decide) rfl
            exact ih1 H locs ls t18_0 t18_1 t18_2 t18_3 t18_4 u40 t18_6 r40 (t18_8 + 1) hwp hP hD hS hl
  exact hs1 n1 H locs ls g6 g13 f4 f5 f6 f7 i0 p0 0 hwp hP hD hS hl
def wLX5_addLeading_20 (f2 : Nat → Int64) (f3 : Nat → Int64) (f4 : Nat → Int32) (p0 : Int32) (p1 : Int64) (K : Int32 → ((Nat → Int64) × (Nat → Int32)) → Prop)  : Nat → Int32 → Int32 → Prop
  | 0, _, _ => False
  | n20 + 1, t20_0, t20_1 => ((21 ≤ t20_1 → (vp_in p0 21 ∧ (∀ g57 : Nat → Int64, g57 = vp_updL f3 (Int32.toNatClampNeg p0) p1 → (vp_in p0 21 ∧ (∀ g65 : Nat → Int32, g65 = upd f4 (Int32.toNatClampNeg p0) t20_0 → K (p0 + 1) (g57, g65)))))) ∧ (¬ 21 ≤ t20_1 → (vp_in t20_1 22 ∧ ((¬ (lg_cmp (p1 &&& (f2 (Int32.toNatClampNeg t20_1))) (0 : Int64)) = 0 → (vp_in p0 21 ∧ (∀ g57 : Nat → Int64, g57 = vp_updL f3 (Int32.toNatClampNeg p0) p1 → (vp_in p0 21 ∧ (∀ g65 : Nat → Int32, g65 = upd f4 (Int32.toNatClampNeg p0) t20_0 → K (p0 + 1) (g57, g65)))))) ∧ ((lg_cmp (p1 &&& (f2 (Int32.toNatClampNeg t20_1))) (0 : Int64)) = 0 → (wLX5_addLeading_20 f2 f3 f4 p0 p1 K  n20) t20_1 (t20_1 + 1))))))
def wX5_addLeading (i0 : Int32) (i1 : Int32) (f2 : Nat → Int64) (f3 : Nat → Int64) (f4 : Nat → Int32) (p0 : Int32) (p1 : Int64) (K : Int32 → ((Nat → Int64) × (Nat → Int32)) → Prop) : Prop := (((lg_cmp p1 (0 : Int64)) = 0 → K p0 (f3, f4)) ∧ (¬ (lg_cmp p1 (0 : Int64)) = 0 → ((p0 < 21 → (∃ n20, wLX5_addLeading_20 f2 f3 f4 p0 p1 K  n20 0 1)) ∧ (¬ p0 < 21 → K p0 (f3, f4)))))
set_option maxHeartbeats 4000000 in
set_option maxRecDepth 100000 in
theorem zX5_addLeading (l : Launch) (G : va_G) (cI cJ cZ : ClassId) (h0 h1 h2 h3 k0 k1 k2 k3 k4 k5 k6 sz : Nat) (i0 : Int32) (i1 : Int32) (f2 : Nat → Int64) (f3 : Nat → Int64) (f4 : Nat → Int32) (p0 : Int32) (p1 : Int64) (K : Int32 → ((Nat → Int64) × (Nat → Int32)) → Prop) (hwp : wX5_addLeading i0 i1 f2 f3 f4 p0 p1 K) : Met l yX5_addLeading (xw yX5_addLeading cX5_addLeading 6 (some .int)) ({ frames := 0, cells := 0, slots := 0, locals := 0 }) (xPc G cI cJ cZ [.ref h0, .int p0, .long p1] [(h0, .inr (5, [.ref k0, .ref k1, .ref k2, .ref k3, .ref k4, .ref h1, .ref h2, .ref h3, .ref k5, .ref k6, .int i0, .int i1])), (h1, aJ cJ 22 f2), (h2, aJ cJ 21 f3), (h3, aI cI 21 f4)] sz) (va_Qi (fun (r : Int32) (u : (Nat → Int64) × (Nat → Int32)) => K r u) (fun (u : (Nat → Int64) × (Nat → Int32)) t => xB G (va_A [(h0, .inr (5, [.ref k0, .ref k1, .ref k2, .ref k3, .ref k4, .ref h1, .ref h2, .ref h3, .ref k5, .ref k6, .int i0, .int i1])), (h1, aJ cJ 22 f2), (h2, aJ cJ 21 f3), (h3, aI cI 21 f4)] sz) [(h0, .inr (5, [.ref k0, .ref k1, .ref k2, .ref k3, .ref k4, .ref h1, .ref h2, .ref h3, .ref k5, .ref k6, .int i0, .int i1])), (h1, aJ cJ 22 f2), (h2, aJ cJ 21 u.1), (h3, aI cI 21 u.2)] t) (va_A [(h0, .inr (5, [.ref k0, .ref k1, .ref k2, .ref k3, .ref k4, .ref h1, .ref h2, .ref h3, .ref k5, .ref k6, .int i0, .int i1])), (h1, aJ cJ 22 f2), (h2, aJ cJ 21 f3), (h3, aI cI 21 f4)] sz)) 0 0 (va_A [(h0, .inr (5, [.ref k0, .ref k1, .ref k2, .ref k3, .ref k4, .ref h1, .ref h2, .ref h3, .ref k5, .ref k6, .int i0, .int i1])), (h1, aJ cJ 22 f2), (h2, aJ cJ 21 f3), (h3, aI cI 21 f4)] sz) := by
  refine Met.ofW (cc := cX5_addLeading) (maxL := 6) (ret := (some .int)) (by decide) rfl ?_
  intro p e s m args below meth c s₁ B hml hv
  obtain ⟨rfl, hsz, hP, hK, hD0, hN⟩ := hv
  have hx := B.exec
  have hb := B.bytes
  have hr := B.returns
  have hts : ∀ w ∈ xW, w.before _ s = true := fun w h => atoms_spec (ws := xw yX5_addLeading cX5_addLeading 6 (some .int)) B.pre w (List.mem_cons_of_mem _ h)
  have hown : s.vm.findClass RX5 = some m.cls := findClass_of_methodNamed B.named
  have hlocks := B.notSynchronized
  subst hsz
  have hD := hD0.self (sz := s.heap.size)
  clear hD0
  generalize hAe : va_A [(h0, .inr (5, [.ref k0, .ref k1, .ref k2, .ref k3, .ref k4, .ref h1, .ref h2, .ref h3, .ref k5, .ref k6, .int i0, .int i1])), (h1, aJ cJ 22 f2), (h2, aJ cJ 21 f3), (h3, aI cI 21 f4)] s.heap.size = A at hD ⊢
  have hA : ∀ q : Nat, s.heap.size ≤ q → A q := fun q h => by rw [← hAe]; exact Or.inr h
  clear hAe
  have hS : va_S A s.heap s.heap [] := va_S.rf
  replace hP : va_P G vwCl [(h0, .inr (5, [.ref k0, .ref k1, .ref k2, .ref k3, .ref k4, .ref h1, .ref h2, .ref h3, .ref k5, .ref k6, .int i0, .int i1])), (h1, aJ cJ 22 f2), (h2, aJ cJ 21 f3), (h3, aI cI 21 f4)] s.heap := hP
  have hl := lv_entry ([.ref h0, .int p0, .long p1]) (n := 6) (Nat.le_of_ble_eq_true rfl)
  rw [lg_entry_eq]
  generalize (lg_sl ([.ref h0, .int p0, .long p1]) ++ List.replicate (6 - (lg_sl ([.ref h0, .int p0, .long p1])).length) Slot.unset).toArray = ls at hl ⊢
  replace hl : lv_has ls 6 [(0, .ref h0), (1, .int p0), (2, .long p1)] := hl
  generalize hQQ : MQ below _ _ s 0 0 _ = QQ
  skip
  unfold wX5_addLeading at hwp
  refine lv_lload_n hx hb dX5_addLeading_0 rfl (lv_at hl 2 rfl) ?_
  refine lv_lconst (v := 0) hx hb dX5_addLeading_1 rfl ?_
  refine W.lcmp hx hb dX5_addLeading_2 ?_
  refine lv_if_eq (tgt := 12) hx hb dX5_addLeading_3 (by decide) (fun c3 => ?_) (fun c3 => ?_)
  · replace hwp := hwp.1 c3
    refine lv_iload_n hx hb dX5_addLeading_12 rfl (lv_at hl 1 rfl) ?_
    have hP9 : va_P G vwCl [(h0, .inr (5, [.ref k0, .ref k1, .ref k2, .ref k3, .ref k4, .ref h1, .ref h2, .ref h3, .ref k5, .ref k6, .int i0, .int i1])), (h1, aJ cJ 22 f2), (h2, aJ cJ 21 f3), (h3, aI cI 21 f4)] s.heap := hP.sub [0, 1, 2, 3] rfl
    have hD9 : va_D A [(h0, .inr (5, [.ref k0, .ref k1, .ref k2, .ref k3, .ref k4, .ref h1, .ref h2, .ref h3, .ref k5, .ref k6, .int i0, .int i1])), (h1, aJ cJ 22 f2), (h2, aJ cJ 21 f3), (h3, aI cI 21 f4)] := hD.sub [0, 1, 2, 3] (by decide) rfl
    rw [← hQQ]
    exact W.iret (v := p0) hx hb hr (fun t ht hW => ⟨⟨_, (f3, f4), rfl, hwp, by rw [ht]; exact hP9, hD9⟩, hS.F ht⟩) hS.2.2 dX5_addLeading_13
  · replace hwp := hwp.2 c3
    refine lv_iload_n hx hb dX5_addLeading_6 rfl (lv_at hl 1 rfl) ?_
    refine lv_bipush (v := 21) hx hb dX5_addLeading_7 (by decide) ?_
    refine lv_icmp_lt (tgt := 14) hx hb dX5_addLeading_9 (by decide) (fun c9 => ?_) (fun c9 => ?_)
    · replace hwp := hwp.1 c9
      refine lv_iconst (v := 0) hx hb dX5_addLeading_14 (by decide) ?_
      refine lv_istore (lv' := [(4, .int 0), (0, .ref h0), (1, .int p0), (2, .long p1)]) hx hb dX5_addLeading_15 hl (by decide) rfl (fun ls hl => ?_)
      refine lv_iconst (v := 1) hx hb dX5_addLeading_17 (by decide) ?_
      refine lv_istore (lv' := [(5, .int 1), (4, .int 0), (0, .ref h0), (1, .int p0), (2, .long p1)]) hx hb dX5_addLeading_18 hl (by decide) rfl (fun ls hl => ?_)
      refine xgen (Pp := fun H locs => W p l e _ s m _ below meth c H locs _ _ _ _) (fun H locs hP hD hS => ?_) hP hD hS
      replace hl : lv_has ls 6 [(5, .int 1), (4, .int 0), (0, .ref h0), (1, .int p0), (2, .long p1)] := lv_sub hl [0, 1, 2, 3, 4] rfl
      obtain ⟨n1, hwp⟩ := hwp
      have hs1 : ∀ (n1 : Nat) (H : Heap) (locs : List Loc) (ls : Array Slot) (t20_0 : Int32) (t20_1 : Int32), wLX5_addLeading_20 f2 f3 f4 p0 p1 K  n1 t20_0 t20_1 → va_P G vwCl [(h0, .inr (5, [.ref k0, .ref k1, .ref k2, .ref k3, .ref k4, .ref h1, .ref h2, .ref h3, .ref k5, .ref k6, .int i0, .int i1])), (h1, aJ cJ 22 f2), (h2, aJ cJ 21 f3), (h3, aI cI 21 f4)] H → va_D A [(h0, .inr (5, [.ref k0, .ref k1, .ref k2, .ref k3, .ref k4, .ref h1, .ref h2, .ref h3, .ref k5, .ref k6, .int i0, .int i1])), (h1, aJ cJ 22 f2), (h2, aJ cJ 21 f3), (h3, aI cI 21 f4)] → va_S A s.heap H locs → lv_has ls 6 [(5, .int t20_1), (4, .int t20_0), (0, .ref h0), (1, .int p0), (2, .long p1)] → W p l e ((headSpec (xw yX5_addLeading cX5_addLeading 6 (some .int)) { frames := 0, cells := 0, slots := 0, locals := 0 }).room) s m ([.ref h0, .int p0, .long p1] : List Value).toArray below meth c H locs 0 0 QQ (F0 m 20 ls []) := by
        intro n1
        induction n1 with
        | zero => intro H locs ls t20_0 t20_1 hwp; exact False.elim hwp
        | succ n1 ih1 =>
          intro H locs ls t20_0 t20_1 hwp hP hD hS hl
          rw [wLX5_addLeading_20] at hwp
          refine lv_iload hx hb dX5_addLeading_20 (lv_at hl 0 rfl) ?_
          refine lv_bipush (v := 21) hx hb dX5_addLeading_22 (by decide) ?_
          refine lv_icmp_ge (tgt := 51) hx hb dX5_addLeading_24 (by decide) (fun c24 => ?_) (fun c24 => ?_)
          · replace hwp := hwp.1 c24
            refine lv_aload_n hx hb dX5_addLeading_51 rfl (lv_at hl 2 rfl) ?_
            refine va_get (D := G) (ci := 5) (v := .ref h2) (C := RX5) (T := TX5) (N := 12) hx hb hts xinX5 hown hK hP 0 rfl rfl 6 (by decide) (hts _ wo_112) (fun _ h9 => h9) rfl dX5_addLeading_52 ?_
            refine lv_iload_n hx hb dX5_addLeading_55 rfl (lv_at hl 3 rfl) ?_
            refine lv_lload_n hx hb dX5_addLeading_56 rfl (lv_at hl 4 rfl) ?_
            obtain ⟨hi, hwp⟩ := hwp
            refine va_last hx hb hK hP hD hS 2 1 rfl rfl hi dX5_addLeading_57 (fun H locs hP hD hS => ?_)
            obtain ⟨g57, eg57⟩ : ∃ z, z = vp_updL f3 (Int32.toNatClampNeg p0) p1 := ⟨_, rfl⟩
            replace hwp := hwp g57 eg57
            replace hP : va_P G vwCl [(h0, .inr (5, [.ref k0, .ref k1, .ref k2, .ref k3, .ref k4, .ref h1, .ref h2, .ref h3, .ref k5, .ref k6, .int i0, .int i1])), (h1, aJ cJ 22 f2), (h2, aJ cJ 21 g57), (h3, aI cI 21 f4)] H := by rw [eg57]; exact hP
            replace hD : va_D A [(h0, .inr (5, [.ref k0, .ref k1, .ref k2, .ref k3, .ref k4, .ref h1, .ref h2, .ref h3, .ref k5, .ref k6, .int i0, .int i1])), (h1, aJ cJ 22 f2), (h2, aJ cJ 21 g57), (h3, aI cI 21 f4)] := by rw [eg57]; exact hD
            clear eg57
            refine lv_aload_n hx hb dX5_addLeading_58 rfl (lv_at hl 2 rfl) ?_
            refine va_get (D := G) (ci := 5) (v := .ref h3) (C := RX5) (T := TX5) (N := 12) hx hb hts xinX5 hown hK hP 0 rfl rfl 7 (by decide) (hts _ wo_113) (fun _ h9 => h9) rfl dX5_addLeading_59 ?_
            refine lv_iload_n hx hb dX5_addLeading_62 rfl (lv_at hl 3 rfl) ?_
            refine lv_iload hx hb dX5_addLeading_63 (lv_at hl 1 rfl) ?_
            obtain ⟨hi, hwp⟩ := hwp
            refine va_iast hx hb hK hP hD hS 3 0 rfl rfl hi dX5_addLeading_65 (fun H locs hP hD hS => ?_)
            obtain ⟨g65, eg65⟩ : ∃ z, z = upd f4 (Int32.toNatClampNeg p0) t20_0 := ⟨_, rfl⟩
            replace hwp := hwp g65 eg65
            replace hP : va_P G vwCl [(h0, .inr (5, [.ref k0, .ref k1, .ref k2, .ref k3, .ref k4, .ref h1, .ref h2, .ref h3, .ref k5, .ref k6, .int i0, .int i1])), (h1, aJ cJ 22 f2), (h2, aJ cJ 21 g57), (h3, aI cI 21 g65)] H := by rw [eg65]; exact hP
            replace hD : va_D A [(h0, .inr (5, [.ref k0, .ref k1, .ref k2, .ref k3, .ref k4, .ref h1, .ref h2, .ref h3, .ref k5, .ref k6, .int i0, .int i1])), (h1, aJ cJ 22 f2), (h2, aJ cJ 21 g57), (h3, aI cI 21 g65)] := by rw [eg65]; exact hD
            clear eg65
            refine lv_iload_n hx hb dX5_addLeading_66 rfl (lv_at hl 3 rfl) ?_
            refine lv_iconst (v := 1) hx hb dX5_addLeading_67 (by decide) ?_
            refine lv_iadd hx hb dX5_addLeading_68 ?_
            have hP9 : va_P G vwCl [(h0, .inr (5, [.ref k0, .ref k1, .ref k2, .ref k3, .ref k4, .ref h1, .ref h2, .ref h3, .ref k5, .ref k6, .int i0, .int i1])), (h1, aJ cJ 22 f2), (h2, aJ cJ 21 g57), (h3, aI cI 21 g65)] H := hP.sub [0, 1, 2, 3] rfl
            have hD9 : va_D A [(h0, .inr (5, [.ref k0, .ref k1, .ref k2, .ref k3, .ref k4, .ref h1, .ref h2, .ref h3, .ref k5, .ref k6, .int i0, .int i1])), (h1, aJ cJ 22 f2), (h2, aJ cJ 21 g57), (h3, aI cI 21 g65)] := hD.sub [0, 1, 2, 3] (by decide) rfl
            rw [← hQQ]
            exact W.iret (v := (p0 + 1)) hx hb hr (fun t ht hW => ⟨⟨_, (g57, g65), rfl, hwp, by rw [ht]; exact hP9, hD9⟩, hS.F ht⟩) hS.2.2 dX5_addLeading_69
          · replace hwp := hwp.2 c24
            refine lv_lload_n hx hb dX5_addLeading_27 rfl (lv_at hl 4 rfl) ?_
            refine lv_aload_n hx hb dX5_addLeading_28 rfl (lv_at hl 2 rfl) ?_
            refine va_get (D := G) (ci := 5) (v := .ref h1) (C := RX5) (T := TX5) (N := 12) hx hb hts xinX5 hown hK hP 0 rfl rfl 5 (by decide) (hts _ wo_98) (fun _ h9 => h9) rfl dX5_addLeading_29 ?_
            refine lv_iload hx hb dX5_addLeading_32 (lv_at hl 0 rfl) ?_
            obtain ⟨hi, hwp⟩ := hwp
            refine va_lald hx hb hK hP 1 1 rfl rfl hi dX5_addLeading_34 ?_
            refine lv_land hx hb dX5_addLeading_35 ?_
            refine lv_lconst (v := 0) hx hb dX5_addLeading_36 rfl ?_
            refine W.lcmp hx hb dX5_addLeading_37 ?_
            refine lv_if_ne (tgt := 51) hx hb dX5_addLeading_38 (by decide) (fun c38 => ?_) (fun c38 => ?_)
            · replace hwp := hwp.1 c38
              refine lv_aload_n hx hb dX5_addLeading_51 rfl (lv_at hl 2 rfl) ?_
              refine va_get (D := G) (ci := 5) (v := .ref h2) (C := RX5) (T := TX5) (N := 12) hx hb hts xinX5 hown hK hP 0 rfl rfl 6 (by decide) (hts _ wo_112) (fun _ h9 => h9) rfl dX5_addLeading_52 ?_
              refine lv_iload_n hx hb dX5_addLeading_55 rfl (lv_at hl 3 rfl) ?_
              refine lv_lload_n hx hb dX5_addLeading_56 rfl (lv_at hl 4 rfl) ?_
              obtain ⟨hi, hwp⟩ := hwp
              refine va_last hx hb hK hP hD hS 2 1 rfl rfl hi dX5_addLeading_57 (fun H locs hP hD hS => ?_)
              obtain ⟨g57, eg57⟩ : ∃ z, z = vp_updL f3 (Int32.toNatClampNeg p0) p1 := ⟨_, rfl⟩
              replace hwp := hwp g57 eg57
              replace hP : va_P G vwCl [(h0, .inr (5, [.ref k0, .ref k1, .ref k2, .ref k3, .ref k4, .ref h1, .ref h2, .ref h3, .ref k5, .ref k6, .int i0, .int i1])), (h1, aJ cJ 22 f2), (h2, aJ cJ 21 g57), (h3, aI cI 21 f4)] H := by rw [eg57]; exact hP
              replace hD : va_D A [(h0, .inr (5, [.ref k0, .ref k1, .ref k2, .ref k3, .ref k4, .ref h1, .ref h2, .ref h3, .ref k5, .ref k6, .int i0, .int i1])), (h1, aJ cJ 22 f2), (h2, aJ cJ 21 g57), (h3, aI cI 21 f4)] := by rw [eg57]; exact hD
              clear eg57
              refine lv_aload_n hx hb dX5_addLeading_58 rfl (lv_at hl 2 rfl) ?_
              refine va_get (D := G) (ci := 5) (v := .ref h3) (C := RX5) (T := TX5) (N := 12) hx hb hts xinX5 hown hK hP 0 rfl rfl 7 (by decide) (hts _ wo_113) (fun _ h9 => h9) rfl dX5_addLeading_59 ?_
              refine lv_iload_n hx hb dX5_addLeading_62 rfl (lv_at hl 3 rfl) ?_
              refine lv_iload hx hb dX5_addLeading_63 (lv_at hl 1 rfl) ?_
              obtain ⟨hi, hwp⟩ := hwp
              refine va_iast hx hb hK hP hD hS 3 0 rfl rfl hi dX5_addLeading_65 (fun H locs hP hD hS => ?_)
              obtain ⟨g65, eg65⟩ : ∃ z, z = upd f4 (Int32.toNatClampNeg p0) t20_0 := ⟨_, rfl⟩
              replace hwp := hwp g65 eg65
              replace hP : va_P G vwCl [(h0, .inr (5, [.ref k0, .ref k1, .ref k2, .ref k3, .ref k4, .ref h1, .ref h2, .ref h3, .ref k5, .ref k6, .int i0, .int i1])), (h1, aJ cJ 22 f2), (h2, aJ cJ 21 g57), (h3, aI cI 21 g65)] H := by rw [eg65]; exact hP
              replace hD : va_D A [(h0, .inr (5, [.ref k0, .ref k1, .ref k2, .ref k3, .ref k4, .ref h1, .ref h2, .ref h3, .ref k5, .ref k6, .int i0, .int i1])), (h1, aJ cJ 22 f2), (h2, aJ cJ 21 g57), (h3, aI cI 21 g65)] := by rw [eg65]; exact hD
              clear eg65
              refine lv_iload_n hx hb dX5_addLeading_66 rfl (lv_at hl 3 rfl) ?_
              refine lv_iconst (v := 1) hx hb dX5_addLeading_67 (by decide) ?_
              refine lv_iadd hx hb dX5_addLeading_68 ?_
              have hP9 : va_P G vwCl [(h0, .inr (5, [.ref k0, .ref k1, .ref k2, .ref k3, .ref k4, .ref h1, .ref h2, .ref h3, .ref k5, .ref k6, .int i0, .int i1])), (h1, aJ cJ 22 f2), (h2, aJ cJ 21 g57), (h3, aI cI 21 g65)] H := hP.sub [0, 1, 2, 3] rfl
              have hD9 : va_D A [(h0, .inr (5, [.ref k0, .ref k1, .ref k2, .ref k3, .ref k4, .ref h1, .ref h2, .ref h3, .ref k5, .ref k6, .int i0, .int i1])), (h1, aJ cJ 22 f2), (h2, aJ cJ 21 g57), (h3, aI cI 21 g65)] := hD.sub [0, 1, 2, 3] (by decide) rfl
              rw [← hQQ]
              exact W.iret (v := (p0 + 1)) hx hb hr (fun t ht hW => ⟨⟨_, (g57, g65), rfl, hwp, by rw [ht]; exact hP9, hD9⟩, hS.F ht⟩) hS.2.2 dX5_addLeading_69
            · replace hwp := hwp.2 c38
              refine lv_iload hx hb dX5_addLeading_41 (lv_at hl 0 rfl) ?_
              refine lv_istore (lv' := [(4, .int t20_1), (5, .int t20_1), (0, .ref h0), (1, .int p0), (2, .long p1)]) hx hb dX5_addLeading_43 hl (by decide) rfl (fun ls hl => ?_)
              refine lv_iinc (v := (t20_1 + 1)) (lv' := [(5, .int (t20_1 + 1)), (4, .int t20_1), (0, .ref h0), (1, .int p0), (2, .long p1)]) hx hb dX5_addLeading_45 hl (k := 1) rfl rfl (by decide) rfl (fun ls hl => ?_)
              refine lv_goto (tgt := 20) hx hb dX5_addLeading_48 (by decide) ?_
              replace hl : lv_has ls 6 [(5, .int (t20_1 + 1)), (4, .int t20_1), (0, .ref h0), (1, .int p0), (2, .long p1)] := lv_sub hl [0, 1, 2, 3, 4] rfl
              exact ih1 H locs ls t20_1 (t20_1 + 1) hwp hP hD hS hl
      exact hs1 n1 H locs ls 0 1 hwp hP hD hS hl
    · replace hwp := hwp.2 c9
      refine lv_iload_n hx hb dX5_addLeading_12 rfl (lv_at hl 1 rfl) ?_
      have hP9 : va_P G vwCl [(h0, .inr (5, [.ref k0, .ref k1, .ref k2, .ref k3, .ref k4, .ref h1, .ref h2, .ref h3, .ref k5, .ref k6, .int i0, .int i1])), (h1, aJ cJ 22 f2), (h2, aJ cJ 21 f3), (h3, aI cI 21 f4)] s.heap := hP.sub [0, 1, 2, 3] rfl
      have hD9 : va_D A [(h0, .inr (5, [.ref k0, .ref k1, .ref k2, .ref k3, .ref k4, .ref h1, .ref h2, .ref h3, .ref k5, .ref k6, .int i0, .int i1])), (h1, aJ cJ 22 f2), (h2, aJ cJ 21 f3), (h3, aI cI 21 f4)] := hD.sub [0, 1, 2, 3] (by decide) rfl
      rw [← hQQ]
      exact W.iret (v := p0) hx hb hr (fun t ht hW => ⟨⟨_, (f3, f4), rfl, hwp, by rw [ht]; exact hP9, hD9⟩, hS.F ht⟩) hS.2.2 dX5_addLeading_13
def wLX5_findLeading_60 (i0 : Int32) (i1 : Int32) (f3 : Nat → Int32) (f4 : Nat → Int64) (f5 : Nat → Int32) (f6 : Nat → Int64) (p0 : Int32) (p1 : Int32) (K : Int32 → ((Nat → Int64) × (Nat → Int32)) → Prop)  : Nat → (Nat → Int64) → (Nat → Int32) → Int32 → Int32 → Prop
  | 0, _, _, _, _ => False
  | n60 + 1, t60_0, t60_1, t60_2, t60_3 => ((p1 ≤ t60_3 → K t60_2 (t60_0, t60_1)) ∧ (¬ p1 ≤ t60_3 → (vp_in t60_3 21 ∧ ((¬ (f3 (Int32.toNatClampNeg t60_3)) = p0 → (wLX5_findLeading_60 i0 i1 f3 f4 f5 f6 p0 p1 K  n60) t60_0 t60_1 t60_2 (t60_3 + 1)) ∧ ((f3 (Int32.toNatClampNeg t60_3)) = p0 → (vp_in t60_3 21 ∧ (vp_in p0 21 ∧ (vp_in (f5 (Int32.toNatClampNeg p0)) 22 ∧ (wX5_addLeading i0 i1 f6 t60_0 t60_1 t60_2 ((f4 (Int32.toNatClampNeg t60_3)) &&& (f6 (Int32.toNatClampNeg (f5 (Int32.toNatClampNeg p0))))) (fun r98 u98 => (wLX5_findLeading_60 i0 i1 f3 f4 f5 f6 p0 p1 K  n60) (u98.1) (u98.2) r98 (t60_3 + 1)))))))))))
def wLX5_findLeading_60_1 (i0 : Int32) (i1 : Int32) (f3 : Nat → Int32) (f4 : Nat → Int64) (f5 : Nat → Int32) (f6 : Nat → Int64) (p0 : Int32) (p1 : Int32) (K : Int32 → ((Nat → Int64) × (Nat → Int32)) → Prop)  : Nat → (Nat → Int64) → (Nat → Int32) → Int32 → Int32 → Prop
  | 0, _, _, _, _ => False
  | n60 + 1, t60_0, t60_1, t60_2, t60_3 => ((p1 ≤ t60_3 → K t60_2 (t60_0, t60_1)) ∧ (¬ p1 ≤ t60_3 → (vp_in t60_3 21 ∧ ((¬ (f3 (Int32.toNatClampNeg t60_3)) = p0 → (wLX5_findLeading_60_1 i0 i1 f3 f4 f5 f6 p0 p1 K  n60) t60_0 t60_1 t60_2 (t60_3 + 1)) ∧ ((f3 (Int32.toNatClampNeg t60_3)) = p0 → (vp_in t60_3 21 ∧ (vp_in p0 21 ∧ (vp_in (f5 (Int32.toNatClampNeg p0)) 22 ∧ (wX5_addLeading i0 i1 f6 t60_0 t60_1 t60_2 ((f4 (Int32.toNatClampNeg t60_3)) &&& (f6 (Int32.toNatClampNeg (f5 (Int32.toNatClampNeg p0))))) (fun r98 u98 => (wLX5_findLeading_60_1 i0 i1 f3 f4 f5 f6 p0 p1 K  n60) (u98.1) (u98.2) r98 (t60_3 + 1)))))))))))
def wLX5_findLeading_16 (i0 : Int32) (i1 : Int32) (f2 : Nat → Int64) (f3 : Nat → Int32) (f4 : Nat → Int64) (f5 : Nat → Int32) (f6 : Nat → Int64) (p0 : Int32) (p1 : Int32) (K : Int32 → ((Nat → Int64) × (Nat → Int32)) → Prop)  : Nat → (Nat → Int64) → (Nat → Int32) → Int32 → Int32 → Prop
  | 0, _, _, _, _ => False
  | n16 + 1, t16_0, t16_1, t16_2, t16_3 => ((i0 ≤ t16_3 → (∃ n60, wLX5_findLeading_60_1 i0 i1 f3 f4 f5 f6 p0 p1 K  n60 t16_0 t16_1 t16_2 0)) ∧ (¬ i0 ≤ t16_3 → (vp_in p0 21 ∧ (((lg_cmp (((Int64.toUInt64 (f2 (Int32.toNatClampNeg p0)) >>> ((Int32.toInt64 t16_3).toUInt64 &&& Int64.toUInt64 63)).toInt64) &&& (1 : Int64)) (0 : Int64)) = 0 → (wLX5_findLeading_16 i0 i1 f2 f3 f4 f5 f6 p0 p1 K  n16) t16_0 t16_1 t16_2 (t16_3 + 1)) ∧ (¬ (lg_cmp (((Int64.toUInt64 (f2 (Int32.toNatClampNeg p0)) >>> ((Int32.toInt64 t16_3).toUInt64 &&& Int64.toUInt64 63)).toInt64) &&& (1 : Int64)) (0 : Int64)) = 0 → (wX5_addLeading i0 i1 f6 t16_0 t16_1 t16_2 ((1 : Int64) <<< (Int32.toInt64 t16_3 &&& 63)) (fun r47 u47 => (wLX5_findLeading_16 i0 i1 f2 f3 f4 f5 f6 p0 p1 K  n16) (u47.1) (u47.2) r47 (t16_3 + 1))))))))
def wX5_findLeading (i0 : Int32) (i1 : Int32) (f2 : Nat → Int64) (f3 : Nat → Int32) (f4 : Nat → Int64) (f5 : Nat → Int32) (f6 : Nat → Int64) (f7 : Nat → Int64) (f8 : Nat → Int32) (p0 : Int32) (p1 : Int32) (K : Int32 → ((Nat → Int64) × (Nat → Int32)) → Prop) : Prop := (vp_in p0 21 ∧ (((lg_cmp (f2 (Int32.toNatClampNeg p0)) (0 : Int64)) = 0 → (∃ n60, wLX5_findLeading_60 i0 i1 f3 f4 f5 f6 p0 p1 K  n60 f7 f8 0 0)) ∧ (¬ (lg_cmp (f2 (Int32.toNatClampNeg p0)) (0 : Int64)) = 0 → (∃ n16, wLX5_findLeading_16 i0 i1 f2 f3 f4 f5 f6 p0 p1 K  n16 f7 f8 0 0))))
set_option maxHeartbeats 4000000 in
set_option maxRecDepth 100000 in
theorem zX5_findLeading (l : Launch) (G : va_G) (cI cJ cZ : ClassId) (h0 h1 h2 h3 h4 h5 h6 h7 k0 k1 k2 sz : Nat) (i0 : Int32) (i1 : Int32) (f2 : Nat → Int64) (f3 : Nat → Int32) (f4 : Nat → Int64) (f5 : Nat → Int32) (f6 : Nat → Int64) (f7 : Nat → Int64) (f8 : Nat → Int32) (p0 : Int32) (p1 : Int32) (K : Int32 → ((Nat → Int64) × (Nat → Int32)) → Prop) (hwp : wX5_findLeading i0 i1 f2 f3 f4 f5 f6 f7 f8 p0 p1 K) : Met l yX5_findLeading (xw yX5_findLeading cX5_findLeading 5 (some .int)) ({ frames := 1, cells := 0, slots := 0, locals := 25 }) (xPc G cI cJ cZ [.ref h0, .int p0, .int p1] [(h0, .inr (5, [.ref h4, .ref h2, .ref k0, .ref h1, .ref h3, .ref h5, .ref h6, .ref h7, .ref k1, .ref k2, .int i0, .int i1])), (h1, aJ cJ 21 f2), (h2, aI cI 21 f3), (h3, aJ cJ 21 f4), (h4, aI cI 21 f5), (h5, aJ cJ 22 f6), (h6, aJ cJ 21 f7), (h7, aI cI 21 f8)] sz) (va_Qi (fun (r : Int32) (u : (Nat → Int64) × (Nat → Int32)) => K r u) (fun (u : (Nat → Int64) × (Nat → Int32)) t => xB G (va_A [(h0, .inr (5, [.ref h4, .ref h2, .ref k0, .ref h1, .ref h3, .ref h5, .ref h6, .ref h7, .ref k1, .ref k2, .int i0, .int i1])), (h1, aJ cJ 21 f2), (h2, aI cI 21 f3), (h3, aJ cJ 21 f4), (h4, aI cI 21 f5), (h5, aJ cJ 22 f6), (h6, aJ cJ 21 f7), (h7, aI cI 21 f8)] sz) [(h0, .inr (5, [.ref h4, .ref h2, .ref k0, .ref h1, .ref h3, .ref h5, .ref h6, .ref h7, .ref k1, .ref k2, .int i0, .int i1])), (h1, aJ cJ 21 f2), (h2, aI cI 21 f3), (h3, aJ cJ 21 f4), (h4, aI cI 21 f5), (h5, aJ cJ 22 f6), (h6, aJ cJ 21 u.1), (h7, aI cI 21 u.2)] t) (va_A [(h0, .inr (5, [.ref h4, .ref h2, .ref k0, .ref h1, .ref h3, .ref h5, .ref h6, .ref h7, .ref k1, .ref k2, .int i0, .int i1])), (h1, aJ cJ 21 f2), (h2, aI cI 21 f3), (h3, aJ cJ 21 f4), (h4, aI cI 21 f5), (h5, aJ cJ 22 f6), (h6, aJ cJ 21 f7), (h7, aI cI 21 f8)] sz)) 0 0 (va_A [(h0, .inr (5, [.ref h4, .ref h2, .ref k0, .ref h1, .ref h3, .ref h5, .ref h6, .ref h7, .ref k1, .ref k2, .int i0, .int i1])), (h1, aJ cJ 21 f2), (h2, aI cI 21 f3), (h3, aJ cJ 21 f4), (h4, aI cI 21 f5), (h5, aJ cJ 22 f6), (h6, aJ cJ 21 f7), (h7, aI cI 21 f8)] sz) := by
  refine Met.ofW (cc := cX5_findLeading) (maxL := 5) (ret := (some .int)) (by decide) rfl ?_
  intro p e s m args below meth c s₁ B hml hv
  obtain ⟨rfl, hsz, hP, hK, hD0, hN⟩ := hv
  have hx := B.exec
  have hb := B.bytes
  have hr := B.returns
  have hts : ∀ w ∈ xW, w.before _ s = true := fun w h => atoms_spec (ws := xw yX5_findLeading cX5_findLeading 5 (some .int)) B.pre w (List.mem_cons_of_mem _ h)
  have hown : s.vm.findClass RX5 = some m.cls := findClass_of_methodNamed B.named
  have hlocks := B.notSynchronized
  subst hsz
  have hD := hD0.self (sz := s.heap.size)
  clear hD0
  generalize hAe : va_A [(h0, .inr (5, [.ref h4, .ref h2, .ref k0, .ref h1, .ref h3, .ref h5, .ref h6, .ref h7, .ref k1, .ref k2, .int i0, .int i1])), (h1, aJ cJ 21 f2), (h2, aI cI 21 f3), (h3, aJ cJ 21 f4), (h4, aI cI 21 f5), (h5, aJ cJ 22 f6), (h6, aJ cJ 21 f7), (h7, aI cI 21 f8)] s.heap.size = A at hD ⊢
  have hA : ∀ q : Nat, s.heap.size ≤ q → A q := fun q h => by rw [← hAe]; exact Or.inr h
  clear hAe
  have hS : va_S A s.heap s.heap [] := va_S.rf
  replace hP : va_P G vwCl [(h0, .inr (5, [.ref h4, .ref h2, .ref k0, .ref h1, .ref h3, .ref h5, .ref h6, .ref h7, .ref k1, .ref k2, .int i0, .int i1])), (h1, aJ cJ 21 f2), (h2, aI cI 21 f3), (h3, aJ cJ 21 f4), (h4, aI cI 21 f5), (h5, aJ cJ 22 f6), (h6, aJ cJ 21 f7), (h7, aI cI 21 f8)] s.heap := hP
  have hl := lv_entry ([.ref h0, .int p0, .int p1]) (n := 5) (Nat.le_of_ble_eq_true rfl)
  rw [lg_entry_eq]
  generalize (lg_sl ([.ref h0, .int p0, .int p1]) ++ List.replicate (5 - (lg_sl ([.ref h0, .int p0, .int p1])).length) Slot.unset).toArray = ls at hl ⊢
  replace hl : lv_has ls 5 [(0, .ref h0), (1, .int p0), (2, .int p1)] := hl
  generalize hQQ : MQ below _ _ s 0 0 _ = QQ
  skip
  unfold wX5_findLeading at hwp
  refine lv_iconst (v := 0) hx hb dX5_findLeading_0 (by decide) ?_
  refine lv_istore_n (lv' := [(3, .int 0), (0, .ref h0), (1, .int p0), (2, .int p1)]) hx hb dX5_findLeading_1 rfl hl (by decide) rfl (fun ls hl => ?_)
  refine lv_aload_n hx hb dX5_findLeading_2 rfl (lv_at hl 1 rfl) ?_
  refine va_get (D := G) (ci := 5) (v := .ref h1) (C := RX5) (T := TX5) (N := 12) hx hb hts xinX5 hown hK hP 0 rfl rfl 3 (by decide) (hts _ wo_97) (fun _ h9 => h9) rfl dX5_findLeading_3 ?_
  refine lv_iload_n hx hb dX5_findLeading_6 rfl (lv_at hl 2 rfl) ?_
  obtain ⟨hi, hwp⟩ := hwp
  refine va_lald hx hb hK hP 1 1 rfl rfl hi dX5_findLeading_7 ?_
  refine lv_lconst (v := 0) hx hb dX5_findLeading_8 rfl ?_
  refine W.lcmp hx hb dX5_findLeading_9 ?_
  refine lv_if_eq (tgt := 57) hx hb dX5_findLeading_10 (by decide) (fun c10 => ?_) (fun c10 => ?_)
  · replace hwp := hwp.1 c10
    refine lv_iconst (v := 0) hx hb dX5_findLeading_57 (by decide) ?_
    refine lv_istore (lv' := [(4, .int 0), (3, .int 0), (0, .ref h0), (1, .int p0), (2, .int p1)]) hx hb dX5_findLeading_58 hl (by decide) rfl (fun ls hl => ?_)
    refine xgen (Pp := fun H locs => W p l e _ s m _ below meth c H locs _ _ _ _) (fun H locs hP hD hS => ?_) hP hD hS
    replace hl : lv_has ls 5 [(4, .int 0), (3, .int 0), (0, .ref h0), (1, .int p0), (2, .int p1)] := lv_sub hl [0, 1, 2, 3, 4] rfl
    obtain ⟨n1, hwp⟩ := hwp
    have hs1 : ∀ (n1 : Nat) (H : Heap) (locs : List Loc) (ls : Array Slot) (t60_0 : Nat → Int64) (t60_1 : Nat → Int32) (t60_2 : Int32) (t60_3 : Int32), wLX5_findLeading_60 i0 i1 f3 f4 f5 f6 p0 p1 K  n1 t60_0 t60_1 t60_2 t60_3 → va_P G vwCl [(h0, .inr (5, [.ref h4, .ref h2, .ref k0, .ref h1, .ref h3, .ref h5, .ref h6, .ref h7, .ref k1, .ref k2, .int i0, .int i1])), (h1, aJ cJ 21 f2), (h2, aI cI 21 f3), (h3, aJ cJ 21 f4), (h4, aI cI 21 f5), (h5, aJ cJ 22 f6), (h6, aJ cJ 21 t60_0), (h7, aI cI 21 t60_1)] H → va_D A [(h0, .inr (5, [.ref h4, .ref h2, .ref k0, .ref h1, .ref h3, .ref h5, .ref h6, .ref h7, .ref k1, .ref k2, .int i0, .int i1])), (h1, aJ cJ 21 f2), (h2, aI cI 21 f3), (h3, aJ cJ 21 f4), (h4, aI cI 21 f5), (h5, aJ cJ 22 f6), (h6, aJ cJ 21 t60_0), (h7, aI cI 21 t60_1)] → va_S A s.heap H locs → lv_has ls 5 [(4, .int t60_3), (3, .int t60_2), (0, .ref h0), (1, .int p0), (2, .int p1)] → W p l e ((headSpec (xw yX5_findLeading cX5_findLeading 5 (some .int)) { frames := 1, cells := 0, slots := 0, locals := 25 }).room) s m ([.ref h0, .int p0, .int p1] : List Value).toArray below meth c H locs 0 0 QQ (F0 m 60 ls []) := by
      intro n1
      induction n1 with
      | zero => intro H locs ls t60_0 t60_1 t60_2 t60_3 hwp; exact False.elim hwp
      | succ n1 ih1 =>
        intro H locs ls t60_0 t60_1 t60_2 t60_3 hwp hP hD hS hl
        rw [wLX5_findLeading_60] at hwp
        refine lv_iload hx hb dX5_findLeading_60 (lv_at hl 0 rfl) ?_
        refine lv_iload_n hx hb dX5_findLeading_62 rfl (lv_at hl 4 rfl) ?_
        refine lv_icmp_ge (tgt := 108) hx hb dX5_findLeading_63 (by decide) (fun c63 => ?_) (fun c63 => ?_)
        · replace hwp := hwp.1 c63
          refine lv_iload_n hx hb dX5_findLeading_108 rfl (lv_at hl 1 rfl) ?_
          have hP9 : va_P G vwCl [(h0, .inr (5, [.ref h4, .ref h2, .ref k0, .ref h1, .ref h3, .ref h5, .ref h6, .ref h7, .ref k1, .ref k2, .int i0, .int i1])), (h1, aJ cJ 21 f2), (h2, aI cI 21 f3), (h3, aJ cJ 21 f4), (h4, aI cI 21 f5), (h5, aJ cJ 22 f6), (h6, aJ cJ 21 t60_0), (h7, aI cI 21 t60_1)] H := hP.sub [0, 1, 2, 3, 4, 5, 6, 7] rfl
          have hD9 : va_D A [(h0, .inr (5, [.ref h4, .ref h2, .ref k0, .ref h1, .ref h3, .ref h5, .ref h6, .ref h7, .ref k1, .ref k2, .int i0, .int i1])), (h1, aJ cJ 21 f2), (h2, aI cI 21 f3), (h3, aJ cJ 21 f4), (h4, aI cI 21 f5), (h5, aJ cJ 22 f6), (h6, aJ cJ 21 t60_0), (h7, aI cI 21 t60_1)] := hD.sub [0, 1, 2, 3, 4, 5, 6, 7] (by decide) rfl
          rw [← hQQ]
          exact W.iret (v := t60_2) hx hb hr (fun t ht hW => ⟨⟨_, (t60_0, t60_1), rfl, hwp, by rw [ht]; exact hP9, hD9⟩, hS.F ht⟩) hS.2.2 dX5_findLeading_109
        · replace hwp := hwp.2 c63
          refine lv_aload_n hx hb dX5_findLeading_66 rfl (lv_at hl 2 rfl) ?_
          refine va_get (D := G) (ci := 5) (v := .ref h2) (C := RX5) (T := TX5) (N := 12) hx hb hts xinX5 hown hK hP 0 rfl rfl 1 (by decide) (hts _ wo_100) (fun _ h9 => h9) rfl dX5_findLeading_67 ?_
          refine lv_iload hx hb dX5_findLeading_70 (lv_at hl 0 rfl) ?_
          obtain ⟨hi, hwp⟩ := hwp
          refine va_iald hx hb hK hP 2 0 rfl rfl hi dX5_findLeading_72 ?_
          refine lv_iload_n hx hb dX5_findLeading_73 rfl (lv_at hl 3 rfl) ?_
          refine lv_icmp_ne (tgt := 102) hx hb dX5_findLeading_74 (by decide) (fun c74 => ?_) (fun c74 => ?_)
          · replace hwp := hwp.1 c74
            refine lv_iinc (v := (t60_3 + 1)) (lv' := [(4, .int (t60_3 + 1)), (3, .int t60_2), (0, .ref h0), (1, .int p0), (2, .int p1)]) hx hb dX5_findLeading_102 hl (k := 0) rfl rfl (by decide) rfl (fun ls hl => ?_)
            refine lv_goto (tgt := 60) hx hb dX5_findLeading_105 (by decide) ?_
            replace hl : lv_has ls 5 [(4, .int (t60_3 + 1)), (3, .int t60_2), (0, .ref h0), (1, .int p0), (2, .int p1)] := lv_sub hl [0, 1, 2, 3, 4] rfl
            exact ih1 H locs ls t60_0 t60_1 t60_2 (t60_3 + 1) hwp hP hD hS hl
          · replace hwp := hwp.2 c74
            refine lv_aload_n hx hb dX5_findLeading_77 rfl (lv_at hl 2 rfl) ?_
            refine lv_iload_n hx hb dX5_findLeading_78 rfl (lv_at hl 1 rfl) ?_
            refine lv_aload_n hx hb dX5_findLeading_79 rfl (lv_at hl 2 rfl) ?_
            refine va_get (D := G) (ci := 5) (v := .ref h3) (C := RX5) (T := TX5) (N := 12) hx hb hts xinX5 hown hK hP 0 rfl rfl 4 (by decide) (hts _ wo_99) (fun _ h9 => h9) rfl dX5_findLeading_80 ?_
            refine lv_iload hx hb dX5_findLeading_83 (lv_at hl 0 rfl) ?_
            obtain ⟨hi, hwp⟩ := hwp
            refine va_lald hx hb hK hP 3 1 rfl rfl hi dX5_findLeading_85 ?_
            refine lv_aload_n hx hb dX5_findLeading_86 rfl (lv_at hl 2 rfl) ?_
            refine va_get (D := G) (ci := 5) (v := .ref h5) (C := RX5) (T := TX5) (N := 12) hx hb hts xinX5 hown hK hP 0 rfl rfl 5 (by decide) (hts _ wo_98) (fun _ h9 => h9) rfl dX5_findLeading_87 ?_
            refine lv_aload_n hx hb dX5_findLeading_90 rfl (lv_at hl 2 rfl) ?_
            refine va_get (D := G) (ci := 5) (v := .ref h4) (C := RX5) (T := TX5) (N := 12) hx hb hts xinX5 hown hK hP 0 rfl rfl 0 (by decide) (hts _ wo_101) (fun _ h9 => h9) rfl dX5_findLeading_91 ?_
            refine lv_iload_n hx hb dX5_findLeading_94 rfl (lv_at hl 3 rfl) ?_
            obtain ⟨hi, hwp⟩ := hwp
            refine va_iald hx hb hK hP 4 0 rfl rfl hi dX5_findLeading_95 ?_
            obtain ⟨hi, hwp⟩ := hwp
            refine va_lald hx hb hK hP 5 1 rfl rfl hi dX5_findLeading_96 ?_
            refine lv_land hx hb dX5_findLeading_97 ?_
            refine xci (wr := [(h1, aJ cJ 21 f2), (h2, aI cI 21 f3), (h3, aJ cJ 21 f4), (h4, aI cI 21 f5)]) (va_runV (As := [.int t60_2, .long ((f4 (Int32.toNatClampNeg t60_3)) &&& (f6 (Int32.toNatClampNeg (f5 (Int32.toNatClampNeg p0)))))]) (rest := []) ⟨hx, hb, hml, hown, hts⟩ (zX5_addLeading l G cI cJ cZ h0 h5 h6 h7 h4 h2 k0 h1 h3 k1 k2 H.size i0 i1 f6 t60_0 t60_1 t60_2 ((f4 (Int32.toNatClampNeg t60_3)) &&& (f6 (Int32.toNatClampNeg (f5 (Int32.toNatClampNeg p0))))) _ hwp) (cwV 2 hts (xgoodV wo_114 wo_115 wo_116 wo_117 wo_107) rfl rfl rfl (by decide +kernel) ⟨Nat.le_of_ble_eq_true rfl, Nat.le_of_ble_eq_true rfl⟩) (xPreV (q := (RX5, TX5, 12)) (q0 := 0) hK hN hP hD [0, 5, 6, 7] (by decide) rfl rfl rfl) rfl rfl hl.1 rfl (lv_room (Nat.le_of_ble_eq_true rfl)) dX5_findLeading_98 ⟨Nat.le_of_ble_eq_true rfl, Nat.le_of_ble_eq_true rfl⟩) hP hD hS hA [0, 5, 6, 7] [1, 2, 3, 4] rfl rfl (by decide) (by decide) (fun r98 u98 H locs hwp hP hD hS => ?_)
            replace hP : va_P G vwCl [(h1, aJ cJ 21 f2), (h2, aI cI 21 f3), (h3, aJ cJ 21 f4), (h4, aI cI 21 f5), (h0, .inr (5, [.ref h4, .ref h2, .ref k0, .ref h1, .ref h3, .ref h5, .ref h6, .ref h7, .ref k1, .ref k2, .int i0, .int i1])), (h5, aJ cJ 22 f6), (h6, aJ cJ 21 u98.1), (h7, aI cI 21 u98.2)] H := hP
            replace hD : va_D A [(h1, aJ cJ 21 f2), (h2, aI cI 21 f3), (h3, aJ cJ 21 f4), (h4, aI cI 21 f5), (h0, .inr (5, [.ref h4, .ref h2, .ref k0, .ref h1, .ref h3, .ref h5, .ref h6, .ref h7, .ref k1, .ref k2, .int i0, .int i1])), (h5, aJ cJ 22 f6), (h6, aJ cJ 21 u98.1), (h7, aI cI 21 u98.2)] := hD
            refine lv_istore_n (lv' := [(3, .int r98), (4, .int t60_3), (0, .ref h0), (1, .int p0), (2, .int p1)]) hx hb dX5_findLeading_101 rfl hl (by decide) rfl (fun ls hl => ?_)
            refine lv_iinc (v := (t60_3 + 1)) (lv' := [(4, .int (t60_3 + 1)), (3, .int r98), (0, .ref h0), (1, .int p0), (2, .int p1)]) hx hb dX5_findLeading_102 hl (k := 1) rfl rfl (by decide) rfl (fun ls hl => ?_)
            refine lv_goto (tgt := 60) hx hb dX5_findLeading_105 (by decide) ?_
            replace hl : lv_has ls 5 [(4, .int (t60_3 + 1)), (3, .int r98), (0, .ref h0), (1, .int p0), (2, .int p1)] := lv_sub hl [0, 1, 2, 3, 4] rfl
            replace hP : va_P G vwCl [(h0, .inr (5, [.ref h4, .ref h2, .ref k0, .ref h1, .ref h3, .ref h5, .ref h6, .ref h7, .ref k1, .ref k2, .int i0, .int i1])), (h1, aJ cJ 21 f2), (h2, aI cI 21 f3), (h3, aJ cJ 21 f4), (h4, aI cI 21 f5), (h5, aJ cJ 22 f6), (h6, aJ cJ 21 u98.1), (h7, aI cI 21 u98.2)] H := hP.sub [4, 0, 1, 2, 3, 5, 6, 7] rfl
            replace hD : va_D A [(h0, .inr (5, [.ref h4, .ref h2, .ref k0, .ref h1, .ref h3, .ref h5, .ref h6, .ref h7, .ref k1, .ref k2, .int i0, .int i1])), (h1, aJ cJ 21 f2), (h2, aI cI 21 f3), (h3, aJ cJ 21 f4), (h4, aI cI 21 f5), (h5, aJ cJ 22 f6), (h6, aJ cJ 21 u98.1), (h7, aI cI 21 u98.2)] := hD.sub [4, 0, 1, 2, 3, 5, 6, 7] (by decide) rfl
            exact ih1 H locs ls (u98.1) (u98.2) r98 (t60_3 + 1) hwp hP hD hS hl
    exact hs1 n1 H locs ls f7 f8 0 0 hwp hP hD hS hl
  · replace hwp := hwp.2 c10
    refine lv_iconst (v := 0) hx hb dX5_findLeading_13 (by decide) ?_
    refine lv_istore (lv' := [(4, .int 0), (3, .int 0), (0, .ref h0), (1, .int p0), (2, .int p1)]) hx hb dX5_findLeading_14 hl (by decide) rfl (fun ls hl => ?_)
    refine xgen (Pp := fun H locs => W p l e _ s m _ below meth c H locs _ _ _ _) (fun H locs hP hD hS => ?_) hP hD hS
    replace hl : lv_has ls 5 [(4, .int 0), (3, .int 0), (0, .ref h0), (1, .int p0), (2, .int p1)] := lv_sub hl [0, 1, 2, 3, 4] rfl
    obtain ⟨n2, hwp⟩ := hwp
    have hs2 : ∀ (n2 : Nat) (H : Heap) (locs : List Loc) (ls : Array Slot) (t16_0 : Nat → Int64) (t16_1 : Nat → Int32) (t16_2 : Int32) (t16_3 : Int32), wLX5_findLeading_16 i0 i1 f2 f3 f4 f5 f6 p0 p1 K  n2 t16_0 t16_1 t16_2 t16_3 → va_P G vwCl [(h0, .inr (5, [.ref h4, .ref h2, .ref k0, .ref h1, .ref h3, .ref h5, .ref h6, .ref h7, .ref k1, .ref k2, .int i0, .int i1])), (h1, aJ cJ 21 f2), (h2, aI cI 21 f3), (h3, aJ cJ 21 f4), (h4, aI cI 21 f5), (h5, aJ cJ 22 f6), (h6, aJ cJ 21 t16_0), (h7, aI cI 21 t16_1)] H → va_D A [(h0, .inr (5, [.ref h4, .ref h2, .ref k0, .ref h1, .ref h3, .ref h5, .ref h6, .ref h7, .ref k1, .ref k2, .int i0, .int i1])), (h1, aJ cJ 21 f2), (h2, aI cI 21 f3), (h3, aJ cJ 21 f4), (h4, aI cI 21 f5), (h5, aJ cJ 22 f6), (h6, aJ cJ 21 t16_0), (h7, aI cI 21 t16_1)] → va_S A s.heap H locs → lv_has ls 5 [(4, .int t16_3), (3, .int t16_2), (0, .ref h0), (1, .int p0), (2, .int p1)] → W p l e ((headSpec (xw yX5_findLeading cX5_findLeading 5 (some .int)) { frames := 1, cells := 0, slots := 0, locals := 25 }).room) s m ([.ref h0, .int p0, .int p1] : List Value).toArray below meth c H locs 0 0 QQ (F0 m 16 ls []) := by
      intro n2
      induction n2 with
      | zero => intro H locs ls t16_0 t16_1 t16_2 t16_3 hwp; exact False.elim hwp
      | succ n2 ih2 =>
        intro H locs ls t16_0 t16_1 t16_2 t16_3 hwp hP hD hS hl
        rw [wLX5_findLeading_16] at hwp
        refine lv_iload hx hb dX5_findLeading_16 (lv_at hl 0 rfl) ?_
        refine lv_aload_n hx hb dX5_findLeading_18 rfl (lv_at hl 2 rfl) ?_
        refine va_get (D := G) (ci := 5) (v := .int i0) (C := RX5) (T := TX5) (N := 12) hx hb hts xinX5 hown hK hP 0 rfl rfl 10 (by decide) (hts _ wo_96) (fun _ h9 => h9) rfl dX5_findLeading_19 ?_
        refine lv_icmp_ge (tgt := 57) hx hb dX5_findLeading_22 (by decide) (fun c22 => ?_) (fun c22 => ?_)
        · replace hwp := hwp.1 c22
          refine lv_iconst (v := 0) hx hb dX5_findLeading_57 (by decide) ?_
          refine lv_istore (lv' := [(4, .int 0), (3, .int t16_2), (0, .ref h0), (1, .int p0), (2, .int p1)]) hx hb dX5_findLeading_58 hl (by decide) rfl (fun ls hl => ?_)
          replace hl : lv_has ls 5 [(4, .int 0), (3, .int t16_2), (0, .ref h0), (1, .int p0), (2, .int p1)] := lv_sub hl [0, 1, 2, 3, 4] rfl
          obtain ⟨n3, hwp⟩ := hwp
          have hs3 : ∀ (n3 : Nat) (H : Heap) (locs : List Loc) (ls : Array Slot) (t60_0 : Nat → Int64) (t60_1 : Nat → Int32) (t60_2 : Int32) (t60_3 : Int32), wLX5_findLeading_60_1 i0 i1 f3 f4 f5 f6 p0 p1 K  n3 t60_0 t60_1 t60_2 t60_3 → va_P G vwCl [(h0, .inr (5, [.ref h4, .ref h2, .ref k0, .ref h1, .ref h3, .ref h5, .ref h6, .ref h7, .ref k1, .ref k2, .int i0, .int i1])), (h1, aJ cJ 21 f2), (h2, aI cI 21 f3), (h3, aJ cJ 21 f4), (h4, aI cI 21 f5), (h5, aJ cJ 22 f6), (h6, aJ cJ 21 t60_0), (h7, aI cI 21 t60_1)] H → va_D A [(h0, .inr (5, [.ref h4, .ref h2, .ref k0, .ref h1, .ref h3, .ref h5, .ref h6, .ref h7, .ref k1, .ref k2, .int i0, .int i1])), (h1, aJ cJ 21 f2), (h2, aI cI 21 f3), (h3, aJ cJ 21 f4), (h4, aI cI 21 f5), (h5, aJ cJ 22 f6), (h6, aJ cJ 21 t60_0), (h7, aI cI 21 t60_1)] → va_S A s.heap H locs → lv_has ls 5 [(4, .int t60_3), (3, .int t60_2), (0, .ref h0), (1, .int p0), (2, .int p1)] → W p l e ((headSpec (xw yX5_findLeading cX5_findLeading 5 (some .int)) { frames := 1, cells := 0, slots := 0, locals := 25 }).room) s m ([.ref h0, .int p0, .int p1] : List Value).toArray below meth c H locs 0 0 QQ (F0 m 60 ls []) := by
            intro n3
            induction n3 with
            | zero => intro H locs ls t60_0 t60_1 t60_2 t60_3 hwp; exact False.elim hwp
            | succ n3 ih3 =>
              intro H locs ls t60_0 t60_1 t60_2 t60_3 hwp hP hD hS hl
              rw [wLX5_findLeading_60_1] at hwp
              refine lv_iload hx hb dX5_findLeading_60 (lv_at hl 0 rfl) ?_
              refine lv_iload_n hx hb dX5_findLeading_62 rfl (lv_at hl 4 rfl) ?_
              refine lv_icmp_ge (tgt := 108) hx hb dX5_findLeading_63 (by decide) (fun c63 => ?_) (fun c63 => ?_)
              · replace hwp := hwp.1 c63
                refine lv_iload_n hx hb dX5_findLeading_108 rfl (lv_at hl 1 rfl) ?_
                have hP9 : va_P G vwCl [(h0, .inr (5, [.ref h4, .ref h2, .ref k0, .ref h1, .ref h3, .ref h5, .ref h6, .ref h7, .ref k1, .ref k2, .int i0, .int i1])), (h1, aJ cJ 21 f2), (h2, aI cI 21 f3), (h3, aJ cJ 21 f4), (h4, aI cI 21 f5), (h5, aJ cJ 22 f6), (h6, aJ cJ 21 t60_0), (h7, aI cI 21 t60_1)] H := hP.sub [0, 1, 2, 3, 4, 5, 6, 7] rfl
                have hD9 : va_D A [(h0, .inr (5, [.ref h4, .ref h2, .ref k0, .ref h1, .ref h3, .ref h5, .ref h6, .ref h7, .ref k1, .ref k2, .int i0, .int i1])), (h1, aJ cJ 21 f2), (h2, aI cI 21 f3), (h3, aJ cJ 21 f4), (h4, aI cI 21 f5), (h5, aJ cJ 22 f6), (h6, aJ cJ 21 t60_0), (h7, aI cI 21 t60_1)] := hD.sub [0, 1, 2, 3, 4, 5, 6, 7] (by decide) rfl
                rw [← hQQ]
                exact W.iret (v := t60_2) hx hb hr (fun t ht hW => ⟨⟨_, (t60_0, t60_1), rfl, hwp, by rw [ht]; exact hP9, hD9⟩, hS.F ht⟩) hS.2.2 dX5_findLeading_109
              · replace hwp := hwp.2 c63
                refine lv_aload_n hx hb dX5_findLeading_66 rfl (lv_at hl 2 rfl) ?_
                refine va_get (D := G) (ci := 5) (v := .ref h2) (C := RX5) (T := TX5) (N := 12) hx hb hts xinX5 hown hK hP 0 rfl rfl 1 (by decide) (hts _ wo_100) (fun _ h9 => h9) rfl dX5_findLeading_67 ?_
                refine lv_iload hx hb dX5_findLeading_70 (lv_at hl 0 rfl) ?_
                obtain ⟨hi, hwp⟩ := hwp
                refine va_iald hx hb hK hP 2 0 rfl rfl hi dX5_findLeading_72 ?_
                refine lv_iload_n hx hb dX5_findLeading_73 rfl (lv_at hl 3 rfl) ?_
                refine lv_icmp_ne (tgt := 102) hx hb dX5_findLeading_74 (by decide) (fun c74 => ?_) (fun c74 => ?_)
                · replace hwp := hwp.1 c74
                  refine lv_iinc (v := (t60_3 + 1)) (lv' := [(4, .int (t60_3 + 1)), (3, .int t60_2), (0, .ref h0), (1, .int p0), (2, .int p1)]) hx hb dX5_findLeading_102 hl (k := 0) rfl rfl (by decide) rfl (fun ls hl => ?_)
                  refine lv_goto (tgt := 60) hx hb dX5_findLeading_105 (by decide) ?_
                  replace hl : lv_has ls 5 [(4, .int (t60_3 + 1)), (3, .int t60_2), (0, .ref h0), (1, .int p0), (2, .int p1)] := lv_sub hl [0, 1, 2, 3, 4] rfl
                  exact ih3 H locs ls t60_0 t60_1 t60_2 (t60_3 + 1) hwp hP hD hS hl
                · replace hwp := hwp.2 c74
                  refine lv_aload_n hx hb dX5_findLeading_77 rfl (lv_at hl 2 rfl) ?_
                  refine lv_iload_n hx hb dX5_findLeading_78 rfl (lv_at hl 1 rfl) ?_
                  refine lv_aload_n hx hb dX5_findLeading_79 rfl (lv_at hl 2 rfl) ?_
                  refine va_get (D := G) (ci := 5) (v := .ref h3) (C := RX5) (T := TX5) (N := 12) hx hb hts xinX5 hown hK hP 0 rfl rfl 4 (by decide) (hts _ wo_99) (fun _ h9 => h9) rfl dX5_findLeading_80 ?_
                  refine lv_iload hx hb dX5_findLeading_83 (lv_at hl 0 rfl) ?_
                  obtain ⟨hi, hwp⟩ := hwp
                  refine va_lald hx hb hK hP 3 1 rfl rfl hi dX5_findLeading_85 ?_
                  refine lv_aload_n hx hb dX5_findLeading_86 rfl (lv_at hl 2 rfl) ?_
                  refine va_get (D := G) (ci := 5) (v := .ref h5) (C := RX5) (T := TX5) (N := 12) hx hb hts xinX5 hown hK hP 0 rfl rfl 5 (by decide) (hts _ wo_98) (fun _ h9 => h9) rfl dX5_findLeading_87 ?_
                  refine lv_aload_n hx hb dX5_findLeading_90 rfl (lv_at hl 2 rfl) ?_
                  refine va_get (D := G) (ci := 5) (v := .ref h4) (C := RX5) (T := TX5) (N := 12) hx hb hts xinX5 hown hK hP 0 rfl rfl 0 (by decide) (hts _ wo_101) (fun _ h9 => h9) rfl dX5_findLeading_91 ?_
                  refine lv_iload_n hx hb dX5_findLeading_94 rfl (lv_at hl 3 rfl) ?_
                  obtain ⟨hi, hwp⟩ := hwp
                  refine va_iald hx hb hK hP 4 0 rfl rfl hi dX5_findLeading_95 ?_
                  obtain ⟨hi, hwp⟩ := hwp
                  refine va_lald hx hb hK hP 5 1 rfl rfl hi dX5_findLeading_96 ?_
                  refine lv_land hx hb dX5_findLeading_97 ?_
                  refine xci (wr := [(h1, aJ cJ 21 f2), (h2, aI cI 21 f3), (h3, aJ cJ 21 f4), (h4, aI cI 21 f5)]) (va_runV (As := [.int t60_2, .long ((f4 (Int32.toNatClampNeg t60_3)) &&& (f6 (Int32.toNatClampNeg (f5 (Int32.toNatClampNeg p0)))))]) (rest := []) ⟨hx, hb, hml, hown, hts⟩ (zX5_addLeading l G cI cJ cZ h0 h5 h6 h7 h4 h2 k0 h1 h3 k1 k2 H.size i0 i1 f6 t60_0 t60_1 t60_2 ((f4 (Int32.toNatClampNeg t60_3)) &&& (f6 (Int32.toNatClampNeg (f5 (Int32.toNatClampNeg p0))))) _ hwp) (cwV 2 hts (xgoodV wo_114 wo_115 wo_116 wo_117 wo_107) rfl rfl rfl (by decide +kernel) ⟨Nat.le_of_ble_eq_true rfl, Nat.le_of_ble_eq_true rfl⟩) (xPreV (q := (RX5, TX5, 12)) (q0 := 0) hK hN hP hD [0, 5, 6, 7] (by decide) rfl rfl rfl) rfl rfl hl.1 rfl (lv_room (Nat.le_of_ble_eq_true rfl)) dX5_findLeading_98 ⟨Nat.le_of_ble_eq_true rfl, Nat.le_of_ble_eq_true rfl⟩) hP hD hS hA [0, 5, 6, 7] [1, 2, 3, 4] rfl rfl (by decide) (by decide) (fun r98 u98 H locs hwp hP hD hS => ?_)
                  replace hP : va_P G vwCl [(h1, aJ cJ 21 f2), (h2, aI cI 21 f3), (h3, aJ cJ 21 f4), (h4, aI cI 21 f5), (h0, .inr (5, [.ref h4, .ref h2, .ref k0, .ref h1, .ref h3, .ref h5, .ref h6, .ref h7, .ref k1, .ref k2, .int i0, .int i1])), (h5, aJ cJ 22 f6), (h6, aJ cJ 21 u98.1), (h7, aI cI 21 u98.2)] H := hP
                  replace hD : va_D A [(h1, aJ cJ 21 f2), (h2, aI cI 21 f3), (h3, aJ cJ 21 f4), (h4, aI cI 21 f5), (h0, .inr (5, [.ref h4, .ref h2, .ref k0, .ref h1, .ref h3, .ref h5, .ref h6, .ref h7, .ref k1, .ref k2, .int i0, .int i1])), (h5, aJ cJ 22 f6), (h6, aJ cJ 21 u98.1), (h7, aI cI 21 u98.2)] := hD
                  refine lv_istore_n (lv' := [(3, .int r98), (4, .int t60_3), (0, .ref h0), (1, .int p0), (2, .int p1)]) hx hb dX5_findLeading_101 rfl hl (by decide) rfl (fun ls hl => ?_)
                  refine lv_iinc (v := (t60_3 + 1)) (lv' := [(4, .int (t60_3 + 1)), (3, .int r98), (0, .ref h0), (1, .int p0), (2, .int p1)]) hx hb dX5_findLeading_102 hl (k := 1) rfl rfl (by decide) rfl (fun ls hl => ?_)
                  refine lv_goto (tgt := 60) hx hb dX5_findLeading_105 (by decide) ?_
                  replace hl : lv_has ls 5 [(4, .int (t60_3 + 1)), (3, .int r98), (0, .ref h0), (1, .int p0), (2, .int p1)] := lv_sub hl [0, 1, 2, 3, 4] rfl
                  replace hP : va_P G vwCl [(h0, .inr (5, [.ref h4, .ref h2, .ref k0, .ref h1, .ref h3, .ref h5, .ref h6, .ref h7, .ref k1, .ref k2, .int i0, .int i1])), (h1, aJ cJ 21 f2), (h2, aI cI 21 f3), (h3, aJ cJ 21 f4), (h4, aI cI 21 f5), (h5, aJ cJ 22 f6), (h6, aJ cJ 21 u98.1), (h7, aI cI 21 u98.2)] H := hP.sub [4, 0, 1, 2, 3, 5, 6, 7] rfl
                  replace hD : va_D A [(h0, .inr (5, [.ref h4, .ref h2, .ref k0, .ref h1, .ref h3, .ref h5, .ref h6, .ref h7, .ref k1, .ref k2, .int i0, .int i1])), (h1, aJ cJ 21 f2), (h2, aI cI 21 f3), (h3, aJ cJ 21 f4), (h4, aI cI 21 f5), (h5, aJ cJ 22 f6), (h6, aJ cJ 21 u98.1), (h7, aI cI 21 u98.2)] := hD.sub [4, 0, 1, 2, 3, 5, 6, 7] (by decide) rfl
                  exact ih3 H locs ls (u98.1) (u98.2) r98 (t60_3 + 1) hwp hP hD hS hl
          exact hs3 n3 H locs ls t16_0 t16_1 t16_2 0 hwp hP hD hS hl
        · replace hwp := hwp.2 c22
          refine lv_aload_n hx hb dX5_findLeading_25 rfl (lv_at hl 2 rfl) ?_
          refine va_get (D := G) (ci := 5) (v := .ref h1) (C := RX5) (T := TX5) (N := 12) hx hb hts xinX5 hown hK hP 0 rfl rfl 3 (by decide) (hts _ wo_97) (fun _ h9 => h9) rfl dX5_findLeading_26 ?_
          refine lv_iload_n hx hb dX5_findLeading_29 rfl (lv_at hl 3 rfl) ?_
          obtain ⟨hi, hwp⟩ := hwp
          refine va_lald hx hb hK hP 1 1 rfl rfl hi dX5_findLeading_30 ?_
          refine lv_iload hx hb dX5_findLeading_31 (lv_at hl 0 rfl) ?_
          refine lv_lushr (v := ((Int64.toUInt64 (f2 (Int32.toNatClampNeg p0)) >>> ((Int32.toInt64 t16_3).toUInt64 &&& Int64.toUInt64 63)).toInt64)) hx hb dX5_findLeading_33 rfl ?_
          refine lv_lconst (v := 1) hx hb dX5_findLeading_34 rfl ?_
          refine lv_land hx hb dX5_findLeading_35 ?_
          refine lv_lconst (v := 0) hx hb dX5_findLeading_36 rfl ?_
          refine W.lcmp hx hb dX5_findLeading_37 ?_
          refine lv_if_eq (tgt := 51) hx hb dX5_findLeading_38 (by decide) (fun c38 => ?_) (fun c38 => ?_)
          · replace hwp := hwp.1 c38
            refine lv_iinc (v := (t16_3 + 1)) (lv' := [(4, .int (t16_3 + 1)), (3, .int t16_2), (0, .ref h0), (1, .int p0), (2, .int p1)]) hx hb dX5_findLeading_51 hl (k := 0) rfl rfl (by decide) rfl (fun ls hl => ?_)
            refine lv_goto (tgt := 16) hx hb dX5_findLeading_54 (by decide) ?_
            replace hl : lv_has ls 5 [(4, .int (t16_3 + 1)), (3, .int t16_2), (0, .ref h0), (1, .int p0), (2, .int p1)] := lv_sub hl [0, 1, 2, 3, 4] rfl
            exact ih2 H locs ls t16_0 t16_1 t16_2 (t16_3 + 1) hwp hP hD hS hl
          · replace hwp := hwp.2 c38
            refine lv_aload_n hx hb dX5_findLeading_41 rfl (lv_at hl 2 rfl) ?_
            refine lv_iload_n hx hb dX5_findLeading_42 rfl (lv_at hl 1 rfl) ?_
            refine lv_lconst (v := 1) hx hb dX5_findLeading_43 rfl ?_
            refine lv_iload hx hb dX5_findLeading_44 (lv_at hl 0 rfl) ?_
            refine lv_lshl (v := ((1 : Int64) <<< (Int32.toInt64 t16_3 &&& 63))) hx hb dX5_findLeading_46 rfl ?_
            refine xci (wr := [(h1, aJ cJ 21 f2), (h2, aI cI 21 f3), (h3, aJ cJ 21 f4), (h4, aI cI 21 f5)]) (va_runV (As := [.int t16_2, .long ((1 : Int64) <<< (Int32.toInt64 t16_3 &&& 63))]) (rest := []) ⟨hx, hb, hml, hown, hts⟩ (zX5_addLeading l G cI cJ cZ h0 h5 h6 h7 h4 h2 k0 h1 h3 k1 k2 H.size i0 i1 f6 t16_0 t16_1 t16_2 ((1 : Int64) <<< (Int32.toInt64 t16_3 &&& 63)) _ hwp) (cwV 2 hts (xgoodV wo_114 wo_115 wo_116 wo_117 wo_107) rfl rfl rfl (by decide +kernel) ⟨Nat.le_of_ble_eq_true rfl, Nat.le_of_ble_eq_true rfl⟩) (xPreV (q := (RX5, TX5, 12)) (q0 := 0) hK hN hP hD [0, 5, 6, 7] (by decide) rfl rfl rfl) rfl rfl hl.1 rfl (lv_room (Nat.le_of_ble_eq_true rfl)) dX5_findLeading_47 ⟨Nat.le_of_ble_eq_true rfl, Nat.le_of_ble_eq_true rfl⟩) hP hD hS hA [0, 5, 6, 7] [1, 2, 3, 4] rfl rfl (by decide) (by decide) (fun r47 u47 H locs hwp hP hD hS => ?_)
            replace hP : va_P G vwCl [(h1, aJ cJ 21 f2), (h2, aI cI 21 f3), (h3, aJ cJ 21 f4), (h4, aI cI 21 f5), (h0, .inr (5, [.ref h4, .ref h2, .ref k0, .ref h1, .ref h3, .ref h5, .ref h6, .ref h7, .ref k1, .ref k2, .int i0, .int i1])), (h5, aJ cJ 22 f6), (h6, aJ cJ 21 u47.1), (h7, aI cI 21 u47.2)] H := hP
            replace hD : va_D A [(h1, aJ cJ 21 f2), (h2, aI cI 21 f3), (h3, aJ cJ 21 f4), (h4, aI cI 21 f5), (h0, .inr (5, [.ref h4, .ref h2, .ref k0, .ref h1, .ref h3, .ref h5, .ref h6, .ref h7, .ref k1, .ref k2, .int i0, .int i1])), (h5, aJ cJ 22 f6), (h6, aJ cJ 21 u47.1), (h7, aI cI 21 u47.2)] := hD
            refine lv_istore_n (lv' := [(3, .int r47), (4, .int t16_3), (0, .ref h0), (1, .int p0), (2, .int p1)]) hx hb dX5_findLeading_50 rfl hl (by decide) rfl (fun ls hl => ?_)
            refine lv_iinc (v := (t16_3 + 1)) (lv' := [(4, .int (t16_3 + 1)), (3, .int r47), (0, .ref h0), (1, .int p0), (2, .int p1)]) hx hb dX5_findLeading_51 hl (k := 1) rfl rfl (by decide) rfl (fun ls hl => ?_)
            refine lv_goto (tgt := 16) hx hb dX5_findLeading_54 (by decide) ?_
            replace hl : lv_has ls 5 [(4, .int (t16_3 + 1)), (3, .int r47), (0, .ref h0), (1, .int p0), (2, .int p1)] := lv_sub hl [0, 1, 2, 3, 4] rfl
            replace hP : va_P G vwCl [(h0, .inr (5, [.ref h4, .ref h2, .ref k0, .ref h1, .ref h3, .ref h5, .ref h6, .ref h7, .ref k1, .ref k2, .int i0, .int i1])), (h1, aJ cJ 21 f2), (h2, aI cI 21 f3), (h3, aJ cJ 21 f4), (h4, aI cI 21 f5), (h5, aJ cJ 22 f6), (h6, aJ cJ 21 u47.1), (h7, aI cI 21 u47.2)] H := hP.sub [4, 0, 1, 2, 3, 5, 6, 7] rfl
            replace hD : va_D A [(h0, .inr (5, [.ref h4, .ref h2, .ref k0, .ref h1, .ref h3, .ref h5, .ref h6, .ref h7, .ref k1, .ref k2, .int i0, .int i1])), (h1, aJ cJ 21 f2), (h2, aI cI 21 f3), (h3, aJ cJ 21 f4), (h4, aI cI 21 f5), (h5, aJ cJ 22 f6), (h6, aJ cJ 21 u47.1), (h7, aI cI 21 u47.2)] := hD.sub [4, 0, 1, 2, 3, 5, 6, 7] (by decide) rfl
            exact ih2 H locs ls (u47.1) (u47.2) r47 (t16_3 + 1) hwp hP hD hS hl
    exact hs2 n2 H locs ls f7 f8 0 0 hwp hP hD hS hl

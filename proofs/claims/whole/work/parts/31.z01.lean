def wLX1_walk_20 (i0 : Int32) (f4 : Nat → Int32) (u12 : Int32 × (Nat → Int32)) (K : (Int32 × (Nat → Int32) × (Nat → Int32) × (Nat → Int32)) → Prop)  : Nat → (Nat → Int32) → (Nat → Int32) → (Nat → Int32) → Int32 → Int32 → Prop
  | 0, _, _, _, _, _ => False
  | n20 + 1, t20_0, t20_1, t20_2, t20_3, t20_4 => ((160 ≤ t20_4 → K (u12.1, t20_0, t20_1, t20_2)) ∧ (¬ 160 ≤ t20_4 → ((t20_3 < 0 → K (u12.1, t20_0, t20_1, t20_2)) ∧ (¬ t20_3 < 0 → (vp_in t20_3 160 ∧ ((0 ≤ (t20_1 (Int32.toNatClampNeg t20_3)) → K (u12.1, t20_0, t20_1, t20_2)) ∧ (¬ 0 ≤ (t20_1 (Int32.toNatClampNeg t20_3)) → (vp_in t20_3 160 ∧ (∀ g47 : Nat → Int32, g47 = upd t20_1 (Int32.toNatClampNeg t20_3) i0 → (wX7_append (u12.1) t20_0 t20_2 i0 t20_3 (fun u54 => (vp_in (t20_3 ^^^ 1) 160 ∧ (∀ v65 : Int32, v65 = (f4 (Int32.toNatClampNeg (t20_3 ^^^ 1))) → (wLX1_walk_20 i0 f4 u12 K  n20) (u54.1) g47 (u54.2) v65 (t20_4 + 1))))))))))))))
def wX1_walk (i0 : Int32) (f1 : Nat → Int32) (f2 : Nat → Int32) (f3 : Nat → Int32) (f4 : Nat → Int32) (p0 : Int32) (K : (Int32 × (Nat → Int32) × (Nat → Int32) × (Nat → Int32)) → Prop) : Prop := (wX7_open i0 f1 (fun u12 => (∃ n20, wLX1_walk_20 i0 f4 u12 K  n20 (u12.2) f2 f3 p0 0)))
set_option maxHeartbeats 4000000 in
set_option maxRecDepth 100000 in
theorem zX1_walk (l : Launch) (G : va_G) (cI cJ cZ : ClassId) (h0 h1 h2 h3 h4 h5 sz : Nat) (i0 : Int32) (f1 : Nat → Int32) (f2 : Nat → Int32) (f3 : Nat → Int32) (f4 : Nat → Int32) (p0 : Int32) (K : (Int32 × (Nat → Int32) × (Nat → Int32) × (Nat → Int32)) → Prop) (hwp : wX1_walk i0 f1 f2 f3 f4 p0 K) : Met l yX1_walk (xw yX1_walk cX1_walk 5 none) ({ frames := 1, cells := 0, slots := 0, locals := 23 }) (xPc G cI cJ cZ [.ref h0, .int p0] [(h0, .inr (1, [.ref h1, .ref h3, .ref h5])), (h1, .inr (7, [.ref h4, .ref h2, .int i0])), (h2, aI cI 181 f1), (h3, aI cI 160 f2), (h4, aI cI 160 f3), (h5, aI cI 160 f4)] sz) (va_Qv (fun (u : Int32 × (Nat → Int32) × (Nat → Int32) × (Nat → Int32)) => K u) (fun (u : Int32 × (Nat → Int32) × (Nat → Int32) × (Nat → Int32)) t => xB G (va_A [(h0, .inr (1, [.ref h1, .ref h3, .ref h5])), (h1, .inr (7, [.ref h4, .ref h2, .int i0])), (h2, aI cI 181 f1), (h3, aI cI 160 f2), (h4, aI cI 160 f3), (h5, aI cI 160 f4)] sz) [(h0, .inr (1, [.ref h1, .ref h3, .ref h5])), (h1, .inr (7, [.ref h4, .ref h2, .int u.1])), (h2, aI cI 181 u.2.1), (h3, aI cI 160 u.2.2.1), (h4, aI cI 160 u.2.2.2), (h5, aI cI 160 f4)] t) (va_A [(h0, .inr (1, [.ref h1, .ref h3, .ref h5])), (h1, .inr (7, [.ref h4, .ref h2, .int i0])), (h2, aI cI 181 f1), (h3, aI cI 160 f2), (h4, aI cI 160 f3), (h5, aI cI 160 f4)] sz)) 0 0 (va_A [(h0, .inr (1, [.ref h1, .ref h3, .ref h5])), (h1, .inr (7, [.ref h4, .ref h2, .int i0])), (h2, aI cI 181 f1), (h3, aI cI 160 f2), (h4, aI cI 160 f3), (h5, aI cI 160 f4)] sz) := by
  refine Met.ofW (cc := cX1_walk) (maxL := 5) (ret := none) (by decide) rfl ?_
  intro p e s m args below meth c s₁ B hml hv
  obtain ⟨rfl, hsz, hP, hK, hD0, hN⟩ := hv
  have hx := B.exec
  have hb := B.bytes
  have hr := B.returns
  have hts : ∀ w ∈ xW, w.before _ s = true := fun w h => atoms_spec (ws := xw yX1_walk cX1_walk 5 none) B.pre w (List.mem_cons_of_mem _ h)
  have hown : s.vm.findClass RX1 = some m.cls := findClass_of_methodNamed B.named
  have hlocks := B.notSynchronized
  subst hsz
  have hD := hD0.self (sz := s.heap.size)
  clear hD0
  generalize hAe : va_A [(h0, .inr (1, [.ref h1, .ref h3, .ref h5])), (h1, .inr (7, [.ref h4, .ref h2, .int i0])), (h2, aI cI 181 f1), (h3, aI cI 160 f2), (h4, aI cI 160 f3), (h5, aI cI 160 f4)] s.heap.size = A at hD ⊢
  have hA : ∀ q : Nat, s.heap.size ≤ q → A q := fun q h => by rw [← hAe]; exact Or.inr h
  clear hAe
  have hS : va_S A s.heap s.heap [] := va_S.rf
  replace hP : va_P G vwCl [(h0, .inr (1, [.ref h1, .ref h3, .ref h5])), (h1, .inr (7, [.ref h4, .ref h2, .int i0])), (h2, aI cI 181 f1), (h3, aI cI 160 f2), (h4, aI cI 160 f3), (h5, aI cI 160 f4)] s.heap := hP
  have hl := lv_entry ([.ref h0, .int p0]) (n := 5) (Nat.le_of_ble_eq_true rfl)
  rw [lg_entry_eq]
  generalize (lg_sl ([.ref h0, .int p0]) ++ List.replicate (5 - (lg_sl ([.ref h0, .int p0])).length) Slot.unset).toArray = ls at hl ⊢
  replace hl : lv_has ls 5 [(0, .ref h0), (1, .int p0)] := hl
  generalize hQQ : MQ below _ _ s 0 0 _ = QQ
  skip
  unfold wX1_walk at hwp
  refine lv_aload_n hx hb dX1_walk_0 rfl (lv_at hl 0 rfl) ?_
  refine va_get (D := G) (ci := 1) (v := .ref h1) (C := RX1) (T := TX1) (N := 3) hx hb hts xinX1 hown hK hP 0 rfl rfl 0 (by decide) (hts _ wo_30) (fun _ h9 => h9) rfl dX1_walk_1 ?_
  refine va_getN (D := G) (ci := 7) (v := .int i0) (C := RX7) (T := TX7) (N := 3) hx hb hts xinX7 hown hK hP 1 rfl rfl 2 (by decide) (va_Nw.use rfl (hN.1 ("PlaneTests$Faces", 42, "PlaneTests$Rows", "count", "I", "PlaneTests") (by decide +kernel))) (fun _ h9 => h9) rfl dX1_walk_4 ?_
  refine lv_istore_n (lv' := [(2, .int i0), (0, .ref h0), (1, .int p0)]) hx hb dX1_walk_7 rfl hl (by decide) rfl (fun ls hl => ?_)
  refine lv_aload_n hx hb dX1_walk_8 rfl (lv_at hl 1 rfl) ?_
  refine va_get (D := G) (ci := 1) (v := .ref h1) (C := RX1) (T := TX1) (N := 3) hx hb hts xinX1 hown hK hP 0 rfl rfl 0 (by decide) (hts _ wo_30) (fun _ h9 => h9) rfl dX1_walk_9 ?_
  refine xcv (wr := [(h0, .inr (1, [.ref h1, .ref h3, .ref h5])), (h3, aI cI 160 f2), (h4, aI cI 160 f3), (h5, aI cI 160 f4)]) (va_runV (As := []) (rest := []) ⟨hx, hb, hml, hown, hts⟩ (zX7_open l G cI cJ cZ h1 h2 h4 s.heap.size i0 f1 _ hwp) (cwV 0 hts (xgoodV wo_31 wo_32 wo_33 wo_34 wo_28) rfl rfl rfl (by decide +kernel) ⟨Nat.le_of_ble_eq_true rfl, Nat.le_of_ble_eq_true rfl⟩) (xPreV (q := (RX7, TX7, 3)) (q0 := 1) hK hN hP hD [1, 2] (by decide) rfl rfl rfl) rfl rfl hl.1 rfl (lv_room (Nat.le_of_ble_eq_true rfl)) dX1_walk_12 ⟨Nat.le_of_ble_eq_true rfl, Nat.le_of_ble_eq_true rfl⟩) hP hD hS hA [1, 2] [0, 3, 4, 5] rfl rfl (by decide) (by decide) (fun u12 H locs hwp hP hD hS => ?_)
  replace hP : va_P G vwCl [(h0, .inr (1, [.ref h1, .ref h3, .ref h5])), (h3, aI cI 160 f2), (h4, aI cI 160 f3), (h5, aI cI 160 f4), (h1, .inr (7, [.ref h4, .ref h2, .int u12.1])), (h2, aI cI 181 u12.2)] H := hP
  replace hD : va_D A [(h0, .inr (1, [.ref h1, .ref h3, .ref h5])), (h3, aI cI 160 f2), (h4, aI cI 160 f3), (h5, aI cI 160 f4), (h1, .inr (7, [.ref h4, .ref h2, .int u12.1])), (h2, aI cI 181 u12.2)] := hD
  refine lv_iload_n hx hb dX1_walk_15 rfl (lv_at hl 2 rfl) ?_
  refine lv_istore_n (lv' := [(3, .int p0), (2, .int i0), (0, .ref h0), (1, .int p0)]) hx hb dX1_walk_16 rfl hl (by decide) rfl (fun ls hl => ?_)
  refine lv_iconst (v := 0) hx hb dX1_walk_17 (by decide) ?_
  refine lv_istore (lv' := [(4, .int 0), (3, .int p0), (2, .int i0), (0, .ref h0), (1, .int p0)]) hx hb dX1_walk_18 hl (by decide) rfl (fun ls hl => ?_)
  replace hl : lv_has ls 5 [(4, .int 0), (3, .int p0), (2, .int i0), (0, .ref h0)] := lv_sub hl [0, 1, 2, 3] rfl
  obtain ⟨n1, hwp⟩ := hwp
  have hs1 : ∀ (n1 : Nat) (H : Heap) (locs : List Loc) (ls : Array Slot) (t20_0 : Nat → Int32) (t20_1 : Nat → Int32) (t20_2 : Nat → Int32) (t20_3 : Int32) (t20_4 : Int32), wLX1_walk_20 i0 f4 u12 K  n1 t20_0 t20_1 t20_2 t20_3 t20_4 → va_P G vwCl [(h0, .inr (1, [.ref h1, .ref h3, .ref h5])), (h3, aI cI 160 t20_1), (h4, aI cI 160 t20_2), (h5, aI cI 160 f4), (h1, .inr (7, [.ref h4, .ref h2, .int u12.1])), (h2, aI cI 181 t20_0)] H → va_D A [(h0, .inr (1, [.ref h1, .ref h3, .ref h5])), (h3, aI cI 160 t20_1), (h4, aI cI 160 t20_2), (h5, aI cI 160 f4), (h1, .inr (7, [.ref h4, .ref h2, .int u12.1])), (h2, aI cI 181 t20_0)] → va_S A s.heap H locs → lv_has ls 5 [(4, .int t20_4), (3, .int t20_3), (2, .int i0), (0, .ref h0)] → W p l e ((headSpec (xw yX1_walk cX1_walk 5 none) { frames := 1, cells := 0, slots := 0, locals := 23 }).room) s m ([.ref h0, .int p0] : List Value).toArray below meth c H locs 0 0 QQ (F0 m 20 ls []) := by
    intro n1
    induction n1 with
    | zero => intro H locs ls t20_0 t20_1 t20_2 t20_3 t20_4 hwp; exact False.elim hwp
    | succ n1 ih1 =>
      intro H locs ls t20_0 t20_1 t20_2 t20_3 t20_4 hwp hP hD hS hl
      rw [wLX1_walk_20] at hwp
      refine lv_iload hx hb dX1_walk_20 (lv_at hl 0 rfl) ?_
      refine lv_sipush (v := 160) hx hb dX1_walk_22 (by decide) ?_
      refine lv_icmp_ge (tgt := 72) hx hb dX1_walk_25 (by decide) (fun c25 => ?_) (fun c25 => ?_)
      · replace hwp := hwp.1 c25
        have hP9 : va_P G vwCl [(h0, .inr (1, [.ref h1, .ref h3, .ref h5])), (h1, .inr (7, [.ref h4, .ref h2, .int u12.1])), (h2, aI cI 181 t20_0), (h3, aI cI 160 t20_1), (h4, aI cI 160 t20_2), (h5, aI cI 160 f4)] H := hP.sub [0, 4, 5, 1, 2, 3] rfl
        have hD9 : va_D A [(h0, .inr (1, [.ref h1, .ref h3, .ref h5])), (h1, .inr (7, [.ref h4, .ref h2, .int u12.1])), (h2, aI cI 181 t20_0), (h3, aI cI 160 t20_1), (h4, aI cI 160 t20_2), (h5, aI cI 160 f4)] := hD.sub [0, 4, 5, 1, 2, 3] (by decide) rfl
        rw [← hQQ]
        exact W.vret hx hb hr (fun t ht hW => ⟨⟨(u12.1, t20_0, t20_1, t20_2), rfl, hwp, by rw [ht]; exact hP9, hD9⟩, hS.F ht⟩) hS.2.2 dX1_walk_72
      · replace hwp := hwp.2 c25
        refine lv_iload_n hx hb dX1_walk_28 rfl (lv_at hl 1 rfl) ?_
        refine lv_if_lt (tgt := 72) hx hb dX1_walk_29 (by decide) (fun c29 => ?_) (fun c29 => ?_)
        · replace hwp := hwp.1 c29
          have hP9 : va_P G vwCl [(h0, .inr (1, [.ref h1, .ref h3, .ref h5])), (h1, .inr (7, [.ref h4, .ref h2, .int u12.1])), (h2, aI cI 181 t20_0), (h3, aI cI 160 t20_1), (h4, aI cI 160 t20_2), (h5, aI cI 160 f4)] H := hP.sub [0, 4, 5, 1, 2, 3] rfl
          have hD9 : va_D A [(h0, .inr (1, [.ref h1, .ref h3, .ref h5])), (h1, .inr (7, [.ref h4, .ref h2, .int u12.1])), (h2, aI cI 181 t20_0), (h3, aI cI 160 t20_1), (h4, aI cI 160 t20_2), (h5, aI cI 160 f4)] := hD.sub [0, 4, 5, 1, 2, 3] (by decide) rfl
          rw [← hQQ]
          exact W.vret hx hb hr (fun t ht hW => ⟨⟨(u12.1, t20_0, t20_1, t20_2), rfl, hwp, by rw [ht]; exact hP9, hD9⟩, hS.F ht⟩) hS.2.2 dX1_walk_72
        · replace hwp := hwp.2 c29
          refine lv_aload_n hx hb dX1_walk_32 rfl (lv_at hl 3 rfl) ?_
          refine va_get (D := G) (ci := 1) (v := .ref h3) (C := RX1) (T := TX1) (N := 3) hx hb hts xinX1 hown hK hP 0 rfl rfl 1 (by decide) (hts _ wo_35) (fun _ h9 => h9) rfl dX1_walk_33 ?_
          refine lv_iload_n hx hb dX1_walk_36 rfl (lv_at hl 1 rfl) ?_
          obtain ⟨hi, hwp⟩ := hwp
          refine va_iald hx hb hK hP 1 0 rfl rfl hi dX1_walk_37 ?_
          refine lv_if_ge (tgt := 72) hx hb dX1_walk_38 (by decide) (fun c38 => ?_) (fun c38 => ?_)
          · replace hwp := hwp.1 c38
            have hP9 : va_P G vwCl [(h0, .inr (1, [.ref h1, .ref h3, .ref h5])), (h1, .inr (7, [.ref h4, .ref h2, .int u12.1])), (h2, aI cI 181 t20_0), (h3, aI cI 160 t20_1), (h4, aI cI 160 t20_2), (h5, aI cI 160 f4)] H := hP.sub [0, 4, 5, 1, 2, 3] rfl
            have hD9 : va_D A [(h0, .inr (1, [.ref h1, .ref h3, .ref h5])), (h1, .inr (7, [.ref h4, .ref h2, .int u12.1])), (h2, aI cI 181 t20_0), (h3, aI cI 160 t20_1), (h4, aI cI 160 t20_2), (h5, aI cI 160 f4)] := hD.sub [0, 4, 5, 1, 2, 3] (by decide) rfl
            rw [← hQQ]
            exact W.vret hx hb hr (fun t ht hW => ⟨⟨(u12.1, t20_0, t20_1, t20_2), rfl, hwp, by rw [ht]; exact hP9, hD9⟩, hS.F ht⟩) hS.2.2 dX1_walk_72
          · replace hwp := hwp.2 c38
            refine lv_aload_n hx hb dX1_walk_41 rfl (lv_at hl 3 rfl) ?_
            refine va_get (D := G) (ci := 1) (v := .ref h3) (C := RX1) (T := TX1) (N := 3) hx hb hts xinX1 hown hK hP 0 rfl rfl 1 (by decide) (hts _ wo_35) (fun _ h9 => h9) rfl dX1_walk_42 ?_
            refine lv_iload_n hx hb dX1_walk_45 rfl (lv_at hl 1 rfl) ?_
            refine lv_iload_n hx hb dX1_walk_46 rfl (lv_at hl 2 rfl) ?_
            obtain ⟨hi, hwp⟩ := hwp
            refine va_iast hx hb hK hP hD hS 1 0 rfl rfl hi dX1_walk_47 (fun H locs hP hD hS => ?_)
            obtain ⟨g47, eg47⟩ : ∃ z, z = upd t20_1 (Int32.toNatClampNeg t20_3) i0 := ⟨_, rfl⟩
            replace hwp := hwp g47 eg47
            replace hP : va_P G vwCl [(h0, .inr (1, [.ref h1, .ref h3, .ref h5])), (h3, aI cI 160 g47), (h4, aI cI 160 t20_2), (h5, aI cI 160 f4), (h1, .inr (7, [.ref h4, .ref h2, .int u12.1])), (h2, aI cI 181 t20_0)] H := by rw [eg47]; exact hP
            replace hD : va_D A [(h0, .inr (1, [.ref h1, .ref h3, .ref h5])), (h3, aI cI 160 g47), (h4, aI cI 160 t20_2), (h5, aI cI 160 f4), (h1, .inr (7, [.ref h4, .ref h2, .int u12.1])), (h2, aI cI 181 t20_0)] := by rw [eg47]; exact hD
            clear eg47
            refine lv_aload_n hx hb dX1_walk_48 rfl (lv_at hl 3 rfl) ?_
            refine va_get (D := G) (ci := 1) (v := .ref h1) (C := RX1) (T := TX1) (N := 3) hx hb hts xinX1 hown hK hP 0 rfl rfl 0 (by decide) (hts _ wo_30) (fun _ h9 => h9) rfl dX1_walk_49 ?_
            refine lv_iload_n hx hb dX1_walk_52 rfl (lv_at hl 2 rfl) ?_
            refine lv_iload_n hx hb dX1_walk_53 rfl (lv_at hl 1 rfl) ?_
            refine xcv (wr := [(h0, .inr (1, [.ref h1, .ref h3, .ref h5])), (h3, aI cI 160 g47), (h5, aI cI 160 f4)]) (va_runV (As := [.int i0, .int t20_3]) (rest := []) ⟨hx, hb, hml, hown, hts⟩ (zX7_append l G cI cJ cZ h1 h2 h4 H.size (u12.1) t20_0 t20_2 i0 t20_3 _ hwp) (cwV 2 hts (xgoodV wo_36 wo_37 wo_38 wo_39 wo_28) rfl rfl rfl (by decide +kernel) ⟨Nat.le_of_ble_eq_true rfl, Nat.le_of_ble_eq_true rfl⟩) (xPreV (q := (RX7, TX7, 3)) (q0 := 4) hK hN hP hD [4, 5, 2] (by decide) rfl rfl rfl) rfl rfl hl.1 rfl (lv_room (Nat.le_of_ble_eq_true rfl)) dX1_walk_54 ⟨Nat.le_of_ble_eq_true rfl, Nat.le_of_ble_eq_true rfl⟩) hP hD hS hA [4, 5, 2] [0, 1, 3] rfl rfl (by decide) (by decide) (fun u54 H locs hwp hP hD hS => ?_)
            replace hP : va_P G vwCl [(h0, .inr (1, [.ref h1, .ref h3, .ref h5])), (h3, aI cI 160 g47), (h5, aI cI 160 f4), (h1, .inr (7, [.ref h4, .ref h2, .int u12.1])), (h2, aI cI 181 u54.1), (h4, aI cI 160 u54.2)] H := hP
            replace hD : va_D A [(h0, .inr (1, [.ref h1, .ref h3, .ref h5])), (h3, aI cI 160 g47), (h5, aI cI 160 f4), (h1, .inr (7, [.ref h4, .ref h2, .int u12.1])), (h2, aI cI 181 u54.1), (h4, aI cI 160 u54.2)] := hD
            refine lv_aload_n hx hb dX1_walk_57 rfl (lv_at hl 3 rfl) ?_
            refine va_get (D := G) (ci := 1) (v := .ref h5) (C := RX1) (T := TX1) (N := 3) hx hb hts xinX1 hown hK hP 0 rfl rfl 2 (by decide) (hts _ wo_40) (fun _ h9 => h9) rfl dX1_walk_58 ?_
            refine lv_iload_n hx hb dX1_walk_61 rfl (lv_at hl 1 rfl) ?_
            refine lv_iconst (v := 1) hx hb dX1_walk_62 (by decide) ?_
            refine lv_ixor hx hb dX1_walk_63 ?_
            obtain ⟨hi, hwp⟩ := hwp
            refine va_iald hx hb hK hP 2 0 rfl rfl hi dX1_walk_64 ?_
            refine lv_topi (fun v65 ev65 => ?_)
            replace hwp := hwp v65 ev65
            clear ev65
            refine lv_istore_n (lv' := [(3, .int v65), (4, .int t20_4), (2, .int i0), (0, .ref h0)]) hx hb dX1_walk_65 rfl hl (by decide) rfl (fun ls hl => ?_)
            refine lv_iinc (v := (t20_4 + 1)) (lv' := [(4, .int (t20_4 + 1)), (3, .int v65), (2, .int i0), (0, .ref h0)]) hx hb dX1_walk_66 hl (k := 1) rfl rfl (by decide) rfl (fun ls hl => ?_)
            refine lv_goto (tgt := 20) hx hb dX1_walk_69 (by decide) ?_
            replace hl : lv_has ls 5 [(4, .int (t20_4 + 1)), (3, .int v65), (2, .int i0), (0, .ref h0)] := lv_sub hl [0, 1, 2, 3] rfl
            replace hP : va_P G vwCl [(h0, .inr (1, [.ref h1, .ref h3, .ref h5])), (h3, aI cI 160 g47), (h4, aI cI 160 u54.2), (h5, aI cI 160 f4), (h1, .inr (7, [.ref h4, .ref h2, .int u12.1])), (h2, aI cI 181 u54.1)] H := hP.sub [0, 1, 5, 2, 3, 4] rfl
            replace hD : va_D A [(h0, .inr (1, [.ref h1, .ref h3, .ref h5])), (h3, aI cI 160 g47), (h4, aI cI 160 u54.2), (h5, aI cI 160 f4), (h1, .inr (7, [.ref h4, .ref h2, .int u12.1])), (h2, aI cI 181 u54.1)] := hD.sub [0, 1, 5, 2, 3, 4] (by decide) rfl
            exact ih1 H locs ls (u54.1) g47 (u54.2) v65 (t20_4 + 1) hwp hP hD hS hl
  exact hs1 n1 H locs ls (u12.2) f2 f3 p0 0 hwp hP hD hS hl
def wX2_turnOver (i0 : Int32) (f1 : Nat → Int32) (p0 : Int32) (p1 : Int32) (K : ((Nat → Int32)) → Prop) : Prop := (vp_in p0 20 ∧ (vp_in p0 20 ∧ (∀ g11 : Nat → Int32, g11 = upd f1 (Int32.toNatClampNeg p0) ((f1 (Int32.toNatClampNeg p0)) ^^^ ((1 : Int32) <<< (p1 &&& 31))) → (vp_in p1 20 ∧ (vp_in p1 20 ∧ (∀ g23 : Nat → Int32, g23 = upd g11 (Int32.toNatClampNeg p1) ((g11 (Int32.toNatClampNeg p1)) ^^^ ((1 : Int32) <<< (p0 &&& 31))) → K g23))))))
set_option maxHeartbeats 4000000 in
set_option maxRecDepth 100000 in
theorem zX2_turnOver (l : Launch) (G : va_G) (cI cJ cZ : ClassId) (h0 h1 k0 sz : Nat) (i0 : Int32) (f1 : Nat → Int32) (p0 : Int32) (p1 : Int32) (K : ((Nat → Int32)) → Prop) (hwp : wX2_turnOver i0 f1 p0 p1 K) : Met l yX2_turnOver (xw yX2_turnOver cX2_turnOver 3 none) ({ frames := 0, cells := 0, slots := 0, locals := 0 }) (xPc G cI cJ cZ [.ref h0, .int p0, .int p1] [(h0, .inr (2, [.ref k0, .ref h1, .int i0])), (h1, aI cI 20 f1)] sz) (va_Qv (fun (u : (Nat → Int32)) => K u) (fun (u : (Nat → Int32)) t => xB G (va_A [(h0, .inr (2, [.ref k0, .ref h1, .int i0])), (h1, aI cI 20 f1)] sz) [(h0, .inr (2, [.ref k0, .ref h1, .int i0])), (h1, aI cI 20 u)] t) (va_A [(h0, .inr (2, [.ref k0, .ref h1, .int i0])), (h1, aI cI 20 f1)] sz)) 0 0 (va_A [(h0, .inr (2, [.ref k0, .ref h1, .int i0])), (h1, aI cI 20 f1)] sz) := by
  refine Met.ofW (cc := cX2_turnOver) (maxL := 3) (ret := none) (by decide) rfl ?_
  intro p e s m args below meth c s₁ B hml hv
  obtain ⟨rfl, hsz, hP, hK, hD0, hN⟩ := hv
  have hx := B.exec
  have hb := B.bytes
  have hr := B.returns
  have hts : ∀ w ∈ xW, w.before _ s = true := fun w h => atoms_spec (ws := xw yX2_turnOver cX2_turnOver 3 none) B.pre w (List.mem_cons_of_mem _ h)
  have hown : s.vm.findClass RX2 = some m.cls := findClass_of_methodNamed B.named
  have hlocks := B.notSynchronized
  subst hsz
  have hD := hD0.self (sz := s.heap.size)
  clear hD0
  generalize hAe : va_A [(h0, .inr (2, [.ref k0, .ref h1, .int i0])), (h1, aI cI 20 f1)] s.heap.size = A at hD ⊢
  have hA : ∀ q : Nat, s.heap.size ≤ q → A q := fun q h => by rw [← hAe]; exact Or.inr h
  clear hAe
  have hS : va_S A s.heap s.heap [] := va_S.rf
  replace hP : va_P G vwCl [(h0, .inr (2, [.ref k0, .ref h1, .int i0])), (h1, aI cI 20 f1)] s.heap := hP
  have hl := lv_entry ([.ref h0, .int p0, .int p1]) (n := 3) (Nat.le_of_ble_eq_true rfl)
  rw [lg_entry_eq]
  generalize (lg_sl ([.ref h0, .int p0, .int p1]) ++ List.replicate (3 - (lg_sl ([.ref h0, .int p0, .int p1])).length) Slot.unset).toArray = ls at hl ⊢
  replace hl : lv_has ls 3 [(0, .ref h0), (1, .int p0), (2, .int p1)] := hl
  generalize hQQ : MQ below _ _ s 0 0 _ = QQ
  skip
  unfold wX2_turnOver at hwp
  refine lv_aload_n hx hb dX2_turnOver_0 rfl (lv_at hl 0 rfl) ?_
  refine va_get (D := G) (ci := 2) (v := .ref h1) (C := RX2) (T := TX2) (N := 3) hx hb hts xinX2 hown hK hP 0 rfl rfl 1 (by decide) (hts _ wo_41) (fun _ h9 => h9) rfl dX2_turnOver_1 ?_
  refine lv_iload_n hx hb dX2_turnOver_4 rfl (lv_at hl 1 rfl) ?_
  refine lv_dup2_11 hx hb dX2_turnOver_5 rfl rfl ?_
  obtain ⟨hi, hwp⟩ := hwp
  refine va_iald hx hb hK hP 1 0 rfl rfl hi dX2_turnOver_6 ?_
  refine lv_iconst (v := 1) hx hb dX2_turnOver_7 (by decide) ?_
  refine lv_iload_n hx hb dX2_turnOver_8 rfl (lv_at hl 2 rfl) ?_
  refine lv_ishl hx hb dX2_turnOver_9 ?_
  refine lv_ixor hx hb dX2_turnOver_10 ?_
  obtain ⟨hi, hwp⟩ := hwp
  refine va_iast hx hb hK hP hD hS 1 0 rfl rfl hi dX2_turnOver_11 (fun H locs hP hD hS => ?_)
  obtain ⟨g11, eg11⟩ : ∃ z, z = upd f1 (Int32.toNatClampNeg p0) ((f1 (Int32.toNatClampNeg p0)) ^^^ ((1 : Int32) <<< (p1 &&& 31))) := ⟨_, rfl⟩
  replace hwp := hwp g11 eg11
  replace hP : va_P G vwCl [(h0, .inr (2, [.ref k0, .ref h1, .int i0])), (h1, aI cI 20 g11)] H := by rw [eg11]; exact hP
  replace hD : va_D A [(h0, .inr (2, [.ref k0, .ref h1, .int i0])), (h1, aI cI 20 g11)] := by rw [eg11]; exact hD
  clear eg11
  refine lv_aload_n hx hb dX2_turnOver_12 rfl (lv_at hl 0 rfl) ?_
  refine va_get (D := G) (ci := 2) (v := .ref h1) (C := RX2) (T := TX2) (N := 3) hx hb hts xinX2 hown hK hP 0 rfl rfl 1 (by decide) (hts _ wo_41) (fun _ h9 => h9) rfl dX2_turnOver_13 ?_
  refine lv_iload_n hx hb dX2_turnOver_16 rfl (lv_at hl 2 rfl) ?_
  refine lv_dup2_11 hx hb dX2_turnOver_17 rfl rfl ?_
  obtain ⟨hi, hwp⟩ := hwp
  refine va_iald hx hb hK hP 1 0 rfl rfl hi dX2_turnOver_18 ?_
  refine lv_iconst (v := 1) hx hb dX2_turnOver_19 (by decide) ?_
  refine lv_iload_n hx hb dX2_turnOver_20 rfl (lv_at hl 1 rfl) ?_
  refine lv_ishl hx hb dX2_turnOver_21 ?_
  refine lv_ixor hx hb dX2_turnOver_22 ?_
  obtain ⟨hi, hwp⟩ := hwp
  refine va_iast hx hb hK hP hD hS 1 0 rfl rfl hi dX2_turnOver_23 (fun H locs hP hD hS => ?_)
  obtain ⟨g23, eg23⟩ : ∃ z, z = upd g11 (Int32.toNatClampNeg p1) ((g11 (Int32.toNatClampNeg p1)) ^^^ ((1 : Int32) <<< (p0 &&& 31))) := ⟨_, rfl⟩
  replace hwp := hwp g23 eg23
  replace hP : va_P G vwCl [(h0, .inr (2, [.ref k0, .ref h1, .int i0])), (h1, aI cI 20 g23)] H := by rw [eg23]; exact hP
  replace hD : va_D A [(h0, .inr (2, [.ref k0, .ref h1, .int i0])), (h1, aI cI 20 g23)] := by rw [eg23]; exact hD
  clear eg23
  have hP9 : va_P G vwCl [(h0, .inr (2, [.ref k0, .ref h1, .int i0])), (h1, aI cI 20 g23)] H := hP.sub [0, 1] rfl
  have hD9 : va_D A [(h0, .inr (2, [.ref k0, .ref h1, .int i0])), (h1, aI cI 20 g23)] := hD.sub [0, 1] (by decide) rfl
  rw [← hQQ]
  exact W.vret hx hb hr (fun t ht hW => ⟨⟨g23, rfl, hwp, by rw [ht]; exact hP9, hD9⟩, hS.F ht⟩) hS.2.2 dX2_turnOver_24
def wX6_behind (f0 : Nat → Int32) (p0 : Int32) (p1 : Int32) (K : Int32 → Unit → Prop) : Prop := ((p1 < 0 → K ((-1) : Int32) ()) ∧ (¬ p1 < 0 → ((20 ≤ p1 → K ((-1) : Int32) ()) ∧ (¬ 20 ≤ p1 → (vp_in ((p0 * 20) + p1) 400 ∧ K (f0 (Int32.toNatClampNeg ((p0 * 20) + p1))) ())))))
set_option maxHeartbeats 4000000 in
set_option maxRecDepth 100000 in
theorem zX6_behind (l : Launch) (G : va_G) (cI cJ cZ : ClassId) (h0 h1 k0 k1 sz : Nat) (f0 : Nat → Int32) (p0 : Int32) (p1 : Int32) (K : Int32 → Unit → Prop) (hwp : wX6_behind f0 p0 p1 K) : Met l yX6_behind (xw yX6_behind cX6_behind 3 (some .int)) ({ frames := 0, cells := 0, slots := 0, locals := 0 }) (xPc G cI cJ cZ [.ref h0, .int p0, .int p1] [(h0, .inr (6, [.ref k0, .ref k1, .ref h1])), (h1, aI cI 400 f0)] sz) (va_Qi (fun (r : Int32) (u : Unit) => K r u) (fun (u : Unit) t => xB G (va_A [(h0, .inr (6, [.ref k0, .ref k1, .ref h1])), (h1, aI cI 400 f0)] sz) [(h0, .inr (6, [.ref k0, .ref k1, .ref h1])), (h1, aI cI 400 f0)] t) (va_A [(h0, .inr (6, [.ref k0, .ref k1, .ref h1])), (h1, aI cI 400 f0)] sz)) 0 0 (va_A [(h0, .inr (6, [.ref k0, .ref k1, .ref h1])), (h1, aI cI 400 f0)] sz) := by
  refine Met.ofW (cc := cX6_behind) (maxL := 3) (ret := (some .int)) (by decide) rfl ?_
  intro p e s m args below meth c s₁ B hml hv
  obtain ⟨rfl, hsz, hP, hK, hD0, hN⟩ := hv
  have hx := B.exec
  have hb := B.bytes
  have hr := B.returns
  have hts : ∀ w ∈ xW, w.before _ s = true := fun w h => atoms_spec (ws := xw yX6_behind cX6_behind 3 (some .int)) B.pre w (List.mem_cons_of_mem _ h)
  have hown : s.vm.findClass RX6 = some m.cls := findClass_of_methodNamed B.named
  have hlocks := B.notSynchronized
  subst hsz
  have hD := hD0.self (sz := s.heap.size)
  clear hD0
  generalize hAe : va_A [(h0, .inr (6, [.ref k0, .ref k1, .ref h1])), (h1, aI cI 400 f0)] s.heap.size = A at hD ⊢
  have hA : ∀ q : Nat, s.heap.size ≤ q → A q := fun q h => by rw [← hAe]; exact Or.inr h
  clear hAe
  have hS : va_S A s.heap s.heap [] := va_S.rf
  replace hP : va_P G vwCl [(h0, .inr (6, [.ref k0, .ref k1, .ref h1])), (h1, aI cI 400 f0)] s.heap := hP
  have hl := lv_entry ([.ref h0, .int p0, .int p1]) (n := 3) (Nat.le_of_ble_eq_true rfl)
  rw [lg_entry_eq]
  generalize (lg_sl ([.ref h0, .int p0, .int p1]) ++ List.replicate (3 - (lg_sl ([.ref h0, .int p0, .int p1])).length) Slot.unset).toArray = ls at hl ⊢
  replace hl : lv_has ls 3 [(0, .ref h0), (1, .int p0), (2, .int p1)] := hl
  generalize hQQ : MQ below _ _ s 0 0 _ = QQ
  skip
  unfold wX6_behind at hwp
  refine lv_iload_n hx hb dX6_behind_0 rfl (lv_at hl 2 rfl) ?_
  refine lv_if_lt (tgt := 24) hx hb dX6_behind_1 (by decide) (fun c1 => ?_) (fun c1 => ?_)
  · replace hwp := hwp.1 c1
    refine lv_iconst (v := (-1)) hx hb dX6_behind_24 (by decide) ?_
    have hP9 : va_P G vwCl [(h0, .inr (6, [.ref k0, .ref k1, .ref h1])), (h1, aI cI 400 f0)] s.heap := hP.sub [0, 1] rfl
    have hD9 : va_D A [(h0, .inr (6, [.ref k0, .ref k1, .ref h1])), (h1, aI cI 400 f0)] := hD.sub [0, 1] (by decide) rfl
    rw [← hQQ]
    exact W.iret (v := (-1)) hx hb hr (fun t ht hW => ⟨⟨_, (), rfl, hwp, by rw [ht]; exact hP9, hD9⟩, hS.F ht⟩) hS.2.2 dX6_behind_25
  · replace hwp := hwp.2 c1
    refine lv_iload_n hx hb dX6_behind_4 rfl (lv_at hl 2 rfl) ?_
    refine lv_bipush (v := 20) hx hb dX6_behind_5 (by decide) ?_
    refine lv_icmp_ge (tgt := 24) hx hb dX6_behind_7 (by decide) (fun c7 => ?_) (fun c7 => ?_)
    · replace hwp := hwp.1 c7
      refine lv_iconst (v := (-1)) hx hb dX6_behind_24 (by decide) ?_
      have hP9 : va_P G vwCl [(h0, .inr (6, [.ref k0, .ref k1, .ref h1])), (h1, aI cI 400 f0)] s.heap := hP.sub [0, 1] rfl
      have hD9 : va_D A [(h0, .inr (6, [.ref k0, .ref k1, .ref h1])), (h1, aI cI 400 f0)] := hD.sub [0, 1] (by decide) rfl
      rw [← hQQ]
      exact W.iret (v := (-1)) hx hb hr (fun t ht hW => ⟨⟨_, (), rfl, hwp, by rw [ht]; exact hP9, hD9⟩, hS.F ht⟩) hS.2.2 dX6_behind_25
    · replace hwp := hwp.2 c7
      refine lv_aload_n hx hb dX6_behind_10 rfl (lv_at hl 0 rfl) ?_
      refine va_get (D := G) (ci := 6) (v := .ref h1) (C := RX6) (T := TX6) (N := 3) hx hb hts xinX6 hown hK hP 0 rfl rfl 2 (by decide) (hts _ wo_42) (fun _ h9 => h9) rfl dX6_behind_11 ?_
      refine lv_iload_n hx hb dX6_behind_14 rfl (lv_at hl 1 rfl) ?_
      refine lv_bipush (v := 20) hx hb dX6_behind_15 (by decide) ?_
      refine lv_imul hx hb dX6_behind_17 ?_
      refine lv_iload_n hx hb dX6_behind_18 rfl (lv_at hl 2 rfl) ?_
      refine lv_iadd hx hb dX6_behind_19 ?_
      obtain ⟨hi, hwp⟩ := hwp
      refine va_iald hx hb hK hP 1 0 rfl rfl hi dX6_behind_20 ?_
      refine lv_goto (tgt := 25) hx hb dX6_behind_21 (by decide) ?_
      have hP9 : va_P G vwCl [(h0, .inr (6, [.ref k0, .ref k1, .ref h1])), (h1, aI cI 400 f0)] s.heap := hP.sub [0, 1] rfl
      have hD9 : va_D A [(h0, .inr (6, [.ref k0, .ref k1, .ref h1])), (h1, aI cI 400 f0)] := hD.sub [0, 1] (by decide) rfl
      rw [← hQQ]
      exact W.iret (v := (f0 (Int32.toNatClampNeg ((p0 * 20) + p1)))) hx hb hr (fun t ht hW => ⟨⟨_, (), rfl, hwp, by rw [ht]; exact hP9, hD9⟩, hS.F ht⟩) hS.2.2 dX6_behind_25
def wX8_lowest (p0 : Int32) (K : Int32 → Unit → Prop) : Prop := (wJ6_bitCount_0f7a4 ((p0 ^^^ (-1)) &&& (p0 - 1)) (fun r7 _ => K r7 ()))
set_option maxHeartbeats 4000000 in
set_option maxRecDepth 100000 in
theorem zX8_lowest (l : Launch) (G : va_G) (cI cJ cZ : ClassId) ( sz : Nat) (p0 : Int32) (K : Int32 → Unit → Prop) (hwp : wX8_lowest p0 K) : Met l yX8_lowest (xw yX8_lowest cX8_lowest 1 (some .int)) ({ frames := 1, cells := 0, slots := 0, locals := 20 }) (xPc G cI cJ cZ [.int p0] [] sz) (va_Qi (fun (r : Int32) (u : Unit) => K r u) (fun (u : Unit) t => xB G (va_A [] sz) [] t) (va_A [] sz)) 0 0 (va_A [] sz) := by
  refine Met.ofW (cc := cX8_lowest) (maxL := 1) (ret := (some .int)) (by decide) rfl ?_
  intro p e s m args below meth c s₁ B hml hv
  obtain ⟨rfl, hsz, hP, hK, hD0, hN⟩ := hv
  have hx := B.exec
  have hb := B.bytes
  have hr := B.returns
  have hts : ∀ w ∈ xW, w.before _ s = true := fun w h => atoms_spec (ws := xw yX8_lowest cX8_lowest 1 (some .int)) B.pre w (List.mem_cons_of_mem _ h)
  have hown : s.vm.findClass RX8 = some m.cls := findClass_of_methodNamed B.named
  have hlocks := B.notSynchronized
  subst hsz
  have hD := hD0.self (sz := s.heap.size)
  clear hD0
  generalize hAe : va_A [] s.heap.size = A at hD ⊢
  have hA : ∀ q : Nat, s.heap.size ≤ q → A q := fun q h => by rw [← hAe]; exact Or.inr h
  clear hAe
  have hS : va_S A s.heap s.heap [] := va_S.rf
  replace hP : va_P G vwCl [] s.heap := hP
  have hl := lv_entry ([.int p0]) (n := 1) (Nat.le_of_ble_eq_true rfl)
  rw [lg_entry_eq]
  generalize (lg_sl ([.int p0]) ++ List.replicate (1 - (lg_sl ([.int p0])).length) Slot.unset).toArray = ls at hl ⊢
  replace hl : lv_has ls 1 [(0, .int p0)] := hl
  generalize hQQ : MQ below _ _ s 0 0 _ = QQ
  skip
  unfold wX8_lowest at hwp
  refine lv_iload_n hx hb dX8_lowest_0 rfl (lv_at hl 0 rfl) ?_
  refine lv_iconst (v := (-1)) hx hb dX8_lowest_1 (by decide) ?_
  refine lv_ixor hx hb dX8_lowest_2 ?_
  refine lv_iload_n hx hb dX8_lowest_3 rfl (lv_at hl 0 rfl) ?_
  refine lv_iconst (v := 1) hx hb dX8_lowest_4 (by decide) ?_
  refine lv_isub hx hb dX8_lowest_5 ?_
  refine lv_iand hx hb dX8_lowest_6 ?_
  refine xci (wr := []) (va_runS (As := [.int ((p0 ^^^ (-1)) &&& (p0 - 1))]) (rest := []) ⟨hx, hb, hml, hown, hts⟩ (zJ6_bitCount_0f7a4 l G cI cJ cZ s.heap.size ((p0 ^^^ (-1)) &&& (p0 - 1)) _ hwp) (va_cwS 1 hts (xgoodS wo_43 wo_44 wo_45 wo_46) rfl rfl rfl (by decide +kernel) ⟨Nat.le_of_ble_eq_true rfl, Nat.le_of_ble_eq_true rfl⟩) (xPreS hK hN hP hD [] (by decide) rfl) rfl rfl hl.1 rfl (lv_room (Nat.le_of_ble_eq_true rfl)) dX8_lowest_7 ⟨Nat.le_of_ble_eq_true rfl, Nat.le_of_ble_eq_true rfl⟩) hP hD hS hA [] [] rfl rfl (by decide) (by decide) (fun r7 u7 H locs hwp hP hD hS => ?_)
  replace hP : va_P G vwCl [] H := hP
  replace hD : va_D A [] := hD
  have hP9 : va_P G vwCl [] H := hP.sub [] rfl
  have hD9 : va_D A [] := hD.sub [] (by decide) rfl
  rw [← hQQ]
  exact W.iret (v := r7) hx hb hr (fun t ht hW => ⟨⟨_, (), rfl, hwp, by rw [ht]; exact hP9, hD9⟩, hS.F ht⟩) hS.2.2 dX8_lowest_10
def wLX6_neighbour_16 (f2 : Nat → Int32) (p0 : Int32) (p1 : Int32) (K : Int32 → Unit → Prop)  : Nat → Int32 → Int32 → Prop
  | 0, _, _ => False
  | n16 + 1, t16_0, t16_1 => ((p1 ≤ t16_1 → K t16_0 ()) ∧ (¬ p1 ≤ t16_1 → (wX6_behind f2 p0 t16_0 (fun r25 _ => (wLX6_neighbour_16 f2 p0 p1 K  n16) r25 (t16_1 + 1)))))
def wX6_neighbour (i0 : Int32) (f1 : Nat → Int32) (f2 : Nat → Int32) (p0 : Int32) (p1 : Int32) (K : Int32 → Unit → Prop) : Prop := (vp_in p0 20 ∧ (wX8_lowest (f1 (Int32.toNatClampNeg p0)) (fun r9 _ => (∃ n16, wLX6_neighbour_16 f2 p0 p1 K  n16 r9 0))))
set_option maxHeartbeats 4000000 in
set_option maxRecDepth 100000 in
theorem zX6_neighbour (l : Launch) (G : va_G) (cI cJ cZ : ClassId) (h0 h1 h2 h3 k0 k1 sz : Nat) (i0 : Int32) (f1 : Nat → Int32) (f2 : Nat → Int32) (p0 : Int32) (p1 : Int32) (K : Int32 → Unit → Prop) (hwp : wX6_neighbour i0 f1 f2 p0 p1 K) : Met l yX6_neighbour (xw yX6_neighbour cX6_neighbour 5 (some .int)) ({ frames := 2, cells := 0, slots := 0, locals := 40 }) (xPc G cI cJ cZ [.ref h0, .int p0, .int p1] [(h0, .inr (6, [.ref h1, .ref k0, .ref h3])), (h1, .inr (2, [.ref k1, .ref h2, .int i0])), (h2, aI cI 20 f1), (h3, aI cI 400 f2)] sz) (va_Qi (fun (r : Int32) (u : Unit) => K r u) (fun (u : Unit) t => xB G (va_A [(h0, .inr (6, [.ref h1, .ref k0, .ref h3])), (h1, .inr (2, [.ref k1, .ref h2, .int i0])), (h2, aI cI 20 f1), (h3, aI cI 400 f2)] sz) [(h0, .inr (6, [.ref h1, .ref k0, .ref h3])), (h1, .inr (2, [.ref k1, .ref h2, .int i0])), (h2, aI cI 20 f1), (h3, aI cI 400 f2)] t) (va_A [(h0, .inr (6, [.ref h1, .ref k0, .ref h3])), (h1, .inr (2, [.ref k1, .ref h2, .int i0])), (h2, aI cI 20 f1), (h3, aI cI 400 f2)] sz)) 0 0 (va_A [(h0, .inr (6, [.ref h1, .ref k0, .ref h3])), (h1, .inr (2, [.ref k1, .ref h2, .int i0])), (h2, aI cI 20 f1), (h3, aI cI 400 f2)] sz) := by
  refine Met.ofW (cc := cX6_neighbour) (maxL := 5) (ret := (some .int)) (by decide) rfl ?_
  intro p e s m args below meth c s₁ B hml hv
  obtain ⟨rfl, hsz, hP, hK, hD0, hN⟩ := hv
  have hx := B.exec
  have hb := B.bytes
  have hr := B.returns
  have hts : ∀ w ∈ xW, w.before _ s = true := fun w h => atoms_spec (ws := xw yX6_neighbour cX6_neighbour 5 (some .int)) B.pre w (List.mem_cons_of_mem _ h)
  have hown : s.vm.findClass RX6 = some m.cls := findClass_of_methodNamed B.named
  have hlocks := B.notSynchronized
  subst hsz
  have hD := hD0.self (sz := s.heap.size)
  clear hD0
  generalize hAe : va_A [(h0, .inr (6, [.ref h1, .ref k0, .ref h3])), (h1, .inr (2, [.ref k1, .ref h2, .int i0])), (h2, aI cI 20 f1), (h3, aI cI 400 f2)] s.heap.size = A at hD ⊢
  have hA : ∀ q : Nat, s.heap.size ≤ q → A q := fun q h => by rw [← hAe]; exact Or.inr h
  clear hAe
  have hS : va_S A s.heap s.heap [] := va_S.rf
  replace hP : va_P G vwCl [(h0, .inr (6, [.ref h1, .ref k0, .ref h3])), (h1, .inr (2, [.ref k1, .ref h2, .int i0])), (h2, aI cI 20 f1), (h3, aI cI 400 f2)] s.heap := hP
  have hl := lv_entry ([.ref h0, .int p0, .int p1]) (n := 5) (Nat.le_of_ble_eq_true rfl)
  rw [lg_entry_eq]
  generalize (lg_sl ([.ref h0, .int p0, .int p1]) ++ List.replicate (5 - (lg_sl ([.ref h0, .int p0, .int p1])).length) Slot.unset).toArray = ls at hl ⊢
  replace hl : lv_has ls 5 [(0, .ref h0), (1, .int p0), (2, .int p1)] := hl
  generalize hQQ : MQ below _ _ s 0 0 _ = QQ
  skip
  unfold wX6_neighbour at hwp
  refine lv_aload_n hx hb dX6_neighbour_0 rfl (lv_at hl 0 rfl) ?_
  refine va_get (D := G) (ci := 6) (v := .ref h1) (C := RX6) (T := TX6) (N := 3) hx hb hts xinX6 hown hK hP 0 rfl rfl 0 (by decide) (hts _ wo_47) (fun _ h9 => h9) rfl dX6_neighbour_1 ?_
  refine va_getN (D := G) (ci := 2) (v := .ref h2) (C := RX2) (T := TX2) (N := 3) hx hb hts xinX2 hown hK hP 1 rfl rfl 1 (by decide) (va_Nw.use rfl (hN.1 ("PlaneTests$Round", 22, "PlaneTests$Filled", "joined", "[I", "PlaneTests") (by decide +kernel))) (fun _ h9 => h9) rfl dX6_neighbour_4 ?_
  refine lv_iload_n hx hb dX6_neighbour_7 rfl (lv_at hl 1 rfl) ?_
  obtain ⟨hi, hwp⟩ := hwp
  refine va_iald hx hb hK hP 2 0 rfl rfl hi dX6_neighbour_8 ?_
  refine xci (wr := [(h0, .inr (6, [.ref h1, .ref k0, .ref h3])), (h1, .inr (2, [.ref k1, .ref h2, .int i0])), (h2, aI cI 20 f1), (h3, aI cI 400 f2)]) (va_runSN (As := [.int (f1 (Int32.toNatClampNeg p0))]) (rest := []) ⟨hx, hb, hml, hown, hts⟩ (zX8_lowest l G cI cJ cZ s.heap.size (f1 (Int32.toNatClampNeg p0)) _ hwp) ⟨(va_cnB 1 hts (xgood wo_48) rfl rfl rfl (hN.2 ("PlaneTests$Round", 27, yX8_lowest, "PlaneTests") (by decide +kernel)) (hts _ wo_49) (by decide +kernel) ⟨Nat.le_of_ble_eq_true rfl, Nat.le_of_ble_eq_true rfl⟩), hts _ wo_50, trivial⟩ (xPreS hK hN hP hD [] (by decide) rfl) rfl rfl hl.1 rfl (lv_room (Nat.le_of_ble_eq_true rfl)) dX6_neighbour_9 ⟨Nat.le_of_ble_eq_true rfl, Nat.le_of_ble_eq_true rfl⟩) hP hD hS hA [] [0, 1, 2, 3] rfl rfl (by decide) (by decide) (fun r9 u9 H locs hwp hP hD hS => ?_)
  replace hP : va_P G vwCl [(h0, .inr (6, [.ref h1, .ref k0, .ref h3])), (h1, .inr (2, [.ref k1, .ref h2, .int i0])), (h2, aI cI 20 f1), (h3, aI cI 400 f2)] H := hP
  replace hD : va_D A [(h0, .inr (6, [.ref h1, .ref k0, .ref h3])), (h1, .inr (2, [.ref k1, .ref h2, .int i0])), (h2, aI cI 20 f1), (h3, aI cI 400 f2)] := hD
  refine lv_istore_n (lv' := [(3, .int r9), (0, .ref h0), (1, .int p0), (2, .int p1)]) hx hb dX6_neighbour_12 rfl hl (by decide) rfl (fun ls hl => ?_)
  refine lv_iconst (v := 0) hx hb dX6_neighbour_13 (by decide) ?_
  refine lv_istore (lv' := [(4, .int 0), (3, .int r9), (0, .ref h0), (1, .int p0), (2, .int p1)]) hx hb dX6_neighbour_14 hl (by decide) rfl (fun ls hl => ?_)
  replace hl : lv_has ls 5 [(4, .int 0), (3, .int r9), (0, .ref h0), (1, .int p0), (2, .int p1)] := lv_sub hl [0, 1, 2, 3, 4] rfl
  obtain ⟨n1, hwp⟩ := hwp
  have hs1 : ∀ (n1 : Nat) (H : Heap) (locs : List Loc) (ls : Array Slot) (t16_0 : Int32) (t16_1 : Int32), wLX6_neighbour_16 f2 p0 p1 K  n1 t16_0 t16_1 → va_P G vwCl [(h0, .inr (6, [.ref h1, .ref k0, .ref h3])), (h1, .inr (2, [.ref k1, .ref h2, .int i0])), (h2, aI cI 20 f1), (h3, aI cI 400 f2)] H → va_D A [(h0, .inr (6, [.ref h1, .ref k0, .ref h3])), (h1, .inr (2, [.ref k1, .ref h2, .int i0])), (h2, aI cI 20 f1), (h3, aI cI 400 f2)] → va_S A s.heap H locs → lv_has ls 5 [(4, .int t16_1), (3, .int t16_0), (0, .ref h0), (1, .int p0), (2, .int p1)] → W p l e ((headSpec (xw yX6_neighbour cX6_neighbour 5 (some .int)) { frames := 2, cells := 0, slots := 0, locals := 40 }).room) s m ([.ref h0, .int p0, .int p1] : List Value).toArray below meth c H locs 0 0 QQ (F0 m 16 ls []) := by
    intro n1
    induction n1 with
    | zero => intro H locs ls t16_0 t16_1 hwp; exact False.elim hwp
    | succ n1 ih1 =>
      intro H locs ls t16_0 t16_1 hwp hP hD hS hl
      rw [wLX6_neighbour_16] at hwp
      refine lv_iload hx hb dX6_neighbour_16 (lv_at hl 0 rfl) ?_
      refine lv_iload_n hx hb dX6_neighbour_18 rfl (lv_at hl 4 rfl) ?_
      refine lv_icmp_ge (tgt := 35) hx hb dX6_neighbour_19 (by decide) (fun c19 => ?_) (fun c19 => ?_)
      · replace hwp := hwp.1 c19
        refine lv_iload_n hx hb dX6_neighbour_35 rfl (lv_at hl 1 rfl) ?_
        have hP9 : va_P G vwCl [(h0, .inr (6, [.ref h1, .ref k0, .ref h3])), (h1, .inr (2, [.ref k1, .ref h2, .int i0])), (h2, aI cI 20 f1), (h3, aI cI 400 f2)] H := hP.sub [0, 1, 2, 3] rfl
        have hD9 : va_D A [(h0, .inr (6, [.ref h1, .ref k0, .ref h3])), (h1, .inr (2, [.ref k1, .ref h2, .int i0])), (h2, aI cI 20 f1), (h3, aI cI 400 f2)] := hD.sub [0, 1, 2, 3] (by decide) rfl
        rw [← hQQ]
        exact W.iret (v := t16_0) hx hb hr (fun t ht hW => ⟨⟨_, (), rfl, hwp, by rw [ht]; exact hP9, hD9⟩, hS.F ht⟩) hS.2.2 dX6_neighbour_36
      · replace hwp := hwp.2 c19
        refine lv_aload_n hx hb dX6_neighbour_22 rfl (lv_at hl 2 rfl) ?_
        refine lv_iload_n hx hb dX6_neighbour_23 rfl (lv_at hl 3 rfl) ?_
        refine lv_iload_n hx hb dX6_neighbour_24 rfl (lv_at hl 1 rfl) ?_
        refine xci (wr := [(h1, .inr (2, [.ref k1, .ref h2, .int i0])), (h2, aI cI 20 f1)]) (va_runV (As := [.int p0, .int t16_0]) (rest := []) ⟨hx, hb, hml, hown, hts⟩ (zX6_behind l G cI cJ cZ h0 h3 h1 k0 H.size f2 p0 t16_0 _ hwp) (cwV 2 hts (xgoodV wo_51 wo_52 wo_53 wo_54 wo_55) rfl rfl rfl (by decide +kernel) ⟨Nat.le_of_ble_eq_true rfl, Nat.le_of_ble_eq_true rfl⟩) (xPreV (q := (RX6, TX6, 3)) (q0 := 0) hK hN hP hD [0, 3] (by decide) rfl rfl rfl) rfl rfl hl.1 rfl (lv_room (Nat.le_of_ble_eq_true rfl)) dX6_neighbour_25 ⟨Nat.le_of_ble_eq_true rfl, Nat.le_of_ble_eq_true rfl⟩) hP hD hS hA [0, 3] [1, 2] rfl rfl (by decide) (by decide) (fun r25 u25 H locs hwp hP hD hS => ?_)
        replace hP : va_P G vwCl [(h1, .inr (2, [.ref k1, .ref h2, .int i0])), (h2, aI cI 20 f1), (h0, .inr (6, [.ref h1, .ref k0, .ref h3])), (h3, aI cI 400 f2)] H := hP
        replace hD : va_D A [(h1, .inr (2, [.ref k1, .ref h2, .int i0])), (h2, aI cI 20 f1), (h0, .inr (6, [.ref h1, .ref k0, .ref h3])), (h3, aI cI 400 f2)] := hD
        refine lv_istore_n (lv' := [(3, .int r25), (4, .int t16_1), (0, .ref h0), (1, .int p0), (2, .int p1)]) hx hb dX6_neighbour_28 rfl hl (by decide) rfl (fun ls hl => ?_)
        refine lv_iinc (v := (t16_1 + 1)) (lv' := [(4, .int (t16_1 + 1)), (3, .int r25), (0, .ref h0), (1, .int p0), (2, .int p1)]) hx hb dX6_neighbour_29 hl (k := 1) rfl rfl (by decide) rfl (fun ls hl => ?_)
        refine lv_goto (tgt := 16) hx hb dX6_neighbour_32 (by decide) ?_
        replace hl : lv_has ls 5 [(4, .int (t16_1 + 1)), (3, .int r25), (0, .ref h0), (1, .int p0), (2, .int p1)] := lv_sub hl [0, 1, 2, 3, 4] rfl
        replace hP : va_P G vwCl [(h0, .inr (6, [.ref h1, .ref k0, .ref h3])), (h1, .inr (2, [.ref k1, .ref h2, .int i0])), (h2, aI cI 20 f1), (h3, aI cI 400 f2)] H := hP.sub [2, 0, 1, 3] rfl
        replace hD : va_D A [(h0, .inr (6, [.ref h1, .ref k0, .ref h3])), (h1, .inr (2, [.ref k1, .ref h2, .int i0])), (h2, aI cI 20 f1), (h3, aI cI 400 f2)] := hD.sub [2, 0, 1, 3] (by decide) rfl
        exact ih1 H locs ls r25 (t16_1 + 1) hwp hP hD hS hl
  exact hs1 n1 H locs ls r9 0 hwp hP hD hS hl
def wX6_thirdsOf (f0 : Nat → Int32) (p0 : Int32) (p1 : Int32) (K : Int32 → Unit → Prop) : Prop := (vp_in ((p0 * 20) + p1) 400 ∧ K (f0 (Int32.toNatClampNeg ((p0 * 20) + p1))) ())
set_option maxHeartbeats 4000000 in
set_option maxRecDepth 100000 in
theorem zX6_thirdsOf (l : Launch) (G : va_G) (cI cJ cZ : ClassId) (h0 h1 k0 k1 sz : Nat) (f0 : Nat → Int32) (p0 : Int32) (p1 : Int32) (K : Int32 → Unit → Prop) (hwp : wX6_thirdsOf f0 p0 p1 K) : Met l yX6_thirdsOf (xw yX6_thirdsOf cX6_thirdsOf 3 (some .int)) ({ frames := 0, cells := 0, slots := 0, locals := 0 }) (xPc G cI cJ cZ [.ref h0, .int p0, .int p1] [(h0, .inr (6, [.ref k0, .ref h1, .ref k1])), (h1, aI cI 400 f0)] sz) (va_Qi (fun (r : Int32) (u : Unit) => K r u) (fun (u : Unit) t => xB G (va_A [(h0, .inr (6, [.ref k0, .ref h1, .ref k1])), (h1, aI cI 400 f0)] sz) [(h0, .inr (6, [.ref k0, .ref h1, .ref k1])), (h1, aI cI 400 f0)] t) (va_A [(h0, .inr (6, [.ref k0, .ref h1, .ref k1])), (h1, aI cI 400 f0)] sz)) 0 0 (va_A [(h0, .inr (6, [.ref k0, .ref h1, .ref k1])), (h1, aI cI 400 f0)] sz) := by
  refine Met.ofW (cc := cX6_thirdsOf) (maxL := 3) (ret := (some .int)) (by decide) rfl ?_
  intro p e s m args below meth c s₁ B hml hv
  obtain ⟨rfl, hsz, hP, hK, hD0, hN⟩ := hv
  have hx := B.exec
  have hb := B.bytes
  have hr := B.returns
  have hts : ∀ w ∈ xW, w.before _ s = true := fun w h => atoms_spec (ws := xw yX6_thirdsOf cX6_thirdsOf 3 (some .int)) B.pre w (List.mem_cons_of_mem _ h)
  have hown : s.vm.findClass RX6 = some m.cls := findClass_of_methodNamed B.named
  have hlocks := B.notSynchronized
  subst hsz
  have hD := hD0.self (sz := s.heap.size)
  clear hD0
  generalize hAe : va_A [(h0, .inr (6, [.ref k0, .ref h1, .ref k1])), (h1, aI cI 400 f0)] s.heap.size = A at hD ⊢
  have hA : ∀ q : Nat, s.heap.size ≤ q → A q := fun q h => by rw [← hAe]; exact Or.inr h
  clear hAe
  have hS : va_S A s.heap s.heap [] := va_S.rf
  replace hP : va_P G vwCl [(h0, .inr (6, [.ref k0, .ref h1, .ref k1])), (h1, aI cI 400 f0)] s.heap := hP
  have hl := lv_entry ([.ref h0, .int p0, .int p1]) (n := 3) (Nat.le_of_ble_eq_true rfl)
  rw [lg_entry_eq]
  generalize (lg_sl ([.ref h0, .int p0, .int p1]) ++ List.replicate (3 - (lg_sl ([.ref h0, .int p0, .int p1])).length) Slot.unset).toArray = ls at hl ⊢
  replace hl : lv_has ls 3 [(0, .ref h0), (1, .int p0), (2, .int p1)] := hl
  generalize hQQ : MQ below _ _ s 0 0 _ = QQ
  skip
  unfold wX6_thirdsOf at hwp
  refine lv_aload_n hx hb dX6_thirdsOf_0 rfl (lv_at hl 0 rfl) ?_
  refine va_get (D := G) (ci := 6) (v := .ref h1) (C := RX6) (T := TX6) (N := 3) hx hb hts xinX6 hown hK hP 0 rfl rfl 1 (by decide) (hts _ wo_56) (fun _ h9 => h9) rfl dX6_thirdsOf_1 ?_
  refine lv_iload_n hx hb dX6_thirdsOf_4 rfl (lv_at hl 1 rfl) ?_
  refine lv_bipush (v := 20) hx hb dX6_thirdsOf_5 (by decide) ?_
  refine lv_imul hx hb dX6_thirdsOf_7 ?_
  refine lv_iload_n hx hb dX6_thirdsOf_8 rfl (lv_at hl 2 rfl) ?_
  refine lv_iadd hx hb dX6_thirdsOf_9 ?_
  obtain ⟨hi, hwp⟩ := hwp
  refine va_iald hx hb hK hP 1 0 rfl rfl hi dX6_thirdsOf_10 ?_
  have hP9 : va_P G vwCl [(h0, .inr (6, [.ref k0, .ref h1, .ref k1])), (h1, aI cI 400 f0)] s.heap := hP.sub [0, 1] rfl
  have hD9 : va_D A [(h0, .inr (6, [.ref k0, .ref h1, .ref k1])), (h1, aI cI 400 f0)] := hD.sub [0, 1] (by decide) rfl
  rw [← hQQ]
  exact W.iret (v := (f0 (Int32.toNatClampNeg ((p0 * 20) + p1)))) hx hb hr (fun t ht hW => ⟨⟨_, (), rfl, hwp, by rw [ht]; exact hP9, hD9⟩, hS.F ht⟩) hS.2.2 dX6_thirdsOf_11
def wLJ7_fill_53178_1_5 (p0 : Int32) (K : ((Nat → Int32)) → Prop)  : Nat → (Nat → Int32) → Int32 → Prop
  | 0, _, _ => False
  | n5 + 1, t5_0, t5_1 => ((400 ≤ t5_1 → K t5_0) ∧ (¬ 400 ≤ t5_1 → (vp_in t5_1 400 ∧ (∀ g13 : Nat → Int32, g13 = upd t5_0 (Int32.toNatClampNeg t5_1) p0 → (wLJ7_fill_53178_1_5 p0 K  n5) g13 (t5_1 + 1)))))
def wJ7_fill_53178_1 (f0 : Nat → Int32) (p0 : Int32) (K : ((Nat → Int32)) → Prop) : Prop := (∃ n5, wLJ7_fill_53178_1_5 p0 K  n5 f0 0)
set_option maxHeartbeats 4000000 in
set_option maxRecDepth 100000 in
theorem zJ7_fill_53178_1 (l : Launch) (G : va_G) (cI cJ cZ : ClassId) (h0 sz : Nat) (f0 : Nat → Int32) (p0 : Int32) (K : ((Nat → Int32)) → Prop) (hwp : wJ7_fill_53178_1 f0 p0 K) : Met l yJ7_fill_53178 (xw yJ7_fill_53178 cJ7_fill_53178 4 none) ({ frames := 0, cells := 0, slots := 0, locals := 0 }) (xPc G cI cJ cZ [.ref h0, .int p0] [(h0, aI cI 400 f0)] sz) (va_Qv (fun (u : (Nat → Int32)) => K u) (fun (u : (Nat → Int32)) t => xB G (va_A [(h0, aI cI 400 f0)] sz) [(h0, aI cI 400 u)] t) (va_A [(h0, aI cI 400 f0)] sz)) 0 0 (va_A [(h0, aI cI 400 f0)] sz) := by
  refine Met.ofW (cc := cJ7_fill_53178) (maxL := 4) (ret := none) (by decide) rfl ?_
  intro p e s m args below meth c s₁ B hml hv
  obtain ⟨rfl, hsz, hP, hK, hD0, hN⟩ := hv
  have hx := B.exec
  have hb := B.bytes
  have hr := B.returns
  have hts : ∀ w ∈ xW, w.before _ s = true := fun w h => atoms_spec (ws := xw yJ7_fill_53178 cJ7_fill_53178 4 none) B.pre w (List.mem_cons_of_mem _ h)
  have hown : s.vm.findClass RJ7 = some m.cls := findClass_of_methodNamed B.named
  have hlocks := B.notSynchronized
  subst hsz
  have hD := hD0.self (sz := s.heap.size)
  clear hD0
  generalize hAe : va_A [(h0, aI cI 400 f0)] s.heap.size = A at hD ⊢
  have hA : ∀ q : Nat, s.heap.size ≤ q → A q := fun q h => by rw [← hAe]; exact Or.inr h
  clear hAe
  have hS : va_S A s.heap s.heap [] := va_S.rf
  replace hP : va_P G vwCl [(h0, aI cI 400 f0)] s.heap := hP
  have hl := lv_entry ([.ref h0, .int p0]) (n := 4) (Nat.le_of_ble_eq_true rfl)
  rw [lg_entry_eq]
  generalize (lg_sl ([.ref h0, .int p0]) ++ List.replicate (4 - (lg_sl ([.ref h0, .int p0])).length) Slot.unset).toArray = ls at hl ⊢
  replace hl : lv_has ls 4 [(0, .ref h0), (1, .int p0)] := hl
  generalize hQQ : MQ below _ _ s 0 0 _ = QQ
  skip
  unfold wJ7_fill_53178_1 at hwp
  refine lv_iconst (v := 0) hx hb dJ7_fill_53178_0 (by decide) ?_
  refine lv_istore_n (lv' := [(2, .int 0), (0, .ref h0), (1, .int p0)]) hx hb dJ7_fill_53178_1 rfl hl (by decide) rfl (fun ls hl => ?_)
  refine lv_aload_n hx hb dJ7_fill_53178_2 rfl (lv_at hl 1 rfl) ?_
  refine va_alen (v := 400) hx hb hK hP 0 0 rfl rfl rfl dJ7_fill_53178_3 ?_
  refine lv_istore_n (lv' := [(3, .int 400), (2, .int 0), (0, .ref h0), (1, .int p0)]) hx hb dJ7_fill_53178_4 rfl hl (by decide) rfl (fun ls hl => ?_)
  refine xgen (Pp := fun H locs => W p l e _ s m _ below meth c H locs _ _ _ _) (fun H locs hP hD hS => ?_) hP hD hS
  replace hl : lv_has ls 4 [(3, .int 400), (2, .int 0), (0, .ref h0), (1, .int p0)] := lv_sub hl [0, 1, 2, 3] rfl
  obtain ⟨n1, hwp⟩ := hwp
  have hs1 : ∀ (n1 : Nat) (H : Heap) (locs : List Loc) (ls : Array Slot) (t5_0 : Nat → Int32) (t5_1 : Int32), wLJ7_fill_53178_1_5 p0 K  n1 t5_0 t5_1 → va_P G vwCl [(h0, aI cI 400 t5_0)] H → va_D A [(h0, aI cI 400 t5_0)] → va_S A s.heap H locs → lv_has ls 4 [(3, .int 400), (2, .int t5_1), (0, .ref h0), (1, .int p0)] → W p l e ((headSpec (xw yJ7_fill_53178 cJ7_fill_53178 4 none) { frames := 0, cells := 0, slots := 0, locals := 0 }).room) s m ([.ref h0, .int p0] : List Value).toArray below meth c H locs 0 0 QQ (F0 m 5 ls []) := by
    intro n1
    induction n1 with
    | zero => intro H locs ls t5_0 t5_1 hwp; exact False.elim hwp
    | succ n1 ih1 =>
      intro H locs ls t5_0 t5_1 hwp hP hD hS hl
      rw [wLJ7_fill_53178_1_5] at hwp
      refine lv_iload_n hx hb dJ7_fill_53178_5 rfl (lv_at hl 1 rfl) ?_
      refine lv_iload_n hx hb dJ7_fill_53178_6 rfl (lv_at hl 0 rfl) ?_
      refine lv_icmp_ge (tgt := 20) hx hb dJ7_fill_53178_7 (by decide) (fun c7 => ?_) (fun c7 => ?_)
      · replace hwp := hwp.1 c7
        have hP9 : va_P G vwCl [(h0, aI cI 400 t5_0)] H := hP.sub [0] rfl
        have hD9 : va_D A [(h0, aI cI 400 t5_0)] := hD.sub [0] (by decide) rfl
        rw [← hQQ]
        exact W.vret hx hb hr (fun t ht hW => ⟨⟨t5_0, rfl, hwp, by rw [ht]; exact hP9, hD9⟩, hS.F ht⟩) hS.2.2 dJ7_fill_53178_20
      · replace hwp := hwp.2 c7
        refine lv_aload_n hx hb dJ7_fill_53178_10 rfl (lv_at hl 2 rfl) ?_
        refine lv_iload_n hx hb dJ7_fill_53178_11 rfl (lv_at hl 1 rfl) ?_
        refine lv_iload_n hx hb dJ7_fill_53178_12 rfl (lv_at hl 3 rfl) ?_
        obtain ⟨hi, hwp⟩ := hwp
        refine va_iast hx hb hK hP hD hS 0 0 rfl rfl hi dJ7_fill_53178_13 (fun H locs hP hD hS => ?_)
        obtain ⟨g13, eg13⟩ : ∃ z, z = upd t5_0 (Int32.toNatClampNeg t5_1) p0 := ⟨_, rfl⟩
        replace hwp := hwp g13 eg13
        replace hP : va_P G vwCl [(h0, aI cI 400 g13)] H := by rw [eg13]; exact hP
        replace hD : va_D A [(h0, aI cI 400 g13)] := by rw [eg13]; exact hD
        clear eg13
        refine lv_iinc (v := (t5_1 + 1)) (lv' := [(2, .int (t5_1 + 1)), (3, .int 400), (0, .ref h0), (1, .int p0)]) hx hb dJ7_fill_53178_14 hl (k := 1) rfl rfl (by decide) rfl (fun ls hl => ?_)
        refine lv_goto (tgt := 5) hx hb dJ7_fill_53178_17 (by decide) ?_
        replace hl : lv_has ls 4 [(3, .int 400), (2, .int (t5_1 + 1)), (0, .ref h0), (1, .int p0)] := lv_sub hl [1, 0, 2, 3] rfl
        exact ih1 H locs ls g13 (t5_1 + 1) hwp hP hD hS hl
  exact hs1 n1 H locs ls f0 0 hwp hP hD hS hl
def wX8_hasBit (p0 : Int32) (p1 : Int32) (K : Int32 → Unit → Prop) : Prop := (((((Int32.toUInt32 p0 >>> (Int32.toUInt32 p1 &&& Int32.toUInt32 31)).toInt32) &&& 1) = 0 → K (0 : Int32) ()) ∧ (¬ (((Int32.toUInt32 p0 >>> (Int32.toUInt32 p1 &&& Int32.toUInt32 31)).toInt32) &&& 1) = 0 → K (1 : Int32) ()))
set_option maxHeartbeats 4000000 in
set_option maxRecDepth 100000 in
theorem zX8_hasBit (l : Launch) (G : va_G) (cI cJ cZ : ClassId) ( sz : Nat) (p0 : Int32) (p1 : Int32) (K : Int32 → Unit → Prop) (hwp : wX8_hasBit p0 p1 K) : Met l yX8_hasBit (xw yX8_hasBit cX8_hasBit 2 (some .boolean)) ({ frames := 0, cells := 0, slots := 0, locals := 0 }) (xPc G cI cJ cZ [.int p0, .int p1] [] sz) (va_Qi (fun (r : Int32) (u : Unit) => K r u) (fun (u : Unit) t => xB G (va_A [] sz) [] t) (va_A [] sz)) 0 0 (va_A [] sz) := by
  refine Met.ofW (cc := cX8_hasBit) (maxL := 2) (ret := (some .boolean)) (by decide) rfl ?_
  intro p e s m args below meth c s₁ B hml hv
  obtain ⟨rfl, hsz, hP, hK, hD0, hN⟩ := hv
  have hx := B.exec
  have hb := B.bytes
  have hr := B.returns
  have hts : ∀ w ∈ xW, w.before _ s = true := fun w h => atoms_spec (ws := xw yX8_hasBit cX8_hasBit 2 (some .boolean)) B.pre w (List.mem_cons_of_mem _ h)
  have hown : s.vm.findClass RX8 = some m.cls := findClass_of_methodNamed B.named
  have hlocks := B.notSynchronized
  subst hsz
  have hD := hD0.self (sz := s.heap.size)
  clear hD0
  generalize hAe : va_A [] s.heap.size = A at hD ⊢
  have hA : ∀ q : Nat, s.heap.size ≤ q → A q := fun q h => by rw [← hAe]; exact Or.inr h
  clear hAe
  have hS : va_S A s.heap s.heap [] := va_S.rf
  replace hP : va_P G vwCl [] s.heap := hP
  have hl := lv_entry ([.int p0, .int p1]) (n := 2) (Nat.le_of_ble_eq_true rfl)
  rw [lg_entry_eq]
  generalize (lg_sl ([.int p0, .int p1]) ++ List.replicate (2 - (lg_sl ([.int p0, .int p1])).length) Slot.unset).toArray = ls at hl ⊢
  replace hl : lv_has ls 2 [(0, .int p0), (1, .int p1)] := hl
  generalize hQQ : MQ below _ _ s 0 0 _ = QQ
  skip
  unfold wX8_hasBit at hwp
  refine lv_iload_n hx hb dX8_hasBit_0 rfl (lv_at hl 0 rfl) ?_
  refine lv_iload_n hx hb dX8_hasBit_1 rfl (lv_at hl 1 rfl) ?_
  refine lv_iushr (v := ((Int32.toUInt32 p0 >>> (Int32.toUInt32 p1 &&& Int32.toUInt32 31)).toInt32)) hx hb dX8_hasBit_2 rfl ?_
  refine lv_iconst (v := 1) hx hb dX8_hasBit_3 (by decide) ?_
  refine lv_iand hx hb dX8_hasBit_4 ?_
  refine lv_if_eq (tgt := 12) hx hb dX8_hasBit_5 (by decide) (fun c5 => ?_) (fun c5 => ?_)
  · replace hwp := hwp.1 c5
    refine lv_iconst (v := 0) hx hb dX8_hasBit_12 (by decide) ?_
    have hP9 : va_P G vwCl [] s.heap := hP.sub [] rfl
    have hD9 : va_D A [] := hD.sub [] (by decide) rfl
    rw [← hQQ]
    exact W.zret (v := 0) hx hb hr rfl (fun t ht hW => ⟨⟨_, (), rfl, hwp, by rw [ht]; exact hP9, hD9⟩, hS.F ht⟩) hS.2.2 dX8_hasBit_13
  · replace hwp := hwp.2 c5
    refine lv_iconst (v := 1) hx hb dX8_hasBit_8 (by decide) ?_
    refine lv_goto (tgt := 13) hx hb dX8_hasBit_9 (by decide) ?_
    have hP9 : va_P G vwCl [] s.heap := hP.sub [] rfl
    have hD9 : va_D A [] := hD.sub [] (by decide) rfl
    rw [← hQQ]
    exact W.zret (v := 1) hx hb hr rfl (fun t ht hW => ⟨⟨_, (), rfl, hwp, by rw [ht]; exact hP9, hD9⟩, hS.F ht⟩) hS.2.2 dX8_hasBit_13
def wLX8_reached_10 (f0 : Nat → Int32) (p1 : Int32) (K : Int32 → Unit → Prop)  : Nat → Int32 → Int32 → Int32 → Prop
  | 0, _, _, _ => False
  | n10 + 1, t10_0, t10_1, t10_2 => ((21 ≤ t10_2 → K t10_0 ()) ∧ (¬ 21 ≤ t10_2 → ((t10_1 = 0 → K t10_0 ()) ∧ (¬ t10_1 = 0 → (wX8_lowest t10_1 (fun r24 _ => (vp_in r24 20 ∧ (∀ v39 : Int32, v39 = (((f0 (Int32.toNatClampNeg r24)) &&& p1) &&& (t10_0 ^^^ (-1))) → (∀ v45 : Int32, v45 = (t10_0 ||| v39) → (∀ v58 : Int32, v58 = ((t10_1 &&& (((1 : Int32) <<< (r24 &&& 31)) ^^^ (-1))) ||| v39) → (wLX8_reached_10 f0 p1 K  n10) v45 v58 (t10_2 + 1)))))))))))
def wX8_reached (f0 : Nat → Int32) (p0 : Int32) (p1 : Int32) (K : Int32 → Unit → Prop) : Prop := (∀ v3 : Int32, v3 = ((1 : Int32) <<< (p0 &&& 31)) → (∃ n10, wLX8_reached_10 f0 p1 K  n10 v3 v3 0))
set_option maxHeartbeats 4000000 in
set_option maxRecDepth 100000 in
theorem zX8_reached (l : Launch) (G : va_G) (cI cJ cZ : ClassId) (h0 sz : Nat) (f0 : Nat → Int32) (p0 : Int32) (p1 : Int32) (K : Int32 → Unit → Prop) (hwp : wX8_reached f0 p0 p1 K) : Met l yX8_reached (xw yX8_reached cX8_reached 8 (some .int)) ({ frames := 2, cells := 0, slots := 0, locals := 40 }) (xPc G cI cJ cZ [.ref h0, .int p0, .int p1] [(h0, aI cI 20 f0)] sz) (va_Qi (fun (r : Int32) (u : Unit) => K r u) (fun (u : Unit) t => xB G (va_A [(h0, aI cI 20 f0)] sz) [(h0, aI cI 20 f0)] t) (va_A [(h0, aI cI 20 f0)] sz)) 0 0 (va_A [(h0, aI cI 20 f0)] sz) := by
  refine Met.ofW (cc := cX8_reached) (maxL := 8) (ret := (some .int)) (by decide) rfl ?_
  intro p e s m args below meth c s₁ B hml hv
  obtain ⟨rfl, hsz, hP, hK, hD0, hN⟩ := hv
  have hx := B.exec
  have hb := B.bytes
  have hr := B.returns
  have hts : ∀ w ∈ xW, w.before _ s = true := fun w h => atoms_spec (ws := xw yX8_reached cX8_reached 8 (some .int)) B.pre w (List.mem_cons_of_mem _ h)
  have hown : s.vm.findClass RX8 = some m.cls := findClass_of_methodNamed B.named
  have hlocks := B.notSynchronized
  subst hsz
  have hD := hD0.self (sz := s.heap.size)
  clear hD0
  generalize hAe : va_A [(h0, aI cI 20 f0)] s.heap.size = A at hD ⊢
  have hA : ∀ q : Nat, s.heap.size ≤ q → A q := fun q h => by rw [← hAe]; exact Or.inr h
  clear hAe
  have hS : va_S A s.heap s.heap [] := va_S.rf
  replace hP : va_P G vwCl [(h0, aI cI 20 f0)] s.heap := hP
  have hl := lv_entry ([.ref h0, .int p0, .int p1]) (n := 8) (Nat.le_of_ble_eq_true rfl)
  rw [lg_entry_eq]
  generalize (lg_sl ([.ref h0, .int p0, .int p1]) ++ List.replicate (8 - (lg_sl ([.ref h0, .int p0, .int p1])).length) Slot.unset).toArray = ls at hl ⊢
  replace hl : lv_has ls 8 [(0, .ref h0), (1, .int p0), (2, .int p1)] := hl
  generalize hQQ : MQ below _ _ s 0 0 _ = QQ
  skip
  unfold wX8_reached at hwp
  refine lv_iconst (v := 1) hx hb dX8_reached_0 (by decide) ?_
  refine lv_iload_n hx hb dX8_reached_1 rfl (lv_at hl 1 rfl) ?_
  refine lv_ishl hx hb dX8_reached_2 ?_
  refine lv_topi (fun v3 ev3 => ?_)
  replace hwp := hwp v3 ev3
  clear ev3
  refine lv_istore_n (lv' := [(3, .int v3), (0, .ref h0), (1, .int p0), (2, .int p1)]) hx hb dX8_reached_3 rfl hl (by decide) rfl (fun ls hl => ?_)
  refine lv_iload_n hx hb dX8_reached_4 rfl (lv_at hl 0 rfl) ?_
  refine lv_istore (lv' := [(4, .int v3), (3, .int v3), (0, .ref h0), (1, .int p0), (2, .int p1)]) hx hb dX8_reached_5 hl (by decide) rfl (fun ls hl => ?_)
  refine lv_iconst (v := 0) hx hb dX8_reached_7 (by decide) ?_
  refine lv_istore (lv' := [(5, .int 0), (4, .int v3), (3, .int v3), (0, .ref h0), (1, .int p0), (2, .int p1)]) hx hb dX8_reached_8 hl (by decide) rfl (fun ls hl => ?_)
  refine xgen (Pp := fun H locs => W p l e _ s m _ below meth c H locs _ _ _ _) (fun H locs hP hD hS => ?_) hP hD hS
  replace hl : lv_has ls 8 [(5, .int 0), (4, .int v3), (3, .int v3), (0, .ref h0), (2, .int p1)] := lv_sub hl [0, 1, 2, 3, 5] rfl
  obtain ⟨n1, hwp⟩ := hwp
  have hs1 : ∀ (n1 : Nat) (H : Heap) (locs : List Loc) (ls : Array Slot) (t10_0 : Int32) (t10_1 : Int32) (t10_2 : Int32), wLX8_reached_10 f0 p1 K  n1 t10_0 t10_1 t10_2 → va_P G vwCl [(h0, aI cI 20 f0)] H → va_D A [(h0, aI cI 20 f0)] → va_S A s.heap H locs → lv_has ls 8 [(5, .int t10_2), (4, .int t10_1), (3, .int t10_0), (0, .ref h0), (2, .int p1)] → W p l e ((headSpec (xw yX8_reached cX8_reached 8 (some .int)) { frames := 2, cells := 0, slots := 0, locals := 40 }).room) s m ([.ref h0, .int p0, .int p1] : List Value).toArray below meth c H locs 0 0 QQ (F0 m 10 ls []) := by
    intro n1
    induction n1 with
    | zero => intro H locs ls t10_0 t10_1 t10_2 hwp; exact False.elim hwp
    | succ n1 ih1 =>
      intro H locs ls t10_0 t10_1 t10_2 hwp hP hD hS hl
      rw [wLX8_reached_10] at hwp
      refine lv_iload hx hb dX8_reached_10 (lv_at hl 0 rfl) ?_
      refine lv_bipush (v := 21) hx hb dX8_reached_12 (by decide) ?_
      refine lv_icmp_ge (tgt := 66) hx hb dX8_reached_14 (by decide) (fun c14 => ?_) (fun c14 => ?_)
      · replace hwp := hwp.1 c14
        refine lv_iload_n hx hb dX8_reached_66 rfl (lv_at hl 2 rfl) ?_
        have hP9 : va_P G vwCl [(h0, aI cI 20 f0)] H := hP.sub [0] rfl
        have hD9 : va_D A [(h0, aI cI 20 f0)] := hD.sub [0] (by decide) rfl
        rw [← hQQ]
        exact W.iret (v := t10_0) hx hb hr (fun t ht hW => ⟨⟨_, (), rfl, hwp, by rw [ht]; exact hP9, hD9⟩, hS.F ht⟩) hS.2.2 dX8_reached_67
      · replace hwp := hwp.2 c14
        refine lv_iload hx hb dX8_reached_17 (lv_at hl 1 rfl) ?_
        refine lv_if_eq (tgt := 66) hx hb dX8_reached_19 (by decide) (fun c19 => ?_) (fun c19 => ?_)
        · replace hwp := hwp.1 c19
          refine lv_iload_n hx hb dX8_reached_66 rfl (lv_at hl 2 rfl) ?_
          have hP9 : va_P G vwCl [(h0, aI cI 20 f0)] H := hP.sub [0] rfl
          have hD9 : va_D A [(h0, aI cI 20 f0)] := hD.sub [0] (by decide) rfl
          rw [← hQQ]
          exact W.iret (v := t10_0) hx hb hr (fun t ht hW => ⟨⟨_, (), rfl, hwp, by rw [ht]; exact hP9, hD9⟩, hS.F ht⟩) hS.2.2 dX8_reached_67
        · replace hwp := hwp.2 c19
          refine lv_iload hx hb dX8_reached_22 (lv_at hl 1 rfl) ?_
          refine xci (wr := [(h0, aI cI 20 f0)]) (va_runS (As := [.int t10_1]) (rest := []) ⟨hx, hb, hml, hown, hts⟩ (zX8_lowest l G cI cJ cZ H.size t10_1 _ hwp) (va_cwS 1 hts (xgoodS wo_48 wo_57 wo_50 wo_49) rfl rfl rfl (by decide +kernel) ⟨Nat.le_of_ble_eq_true rfl, Nat.le_of_ble_eq_true rfl⟩) (xPreS hK hN hP hD [] (by decide) rfl) rfl rfl hl.1 rfl (lv_room (Nat.le_of_ble_eq_true rfl)) dX8_reached_24 ⟨Nat.le_of_ble_eq_true rfl, Nat.le_of_ble_eq_true rfl⟩) hP hD hS hA [] [0] rfl rfl (by decide) (by decide) (fun r24 u24 H locs hwp hP hD hS => ?_)
          replace hP : va_P G vwCl [(h0, aI cI 20 f0)] H := hP
          replace hD : va_D A [(h0, aI cI 20 f0)] := hD
          refine lv_istore (lv' := [(6, .int r24), (5, .int t10_2), (4, .int t10_1), (3, .int t10_0), (0, .ref h0), (2, .int p1)]) hx hb dX8_reached_27 hl (by decide) rfl (fun ls hl => ?_)
          refine lv_aload_n hx hb dX8_reached_29 rfl (lv_at hl 4 rfl) ?_
          refine lv_iload hx hb dX8_reached_30 (lv_at hl 0 rfl) ?_
          obtain ⟨hi, hwp⟩ := hwp
          refine va_iald hx hb hK hP 0 0 rfl rfl hi dX8_reached_32 ?_
          refine lv_iload_n hx hb dX8_reached_33 rfl (lv_at hl 5 rfl) ?_
          refine lv_iand hx hb dX8_reached_34 ?_
          refine lv_iload_n hx hb dX8_reached_35 rfl (lv_at hl 3 rfl) ?_
          refine lv_iconst (v := (-1)) hx hb dX8_reached_36 (by decide) ?_
          refine lv_ixor hx hb dX8_reached_37 ?_
          refine lv_iand hx hb dX8_reached_38 ?_
          refine lv_topi (fun v39 ev39 => ?_)
          replace hwp := hwp v39 ev39
          clear ev39
          refine lv_istore (lv' := [(7, .int v39), (6, .int r24), (5, .int t10_2), (4, .int t10_1), (3, .int t10_0), (0, .ref h0), (2, .int p1)]) hx hb dX8_reached_39 hl (by decide) rfl (fun ls hl => ?_)
          refine lv_iload_n hx hb dX8_reached_41 rfl (lv_at hl 4 rfl) ?_
          refine lv_iload hx hb dX8_reached_42 (lv_at hl 0 rfl) ?_
          refine lv_ior hx hb dX8_reached_44 ?_
          refine lv_topi (fun v45 ev45 => ?_)
          replace hwp := hwp v45 ev45
          clear ev45
          refine lv_istore_n (lv' := [(3, .int v45), (7, .int v39), (6, .int r24), (5, .int t10_2), (4, .int t10_1), (0, .ref h0), (2, .int p1)]) hx hb dX8_reached_45 rfl hl (by decide) rfl (fun ls hl => ?_)
          refine lv_iload hx hb dX8_reached_46 (lv_at hl 4 rfl) ?_
          refine lv_iconst (v := 1) hx hb dX8_reached_48 (by decide) ?_
          refine lv_iload hx hb dX8_reached_49 (lv_at hl 2 rfl) ?_
          refine lv_ishl hx hb dX8_reached_51 ?_
          refine lv_iconst (v := (-1)) hx hb dX8_reached_52 (by decide) ?_
          refine lv_ixor hx hb dX8_reached_53 ?_
          refine lv_iand hx hb dX8_reached_54 ?_
          refine lv_iload hx hb dX8_reached_55 (lv_at hl 1 rfl) ?_
          refine lv_ior hx hb dX8_reached_57 ?_
          refine lv_topi (fun v58 ev58 => ?_)
          replace hwp := hwp v58 ev58
          clear ev58
          refine lv_istore (lv' := [(4, .int v58), (3, .int v45), (7, .int v39), (6, .int r24), (5, .int t10_2), (0, .ref h0), (2, .int p1)]) hx hb dX8_reached_58 hl (by decide) rfl (fun ls hl => ?_)
          refine lv_iinc (v := (t10_2 + 1)) (lv' := [(5, .int (t10_2 + 1)), (4, .int v58), (3, .int v45), (7, .int v39), (6, .int r24), (0, .ref h0), (2, .int p1)]) hx hb dX8_reached_60 hl (k := 4) rfl rfl (by decide) rfl (fun ls hl => ?_)
          refine lv_goto (tgt := 10) hx hb dX8_reached_63 (by decide) ?_
          replace hl : lv_has ls 8 [(5, .int (t10_2 + 1)), (4, .int v58), (3, .int v45), (0, .ref h0), (2, .int p1)] := lv_sub hl [0, 1, 2, 5, 6] rfl
          exact ih1 H locs ls v45 v58 (t10_2 + 1) hwp hP hD hS hl
  exact hs1 n1 H locs ls v3 v3 0 hwp hP hD hS hl
def wX6_isFace (i0 : Int32) (f1 : Nat → Int32) (p0 : Int32) (p1 : Int32) (p2 : Int32) (K : Int32 → Unit → Prop) : Prop := (∀ v25 : Int32, v25 = ((((1 : Int32) <<< (i0 &&& 31)) - 1) &&& (((((1 : Int32) <<< (p0 &&& 31)) ||| ((1 : Int32) <<< (p1 &&& 31))) ||| ((1 : Int32) <<< (p2 &&& 31))) ^^^ (-1))) → ((v25 = 0 → K (1 : Int32) ()) ∧ (¬ v25 = 0 → (wX8_lowest v25 (fun r41 _ => (wX8_reached f1 r41 v25 (fun r46 _ => ((¬ r46 = v25 → K (0 : Int32) ()) ∧ (r46 = v25 → K (1 : Int32) ())))))))))
set_option maxHeartbeats 4000000 in
set_option maxRecDepth 100000 in
theorem zX6_isFace (l : Launch) (G : va_G) (cI cJ cZ : ClassId) (h0 h1 h2 k0 k1 k2 sz : Nat) (i0 : Int32) (f1 : Nat → Int32) (p0 : Int32) (p1 : Int32) (p2 : Int32) (K : Int32 → Unit → Prop) (hwp : wX6_isFace i0 f1 p0 p1 p2 K) : Met l yX6_isFace (xw yX6_isFace cX6_isFace 5 (some .boolean)) ({ frames := 3, cells := 0, slots := 0, locals := 67 }) (xPc G cI cJ cZ [.ref h0, .int p0, .int p1, .int p2] [(h0, .inr (6, [.ref h1, .ref k0, .ref k1])), (h1, .inr (2, [.ref k2, .ref h2, .int i0])), (h2, aI cI 20 f1)] sz) (va_Qi (fun (r : Int32) (u : Unit) => K r u) (fun (u : Unit) t => xB G (va_A [(h0, .inr (6, [.ref h1, .ref k0, .ref k1])), (h1, .inr (2, [.ref k2, .ref h2, .int i0])), (h2, aI cI 20 f1)] sz) [(h0, .inr (6, [.ref h1, .ref k0, .ref k1])), (h1, .inr (2, [.ref k2, .ref h2, .int i0])), (h2, aI cI 20 f1)] t) (va_A [(h0, .inr (6, [.ref h1, .ref k0, .ref k1])), (h1, .inr (2, [.ref k2, .ref h2, .int i0])), (h2, aI cI 20 f1)] sz)) 0 0 (va_A [(h0, .inr (6, [.ref h1, .ref k0, .ref k1])), (h1, .inr (2, [.ref k2, .ref h2, .int i0])), (h2, aI cI 20 f1)] sz) := by
  refine Met.ofW (cc := cX6_isFace) (maxL := 5) (ret := (some .boolean)) (by decide) rfl ?_
  intro p e s m args below meth c s₁ B hml hv
  obtain ⟨rfl, hsz, hP, hK, hD0, hN⟩ := hv
  have hx := B.exec
  have hb := B.bytes
  have hr := B.returns
  have hts : ∀ w ∈ xW, w.before _ s = true := fun w h => atoms_spec (ws := xw yX6_isFace cX6_isFace 5 (some .boolean)) B.pre w (List.mem_cons_of_mem _ h)
  have hown : s.vm.findClass RX6 = some m.cls := findClass_of_methodNamed B.named
  have hlocks := B.notSynchronized
  subst hsz
  have hD := hD0.self (sz := s.heap.size)
  clear hD0
  generalize hAe : va_A [(h0, .inr (6, [.ref h1, .ref k0, .ref k1])), (h1, .inr (2, [.ref k2, .ref h2, .int i0])), (h2, aI cI 20 f1)] s.heap.size = A at hD ⊢
  have hA : ∀ q : Nat, s.heap.size ≤ q → A q := fun q h => by rw [← hAe]; exact Or.inr h
  clear hAe
  have hS : va_S A s.heap s.heap [] := va_S.rf
  replace hP : va_P G vwCl [(h0, .inr (6, [.ref h1, .ref k0, .ref k1])), (h1, .inr (2, [.ref k2, .ref h2, .int i0])), (h2, aI cI 20 f1)] s.heap := hP
  have hl := lv_entry ([.ref h0, .int p0, .int p1, .int p2]) (n := 5) (Nat.le_of_ble_eq_true rfl)
  rw [lg_entry_eq]
  generalize (lg_sl ([.ref h0, .int p0, .int p1, .int p2]) ++ List.replicate (5 - (lg_sl ([.ref h0, .int p0, .int p1, .int p2])).length) Slot.unset).toArray = ls at hl ⊢
  replace hl : lv_has ls 5 [(0, .ref h0), (1, .int p0), (2, .int p1), (3, .int p2)] := hl
  generalize hQQ : MQ below _ _ s 0 0 _ = QQ
  skip
  unfold wX6_isFace at hwp
  refine lv_iconst (v := 1) hx hb dX6_isFace_0 (by decide) ?_
  refine lv_aload_n hx hb dX6_isFace_1 rfl (lv_at hl 0 rfl) ?_
  refine va_get (D := G) (ci := 6) (v := .ref h1) (C := RX6) (T := TX6) (N := 3) hx hb hts xinX6 hown hK hP 0 rfl rfl 0 (by decide) (hts _ wo_47) (fun _ h9 => h9) rfl dX6_isFace_2 ?_
  refine va_getN (D := G) (ci := 2) (v := .int i0) (C := RX2) (T := TX2) (N := 3) hx hb hts xinX2 hown hK hP 1 rfl rfl 2 (by decide) (va_Nw.use rfl (hN.1 ("PlaneTests$Round", 41, "PlaneTests$Filled", "nodes", "I", "PlaneTests") (by decide +kernel))) (fun _ h9 => h9) rfl dX6_isFace_5 ?_
  refine lv_ishl hx hb dX6_isFace_8 ?_
  refine lv_iconst (v := 1) hx hb dX6_isFace_9 (by decide) ?_
  refine lv_isub hx hb dX6_isFace_10 ?_
  refine lv_iconst (v := 1) hx hb dX6_isFace_11 (by decide) ?_
  refine lv_iload_n hx hb dX6_isFace_12 rfl (lv_at hl 1 rfl) ?_
  refine lv_ishl hx hb dX6_isFace_13 ?_
  refine lv_iconst (v := 1) hx hb dX6_isFace_14 (by decide) ?_
  refine lv_iload_n hx hb dX6_isFace_15 rfl (lv_at hl 2 rfl) ?_
  refine lv_ishl hx hb dX6_isFace_16 ?_
  refine lv_ior hx hb dX6_isFace_17 ?_
  refine lv_iconst (v := 1) hx hb dX6_isFace_18 (by decide) ?_
  refine lv_iload_n hx hb dX6_isFace_19 rfl (lv_at hl 3 rfl) ?_
  refine lv_ishl hx hb dX6_isFace_20 ?_
  refine lv_ior hx hb dX6_isFace_21 ?_
  refine lv_iconst (v := (-1)) hx hb dX6_isFace_22 (by decide) ?_
  refine lv_ixor hx hb dX6_isFace_23 ?_
  refine lv_iand hx hb dX6_isFace_24 ?_
  refine lv_topi (fun v25 ev25 => ?_)
  replace hwp := hwp v25 ev25
  clear ev25
  refine lv_istore (lv' := [(4, .int v25), (0, .ref h0), (1, .int p0), (2, .int p1), (3, .int p2)]) hx hb dX6_isFace_25 hl (by decide) rfl (fun ls hl => ?_)
  refine lv_iload hx hb dX6_isFace_27 (lv_at hl 0 rfl) ?_
  refine lv_if_eq (tgt := 54) hx hb dX6_isFace_29 (by decide) (fun c29 => ?_) (fun c29 => ?_)
  · replace hwp := hwp.1 c29
    refine lv_iconst (v := 1) hx hb dX6_isFace_54 (by decide) ?_
    refine lv_goto (tgt := 59) hx hb dX6_isFace_55 (by decide) ?_
    have hP9 : va_P G vwCl [(h0, .inr (6, [.ref h1, .ref k0, .ref k1])), (h1, .inr (2, [.ref k2, .ref h2, .int i0])), (h2, aI cI 20 f1)] s.heap := hP.sub [0, 1, 2] rfl
    have hD9 : va_D A [(h0, .inr (6, [.ref h1, .ref k0, .ref k1])), (h1, .inr (2, [.ref k2, .ref h2, .int i0])), (h2, aI cI 20 f1)] := hD.sub [0, 1, 2] (by decide) rfl
    rw [← hQQ]
    exact W.zret (v := 1) hx hb hr rfl (fun t ht hW => ⟨⟨_, (), rfl, hwp, by rw [ht]; exact hP9, hD9⟩, hS.F ht⟩) hS.2.2 dX6_isFace_59
  · replace hwp := hwp.2 c29
    refine lv_aload_n hx hb dX6_isFace_32 rfl (lv_at hl 1 rfl) ?_
    refine va_get (D := G) (ci := 6) (v := .ref h1) (C := RX6) (T := TX6) (N := 3) hx hb hts xinX6 hown hK hP 0 rfl rfl 0 (by decide) (hts _ wo_47) (fun _ h9 => h9) rfl dX6_isFace_33 ?_
    refine va_getN (D := G) (ci := 2) (v := .ref h2) (C := RX2) (T := TX2) (N := 3) hx hb hts xinX2 hown hK hP 1 rfl rfl 1 (by decide) (va_Nw.use rfl (hN.1 ("PlaneTests$Round", 22, "PlaneTests$Filled", "joined", "[I", "PlaneTests") (by decide +kernel))) (fun _ h9 => h9) rfl dX6_isFace_36 ?_
    refine lv_iload hx hb dX6_isFace_39 (lv_at hl 0 rfl) ?_
    refine xci (wr := [(h0, .inr (6, [.ref h1, .ref k0, .ref k1])), (h1, .inr (2, [.ref k2, .ref h2, .int i0])), (h2, aI cI 20 f1)]) (va_runSN (As := [.int v25]) (rest := [.ref h2]) ⟨hx, hb, hml, hown, hts⟩ (zX8_lowest l G cI cJ cZ s.heap.size v25 _ hwp) ⟨(va_cnB 1 hts (xgood wo_48) rfl rfl rfl (hN.2 ("PlaneTests$Round", 27, yX8_lowest, "PlaneTests") (by decide +kernel)) (hts _ wo_49) (by decide +kernel) ⟨Nat.le_of_ble_eq_true rfl, Nat.le_of_ble_eq_true rfl⟩), hts _ wo_50, trivial⟩ (xPreS hK hN hP hD [] (by decide) rfl) rfl rfl hl.1 rfl (lv_room (Nat.le_of_ble_eq_true rfl)) dX6_isFace_41 ⟨Nat.le_of_ble_eq_true rfl, Nat.le_of_ble_eq_true rfl⟩) hP hD hS hA [] [0, 1, 2] rfl rfl (by decide) (by decide) (fun r41 u41 H locs hwp hP hD hS => ?_)
    replace hP : va_P G vwCl [(h0, .inr (6, [.ref h1, .ref k0, .ref k1])), (h1, .inr (2, [.ref k2, .ref h2, .int i0])), (h2, aI cI 20 f1)] H := hP
    replace hD : va_D A [(h0, .inr (6, [.ref h1, .ref k0, .ref k1])), (h1, .inr (2, [.ref k2, .ref h2, .int i0])), (h2, aI cI 20 f1)] := hD
    refine lv_iload hx hb dX6_isFace_44 (lv_at hl 0 rfl) ?_
    refine xci (wr := [(h0, .inr (6, [.ref h1, .ref k0, .ref k1])), (h1, .inr (2, [.ref k2, .ref h2, .int i0]))]) (va_runSN (As := [.ref h2, .int r41, .int v25]) (rest := []) ⟨hx, hb, hml, hown, hts⟩ (zX8_reached l G cI cJ cZ h2 H.size f1 r41 v25 _ hwp) ⟨(va_cnB 3 hts (xgood wo_58) rfl rfl rfl (hN.2 ("PlaneTests$Round", 63, yX8_reached, "PlaneTests") (by decide +kernel)) (hts _ wo_49) (by decide +kernel) ⟨Nat.le_of_ble_eq_true rfl, Nat.le_of_ble_eq_true rfl⟩), hts _ wo_59, trivial⟩ (xPreS hK hN hP hD [2] (by decide) rfl) rfl rfl hl.1 rfl (lv_room (Nat.le_of_ble_eq_true rfl)) dX6_isFace_46 ⟨Nat.le_of_ble_eq_true rfl, Nat.le_of_ble_eq_true rfl⟩) hP hD hS hA [2] [0, 1] rfl rfl (by decide) (by decide) (fun r46 u46 H locs hwp hP hD hS => ?_)
    replace hP : va_P G vwCl [(h0, .inr (6, [.ref h1, .ref k0, .ref k1])), (h1, .inr (2, [.ref k2, .ref h2, .int i0])), (h2, aI cI 20 f1)] H := hP
    replace hD : va_D A [(h0, .inr (6, [.ref h1, .ref k0, .ref k1])), (h1, .inr (2, [.ref k2, .ref h2, .int i0])), (h2, aI cI 20 f1)] := hD
    refine lv_iload hx hb dX6_isFace_49 (lv_at hl 0 rfl) ?_
    refine lv_icmp_ne (tgt := 58) hx hb dX6_isFace_51 (by decide) (fun c51 => ?_) (fun c51 => ?_)
    · replace hwp := hwp.1 c51
      refine lv_iconst (v := 0) hx hb dX6_isFace_58 (by decide) ?_
      have hP9 : va_P G vwCl [(h0, .inr (6, [.ref h1, .ref k0, .ref k1])), (h1, .inr (2, [.ref k2, .ref h2, .int i0])), (h2, aI cI 20 f1)] H := hP.sub [0, 1, 2] rfl
      have hD9 : va_D A [(h0, .inr (6, [.ref h1, .ref k0, .ref k1])), (h1, .inr (2, [.ref k2, .ref h2, .int i0])), (h2, aI cI 20 f1)] := hD.sub [0, 1, 2] (by decide) rfl
      rw [← hQQ]
      exact W.zret (v := 0) hx hb hr rfl (fun t ht hW => ⟨⟨_, (), rfl, hwp, by rw [ht]; exact hP9, hD9⟩, hS.F ht⟩) hS.2.2 dX6_isFace_59
    · replace hwp := hwp.2 c51
      refine lv_iconst (v := 1) hx hb dX6_isFace_54 (by decide) ?_
      refine lv_goto (tgt := 59) hx hb dX6_isFace_55 (by decide) ?_
      have hP9 : va_P G vwCl [(h0, .inr (6, [.ref h1, .ref k0, .ref k1])), (h1, .inr (2, [.ref k2, .ref h2, .int i0])), (h2, aI cI 20 f1)] H := hP.sub [0, 1, 2] rfl
      have hD9 : va_D A [(h0, .inr (6, [.ref h1, .ref k0, .ref k1])), (h1, .inr (2, [.ref k2, .ref h2, .int i0])), (h2, aI cI 20 f1)] := hD.sub [0, 1, 2] (by decide) rfl
      rw [← hQQ]
      exact W.zret (v := 1) hx hb hr rfl (fun t ht hW => ⟨⟨_, (), rfl, hwp, by rw [ht]; exact hP9, hD9⟩, hS.F ht⟩) hS.2.2 dX6_isFace_59
def wX6_addFace (f0 : Nat → Int32) (p0 : Int32) (p1 : Int32) (p2 : Int32) (K : ((Nat → Int32)) → Prop) : Prop := (vp_in ((p0 * 20) + p1) 400 ∧ (vp_in ((p0 * 20) + p1) 400 ∧ (∀ g16 : Nat → Int32, g16 = upd f0 (Int32.toNatClampNeg ((p0 * 20) + p1)) ((f0 (Int32.toNatClampNeg ((p0 * 20) + p1))) ||| ((1 : Int32) <<< (p2 &&& 31))) → (vp_in ((p1 * 20) + p0) 400 ∧ (vp_in ((p1 * 20) + p0) 400 ∧ (∀ g33 : Nat → Int32, g33 = upd g16 (Int32.toNatClampNeg ((p1 * 20) + p0)) ((g16 (Int32.toNatClampNeg ((p1 * 20) + p0))) ||| ((1 : Int32) <<< (p2 &&& 31))) → K g33))))))
set_option maxHeartbeats 4000000 in
set_option maxRecDepth 100000 in
theorem zX6_addFace (l : Launch) (G : va_G) (cI cJ cZ : ClassId) (h0 h1 k0 k1 sz : Nat) (f0 : Nat → Int32) (p0 : Int32) (p1 : Int32) (p2 : Int32) (K : ((Nat → Int32)) → Prop) (hwp : wX6_addFace f0 p0 p1 p2 K) : Met l yX6_addFace (xw yX6_addFace cX6_addFace 4 none) ({ frames := 0, cells := 0, slots := 0, locals := 0 }) (xPc G cI cJ cZ [.ref h0, .int p0, .int p1, .int p2] [(h0, .inr (6, [.ref k0, .ref h1, .ref k1])), (h1, aI cI 400 f0)] sz) (va_Qv (fun (u : (Nat → Int32)) => K u) (fun (u : (Nat → Int32)) t => xB G (va_A [(h0, .inr (6, [.ref k0, .ref h1, .ref k1])), (h1, aI cI 400 f0)] sz) [(h0, .inr (6, [.ref k0, .ref h1, .ref k1])), (h1, aI cI 400 u)] t) (va_A [(h0, .inr (6, [.ref k0, .ref h1, .ref k1])), (h1, aI cI 400 f0)] sz)) 0 0 (va_A [(h0, .inr (6, [.ref k0, .ref h1, .ref k1])), (h1, aI cI 400 f0)] sz) := by
  refine Met.ofW (cc := cX6_addFace) (maxL := 4) (ret := none) (by decide) rfl ?_
  intro p e s m args below meth c s₁ B hml hv
  obtain ⟨rfl, hsz, hP, hK, hD0, hN⟩ := hv
  have hx := B.exec
  have hb := B.bytes
  have hr := B.returns
  have hts : ∀ w ∈ xW, w.before _ s = true := fun w h => atoms_spec (ws := xw yX6_addFace cX6_addFace 4 none) B.pre w (List.mem_cons_of_mem _ h)
  have hown : s.vm.findClass RX6 = some m.cls := findClass_of_methodNamed B.named
  have hlocks := B.notSynchronized
  subst hsz
  have hD := hD0.self (sz := s.heap.size)
  clear hD0
  generalize hAe : va_A [(h0, .inr (6, [.ref k0, .ref h1, .ref k1])), (h1, aI cI 400 f0)] s.heap.size = A at hD ⊢
  have hA : ∀ q : Nat, s.heap.size ≤ q → A q := fun q h => by rw [← hAe]; exact Or.inr h
  clear hAe
  have hS : va_S A s.heap s.heap [] := va_S.rf
  replace hP : va_P G vwCl [(h0, .inr (6, [.ref k0, .ref h1, .ref k1])), (h1, aI cI 400 f0)] s.heap := hP
  have hl := lv_entry ([.ref h0, .int p0, .int p1, .int p2]) (n := 4) (Nat.le_of_ble_eq_true rfl)
  rw [lg_entry_eq]
  generalize (lg_sl ([.ref h0, .int p0, .int p1, .int p2]) ++ List.replicate (4 - (lg_sl ([.ref h0, .int p0, .int p1, .int p2])).length) Slot.unset).toArray = ls at hl ⊢
  replace hl : lv_has ls 4 [(0, .ref h0), (1, .int p0), (2, .int p1), (3, .int p2)] := hl
  generalize hQQ : MQ below _ _ s 0 0 _ = QQ
  skip
  unfold wX6_addFace at hwp
  refine lv_aload_n hx hb dX6_addFace_0 rfl (lv_at hl 0 rfl) ?_
  refine va_get (D := G) (ci := 6) (v := .ref h1) (C := RX6) (T := TX6) (N := 3) hx hb hts xinX6 hown hK hP 0 rfl rfl 1 (by decide) (hts _ wo_56) (fun _ h9 => h9) rfl dX6_addFace_1 ?_
  refine lv_iload_n hx hb dX6_addFace_4 rfl (lv_at hl 1 rfl) ?_
  refine lv_bipush (v := 20) hx hb dX6_addFace_5 (by decide) ?_
  refine lv_imul hx hb dX6_addFace_7 ?_
  refine lv_iload_n hx hb dX6_addFace_8 rfl (lv_at hl 2 rfl) ?_
  refine lv_iadd hx hb dX6_addFace_9 ?_
  refine lv_dup2_11 hx hb dX6_addFace_10 rfl rfl ?_
  obtain ⟨hi, hwp⟩ := hwp
  refine va_iald hx hb hK hP 1 0 rfl rfl hi dX6_addFace_11 ?_
  refine lv_iconst (v := 1) hx hb dX6_addFace_12 (by decide) ?_
  refine lv_iload_n hx hb dX6_addFace_13 rfl (lv_at hl 3 rfl) ?_
  refine lv_ishl hx hb dX6_addFace_14 ?_
  refine lv_ior hx hb dX6_addFace_15 ?_
  obtain ⟨hi, hwp⟩ := hwp
  refine va_iast hx hb hK hP hD hS 1 0 rfl rfl hi dX6_addFace_16 (fun H locs hP hD hS => ?_)
  obtain ⟨g16, eg16⟩ : ∃ z, z = upd f0 (Int32.toNatClampNeg ((p0 * 20) + p1)) ((f0 (Int32.toNatClampNeg ((p0 * 20) + p1))) ||| ((1 : Int32) <<< (p2 &&& 31))) := ⟨_, rfl⟩
  replace hwp := hwp g16 eg16
  replace hP : va_P G vwCl [(h0, .inr (6, [.ref k0, .ref h1, .ref k1])), (h1, aI cI 400 g16)] H := by rw [eg16]; exact hP
  replace hD : va_D A [(h0, .inr (6, [.ref k0, .ref h1, .ref k1])), (h1, aI cI 400 g16)] := by rw [eg16]; exact hD
  clear eg16
  refine lv_aload_n hx hb dX6_addFace_17 rfl (lv_at hl 0 rfl) ?_
  refine va_get (D := G) (ci := 6) (v := .ref h1) (C := RX6) (T := TX6) (N := 3) hx hb hts xinX6 hown hK hP 0 rfl rfl 1 (by decide) (hts _ wo_56) (fun _ h9 => h9) rfl dX6_addFace_18 ?_
  refine lv_iload_n hx hb dX6_addFace_21 rfl (lv_at hl 2 rfl) ?_
  refine lv_bipush (v := 20) hx hb dX6_addFace_22 (by decide) ?_
  refine lv_imul hx hb dX6_addFace_24 ?_
  refine lv_iload_n hx hb dX6_addFace_25 rfl (lv_at hl 1 rfl) ?_
  refine lv_iadd hx hb dX6_addFace_26 ?_
  refine lv_dup2_11 hx hb dX6_addFace_27 rfl rfl ?_
  obtain ⟨hi, hwp⟩ := hwp
  refine va_iald hx hb hK hP 1 0 rfl rfl hi dX6_addFace_28 ?_
  refine lv_iconst (v := 1) hx hb dX6_addFace_29 (by decide) ?_
  refine lv_iload_n hx hb dX6_addFace_30 rfl (lv_at hl 3 rfl) ?_
  refine lv_ishl hx hb dX6_addFace_31 ?_
  refine lv_ior hx hb dX6_addFace_32 ?_
  obtain ⟨hi, hwp⟩ := hwp
  refine va_iast hx hb hK hP hD hS 1 0 rfl rfl hi dX6_addFace_33 (fun H locs hP hD hS => ?_)
  obtain ⟨g33, eg33⟩ : ∃ z, z = upd g16 (Int32.toNatClampNeg ((p1 * 20) + p0)) ((g16 (Int32.toNatClampNeg ((p1 * 20) + p0))) ||| ((1 : Int32) <<< (p2 &&& 31))) := ⟨_, rfl⟩
  replace hwp := hwp g33 eg33
  replace hP : va_P G vwCl [(h0, .inr (6, [.ref k0, .ref h1, .ref k1])), (h1, aI cI 400 g33)] H := by rw [eg33]; exact hP
  replace hD : va_D A [(h0, .inr (6, [.ref k0, .ref h1, .ref k1])), (h1, aI cI 400 g33)] := by rw [eg33]; exact hD
  clear eg33
  have hP9 : va_P G vwCl [(h0, .inr (6, [.ref k0, .ref h1, .ref k1])), (h1, aI cI 400 g33)] H := hP.sub [0, 1] rfl
  have hD9 : va_D A [(h0, .inr (6, [.ref k0, .ref h1, .ref k1])), (h1, aI cI 400 g33)] := hD.sub [0, 1] (by decide) rfl
  rw [← hQQ]
  exact W.vret hx hb hr (fun t ht hW => ⟨⟨g33, rfl, hwp, by rw [ht]; exact hP9, hD9⟩, hS.F ht⟩) hS.2.2 dX6_addFace_34
def wLX6_findFaces_72 (i1 : Int32) (f2 : Nat → Int32) (t18_1 : Int32) (t33_1 : Int32) (K : ((Nat → Int32)) → Prop) (B33_2 : (Nat → Int32) → Int32 → Prop) : Nat → (Nat → Int32) → Int32 → Prop
  | 0, _, _ => False
  | n72 + 1, t72_0, t72_1 => ((i1 ≤ t72_1 → B33_2 t72_0 (t33_1 + 1)) ∧ (¬ i1 ≤ t72_1 → (wX8_hasBit (0 : Int32) t72_1 (fun r88 _ => ((r88 = 0 → (wLX6_findFaces_72 i1 f2 t18_1 t33_1 K B33_2 n72) t72_0 (t72_1 + 1)) ∧ (¬ r88 = 0 → (wX6_isFace i1 f2 t18_1 t33_1 t72_1 (fun r99 _ => ((r99 = 0 → (wLX6_findFaces_72 i1 f2 t18_1 t33_1 K B33_2 n72) t72_0 (t72_1 + 1)) ∧ (¬ r99 = 0 → (wX6_addFace t72_0 t18_1 t33_1 t72_1 (fun u110 => (wX6_addFace u110 t33_1 t72_1 t18_1 (fun u118 => (wX6_addFace u118 t72_1 t18_1 t33_1 (fun u126 => (wLX6_findFaces_72 i1 f2 t18_1 t33_1 K B33_2 n72) u126 (t72_1 + 1)))))))))))))))))
def wLX6_findFaces_72_1 (i1 : Int32) (f2 : Nat → Int32) (t18_1 : Int32) (t33_1 : Int32) (v65 : Int32) (K : ((Nat → Int32)) → Prop) (B33_2 : (Nat → Int32) → Int32 → Prop) : Nat → (Nat → Int32) → Int32 → Prop
  | 0, _, _ => False
  | n72 + 1, t72_0, t72_1 => ((i1 ≤ t72_1 → B33_2 t72_0 (t33_1 + 1)) ∧ (¬ i1 ≤ t72_1 → (wX8_hasBit v65 t72_1 (fun r88 _ => ((r88 = 0 → (wLX6_findFaces_72_1 i1 f2 t18_1 t33_1 v65 K B33_2 n72) t72_0 (t72_1 + 1)) ∧ (¬ r88 = 0 → (wX6_isFace i1 f2 t18_1 t33_1 t72_1 (fun r99 _ => ((r99 = 0 → (wLX6_findFaces_72_1 i1 f2 t18_1 t33_1 v65 K B33_2 n72) t72_0 (t72_1 + 1)) ∧ (¬ r99 = 0 → (wX6_addFace t72_0 t18_1 t33_1 t72_1 (fun u110 => (wX6_addFace u110 t33_1 t72_1 t18_1 (fun u118 => (wX6_addFace u118 t72_1 t18_1 t33_1 (fun u126 => (wLX6_findFaces_72_1 i1 f2 t18_1 t33_1 v65 K B33_2 n72) u126 (t72_1 + 1)))))))))))))))))
def wLX6_findFaces_33 (i1 : Int32) (f2 : Nat → Int32) (t18_1 : Int32) (K : ((Nat → Int32)) → Prop) (B18_1 : (Nat → Int32) → Int32 → Prop) : Nat → (Nat → Int32) → Int32 → Prop
  | 0, _, _ => False
  | n33 + 1, t33_0, t33_1 => ((i1 ≤ t33_1 → B18_1 t33_0 (t18_1 + 1)) ∧ (¬ i1 ≤ t33_1 → (vp_in t18_1 20 ∧ (wX8_hasBit (f2 (Int32.toNatClampNeg t18_1)) t33_1 (fun r48 _ => ((r48 = 0 → (∀ v70 : Int32, v70 = (t33_1 + 1) → (∃ n72, wLX6_findFaces_72 i1 f2 t18_1 t33_1 K (fun z0 z1 => (wLX6_findFaces_33 i1 f2 t18_1 K B18_1 n33) z0 z1) n72 t33_0 v70))) ∧ (¬ r48 = 0 → (vp_in t18_1 20 ∧ (vp_in t33_1 20 ∧ (∀ v65 : Int32, v65 = ((f2 (Int32.toNatClampNeg t18_1)) &&& (f2 (Int32.toNatClampNeg t33_1))) → (∀ v70 : Int32, v70 = (t33_1 + 1) → (∃ n72, wLX6_findFaces_72_1 i1 f2 t18_1 t33_1 v65 K (fun z0 z1 => (wLX6_findFaces_33 i1 f2 t18_1 K B18_1 n33) z0 z1) n72 t33_0 v70))))))))))))
def wLX6_findFaces_18 (i1 : Int32) (f2 : Nat → Int32) (K : ((Nat → Int32)) → Prop)  : Nat → (Nat → Int32) → Int32 → Prop
  | 0, _, _ => False
  | n18 + 1, t18_0, t18_1 => ((i1 ≤ t18_1 → K t18_0) ∧ (¬ i1 ≤ t18_1 → (∀ v32 : Int32, v32 = (t18_1 + 1) → (∃ n33, wLX6_findFaces_33 i1 f2 t18_1 K (fun z0 z1 => (wLX6_findFaces_18 i1 f2 K  n18) z0 z1) n33 t18_0 v32))))
def wX6_findFaces (f0 : Nat → Int32) (i1 : Int32) (f2 : Nat → Int32) (K : ((Nat → Int32)) → Prop) : Prop := (wJ7_fill_53178_1 f0 (0 : Int32) (fun u5 => (∃ n18, wLX6_findFaces_18 i1 f2 K  n18 u5 0)))
set_option maxHeartbeats 4000000 in
set_option maxRecDepth 100000 in
theorem zX6_findFaces (l : Launch) (G : va_G) (cI cJ cZ : ClassId) (h0 h1 h2 h3 k0 k1 sz : Nat) (f0 : Nat → Int32) (i1 : Int32) (f2 : Nat → Int32) (K : ((Nat → Int32)) → Prop) (hwp : wX6_findFaces f0 i1 f2 K) : Met l yX6_findFaces (xw yX6_findFaces cX6_findFaces 6 none) ({ frames := 4, cells := 0, slots := 0, locals := 91 }) (xPc G cI cJ cZ [.ref h0] [(h0, .inr (6, [.ref h2, .ref h1, .ref k0])), (h1, aI cI 400 f0), (h2, .inr (2, [.ref k1, .ref h3, .int i1])), (h3, aI cI 20 f2)] sz) (va_Qv (fun (u : (Nat → Int32)) => K u) (fun (u : (Nat → Int32)) t => xB G (va_A [(h0, .inr (6, [.ref h2, .ref h1, .ref k0])), (h1, aI cI 400 f0), (h2, .inr (2, [.ref k1, .ref h3, .int i1])), (h3, aI cI 20 f2)] sz) [(h0, .inr (6, [.ref h2, .ref h1, .ref k0])), (h1, aI cI 400 u), (h2, .inr (2, [.ref k1, .ref h3, .int i1])), (h3, aI cI 20 f2)] t) (va_A [(h0, .inr (6, [.ref h2, .ref h1, .ref k0])), (h1, aI cI 400 f0), (h2, .inr (2, [.ref k1, .ref h3, .int i1])), (h3, aI cI 20 f2)] sz)) 0 0 (va_A [(h0, .inr (6, [.ref h2, .ref h1, .ref k0])), (h1, aI cI 400 f0), (h2, .inr (2, [.ref k1, .ref h3, .int i1])), (h3, aI cI 20 f2)] sz) := by
  refine Met.ofW (cc := cX6_findFaces) (maxL := 6) (ret := none) (by decide) rfl ?_
  intro p e s m args below meth c s₁ B hml hv
  obtain ⟨rfl, hsz, hP, hK, hD0, hN⟩ := hv
  have hx := B.exec
  have hb := B.bytes
  have hr := B.returns
  have hts : ∀ w ∈ xW, w.before _ s = true := fun w h => atoms_spec (ws := xw yX6_findFaces cX6_findFaces 6 none) B.pre w (List.mem_cons_of_mem _ h)
  have hown : s.vm.findClass RX6 = some m.cls := findClass_of_methodNamed B.named
  have hlocks := B.notSynchronized
  subst hsz
  have hD := hD0.self (sz := s.heap.size)
  clear hD0
  generalize hAe : va_A [(h0, .inr (6, [.ref h2, .ref h1, .ref k0])), (h1, aI cI 400 f0), (h2, .inr (2, [.ref k1, .ref h3, .int i1])), (h3, aI cI 20 f2)] s.heap.size = A at hD ⊢
  have hA : ∀ q : Nat, s.heap.size ≤ q → A q := fun q h => by rw [← hAe]; exact Or.inr h
  clear hAe
  have hS : va_S A s.heap s.heap [] := va_S.rf
  replace hP : va_P G vwCl [(h0, .inr (6, [.ref h2, .ref h1, .ref k0])), (h1, aI cI 400 f0), (h2, .inr (2, [.ref k1, .ref h3, .int i1])), (h3, aI cI 20 f2)] s.heap := hP
  have hl := lv_entry ([.ref h0]) (n := 6) (Nat.le_of_ble_eq_true rfl)
  rw [lg_entry_eq]
  generalize (lg_sl ([.ref h0]) ++ List.replicate (6 - (lg_sl ([.ref h0])).length) Slot.unset).toArray = ls at hl ⊢
  replace hl : lv_has ls 6 [(0, .ref h0)] := hl
  generalize hQQ : MQ below _ _ s 0 0 _ = QQ
  skip
  unfold wX6_findFaces at hwp
  refine lv_aload_n hx hb dX6_findFaces_0 rfl (lv_at hl 0 rfl) ?_
  refine va_get (D := G) (ci := 6) (v := .ref h1) (C := RX6) (T := TX6) (N := 3) hx hb hts xinX6 hown hK hP 0 rfl rfl 1 (by decide) (hts _ wo_56) (fun _ h9 => h9) rfl dX6_findFaces_1 ?_
  refine lv_iconst (v := 0) hx hb dX6_findFaces_4 (by decide) ?_
  refine xcv (wr := [(h0, .inr (6, [.ref h2, .ref h1, .ref k0])), (h2, .inr (2, [.ref k1, .ref h3, .int i1])), (h3, aI cI 20 f2)]) (va_runS (As := [.ref h1, .int 0]) (rest := []) ⟨hx, hb, hml, hown, hts⟩ (zJ7_fill_53178_1 l G cI cJ cZ h1 s.heap.size f0 (0 : Int32) _ hwp) (va_cwS 2 hts (xgoodS wo_4 wo_60 wo_6 wo_7) rfl rfl rfl (by decide +kernel) ⟨Nat.le_of_ble_eq_true rfl, Nat.le_of_ble_eq_true rfl⟩) (xPreS hK hN hP hD [1] (by decide) rfl) rfl rfl hl.1 rfl (lv_room (Nat.le_of_ble_eq_true rfl)) dX6_findFaces_5 ⟨Nat.le_of_ble_eq_true rfl, Nat.le_of_ble_eq_true rfl⟩) hP hD hS hA [1] [0, 2, 3] rfl rfl (by decide) (by decide) (fun u5 H locs hwp hP hD hS => ?_)
  replace hP : va_P G vwCl [(h0, .inr (6, [.ref h2, .ref h1, .ref k0])), (h2, .inr (2, [.ref k1, .ref h3, .int i1])), (h3, aI cI 20 f2), (h1, aI cI 400 u5)] H := hP
  replace hD : va_D A [(h0, .inr (6, [.ref h2, .ref h1, .ref k0])), (h2, .inr (2, [.ref k1, .ref h3, .int i1])), (h3, aI cI 20 f2), (h1, aI cI 400 u5)] := hD
  refine lv_aload_n hx hb dX6_findFaces_8 rfl (lv_at hl 0 rfl) ?_
  refine va_get (D := G) (ci := 6) (v := .ref h2) (C := RX6) (T := TX6) (N := 3) hx hb hts xinX6 hown hK hP 0 rfl rfl 0 (by decide) (hts _ wo_47) (fun _ h9 => h9) rfl dX6_findFaces_9 ?_
  refine va_getN (D := G) (ci := 2) (v := .ref h3) (C := RX2) (T := TX2) (N := 3) hx hb hts xinX2 hown hK hP 1 rfl rfl 1 (by decide) (va_Nw.use rfl (hN.1 ("PlaneTests$Round", 22, "PlaneTests$Filled", "joined", "[I", "PlaneTests") (by decide +kernel))) (fun _ h9 => h9) rfl dX6_findFaces_12 ?_
  refine lv_astore_n (lv' := [(1, .ref h3), (0, .ref h0)]) hx hb dX6_findFaces_15 rfl hl (by decide) rfl (fun ls hl => ?_)
  refine lv_iconst (v := 0) hx hb dX6_findFaces_16 (by decide) ?_
  refine lv_istore_n (lv' := [(2, .int 0), (1, .ref h3), (0, .ref h0)]) hx hb dX6_findFaces_17 rfl hl (by decide) rfl (fun ls hl => ?_)
  replace hl : lv_has ls 6 [(2, .int 0), (1, .ref h3), (0, .ref h0)] := lv_sub hl [0, 1, 2] rfl
  obtain ⟨n1, hwp⟩ := hwp
  have hs1 : ∀ (n1 : Nat) (H : Heap) (locs : List Loc) (ls : Array Slot) (t18_0 : Nat → Int32) (t18_1 : Int32), wLX6_findFaces_18 i1 f2 K  n1 t18_0 t18_1 → va_P G vwCl [(h0, .inr (6, [.ref h2, .ref h1, .ref k0])), (h2, .inr (2, [.ref k1, .ref h3, .int i1])), (h3, aI cI 20 f2), (h1, aI cI 400 t18_0)] H → va_D A [(h0, .inr (6, [.ref h2, .ref h1, .ref k0])), (h2, .inr (2, [.ref k1, .ref h3, .int i1])), (h3, aI cI 20 f2), (h1, aI cI 400 t18_0)] → va_S A s.heap H locs → lv_has ls 6 [(2, .int t18_1), (1, .ref h3), (0, .ref h0)] → W p l e ((headSpec (xw yX6_findFaces cX6_findFaces 6 none) { frames := 4, cells := 0, slots := 0, locals := 91 }).room) s m ([.ref h0] : List Value).toArray below meth c H locs 0 0 QQ (F0 m 18 ls []) := by
    intro n1
    induction n1 with
    | zero => intro H locs ls t18_0 t18_1 hwp; exact False.elim hwp
    | succ n1 ih1 =>
      intro H locs ls t18_0 t18_1 hwp hP hD hS hl
      rw [wLX6_findFaces_18] at hwp
      refine lv_iload_n hx hb dX6_findFaces_18 rfl (lv_at hl 0 rfl) ?_
      refine lv_aload_n hx hb dX6_findFaces_19 rfl (lv_at hl 2 rfl) ?_
      refine va_get (D := G) (ci := 6) (v := .ref h2) (C := RX6) (T := TX6) (N := 3) hx hb hts xinX6 hown hK hP 0 rfl rfl 0 (by decide) (hts _ wo_47) (fun _ h9 => h9) rfl dX6_findFaces_20 ?_
      refine va_getN (D := G) (ci := 2) (v := .int i1) (C := RX2) (T := TX2) (N := 3) hx hb hts xinX2 hown hK hP 1 rfl rfl 2 (by decide) (va_Nw.use rfl (hN.1 ("PlaneTests$Round", 41, "PlaneTests$Filled", "nodes", "I", "PlaneTests") (by decide +kernel))) (fun _ h9 => h9) rfl dX6_findFaces_23 ?_
      refine lv_icmp_ge (tgt := 147) hx hb dX6_findFaces_26 (by decide) (fun c26 => ?_) (fun c26 => ?_)
      · replace hwp := hwp.1 c26
        have hP9 : va_P G vwCl [(h0, .inr (6, [.ref h2, .ref h1, .ref k0])), (h1, aI cI 400 t18_0), (h2, .inr (2, [.ref k1, .ref h3, .int i1])), (h3, aI cI 20 f2)] H := hP.sub [0, 3, 1, 2] rfl
        have hD9 : va_D A [(h0, .inr (6, [.ref h2, .ref h1, .ref k0])), (h1, aI cI 400 t18_0), (h2, .inr (2, [.ref k1, .ref h3, .int i1])), (h3, aI cI 20 f2)] := hD.sub [0, 3, 1, 2] (by decide) rfl
        rw [← hQQ]
        exact W.vret hx hb hr (fun t ht hW => ⟨⟨t18_0, rfl, hwp, by rw [ht]; exact hP9, hD9⟩, hS.F ht⟩) hS.2.2 dX6_findFaces_147
      · replace hwp := hwp.2 c26
        refine lv_iload_n hx hb dX6_findFaces_29 rfl (lv_at hl 0 rfl) ?_
        refine lv_iconst (v := 1) hx hb dX6_findFaces_30 (by decide) ?_
        refine lv_iadd hx hb dX6_findFaces_31 ?_
        refine lv_topi (fun v32 ev32 => ?_)
        replace hwp := hwp v32 ev32
        clear ev32
        refine lv_istore_n (lv' := [(3, .int v32), (2, .int t18_1), (1, .ref h3), (0, .ref h0)]) hx hb dX6_findFaces_32 rfl hl (by decide) rfl (fun ls hl => ?_)
        replace hl : lv_has ls 6 [(3, .int v32), (2, .int t18_1), (1, .ref h3), (0, .ref h0)] := lv_sub hl [0, 1, 2, 3] rfl
        obtain ⟨n2, hwp⟩ := hwp
        have hs2 : ∀ (n2 : Nat) (H : Heap) (locs : List Loc) (ls : Array Slot) (t33_0 : Nat → Int32) (t33_1 : Int32), wLX6_findFaces_33 i1 f2 t18_1 K (fun z0 z1 => wLX6_findFaces_18 i1 f2 K  n1 z0 z1) n2 t33_0 t33_1 → va_P G vwCl [(h0, .inr (6, [.ref h2, .ref h1, .ref k0])), (h2, .inr (2, [.ref k1, .ref h3, .int i1])), (h3, aI cI 20 f2), (h1, aI cI 400 t33_0)] H → va_D A [(h0, .inr (6, [.ref h2, .ref h1, .ref k0])), (h2, .inr (2, [.ref k1, .ref h3, .int i1])), (h3, aI cI 20 f2), (h1, aI cI 400 t33_0)] → va_S A s.heap H locs → lv_has ls 6 [(3, .int t33_1), (2, .int t18_1), (1, .ref h3), (0, .ref h0)] → W p l e ((headSpec (xw yX6_findFaces cX6_findFaces 6 none) { frames := 4, cells := 0, slots := 0, locals := 91 }).room) s m ([.ref h0] : List Value).toArray below meth c H locs 0 0 QQ (F0 m 33 ls []) := by
          intro n2
          induction n2 with
          | zero => intro H locs ls t33_0 t33_1 hwp; exact False.elim hwp
          | succ n2 ih2 =>
            intro H locs ls t33_0 t33_1 hwp hP hD hS hl
            rw [wLX6_findFaces_33] at hwp
            refine lv_iload_n hx hb dX6_findFaces_33 rfl (lv_at hl 0 rfl) ?_
            refine lv_aload_n hx hb dX6_findFaces_34 rfl (lv_at hl 3 rfl) ?_
            refine va_get (D := G) (ci := 6) (v := .ref h2) (C := RX6) (T := TX6) (N := 3) hx hb hts xinX6 hown hK hP 0 rfl rfl 0 (by decide) (hts _ wo_47) (fun _ h9 => h9) rfl dX6_findFaces_35 ?_
            refine va_getN (D := G) (ci := 2) (v := .int i1) (C := RX2) (T := TX2) (N := 3) hx hb hts xinX2 hown hK hP 1 rfl rfl 2 (by decide) (va_Nw.use rfl (hN.1 ("PlaneTests$Round", 41, "PlaneTests$Filled", "nodes", "I", "PlaneTests") (by decide +kernel))) (fun _ h9 => h9) rfl dX6_findFaces_38 ?_
            refine lv_icmp_ge (tgt := 141) hx hb dX6_findFaces_41 (by decide) (fun c41 => ?_) (fun c41 => ?_)
            · replace hwp := hwp.1 c41
              refine lv_iinc (v := (t18_1 + 1)) (lv' := [(2, .int (t18_1 + 1)), (3, .int t33_1), (1, .ref h3), (0, .ref h0)]) hx hb dX6_findFaces_141 hl (k := 1) rfl rfl (by decide) rfl (fun ls hl => ?_)
              refine lv_goto (tgt := 18) hx hb dX6_findFaces_144 (by decide) ?_
              replace hl : lv_has ls 6 [(2, .int (t18_1 + 1)), (1, .ref h3), (0, .ref h0)] := lv_sub hl [0, 2, 3] rfl
              exact ih1 H locs ls t33_0 (t18_1 + 1) hwp hP hD hS hl
            · replace hwp := hwp.2 c41
              refine lv_aload_n hx hb dX6_findFaces_44 rfl (lv_at hl 2 rfl) ?_
              refine lv_iload_n hx hb dX6_findFaces_45 rfl (lv_at hl 1 rfl) ?_
              obtain ⟨hi, hwp⟩ := hwp
              refine va_iald hx hb hK hP 2 0 rfl rfl hi dX6_findFaces_46 ?_
              refine lv_iload_n hx hb dX6_findFaces_47 rfl (lv_at hl 0 rfl) ?_
              refine xci (wr := [(h0, .inr (6, [.ref h2, .ref h1, .ref k0])), (h2, .inr (2, [.ref k1, .ref h3, .int i1])), (h3, aI cI 20 f2), (h1, aI cI 400 t33_0)]) (va_runSN (As := [.int (f2 (Int32.toNatClampNeg t18_1)), .int t33_1]) (rest := []) ⟨hx, hb, hml, hown, hts⟩ (zX8_hasBit l G cI cJ cZ H.size (f2 (Int32.toNatClampNeg t18_1)) t33_1 _ hwp) ⟨(va_cnB 2 hts (xgood wo_61) rfl rfl rfl (hN.2 ("PlaneTests$Round", 45, yX8_hasBit, "PlaneTests") (by decide +kernel)) (hts _ wo_49) (by decide +kernel) ⟨Nat.le_of_ble_eq_true rfl, Nat.le_of_ble_eq_true rfl⟩), hts _ wo_62, trivial⟩ (xPreS hK hN hP hD [] (by decide) rfl) rfl rfl hl.1 rfl (lv_room (Nat.le_of_ble_eq_true rfl)) dX6_findFaces_48 ⟨Nat.le_of_ble_eq_true rfl, Nat.le_of_ble_eq_true rfl⟩) hP hD hS hA [] [0, 1, 2, 3] rfl rfl (by decide) (by decide) (fun r48 u48 H locs hwp hP hD hS => ?_)
              replace hP : va_P G vwCl [(h0, .inr (6, [.ref h2, .ref h1, .ref k0])), (h2, .inr (2, [.ref k1, .ref h3, .int i1])), (h3, aI cI 20 f2), (h1, aI cI 400 t33_0)] H := hP
              replace hD : va_D A [(h0, .inr (6, [.ref h2, .ref h1, .ref k0])), (h2, .inr (2, [.ref k1, .ref h3, .int i1])), (h3, aI cI 20 f2), (h1, aI cI 400 t33_0)] := hD
              refine lv_if_eq (tgt := 64) hx hb dX6_findFaces_51 (by decide) (fun c51 => ?_) (fun c51 => ?_)
              · replace hwp := hwp.1 c51
                refine lv_iconst (v := 0) hx hb dX6_findFaces_64 (by decide) ?_
                refine lv_istore (lv' := [(4, .int 0), (3, .int t33_1), (2, .int t18_1), (1, .ref h3), (0, .ref h0)]) hx hb dX6_findFaces_65 hl (by decide) rfl (fun ls hl => ?_)
                refine lv_iload_n hx hb dX6_findFaces_67 rfl (lv_at hl 1 rfl) ?_
                refine lv_iconst (v := 1) hx hb dX6_findFaces_68 (by decide) ?_
                refine lv_iadd hx hb dX6_findFaces_69 ?_
                refine lv_topi (fun v70 ev70 => ?_)
                replace hwp := hwp v70 ev70
                clear ev70
                refine lv_istore (lv' := [(5, .int v70), (4, .int 0), (3, .int t33_1), (2, .int t18_1), (1, .ref h3), (0, .ref h0)]) hx hb dX6_findFaces_70 hl (by decide) rfl (fun ls hl => ?_)
                replace hl : lv_has ls 6 [(5, .int v70), (4, .int 0), (3, .int t33_1), (2, .int t18_1), (1, .ref h3), (0, .ref h0)] := lv_sub hl [0, 1, 2, 3, 4, 5] rfl
                obtain ⟨n3, hwp⟩ := hwp
                have hs3 : ∀ (n3 : Nat) (H : Heap) (locs : List Loc) (ls : Array Slot) (t72_0 : Nat → Int32) (t72_1 : Int32), wLX6_findFaces_72 i1 f2 t18_1 t33_1 K (fun z0 z1 => wLX6_findFaces_33 i1 f2 t18_1 K (fun z0 z1 => wLX6_findFaces_18 i1 f2 K  n1 z0 z1) n2 z0 z1) n3 t72_0 t72_1 → va_P G vwCl [(h0, .inr (6, [.ref h2, .ref h1, .ref k0])), (h2, .inr (2, [.ref k1, .ref h3, .int i1])), (h3, aI cI 20 f2), (h1, aI cI 400 t72_0)] H → va_D A [(h0, .inr (6, [.ref h2, .ref h1, .ref k0])), (h2, .inr (2, [.ref k1, .ref h3, .int i1])), (h3, aI cI 20 f2), (h1, aI cI 400 t72_0)] → va_S A s.heap H locs → lv_has ls 6 [(5, .int t72_1), (4, .int 0), (3, .int t33_1), (2, .int t18_1), (1, .ref h3), (0, .ref h0)] → W p l e ((headSpec (xw yX6_findFaces cX6_findFaces 6 none) { frames := 4, cells := 0, slots := 0, locals := 91 }).room) s m ([.ref h0] : List Value).toArray below meth c H locs 0 0 QQ (F0 m 72 ls []) := by
                  intro n3
                  induction n3 with
                  | zero => intro H locs ls t72_0 t72_1 hwp; exact False.elim hwp
                  | succ n3 ih3 =>
                    intro H locs ls t72_0 t72_1 hwp hP hD hS hl
                    rw [wLX6_findFaces_72] at hwp
                    refine lv_iload hx hb dX6_findFaces_72 (lv_at hl 0 rfl) ?_
                    refine lv_aload_n hx hb dX6_findFaces_74 rfl (lv_at hl 5 rfl) ?_
                    refine va_get (D := G) (ci := 6) (v := .ref h2) (C := RX6) (T := TX6) (N := 3) hx hb hts xinX6 hown hK hP 0 rfl rfl 0 (by decide) (hts _ wo_47) (fun _ h9 => h9) rfl dX6_findFaces_75 ?_
                    refine va_getN (D := G) (ci := 2) (v := .int i1) (C := RX2) (T := TX2) (N := 3) hx hb hts xinX2 hown hK hP 1 rfl rfl 2 (by decide) (va_Nw.use rfl (hN.1 ("PlaneTests$Round", 41, "PlaneTests$Filled", "nodes", "I", "PlaneTests") (by decide +kernel))) (fun _ h9 => h9) rfl dX6_findFaces_78 ?_
                    refine lv_icmp_ge (tgt := 135) hx hb dX6_findFaces_81 (by decide) (fun c81 => ?_) (fun c81 => ?_)
                    · replace hwp := hwp.1 c81
                      refine lv_iinc (v := (t33_1 + 1)) (lv' := [(3, .int (t33_1 + 1)), (5, .int t72_1), (4, .int 0), (2, .int t18_1), (1, .ref h3), (0, .ref h0)]) hx hb dX6_findFaces_135 hl (k := 2) rfl rfl (by decide) rfl (fun ls hl => ?_)
                      refine lv_goto (tgt := 33) hx hb dX6_findFaces_138 (by decide) ?_
                      replace hl : lv_has ls 6 [(3, .int (t33_1 + 1)), (2, .int t18_1), (1, .ref h3), (0, .ref h0)] := lv_sub hl [0, 3, 4, 5] rfl
                      exact ih2 H locs ls t72_0 (t33_1 + 1) hwp hP hD hS hl
                    · replace hwp := hwp.2 c81
                      refine lv_iload hx hb dX6_findFaces_84 (lv_at hl 1 rfl) ?_
                      refine lv_iload hx hb dX6_findFaces_86 (lv_at hl 0 rfl) ?_
                      refine xci (wr := [(h0, .inr (6, [.ref h2, .ref h1, .ref k0])), (h2, .inr (2, [.ref k1, .ref h3, .int i1])), (h3, aI cI 20 f2), (h1, aI cI 400 t72_0)]) (va_runSN (As := [.int 0, .int t72_1]) (rest := []) ⟨hx, hb, hml, hown, hts⟩ (zX8_hasBit l G cI cJ cZ H.size (0 : Int32) t72_1 _ hwp) ⟨(va_cnB 2 hts (xgood wo_61) rfl rfl rfl (hN.2 ("PlaneTests$Round", 45, yX8_hasBit, "PlaneTests") (by decide +kernel)) (hts _ wo_49) (by decide +kernel) ⟨Nat.le_of_ble_eq_true rfl, Nat.le_of_ble_eq_true rfl⟩), hts _ wo_62, trivial⟩ (xPreS hK hN hP hD [] (by decide) rfl) rfl rfl hl.1 rfl (lv_room (Nat.le_of_ble_eq_true rfl)) dX6_findFaces_88 ⟨Nat.le_of_ble_eq_true rfl, Nat.le_of_ble_eq_true rfl⟩) hP hD hS hA [] [0, 1, 2, 3] rfl rfl (by decide) (by decide) (fun r88 u88 H locs hwp hP hD hS => ?_)
                      replace hP : va_P G vwCl [(h0, .inr (6, [.ref h2, .ref h1, .ref k0])), (h2, .inr (2, [.ref k1, .ref h3, .int i1])), (h3, aI cI 20 f2), (h1, aI cI 400 t72_0)] H := hP
                      replace hD : va_D A [(h0, .inr (6, [.ref h2, .ref h1, .ref k0])), (h2, .inr (2, [.ref k1, .ref h3, .int i1])), (h3, aI cI 20 f2), (h1, aI cI 400 t72_0)] := hD
                      refine lv_if_eq (tgt := 129) hx hb dX6_findFaces_91 (by decide) (fun c91 => ?_) (fun c91 => ?_)
                      · replace hwp := hwp.1 c91
                        refine lv_iinc (v := (t72_1 + 1)) (lv' := [(5, .int (t72_1 + 1)), (4, .int 0), (3, .int t33_1), (2, .int t18_1), (1, .ref h3), (0, .ref h0)]) hx hb dX6_findFaces_129 hl (k := 0) rfl rfl (by decide) rfl (fun ls hl => ?_)
                        refine lv_goto (tgt := 72) hx hb dX6_findFaces_132 (by decide) ?_
                        replace hl : lv_has ls 6 [(5, .int (t72_1 + 1)), (4, .int 0), (3, .int t33_1), (2, .int t18_1), (1, .ref h3), (0, .ref h0)] := lv_sub hl [0, 1, 2, 3, 4, 5] rfl
                        exact ih3 H locs ls t72_0 (t72_1 + 1) hwp hP hD hS hl
                      · replace hwp := hwp.2 c91
                        refine lv_aload_n hx hb dX6_findFaces_94 rfl (lv_at hl 5 rfl) ?_
                        refine lv_iload_n hx hb dX6_findFaces_95 rfl (lv_at hl 3 rfl) ?_
                        refine lv_iload_n hx hb dX6_findFaces_96 rfl (lv_at hl 2 rfl) ?_
                        refine lv_iload hx hb dX6_findFaces_97 (lv_at hl 0 rfl) ?_
                        refine xci (wr := [(h1, aI cI 400 t72_0)]) (va_runV (As := [.int t18_1, .int t33_1, .int t72_1]) (rest := []) ⟨hx, hb, hml, hown, hts⟩ (zX6_isFace l G cI cJ cZ h0 h2 h3 h1 k0 k1 H.size i1 f2 t18_1 t33_1 t72_1 _ hwp) (cwV 3 hts (xgoodV wo_63 wo_64 wo_65 wo_66 wo_55) rfl rfl rfl (by decide +kernel) ⟨Nat.le_of_ble_eq_true rfl, Nat.le_of_ble_eq_true rfl⟩) (xPreV (q := (RX6, TX6, 3)) (q0 := 0) hK hN hP hD [0, 1, 2] (by decide) rfl rfl rfl) rfl rfl hl.1 rfl (lv_room (Nat.le_of_ble_eq_true rfl)) dX6_findFaces_99 ⟨Nat.le_of_ble_eq_true rfl, Nat.le_of_ble_eq_true rfl⟩) hP hD hS hA [0, 1, 2] [3] rfl rfl (by decide) (by decide) (fun r99 u99 H locs hwp hP hD hS => ?_)
                        replace hP : va_P G vwCl [(h1, aI cI 400 t72_0), (h0, .inr (6, [.ref h2, .ref h1, .ref k0])), (h2, .inr (2, [.ref k1, .ref h3, .int i1])), (h3, aI cI 20 f2)] H := hP
                        replace hD : va_D A [(h1, aI cI 400 t72_0), (h0, .inr (6, [.ref h2, .ref h1, .ref k0])), (h2, .inr (2, [.ref k1, .ref h3, .int i1])), (h3, aI cI 20 f2)] := hD
                        refine lv_if_eq (tgt := 129) hx hb dX6_findFaces_102 (by decide) (fun c102 => ?_) (fun c102 => ?_)
                        · replace hwp := hwp.1 c102
                          refine lv_iinc (v := (t72_1 + 1)) (lv' := [(5, .int (t72_1 + 1)), (4, .int 0), (3, .int t33_1), (2, .int t18_1), (1, .ref h3), (0, .ref h0)]) hx hb dX6_findFaces_129 hl (k := 0) rfl rfl (by decide) rfl (fun ls hl => ?_)
                          refine lv_goto (tgt := 72) hx hb dX6_findFaces_132 (by decide) ?_
                          replace hl : lv_has ls 6 [(5, .int (t72_1 + 1)), (4, .int 0), (3, .int t33_1), (2, .int t18_1), (1, .ref h3), (0, .ref h0)] := lv_sub hl [0, 1, 2, 3, 4, 5] rfl
                          replace hP : va_P G vwCl [(h0, .inr (6, [.ref h2, .ref h1, .ref k0])), (h2, .inr (2, [.ref k1, .ref h3, .int i1])), (h3, aI cI 20 f2), (h1, aI cI 400 t72_0)] H := hP.sub [1, 2, 3, 0] rfl
                          replace hD : va_D A [(h0, .inr (6, [.ref h2, .ref h1, .ref k0])), (h2, .inr (2, [.ref k1, .ref h3, .int i1])), (h3, aI cI 20 f2), (h1, aI cI 400 t72_0)] := hD.sub [1, 2, 3, 0] (by decide) rfl
                          exact ih3 H locs ls t72_0 (t72_1 + 1) hwp hP hD hS hl
                        · replace hwp := hwp.2 c102
                          refine lv_aload_n hx hb dX6_findFaces_105 rfl (lv_at hl 5 rfl) ?_
                          refine lv_iload_n hx hb dX6_findFaces_106 rfl (lv_at hl 3 rfl) ?_
                          refine lv_iload_n hx hb dX6_findFaces_107 rfl (lv_at hl 2 rfl) ?_
                          refine lv_iload hx hb dX6_findFaces_108 (lv_at hl 0 rfl) ?_
                          refine xcv (wr := [(h2, .inr (2, [.ref k1, .ref h3, .int i1])), (h3, aI cI 20 f2)]) (va_runV (As := [.int t18_1, .int t33_1, .int t72_1]) (rest := []) ⟨hx, hb, hml, hown, hts⟩ (zX6_addFace l G cI cJ cZ h0 h1 h2 k0 H.size t72_0 t18_1 t33_1 t72_1 _ hwp) (cwV 3 hts (xgoodV wo_67 wo_68 wo_69 wo_70 wo_55) rfl rfl rfl (by decide +kernel) ⟨Nat.le_of_ble_eq_true rfl, Nat.le_of_ble_eq_true rfl⟩) (xPreV (q := (RX6, TX6, 3)) (q0 := 1) hK hN hP hD [1, 0] (by decide) rfl rfl rfl) rfl rfl hl.1 rfl (lv_room (Nat.le_of_ble_eq_true rfl)) dX6_findFaces_110 ⟨Nat.le_of_ble_eq_true rfl, Nat.le_of_ble_eq_true rfl⟩) hP hD hS hA [1, 0] [2, 3] rfl rfl (by decide) (by decide) (fun u110 H locs hwp hP hD hS => ?_)
                          replace hP : va_P G vwCl [(h2, .inr (2, [.ref k1, .ref h3, .int i1])), (h3, aI cI 20 f2), (h0, .inr (6, [.ref h2, .ref h1, .ref k0])), (h1, aI cI 400 u110)] H := hP
                          replace hD : va_D A [(h2, .inr (2, [.ref k1, .ref h3, .int i1])), (h3, aI cI 20 f2), (h0, .inr (6, [.ref h2, .ref h1, .ref k0])), (h1, aI cI 400 u110)] := hD
                          refine lv_aload_n hx hb dX6_findFaces_113 rfl (lv_at hl 5 rfl) ?_
                          refine lv_iload_n hx hb dX6_findFaces_114 rfl (lv_at hl 2 rfl) ?_
                          refine lv_iload hx hb dX6_findFaces_115 (lv_at hl 0 rfl) ?_
                          refine lv_iload_n hx hb dX6_findFaces_117 rfl (lv_at hl 3 rfl) ?_
                          refine xcv (wr := [(h2, .inr (2, [.ref k1, .ref h3, .int i1])), (h3, aI cI 20 f2)]) (va_runV (As := [.int t33_1, .int t72_1, .int t18_1]) (rest := []) ⟨hx, hb, hml, hown, hts⟩ (zX6_addFace l G cI cJ cZ h0 h1 h2 k0 H.size u110 t33_1 t72_1 t18_1 _ hwp) (cwV 3 hts (xgoodV wo_67 wo_68 wo_69 wo_70 wo_55) rfl rfl rfl (by decide +kernel) ⟨Nat.le_of_ble_eq_true rfl, Nat.le_of_ble_eq_true rfl⟩) (xPreV (q := (RX6, TX6, 3)) (q0 := 2) hK hN hP hD [2, 3] (by decide) rfl rfl rfl) rfl rfl hl.1 rfl (lv_room (Nat.le_of_ble_eq_true rfl)) dX6_findFaces_118 ⟨Nat.le_of_ble_eq_true rfl, Nat.le_of_ble_eq_true rfl⟩) hP hD hS hA [2, 3] [0, 1] rfl rfl (by decide) (by decide) (fun u118 H locs hwp hP hD hS => ?_)
                          replace hP : va_P G vwCl [(h2, .inr (2, [.ref k1, .ref h3, .int i1])), (h3, aI cI 20 f2), (h0, .inr (6, [.ref h2, .ref h1, .ref k0])), (h1, aI cI 400 u118)] H := hP
                          replace hD : va_D A [(h2, .inr (2, [.ref k1, .ref h3, .int i1])), (h3, aI cI 20 f2), (h0, .inr (6, [.ref h2, .ref h1, .ref k0])), (h1, aI cI 400 u118)] := hD
                          refine lv_aload_n hx hb dX6_findFaces_121 rfl (lv_at hl 5 rfl) ?_
                          refine lv_iload hx hb dX6_findFaces_122 (lv_at hl 0 rfl) ?_
                          refine lv_iload_n hx hb dX6_findFaces_124 rfl (lv_at hl 3 rfl) ?_
                          refine lv_iload_n hx hb dX6_findFaces_125 rfl (lv_at hl 2 rfl) ?_
                          refine xcv (wr := [(h2, .inr (2, [.ref k1, .ref h3, .int i1])), (h3, aI cI 20 f2)]) (va_runV (As := [.int t72_1, .int t18_1, .int t33_1]) (rest := []) ⟨hx, hb, hml, hown, hts⟩ (zX6_addFace l G cI cJ cZ h0 h1 h2 k0 H.size u118 t72_1 t18_1 t33_1 _ hwp) (cwV 3 hts (xgoodV wo_67 wo_68 wo_69 wo_70 wo_55) rfl rfl rfl (by decide +kernel) ⟨Nat.le_of_ble_eq_true rfl, Nat.le_of_ble_eq_true rfl⟩) (xPreV (q := (RX6, TX6, 3)) (q0 := 2) hK hN hP hD [2, 3] (by decide) rfl rfl rfl) rfl rfl hl.1 rfl (lv_room (Nat.le_of_ble_eq_true rfl)) dX6_findFaces_126 ⟨Nat.le_of_ble_eq_true rfl, Nat.le_of_ble_eq_true rfl⟩) hP hD hS hA [2, 3] [0, 1] rfl rfl (by decide) (by decide) (fun u126 H locs hwp hP hD hS => ?_)
                          replace hP : va_P G vwCl [(h2, .inr (2, [.ref k1, .ref h3, .int i1])), (h3, aI cI 20 f2), (h0, .inr (6, [.ref h2, .ref h1, .ref k0])), (h1, aI cI 400 u126)] H := hP
                          replace hD : va_D A [(h2, .inr (2, [.ref k1, .ref h3, .int i1])), (h3, aI cI 20 f2), (h0, .inr (6, [.ref h2, .ref h1, .ref k0])), (h1, aI cI 400 u126)] := hD
                          refine lv_iinc (v := (t72_1 + 1)) (lv' := [(5, .int (t72_1 + 1)), (4, .int 0), (3, .int t33_1), (2, .int t18_1), (1, .ref h3), (0, .ref h0)]) hx hb dX6_findFaces_129 hl (k := 0) rfl rfl (by decide) rfl (fun ls hl => ?_)
                          refine lv_goto (tgt := 72) hx hb dX6_findFaces_132 (by decide) ?_
                          replace hl : lv_has ls 6 [(5, .int (t72_1 + 1)), (4, .int 0), (3, .int t33_1), (2, .int t18_1), (1, .ref h3), (0, .ref h0)] := lv_sub hl [0, 1, 2, 3, 4, 5] rfl
                          replace hP : va_P G vwCl [(h0, .inr (6, [.ref h2, .ref h1, .ref k0])), (h2, .inr (2, [.ref k1, .ref h3, .int i1])), (h3, aI cI 20 f2), (h1, aI cI 400 u126)] H := hP.sub [2, 0, 1, 3] rfl
                          replace hD : va_D A [(h0, .inr (6, [.ref h2, .ref h1, .ref k0])), (h2, .inr (2, [.ref k1, .ref h3, .int i1])), (h3, aI cI 20 f2), (h1, aI cI 400 u126)] := hD.sub [2, 0, 1, 3] (by decide) rfl
                          exact ih3 H locs ls u126 (t72_1 + 1) hwp hP hD hS hl
                exact hs3 n3 H locs ls t33_0 v70 hwp hP hD hS hl
              · replace hwp := hwp.2 c51
                refine lv_aload_n hx hb dX6_findFaces_54 rfl (lv_at hl 2 rfl) ?_
                refine lv_iload_n hx hb dX6_findFaces_55 rfl (lv_at hl 1 rfl) ?_
                obtain ⟨hi, hwp⟩ := hwp
                refine va_iald hx hb hK hP 2 0 rfl rfl hi dX6_findFaces_56 ?_
                refine lv_aload_n hx hb dX6_findFaces_57 rfl (lv_at hl 2 rfl) ?_
                refine lv_iload_n hx hb dX6_findFaces_58 rfl (lv_at hl 0 rfl) ?_
                obtain ⟨hi, hwp⟩ := hwp
                refine va_iald hx hb hK hP 2 0 rfl rfl hi dX6_findFaces_59 ?_
                refine lv_iand hx hb dX6_findFaces_60 ?_
                refine lv_goto (tgt := 65) hx hb dX6_findFaces_61 (by decide) ?_
                refine lv_topi (fun v65 ev65 => ?_)
                replace hwp := hwp v65 ev65
                clear ev65
                refine lv_istore (lv' := [(4, .int v65), (3, .int t33_1), (2, .int t18_1), (1, .ref h3), (0, .ref h0)]) hx hb dX6_findFaces_65 hl (by decide) rfl (fun ls hl => ?_)
                refine lv_iload_n hx hb dX6_findFaces_67 rfl (lv_at hl 1 rfl) ?_
                refine lv_iconst (v := 1) hx hb dX6_findFaces_68 (by decide) ?_
                refine lv_iadd hx hb dX6_findFaces_69 ?_
                refine lv_topi (fun v70 ev70 => ?_)
                replace hwp := hwp v70 ev70
                clear ev70
                refine lv_istore (lv' := [(5, .int v70), (4, .int v65), (3, .int t33_1), (2, .int t18_1), (1, .ref h3), (0, .ref h0)]) hx hb dX6_findFaces_70 hl (by decide) rfl (fun ls hl => ?_)
                replace hl : lv_has ls 6 [(5, .int v70), (4, .int v65), (3, .int t33_1), (2, .int t18_1), (1, .ref h3), (0, .ref h0)] := lv_sub hl [0, 1, 2, 3, 4, 5] rfl
                obtain ⟨n4, hwp⟩ := hwp
                have hs4 : ∀ (n4 : Nat) (H : Heap) (locs : List Loc) (ls : Array Slot) (t72_0 : Nat → Int32) (t72_1 : Int32), wLX6_findFaces_72_1 i1 f2 t18_1 t33_1 v65 K (fun z0 z1 => wLX6_findFaces_33 i1 f2 t18_1 K (fun z0 z1 => wLX6_findFaces_18 i1 f2 K  n1 z0 z1) n2 z0 z1) n4 t72_0 t72_1 → va_P G vwCl [(h0, .inr (6, [.ref h2, .ref h1, .ref k0])), (h2, .inr (2, [.ref k1, .ref h3, .int i1])), (h3, aI cI 20 f2), (h1, aI cI 400 t72_0)] H → va_D A [(h0, .inr (6, [.ref h2, .ref h1, .ref k0])), (h2, .inr (2, [.ref k1, .ref h3, .int i1])), (h3, aI cI 20 f2), (h1, aI cI 400 t72_0)] → va_S A s.heap H locs → lv_has ls 6 [(5, .int t72_1), (4, .int v65), (3, .int t33_1), (2, .int t18_1), (1, .ref h3), (0, .ref h0)] → W p l e ((headSpec (xw yX6_findFaces cX6_findFaces 6 none) { frames := 4, cells := 0, slots := 0, locals := 91 }).room) s m ([.ref h0] : List Value).toArray below meth c H locs 0 0 QQ (F0 m 72 ls []) := by
                  intro n4
                  induction n4 with
                  | zero => intro H locs ls t72_0 t72_1 hwp; exact False.elim hwp
                  | succ n4 ih4 =>
                    intro H locs ls t72_0 t72_1 hwp hP hD hS hl
                    rw [wLX6_findFaces_72_1] at hwp
                    refine lv_iload hx hb dX6_findFaces_72 (lv_at hl 0 rfl) ?_
                    refine lv_aload_n hx hb dX6_findFaces_74 rfl (lv_at hl 5 rfl) ?_
                    refine va_get (D := G) (ci := 6) (v := .ref h2) (C := RX6) (T := TX6) (N := 3) hx hb hts xinX6 hown hK hP 0 rfl rfl 0 (by decide) (hts _ wo_47) (fun _ h9 => h9) rfl dX6_findFaces_75 ?_
                    refine va_getN (D := G) (ci := 2) (v := .int i1) (C := RX2) (T := TX2) (N := 3) hx hb hts xinX2 hown hK hP 1 rfl rfl 2 (by decide) (va_Nw.use rfl (hN.1 ("PlaneTests$Round", 41, "PlaneTests$Filled", "nodes", "I", "PlaneTests") (by decide +kernel))) (fun _ h9 => h9) rfl dX6_findFaces_78 ?_
                    refine lv_icmp_ge (tgt := 135) hx hb dX6_findFaces_81 (by decide) (fun c81 => ?_) (fun c81 => ?_)
                    · replace hwp := hwp.1 c81
                      refine lv_iinc (v := (t33_1 + 1)) (lv' := [(3, .int (t33_1 + 1)), (5, .int t72_1), (4, .int v65), (2, .int t18_1), (1, .ref h3), (0, .ref h0)]) hx hb dX6_findFaces_135 hl (k := 2) rfl rfl (by decide) rfl (fun ls hl => ?_)
                      refine lv_goto (tgt := 33) hx hb dX6_findFaces_138 (by decide) ?_
                      replace hl : lv_has ls 6 [(3, .int (t33_1 + 1)), (2, .int t18_1), (1, .ref h3), (0, .ref h0)] := lv_sub hl [0, 3, 4, 5] rfl
                      exact ih2 H locs ls t72_0 (t33_1 + 1) hwp hP hD hS hl
                    · replace hwp := hwp.2 c81
                      refine lv_iload hx hb dX6_findFaces_84 (lv_at hl 1 rfl) ?_
                      refine lv_iload hx hb dX6_findFaces_86 (lv_at hl 0 rfl) ?_
                      refine xci (wr := [(h0, .inr (6, [.ref h2, .ref h1, .ref k0])), (h2, .inr (2, [.ref k1, .ref h3, .int i1])), (h3, aI cI 20 f2), (h1, aI cI 400 t72_0)]) (va_runSN (As := [.int v65, .int t72_1]) (rest := []) ⟨hx, hb, hml, hown, hts⟩ (zX8_hasBit l G cI cJ cZ H.size v65 t72_1 _ hwp) ⟨(va_cnB 2 hts (xgood wo_61) rfl rfl rfl (hN.2 ("PlaneTests$Round", 45, yX8_hasBit, "PlaneTests") (by decide +kernel)) (hts _ wo_49) (by decide +kernel) ⟨Nat.le_of_ble_eq_true rfl, Nat.le_of_ble_eq_true rfl⟩), hts _ wo_62, trivial⟩ (xPreS hK hN hP hD [] (by decide) rfl) rfl rfl hl.1 rfl (lv_room (Nat.le_of_ble_eq_true rfl)) dX6_findFaces_88 ⟨Nat.le_of_ble_eq_true rfl, Nat.le_of_ble_eq_true rfl⟩) hP hD hS hA [] [0, 1, 2, 3] rfl rfl (by decide) (by decide) (fun r88 u88 H locs hwp hP hD hS => ?_)
                      replace hP : va_P G vwCl [(h0, .inr (6, [.ref h2, .ref h1, .ref k0])), (h2, .inr (2, [.ref k1, .ref h3, .int i1])), (h3, aI cI 20 f2), (h1, aI cI 400 t72_0)] H := hP
                      replace hD : va_D A [(h0, .inr (6, [.ref h2, .ref h1, .ref k0])), (h2, .inr (2, [.ref k1, .ref h3, .int i1])), (h3, aI cI 20 f2), (h1, aI cI 400 t72_0)] := hD
                      refine lv_if_eq (tgt := 129) hx hb dX6_findFaces_91 (by decide) (fun c91 => ?_) (fun c91 => ?_)
                      · replace hwp := hwp.1 c91
                        refine lv_iinc (v := (t72_1 + 1)) (lv' := [(5, .int (t72_1 + 1)), (4, .int v65), (3, .int t33_1), (2, .int t18_1), (1, .ref h3), (0, .ref h0)]) hx hb dX6_findFaces_129 hl (k := 0) rfl rfl (by decide) rfl (fun ls hl => ?_)
                        refine lv_goto (tgt := 72) hx hb dX6_findFaces_132 (by decide) ?_
                        replace hl : lv_has ls 6 [(5, .int (t72_1 + 1)), (4, .int v65), (3, .int t33_1), (2, .int t18_1), (1, .ref h3), (0, .ref h0)] := lv_sub hl [0, 1, 2, 3, 4, 5] rfl
                        exact ih4 H locs ls t72_0 (t72_1 + 1) hwp hP hD hS hl
                      · replace hwp := hwp.2 c91
                        refine lv_aload_n hx hb dX6_findFaces_94 rfl (lv_at hl 5 rfl) ?_
                        refine lv_iload_n hx hb dX6_findFaces_95 rfl (lv_at hl 3 rfl) ?_
                        refine lv_iload_n hx hb dX6_findFaces_96 rfl (lv_at hl 2 rfl) ?_
                        refine lv_iload hx hb dX6_findFaces_97 (lv_at hl 0 rfl) ?_
                        refine xci (wr := [(h1, aI cI 400 t72_0)]) (va_runV (As := [.int t18_1, .int t33_1, .int t72_1]) (rest := []) ⟨hx, hb, hml, hown, hts⟩ (zX6_isFace l G cI cJ cZ h0 h2 h3 h1 k0 k1 H.size i1 f2 t18_1 t33_1 t72_1 _ hwp) (cwV 3 hts (xgoodV wo_63 wo_64 wo_65 wo_66 wo_55) rfl rfl rfl (by decide +kernel) ⟨Nat.le_of_ble_eq_true rfl, Nat.le_of_ble_eq_true rfl⟩) (xPreV (q := (RX6, TX6, 3)) (q0 := 0) hK hN hP hD [0, 1, 2] (by decide) rfl rfl rfl) rfl rfl hl.1 rfl (lv_room (Nat.le_of_ble_eq_true rfl)) dX6_findFaces_99 ⟨Nat.le_of_ble_eq_true rfl, Nat.le_of_ble_eq_true rfl⟩) hP hD hS hA [0, 1, 2] [3] rfl rfl (by decide) (by decide) (fun r99 u99 H locs hwp hP hD hS => ?_)
                        replace hP : va_P G vwCl [(h1, aI cI 400 t72_0), (h0, .inr (6, [.ref h2, .ref h1, .ref k0])), (h2, .inr (2, [.ref k1, .ref h3, .int i1])), (h3, aI cI 20 f2)] H := hP
                        replace hD : va_D A [(h1, aI cI 400 t72_0), (h0, .inr (6, [.ref h2, .ref h1, .ref k0])), (h2, .inr (2, [.ref k1, .ref h3, .int i1])), (h3, aI cI 20 f2)] := hD
                        refine lv_if_eq (tgt := 129) hx hb dX6_findFaces_102 (by decide) (fun c102 => ?_) (fun c102 => ?_)
                        · replace hwp := hwp.1 c102
                          refine lv_iinc (v := (t72_1 + 1)) (lv' := [(5, .int (t72_1 + 1)), (4, .int v65), (3, .int t33_1), (2, .int t18_1), (1, .ref h3), (0, .ref h0)]) hx hb dX6_findFaces_129 hl (k := 0) rfl rfl (by decide) rfl (fun ls hl => ?_)
                          refine lv_goto (tgt := 72) hx hb dX6_findFaces_132 (by decide) ?_
                          replace hl : lv_has ls 6 [(5, .int (t72_1 + 1)), (4, .int v65), (3, .int t33_1), (2, .int t18_1), (1, .ref h3), (0, .ref h0)] := lv_sub hl [0, 1, 2, 3, 4, 5] rfl
                          replace hP : va_P G vwCl [(h0, .inr (6, [.ref h2, .ref h1, .ref k0])), (h2, .inr (2, [.ref k1, .ref h3, .int i1])), (h3, aI cI 20 f2), (h1, aI cI 400 t72_0)] H := hP.sub [1, 2, 3, 0] rfl
                          replace hD : va_D A [(h0, .inr (6, [.ref h2, .ref h1, .ref k0])), (h2, .inr (2, [.ref k1, .ref h3, .int i1])), (h3, aI cI 20 f2), (h1, aI cI 400 t72_0)] := hD.sub [1, 2, 3, 0] (by decide) rfl
                          exact ih4 H locs ls t72_0 (t72_1 + 1) hwp hP hD hS hl
                        · replace hwp := hwp.2 c102
                          refine lv_aload_n hx hb dX6_findFaces_105 rfl (lv_at hl 5 rfl) ?_
                          refine lv_iload_n hx hb dX6_findFaces_106 rfl (lv_at hl 3 rfl) ?_
                          refine lv_iload_n hx hb dX6_findFaces_107 rfl (lv_at hl 2 rfl) ?_
                          refine lv_iload hx hb dX6_findFaces_108 (lv_at hl 0 rfl) ?_
                          refine xcv (wr := [(h2, .inr (2, [.ref k1, .ref h3, .int i1])), (h3, aI cI 20 f2)]) (va_runV (As := [.int t18_1, .int t33_1, .int t72_1]) (rest := []) ⟨hx, hb, hml, hown, hts⟩ (zX6_addFace l G cI cJ cZ h0 h1 h2 k0 H.size t72_0 t18_1 t33_1 t72_1 _ hwp) (cwV 3 hts (xgoodV wo_67 wo_68 wo_69 wo_70 wo_55) rfl rfl rfl (by decide +kernel) ⟨Nat.le_of_ble_eq_true rfl, Nat.le_of_ble_eq_true rfl⟩) (xPreV (q := (RX6, TX6, 3)) (q0 := 1) hK hN hP hD [1, 0] (by decide) rfl rfl rfl) rfl rfl hl.1 rfl (lv_room (Nat.le_of_ble_eq_true rfl)) dX6_findFaces_110 ⟨Nat.le_of_ble_eq_true rfl, Nat.le_of_ble_eq_true rfl⟩) hP hD hS hA [1, 0] [2, 3] rfl rfl (by decide) (by decide) (fun u110 H locs hwp hP hD hS => ?_)
                          replace hP : va_P G vwCl [(h2, .inr (2, [.ref k1, .ref h3, .int i1])), (h3, aI cI 20 f2), (h0, .inr (6, [.ref h2, .ref h1, .ref k0])), (h1, aI cI 400 u110)] H := hP
                          replace hD : va_D A [(h2, .inr (2, [.ref k1, .ref h3, .int i1])), (h3, aI cI 20 f2), (h0, .inr (6, [.ref h2, .ref h1, .ref k0])), (h1, aI cI 400 u110)] := hD
                          refine lv_aload_n hx hb dX6_findFaces_113 rfl (lv_at hl 5 rfl) ?_
                          refine lv_iload_n hx hb dX6_findFaces_114 rfl (lv_at hl 2 rfl) ?_
                          refine lv_iload hx hb dX6_findFaces_115 (lv_at hl 0 rfl) ?_
                          refine lv_iload_n hx hb dX6_findFaces_117 rfl (lv_at hl 3 rfl) ?_
                          refine xcv (wr := [(h2, .inr (2, [.ref k1, .ref h3, .int i1])), (h3, aI cI 20 f2)]) (va_runV (As := [.int t33_1, .int t72_1, .int t18_1]) (rest := []) ⟨hx, hb, hml, hown, hts⟩ (zX6_addFace l G cI cJ cZ h0 h1 h2 k0 H.size u110 t33_1 t72_1 t18_1 _ hwp) (cwV 3 hts (xgoodV wo_67 wo_68 wo_69 wo_70 wo_55) rfl rfl rfl (by decide +kernel) ⟨Nat.le_of_ble_eq_true rfl, Nat.le_of_ble_eq_true rfl⟩) (xPreV (q := (RX6, TX6, 3)) (q0 := 2) hK hN hP hD [2, 3] (by decide) rfl rfl rfl) rfl rfl hl.1 rfl (lv_room (Nat.le_of_ble_eq_true rfl)) dX6_findFaces_118 ⟨Nat.le_of_ble_eq_true rfl, Nat.le_of_ble_eq_true rfl⟩) hP hD hS hA [2, 3] [0, 1] rfl rfl (by decide) (by decide) (fun u118 H locs hwp hP hD hS => ?_)
                          replace hP : va_P G vwCl [(h2, .inr (2, [.ref k1, .ref h3, .int i1])), (h3, aI cI 20 f2), (h0, .inr (6, [.ref h2, .ref h1, .ref k0])), (h1, aI cI 400 u118)] H := hP
                          replace hD : va_D A [(h2, .inr (2, [.ref k1, .ref h3, .int i1])), (h3, aI cI 20 f2), (h0, .inr (6, [.ref h2, .ref h1, .ref k0])), (h1, aI cI 400 u118)] := hD
                          refine lv_aload_n hx hb dX6_findFaces_121 rfl (lv_at hl 5 rfl) ?_
                          refine lv_iload hx hb dX6_findFaces_122 (lv_at hl 0 rfl) ?_
                          refine lv_iload_n hx hb dX6_findFaces_124 rfl (lv_at hl 3 rfl) ?_
                          refine lv_iload_n hx hb dX6_findFaces_125 rfl (lv_at hl 2 rfl) ?_
                          refine xcv (wr := [(h2, .inr (2, [.ref k1, .ref h3, .int i1])), (h3, aI cI 20 f2)]) (va_runV (As := [.int t72_1, .int t18_1, .int t33_1]) (rest := []) ⟨hx, hb, hml, hown, hts⟩ (zX6_addFace l G cI cJ cZ h0 h1 h2 k0 H.size u118 t72_1 t18_1 t33_1 _ hwp) (cwV 3 hts (xgoodV wo_67 wo_68 wo_69 wo_70 wo_55) rfl rfl rfl (by decide +kernel) ⟨Nat.le_of_ble_eq_true rfl, Nat.le_of_ble_eq_true rfl⟩) (xPreV (q := (RX6, TX6, 3)) (q0 := 2) hK hN hP hD [2, 3] (by decide) rfl rfl rfl) rfl rfl hl.1 rfl (lv_room (Nat.le_of_ble_eq_true rfl)) dX6_findFaces_126 ⟨Nat.le_of_ble_eq_true rfl, Nat.le_of_ble_eq_true rfl⟩) hP hD hS hA [2, 3] [0, 1] rfl rfl (by decide) (by decide) (fun u126 H locs hwp hP hD hS => ?_)
                          replace hP : va_P G vwCl [(h2, .inr (2, [.ref k1, .ref h3, .int i1])), (h3, aI cI 20 f2), (h0, .inr (6, [.ref h2, .ref h1, .ref k0])), (h1, aI cI 400 u126)] H := hP
                          replace hD : va_D A [(h2, .inr (2, [.ref k1, .ref h3, .int i1])), (h3, aI cI 20 f2), (h0, .inr (6, [.ref h2, .ref h1, .ref k0])), (h1, aI cI 400 u126)] := hD
                          refine lv_iinc (v := (t72_1 + 1)) (lv' := [(5, .int (t72_1 + 1)), (4, .int v65), (3, .int t33_1), (2, .int t18_1), (1, .ref h3), (0, .ref h0)]) hx hb dX6_findFaces_129 hl (k := 0) rfl rfl (by decide) rfl (fun ls hl => ?_)
                          refine lv_goto (tgt := 72) hx hb dX6_findFaces_132 (by decide) ?_
                          replace hl : lv_has ls 6 [(5, .int (t72_1 + 1)), (4, .int v65), (3, .int t33_1), (2, .int t18_1), (1, .ref h3), (0, .ref h0)] := lv_sub hl [0, 1, 2, 3, 4, 5] rfl
                          replace hP : va_P G vwCl [(h0, .inr (6, [.ref h2, .ref h1, .ref k0])), (h2, .inr (2, [.ref k1, .ref h3, .int i1])), (h3, aI cI 20 f2), (h1, aI cI 400 u126)] H := hP.sub [2, 0, 1, 3] rfl
                          replace hD : va_D A [(h0, .inr (6, [.ref h2, .ref h1, .ref k0])), (h2, .inr (2, [.ref k1, .ref h3, .int i1])), (h3, aI cI 20 f2), (h1, aI cI 400 u126)] := hD.sub [2, 0, 1, 3] (by decide) rfl
                          exact ih4 H locs ls u126 (t72_1 + 1) hwp hP hD hS hl
                exact hs4 n4 H locs ls t33_0 v70 hwp hP hD hS hl
        exact hs2 n2 H locs ls t18_0 v32 hwp hP hD hS hl
  exact hs1 n1 H locs ls u5 0 hwp hP hD hS hl
def wX6_setFace (f0 : Nat → Int32) (p0 : Int32) (p1 : Int32) (p2 : Int32) (K : ((Nat → Int32)) → Prop) : Prop := (vp_in ((p0 * 20) + p1) 400 ∧ (∀ g11 : Nat → Int32, g11 = upd f0 (Int32.toNatClampNeg ((p0 * 20) + p1)) p2 → (vp_in ((p1 * 20) + p2) 400 ∧ (∀ g23 : Nat → Int32, g23 = upd g11 (Int32.toNatClampNeg ((p1 * 20) + p2)) p0 → (vp_in ((p2 * 20) + p0) 400 ∧ (∀ g35 : Nat → Int32, g35 = upd g23 (Int32.toNatClampNeg ((p2 * 20) + p0)) p1 → K g35))))))
set_option maxHeartbeats 4000000 in
set_option maxRecDepth 100000 in
theorem zX6_setFace (l : Launch) (G : va_G) (cI cJ cZ : ClassId) (h0 h1 k0 k1 sz : Nat) (f0 : Nat → Int32) (p0 : Int32) (p1 : Int32) (p2 : Int32) (K : ((Nat → Int32)) → Prop) (hwp : wX6_setFace f0 p0 p1 p2 K) : Met l yX6_setFace (xw yX6_setFace cX6_setFace 4 none) ({ frames := 0, cells := 0, slots := 0, locals := 0 }) (xPc G cI cJ cZ [.ref h0, .int p0, .int p1, .int p2] [(h0, .inr (6, [.ref k0, .ref k1, .ref h1])), (h1, aI cI 400 f0)] sz) (va_Qv (fun (u : (Nat → Int32)) => K u) (fun (u : (Nat → Int32)) t => xB G (va_A [(h0, .inr (6, [.ref k0, .ref k1, .ref h1])), (h1, aI cI 400 f0)] sz) [(h0, .inr (6, [.ref k0, .ref k1, .ref h1])), (h1, aI cI 400 u)] t) (va_A [(h0, .inr (6, [.ref k0, .ref k1, .ref h1])), (h1, aI cI 400 f0)] sz)) 0 0 (va_A [(h0, .inr (6, [.ref k0, .ref k1, .ref h1])), (h1, aI cI 400 f0)] sz) := by
  refine Met.ofW (cc := cX6_setFace) (maxL := 4) (ret := none) (by decide) rfl ?_
  intro p e s m args below meth c s₁ B hml hv
  obtain ⟨rfl, hsz, hP, hK, hD0, hN⟩ := hv
  have hx := B.exec
  have hb := B.bytes
  have hr := B.returns
  have hts : ∀ w ∈ xW, w.before _ s = true := fun w h => atoms_spec (ws := xw yX6_setFace cX6_setFace 4 none) B.pre w (List.mem_cons_of_mem _ h)
  have hown : s.vm.findClass RX6 = some m.cls := findClass_of_methodNamed B.named
  have hlocks := B.notSynchronized
  subst hsz
  have hD := hD0.self (sz := s.heap.size)
  clear hD0
  generalize hAe : va_A [(h0, .inr (6, [.ref k0, .ref k1, .ref h1])), (h1, aI cI 400 f0)] s.heap.size = A at hD ⊢
  have hA : ∀ q : Nat, s.heap.size ≤ q → A q := fun q h => by rw [← hAe]; exact Or.inr h
  clear hAe
  have hS : va_S A s.heap s.heap [] := va_S.rf
  replace hP : va_P G vwCl [(h0, .inr (6, [.ref k0, .ref k1, .ref h1])), (h1, aI cI 400 f0)] s.heap := hP
  have hl := lv_entry ([.ref h0, .int p0, .int p1, .int p2]) (n := 4) (Nat.le_of_ble_eq_true rfl)
  rw [lg_entry_eq]
  generalize (lg_sl ([.ref h0, .int p0, .int p1, .int p2]) ++ List.replicate (4 - (lg_sl ([.ref h0, .int p0, .int p1, .int p2])).length) Slot.unset).toArray = ls at hl ⊢
  replace hl : lv_has ls 4 [(0, .ref h0), (1, .int p0), (2, .int p1), (3, .int p2)] := hl
  generalize hQQ : MQ below _ _ s 0 0 _ = QQ
  skip
  unfold wX6_setFace at hwp
  refine lv_aload_n hx hb dX6_setFace_0 rfl (lv_at hl 0 rfl) ?_
  refine va_get (D := G) (ci := 6) (v := .ref h1) (C := RX6) (T := TX6) (N := 3) hx hb hts xinX6 hown hK hP 0 rfl rfl 2 (by decide) (hts _ wo_42) (fun _ h9 => h9) rfl dX6_setFace_1 ?_
  refine lv_iload_n hx hb dX6_setFace_4 rfl (lv_at hl 1 rfl) ?_
  refine lv_bipush (v := 20) hx hb dX6_setFace_5 (by decide) ?_
  refine lv_imul hx hb dX6_setFace_7 ?_
  refine lv_iload_n hx hb dX6_setFace_8 rfl (lv_at hl 2 rfl) ?_
  refine lv_iadd hx hb dX6_setFace_9 ?_
  refine lv_iload_n hx hb dX6_setFace_10 rfl (lv_at hl 3 rfl) ?_
  obtain ⟨hi, hwp⟩ := hwp
  refine va_iast hx hb hK hP hD hS 1 0 rfl rfl hi dX6_setFace_11 (fun H locs hP hD hS => ?_)
  obtain ⟨g11, eg11⟩ : ∃ z, z = upd f0 (Int32.toNatClampNeg ((p0 * 20) + p1)) p2 := ⟨_, rfl⟩
  replace hwp := hwp g11 eg11
  replace hP : va_P G vwCl [(h0, .inr (6, [.ref k0, .ref k1, .ref h1])), (h1, aI cI 400 g11)] H := by rw [eg11]; exact hP
  replace hD : va_D A [(h0, .inr (6, [.ref k0, .ref k1, .ref h1])), (h1, aI cI 400 g11)] := by rw [eg11]; exact hD
  clear eg11
  refine lv_aload_n hx hb dX6_setFace_12 rfl (lv_at hl 0 rfl) ?_
  refine va_get (D := G) (ci := 6) (v := .ref h1) (C := RX6) (T := TX6) (N := 3) hx hb hts xinX6 hown hK hP 0 rfl rfl 2 (by decide) (hts _ wo_42) (fun _ h9 => h9) rfl dX6_setFace_13 ?_
  refine lv_iload_n hx hb dX6_setFace_16 rfl (lv_at hl 2 rfl) ?_
  refine lv_bipush (v := 20) hx hb dX6_setFace_17 (by decide) ?_
  refine lv_imul hx hb dX6_setFace_19 ?_
  refine lv_iload_n hx hb dX6_setFace_20 rfl (lv_at hl 3 rfl) ?_
  refine lv_iadd hx hb dX6_setFace_21 ?_
  refine lv_iload_n hx hb dX6_setFace_22 rfl (lv_at hl 1 rfl) ?_
  obtain ⟨hi, hwp⟩ := hwp
  refine va_iast hx hb hK hP hD hS 1 0 rfl rfl hi dX6_setFace_23 (fun H locs hP hD hS => ?_)
  obtain ⟨g23, eg23⟩ : ∃ z, z = upd g11 (Int32.toNatClampNeg ((p1 * 20) + p2)) p0 := ⟨_, rfl⟩
  replace hwp := hwp g23 eg23
  replace hP : va_P G vwCl [(h0, .inr (6, [.ref k0, .ref k1, .ref h1])), (h1, aI cI 400 g23)] H := by rw [eg23]; exact hP
  replace hD : va_D A [(h0, .inr (6, [.ref k0, .ref k1, .ref h1])), (h1, aI cI 400 g23)] := by rw [eg23]; exact hD
  clear eg23
  refine lv_aload_n hx hb dX6_setFace_24 rfl (lv_at hl 0 rfl) ?_
  refine va_get (D := G) (ci := 6) (v := .ref h1) (C := RX6) (T := TX6) (N := 3) hx hb hts xinX6 hown hK hP 0 rfl rfl 2 (by decide) (hts _ wo_42) (fun _ h9 => h9) rfl dX6_setFace_25 ?_
  refine lv_iload_n hx hb dX6_setFace_28 rfl (lv_at hl 3 rfl) ?_
  refine lv_bipush (v := 20) hx hb dX6_setFace_29 (by decide) ?_
  refine lv_imul hx hb dX6_setFace_31 ?_
  refine lv_iload_n hx hb dX6_setFace_32 rfl (lv_at hl 1 rfl) ?_
  refine lv_iadd hx hb dX6_setFace_33 ?_
  refine lv_iload_n hx hb dX6_setFace_34 rfl (lv_at hl 2 rfl) ?_
  obtain ⟨hi, hwp⟩ := hwp
  refine va_iast hx hb hK hP hD hS 1 0 rfl rfl hi dX6_setFace_35 (fun H locs hP hD hS => ?_)
  obtain ⟨g35, eg35⟩ : ∃ z, z = upd g23 (Int32.toNatClampNeg ((p2 * 20) + p0)) p1 := ⟨_, rfl⟩
  replace hwp := hwp g35 eg35
  replace hP : va_P G vwCl [(h0, .inr (6, [.ref k0, .ref k1, .ref h1])), (h1, aI cI 400 g35)] H := by rw [eg35]; exact hP
  replace hD : va_D A [(h0, .inr (6, [.ref k0, .ref k1, .ref h1])), (h1, aI cI 400 g35)] := by rw [eg35]; exact hD
  clear eg35
  have hP9 : va_P G vwCl [(h0, .inr (6, [.ref k0, .ref k1, .ref h1])), (h1, aI cI 400 g35)] H := hP.sub [0, 1] rfl
  have hD9 : va_D A [(h0, .inr (6, [.ref k0, .ref k1, .ref h1])), (h1, aI cI 400 g35)] := hD.sub [0, 1] (by decide) rfl
  rw [← hQQ]
  exact W.vret hx hb hr (fun t ht hW => ⟨⟨g35, rfl, hwp, by rw [ht]; exact hP9, hD9⟩, hS.F ht⟩) hS.2.2 dX6_setFace_36
def wLX6_firstKnown_2 (i0 : Int32) (f1 : Nat → Int32) (p0 : Int32) (K : Int32 → Unit → Prop)  : Nat → Int32 → Prop
  | 0, _ => False
  | n2 + 1, t2_0 => ((i0 ≤ t2_0 → K (0 : Int32) ()) ∧ (¬ i0 ≤ t2_0 → (wX6_behind f1 p0 t2_0 (fun r16 _ => ((r16 < 0 → (wLX6_firstKnown_2 i0 f1 p0 K  n2) (t2_0 + 1)) ∧ (¬ r16 < 0 → K t2_0 ()))))))
def wX6_firstKnown (i0 : Int32) (f1 : Nat → Int32) (p0 : Int32) (K : Int32 → Unit → Prop) : Prop := (∃ n2, wLX6_firstKnown_2 i0 f1 p0 K  n2 0)
set_option maxHeartbeats 4000000 in
set_option maxRecDepth 100000 in
theorem zX6_firstKnown (l : Launch) (G : va_G) (cI cJ cZ : ClassId) (h0 h1 h2 k0 k1 k2 sz : Nat) (i0 : Int32) (f1 : Nat → Int32) (p0 : Int32) (K : Int32 → Unit → Prop) (hwp : wX6_firstKnown i0 f1 p0 K) : Met l yX6_firstKnown (xw yX6_firstKnown cX6_firstKnown 3 (some .int)) ({ frames := 1, cells := 0, slots := 0, locals := 22 }) (xPc G cI cJ cZ [.ref h0, .int p0] [(h0, .inr (6, [.ref h1, .ref k0, .ref h2])), (h1, .inr (2, [.ref k1, .ref k2, .int i0])), (h2, aI cI 400 f1)] sz) (va_Qi (fun (r : Int32) (u : Unit) => K r u) (fun (u : Unit) t => xB G (va_A [(h0, .inr (6, [.ref h1, .ref k0, .ref h2])), (h1, .inr (2, [.ref k1, .ref k2, .int i0])), (h2, aI cI 400 f1)] sz) [(h0, .inr (6, [.ref h1, .ref k0, .ref h2])), (h1, .inr (2, [.ref k1, .ref k2, .int i0])), (h2, aI cI 400 f1)] t) (va_A [(h0, .inr (6, [.ref h1, .ref k0, .ref h2])), (h1, .inr (2, [.ref k1, .ref k2, .int i0])), (h2, aI cI 400 f1)] sz)) 0 0 (va_A [(h0, .inr (6, [.ref h1, .ref k0, .ref h2])), (h1, .inr (2, [.ref k1, .ref k2, .int i0])), (h2, aI cI 400 f1)] sz) := by
  refine Met.ofW (cc := cX6_firstKnown) (maxL := 3) (ret := (some .int)) (by decide) rfl ?_
  intro p e s m args below meth c s₁ B hml hv
  obtain ⟨rfl, hsz, hP, hK, hD0, hN⟩ := hv
  have hx := B.exec
  have hb := B.bytes
  have hr := B.returns
  have hts : ∀ w ∈ xW, w.before _ s = true := fun w h => atoms_spec (ws := xw yX6_firstKnown cX6_firstKnown 3 (some .int)) B.pre w (List.mem_cons_of_mem _ h)
  have hown : s.vm.findClass RX6 = some m.cls := findClass_of_methodNamed B.named
  have hlocks := B.notSynchronized
  subst hsz
  have hD := hD0.self (sz := s.heap.size)
  clear hD0
  generalize hAe : va_A [(h0, .inr (6, [.ref h1, .ref k0, .ref h2])), (h1, .inr (2, [.ref k1, .ref k2, .int i0])), (h2, aI cI 400 f1)] s.heap.size = A at hD ⊢
  have hA : ∀ q : Nat, s.heap.size ≤ q → A q := fun q h => by rw [← hAe]; exact Or.inr h
  clear hAe
  have hS : va_S A s.heap s.heap [] := va_S.rf
  replace hP : va_P G vwCl [(h0, .inr (6, [.ref h1, .ref k0, .ref h2])), (h1, .inr (2, [.ref k1, .ref k2, .int i0])), (h2, aI cI 400 f1)] s.heap := hP
  have hl := lv_entry ([.ref h0, .int p0]) (n := 3) (Nat.le_of_ble_eq_true rfl)
  rw [lg_entry_eq]
  generalize (lg_sl ([.ref h0, .int p0]) ++ List.replicate (3 - (lg_sl ([.ref h0, .int p0])).length) Slot.unset).toArray = ls at hl ⊢
  replace hl : lv_has ls 3 [(0, .ref h0), (1, .int p0)] := hl
  generalize hQQ : MQ below _ _ s 0 0 _ = QQ
  skip
  unfold wX6_firstKnown at hwp
  refine lv_iconst (v := 0) hx hb dX6_firstKnown_0 (by decide) ?_
  refine lv_istore_n (lv' := [(2, .int 0), (0, .ref h0), (1, .int p0)]) hx hb dX6_firstKnown_1 rfl hl (by decide) rfl (fun ls hl => ?_)
  refine xgen (Pp := fun H locs => W p l e _ s m _ below meth c H locs _ _ _ _) (fun H locs hP hD hS => ?_) hP hD hS
  replace hl : lv_has ls 3 [(2, .int 0), (0, .ref h0), (1, .int p0)] := lv_sub hl [0, 1, 2] rfl
  obtain ⟨n1, hwp⟩ := hwp
  have hs1 : ∀ (n1 : Nat) (H : Heap) (locs : List Loc) (ls : Array Slot) (t2_0 : Int32), wLX6_firstKnown_2 i0 f1 p0 K  n1 t2_0 → va_P G vwCl [(h0, .inr (6, [.ref h1, .ref k0, .ref h2])), (h1, .inr (2, [.ref k1, .ref k2, .int i0])), (h2, aI cI 400 f1)] H → va_D A [(h0, .inr (6, [.ref h1, .ref k0, .ref h2])), (h1, .inr (2, [.ref k1, .ref k2, .int i0])), (h2, aI cI 400 f1)] → va_S A s.heap H locs → lv_has ls 3 [(2, .int t2_0), (0, .ref h0), (1, .int p0)] → W p l e ((headSpec (xw yX6_firstKnown cX6_firstKnown 3 (some .int)) { frames := 1, cells := 0, slots := 0, locals := 22 }).room) s m ([.ref h0, .int p0] : List Value).toArray below meth c H locs 0 0 QQ (F0 m 2 ls []) := by
    intro n1
    induction n1 with
    | zero => intro H locs ls t2_0 hwp; exact False.elim hwp
    | succ n1 ih1 =>
      intro H locs ls t2_0 hwp hP hD hS hl
      rw [wLX6_firstKnown_2] at hwp
      refine lv_iload_n hx hb dX6_firstKnown_2 rfl (lv_at hl 0 rfl) ?_
      refine lv_aload_n hx hb dX6_firstKnown_3 rfl (lv_at hl 1 rfl) ?_
      refine va_get (D := G) (ci := 6) (v := .ref h1) (C := RX6) (T := TX6) (N := 3) hx hb hts xinX6 hown hK hP 0 rfl rfl 0 (by decide) (hts _ wo_47) (fun _ h9 => h9) rfl dX6_firstKnown_4 ?_
      refine va_getN (D := G) (ci := 2) (v := .int i0) (C := RX2) (T := TX2) (N := 3) hx hb hts xinX2 hown hK hP 1 rfl rfl 2 (by decide) (va_Nw.use rfl (hN.1 ("PlaneTests$Round", 41, "PlaneTests$Filled", "nodes", "I", "PlaneTests") (by decide +kernel))) (fun _ h9 => h9) rfl dX6_firstKnown_7 ?_
      refine lv_icmp_ge (tgt := 30) hx hb dX6_firstKnown_10 (by decide) (fun c10 => ?_) (fun c10 => ?_)
      · replace hwp := hwp.1 c10
        refine lv_iconst (v := 0) hx hb dX6_firstKnown_30 (by decide) ?_
        have hP9 : va_P G vwCl [(h0, .inr (6, [.ref h1, .ref k0, .ref h2])), (h1, .inr (2, [.ref k1, .ref k2, .int i0])), (h2, aI cI 400 f1)] H := hP.sub [0, 1, 2] rfl
        have hD9 : va_D A [(h0, .inr (6, [.ref h1, .ref k0, .ref h2])), (h1, .inr (2, [.ref k1, .ref k2, .int i0])), (h2, aI cI 400 f1)] := hD.sub [0, 1, 2] (by decide) rfl
        rw [← hQQ]
        exact W.iret (v := 0) hx hb hr (fun t ht hW => ⟨⟨_, (), rfl, hwp, by rw [ht]; exact hP9, hD9⟩, hS.F ht⟩) hS.2.2 dX6_firstKnown_31
      · replace hwp := hwp.2 c10
        refine lv_aload_n hx hb dX6_firstKnown_13 rfl (lv_at hl 1 rfl) ?_
        refine lv_iload_n hx hb dX6_firstKnown_14 rfl (lv_at hl 2 rfl) ?_
        refine lv_iload_n hx hb dX6_firstKnown_15 rfl (lv_at hl 0 rfl) ?_
        refine xci (wr := [(h1, .inr (2, [.ref k1, .ref k2, .int i0]))]) (va_runV (As := [.int p0, .int t2_0]) (rest := []) ⟨hx, hb, hml, hown, hts⟩ (zX6_behind l G cI cJ cZ h0 h2 h1 k0 H.size f1 p0 t2_0 _ hwp) (cwV 2 hts (xgoodV wo_51 wo_52 wo_53 wo_54 wo_55) rfl rfl rfl (by decide +kernel) ⟨Nat.le_of_ble_eq_true rfl, Nat.le_of_ble_eq_true rfl⟩) (xPreV (q := (RX6, TX6, 3)) (q0 := 0) hK hN hP hD [0, 2] (by decide) rfl rfl rfl) rfl rfl hl.1 rfl (lv_room (Nat.le_of_ble_eq_true rfl)) dX6_firstKnown_16 ⟨Nat.le_of_ble_eq_true rfl, Nat.le_of_ble_eq_true rfl⟩) hP hD hS hA [0, 2] [1] rfl rfl (by decide) (by decide) (fun r16 u16 H locs hwp hP hD hS => ?_)
        replace hP : va_P G vwCl [(h1, .inr (2, [.ref k1, .ref k2, .int i0])), (h0, .inr (6, [.ref h1, .ref k0, .ref h2])), (h2, aI cI 400 f1)] H := hP
        replace hD : va_D A [(h1, .inr (2, [.ref k1, .ref k2, .int i0])), (h0, .inr (6, [.ref h1, .ref k0, .ref h2])), (h2, aI cI 400 f1)] := hD
        refine lv_if_lt (tgt := 24) hx hb dX6_firstKnown_19 (by decide) (fun c19 => ?_) (fun c19 => ?_)
        · replace hwp := hwp.1 c19
          refine lv_iinc (v := (t2_0 + 1)) (lv' := [(2, .int (t2_0 + 1)), (0, .ref h0), (1, .int p0)]) hx hb dX6_firstKnown_24 hl (k := 0) rfl rfl (by decide) rfl (fun ls hl => ?_)
          refine lv_goto (tgt := 2) hx hb dX6_firstKnown_27 (by decide) ?_
          replace hl : lv_has ls 3 [(2, .int (t2_0 + 1)), (0, .ref h0), (1, .int p0)] := lv_sub hl [0, 1, 2] rfl
          replace hP : va_P G vwCl [(h0, .inr (6, [.ref h1, .ref k0, .ref h2])), (h1, .inr (2, [.ref k1, .ref k2, .int i0])), (h2, aI cI 400 f1)] H := hP.sub [1, 0, 2] rfl
          replace hD : va_D A [(h0, .inr (6, [.ref h1, .ref k0, .ref h2])), (h1, .inr (2, [.ref k1, .ref k2, .int i0])), (h2, aI cI 400 f1)] := hD.sub [1, 0, 2] (by decide) rfl
          exact ih1 H locs ls (t2_0 + 1) hwp hP hD hS hl
        · replace hwp := hwp.2 c19
          refine lv_iload_n hx hb dX6_firstKnown_22 rfl (lv_at hl 0 rfl) ?_
          have hP9 : va_P G vwCl [(h0, .inr (6, [.ref h1, .ref k0, .ref h2])), (h1, .inr (2, [.ref k1, .ref k2, .int i0])), (h2, aI cI 400 f1)] H := hP.sub [1, 0, 2] rfl
          have hD9 : va_D A [(h0, .inr (6, [.ref h1, .ref k0, .ref h2])), (h1, .inr (2, [.ref k1, .ref k2, .int i0])), (h2, aI cI 400 f1)] := hD.sub [1, 0, 2] (by decide) rfl
          rw [← hQQ]
          exact W.iret (v := t2_0) hx hb hr (fun t ht hW => ⟨⟨_, (), rfl, hwp, by rw [ht]; exact hP9, hD9⟩, hS.F ht⟩) hS.2.2 dX6_firstKnown_23
  exact hs1 n1 H locs ls 0 hwp hP hD hS hl
def wLX6_goRound_30 (i0 : Int32) (f3 : Nat → Int32) (p0 : Int32) (r22 : Int32) (K : ((Nat → Int32)) → Prop)  : Nat → (Nat → Int32) → Int32 → Int32 → Int32 → Prop
  | 0, _, _, _, _ => False
  | n30 + 1, t30_0, t30_1, t30_2, t30_3 => ((r22 ≤ t30_3 → K t30_0) ∧ (¬ r22 ≤ t30_3 → ((t30_2 < 0 → K t30_0) ∧ (¬ t30_2 < 0 → (wX6_thirdsOf f3 p0 t30_2 (fun r44 _ => (wX8_lowest (r44 &&& (((1 : Int32) <<< (t30_1 &&& 31)) ^^^ (-1))) (fun r53 _ => ((r53 < i0 → (wX6_setFace t30_0 p0 t30_2 r53 (fun u76 => (wLX6_goRound_30 i0 f3 p0 r22 K  n30) u76 t30_2 r53 (t30_3 + 1)))) ∧ (¬ r53 < i0 → K t30_0))))))))))
def wX6_goRound (i0 : Int32) (f1 : Nat → Int32) (f2 : Nat → Int32) (f3 : Nat → Int32) (p0 : Int32) (K : ((Nat → Int32)) → Prop) : Prop := (wX6_firstKnown i0 f1 p0 (fun r2 _ => (wX6_behind f1 p0 r2 (fun r9 _ => (vp_in p0 20 ∧ (wJ6_bitCount_0f7a4 (f2 (Int32.toNatClampNeg p0)) (fun r22 _ => (∃ n30, wLX6_goRound_30 i0 f3 p0 r22 K  n30 f1 r2 r9 0))))))))
set_option maxHeartbeats 4000000 in
set_option maxRecDepth 100000 in
theorem zX6_goRound (l : Launch) (G : va_G) (cI cJ cZ : ClassId) (h0 h1 h2 h3 h4 k0 sz : Nat) (i0 : Int32) (f1 : Nat → Int32) (f2 : Nat → Int32) (f3 : Nat → Int32) (p0 : Int32) (K : ((Nat → Int32)) → Prop) (hwp : wX6_goRound i0 f1 f2 f3 p0 K) : Met l yX6_goRound (xw yX6_goRound cX6_goRound 7 none) ({ frames := 2, cells := 0, slots := 0, locals := 44 }) (xPc G cI cJ cZ [.ref h0, .int p0] [(h0, .inr (6, [.ref h1, .ref h4, .ref h2])), (h1, .inr (2, [.ref k0, .ref h3, .int i0])), (h2, aI cI 400 f1), (h3, aI cI 20 f2), (h4, aI cI 400 f3)] sz) (va_Qv (fun (u : (Nat → Int32)) => K u) (fun (u : (Nat → Int32)) t => xB G (va_A [(h0, .inr (6, [.ref h1, .ref h4, .ref h2])), (h1, .inr (2, [.ref k0, .ref h3, .int i0])), (h2, aI cI 400 f1), (h3, aI cI 20 f2), (h4, aI cI 400 f3)] sz) [(h0, .inr (6, [.ref h1, .ref h4, .ref h2])), (h1, .inr (2, [.ref k0, .ref h3, .int i0])), (h2, aI cI 400 u), (h3, aI cI 20 f2), (h4, aI cI 400 f3)] t) (va_A [(h0, .inr (6, [.ref h1, .ref h4, .ref h2])), (h1, .inr (2, [.ref k0, .ref h3, .int i0])), (h2, aI cI 400 f1), (h3, aI cI 20 f2), (h4, aI cI 400 f3)] sz)) 0 0 (va_A [(h0, .inr (6, [.ref h1, .ref h4, .ref h2])), (h1, .inr (2, [.ref k0, .ref h3, .int i0])), (h2, aI cI 400 f1), (h3, aI cI 20 f2), (h4, aI cI 400 f3)] sz) := by
  refine Met.ofW (cc := cX6_goRound) (maxL := 7) (ret := none) (by decide) rfl ?_
  intro p e s m args below meth c s₁ B hml hv
  obtain ⟨rfl, hsz, hP, hK, hD0, hN⟩ := hv
  have hx := B.exec
  have hb := B.bytes
  have hr := B.returns
  have hts : ∀ w ∈ xW, w.before _ s = true := fun w h => atoms_spec (ws := xw yX6_goRound cX6_goRound 7 none) B.pre w (List.mem_cons_of_mem _ h)
  have hown : s.vm.findClass RX6 = some m.cls := findClass_of_methodNamed B.named
  have hlocks := B.notSynchronized
  subst hsz
  have hD := hD0.self (sz := s.heap.size)
  clear hD0
  generalize hAe : va_A [(h0, .inr (6, [.ref h1, .ref h4, .ref h2])), (h1, .inr (2, [.ref k0, .ref h3, .int i0])), (h2, aI cI 400 f1), (h3, aI cI 20 f2), (h4, aI cI 400 f3)] s.heap.size = A at hD ⊢
  have hA : ∀ q : Nat, s.heap.size ≤ q → A q := fun q h => by rw [← hAe]; exact Or.inr h
  clear hAe
  have hS : va_S A s.heap s.heap [] := va_S.rf
  replace hP : va_P G vwCl [(h0, .inr (6, [.ref h1, .ref h4, .ref h2])), (h1, .inr (2, [.ref k0, .ref h3, .int i0])), (h2, aI cI 400 f1), (h3, aI cI 20 f2), (h4, aI cI 400 f3)] s.heap := hP
  have hl := lv_entry ([.ref h0, .int p0]) (n := 7) (Nat.le_of_ble_eq_true rfl)
  rw [lg_entry_eq]
  generalize (lg_sl ([.ref h0, .int p0]) ++ List.replicate (7 - (lg_sl ([.ref h0, .int p0])).length) Slot.unset).toArray = ls at hl ⊢
  replace hl : lv_has ls 7 [(0, .ref h0), (1, .int p0)] := hl
  generalize hQQ : MQ below _ _ s 0 0 _ = QQ
  skip
  unfold wX6_goRound at hwp
  refine lv_aload_n hx hb dX6_goRound_0 rfl (lv_at hl 0 rfl) ?_
  refine lv_iload_n hx hb dX6_goRound_1 rfl (lv_at hl 1 rfl) ?_
  refine xci (wr := [(h3, aI cI 20 f2), (h4, aI cI 400 f3)]) (va_runV (As := [.int p0]) (rest := []) ⟨hx, hb, hml, hown, hts⟩ (zX6_firstKnown l G cI cJ cZ h0 h1 h2 h4 k0 h3 s.heap.size i0 f1 p0 _ hwp) (cwV 1 hts (xgoodV wo_71 wo_72 wo_73 wo_74 wo_55) rfl rfl rfl (by decide +kernel) ⟨Nat.le_of_ble_eq_true rfl, Nat.le_of_ble_eq_true rfl⟩) (xPreV (q := (RX6, TX6, 3)) (q0 := 0) hK hN hP hD [0, 1, 2] (by decide) rfl rfl rfl) rfl rfl hl.1 rfl (lv_room (Nat.le_of_ble_eq_true rfl)) dX6_goRound_2 ⟨Nat.le_of_ble_eq_true rfl, Nat.le_of_ble_eq_true rfl⟩) hP hD hS hA [0, 1, 2] [3, 4] rfl rfl (by decide) (by decide) (fun r2 u2 H locs hwp hP hD hS => ?_)
  replace hP : va_P G vwCl [(h3, aI cI 20 f2), (h4, aI cI 400 f3), (h0, .inr (6, [.ref h1, .ref h4, .ref h2])), (h1, .inr (2, [.ref k0, .ref h3, .int i0])), (h2, aI cI 400 f1)] H := hP
  replace hD : va_D A [(h3, aI cI 20 f2), (h4, aI cI 400 f3), (h0, .inr (6, [.ref h1, .ref h4, .ref h2])), (h1, .inr (2, [.ref k0, .ref h3, .int i0])), (h2, aI cI 400 f1)] := hD
  refine lv_istore_n (lv' := [(2, .int r2), (0, .ref h0), (1, .int p0)]) hx hb dX6_goRound_5 rfl hl (by decide) rfl (fun ls hl => ?_)
  refine lv_aload_n hx hb dX6_goRound_6 rfl (lv_at hl 1 rfl) ?_
  refine lv_iload_n hx hb dX6_goRound_7 rfl (lv_at hl 2 rfl) ?_
  refine lv_iload_n hx hb dX6_goRound_8 rfl (lv_at hl 0 rfl) ?_
  refine xci (wr := [(h3, aI cI 20 f2), (h4, aI cI 400 f3), (h1, .inr (2, [.ref k0, .ref h3, .int i0]))]) (va_runV (As := [.int p0, .int r2]) (rest := []) ⟨hx, hb, hml, hown, hts⟩ (zX6_behind l G cI cJ cZ h0 h2 h1 h4 H.size f1 p0 r2 _ hwp) (cwV 2 hts (xgoodV wo_51 wo_52 wo_53 wo_54 wo_55) rfl rfl rfl (by decide +kernel) ⟨Nat.le_of_ble_eq_true rfl, Nat.le_of_ble_eq_true rfl⟩) (xPreV (q := (RX6, TX6, 3)) (q0 := 2) hK hN hP hD [2, 4] (by decide) rfl rfl rfl) rfl rfl hl.1 rfl (lv_room (Nat.le_of_ble_eq_true rfl)) dX6_goRound_9 ⟨Nat.le_of_ble_eq_true rfl, Nat.le_of_ble_eq_true rfl⟩) hP hD hS hA [2, 4] [0, 1, 3] rfl rfl (by decide) (by decide) (fun r9 u9 H locs hwp hP hD hS => ?_)
  replace hP : va_P G vwCl [(h3, aI cI 20 f2), (h4, aI cI 400 f3), (h1, .inr (2, [.ref k0, .ref h3, .int i0])), (h0, .inr (6, [.ref h1, .ref h4, .ref h2])), (h2, aI cI 400 f1)] H := hP
  replace hD : va_D A [(h3, aI cI 20 f2), (h4, aI cI 400 f3), (h1, .inr (2, [.ref k0, .ref h3, .int i0])), (h0, .inr (6, [.ref h1, .ref h4, .ref h2])), (h2, aI cI 400 f1)] := hD
  refine lv_istore_n (lv' := [(3, .int r9), (2, .int r2), (0, .ref h0), (1, .int p0)]) hx hb dX6_goRound_12 rfl hl (by decide) rfl (fun ls hl => ?_)
  refine lv_aload_n hx hb dX6_goRound_13 rfl (lv_at hl 2 rfl) ?_
  refine va_get (D := G) (ci := 6) (v := .ref h1) (C := RX6) (T := TX6) (N := 3) hx hb hts xinX6 hown hK hP 3 rfl rfl 0 (by decide) (hts _ wo_47) (fun _ h9 => h9) rfl dX6_goRound_14 ?_
  refine va_getN (D := G) (ci := 2) (v := .ref h3) (C := RX2) (T := TX2) (N := 3) hx hb hts xinX2 hown hK hP 2 rfl rfl 1 (by decide) (va_Nw.use rfl (hN.1 ("PlaneTests$Round", 22, "PlaneTests$Filled", "joined", "[I", "PlaneTests") (by decide +kernel))) (fun _ h9 => h9) rfl dX6_goRound_17 ?_
  refine lv_iload_n hx hb dX6_goRound_20 rfl (lv_at hl 3 rfl) ?_
  obtain ⟨hi, hwp⟩ := hwp
  refine va_iald hx hb hK hP 0 0 rfl rfl hi dX6_goRound_21 ?_
  refine xci (wr := [(h3, aI cI 20 f2), (h4, aI cI 400 f3), (h1, .inr (2, [.ref k0, .ref h3, .int i0])), (h0, .inr (6, [.ref h1, .ref h4, .ref h2])), (h2, aI cI 400 f1)]) (va_runS (As := [.int (f2 (Int32.toNatClampNeg p0))]) (rest := []) ⟨hx, hb, hml, hown, hts⟩ (zJ6_bitCount_0f7a4 l G cI cJ cZ H.size (f2 (Int32.toNatClampNeg p0)) _ hwp) (va_cwS 1 hts (xgoodS wo_43 wo_75 wo_45 wo_46) rfl rfl rfl (by decide +kernel) ⟨Nat.le_of_ble_eq_true rfl, Nat.le_of_ble_eq_true rfl⟩) (xPreS hK hN hP hD [] (by decide) rfl) rfl rfl hl.1 rfl (lv_room (Nat.le_of_ble_eq_true rfl)) dX6_goRound_22 ⟨Nat.le_of_ble_eq_true rfl, Nat.le_of_ble_eq_true rfl⟩) hP hD hS hA [] [0, 1, 2, 3, 4] rfl rfl (by decide) (by decide) (fun r22 u22 H locs hwp hP hD hS => ?_)
  replace hP : va_P G vwCl [(h3, aI cI 20 f2), (h4, aI cI 400 f3), (h1, .inr (2, [.ref k0, .ref h3, .int i0])), (h0, .inr (6, [.ref h1, .ref h4, .ref h2])), (h2, aI cI 400 f1)] H := hP
  replace hD : va_D A [(h3, aI cI 20 f2), (h4, aI cI 400 f3), (h1, .inr (2, [.ref k0, .ref h3, .int i0])), (h0, .inr (6, [.ref h1, .ref h4, .ref h2])), (h2, aI cI 400 f1)] := hD
  refine lv_istore (lv' := [(4, .int r22), (3, .int r9), (2, .int r2), (0, .ref h0), (1, .int p0)]) hx hb dX6_goRound_25 hl (by decide) rfl (fun ls hl => ?_)
  refine lv_iconst (v := 0) hx hb dX6_goRound_27 (by decide) ?_
  refine lv_istore (lv' := [(5, .int 0), (4, .int r22), (3, .int r9), (2, .int r2), (0, .ref h0), (1, .int p0)]) hx hb dX6_goRound_28 hl (by decide) rfl (fun ls hl => ?_)
  replace hl : lv_has ls 7 [(5, .int 0), (4, .int r22), (3, .int r9), (2, .int r2), (0, .ref h0), (1, .int p0)] := lv_sub hl [0, 1, 2, 3, 4, 5] rfl
  obtain ⟨n1, hwp⟩ := hwp
  have hs1 : ∀ (n1 : Nat) (H : Heap) (locs : List Loc) (ls : Array Slot) (t30_0 : Nat → Int32) (t30_1 : Int32) (t30_2 : Int32) (t30_3 : Int32), wLX6_goRound_30 i0 f3 p0 r22 K  n1 t30_0 t30_1 t30_2 t30_3 → va_P G vwCl [(h3, aI cI 20 f2), (h4, aI cI 400 f3), (h1, .inr (2, [.ref k0, .ref h3, .int i0])), (h0, .inr (6, [.ref h1, .ref h4, .ref h2])), (h2, aI cI 400 t30_0)] H → va_D A [(h3, aI cI 20 f2), (h4, aI cI 400 f3), (h1, .inr (2, [.ref k0, .ref h3, .int i0])), (h0, .inr (6, [.ref h1, .ref h4, .ref h2])), (h2, aI cI 400 t30_0)] → va_S A s.heap H locs → lv_has ls 7 [(5, .int t30_3), (4, .int r22), (3, .int t30_2), (2, .int t30_1), (0, .ref h0), (1, .int p0)] → W p l e ((headSpec (xw yX6_goRound cX6_goRound 7 none) { frames := 2, cells := 0, slots := 0, locals := 44 }).room) s m ([.ref h0, .int p0] : List Value).toArray below meth c H locs 0 0 QQ (F0 m 30 ls []) := by
    intro n1
    induction n1 with
    | zero => intro H locs ls t30_0 t30_1 t30_2 t30_3 hwp; exact False.elim hwp
    | succ n1 ih1 =>
      intro H locs ls t30_0 t30_1 t30_2 t30_3 hwp hP hD hS hl
      rw [wLX6_goRound_30] at hwp
      refine lv_iload hx hb dX6_goRound_30 (lv_at hl 0 rfl) ?_
      refine lv_iload hx hb dX6_goRound_32 (lv_at hl 1 rfl) ?_
      refine lv_icmp_ge (tgt := 90) hx hb dX6_goRound_34 (by decide) (fun c34 => ?_) (fun c34 => ?_)
      · replace hwp := hwp.1 c34
        have hP9 : va_P G vwCl [(h0, .inr (6, [.ref h1, .ref h4, .ref h2])), (h1, .inr (2, [.ref k0, .ref h3, .int i0])), (h2, aI cI 400 t30_0), (h3, aI cI 20 f2), (h4, aI cI 400 f3)] H := hP.sub [3, 2, 4, 0, 1] rfl
        have hD9 : va_D A [(h0, .inr (6, [.ref h1, .ref h4, .ref h2])), (h1, .inr (2, [.ref k0, .ref h3, .int i0])), (h2, aI cI 400 t30_0), (h3, aI cI 20 f2), (h4, aI cI 400 f3)] := hD.sub [3, 2, 4, 0, 1] (by decide) rfl
        rw [← hQQ]
        exact W.vret hx hb hr (fun t ht hW => ⟨⟨t30_0, rfl, hwp, by rw [ht]; exact hP9, hD9⟩, hS.F ht⟩) hS.2.2 dX6_goRound_90
      · replace hwp := hwp.2 c34
        refine lv_iload_n hx hb dX6_goRound_37 rfl (lv_at hl 2 rfl) ?_
        refine lv_if_lt (tgt := 90) hx hb dX6_goRound_38 (by decide) (fun c38 => ?_) (fun c38 => ?_)
        · replace hwp := hwp.1 c38
          have hP9 : va_P G vwCl [(h0, .inr (6, [.ref h1, .ref h4, .ref h2])), (h1, .inr (2, [.ref k0, .ref h3, .int i0])), (h2, aI cI 400 t30_0), (h3, aI cI 20 f2), (h4, aI cI 400 f3)] H := hP.sub [3, 2, 4, 0, 1] rfl
          have hD9 : va_D A [(h0, .inr (6, [.ref h1, .ref h4, .ref h2])), (h1, .inr (2, [.ref k0, .ref h3, .int i0])), (h2, aI cI 400 t30_0), (h3, aI cI 20 f2), (h4, aI cI 400 f3)] := hD.sub [3, 2, 4, 0, 1] (by decide) rfl
          rw [← hQQ]
          exact W.vret hx hb hr (fun t ht hW => ⟨⟨t30_0, rfl, hwp, by rw [ht]; exact hP9, hD9⟩, hS.F ht⟩) hS.2.2 dX6_goRound_90
        · replace hwp := hwp.2 c38
          refine lv_aload_n hx hb dX6_goRound_41 rfl (lv_at hl 4 rfl) ?_
          refine lv_iload_n hx hb dX6_goRound_42 rfl (lv_at hl 5 rfl) ?_
          refine lv_iload_n hx hb dX6_goRound_43 rfl (lv_at hl 2 rfl) ?_
          refine xci (wr := [(h3, aI cI 20 f2), (h1, .inr (2, [.ref k0, .ref h3, .int i0])), (h2, aI cI 400 t30_0)]) (va_runV (As := [.int p0, .int t30_2]) (rest := []) ⟨hx, hb, hml, hown, hts⟩ (zX6_thirdsOf l G cI cJ cZ h0 h4 h1 h2 H.size f3 p0 t30_2 _ hwp) (cwV 2 hts (xgoodV wo_76 wo_77 wo_78 wo_79 wo_55) rfl rfl rfl (by decide +kernel) ⟨Nat.le_of_ble_eq_true rfl, Nat.le_of_ble_eq_true rfl⟩) (xPreV (q := (RX6, TX6, 3)) (q0 := 3) hK hN hP hD [3, 1] (by decide) rfl rfl rfl) rfl rfl hl.1 rfl (lv_room (Nat.le_of_ble_eq_true rfl)) dX6_goRound_44 ⟨Nat.le_of_ble_eq_true rfl, Nat.le_of_ble_eq_true rfl⟩) hP hD hS hA [3, 1] [0, 2, 4] rfl rfl (by decide) (by decide) (fun r44 u44 H locs hwp hP hD hS => ?_)
          replace hP : va_P G vwCl [(h3, aI cI 20 f2), (h1, .inr (2, [.ref k0, .ref h3, .int i0])), (h2, aI cI 400 t30_0), (h0, .inr (6, [.ref h1, .ref h4, .ref h2])), (h4, aI cI 400 f3)] H := hP
          replace hD : va_D A [(h3, aI cI 20 f2), (h1, .inr (2, [.ref k0, .ref h3, .int i0])), (h2, aI cI 400 t30_0), (h0, .inr (6, [.ref h1, .ref h4, .ref h2])), (h4, aI cI 400 f3)] := hD
          refine lv_iconst (v := 1) hx hb dX6_goRound_47 (by decide) ?_
          refine lv_iload_n hx hb dX6_goRound_48 rfl (lv_at hl 3 rfl) ?_
          refine lv_ishl hx hb dX6_goRound_49 ?_
          refine lv_iconst (v := (-1)) hx hb dX6_goRound_50 (by decide) ?_
          refine lv_ixor hx hb dX6_goRound_51 ?_
          refine lv_iand hx hb dX6_goRound_52 ?_
          refine xci (wr := [(h3, aI cI 20 f2), (h1, .inr (2, [.ref k0, .ref h3, .int i0])), (h2, aI cI 400 t30_0), (h0, .inr (6, [.ref h1, .ref h4, .ref h2])), (h4, aI cI 400 f3)]) (va_runSN (As := [.int (r44 &&& (((1 : Int32) <<< (t30_1 &&& 31)) ^^^ (-1)))]) (rest := []) ⟨hx, hb, hml, hown, hts⟩ (zX8_lowest l G cI cJ cZ H.size (r44 &&& (((1 : Int32) <<< (t30_1 &&& 31)) ^^^ (-1))) _ hwp) ⟨(va_cnB 1 hts (xgood wo_48) rfl rfl rfl (hN.2 ("PlaneTests$Round", 27, yX8_lowest, "PlaneTests") (by decide +kernel)) (hts _ wo_49) (by decide +kernel) ⟨Nat.le_of_ble_eq_true rfl, Nat.le_of_ble_eq_true rfl⟩), hts _ wo_50, trivial⟩ (xPreS hK hN hP hD [] (by decide) rfl) rfl rfl hl.1 rfl (lv_room (Nat.le_of_ble_eq_true rfl)) dX6_goRound_53 ⟨Nat.le_of_ble_eq_true rfl, Nat.le_of_ble_eq_true rfl⟩) hP hD hS hA [] [0, 1, 2, 3, 4] rfl rfl (by decide) (by decide) (fun r53 u53 H locs hwp hP hD hS => ?_)
          replace hP : va_P G vwCl [(h3, aI cI 20 f2), (h1, .inr (2, [.ref k0, .ref h3, .int i0])), (h2, aI cI 400 t30_0), (h0, .inr (6, [.ref h1, .ref h4, .ref h2])), (h4, aI cI 400 f3)] H := hP
          replace hD : va_D A [(h3, aI cI 20 f2), (h1, .inr (2, [.ref k0, .ref h3, .int i0])), (h2, aI cI 400 t30_0), (h0, .inr (6, [.ref h1, .ref h4, .ref h2])), (h4, aI cI 400 f3)] := hD
          refine lv_istore (lv' := [(6, .int r53), (5, .int t30_3), (4, .int r22), (3, .int t30_2), (2, .int t30_1), (0, .ref h0), (1, .int p0)]) hx hb dX6_goRound_56 hl (by decide) rfl (fun ls hl => ?_)
          refine lv_iload hx hb dX6_goRound_58 (lv_at hl 0 rfl) ?_
          refine lv_aload_n hx hb dX6_goRound_60 rfl (lv_at hl 5 rfl) ?_
          refine va_get (D := G) (ci := 6) (v := .ref h1) (C := RX6) (T := TX6) (N := 3) hx hb hts xinX6 hown hK hP 3 rfl rfl 0 (by decide) (hts _ wo_47) (fun _ h9 => h9) rfl dX6_goRound_61 ?_
          refine va_getN (D := G) (ci := 2) (v := .int i0) (C := RX2) (T := TX2) (N := 3) hx hb hts xinX2 hown hK hP 1 rfl rfl 2 (by decide) (va_Nw.use rfl (hN.1 ("PlaneTests$Round", 41, "PlaneTests$Filled", "nodes", "I", "PlaneTests") (by decide +kernel))) (fun _ h9 => h9) rfl dX6_goRound_64 ?_
          refine lv_icmp_lt (tgt := 71) hx hb dX6_goRound_67 (by decide) (fun c67 => ?_) (fun c67 => ?_)
          · replace hwp := hwp.1 c67
            refine lv_aload_n hx hb dX6_goRound_71 rfl (lv_at hl 5 rfl) ?_
            refine lv_iload_n hx hb dX6_goRound_72 rfl (lv_at hl 6 rfl) ?_
            refine lv_iload_n hx hb dX6_goRound_73 rfl (lv_at hl 3 rfl) ?_
            refine lv_iload hx hb dX6_goRound_74 (lv_at hl 0 rfl) ?_
            refine xcv (wr := [(h3, aI cI 20 f2), (h1, .inr (2, [.ref k0, .ref h3, .int i0])), (h4, aI cI 400 f3)]) (va_runV (As := [.int p0, .int t30_2, .int r53]) (rest := []) ⟨hx, hb, hml, hown, hts⟩ (zX6_setFace l G cI cJ cZ h0 h2 h1 h4 H.size t30_0 p0 t30_2 r53 _ hwp) (cwV 3 hts (xgoodV wo_80 wo_81 wo_82 wo_83 wo_55) rfl rfl rfl (by decide +kernel) ⟨Nat.le_of_ble_eq_true rfl, Nat.le_of_ble_eq_true rfl⟩) (xPreV (q := (RX6, TX6, 3)) (q0 := 3) hK hN hP hD [3, 2] (by decide) rfl rfl rfl) rfl rfl hl.1 rfl (lv_room (Nat.le_of_ble_eq_true rfl)) dX6_goRound_76 ⟨Nat.le_of_ble_eq_true rfl, Nat.le_of_ble_eq_true rfl⟩) hP hD hS hA [3, 2] [0, 1, 4] rfl rfl (by decide) (by decide) (fun u76 H locs hwp hP hD hS => ?_)
            replace hP : va_P G vwCl [(h3, aI cI 20 f2), (h1, .inr (2, [.ref k0, .ref h3, .int i0])), (h4, aI cI 400 f3), (h0, .inr (6, [.ref h1, .ref h4, .ref h2])), (h2, aI cI 400 u76)] H := hP
            replace hD : va_D A [(h3, aI cI 20 f2), (h1, .inr (2, [.ref k0, .ref h3, .int i0])), (h4, aI cI 400 f3), (h0, .inr (6, [.ref h1, .ref h4, .ref h2])), (h2, aI cI 400 u76)] := hD
            refine lv_iload_n hx hb dX6_goRound_79 rfl (lv_at hl 3 rfl) ?_
            refine lv_istore_n (lv' := [(2, .int t30_2), (6, .int r53), (5, .int t30_3), (4, .int r22), (3, .int t30_2), (0, .ref h0), (1, .int p0)]) hx hb dX6_goRound_80 rfl hl (by decide) rfl (fun ls hl => ?_)
            refine lv_iload hx hb dX6_goRound_81 (lv_at hl 1 rfl) ?_
            refine lv_istore_n (lv' := [(3, .int r53), (2, .int t30_2), (6, .int r53), (5, .int t30_3), (4, .int r22), (0, .ref h0), (1, .int p0)]) hx hb dX6_goRound_83 rfl hl (by decide) rfl (fun ls hl => ?_)
            refine lv_iinc (v := (t30_3 + 1)) (lv' := [(5, .int (t30_3 + 1)), (3, .int r53), (2, .int t30_2), (6, .int r53), (4, .int r22), (0, .ref h0), (1, .int p0)]) hx hb dX6_goRound_84 hl (k := 3) rfl rfl (by decide) rfl (fun ls hl => ?_)
            refine lv_goto (tgt := 30) hx hb dX6_goRound_87 (by decide) ?_
            replace hl : lv_has ls 7 [(5, .int (t30_3 + 1)), (4, .int r22), (3, .int r53), (2, .int t30_2), (0, .ref h0), (1, .int p0)] := lv_sub hl [0, 4, 1, 2, 5, 6] rfl
            replace hP : va_P G vwCl [(h3, aI cI 20 f2), (h4, aI cI 400 f3), (h1, .inr (2, [.ref k0, .ref h3, .int i0])), (h0, .inr (6, [.ref h1, .ref h4, .ref h2])), (h2, aI cI 400 u76)] H := hP.sub [0, 2, 1, 3, 4] rfl
            replace hD : va_D A [(h3, aI cI 20 f2), (h4, aI cI 400 f3), (h1, .inr (2, [.ref k0, .ref h3, .int i0])), (h0, .inr (6, [.ref h1, .ref h4, .ref h2])), (h2, aI cI 400 u76)] := hD.sub [0, 2, 1, 3, 4] (by decide) rfl
            exact ih1 H locs ls u76 t30_2 r53 (t30_3 + 1) hwp hP hD hS hl
          · replace hwp := hwp.2 c67
            have hP9 : va_P G vwCl [(h0, .inr (6, [.ref h1, .ref h4, .ref h2])), (h1, .inr (2, [.ref k0, .ref h3, .int i0])), (h2, aI cI 400 t30_0), (h3, aI cI 20 f2), (h4, aI cI 400 f3)] H := hP.sub [3, 1, 2, 0, 4] rfl
            have hD9 : va_D A [(h0, .inr (6, [.ref h1, .ref h4, .ref h2])), (h1, .inr (2, [.ref k0, .ref h3, .int i0])), (h2, aI cI 400 t30_0), (h3, aI cI 20 f2), (h4, aI cI 400 f3)] := hD.sub [3, 1, 2, 0, 4] (by decide) rfl
            rw [← hQQ]
            exact W.vret hx hb hr (fun t ht hW => ⟨⟨t30_0, rfl, hwp, by rw [ht]; exact hP9, hD9⟩, hS.F ht⟩) hS.2.2 dX6_goRound_70
  exact hs1 n1 H locs ls f1 r2 r9 0 hwp hP hD hS hl

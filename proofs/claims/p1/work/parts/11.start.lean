set_option maxHeartbeats 8000000 in
set_option maxRecDepth 100000 in
/-- THE LAW, from its entry, for every script of at most 4 ints -/
theorem whole_start {p : Program} {e : Env} {s : State} {m : MethodId} {below : List Frame} {meth : Method} {c : Code} (l : Launch) {b L : Nat} {xs : Nat → Int32} (hL : L ≤ 4) (C0 : lw_At p s m meth c b L xs) : W p l e room_1 s m #[Value.ref b] below meth c s.heap [] 0 0 (lw_Z below #[Value.ref b] s) (entryFrame m ([Value.ref b] : List Value).toArray 4) := by
  have C1 := C0
  obtain ⟨hx, hb, hr, hml, hown0, hts0, hX, hbl, hlocks, hgv⟩ := C0
  have hown : s.vm.findClass RL = some m.cls := hown0
  have hts : ∀ w ∈ xW, w.before #[Value.ref b] s = true := fun w h => hts0 w (List.mem_filter.mp h).1
  have hA : ∀ q : Nat, s.heap.size ≤ q → (fun q : Nat => s.heap.size ≤ q) q := fun _ h => h
  have hbA : ¬ (fun q : Nat => s.heap.size ≤ q) b := Nat.not_le.mpr hbl
  obtain ⟨k0, iS0, hKn0⟩ := u_known (C := RX0) (T := TX0) (N := 15) (n := 15) hts xinX0 (hts _ wm_78)
  obtain ⟨k1, iS1, hKn1⟩ := u_known (C := RX1) (T := TX1) (N := 3) (n := 3) hts xinX1 (hts _ wm_66)
  obtain ⟨k2, iS2, hKn2⟩ := u_known (C := RX2) (T := TX2) (N := 3) (n := 3) hts xinX2 (hts _ wm_44)
  obtain ⟨k3, iS3, hKn3⟩ := u_known (C := RX3) (T := TX3) (N := 6) (n := 6) hts xinX3 (hts _ wm_4)
  obtain ⟨k4, iS4, hKn4⟩ := u_known (C := RX4) (T := TX4) (N := 3) (n := 3) hts xinX4 (hts _ wm_97)
  obtain ⟨k5, iS5, hKn5⟩ := u_known (C := RX5) (T := TX5) (N := 12) (n := 12) hts xinX5 (hts _ wm_26)
  obtain ⟨k6, iS6, hKn6⟩ := u_known (C := RX6) (T := TX6) (N := 3) (n := 3) hts xinX6 (hts _ wm_54)
  obtain ⟨k7, iS7, hKn7⟩ := u_known (C := RX7) (T := TX7) (N := 3) (n := 3) hts xinX7 (hts _ wm_16)
  obtain ⟨k8, iS8, hKn8⟩ := u_known (C := RX8) (T := TX8) (N := 16) (n := 16) hts xinX8 (hts _ wm_539)
  obtain ⟨k9, iS9, hKn9⟩ := u_known (C := RX9) (T := TX9) (N := 58) (n := 58) hts xinX9 (hts _ wm_540)
  obtain ⟨cI, hcI⟩ := xAC (hts _ wm_7) (Or.inl rfl)
  obtain ⟨cJ, hcJ⟩ := xAC (hts _ wm_32) (Or.inr (Or.inl rfl))
  obtain ⟨cZ, hcZ⟩ := xAC (hts _ wm_9) (Or.inr (Or.inr rfl))
  obtain ⟨G, hKc⟩ : ∃ G : va_G, ∀ (k : Nat) (q : vw_C), vwCl[k]? = some q → u_Kn s q.1 q.2.1 q.2.2 (G.1 k) (G.2 k) := by
    refine ⟨(fun k => [k0, k1, k2, k3, k4, k5, k6, k7, k8, k9].getD k k0, fun k => [iS0, iS1, iS2, iS3, iS4, iS5, iS6, iS7, iS8, iS9].getD k iS0), ?_⟩
    intro k q hq
    match k, hq with
    | 0, hq => cases hq; exact hKn0
    | 1, hq => cases hq; exact hKn1
    | 2, hq => cases hq; exact hKn2
    | 3, hq => cases hq; exact hKn3
    | 4, hq => cases hq; exact hKn4
    | 5, hq => cases hq; exact hKn5
    | 6, hq => cases hq; exact hKn6
    | 7, hq => cases hq; exact hKn7
    | 8, hq => cases hq; exact hKn8
    | 9, hq => cases hq; exact hKn9
    | k + 10, hq => simp [vwCl] at hq
  have hK : va_K G vwCl (xT cI cJ cZ) s := by
    refine ⟨hKc, fun k q h => ?_⟩
    match k, h with
    | 0, h => cases h; exact hcI
    | 1, h => cases h; exact hcJ
    | 2, h => cases h; exact hcZ
    | k + 3, h => simp at h
  have hN : xN s := ⟨fun q hq => va_Nw.of rfl (hts0 _ (xnF_in q hq)), fun q hq => va_Nw.of rfl (hts0 _ (xnM_in q hq))⟩
  have hS : va_S (fun q : Nat => s.heap.size ≤ q) s.heap s.heap [] := va_S.rf
  have hP : va_P G vwCl [] s.heap := fun k q h => by simp at h
  have hD : va_D (fun q : Nat => s.heap.size ≤ q) [] := ⟨fun i j p q h => by simp at h, fun k q h => by simp at h⟩
  have hl := lv_entry ([.ref b]) (n := 4) (Nat.le_of_ble_eq_true rfl)
  rw [lg_entry_eq]
  generalize (lg_sl ([.ref b]) ++ List.replicate (4 - (lg_sl ([.ref b])).length) Slot.unset).toArray = ls at hl ⊢
  replace hl : lv_has ls 4 [(0, .ref b)] := hl
  refine va_new (ci := 8) (fs := [.null, .null, .null, .null, .null, .null, .null, .null, .null, .null, .null, .int 0, .int 0, .int 0, .int 0, .int 0]) (C := RX8) (T := TX8) (N := 16) hx hb hts xinX8 tyX8 tyX8_ok hown (hts _ wm_541) (hts _ wm_539) (hts _ wm_156) hK hP hD hS hA rfl (by decide +kernel) (Nat.le_of_ble_eq_true rfl) (Nat.le_of_ble_eq_true rfl) dL_law_0 (fun q85 H hP hD hS => ?_)
  replace hP : va_P G vwCl [(q85, .inr (8, [.null, .null, .null, .null, .null, .null, .null, .null, .null, .null, .null, .int 0, .int 0, .int 0, .int 0, .int 0]))] H := hP
  replace hD : va_D (fun q : Nat => s.heap.size ≤ q) [(q85, .inr (8, [.null, .null, .null, .null, .null, .null, .null, .null, .null, .null, .null, .int 0, .int 0, .int 0, .int 0, .int 0]))] := hD
  refine W.widen (k := 1) (n := 16) (by decide) (by decide) ?_
  refine lv_dup hx hb dL_law_3 rfl ?_
  refine xcv (wr := []) (va_runI (As := []) (rest := [.ref q85]) ⟨hx, hb, hml, hown, hts⟩ (mX8_init l G cI cJ cZ q85 H.size ) (cwI 0 hts (xgood wm_542) rfl rfl rfl (hts _ wm_156) (hts _ wm_543) (hts _ wm_544) rfl (by decide +kernel) ⟨Nat.le_of_ble_eq_true rfl, Nat.le_of_ble_eq_true rfl⟩) (xPreS hK hN hP hD [0] (by decide) rfl) rfl rfl hl.1 rfl (lv_room (Nat.le_of_ble_eq_true rfl)) dL_law_4 ⟨Nat.le_of_ble_eq_true rfl, Nat.le_of_ble_eq_true rfl⟩) hP hD hS hA [0] [] rfl rfl (by decide) (by decide) (fun u12 H locs hw hP hD hS => ?_)
  replace hP : va_P G vwCl [(q85, .inr (8, [.ref (u12 0), .ref (u12 4), .ref (u12 7), .ref (u12 8), .ref (u12 19), .ref (u12 22), .ref (u12 25), .ref (u12 28), .ref (u12 34), .ref (u12 40), .ref (u12 50), .int 0, .int 0, .int 0, .int 0, .int 0])), ((u12 0), .inr (3, [.ref (u12 1), .ref (u12 2), .ref (u12 3), .int 0, .int 0, .int 0])), ((u12 1), aI cI 160 xz), ((u12 2), aI cZ 80 xz), ((u12 3), aI cI 20 xz), ((u12 4), .inr (7, [.ref (u12 5), .ref (u12 6), .int 0])), ((u12 5), aI cI 160 xz), ((u12 6), aI cI 181 xz), ((u12 7), aI cI 21 xz), ((u12 8), .inr (5, [.ref (u12 9), .ref (u12 10), .ref (u12 11), .ref (u12 12), .ref (u12 13), .ref (u12 14), .ref (u12 15), .ref (u12 16), .ref (u12 17), .ref (u12 18), .int 0, .int 0])), ((u12 9), aI cI 21 xz), ((u12 10), aI cI 21 xz), ((u12 11), aI cI 21 xz), ((u12 12), aJ cJ 21 xzL), ((u12 13), aJ cJ 21 xzL), ((u12 14), aJ cJ 22 xzL), ((u12 15), aJ cJ 21 xzL), ((u12 16), aI cI 21 xz), ((u12 17), aJ cJ 58 xzL), ((u12 18), aJ cJ 58 xzL), ((u12 19), .inr (2, [.ref (u12 20), .ref (u12 21), .int (-1)])), ((u12 20), aI cI 20 xz), ((u12 21), aI cI 20 xz), ((u12 22), .inr (6, [.ref (u12 19), .ref (u12 23), .ref (u12 24)])), ((u12 23), aI cI 400 xz), ((u12 24), aI cI 400 xz), ((u12 25), .inr (7, [.ref (u12 26), .ref (u12 27), .int 0])), ((u12 26), aI cI 160 xz), ((u12 27), aI cI 181 xz), ((u12 28), .inr (1, [.ref (u12 29), .ref (u12 32), .ref (u12 33)])), ((u12 29), .inr (7, [.ref (u12 30), .ref (u12 31), .int 0])), ((u12 30), aI cI 160 xz), ((u12 31), aI cI 181 xz), ((u12 32), aI cI 160 xz), ((u12 33), aI cI 160 xz), ((u12 34), .inr (1, [.ref (u12 35), .ref (u12 38), .ref (u12 39)])), ((u12 35), .inr (7, [.ref (u12 36), .ref (u12 37), .int 0])), ((u12 36), aI cI 160 xz), ((u12 37), aI cI 181 xz), ((u12 38), aI cI 160 xz), ((u12 39), aI cI 160 xz), ((u12 40), .inr (0, [.ref (u12 19), .ref (u12 22), .ref (u12 41), .ref (u12 42), .ref (u12 43), .ref (u12 44), .ref (u12 45), .ref (u12 46), .ref (u12 47), .ref (u12 48), .ref (u12 49), .int 0, .int 0, .int 0, .int 0])), ((u12 41), aI cI 20 xz), ((u12 42), aI cI 20 xz), ((u12 43), aI cI 20 xz), ((u12 44), aI cI 20 xz), ((u12 45), aI cI 20 xz), ((u12 46), aI cI 20 xz), ((u12 47), aI cI 20 xz), ((u12 48), aI cI 20 xz), ((u12 49), aI cI 20 xz), ((u12 50), .inr (4, [.ref (u12 0), .ref (u12 51), .ref (u12 52)])), ((u12 51), aI cZ 80 xz), ((u12 52), aI cI 20 xz)] H := hP
  replace hD : va_D (fun q : Nat => s.heap.size ≤ q) [(q85, .inr (8, [.ref (u12 0), .ref (u12 4), .ref (u12 7), .ref (u12 8), .ref (u12 19), .ref (u12 22), .ref (u12 25), .ref (u12 28), .ref (u12 34), .ref (u12 40), .ref (u12 50), .int 0, .int 0, .int 0, .int 0, .int 0])), ((u12 0), .inr (3, [.ref (u12 1), .ref (u12 2), .ref (u12 3), .int 0, .int 0, .int 0])), ((u12 1), aI cI 160 xz), ((u12 2), aI cZ 80 xz), ((u12 3), aI cI 20 xz), ((u12 4), .inr (7, [.ref (u12 5), .ref (u12 6), .int 0])), ((u12 5), aI cI 160 xz), ((u12 6), aI cI 181 xz), ((u12 7), aI cI 21 xz), ((u12 8), .inr (5, [.ref (u12 9), .ref (u12 10), .ref (u12 11), .ref (u12 12), .ref (u12 13), .ref (u12 14), .ref (u12 15), .ref (u12 16), .ref (u12 17), .ref (u12 18), .int 0, .int 0])), ((u12 9), aI cI 21 xz), ((u12 10), aI cI 21 xz), ((u12 11), aI cI 21 xz), ((u12 12), aJ cJ 21 xzL), ((u12 13), aJ cJ 21 xzL), ((u12 14), aJ cJ 22 xzL), ((u12 15), aJ cJ 21 xzL), ((u12 16), aI cI 21 xz), ((u12 17), aJ cJ 58 xzL), ((u12 18), aJ cJ 58 xzL), ((u12 19), .inr (2, [.ref (u12 20), .ref (u12 21), .int (-1)])), ((u12 20), aI cI 20 xz), ((u12 21), aI cI 20 xz), ((u12 22), .inr (6, [.ref (u12 19), .ref (u12 23), .ref (u12 24)])), ((u12 23), aI cI 400 xz), ((u12 24), aI cI 400 xz), ((u12 25), .inr (7, [.ref (u12 26), .ref (u12 27), .int 0])), ((u12 26), aI cI 160 xz), ((u12 27), aI cI 181 xz), ((u12 28), .inr (1, [.ref (u12 29), .ref (u12 32), .ref (u12 33)])), ((u12 29), .inr (7, [.ref (u12 30), .ref (u12 31), .int 0])), ((u12 30), aI cI 160 xz), ((u12 31), aI cI 181 xz), ((u12 32), aI cI 160 xz), ((u12 33), aI cI 160 xz), ((u12 34), .inr (1, [.ref (u12 35), .ref (u12 38), .ref (u12 39)])), ((u12 35), .inr (7, [.ref (u12 36), .ref (u12 37), .int 0])), ((u12 36), aI cI 160 xz), ((u12 37), aI cI 181 xz), ((u12 38), aI cI 160 xz), ((u12 39), aI cI 160 xz), ((u12 40), .inr (0, [.ref (u12 19), .ref (u12 22), .ref (u12 41), .ref (u12 42), .ref (u12 43), .ref (u12 44), .ref (u12 45), .ref (u12 46), .ref (u12 47), .ref (u12 48), .ref (u12 49), .int 0, .int 0, .int 0, .int 0])), ((u12 41), aI cI 20 xz), ((u12 42), aI cI 20 xz), ((u12 43), aI cI 20 xz), ((u12 44), aI cI 20 xz), ((u12 45), aI cI 20 xz), ((u12 46), aI cI 20 xz), ((u12 47), aI cI 20 xz), ((u12 48), aI cI 20 xz), ((u12 49), aI cI 20 xz), ((u12 50), .inr (4, [.ref (u12 0), .ref (u12 51), .ref (u12 52)])), ((u12 51), aI cZ 80 xz), ((u12 52), aI cI 20 xz)] := hD
  refine W.widen (k := 54) (n := 3766) (by decide) (by decide) ?_
  refine lv_astore_n (lv' := [(1, .ref q85), (0, .ref b)]) hx hb dL_law_7 rfl hl (by decide) rfl (fun ls hl => ?_)
  refine va_new (ci := 9) (fs := [.int 0, .int 0, .null, .null, .null, .null, .null, .int 0, .null, .int 0, .null, .null, .null, .int 0, .null, .null, .int 0, .null, .null, .null, .int 0, .null, .int 0, .null, .null, .int 0, .int 0, .int 0, .null, .int 0, .null, .null, .null, .null, .null, .null, .null, .null, .null, .null, .null, .null, .null, .null, .null, .int 0, .int 0, .int 0, .int 0, .int 0, .null, .null, .null, .null, .null, .null, .int 0, .null]) (C := RX9) (T := TX9) (N := 58) hx hb hts xinX9 tyX9 tyX9_ok hown (hts _ wm_545) (hts _ wm_540) (hts _ wm_177) hK hP hD hS hA rfl (by decide +kernel) (Nat.le_of_ble_eq_true rfl) (Nat.le_of_ble_eq_true rfl) dL_law_8 (fun q86 H hP hD hS => ?_)
  replace hP : va_P G vwCl [(q85, .inr (8, [.ref (u12 0), .ref (u12 4), .ref (u12 7), .ref (u12 8), .ref (u12 19), .ref (u12 22), .ref (u12 25), .ref (u12 28), .ref (u12 34), .ref (u12 40), .ref (u12 50), .int 0, .int 0, .int 0, .int 0, .int 0])), ((u12 0), .inr (3, [.ref (u12 1), .ref (u12 2), .ref (u12 3), .int 0, .int 0, .int 0])), ((u12 1), aI cI 160 xz), ((u12 2), aI cZ 80 xz), ((u12 3), aI cI 20 xz), ((u12 4), .inr (7, [.ref (u12 5), .ref (u12 6), .int 0])), ((u12 5), aI cI 160 xz), ((u12 6), aI cI 181 xz), ((u12 7), aI cI 21 xz), ((u12 8), .inr (5, [.ref (u12 9), .ref (u12 10), .ref (u12 11), .ref (u12 12), .ref (u12 13), .ref (u12 14), .ref (u12 15), .ref (u12 16), .ref (u12 17), .ref (u12 18), .int 0, .int 0])), ((u12 9), aI cI 21 xz), ((u12 10), aI cI 21 xz), ((u12 11), aI cI 21 xz), ((u12 12), aJ cJ 21 xzL), ((u12 13), aJ cJ 21 xzL), ((u12 14), aJ cJ 22 xzL), ((u12 15), aJ cJ 21 xzL), ((u12 16), aI cI 21 xz), ((u12 17), aJ cJ 58 xzL), ((u12 18), aJ cJ 58 xzL), ((u12 19), .inr (2, [.ref (u12 20), .ref (u12 21), .int (-1)])), ((u12 20), aI cI 20 xz), ((u12 21), aI cI 20 xz), ((u12 22), .inr (6, [.ref (u12 19), .ref (u12 23), .ref (u12 24)])), ((u12 23), aI cI 400 xz), ((u12 24), aI cI 400 xz), ((u12 25), .inr (7, [.ref (u12 26), .ref (u12 27), .int 0])), ((u12 26), aI cI 160 xz), ((u12 27), aI cI 181 xz), ((u12 28), .inr (1, [.ref (u12 29), .ref (u12 32), .ref (u12 33)])), ((u12 29), .inr (7, [.ref (u12 30), .ref (u12 31), .int 0])), ((u12 30), aI cI 160 xz), ((u12 31), aI cI 181 xz), ((u12 32), aI cI 160 xz), ((u12 33), aI cI 160 xz), ((u12 34), .inr (1, [.ref (u12 35), .ref (u12 38), .ref (u12 39)])), ((u12 35), .inr (7, [.ref (u12 36), .ref (u12 37), .int 0])), ((u12 36), aI cI 160 xz), ((u12 37), aI cI 181 xz), ((u12 38), aI cI 160 xz), ((u12 39), aI cI 160 xz), ((u12 40), .inr (0, [.ref (u12 19), .ref (u12 22), .ref (u12 41), .ref (u12 42), .ref (u12 43), .ref (u12 44), .ref (u12 45), .ref (u12 46), .ref (u12 47), .ref (u12 48), .ref (u12 49), .int 0, .int 0, .int 0, .int 0])), ((u12 41), aI cI 20 xz), ((u12 42), aI cI 20 xz), ((u12 43), aI cI 20 xz), ((u12 44), aI cI 20 xz), ((u12 45), aI cI 20 xz), ((u12 46), aI cI 20 xz), ((u12 47), aI cI 20 xz), ((u12 48), aI cI 20 xz), ((u12 49), aI cI 20 xz), ((u12 50), .inr (4, [.ref (u12 0), .ref (u12 51), .ref (u12 52)])), ((u12 51), aI cZ 80 xz), ((u12 52), aI cI 20 xz), (q86, .inr (9, [.int 0, .int 0, .null, .null, .null, .null, .null, .int 0, .null, .int 0, .null, .null, .null, .int 0, .null, .null, .int 0, .null, .null, .null, .int 0, .null, .int 0, .null, .null, .int 0, .int 0, .int 0, .null, .int 0, .null, .null, .null, .null, .null, .null, .null, .null, .null, .null, .null, .null, .null, .null, .null, .int 0, .int 0, .int 0, .int 0, .int 0, .null, .null, .null, .null, .null, .null, .int 0, .null]))] H := hP
  replace hD : va_D (fun q : Nat => s.heap.size ≤ q) [(q85, .inr (8, [.ref (u12 0), .ref (u12 4), .ref (u12 7), .ref (u12 8), .ref (u12 19), .ref (u12 22), .ref (u12 25), .ref (u12 28), .ref (u12 34), .ref (u12 40), .ref (u12 50), .int 0, .int 0, .int 0, .int 0, .int 0])), ((u12 0), .inr (3, [.ref (u12 1), .ref (u12 2), .ref (u12 3), .int 0, .int 0, .int 0])), ((u12 1), aI cI 160 xz), ((u12 2), aI cZ 80 xz), ((u12 3), aI cI 20 xz), ((u12 4), .inr (7, [.ref (u12 5), .ref (u12 6), .int 0])), ((u12 5), aI cI 160 xz), ((u12 6), aI cI 181 xz), ((u12 7), aI cI 21 xz), ((u12 8), .inr (5, [.ref (u12 9), .ref (u12 10), .ref (u12 11), .ref (u12 12), .ref (u12 13), .ref (u12 14), .ref (u12 15), .ref (u12 16), .ref (u12 17), .ref (u12 18), .int 0, .int 0])), ((u12 9), aI cI 21 xz), ((u12 10), aI cI 21 xz), ((u12 11), aI cI 21 xz), ((u12 12), aJ cJ 21 xzL), ((u12 13), aJ cJ 21 xzL), ((u12 14), aJ cJ 22 xzL), ((u12 15), aJ cJ 21 xzL), ((u12 16), aI cI 21 xz), ((u12 17), aJ cJ 58 xzL), ((u12 18), aJ cJ 58 xzL), ((u12 19), .inr (2, [.ref (u12 20), .ref (u12 21), .int (-1)])), ((u12 20), aI cI 20 xz), ((u12 21), aI cI 20 xz), ((u12 22), .inr (6, [.ref (u12 19), .ref (u12 23), .ref (u12 24)])), ((u12 23), aI cI 400 xz), ((u12 24), aI cI 400 xz), ((u12 25), .inr (7, [.ref (u12 26), .ref (u12 27), .int 0])), ((u12 26), aI cI 160 xz), ((u12 27), aI cI 181 xz), ((u12 28), .inr (1, [.ref (u12 29), .ref (u12 32), .ref (u12 33)])), ((u12 29), .inr (7, [.ref (u12 30), .ref (u12 31), .int 0])), ((u12 30), aI cI 160 xz), ((u12 31), aI cI 181 xz), ((u12 32), aI cI 160 xz), ((u12 33), aI cI 160 xz), ((u12 34), .inr (1, [.ref (u12 35), .ref (u12 38), .ref (u12 39)])), ((u12 35), .inr (7, [.ref (u12 36), .ref (u12 37), .int 0])), ((u12 36), aI cI 160 xz), ((u12 37), aI cI 181 xz), ((u12 38), aI cI 160 xz), ((u12 39), aI cI 160 xz), ((u12 40), .inr (0, [.ref (u12 19), .ref (u12 22), .ref (u12 41), .ref (u12 42), .ref (u12 43), .ref (u12 44), .ref (u12 45), .ref (u12 46), .ref (u12 47), .ref (u12 48), .ref (u12 49), .int 0, .int 0, .int 0, .int 0])), ((u12 41), aI cI 20 xz), ((u12 42), aI cI 20 xz), ((u12 43), aI cI 20 xz), ((u12 44), aI cI 20 xz), ((u12 45), aI cI 20 xz), ((u12 46), aI cI 20 xz), ((u12 47), aI cI 20 xz), ((u12 48), aI cI 20 xz), ((u12 49), aI cI 20 xz), ((u12 50), .inr (4, [.ref (u12 0), .ref (u12 51), .ref (u12 52)])), ((u12 51), aI cZ 80 xz), ((u12 52), aI cI 20 xz), (q86, .inr (9, [.int 0, .int 0, .null, .null, .null, .null, .null, .int 0, .null, .int 0, .null, .null, .null, .int 0, .null, .null, .int 0, .null, .null, .null, .int 0, .null, .int 0, .null, .null, .int 0, .int 0, .int 0, .null, .int 0, .null, .null, .null, .null, .null, .null, .null, .null, .null, .null, .null, .null, .null, .null, .null, .int 0, .int 0, .int 0, .int 0, .int 0, .null, .null, .null, .null, .null, .null, .int 0, .null]))] := hD
  refine W.widen (k := 55) (n := 3824) (by decide) (by decide) ?_
  refine lv_dup hx hb dL_law_11 rfl ?_
  refine xcv (wr := [(q85, .inr (8, [.ref (u12 0), .ref (u12 4), .ref (u12 7), .ref (u12 8), .ref (u12 19), .ref (u12 22), .ref (u12 25), .ref (u12 28), .ref (u12 34), .ref (u12 40), .ref (u12 50), .int 0, .int 0, .int 0, .int 0, .int 0])), ((u12 0), .inr (3, [.ref (u12 1), .ref (u12 2), .ref (u12 3), .int 0, .int 0, .int 0])), ((u12 1), aI cI 160 xz), ((u12 2), aI cZ 80 xz), ((u12 3), aI cI 20 xz), ((u12 4), .inr (7, [.ref (u12 5), .ref (u12 6), .int 0])), ((u12 5), aI cI 160 xz), ((u12 6), aI cI 181 xz), ((u12 7), aI cI 21 xz), ((u12 8), .inr (5, [.ref (u12 9), .ref (u12 10), .ref (u12 11), .ref (u12 12), .ref (u12 13), .ref (u12 14), .ref (u12 15), .ref (u12 16), .ref (u12 17), .ref (u12 18), .int 0, .int 0])), ((u12 9), aI cI 21 xz), ((u12 10), aI cI 21 xz), ((u12 11), aI cI 21 xz), ((u12 12), aJ cJ 21 xzL), ((u12 13), aJ cJ 21 xzL), ((u12 14), aJ cJ 22 xzL), ((u12 15), aJ cJ 21 xzL), ((u12 16), aI cI 21 xz), ((u12 17), aJ cJ 58 xzL), ((u12 18), aJ cJ 58 xzL), ((u12 19), .inr (2, [.ref (u12 20), .ref (u12 21), .int (-1)])), ((u12 20), aI cI 20 xz), ((u12 21), aI cI 20 xz), ((u12 22), .inr (6, [.ref (u12 19), .ref (u12 23), .ref (u12 24)])), ((u12 23), aI cI 400 xz), ((u12 24), aI cI 400 xz), ((u12 25), .inr (7, [.ref (u12 26), .ref (u12 27), .int 0])), ((u12 26), aI cI 160 xz), ((u12 27), aI cI 181 xz), ((u12 28), .inr (1, [.ref (u12 29), .ref (u12 32), .ref (u12 33)])), ((u12 29), .inr (7, [.ref (u12 30), .ref (u12 31), .int 0])), ((u12 30), aI cI 160 xz), ((u12 31), aI cI 181 xz), ((u12 32), aI cI 160 xz), ((u12 33), aI cI 160 xz), ((u12 34), .inr (1, [.ref (u12 35), .ref (u12 38), .ref (u12 39)])), ((u12 35), .inr (7, [.ref (u12 36), .ref (u12 37), .int 0])), ((u12 36), aI cI 160 xz), ((u12 37), aI cI 181 xz), ((u12 38), aI cI 160 xz), ((u12 39), aI cI 160 xz), ((u12 40), .inr (0, [.ref (u12 19), .ref (u12 22), .ref (u12 41), .ref (u12 42), .ref (u12 43), .ref (u12 44), .ref (u12 45), .ref (u12 46), .ref (u12 47), .ref (u12 48), .ref (u12 49), .int 0, .int 0, .int 0, .int 0])), ((u12 41), aI cI 20 xz), ((u12 42), aI cI 20 xz), ((u12 43), aI cI 20 xz), ((u12 44), aI cI 20 xz), ((u12 45), aI cI 20 xz), ((u12 46), aI cI 20 xz), ((u12 47), aI cI 20 xz), ((u12 48), aI cI 20 xz), ((u12 49), aI cI 20 xz), ((u12 50), .inr (4, [.ref (u12 0), .ref (u12 51), .ref (u12 52)])), ((u12 51), aI cZ 80 xz), ((u12 52), aI cI 20 xz)]) (va_runI (As := []) (rest := [.ref q86]) ⟨hx, hb, hml, hown, hts⟩ (mX9_init l G cI cJ cZ q86 H.size ) (cwI 0 hts (xgood wm_546) rfl rfl rfl (hts _ wm_177) (hts _ wm_547) (hts _ wm_548) rfl (by decide +kernel) ⟨Nat.le_of_ble_eq_true rfl, Nat.le_of_ble_eq_true rfl⟩) (xPreS hK hN hP hD [54] (by decide) rfl) rfl rfl hl.1 rfl (lv_room (Nat.le_of_ble_eq_true rfl)) dL_law_12 ⟨Nat.le_of_ble_eq_true rfl, Nat.le_of_ble_eq_true rfl⟩) hP hD hS hA [54] [0, 1, 2, 3, 4, 5, 6, 7, 8, 9, 10, 11, 12, 13, 14, 15, 16, 17, 18, 19, 20, 21, 22, 23, 24, 25, 26, 27, 28, 29, 30, 31, 32, 33, 34, 35, 36, 37, 38, 39, 40, 41, 42, 43, 44, 45, 46, 47, 48, 49, 50, 51, 52, 53] rfl rfl (by decide) (by decide) (fun u13 H locs hw hP hD hS => ?_)
  replace hP : va_P G vwCl [(q85, .inr (8, [.ref (u12 0), .ref (u12 4), .ref (u12 7), .ref (u12 8), .ref (u12 19), .ref (u12 22), .ref (u12 25), .ref (u12 28), .ref (u12 34), .ref (u12 40), .ref (u12 50), .int 0, .int 0, .int 0, .int 0, .int 0])), ((u12 0), .inr (3, [.ref (u12 1), .ref (u12 2), .ref (u12 3), .int 0, .int 0, .int 0])), ((u12 1), aI cI 160 xz), ((u12 2), aI cZ 80 xz), ((u12 3), aI cI 20 xz), ((u12 4), .inr (7, [.ref (u12 5), .ref (u12 6), .int 0])), ((u12 5), aI cI 160 xz), ((u12 6), aI cI 181 xz), ((u12 7), aI cI 21 xz), ((u12 8), .inr (5, [.ref (u12 9), .ref (u12 10), .ref (u12 11), .ref (u12 12), .ref (u12 13), .ref (u12 14), .ref (u12 15), .ref (u12 16), .ref (u12 17), .ref (u12 18), .int 0, .int 0])), ((u12 9), aI cI 21 xz), ((u12 10), aI cI 21 xz), ((u12 11), aI cI 21 xz), ((u12 12), aJ cJ 21 xzL), ((u12 13), aJ cJ 21 xzL), ((u12 14), aJ cJ 22 xzL), ((u12 15), aJ cJ 21 xzL), ((u12 16), aI cI 21 xz), ((u12 17), aJ cJ 58 xzL), ((u12 18), aJ cJ 58 xzL), ((u12 19), .inr (2, [.ref (u12 20), .ref (u12 21), .int (-1)])), ((u12 20), aI cI 20 xz), ((u12 21), aI cI 20 xz), ((u12 22), .inr (6, [.ref (u12 19), .ref (u12 23), .ref (u12 24)])), ((u12 23), aI cI 400 xz), ((u12 24), aI cI 400 xz), ((u12 25), .inr (7, [.ref (u12 26), .ref (u12 27), .int 0])), ((u12 26), aI cI 160 xz), ((u12 27), aI cI 181 xz), ((u12 28), .inr (1, [.ref (u12 29), .ref (u12 32), .ref (u12 33)])), ((u12 29), .inr (7, [.ref (u12 30), .ref (u12 31), .int 0])), ((u12 30), aI cI 160 xz), ((u12 31), aI cI 181 xz), ((u12 32), aI cI 160 xz), ((u12 33), aI cI 160 xz), ((u12 34), .inr (1, [.ref (u12 35), .ref (u12 38), .ref (u12 39)])), ((u12 35), .inr (7, [.ref (u12 36), .ref (u12 37), .int 0])), ((u12 36), aI cI 160 xz), ((u12 37), aI cI 181 xz), ((u12 38), aI cI 160 xz), ((u12 39), aI cI 160 xz), ((u12 40), .inr (0, [.ref (u12 19), .ref (u12 22), .ref (u12 41), .ref (u12 42), .ref (u12 43), .ref (u12 44), .ref (u12 45), .ref (u12 46), .ref (u12 47), .ref (u12 48), .ref (u12 49), .int 0, .int 0, .int 0, .int 0])), ((u12 41), aI cI 20 xz), ((u12 42), aI cI 20 xz), ((u12 43), aI cI 20 xz), ((u12 44), aI cI 20 xz), ((u12 45), aI cI 20 xz), ((u12 46), aI cI 20 xz), ((u12 47), aI cI 20 xz), ((u12 48), aI cI 20 xz), ((u12 49), aI cI 20 xz), ((u12 50), .inr (4, [.ref (u12 0), .ref (u12 51), .ref (u12 52)])), ((u12 51), aI cZ 80 xz), ((u12 52), aI cI 20 xz), (q86, .inr (9, [.int 0, .int 0, .ref (u13 0), .ref (u13 1), .ref (u13 2), .ref (u13 3), .ref (u13 4), .int 0, .ref (u13 5), .int 0, .ref (u13 6), .ref (u13 7), .ref (u13 8), .int 0, .ref (u13 9), .ref (u13 10), .int 0, .ref (u13 11), .ref (u13 12), .ref (u13 13), .int 0, .ref (u13 14), .int 0, .ref (u13 15), .ref (u13 16), .int 0, .int 0, .int 0, .ref (u13 17), .int 0, .ref (u13 18), .ref (u13 19), .ref (u13 20), .ref (u13 21), .ref (u13 22), .ref (u13 23), .ref (u13 24), .ref (u13 25), .ref (u13 26), .ref (u13 27), .ref (u13 28), .ref (u13 29), .ref (u13 30), .ref (u13 31), .ref (u13 32), .int 0, .int 0, .int 0, .int 0, .int 0, .ref (u13 33), .ref (u13 34), .ref (u13 35), .ref (u13 36), .ref (u13 37), .ref (u13 38), .int 0, .ref (u13 39)])), ((u13 0), aI cI 80 xz), ((u13 1), aI cI 80 xz), ((u13 2), aI cZ 80 xz), ((u13 3), aI cI 3200 xz), ((u13 4), aI cI 20 xz), ((u13 5), aI cI 21 xz), ((u13 6), aI cI 220 xz), ((u13 7), aI cI 220 xz), ((u13 8), aI cI 220 xz), ((u13 9), aI cI 21 xz), ((u13 10), aI cI 21 xz), ((u13 11), aI cI 2560 xz), ((u13 12), aI cI 120 xz), ((u13 13), aI cI 120 xz), ((u13 14), aI cI 24 xz), ((u13 15), aI cI 21 xz), ((u13 16), aI cI 21 xz), ((u13 17), aI cI 21 xz), ((u13 18), aI cI 20 xz), ((u13 19), aI cI 20 xz), ((u13 20), aI cI 441 xz), ((u13 21), aI cI 400 xz), ((u13 22), aI cI 20 xz), ((u13 23), aI cI 3200 xz), ((u13 24), aI cI 20 xz), ((u13 25), aI cI 20 xz), ((u13 26), aI cI 20 xz), ((u13 27), aI cZ 80 xz), ((u13 28), aI cI 20 xz), ((u13 29), aI cI 20 xz), ((u13 30), aI cI 20 xz), ((u13 31), aI cI 20 xz), ((u13 32), aI cI 24 xz), ((u13 33), aI cI 20 xz), ((u13 34), aI cZ 441 xz), ((u13 35), aI cZ 120 xz), ((u13 36), aI cI 160 xz), ((u13 37), aI cI 162 xz), ((u13 38), aI cI 160 xz), ((u13 39), aI cZ 160 xz)] H := hP
  replace hD : va_D (fun q : Nat => s.heap.size ≤ q) [(q85, .inr (8, [.ref (u12 0), .ref (u12 4), .ref (u12 7), .ref (u12 8), .ref (u12 19), .ref (u12 22), .ref (u12 25), .ref (u12 28), .ref (u12 34), .ref (u12 40), .ref (u12 50), .int 0, .int 0, .int 0, .int 0, .int 0])), ((u12 0), .inr (3, [.ref (u12 1), .ref (u12 2), .ref (u12 3), .int 0, .int 0, .int 0])), ((u12 1), aI cI 160 xz), ((u12 2), aI cZ 80 xz), ((u12 3), aI cI 20 xz), ((u12 4), .inr (7, [.ref (u12 5), .ref (u12 6), .int 0])), ((u12 5), aI cI 160 xz), ((u12 6), aI cI 181 xz), ((u12 7), aI cI 21 xz), ((u12 8), .inr (5, [.ref (u12 9), .ref (u12 10), .ref (u12 11), .ref (u12 12), .ref (u12 13), .ref (u12 14), .ref (u12 15), .ref (u12 16), .ref (u12 17), .ref (u12 18), .int 0, .int 0])), ((u12 9), aI cI 21 xz), ((u12 10), aI cI 21 xz), ((u12 11), aI cI 21 xz), ((u12 12), aJ cJ 21 xzL), ((u12 13), aJ cJ 21 xzL), ((u12 14), aJ cJ 22 xzL), ((u12 15), aJ cJ 21 xzL), ((u12 16), aI cI 21 xz), ((u12 17), aJ cJ 58 xzL), ((u12 18), aJ cJ 58 xzL), ((u12 19), .inr (2, [.ref (u12 20), .ref (u12 21), .int (-1)])), ((u12 20), aI cI 20 xz), ((u12 21), aI cI 20 xz), ((u12 22), .inr (6, [.ref (u12 19), .ref (u12 23), .ref (u12 24)])), ((u12 23), aI cI 400 xz), ((u12 24), aI cI 400 xz), ((u12 25), .inr (7, [.ref (u12 26), .ref (u12 27), .int 0])), ((u12 26), aI cI 160 xz), ((u12 27), aI cI 181 xz), ((u12 28), .inr (1, [.ref (u12 29), .ref (u12 32), .ref (u12 33)])), ((u12 29), .inr (7, [.ref (u12 30), .ref (u12 31), .int 0])), ((u12 30), aI cI 160 xz), ((u12 31), aI cI 181 xz), ((u12 32), aI cI 160 xz), ((u12 33), aI cI 160 xz), ((u12 34), .inr (1, [.ref (u12 35), .ref (u12 38), .ref (u12 39)])), ((u12 35), .inr (7, [.ref (u12 36), .ref (u12 37), .int 0])), ((u12 36), aI cI 160 xz), ((u12 37), aI cI 181 xz), ((u12 38), aI cI 160 xz), ((u12 39), aI cI 160 xz), ((u12 40), .inr (0, [.ref (u12 19), .ref (u12 22), .ref (u12 41), .ref (u12 42), .ref (u12 43), .ref (u12 44), .ref (u12 45), .ref (u12 46), .ref (u12 47), .ref (u12 48), .ref (u12 49), .int 0, .int 0, .int 0, .int 0])), ((u12 41), aI cI 20 xz), ((u12 42), aI cI 20 xz), ((u12 43), aI cI 20 xz), ((u12 44), aI cI 20 xz), ((u12 45), aI cI 20 xz), ((u12 46), aI cI 20 xz), ((u12 47), aI cI 20 xz), ((u12 48), aI cI 20 xz), ((u12 49), aI cI 20 xz), ((u12 50), .inr (4, [.ref (u12 0), .ref (u12 51), .ref (u12 52)])), ((u12 51), aI cZ 80 xz), ((u12 52), aI cI 20 xz), (q86, .inr (9, [.int 0, .int 0, .ref (u13 0), .ref (u13 1), .ref (u13 2), .ref (u13 3), .ref (u13 4), .int 0, .ref (u13 5), .int 0, .ref (u13 6), .ref (u13 7), .ref (u13 8), .int 0, .ref (u13 9), .ref (u13 10), .int 0, .ref (u13 11), .ref (u13 12), .ref (u13 13), .int 0, .ref (u13 14), .int 0, .ref (u13 15), .ref (u13 16), .int 0, .int 0, .int 0, .ref (u13 17), .int 0, .ref (u13 18), .ref (u13 19), .ref (u13 20), .ref (u13 21), .ref (u13 22), .ref (u13 23), .ref (u13 24), .ref (u13 25), .ref (u13 26), .ref (u13 27), .ref (u13 28), .ref (u13 29), .ref (u13 30), .ref (u13 31), .ref (u13 32), .int 0, .int 0, .int 0, .int 0, .int 0, .ref (u13 33), .ref (u13 34), .ref (u13 35), .ref (u13 36), .ref (u13 37), .ref (u13 38), .int 0, .ref (u13 39)])), ((u13 0), aI cI 80 xz), ((u13 1), aI cI 80 xz), ((u13 2), aI cZ 80 xz), ((u13 3), aI cI 3200 xz), ((u13 4), aI cI 20 xz), ((u13 5), aI cI 21 xz), ((u13 6), aI cI 220 xz), ((u13 7), aI cI 220 xz), ((u13 8), aI cI 220 xz), ((u13 9), aI cI 21 xz), ((u13 10), aI cI 21 xz), ((u13 11), aI cI 2560 xz), ((u13 12), aI cI 120 xz), ((u13 13), aI cI 120 xz), ((u13 14), aI cI 24 xz), ((u13 15), aI cI 21 xz), ((u13 16), aI cI 21 xz), ((u13 17), aI cI 21 xz), ((u13 18), aI cI 20 xz), ((u13 19), aI cI 20 xz), ((u13 20), aI cI 441 xz), ((u13 21), aI cI 400 xz), ((u13 22), aI cI 20 xz), ((u13 23), aI cI 3200 xz), ((u13 24), aI cI 20 xz), ((u13 25), aI cI 20 xz), ((u13 26), aI cI 20 xz), ((u13 27), aI cZ 80 xz), ((u13 28), aI cI 20 xz), ((u13 29), aI cI 20 xz), ((u13 30), aI cI 20 xz), ((u13 31), aI cI 20 xz), ((u13 32), aI cI 24 xz), ((u13 33), aI cI 20 xz), ((u13 34), aI cZ 441 xz), ((u13 35), aI cZ 120 xz), ((u13 36), aI cI 160 xz), ((u13 37), aI cI 162 xz), ((u13 38), aI cI 160 xz), ((u13 39), aI cZ 160 xz)] := hD
  refine W.widen (k := 95) (n := 16462) (by decide) (by decide) ?_
  refine lv_astore_n (lv' := [(2, .ref q86), (1, .ref q85), (0, .ref b)]) hx hb dL_law_15 rfl hl (by decide) rfl (fun ls hl => ?_)
  refine lv_iconst (v := 0) hx hb dL_law_16 (by decide) ?_
  refine lv_istore_n (lv' := [(3, .int 0), (2, .ref q86), (1, .ref q85), (0, .ref b)]) hx hb dL_law_17 rfl hl (by decide) rfl (fun ls hl => ?_)
  replace hP : va_P G vwCl (lawW cI cJ cZ q85 u12 q86 u13) H := hP
  replace hD : va_D (fun q : Nat => s.heap.size ≤ q) (lawW cI cJ cZ q85 u12 q86 u13) := hD
  refine lv_iload_n hx hb dL_law_18 rfl (lv_at hl 0 rfl) ?_
  refine lv_aload_n hx hb dL_law_19 rfl (lv_at hl 3 rfl) ?_
  refine va_slen hx hb hX hbl hbA hS dL_law_20 ?_
  refine lv_iconst (v := 4) hx hb dL_law_21 (by decide) ?_
  refine lv_isub hx hb dL_law_22 ?_
  refine lv_icmp_gt (tgt := 682) hx hb dL_law_23 (by decide) (fun c0 => ?_) (fun c0 => ?_)
  · refine lv_iconst (v := 1) hx hb dL_law_682 (by decide) ?_
    refine va_forget (fun q hq => hS.2.2 q hq) ?_
    exact lw_ret hx hb hr hlocks dL_law_683
  · have hL4 : L = 4 := by
      rcases (show L = 0 ∨ L = 1 ∨ L = 2 ∨ L = 3 ∨ L = 4 by omega) with h | h | h | h | h
      · exact absurd (by rw [h]; decide) c0
      · exact absurd (by rw [h]; decide) c0
      · exact absurd (by rw [h]; decide) c0
      · exact absurd (by rw [h]; decide) c0
      · exact h
    subst hL4
    clear c0
    refine lv_aload_n hx hb dL_law_26 rfl (lv_at hl 3 rfl) ?_
    refine lv_iload_n hx hb dL_law_27 rfl (lv_at hl 0 rfl) ?_
    refine va_sld hx hb hX hbl hbA hS (by unfold vp_in; decide) dL_law_28 ?_
    refine lv_bipush (v := 31) hx hb dL_law_29 (by decide) ?_
    refine lv_iand hx hb dL_law_31 ?_
    obtain ⟨j, hj, ej⟩ := pk_andE (xs (0 : Int32).toNatClampNeg) (m := 31) 5 (by decide)
    rw [ej]
    replace hl : lv_has ls 4 [(3, .int 0), (2, .ref q86), (1, .ref q85), (0, .ref b)] := lv_sub hl [0, 1, 2, 3] rfl
    rcases (show j = 0 ∨ j = 1 ∨ j = 2 ∨ j = 3 ∨ j = 4 ∨ j = 5 ∨ j = 6 ∨ j = 7 ∨ j = 8 ∨ j = 9 ∨ j = 10 ∨ j = 11 ∨ j = 12 ∨ j = 13 ∨ j = 14 ∨ j = 15 ∨ j = 16 ∨ j = 17 ∨ j = 18 ∨ j = 19 ∨ j = 20 ∨ j = 21 ∨ j = 22 ∨ j = 23 ∨ 24 ≤ j by omega) with h | h | h | h | h | h | h | h | h | h | h | h | h | h | h | h | h | h | h | h | h | h | h | h | h
    · subst h
      refine lv_tableIn (off := 112) (tgt := 144) hx hb dL_law_32 (by decide) (by decide) rfl (by decide) ?_
      exact law_c0 C1 G cI cJ cZ hK hN hP hD hS hl
    · subst h
      refine lv_tableIn (off := 125) (tgt := 157) hx hb dL_law_32 (by decide) (by decide) rfl (by decide) ?_
      exact law_c1 C1 G cI cJ cZ hK hN hP hD hS hl
    · subst h
      refine lv_tableIn (off := 158) (tgt := 190) hx hb dL_law_32 (by decide) (by decide) rfl (by decide) ?_
      exact law_c2 C1 G cI cJ cZ hK hN hP hD hS hl
    · subst h
      refine lv_tableIn (off := 181) (tgt := 213) hx hb dL_law_32 (by decide) (by decide) rfl (by decide) ?_
      exact law_c3 C1 G cI cJ cZ hK hN hP hD hS hl
    · subst h
      refine lv_tableIn (off := 194) (tgt := 226) hx hb dL_law_32 (by decide) (by decide) rfl (by decide) ?_
      exact law_c4 C1 G cI cJ cZ hK hN hP hD hS hl
    · subst h
      refine lv_tableIn (off := 207) (tgt := 239) hx hb dL_law_32 (by decide) (by decide) rfl (by decide) ?_
      exact law_c5 C1 G cI cJ cZ hK hN hP hD hS hl
    · subst h
      refine lv_tableIn (off := 220) (tgt := 252) hx hb dL_law_32 (by decide) (by decide) rfl (by decide) ?_
      exact law_c6 C1 G cI cJ cZ hK hN hP hD hS hl
    · subst h
      refine lv_tableIn (off := 243) (tgt := 275) hx hb dL_law_32 (by decide) (by decide) rfl (by decide) ?_
      exact law_c7 C1 G cI cJ cZ hK hN hP hD hS hl
    · subst h
      refine lv_tableIn (off := 276) (tgt := 308) hx hb dL_law_32 (by decide) (by decide) rfl (by decide) ?_
      exact law_c8 C1 G cI cJ cZ hK hN hP hD hS hl
    · subst h
      refine lv_tableIn (off := 289) (tgt := 321) hx hb dL_law_32 (by decide) (by decide) rfl (by decide) ?_
      exact law_c9 C1 G cI cJ cZ hK hN hP hD hS hl
    · subst h
      refine lv_tableIn (off := 322) (tgt := 354) hx hb dL_law_32 (by decide) (by decide) rfl (by decide) ?_
      exact law_c10 C1 G cI cJ cZ hK hN hP hD hS hl
    · subst h
      refine lv_tableIn (off := 355) (tgt := 387) hx hb dL_law_32 (by decide) (by decide) rfl (by decide) ?_
      exact law_c11 C1 G cI cJ cZ hK hN hP hD hS hl
    · subst h
      refine lv_tableIn (off := 388) (tgt := 420) hx hb dL_law_32 (by decide) (by decide) rfl (by decide) ?_
      exact law_c12 C1 G cI cJ cZ hK hN hP hD hS hl
    · subst h
      refine lv_tableIn (off := 401) (tgt := 433) hx hb dL_law_32 (by decide) (by decide) rfl (by decide) ?_
      exact law_c13 C1 G cI cJ cZ hK hN hP hD hS hl
    · subst h
      refine lv_tableIn (off := 434) (tgt := 466) hx hb dL_law_32 (by decide) (by decide) rfl (by decide) ?_
      exact law_c14 C1 G cI cJ cZ hK hN hP hD hS hl
    · subst h
      refine lv_tableIn (off := 447) (tgt := 479) hx hb dL_law_32 (by decide) (by decide) rfl (by decide) ?_
      exact law_c15 C1 G cI cJ cZ hK hN hP hD hS hl
    · subst h
      refine lv_tableIn (off := 470) (tgt := 502) hx hb dL_law_32 (by decide) (by decide) rfl (by decide) ?_
      exact law_c16 C1 G cI cJ cZ hK hN hP hD hS hl
    · subst h
      refine lv_tableIn (off := 483) (tgt := 515) hx hb dL_law_32 (by decide) (by decide) rfl (by decide) ?_
      exact law_c17 C1 G cI cJ cZ hK hN hP hD hS hl
    · subst h
      refine lv_tableIn (off := 506) (tgt := 538) hx hb dL_law_32 (by decide) (by decide) rfl (by decide) ?_
      exact law_c18 C1 G cI cJ cZ hK hN hP hD hS hl
    · subst h
      refine lv_tableIn (off := 529) (tgt := 561) hx hb dL_law_32 (by decide) (by decide) rfl (by decide) ?_
      exact law_c19 C1 G cI cJ cZ hK hN hP hD hS hl
    · subst h
      refine lv_tableIn (off := 562) (tgt := 594) hx hb dL_law_32 (by decide) (by decide) rfl (by decide) ?_
      exact law_c20 C1 G cI cJ cZ hK hN hP hD hS hl
    · subst h
      refine lv_tableIn (off := 605) (tgt := 637) hx hb dL_law_32 (by decide) (by decide) rfl (by decide) ?_
      exact law_c21 C1 G cI cJ cZ hK hN hP hD hS hl
    · subst h
      refine lv_tableIn (off := 618) (tgt := 650) hx hb dL_law_32 (by decide) (by decide) rfl (by decide) ?_
      exact law_c22 C1 G cI cJ cZ hK hN hP hD hS hl
    · subst h
      refine lv_tableIn (off := 631) (tgt := 663) hx hb dL_law_32 (by decide) (by decide) rfl (by decide) ?_
      exact law_c23 C1 G cI cJ cZ hK hN hP hD hS hl
    · refine lv_tableOut (tgt := 676) hx hb dL_law_32 (Or.inr (by rw [nI_toInt (by omega)]; omega)) (by decide) ?_
      exact law_tail C1 hS hl

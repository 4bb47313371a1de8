theorem dJ7_fill_53178_0 : decode cJ7_fill_53178 0 = .ok (.iconst 0, 1) := by decide +kernel
theorem dJ7_fill_53178_1 : decode cJ7_fill_53178 1 = .ok (.istore_n 2, 1) := by decide +kernel
theorem dJ7_fill_53178_2 : decode cJ7_fill_53178 2 = .ok (.aload_n 0, 1) := by decide +kernel
theorem dJ7_fill_53178_3 : decode cJ7_fill_53178 3 = .ok (.arraylength, 1) := by decide +kernel
theorem dJ7_fill_53178_4 : decode cJ7_fill_53178 4 = .ok (.istore_n 3, 1) := by decide +kernel
theorem dJ7_fill_53178_5 : decode cJ7_fill_53178 5 = .ok (.iload_n 2, 1) := by decide +kernel
theorem dJ7_fill_53178_6 : decode cJ7_fill_53178 6 = .ok (.iload_n 3, 1) := by decide +kernel
theorem dJ7_fill_53178_7 : decode cJ7_fill_53178 7 = .ok (.if_icmp .ge 13, 3) := by decide +kernel
theorem dJ7_fill_53178_10 : decode cJ7_fill_53178 10 = .ok (.aload_n 0, 1) := by decide +kernel
theorem dJ7_fill_53178_11 : decode cJ7_fill_53178 11 = .ok (.iload_n 2, 1) := by decide +kernel
theorem dJ7_fill_53178_12 : decode cJ7_fill_53178 12 = .ok (.iload_n 1, 1) := by decide +kernel
theorem dJ7_fill_53178_13 : decode cJ7_fill_53178 13 = .ok (.iastore, 1) := by decide +kernel
theorem dJ7_fill_53178_14 : decode cJ7_fill_53178 14 = .ok (.iinc 2 1, 3) := by decide +kernel
theorem dJ7_fill_53178_17 : decode cJ7_fill_53178 17 = .ok (.goto (-12), 3) := by decide +kernel
theorem dJ7_fill_53178_20 : decode cJ7_fill_53178 20 = .ok (.return_, 1) := by decide +kernel
set_option maxHeartbeats 4000000 in
set_option maxRecDepth 100000 in
/-- Arrays.fill(int[], int): every place holds v -/
theorem mJ7_fill_53178 (l : Launch) (G : va_G) (cI cJ cZ : ClassId) (h0 sz : Nat) (N : Nat) (f : Nat → Int32) (v : Int32) (hN31 : N < 2 ^ 31) : Met l yJ7_fill_53178 (xw yJ7_fill_53178 cJ7_fill_53178 4 none) ({ frames := 0, cells := 0, slots := 0, locals := 0 }) (xPc G cI cJ cZ [.ref h0, .int v] [(h0, aI cI N f)] sz) (va_Qv (fun _ : Unit => True) (fun (_ : Unit) t => xB G (va_A [(h0, aI cI N f)] sz) [(h0, aI cI N (fun _ => v))] t) (va_A [(h0, aI cI N f)] sz)) 0 0 (va_A [(h0, aI cI N f)] sz) := by
  refine Met.ofW (cc := cJ7_fill_53178) (maxL := 4) (ret := none) (by decide) rfl ?_
  intro p e s m args below meth c s₁ B hml hv
  obtain ⟨rfl, hsz, hP, hK, hD0, hNn⟩ := hv
  have hx := B.exec
  have hb := B.bytes
  have hr := B.returns
  have hlocks := B.notSynchronized
  subst hsz
  have hD := hD0.self (sz := s.heap.size)
  clear hD0
  generalize hAe : va_A [(h0, aI cI N f)] s.heap.size = A at hD ⊢
  have hS : va_S A s.heap s.heap [] := va_S.rf
  replace hP : va_P G vwCl [(h0, aI cI N f)] s.heap := hP
  have hl := lv_entry ([.ref h0, .int v]) (n := 4) (Nat.le_of_ble_eq_true rfl)
  rw [lg_entry_eq]
  generalize (lg_sl ([.ref h0, .int v]) ++ List.replicate (4 - (lg_sl ([.ref h0, .int v])).length) Slot.unset).toArray = ls at hl ⊢
  replace hl : lv_has ls 4 [(0, .ref h0), (1, .int v)] := hl
  refine lv_iconst (v := 0) hx hb dJ7_fill_53178_0 (by decide) ?_
  refine lv_istore_n (lv' := [(2, .int 0), (0, .ref h0), (1, .int v)]) hx hb dJ7_fill_53178_1 rfl hl (by decide) rfl (fun ls hl => ?_)
  refine lv_aload_n hx hb dJ7_fill_53178_2 rfl (lv_at hl 1 rfl) ?_
  refine va_alen (v := nI N) hx hb hK hP 0 0 rfl rfl rfl dJ7_fill_53178_3 ?_
  refine lv_istore_n (lv' := [(3, .int (nI N)), (2, .int 0), (0, .ref h0), (1, .int v)]) hx hb dJ7_fill_53178_4 rfl hl (by decide) rfl (fun ls hl => ?_)
  refine xgen (Pp := fun H locs => W p l e _ s m _ below meth c H locs _ _ _ _) (fun H locs hP hD hS => ?_) hP hD hS
  obtain ⟨k, hk0⟩ : ∃ k : Nat, k = 0 := ⟨0, rfl⟩
  replace hl : lv_has ls 4 [(3, .int (nI N)), (2, .int (nI k)), (0, .ref h0), (1, .int v)] := by rw [hk0]; exact hl
  replace hP : va_P G vwCl [(h0, aI cI N (xfl f v k))] H := by rw [hk0]; simp only [xfl_0]; exact hP
  replace hD : va_D A [(h0, aI cI N (xfl f v k))] := by rw [hk0]; simp only [xfl_0]; exact hD
  have hkN : k ≤ N := by omega
  obtain ⟨n, hn⟩ : ∃ n, N + 1 ≤ k + n := ⟨N + 1, by omega⟩
  clear hk0
  induction n generalizing k H locs ls with
  | zero => exact absurd hn (by omega)
  | succ n ih =>
    refine lv_iload_n hx hb dJ7_fill_53178_5 rfl (lv_at hl 1 rfl) ?_
    refine lv_iload_n hx hb dJ7_fill_53178_6 rfl (lv_at hl 0 rfl) ?_
    refine lv_icmp_ge (tgt := 20) hx hb dJ7_fill_53178_7 (by decide) (fun c1 => ?_) (fun c1 => ?_)
    · have hke : k = N := by have h9 := xge (N := N) rfl (by omega) (by omega) c1; omega
      subst hke
      obtain ⟨hP, hD⟩ := xPrep hP hD 0 rfl (fun _ => v) (fun j hj => xfl_n f v k j hj)
      replace hP : va_P G vwCl [(h0, aI cI k (fun _ => v))] H := hP
      replace hD : va_D A [(h0, aI cI k (fun _ => v))] := hD
      exact W.vret hx hb hr (fun t ht hW => ⟨⟨(), rfl, trivial, by rw [ht]; exact hP, hD⟩, hS.F ht⟩) hS.2.2 dJ7_fill_53178_20
    · have hkl : k < N := xlt (N := N) rfl (by omega) (by omega) c1
      refine lv_aload_n hx hb dJ7_fill_53178_10 rfl (lv_at hl 2 rfl) ?_
      refine lv_iload_n hx hb dJ7_fill_53178_11 rfl (lv_at hl 1 rfl) ?_
      refine lv_iload_n hx hb dJ7_fill_53178_12 rfl (lv_at hl 3 rfl) ?_
      refine va_iast hx hb hK hP hD hS 0 0 rfl rfl (vp_in_nI hkl (by omega)) dJ7_fill_53178_13 (fun H locs hP hD hS => ?_)
      rw [xfl_s _ _ (by omega)] at hP hD
      replace hP : va_P G vwCl [(h0, aI cI N (xfl f v (k + 1)))] H := hP
      replace hD : va_D A [(h0, aI cI N (xfl f v (k + 1)))] := hD
      refine lv_iinc (v := (nI (k + 1))) (lv' := [(2, .int (nI (k + 1))), (3, .int (nI N)), (0, .ref h0), (1, .int v)]) hx hb dJ7_fill_53178_14 hl (k := 1) rfl (nI_1 k) (by decide) rfl (fun ls hl => ?_)
      refine lv_goto (tgt := 5) hx hb dJ7_fill_53178_17 (by decide) ?_
      replace hl : lv_has ls 4 [(3, .int (nI N)), (2, .int (nI (k + 1))), (0, .ref h0), (1, .int v)] := lv_sub hl [1, 0, 2, 3] rfl
      apply ih (k := k + 1) <;> first | assumption | omega

theorem xAC {args : Array Value} {s : State} {ty : FieldType} (h : (Cond.arrayClass ty).before args s = true) (hty : ty = .int ∨ ty = .long ∨ ty = .boolean) : ∃ cA : ClassId, ArrOfT s cA ty ∧ va_RA s cA ty := by
  obtain ⟨cA, kA, comp, h1, h2, h3⟩ := Cond.arrayClass_spec h
  refine ⟨cA, fun n z => ⟨fun k h => (by cases h), kA, h2, comp, h3⟩, ?_⟩
  rcases hty with rfl | rfl | rfl <;> exact h1
theorem xin_map {α : Type} {l : List α} {f : α → Cond} (is : List Nat) (h : ∀ k, k < l.length → ∃ q, l[k]? = some q ∧ lw_tbl[is.getD k 0]? = some (f q)) : ∀ q ∈ l, f q ∈ lw_tbl := fun q hq => by
  obtain ⟨k, hk⟩ := List.getElem?_of_mem hq
  obtain ⟨q2, h1, h2⟩ := h k (List.getElem?_eq_some_iff.mp hk).1
  rw [hk] at h1
  cases h1
  exact List.mem_of_getElem? h2
theorem xall_in {α : Type} {l : List α} {f : α → Cond} (is : List Nat) (h : l.map (fun q => some (f q)) = is.map (fun i => lw_tbl[i]?)) : ∀ q ∈ l, f q ∈ lw_tbl := fun q hq => by
  have h1 : some (f q) ∈ l.map (fun q => some (f q)) := List.mem_map.mpr ⟨q, hq, rfl⟩
  rw [h] at h1
  obtain ⟨i, -, hi⟩ := List.mem_map.mp h1
  exact List.mem_of_getElem? hi
theorem xnF_in : ∀ q ∈ xnF, Cond.fieldLinkNest q.1 q.2.1 q.2.2.1 q.2.2.2.1 q.2.2.2.2.1 q.2.2.2.2.2 ∈ lw_tbl := xall_in (f := fun (q : String × Nat × String × String × String × String) => Cond.fieldLinkNest q.1 q.2.1 q.2.2.1 q.2.2.2.1 q.2.2.2.2.1 q.2.2.2.2.2) [123, 126, 258, 160, 222, 260, 278, 280, 331, 134, 128, 132, 224, 221, 159, 131, 129, 122, 220, 225] (by decide +kernel)
theorem xnM_in : ∀ q ∈ xnM, Cond.methodLinkNest q.1 q.2.1 q.2.2.1 q.2.2.2 ∈ lw_tbl := xall_in (f := fun (q : String × Nat × MethodName × String) => Cond.methodLinkNest q.1 q.2.1 q.2.2.1 q.2.2.2) [117, 152, 170, 214, 251, 731, 713, 256, 550, 497, 568, 563, 569] (by decide +kernel)
/-- what the two constructors leave: the class at o1 with its cells u1, the reference at o2 with its cells u2 -/
def lawW (cI cJ cZ : ClassId) (o1 : Nat) (u1 : Nat → Nat) (o2 : Nat) (u2 : Nat → Nat) : va_W := [(o1, .inr (8, [.ref (u1 0), .ref (u1 4), .ref (u1 7), .ref (u1 8), .ref (u1 19), .ref (u1 22), .ref (u1 25), .ref (u1 28), .ref (u1 34), .ref (u1 40), .ref (u1 50), .int 0, .int 0, .int 0, .int 0, .int 0])), ((u1 0), .inr (3, [.ref (u1 1), .ref (u1 2), .ref (u1 3), .int 0, .int 0, .int 0])), ((u1 1), aI cI 160 xz), ((u1 2), aI cZ 80 xz), ((u1 3), aI cI 20 xz), ((u1 4), .inr (7, [.ref (u1 5), .ref (u1 6), .int 0])), ((u1 5), aI cI 160 xz), ((u1 6), aI cI 181 xz), ((u1 7), aI cI 21 xz), ((u1 8), .inr (5, [.ref (u1 9), .ref (u1 10), .ref (u1 11), .ref (u1 12), .ref (u1 13), .ref (u1 14), .ref (u1 15), .ref (u1 16), .ref (u1 17), .ref (u1 18), .int 0, .int 0])), ((u1 9), aI cI 21 xz), ((u1 10), aI cI 21 xz), ((u1 11), aI cI 21 xz), ((u1 12), aJ cJ 21 xzL), ((u1 13), aJ cJ 21 xzL), ((u1 14), aJ cJ 22 xzL), ((u1 15), aJ cJ 21 xzL), ((u1 16), aI cI 21 xz), ((u1 17), aJ cJ 58 xzL), ((u1 18), aJ cJ 58 xzL), ((u1 19), .inr (2, [.ref (u1 20), .ref (u1 21), .int (-1)])), ((u1 20), aI cI 20 xz), ((u1 21), aI cI 20 xz), ((u1 22), .inr (6, [.ref (u1 19), .ref (u1 23), .ref (u1 24)])), ((u1 23), aI cI 400 xz), ((u1 24), aI cI 400 xz), ((u1 25), .inr (7, [.ref (u1 26), .ref (u1 27), .int 0])), ((u1 26), aI cI 160 xz), ((u1 27), aI cI 181 xz), ((u1 28), .inr (1, [.ref (u1 29), .ref (u1 32), .ref (u1 33)])), ((u1 29), .inr (7, [.ref (u1 30), .ref (u1 31), .int 0])), ((u1 30), aI cI 160 xz), ((u1 31), aI cI 181 xz), ((u1 32), aI cI 160 xz), ((u1 33), aI cI 160 xz), ((u1 34), .inr (1, [.ref (u1 35), .ref (u1 38), .ref (u1 39)])), ((u1 35), .inr (7, [.ref (u1 36), .ref (u1 37), .int 0])), ((u1 36), aI cI 160 xz), ((u1 37), aI cI 181 xz), ((u1 38), aI cI 160 xz), ((u1 39), aI cI 160 xz), ((u1 40), .inr (0, [.ref (u1 19), .ref (u1 22), .ref (u1 41), .ref (u1 42), .ref (u1 43), .ref (u1 44), .ref (u1 45), .ref (u1 46), .ref (u1 47), .ref (u1 48), .ref (u1 49), .int 0, .int 0, .int 0, .int 0])), ((u1 41), aI cI 20 xz), ((u1 42), aI cI 20 xz), ((u1 43), aI cI 20 xz), ((u1 44), aI cI 20 xz), ((u1 45), aI cI 20 xz), ((u1 46), aI cI 20 xz), ((u1 47), aI cI 20 xz), ((u1 48), aI cI 20 xz), ((u1 49), aI cI 20 xz), ((u1 50), .inr (4, [.ref (u1 0), .ref (u1 51), .ref (u1 52)])), ((u1 51), aI cZ 80 xz), ((u1 52), aI cI 20 xz), (o2, .inr (9, [.int 0, .int 0, .ref (u2 0), .ref (u2 1), .ref (u2 2), .ref (u2 3), .ref (u2 4), .int 0, .ref (u2 5), .int 0, .ref (u2 6), .ref (u2 7), .ref (u2 8), .int 0, .ref (u2 9), .ref (u2 10), .int 0, .ref (u2 11), .ref (u2 12), .ref (u2 13), .int 0, .ref (u2 14), .int 0, .ref (u2 15), .ref (u2 16), .int 0, .int 0, .int 0, .ref (u2 17), .int 0, .ref (u2 18), .ref (u2 19), .ref (u2 20), .ref (u2 21), .ref (u2 22), .ref (u2 23), .ref (u2 24), .ref (u2 25), .ref (u2 26), .ref (u2 27), .ref (u2 28), .ref (u2 29), .ref (u2 30), .ref (u2 31), .ref (u2 32), .int 0, .int 0, .int 0, .int 0, .int 0, .ref (u2 33), .ref (u2 34), .ref (u2 35), .ref (u2 36), .ref (u2 37), .ref (u2 38), .int 0, .ref (u2 39)])), ((u2 0), aI cI 80 xz), ((u2 1), aI cI 80 xz), ((u2 2), aI cZ 80 xz), ((u2 3), aI cI 3200 xz), ((u2 4), aI cI 20 xz), ((u2 5), aI cI 21 xz), ((u2 6), aI cI 220 xz), ((u2 7), aI cI 220 xz), ((u2 8), aI cI 220 xz), ((u2 9), aI cI 21 xz), ((u2 10), aI cI 21 xz), ((u2 11), aI cI 2560 xz), ((u2 12), aI cI 120 xz), ((u2 13), aI cI 120 xz), ((u2 14), aI cI 24 xz), ((u2 15), aI cI 21 xz), ((u2 16), aI cI 21 xz), ((u2 17), aI cI 21 xz), ((u2 18), aI cI 20 xz), ((u2 19), aI cI 20 xz), ((u2 20), aI cI 441 xz), ((u2 21), aI cI 400 xz), ((u2 22), aI cI 20 xz), ((u2 23), aI cI 3200 xz), ((u2 24), aI cI 20 xz), ((u2 25), aI cI 20 xz), ((u2 26), aI cI 20 xz), ((u2 27), aI cZ 80 xz), ((u2 28), aI cI 20 xz), ((u2 29), aI cI 20 xz), ((u2 30), aI cI 20 xz), ((u2 31), aI cI 20 xz), ((u2 32), aI cI 24 xz), ((u2 33), aI cI 20 xz), ((u2 34), aI cZ 441 xz), ((u2 35), aI cZ 120 xz), ((u2 36), aI cI 160 xz), ((u2 37), aI cI 162 xz), ((u2 38), aI cI 160 xz), ((u2 39), aI cZ 160 xz)]
set_option maxHeartbeats 4000000 in
set_option maxRecDepth 100000 in
theorem law_tail {p : Program} {l : Launch} {e : Env} {s : State} {m : MethodId} {below : List Frame} {meth : Method} {c : Code} {b : Nat} {xs : Nat → Int32} (C0 : lw_At p s m meth c b 4 xs) {o1 o2 : Nat} {H : Heap} {locs : List Loc} (hS : va_S (fun q : Nat => s.heap.size ≤ q) s.heap H locs) {ls : Array Slot} (hl : lv_has ls 4 [(3, .int 0), (2, .ref o2), (1, .ref o1), (0, .ref b)]) : W p l e room_1 s m #[Value.ref b] below meth c H locs 95 16462 (lw_Z below #[Value.ref b] s) (F0 m 676 ls []) := by
  obtain ⟨hx, hb, hr, hml, hown0, hts0, hX, hbl, hlocks, hgv⟩ := C0
  have hown : s.vm.findClass RL = some m.cls := hown0
  have hts : ∀ w ∈ xW, w.before #[Value.ref b] s = true := fun w h => hts0 w (List.mem_filter.mp h).1
  have hA : ∀ q : Nat, s.heap.size ≤ q → (fun q : Nat => s.heap.size ≤ q) q := fun _ h => h
  have hbA : ¬ (fun q : Nat => s.heap.size ≤ q) b := Nat.not_le.mpr hbl
  refine lv_iinc (v := 4) (lv' := [(3, .int 4), (2, .ref o2), (1, .ref o1), (0, .ref b)]) hx hb dL_law_676 hl (k := 0) rfl (by decide) (by decide) rfl (fun ls hl => ?_)
  refine lv_goto (tgt := 18) hx hb dL_law_679 (by decide) ?_
  refine lv_iload_n hx hb dL_law_18 rfl (lv_at hl 0 rfl) ?_
  refine lv_aload_n hx hb dL_law_19 rfl (lv_at hl 3 rfl) ?_
  refine va_slen hx hb hX hbl hbA hS dL_law_20 ?_
  refine lv_topi (fun w38 ew38 => ?_)
  obtain rfl : w38 = (4 : Int32) := ew38.trans (by decide)
  refine lv_iconst (v := 4) hx hb dL_law_21 (by decide) ?_
  refine lv_isub hx hb dL_law_22 ?_
  refine lv_topi (fun w39 ew39 => ?_)
  obtain rfl : w39 = (0 : Int32) := ew39.trans (by decide)
  refine lv_icmp_gt (tgt := 682) hx hb dL_law_23 (by decide) (fun c136 => ?_) (fun c136 => ?_)
  rotate_left
  · exact absurd c136 (by decide)
  refine lv_iconst (v := 1) hx hb dL_law_682 (by decide) ?_
  refine va_forget (fun q hq => hS.2.2 q hq) ?_
  exact lw_ret hx hb hr hlocks dL_law_683

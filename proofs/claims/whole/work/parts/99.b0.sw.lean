theorem wm_539 : Cond.instantiable RX8 16 ∈ xW := xW_at 108 (by decide +kernel) rfl
theorem wm_540 : Cond.instantiable RX9 58 ∈ xW := xW_at 860 (by decide +kernel) rfl
theorem wm_541 : Cond.classLink RL 7 RX8 ∈ xW := xW_at 107 (by decide +kernel) rfl
theorem wm_542 : Cond.code yX8_init cX8_init 1 none ∈ xW := xW_at 111 (by decide +kernel) rfl
theorem wm_543 : Cond.methodLink RL 9 yX8_init ∈ xW := xW_at 109 (by decide +kernel) rfl
theorem wm_544 : Cond.instanceMethod yX8_init ∈ xW := xW_at 110 (by decide +kernel) rfl
theorem wm_545 : Cond.classLink RL 10 RX9 ∈ xW := xW_at 859 (by decide +kernel) rfl
theorem wm_546 : Cond.code yX9_init cX9_init 1 none ∈ xW := xW_at 863 (by decide +kernel) rfl
theorem wm_547 : Cond.methodLink RL 12 yX9_init ∈ xW := xW_at 861 (by decide +kernel) rfl
theorem wm_548 : Cond.instanceMethod yX9_init ∈ xW := xW_at 862 (by decide +kernel) rfl
theorem dL_law_0 : decode cL_law 0 = .ok (.new 7, 3) := by decide +kernel
theorem dL_law_3 : decode cL_law 3 = .ok (.dup, 1) := by decide +kernel
theorem dL_law_4 : decode cL_law 4 = .ok (.invokespecial 9, 3) := by decide +kernel
theorem dL_law_7 : decode cL_law 7 = .ok (.astore_n 1, 1) := by decide +kernel
theorem dL_law_8 : decode cL_law 8 = .ok (.new 10, 3) := by decide +kernel
theorem dL_law_11 : decode cL_law 11 = .ok (.dup, 1) := by decide +kernel
theorem dL_law_12 : decode cL_law 12 = .ok (.invokespecial 12, 3) := by decide +kernel
theorem dL_law_15 : decode cL_law 15 = .ok (.astore_n 2, 1) := by decide +kernel
theorem dL_law_16 : decode cL_law 16 = .ok (.iconst 0, 1) := by decide +kernel
theorem dL_law_17 : decode cL_law 17 = .ok (.istore_n 3, 1) := by decide +kernel
theorem xAC {args : Array Value} {s : State} {ty : FieldType} (h : (Cond.arrayClass ty).before args s = true) (hty : ty = .int ∨ ty = .long ∨ ty = .boolean) : ∃ cA : ClassId, ArrOfT s cA ty ∧ va_RA s cA ty := by
  obtain ⟨cA, kA, comp, h1, h2, h3⟩ := Cond.arrayClass_spec h
  refine ⟨cA, fun n z => ⟨fun k h => (by cases h), kA, h2, comp, h3⟩, ?_⟩
  rcases hty with rfl | rfl | rfl <;> exact h1
theorem xall_in {α : Type} {l : List α} {f : α → Cond} (is : List Nat) (h : l.map (fun q => some (f q)) = is.map (fun i => lw_tbl[i]?)) : ∀ q ∈ l, f q ∈ lw_tbl := fun q hq => by
  have h1 : some (f q) ∈ l.map (fun q => some (f q)) := List.mem_map.mpr ⟨q, hq, rfl⟩
  rw [h] at h1
  obtain ⟨i, -, hi⟩ := List.mem_map.mp h1
  exact List.mem_of_getElem? hi
theorem xnF_in : ∀ q ∈ xnF, Cond.fieldLinkNest q.1 q.2.1 q.2.2.1 q.2.2.2.1 q.2.2.2.2.1 q.2.2.2.2.2 ∈ lw_tbl := xall_in (f := fun (q : String × Nat × String × String × String × String) => Cond.fieldLinkNest q.1 q.2.1 q.2.2.1 q.2.2.2.1 q.2.2.2.2.1 q.2.2.2.2.2) [123, 126, 258, 160, 222, 260, 278, 280, 331, 134, 128, 132, 224, 221, 159, 131, 129, 122, 220, 225] (by decide +kernel)
theorem xnM_in : ∀ q ∈ xnM, Cond.methodLinkNest q.1 q.2.1 q.2.2.1 q.2.2.2 ∈ lw_tbl := xall_in (f := fun (q : String × Nat × MethodName × String) => Cond.methodLinkNest q.1 q.2.1 q.2.2.1 q.2.2.2) [117, 152, 170, 214, 251, 731, 713, 256, 550, 497, 568, 563, 569] (by decide +kernel)

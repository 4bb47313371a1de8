/-! the words of all contracts: array classes, nest links, a start and an end, the rows of a call -/
abbrev xT (cI cJ cZ : ClassId) : List (ClassId × FieldType) := [(cI, .int), (cJ, .long), (cZ, .boolean)]
def xnF : List (String × Nat × String × String × String × String) := [("PlaneTests", 113, "PlaneTests$Graph", "at", "[I", "PlaneTests"), ("PlaneTests", 131, "PlaneTests$Graph", "joined", "[I", "PlaneTests"), ("PlaneTests", 154, "PlaneTests$Faces", "rows", "LPlaneTests$Rows;", "PlaneTests"), ("PlaneTests", 157, "PlaneTests$Rows", "count", "I", "PlaneTests"), ("PlaneTests", 160, "PlaneTests$Filled", "joined", "[I", "PlaneTests"), ("PlaneTests", 172, "PlaneTests$Faces", "faceOf", "[I", "PlaneTests"), ("PlaneTests", 186, "PlaneTests$Drawing", "x", "[I", "PlaneTests"), ("PlaneTests", 189, "PlaneTests$Drawing", "y", "[I", "PlaneTests"), ("PlaneTests", 210, "PlaneTests$Piece", "kept", "[Z", "PlaneTests"), ("PlaneTests", 235, "PlaneTests$Graph", "left", "I", "PlaneTests"), ("PlaneTests", 81, "PlaneTests$Graph", "nodes", "I", "PlaneTests"), ("PlaneTests", 99, "PlaneTests$Graph", "made", "I", "PlaneTests"), ("PlaneTests$Drawing", 53, "PlaneTests$Filled", "nodes", "I", "PlaneTests"), ("PlaneTests$Drawing", 72, "PlaneTests$Filled", "joined", "[I", "PlaneTests"), ("PlaneTests$Faces", 42, "PlaneTests$Rows", "count", "I", "PlaneTests"), ("PlaneTests$Piece", 29, "PlaneTests$Graph", "made", "I", "PlaneTests"), ("PlaneTests$Piece", 37, "PlaneTests$Graph", "nodes", "I", "PlaneTests"), ("PlaneTests$Piece", 52, "PlaneTests$Graph", "at", "[I", "PlaneTests"), ("PlaneTests$Round", 22, "PlaneTests$Filled", "joined", "[I", "PlaneTests"), ("PlaneTests$Round", 41, "PlaneTests$Filled", "nodes", "I", "PlaneTests")]
def xnM : List (String × Nat × MethodName × String) := [("PlaneTests", 11, ⟨"PlaneTests$Graph", "<init>", "()V"⟩, "PlaneTests"), ("PlaneTests", 18, ⟨"PlaneTests$Rows", "<init>", "()V"⟩, "PlaneTests"), ("PlaneTests", 29, ⟨"PlaneTests$PlaneCheck", "<init>", "()V"⟩, "PlaneTests"), ("PlaneTests", 36, ⟨"PlaneTests$Filled", "<init>", "()V"⟩, "PlaneTests"), ("PlaneTests", 55, ⟨"PlaneTests$Faces", "<init>", "()V"⟩, "PlaneTests"), ("PlaneTests$Drawing", 106, ⟨"PlaneTests", "hasBit", "(II)Z"⟩, "PlaneTests"), ("PlaneTests$Drawing", 75, ⟨"PlaneTests", "lowest", "(I)I"⟩, "PlaneTests"), ("PlaneTests$Faces", 11, ⟨"PlaneTests$Rows", "<init>", "()V"⟩, "PlaneTests"), ("PlaneTests$Filled", 34, ⟨"PlaneTests", "hasBit", "(II)Z"⟩, "PlaneTests"), ("PlaneTests$PlaneCheck", 81, ⟨"PlaneTests", "lowest", "(I)I"⟩, "PlaneTests"), ("PlaneTests$Round", 27, ⟨"PlaneTests", "lowest", "(I)I"⟩, "PlaneTests"), ("PlaneTests$Round", 45, ⟨"PlaneTests", "hasBit", "(II)Z"⟩, "PlaneTests"), ("PlaneTests$Round", 63, ⟨"PlaneTests", "reached", "([III)I"⟩, "PlaneTests")]
def xN (U : State) : Prop := (∀ q ∈ xnF, va_Nw (.fieldLinkNest q.1 q.2.1 q.2.2.1 q.2.2.2.1 q.2.2.2.2.1 q.2.2.2.2.2) U) ∧ (∀ q ∈ xnM, va_Nw (.methodLinkNest q.1 q.2.1 q.2.2.1 q.2.2.2) U)
theorem xN.warm {s U : State} (hW : s.WarmedH U.vm) (h : xN s) : xN U := ⟨fun q hq => va_Nw.warmF hW (h.1 q hq), fun q hq => va_Nw.warmM hW (h.2 q hq)⟩
theorem xN.same {u U : State} (h : u.vm = U.vm) (hN : xN u) : xN U := ⟨fun q hq => va_Nw.same rfl h (hN.1 q hq), fun q hq => va_Nw.same rfl h (hN.2 q hq)⟩
abbrev aI (cI : ClassId) (n : Nat) (f : Nat → Int32) : va_E := .inl (cI, n, .inl f)
abbrev aJ (cJ : ClassId) (n : Nat) (f : Nat → Int64) : va_E := .inl (cJ, n, .inr (.inl f))
abbrev xz : Nat → Int32 := fun _ => 0
abbrev xm : Nat → Int32 := fun _ => (-1)
abbrev xzL : Nat → Int64 := fun _ => 0
/-- a contract's start: the world W0 of cells, apart, at a heap of sz cells; the tables' classes; the nest links -/
def xPc (G : va_G) (cI cJ cZ : ClassId) (av : List Value) (W0 : va_W) (sz : Nat) : Array Value → State → Prop := va_Pc av (fun U => U.heap.size = sz ∧ va_P G vwCl W0 U.heap ∧ va_K G vwCl (xT cI cJ cZ) U ∧ va_D (fun _ => True) W0 ∧ xN U)
/-- a contract's end -/
abbrev xB (G : va_G) (A : Nat → Prop) (W1 : va_W) (t : State) : Prop := va_P G vwCl W1 t.heap ∧ va_D A W1
theorem xPc.blind {G : va_G} {cI cJ cZ : ClassId} {av : List Value} {W0 : va_W} {sz : Nat} : FrameBlind (xPc G cI cJ cZ av W0 sz) := fun a U g mk h => ⟨h.1, h.2.1, h.2.2.1, va_K.moved (u := U) (U := U.calling g mk a) (Vm.Alike.refl U.vm) h.2.2.2.1, h.2.2.2.2.1, xN.same (u := U) (U := U.calling g mk a) rfl h.2.2.2.2.2⟩
theorem xPsub {D : va_G} {cl : List vw_C} {ws wc : va_W} {H : Heap} (hP : va_P D cl ws H) (is : List Nat) (hs : is.map (fun i => ws[i]?) = wc.map some) : va_P D cl wc H := by
  intro k q hk
  have h1 : (is.map (fun i => ws[i]?))[k]? = some (some q) := by rw [hs, List.getElem?_map, hk]; rfl
  rw [List.getElem?_map] at h1
  cases hi : is[k]? with
  | none => rw [hi] at h1; cases h1
  | some i => rw [hi] at h1; exact hP i q (Option.some.inj h1)
theorem xPreS {s : State} {H : Heap} {G : va_G} {cI cJ cZ : ClassId} {As : List Value} {ws wc : va_W} {A : Nat → Prop} (hK : va_K G vwCl (xT cI cJ cZ) s) (hN : xN s) (hP : va_P G vwCl ws H) (hD : va_D A ws) (isC : List Nat) (hn : va_nd isC = true) (hC : isC.map (fun i => ws[i]?) = wc.map some) : PreS s H (xPc G cI cJ cZ As wc H.size) As :=
  ⟨xPc.blind, fun U hU hW => ⟨rfl, by rw [hU], by rw [hU]; exact xPsub hP isC hC, va_K.moved hW.alike hK, (hD.sub isC hn hC).weaken (fun _ _ _ _ => trivial), hN.warm hW⟩⟩
theorem xPreV {s : State} {H : Heap} {G : va_G} {cI cJ cZ : ClassId} {As : List Value} {ws wc : va_W} {A : Nat → Prop} {b ci q0 : Nat} {fs : List Value} {q : vw_C} (hK : va_K G vwCl (xT cI cJ cZ) s) (hN : xN s) (hP : va_P G vwCl ws H) (hD : va_D A ws) (isC : List Nat) (hn : va_nd isC = true) (hC : isC.map (fun i => ws[i]?) = wc.map some) (hc : vwCl[ci]? = some q) (he : ws[q0]? = some (b, .inr (ci, fs))) : PreV s H q.1 b (xPc G cI cJ cZ (.ref b :: As) wc H.size) As :=
  ⟨xPc.blind, va_recv hK hP hc he, fun U hU hW => ⟨rfl, by rw [hU], by rw [hU]; exact xPsub hP isC hC, va_K.moved hW.alike hK, (hD.sub isC hn hC).weaken (fun _ _ _ _ => trivial), hN.warm hW⟩⟩
section XC
variable {p : Program} {l : Launch} {e : Env} {R : Room} {s : State} {m : MethodId} {args : Array Value} {below : List Frame} {meth : Method} {c : Code} {H : Heap} {locs : List Loc} {cells slots : Nat} {Q : State → Prop}
variable {pc : Nat} {ls : Array Slot} {rest st0 : List Value} {a : Array Value} {A0 : Nat → Prop} {H0 : Heap} {mc ms : Nat} {G : va_G}
/-- behind a call that answers an int: the rest of the world, then what the callee left -/
theorem xci {S : Type} {post : Int32 → S → Prop} {W1 : S → va_W} {ws wc wr : va_W} (hr : va_Run p l e R s m args below meth c H locs cells slots mc ms (F0 m pc ls st0) rest (va_Qi post (fun u t => xB G (va_A wc H.size) (W1 u) t) (va_A wc H.size) a) (va_A wc H.size)) (hP : va_P G vwCl ws H) (hD : va_D A0 ws) (hS : va_S A0 H0 H locs) (hA : ∀ q, H0.size ≤ q → A0 q) (isC isR : List Nat) (hC : isC.map (fun i => ws[i]?) = wc.map some) (hR : isR.map (fun i => ws[i]?) = wr.map some) (hn : va_nd isR = true) (hdis : ∀ i ∈ isR, i ∉ isC)
    (kk : ∀ (r : Int32) (u : S) (H1 : Heap) (locs1 : List Loc), post r u → va_P G vwCl (wr ++ W1 u) H1 → va_D A0 (wr ++ W1 u) → va_S A0 H0 H1 locs1 → W p l e R s m args below meth c H1 locs1 (cells + mc) (slots + ms) Q (F0 m (pc + 3) ls (.int r :: rest))) : W p l e R s m args below meth c H locs cells slots Q (F0 m pc ls st0) :=
  have hF := va_free hD hS hA isC hC
  va_calli hr hS (fun q _ h => hF q h) hF (fun r u t H1 locs1 ht hvm hw hB hz hk hS1 => by
    obtain ⟨hP1, hD1⟩ := hB
    rw [ht] at hP1
    obtain ⟨hP', hD'⟩ := va_join hP hD isC isR hC hR hn hdis hk hF hP1 hD1
    exact kk r u H1 locs1 hw hP' hD' hS1)
theorem xcv {S : Type} {post : S → Prop} {W1 : S → va_W} {ws wc wr : va_W} (hr : va_Run p l e R s m args below meth c H locs cells slots mc ms (F0 m pc ls st0) rest (va_Qv post (fun u t => xB G (va_A wc H.size) (W1 u) t) (va_A wc H.size) a) (va_A wc H.size)) (hP : va_P G vwCl ws H) (hD : va_D A0 ws) (hS : va_S A0 H0 H locs) (hA : ∀ q, H0.size ≤ q → A0 q) (isC isR : List Nat) (hC : isC.map (fun i => ws[i]?) = wc.map some) (hR : isR.map (fun i => ws[i]?) = wr.map some) (hn : va_nd isR = true) (hdis : ∀ i ∈ isR, i ∉ isC)
    (kk : ∀ (u : S) (H1 : Heap) (locs1 : List Loc), post u → va_P G vwCl (wr ++ W1 u) H1 → va_D A0 (wr ++ W1 u) → va_S A0 H0 H1 locs1 → W p l e R s m args below meth c H1 locs1 (cells + mc) (slots + ms) Q (F0 m (pc + 3) ls rest)) : W p l e R s m args below meth c H locs cells slots Q (F0 m pc ls st0) :=
  have hF := va_free hD hS hA isC hC
  va_callv hr hS (fun q _ h => hF q h) hF (fun u t H1 locs1 ht hvm hw hB hz hk hS1 => by
    obtain ⟨hP1, hD1⟩ := hB
    rw [ht] at hP1
    obtain ⟨hP', hD'⟩ := va_join hP hD isC isR hC hR hn hdis hk hF hP1 hD1
    exact kk u H1 locs1 hw hP' hD' hS1)
end XC
theorem xcellI {cA : ClassId} {n : Nat} {f g : Nat → Int32} (h : ∀ j, j < n → f j = g j) : vp_cell cA (n, .inl f) = vp_cell cA (n, .inl g) := by
  rw [vp_cell_i, vp_cell_i]
  show ({ cls := cA, slots := Array.ofFn (n := n) fun j => Value.int (f j.val), vm := .none } : Cell) = { cls := cA, slots := Array.ofFn (n := n) fun j => Value.int (g j.val), vm := .none }
  congr 1
  congr 1
  funext j
  rw [h j.val j.isLt]
theorem xcellJ {cA : ClassId} {n : Nat} {f g : Nat → Int64} (h : ∀ j, j < n → f j = g j) : vp_cell cA (n, .inr (.inl f)) = vp_cell cA (n, .inr (.inl g)) := by
  rw [vp_cell_l, vp_cell_l]
  show ({ cls := cA, slots := Array.ofFn (n := n) fun j => Value.long (f j.val), vm := .none } : Cell) = { cls := cA, slots := Array.ofFn (n := n) fun j => Value.long (g j.val), vm := .none }
  congr 1
  congr 1
  funext j
  rw [h j.val j.isLt]
/-- an array's picture may be put in other words that agree inside it -/
theorem xPrep {G : va_G} {cl : List vw_C} {ws : va_W} {H : Heap} {A : Nat → Prop} (hP : va_P G cl ws H) (hD : va_D A ws) (q0 : Nat) {a : Nat} {cA : ClassId} {n : Nat} {f : Nat → Int32} (ha : ws[q0]? = some (a, .inl (cA, n, .inl f))) (g : Nat → Int32) (h : ∀ j, j < n → f j = g j) : va_P G cl (ws.set q0 (a, .inl (cA, n, .inl g))) H ∧ va_D A (ws.set q0 (a, .inl (cA, n, .inl g))) := by
  refine ⟨hP.set hD ha ?_ (fun _ _ => rfl), hD.set ha⟩
  show H[a]? = some (vp_cell cA (n, .inl g))
  rw [← xcellI h]
  exact hP q0 _ ha
/-- a row filled with v up to k -/
def xfl (f : Nat → Int32) (v : Int32) (k : Nat) : Nat → Int32 := fun j => if j < k then v else f j
theorem xfl_0 (f : Nat → Int32) (v : Int32) : xfl f v 0 = f := by funext j; simp [xfl]
theorem xfl_s (f : Nat → Int32) (v : Int32) {k : Nat} (hk : k < 2 ^ 31) : upd (xfl f v k) (nI k).toNatClampNeg v = xfl f v (k + 1) := by
  rw [nI_clamp hk]
  funext j
  by_cases h : j = k
  · subst h; simp [upd, xfl]
  · have h2 : (j < k + 1) ↔ (j < k) := by omega
    simp [upd, xfl, h, h2]
theorem xfl_n (f : Nat → Int32) (v : Int32) (n j : Nat) (h : j < n) : xfl f v n j = v := by simp [xfl, h]
theorem xlt {k N : Nat} {M : Int32} (hM : M = nI N) (hk : k < 2 ^ 31) (hN : N < 2 ^ 31) (h : ¬ M ≤ nI k) : k < N := by
  subst hM
  rcases Nat.lt_or_ge k N with q | q
  · exact q
  · exact absurd (nI_le q hk) h
theorem xge {k N : Nat} {M : Int32} (hM : M = nI N) (hk : k < 2 ^ 31) (hN : N < 2 ^ 31) (h : M ≤ nI k) : N ≤ k := by
  subst hM
  exact (nI_leI hN hk).mp h
/-- an int array (a long one, one of booleans) is made: its class is the one of the tables -/
theorem xRA {G : va_G} {cl : List vw_C} {tys : List (ClassId × FieldType)} {s : State} {cA cI : ClassId} {ty : FieldType} {t0 : Nat} (hK : va_K G cl (tys ++ [(cA, ty)]) s) (ht : tys[t0]? = some (cI, ty)) (hty : ty = .int ∨ ty = .long ∨ ty = .boolean) : cA = cI := by
  have h1 := (hK.2 tys.length (cA, ty) (by simp)).2
  have h2 := (hK.2 t0 (cI, ty) (by rw [List.getElem?_append_left (List.getElem?_eq_some_iff.mp ht).1]; exact ht)).2
  rcases hty with rfl | rfl | rfl
  · have e1 : s.vm.findClass _ = some cA := h1
    have e2 : s.vm.findClass _ = some cI := h2
    exact Option.some.inj (e1.symm.trans e2)
  · have e1 : s.vm.findClass _ = some cA := h1
    have e2 : s.vm.findClass _ = some cI := h2
    exact Option.some.inj (e1.symm.trans e2)
  · have e1 : s.vm.findClass _ = some cA := h1
    have e2 : s.vm.findClass _ = some cI := h2
    exact Option.some.inj (e1.symm.trans e2)
theorem xneg {v x : Int32} (h1 : ¬ v < 0) (hx : x = 0) (h2 : ¬ x ≤ v) : False := by
  subst hx
  exact h2 (Int32.not_lt.mp h1)

def xW : List Cond := lw_tbl.filter goodWord
theorem xW_at {w : Cond} (i : Nat) (h : lw_tbl[i]? = some w) (hg : goodWord w = true) : w ∈ xW := List.mem_filter.mpr ⟨List.mem_of_getElem? h, hg⟩
/-- a method's words: its code, and all good words of the tables -/
def xw (y : MethodName) (c : ByteArray) (n : Nat) (r : Option FieldType) : List Cond := .code y c n r :: xW
theorem xgood {y : MethodName} {c : ByteArray} {n : Nat} {r : Option FieldType} (hc : Cond.code y c n r ∈ xW) : GoodIn xW (xw y c n r) := fun w h => by
  have hm : w ∈ xW := by
    rcases List.mem_cons.mp h with h | h
    · rw [h]; exact hc
    · exact h
  exact ⟨hm, good_of_word (List.mem_filter.mp hm).2⟩
theorem xgood1 {w : Cond} (hm : w ∈ xW) : w ∈ xW ∧ ((w.onTables && w.keeps) = true ∨ ∃ ty, w = .arrayClass ty) := ⟨hm, good_of_word (List.mem_filter.mp hm).2⟩
theorem xgoodV {own C : String} {i : Nat} {y : MethodName} {c : ByteArray} {n : Nat} {r : Option FieldType} (hc : Cond.code y c n r ∈ xW) (h1 : Cond.methodLink own i y ∈ xW) (h2 : Cond.instanceMethod y ∈ xW) (h3 : Cond.selects C y y ∈ xW) (h4 : Cond.initialized C ∈ xW) : GoodIn xW (wsV own i C y (xw y c n r)) := fun w h => by
  rcases List.mem_append.mp h with h | h
  · simp only [List.mem_cons, List.not_mem_nil, or_false] at h
    rcases h with h | h | h | h <;> rw [h]
    · exact xgood1 h1
    · exact xgood1 h2
    · exact xgood1 h3
    · exact xgood1 h4
  · exact xgood hc w h
theorem xgoodS {own : String} {i : Nat} {y : MethodName} {c : ByteArray} {n : Nat} {r : Option FieldType} (hc : Cond.code y c n r ∈ xW) (h1 : Cond.methodLink own i y ∈ xW) (h2 : Cond.static y ∈ xW) (h3 : Cond.initialized y.cls ∈ xW) : GoodIn xW (va_wsS own i y (xw y c n r)) := fun w h => by
  rcases List.mem_append.mp h with h | h
  · simp only [List.mem_cons, List.not_mem_nil, or_false] at h
    rcases h with h | h | h <;> rw [h]
    · exact xgood1 h1
    · exact xgood1 h2
    · exact xgood1 h3
  · exact xgood hc w h
theorem xin_of {C : String} {T : u_T} {N : Nat} (is : List Nat) (h : ∀ k, k < N → lw_tbl[is.getD k 0]? = some (u_lay C T k) ∧ goodWord (u_lay C T k) = true) : ∀ w ∈ u_ws C T N, w ∈ xW := fun w hw => by
  obtain ⟨k, hk, rfl⟩ := List.mem_map.mp hw
  obtain ⟨h1, h2⟩ := h k (List.mem_range.mp hk)
  exact xW_at _ h1 h2
theorem xgen {G : va_G} {cl : List vw_C} {ws : va_W} {A : Nat → Prop} {H0 H1 : Heap} {locs1 : List Loc} {Pp : Heap → List Loc → Prop} (h : ∀ (H : Heap) (locs : List Loc), va_P G cl ws H → va_D A ws → va_S A H0 H locs → Pp H locs) (hP : va_P G cl ws H1) (hD : va_D A ws) (hS : va_S A H0 H1 locs1) : Pp H1 locs1 := h _ _ hP hD hS
theorem xinX0 : ∀ w ∈ u_ws RX0 TX0 15, w ∈ xW := xin_of [292, 294, 296, 298, 300, 302, 304, 306, 308, 310, 312, 314, 316, 318, 320] (by decide +kernel)
theorem xinX1 : ∀ w ∈ u_ws RX1 TX1 3, w ∈ xW := xin_of [262, 264, 266] (by decide +kernel)
theorem xinX2 : ∀ w ∈ u_ws RX2 TX2 3, w ∈ xW := xin_of [226, 228, 230] (by decide +kernel)
theorem xinX3 : ∀ w ∈ u_ws RX3 TX3 6, w ∈ xW := xin_of [135, 137, 139, 141, 143, 145] (by decide +kernel)
theorem xinX4 : ∀ w ∈ u_ws RX4 TX4 3, w ∈ xW := xin_of [333, 335, 337] (by decide +kernel)
theorem xinX5 : ∀ w ∈ u_ws RX5 TX5 12, w ∈ xW := xin_of [186, 188, 190, 192, 194, 196, 198, 200, 202, 204, 206, 208] (by decide +kernel)
theorem xinX6 : ∀ w ∈ u_ws RX6 TX6 3, w ∈ xW := xin_of [242, 244, 246] (by decide +kernel)
theorem xinX7 : ∀ w ∈ u_ws RX7 TX7 3, w ∈ xW := xin_of [161, 163, 165] (by decide +kernel)
theorem xinX8 : ∀ w ∈ u_ws RX8 TX8 16, w ∈ xW := xin_of [356, 358, 360, 362, 364, 366, 368, 370, 372, 374, 376, 378, 380, 382, 384, 386] (by decide +kernel)
theorem xinX9 : ∀ w ∈ u_ws RX9 TX9 58, w ∈ xW := xin_of [923, 925, 927, 929, 931, 933, 935, 937, 939, 941, 943, 945, 947, 949, 951, 953, 955, 957, 959, 961, 963, 965, 967, 969, 971, 973, 975, 977, 979, 981, 983, 985, 987, 989, 991, 993, 995, 997, 999, 1001, 1003, 1005, 1007, 1009, 1011, 1013, 1015, 1017, 1019, 1021, 1023, 1025, 1027, 1029, 1031, 1033, 1035, 1037] (by decide +kernel)

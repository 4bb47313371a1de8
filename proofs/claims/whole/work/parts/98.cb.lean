
-- a hub that is joined to all
def yHub (N : Nat) (g : Nat → Nat → Bool) (v w : Nat) : Bool := g v w || decide ((v < N ∧ w = N) ∨ (v = N ∧ w < N))

theorem yHub_sg {N : Nat} {g : Nat → Nat → Bool} (h : ySg N g) : ySg (N+1) (yHub N g) := by
  constructor
  · intro v w hh
    unfold yHub at hh
    rw [Bool.or_eq_true, decide_eq_true_eq] at hh
    rcases hh with q | q
    · have := h.1 v w q; omega
    · omega
  · intro v w
    unfold yHub
    rw [h.2 v w]
    congr 1
    rw [decide_eq_decide]; omega

noncomputable def yAOuter (N M : Nat) (F T : Nat → Nat) (al : Nat → Bool) : Int32 := yIf (yPln (N+1) (yHub N (yGk M F T al))) 1 0

-- where an end stands
noncomputable def yPsn (rs : Nat → Nat) (rw : Nat → Nat → Nat) (v e : Nat) : Nat := Classical.epsilon (fun i => i < rs v ∧ rw v i = e)
def yAp1 (rs : Nat → Nat) (v : Nat) : Nat → Nat := fun u => if u = v then rs v + 1 else rs u
def yAp2 (rs : Nat → Nat) (rw : Nat → Nat → Nat) (v e : Nat) : Nat → Nat → Nat := fun u i => if u = v ∧ i = rs v then e else rw u i
def yRm1 (rs : Nat → Nat) (v : Nat) : Nat → Nat := fun u => if u = v then rs v - 1 else rs u
noncomputable def yRm2 (rs : Nat → Nat) (rw : Nat → Nat → Nat) (v e : Nat) : Nat → Nat → Nat := fun u i => if u = v ∧ yPsn rs rw v e ≤ i then rw u (i+1) else rw u i
def yExc (rw : Nat → Nat → Nat) (v i j : Nat) : Nat → Nat → Nat := fun u k => if u = v ∧ k = j then rw v i else if u = v ∧ k = i then rw v j else rw u k
def ySet {α : Type} (f : Nat → α) (k : Nat) (x : α) : Nat → α := fun j => if j = k then x else f j

theorem yPsn_spec {N : Nat} {nd : Nat → Nat} {L : Nat → Prop} {rs : Nat → Nat} {rw' : Nat → Nat → Nat} (h : yEr N nd L rs rw') {e : Nat} (he : L e) : yPsn rs rw' (nd e) e < rs (nd e) ∧ rw' (nd e) (yPsn rs rw' (nd e) e) = e := by
  obtain ⟨_, _, i, a3, a4⟩ := h.2.2 e he
  exact Classical.epsilon_spec (p := fun i => i < rs (nd e) ∧ rw' (nd e) i = e) ⟨i, a3, a4⟩

section
variable {N M : Nat} {F T : Nat → Nat} {al : Nat → Bool} {rs : Nat → Nat} {rw' : Nat → Nat → Nat}
variable {t0 t1 t2 t7 t10 t11 t12 t13 t14 t15 t16 t17 t18 t19 t20 t21 t22 t23 t24 t25 t26 t27 t28 t29 t30 t31 t32 t33 t34 t35 t36 t37 t38 t39 t40 t41 t42 t43 t44 t45 t46 t47 t48 t49 t50 t51 t52 t53 t54 t55 t56 t57 t58 t59 t60 t61 t62 t63 t64 t65 t66 t67 t68 t69 t70 t71 t72 t73 t74 t75 t76 t77 t78 t79 t80 : Nat → Int32} {t3 t4 t5 t6 t8 t9 : Nat → Int64} {t81 t82 t83 t84 t85 t86 t87 t88 t89 t90 t91 t92 t93 t94 t95 t96 t97 t98 t99 t100 t101 t102 t103 t104 t105 t106 t107 t108 t109 t110 t111 t112 t113 t114 t115 t116 t117 : Int32}


-- an arc more
theorem yAbs_arc (h : yAbs N M F T al rs rw') (hM : M < 80) {a b : Nat} (ha : a < N) (hb : b < N) :
    yEr N (yNd (ySet F M a) (ySet T M b)) (fun e => yLv M al e = true) rs rw' ∧ yEr N (yNd (ySet F M a) (ySet T M b)) (fun e => e = 2*M ∨ yLv M al e = true) (yAp1 rs a) (yAp2 rs rw' a (2*M)) ∧
    yAbs N (M+1) (ySet F M a) (ySet T M b) (ySet al M true) (yAp1 (yAp1 rs a) b) (yAp2 (yAp1 rs a) (yAp2 rs rw' a (2*M)) b (2*M+1)) := by
  obtain ⟨hN, hM', hF, hE⟩ := h
  have n1 : yNd (ySet F M a) (ySet T M b) (2*M) = a := by unfold yNd ySet; rw [if_pos (by omega), if_pos (by omega)]
  have n2 : yNd (ySet F M a) (ySet T M b) (2*M+1) = b := by unfold yNd ySet; rw [if_neg (by omega), if_pos (by omega)]
  have h0 : yEr N (yNd (ySet F M a) (ySet T M b)) (fun e => yLv M al e = true) rs rw' := by
    refine yEr_congr hE (fun e => Iff.rfl) (fun e he => ?_)
    have := (yLv_iff.1 he).1
    unfold yNd ySet
    split <;> rw [if_neg (by omega)]
  have h1 := yEr_app (e := 2*M) (v := a) h0 (fun hh => by have := (yLv_iff.1 hh).1; omega) n1 ha (by omega)
  have h2 := yEr_app (e := 2*M+1) (v := b) h1 (fun hh => by
    rcases hh with q | q
    · omega
    · have := (yLv_iff.1 q).1; omega) n2 hb (by omega)
  refine ⟨h0, h1, hN, by omega, fun k hk => ?_, yEr_congr h2 (fun e => ?_) (fun e _ => rfl)⟩
  · unfold ySet
    by_cases q : k = M
    · rw [if_pos q, if_pos q]; exact ⟨ha, hb⟩
    · rw [if_neg q, if_neg q]; exact hF k (by omega)
  · rw [yLv_iff, yLv_iff]
    unfold ySet
    by_cases q : e/2 = M
    · rw [if_pos q]
      constructor
      · intro _; exact ⟨by omega, rfl⟩
      · intro _; omega
    · rw [if_neg q]
      constructor
      · rintro (r | r | r)
        · omega
        · omega
        · exact ⟨by omega, r.2⟩
      · rintro ⟨r1, r2⟩; exact Or.inr (Or.inr ⟨by omega, r2⟩)

-- an arc less
theorem yAbs_cut (h : yAbs N M F T al rs rw') {k : Nat} (hk : k < M) (hak : al k = true) :
    (yPsn rs rw' (F k) (2*k) < rs (F k) ∧ rw' (F k) (yPsn rs rw' (F k) (2*k)) = 2*k) ∧
    yEr N (yNd F T) (fun x => yLv M al x = true ∧ x ≠ 2*k) (yRm1 rs (F k)) (yRm2 rs rw' (F k) (2*k)) ∧
    (yPsn (yRm1 rs (F k)) (yRm2 rs rw' (F k) (2*k)) (T k) (2*k+1) < yRm1 rs (F k) (T k) ∧ yRm2 rs rw' (F k) (2*k) (T k) (yPsn (yRm1 rs (F k)) (yRm2 rs rw' (F k) (2*k)) (T k) (2*k+1)) = 2*k+1) ∧
    yAbs N M F T (ySet al k false) (yRm1 (yRm1 rs (F k)) (T k)) (yRm2 (yRm1 rs (F k)) (yRm2 rs rw' (F k) (2*k)) (T k) (2*k+1)) := by
  obtain ⟨hN, hM', hF, hE⟩ := h
  have n1 : yNd F T (2*k) = F k := by unfold yNd; rw [if_pos (by omega), show 2*k/2 = k by omega]
  have n2 : yNd F T (2*k+1) = T k := by unfold yNd; rw [if_neg (by omega), show (2*k+1)/2 = k by omega]
  have l1 : yLv M al (2*k) = true := yLv_iff.2 ⟨by omega, by rw [show 2*k/2 = k by omega]; exact hak⟩
  have l2 : yLv M al (2*k+1) = true := yLv_iff.2 ⟨by omega, by rw [show (2*k+1)/2 = k by omega]; exact hak⟩
  have p1 := yPsn_spec hE l1
  rw [n1] at p1
  have hb := hF k hk
  have h1 := yEr_rem hE hb.1 p1.1
  rw [p1.2] at h1
  have h1' : yEr N (yNd F T) (fun x => yLv M al x = true ∧ x ≠ 2*k) (yRm1 rs (F k)) (yRm2 rs rw' (F k) (2*k)) := h1
  have p2 := yPsn_spec h1' (e := 2*k+1) ⟨l2, by omega⟩
  rw [n2] at p2
  have h2 := yEr_rem h1' hb.2 p2.1
  rw [p2.2] at h2
  refine ⟨p1, h1', p2, hN, hM', hF, yEr_congr (show yEr N (yNd F T) (fun x => (yLv M al x = true ∧ x ≠ 2*k) ∧ x ≠ 2*k+1) (yRm1 (yRm1 rs (F k)) (T k)) (yRm2 (yRm1 rs (F k)) (yRm2 rs rw' (F k) (2*k)) (T k) (2*k+1)) from h2) (fun e => ?_) (fun e _ => rfl)⟩
  rw [yLv_iff, yLv_iff]
  unfold ySet
  by_cases q : e/2 = k
  · rw [if_pos q]
    constructor
    · rintro ⟨⟨_, r1⟩, r2⟩; omega
    · rintro ⟨_, r⟩; cases r
  · rw [if_neg q]
    constructor
    · rintro ⟨⟨r, _⟩, _⟩; exact r
    · intro r; exact ⟨⟨r, by omega⟩, by omega⟩

theorem yNb_set (h : ∀ k, k < M → True) (x : Bool) : yNb M (ySet al M x) = yNb M al := by
  apply yNb_congr
  intro i hi
  unfold ySet; rw [if_neg (by omega)]

theorem yNb_cut {m k : Nat} {p : Nat → Bool} (hk : k < m) (hp : p k = true) : yNb m (ySet p k false) + 1 = yNb m p := by
  induction m with
  | zero => omega
  | succ m ih =>
    by_cases q : k = m
    · subst q
      have e1 : ySet p k false k = false := by unfold ySet; rw [if_pos rfl]
      rw [yNb_f e1, yNb_t hp, yNb_set (fun _ _ => trivial)]
    · have e1 : ySet p k false m = p m := by unfold ySet; rw [if_neg (by omega)]
      have := ih (by omega)
      simp only [yNb]
      rw [e1]; omega

theorem c_outer (h : yCS N M F T al rs rw' t81 t82 t83 t84 t85 t104 t105 t106 t0 t10 t17 t111 t38 t35 t107 t11 t12 t14 t108 t16 t15 t20 t109 t19 t18 t23 t26 t27 t36 t37) (K : Int32 → ((Nat → Int32) × Int32 × Int32 × (Nat → Int64) × (Nat → Int32) × (Nat → Int32) × (Nat → Int64) × (Nat → Int64) × (Nat → Int32) × (Nat → Int64) × (Nat → Int32) × (Nat → Int64) × (Nat → Int64)) → Prop)
    (hK : ∀ (n39 : Nat → Int32) (n116 : Int32) (n117 : Int32) (n5 : Nat → Int64) (n40 : Nat → Int32) (n2 : Nat → Int32) (n3 : Nat → Int64) (n4 : Nat → Int64) (n1 : Nat → Int32) (n6 : Nat → Int64) (n7 : Nat → Int32) (n8 : Nat → Int64) (n9 : Nat → Int64), yCS N M F T al rs rw' t81 t82 t83 t84 t85 t104 t105 t106 t0 t10 t17 t111 t38 t35 t107 t11 t12 t14 t108 t16 t15 t20 t109 t19 t18 t23 t26 t27 t36 t37 → K (yAOuter N M F T al) (n39, n116, n117, n5, n40, n2, n3, n4, n1, n6, n7, n8, n9))
    : wX8_outer t81 t82 t83 t84 t85 t104 t105 t106 t39 t116 t117 t5 t40 t2 t3 t4 t1 t6 t7 t8 t9 t17 K := by
  obtain ⟨⟨hN, hM, hF, hE⟩, hg, ht, hp, hf, hu, ho, hd, he⟩ := h
  have e104 := hg.1
  have e105 := hg.2.1
  have e106 := hg.2.2.1
  have e111 := ht.1
  subst e104 e105 e106 e111
  have hsg := yGk_sg (c := al) hF
  have hjv : ∀ v w, v < 20 → yGk M F T al v w = yM (t17 v) w := fun v w hv => by rw [← hg.2.2.2.2.2]; unfold yGm; rw [decide_eq_true hv, Bool.true_and]
  unfold yAOuter at hK
  have e1 : Int32.ofNat N + 1 = Int32.ofNat (N+1) := yn_add N 1
  have key : ∀ d v t, N - v = d → v ≤ N → (∀ u w, u < v → w < 32 → yM (t u) w = yHub N (yGk M F T al) u w) → (∀ w, w < 32 → yM (t N) w = decide (w < N)) → wLX8_outer_21 (Int32.ofNat N) t116 t117 t5 t40 t2 t3 t4 t1 t6 t7 t8 t9 t17 K (d+1) t (Int32.ofNat v) := by
    intro d
    induction d with
    | zero =>
      intro v t hd' hv h1 h2
      have : v = N := by omega
      subst this
      have hgm : yGm (v+1) t = yHub v (yGk M F T al) := by
        funext a b
        unfold yGm
        by_cases ha : a < v + 1
        · rw [decide_eq_true ha, Bool.true_and]
          by_cases hb : b < 32
          · by_cases hav : a = v
            · rw [hav, h2 b hb]
              unfold yHub
              have : yGk M F T al v b = false := by
                cases q : yGk M F T al v b with
                | false => rfl
                | true => have := (hsg.1 v b q).1; omega
              rw [this, Bool.false_or, decide_eq_decide]; omega
            · exact h1 a b (by omega) hb
          · rw [yM_big _ _ (by omega)]
            symm
            cases q : yHub v (yGk M F T al) a b with
            | false => rfl
            | true => have := ((yHub_sg hsg).1 a b q).2.1; omega
        · rw [decide_eq_false ha, Bool.false_and]
          symm
          cases q : yHub v (yGk M F T al) a b with
          | false => rfl
          | true => have := ((yHub_sg hsg).1 a b q).1; omega
      have hsh := yHub_sg hsg
      unfold wLX8_outer_21
      rw [e1]
      refine ⟨fun _ => ?_, fun hh => ?_⟩
      · refine (w_accepts (n := v+1) (by omega) t (by rw [hgm]; exact hsh.1) (by rw [hgm]; exact hsh.2) _ _ _ _ _ _ _ _ _ _ _ _ _ (fun q u => ⟨fun z => absurd z (by decide), fun _ => ?_⟩) (fun q u => ⟨fun _ => ?_, fun z => absurd rfl z⟩)).2
        · rw [hgm] at q
          rw [yIf_pos q] at hK
          exact hK _ _ _ _ _ _ _ _ _ _ _ _ _ ⟨⟨hN, hM, hF, hE⟩, hg, ht, hp, hf, hu, ho, hd, he⟩
        · rw [hgm] at q
          rw [yIf_neg q] at hK
          exact hK _ _ _ _ _ _ _ _ _ _ _ _ _ ⟨⟨hN, hM, hF, hE⟩, hg, ht, hp, hf, hu, ho, hd, he⟩
      · exfalso; apply hh; rw [yn_le (by omega) (by omega)]; omega
    | succ d ih =>
      intro v t hd' hv h1 h2
      have ev : Int32.ofNat v + 1 = Int32.ofNat (v+1) := yn_add v 1
      unfold wLX8_outer_21
      rw [ev, yn_nat (by omega)]
      refine ⟨fun hh => ?_, fun _ => ⟨yn_in (by omega) (by omega), yn_in (by omega) (by omega), fun g hg' => ih (v+1) g (by omega) (by omega) (fun u w hu' hw => ?_) (fun w hw => ?_)⟩⟩
      · exfalso; rw [yn_le (by omega) (by omega)] at hh; omega
      · rw [hg']
        by_cases c : u = v
        · rw [c, yupd_same, yM_or, yM_shl (by omega) w hw, ← hjv v w (by omega)]
          unfold yHub
          congr 1
          rw [decide_eq_decide]; omega
        · rw [yupd_ne _ _ _ _ c]; exact h1 u w (by omega) hw
      · rw [hg', yupd_ne _ _ _ _ (by omega)]; exact h2 w hw
  unfold wX8_outer
  rw [yn_nat (by omega)]
  refine ⟨yn_in (by omega) (by omega), fun g hg' => ⟨_, key (N-0) 0 g rfl (by omega) (fun u w hu' => absurd hu' (Nat.not_lt_zero _)) (fun w hw => ?_)⟩⟩
  rw [hg', yupd_same]; exact yM_all hN w hw

theorem c_node (h : yCS N M F T al rs rw' t81 t82 t83 t84 t85 t104 t105 t106 t0 t10 t17 t111 t38 t35 t107 t11 t12 t14 t108 t16 t15 t20 t109 t19 t18 t23 t26 t27 t36 t37) (K : Int32 → (Int32 × Int32 × Int32 × Int32 × Int32 × Int32 × (Nat → Int32)) → Prop)
    (hK1 : N < 20 → ∀ (n81 : Int32) (n83 : Int32) (n84 : Int32) (n85 : Int32) (n104 : Int32) (n111 : Int32) (n38 : Nat → Int32), yCS (N+1) M F T al (fun v => if v = N then 0 else rs v) rw' n81 t82 n83 n84 n85 n104 t105 t106 t0 t10 t17 n111 n38 t35 t107 t11 t12 t14 t108 t16 t15 t20 t109 t19 t18 t23 t26 t27 t36 t37 → K (Int32.ofNat N) (n81, n83, n84, n85, n104, n111, n38))
    (hK0 : ¬ N < 20 → ∀ (n81 : Int32) (n83 : Int32) (n84 : Int32) (n85 : Int32) (n104 : Int32) (n111 : Int32) (n38 : Nat → Int32), yCS N M F T al rs rw' n81 t82 n83 n84 n85 n104 t105 t106 t0 t10 t17 n111 n38 t35 t107 t11 t12 t14 t108 t16 t15 t20 t109 t19 t18 t23 t26 t27 t36 t37 → K (-4) (n81, n83, n84, n85, n104, n111, n38))
    : wX8_node t81 t82 t83 t84 t85 t104 t105 t106 t111 t38 K := by
  obtain ⟨⟨hN, hM, hF, hE⟩, hg, ht, hp, hf, hu, ho, hd, he⟩ := h
  have e104 := hg.1
  have e105 := hg.2.1
  have e106 := hg.2.2.1
  have e111 := ht.1
  subst e104 e105 e106 e111
  have e20 : (20 : Int32) = Int32.ofNat 20 := rfl
  have e1 : Int32.ofNat N + 1 = Int32.ofNat (N+1) := yn_add N 1
  unfold wX8_node wX8_forget
  rw [e20, yn_lt (by omega) (by omega)]
  refine ⟨fun c => w7_open ht.2 (by omega) _ (fun st' h' => ?_), fun c => hK0 c _ _ _ _ _ _ _ ⟨⟨hN, hM, hF, hE⟩, hg, ht, hp, hf, hu, ho, hd, he⟩⟩
  unfold wX3_addNode
  intro v7 h7
  rw [h7, e1, yn_one]
  refine hK1 c _ _ _ _ _ _ _ ⟨⟨by omega, hM, fun k hk => by have := hF k hk; omega, yEr_node hE⟩, ⟨rfl, rfl, rfl, hg.2.2.2.1, hg.2.2.2.2.1, hg.2.2.2.2.2⟩, ⟨rfl, h'⟩, fun z => absurd rfl z, hf, ⟨hu.1, hu.2.1, fun z => absurd rfl z⟩, ho, fun z => absurd rfl z, fun z => absurd rfl z⟩

theorem c_arc (h : yCS N M F T al rs rw' t81 t82 t83 t84 t85 t104 t105 t106 t0 t10 t17 t111 t38 t35 t107 t11 t12 t14 t108 t16 t15 t20 t109 t19 t18 t23 t26 t27 t36 t37) (p0 p1 : Int32) (K : Int32 → (Int32 × Int32 × Int32 × Int32 × Int32 × Int32 × (Nat → Int32) × (Nat → Int32) × (Nat → Int32) × (Nat → Int32) × (Nat → Int32)) → Prop)
    (hK1 : ∀ a b, a < N → b < N → p0 = Int32.ofNat a → p1 = Int32.ofNat b → M < 80 → ∀ (n81 : Int32) (n83 : Int32) (n84 : Int32) (n85 : Int32) (n105 : Int32) (n106 : Int32) (n0 : Nat → Int32) (n10 : Nat → Int32) (n17 : Nat → Int32) (n38 : Nat → Int32) (n35 : Nat → Int32), yCS N (M+1) (ySet F M a) (ySet T M b) (ySet al M true) (yAp1 (yAp1 rs a) b) (yAp2 (yAp1 rs a) (yAp2 rs rw' a (2*M)) b (2*M+1)) n81 t82 n83 n84 n85 t104 n105 n106 n0 n10 n17 t111 n38 n35 t107 t11 t12 t14 t108 t16 t15 t20 t109 t19 t18 t23 t26 t27 t36 t37 → K (Int32.ofNat M) (n81, n83, n84, n85, n105, n106, n0, n10, n17, n38, n35))
    (hK2 : yHn N p0 → yHn N p1 → ¬ M < 80 → ∀ (n81 : Int32) (n83 : Int32) (n84 : Int32) (n85 : Int32) (n105 : Int32) (n106 : Int32) (n0 : Nat → Int32) (n10 : Nat → Int32) (n17 : Nat → Int32) (n38 : Nat → Int32) (n35 : Nat → Int32), yCS N M F T al rs rw' n81 t82 n83 n84 n85 t104 n105 n106 n0 n10 n17 t111 n38 n35 t107 t11 t12 t14 t108 t16 t15 t20 t109 t19 t18 t23 t26 t27 t36 t37 → K (-4) (n81, n83, n84, n85, n105, n106, n0, n10, n17, n38, n35))
    (hK3 : ¬ (yHn N p0 ∧ yHn N p1) → ∀ (n81 : Int32) (n83 : Int32) (n84 : Int32) (n85 : Int32) (n105 : Int32) (n106 : Int32) (n0 : Nat → Int32) (n10 : Nat → Int32) (n17 : Nat → Int32) (n38 : Nat → Int32) (n35 : Nat → Int32), yCS N M F T al rs rw' n81 t82 n83 n84 n85 t104 n105 n106 n0 n10 n17 t111 n38 n35 t107 t11 t12 t14 t108 t16 t15 t20 t109 t19 t18 t23 t26 t27 t36 t37 → K (-1) (n81, n83, n84, n85, n105, n106, n0, n10, n17, n38, n35))
    : wX8_arc t81 t82 t83 t84 t85 t104 t105 t106 t0 t10 t17 t111 t38 t35 p0 p1 K := by
  obtain ⟨⟨hN, hM, hF, hE⟩, hg, ht, hp, hf, hu, ho, hd, he⟩ := h
  have e104 := hg.1
  have e105 := hg.2.1
  have e106 := hg.2.2.1
  have e111 := ht.1
  subst e104 e105 e106 e111
  have e80 : (80 : Int32) = Int32.ofNat 80 := rfl
  have e1 : Int32.ofNat M + 1 = Int32.ofNat (M+1) := yn_add M 1
  have e2 : Int32.ofNat (yNb M al) + 1 = Int32.ofNat (yNb M al + 1) := yn_add _ 1
  unfold wX8_arc wX8_forget
  refine w3_hasNode (by omega) _ _ _ _ (fun a ha ea => ⟨fun z => absurd z (by decide), fun _ => ?_⟩) (fun hno => ⟨fun _ => hK3 (fun hh => hno hh.1) _ _ _ _ _ _ _ _ _ _ _ ⟨⟨hN, hM, hF, hE⟩, hg, ht, hp, hf, hu, ho, hd, he⟩, fun z => absurd rfl z⟩)
  refine w3_hasNode (by omega) _ _ _ _ (fun b hb eb => ⟨fun _ => ?_, fun z => absurd z (by decide)⟩) (fun hno => ⟨fun z => absurd rfl z, fun _ => hK3 (fun hh => hno hh.2) _ _ _ _ _ _ _ _ _ _ _ ⟨⟨hN, hM, hF, hE⟩, hg, ht, hp, hf, hu, ho, hd, he⟩⟩)
  rw [e80, yn_lt (by omega) (by omega)]
  refine ⟨fun c => ?_, fun c => hK2 ⟨a, ha, ea⟩ ⟨b, hb, eb⟩ c _ _ _ _ _ _ _ _ _ _ _ ⟨⟨hN, hM, hF, hE⟩, hg, ht, hp, hf, hu, ho, hd, he⟩⟩
  obtain ⟨E0, E1, E2⟩ := yAbs_arc ⟨hN, hM, hF, hE⟩ c ha hb
  obtain ⟨_, _, _, hA, hB, hj⟩ := id hg
  unfold wX3_addArc
  rw [yn_21', yn_2, yn_nat (by omega), yn_nat (by omega), yn_nat (by omega), ynar1, e1, e2]
  refine ⟨yn_in (by omega) (by omega), fun g11 h11 => ⟨yn_in (by omega) (by omega), fun g25 h25 => ⟨yn_in (by omega) (by omega), fun g35 h35 v43 h43 v53 h53 => ?_⟩⟩⟩
  have hA' : yAt (M+1) (ySet F M a) (ySet T M b) g25 := by
    intro k hk
    rw [h25, h11]
    unfold ySet
    by_cases q : k = M
    · subst q
      rw [if_pos rfl, if_pos rfl, yupd_same, yupd_ne _ _ _ _ (by omega), yupd_same]
      exact ⟨ea, eb⟩
    · rw [if_neg q, if_neg q, yupd_ne _ _ _ _ (by omega), yupd_ne _ _ _ _ (by omega), yupd_ne _ _ _ _ (by omega), yupd_ne _ _ _ _ (by omega)]
      exact hA k (by omega)
  have hB' : yBo (M+1) (ySet al M true) g35 := by
    intro k hk
    rw [h35]
    unfold ySet
    by_cases q : k = M
    · rw [q, yupd_same]; simp
    · rw [yupd_ne _ _ _ _ q, if_neg q]; exact hB k (by omega)
  rw [h43, h53]
  refine w3_findNeighbours (M := M+1) (n := N) hA' (by omega) hN (fun k hk => E2.2.2.1 k hk) hB' t17 _ _ _ (fun t hgt => ?_)
  rw [yn_one]
  have hr1 : yS N rs < 160 := by
    have := yEr_sum E1 (B := 160) (fun e he' => (E1.2.2 e he').1)
    have h2 := yS_inc N a rs ha
    have h3 : yS N (yAp1 rs a) = yS N rs + 1 := h2
    omega
  have hr2 : yS N (yAp1 rs a) < 160 := by
    have := yEr_sum E2.2.2.2 (B := 160) (fun e he' => (E2.2.2.2.2.2 e he').1)
    have h2 : yS N (yAp1 (yAp1 rs a) b) = yS N (yAp1 rs a) + 1 := yS_inc N b (yAp1 rs a) hb
    omega
  dsimp only
  rw [ea, eb, yn_21', yn_2]
  refine w7_append ht.2 ha (by omega) hr1 _ (fun st1 en1 h1 => w7_append (rs := yAp1 rs a) (rw' := yAp2 rs rw' a (2*M)) h1 hb (by omega) hr2 _ (fun st2 en2 h2 => ?_))
  have hnb : yNb (M+1) (ySet al M true) = yNb M al + 1 := by
    rw [yNb_t (by unfold ySet; rw [if_pos rfl]), yNb_set (fun _ _ => trivial)]
  refine hK1 a b ha hb ea eb c _ _ _ _ _ _ _ _ _ _ _ ⟨E2, ⟨rfl, rfl, by rw [hnb], hA', hB', hgt⟩, ⟨rfl, h2⟩, fun z => absurd rfl z, hf, ⟨hu.1, hu.2.1, fun z => absurd rfl z⟩, ho, fun z => absurd rfl z, fun z => absurd rfl z⟩

theorem c_cut (h : yCS N M F T al rs rw' t81 t82 t83 t84 t85 t104 t105 t106 t0 t10 t17 t111 t38 t35 t107 t11 t12 t14 t108 t16 t15 t20 t109 t19 t18 t23 t26 t27 t36 t37) (p0 : Int32) (K : Int32 → (Int32 × Int32 × Int32 × Int32 × Int32 × (Nat → Int32) × (Nat → Int32) × (Nat → Int32) × (Nat → Int32)) → Prop)
    (hK1 : ∀ k, k < M → al k = true → p0 = Int32.ofNat k → ∀ (n81 : Int32) (n83 : Int32) (n84 : Int32) (n85 : Int32) (n106 : Int32) (n10 : Nat → Int32) (n38 : Nat → Int32) (n35 : Nat → Int32) (n17 : Nat → Int32), yCS N M F T (ySet al k false) (yRm1 (yRm1 rs (F k)) (T k)) (yRm2 (yRm1 rs (F k)) (yRm2 rs rw' (F k) (2*k)) (T k) (2*k+1)) n81 t82 n83 n84 n85 t104 t105 n106 t0 n10 n17 t111 n38 n35 t107 t11 t12 t14 t108 t16 t15 t20 t109 t19 t18 t23 t26 t27 t36 t37 → K (Int32.ofNat (yNb M (ySet al k false))) (n81, n83, n84, n85, n106, n10, n38, n35, n17))
    (hK0 : ¬ yHa M al p0 → ∀ (n81 : Int32) (n83 : Int32) (n84 : Int32) (n85 : Int32) (n106 : Int32) (n10 : Nat → Int32) (n38 : Nat → Int32) (n35 : Nat → Int32) (n17 : Nat → Int32), yCS N M F T al rs rw' n81 t82 n83 n84 n85 t104 t105 n106 t0 n10 n17 t111 n38 n35 t107 t11 t12 t14 t108 t16 t15 t20 t109 t19 t18 t23 t26 t27 t36 t37 → K (-1) (n81, n83, n84, n85, n106, n10, n38, n35, n17))
    : wX8_cut t81 t82 t83 t84 t85 t104 t105 t106 t10 t0 t111 t38 t35 t17 p0 K := by
  obtain ⟨⟨hN, hM, hF, hE⟩, hg, ht, hp, hf, hu, ho, hd, he⟩ := h
  have e104 := hg.1
  have e105 := hg.2.1
  have e106 := hg.2.2.1
  have e111 := ht.1
  subst e104 e105 e106 e111
  unfold wX8_cut wX8_forget
  refine w3_hasArc hM hg.2.2.2.2.1 _ _ _ _ (fun k hk hak ek => ⟨fun _ => ?_, fun z => absurd z (by decide)⟩) (fun hno => ⟨fun z => absurd rfl z, fun _ => hK0 hno _ _ _ _ _ _ _ _ _ ⟨⟨hN, hM, hF, hE⟩, hg, ht, hp, hf, hu, ho, hd, he⟩⟩)
  subst ek
  obtain ⟨P1, E1, P2, E2⟩ := yAbs_cut ⟨hN, hM, hF, hE⟩ hk hak
  obtain ⟨_, _, _, hA, hB, hj⟩ := id hg
  have hb := hF k hk
  have hle := yEcnt_le M al
  have hcut := yNb_cut (m := M) hk hak
  rw [yn_21', yn_2, yn_nat (by omega), yn_nat (by omega), (hA k hk).1, (hA k hk).2]
  refine ⟨yn_in (by omega) (by omega), ?_⟩
  have r1 := w7_remove ht.2 hb.1 P1.1 (fun u i a1 a2 a3 => yEr_uniq hE a1 hb.1 a2 P1.1 a3)
  rw [P1.2] at r1
  refine r1 _ (fun st1 en1 h1 => ⟨yn_in (by omega) (by omega), ?_⟩)
  have r2 := w7_remove (rs := yRm1 rs (F k)) (rw' := yRm2 rs rw' (F k) (2*k)) h1 hb.2 P2.1 (fun u i a1 a2 a3 => yEr_uniq E1 a1 hb.2 a2 P2.1 a3)
  rw [P2.2] at r2
  refine r2 _ (fun st2 en2 h2 => ?_)
  unfold wX3_removeArc
  rw [yn_nat (by omega), ynar0]
  refine ⟨yn_in (by omega) (by omega), fun g6 h6 v14 h14 => ?_⟩
  have e14 : v14 = Int32.ofNat (yNb M (ySet al k false)) := by
    rw [h14, ← hcut, yn_one]
  have hB' : yBo M (ySet al k false) g6 := by
    intro j hj'
    rw [h6]
    unfold ySet
    by_cases q : j = k
    · rw [q, yupd_same]; simp
    · rw [yupd_ne _ _ _ _ q, if_neg q]; exact hB j hj'
  refine w3_findNeighbours hA hM hN hF hB' t17 _ _ _ (fun t hgt => ?_)
  rw [e14]
  refine hK1 k hk hak rfl _ _ _ _ _ _ _ _ _ ⟨E2, ⟨rfl, rfl, rfl, hA, hB', hgt⟩, ⟨rfl, h2⟩, fun z => absurd rfl z, hf, ⟨hu.1, hu.2.1, fun z => absurd rfl z⟩, ho, fun z => absurd rfl z, fun z => absurd rfl z⟩

theorem c_clear (h : yCS N M F T al rs rw' t81 t82 t83 t84 t85 t104 t105 t106 t0 t10 t17 t111 t38 t35 t107 t11 t12 t14 t108 t16 t15 t20 t109 t19 t18 t23 t26 t27 t36 t37) (K : Int32 → (Int32 × Int32 × Int32 × Int32 × Int32 × Int32 × Int32 × (Nat → Int32) × Int32) → Prop)
    (hK : ∀ (n81 : Int32) (n83 : Int32) (n84 : Int32) (n85 : Int32) (n104 : Int32) (n105 : Int32) (n106 : Int32) (n17 : Nat → Int32) (n111 : Int32), yCS 0 0 F T al rs rw' n81 t82 n83 n84 n85 n104 n105 n106 t0 t10 n17 n111 t38 t35 t107 t11 t12 t14 t108 t16 t15 t20 t109 t19 t18 t23 t26 t27 t36 t37 → K (Int32.ofNat N) (n81, n83, n84, n85, n104, n105, n106, n17, n111))
    : wX8_clear t81 t82 t83 t84 t85 t104 t105 t106 t17 t10 t0 t111 K := by
  obtain ⟨⟨hN, hM, hF, hE⟩, hg, ht, hp, hf, hu, ho, hd, he⟩ := h
  have e104 := hg.1
  have e105 := hg.2.1
  have e106 := hg.2.2.1
  have e111 := ht.1
  subst e104 e105 e106 e111
  obtain ⟨_, _, _, hA, hB, hj⟩ := id hg
  unfold wX8_clear wX8_forget wX3_empty wX7_empty
  refine w3_findNeighbours (M := 0) (n := 0) (F := F) (T := T) (c := al) (fun k hk => absurd hk (Nat.not_lt_zero _)) (by omega) (by omega) (fun k hk => absurd hk (Nat.not_lt_zero _)) (fun k hk => absurd hk (Nat.not_lt_zero _)) t17 _ _ _ (fun t hgt => ?_)
  have h0 : t38 0 = 0 := by rw [ht.2.2.2.1 0 (by omega)]; rfl
  refine hK _ _ _ _ _ _ _ _ _ ⟨⟨by omega, by omega, fun k hk => absurd hk (Nat.not_lt_zero _), ⟨fun v i hv => absurd hv (Nat.not_lt_zero _), fun v i j hv => absurd hv (Nat.not_lt_zero _), fun e he' => ?_⟩⟩, ⟨rfl, rfl, rfl, fun k hk => absurd hk (Nat.not_lt_zero _), fun k hk => absurd hk (Nat.not_lt_zero _), hgt⟩, ⟨rfl, ⟨by omega, by simp [yS], fun v hv => ?_, fun v i hv => absurd hv (Nat.not_lt_zero _), fun v i hv => absurd hv (Nat.not_lt_zero _)⟩⟩, fun z => absurd rfl z, hf, ⟨hu.1, hu.2.1, fun z => absurd rfl z⟩, ho, fun z => absurd rfl z, fun z => absurd rfl z⟩
  · have := (yLv_iff.1 he').1; omega
  · rw [Nat.le_zero.1 hv, h0]; rfl

theorem c_swap (h : yCS N M F T al rs rw' t81 t82 t83 t84 t85 t104 t105 t106 t0 t10 t17 t111 t38 t35 t107 t11 t12 t14 t108 t16 t15 t20 t109 t19 t18 t23 t26 t27 t36 t37) (p0 p1 p2 : Int32) (K : Int32 → ((Nat → Int32)) → Prop)
    (hK1 : ∀ v i j, v < N → i < rs v → j < rs v → p0 = Int32.ofNat v → p1 = Int32.ofNat i → p2 = Int32.ofNat j → ∀ (n35 : Nat → Int32), yCS N M F T al rs (yExc rw' v i j) t81 t82 t83 t84 t85 t104 t105 t106 t0 t10 t17 t111 t38 n35 t107 t11 t12 t14 t108 t16 t15 t20 t109 t19 t18 t23 t26 t27 t36 t37 → K 1 (n35))
    (hK0 : ¬ (∃ v i j, v < N ∧ i < rs v ∧ j < rs v ∧ p0 = Int32.ofNat v ∧ p1 = Int32.ofNat i ∧ p2 = Int32.ofNat j) → ∀ (n35 : Nat → Int32), yCS N M F T al rs rw' t81 t82 t83 t84 t85 t104 t105 t106 t0 t10 t17 t111 t38 n35 t107 t11 t12 t14 t108 t16 t15 t20 t109 t19 t18 t23 t26 t27 t36 t37 → K (-1) (n35))
    : wX8_swap t81 t82 t83 t84 t85 t104 t105 t106 t111 t38 t35 p0 p1 p2 K := by
  obtain ⟨⟨hN, hM, hF, hE⟩, hg, ht, hp, hf, hu, ho, hd, he⟩ := h
  have e104 := hg.1
  have e105 := hg.2.1
  have e106 := hg.2.2.1
  have e111 := ht.1
  subst e104 e105 e106 e111
  have hcs : yCS N M F T al rs rw' t81 t82 t83 t84 t85 (Int32.ofNat N) (Int32.ofNat M) (Int32.ofNat (yNb M al)) t0 t10 t17 (Int32.ofNat N) t38 t35 t107 t11 t12 t14 t108 t16 t15 t20 t109 t19 t18 t23 t26 t27 t36 t37 := ⟨⟨hN, hM, hF, hE⟩, hg, ht, hp, hf, hu, ho, hd, he⟩
  unfold wX8_swap
  refine w3_hasNode (by omega) _ _ _ _ (fun v hv ev => ⟨fun z => absurd z (by decide), fun _ => ?_⟩) (fun hno => ⟨fun _ => hK0 (fun ⟨v, _, _, a1, _, _, a2, _, _⟩ => hno ⟨v, a1, a2⟩) _ hcs, fun z => absurd rfl z⟩)
  subst ev
  refine w7_has ht.2 _ _ _ (fun v' i a1 a2 a3 a4 => ⟨fun z => absurd z (by decide), fun _ => ?_⟩) (fun hno => ⟨fun _ => hK0 (fun ⟨v, i, _, a1, a2, _, a3, a4, _⟩ => hno ⟨v, i, a1, a2, a3, a4⟩) _ hcs, fun z => absurd rfl z⟩)
  have hvv : v = v' := (yn_inj (by omega) (by omega)).1 a3
  subst hvv a4
  refine w7_has ht.2 _ _ _ (fun v' j b1 b2 b3 b4 => ⟨fun _ => ?_, fun z => absurd z (by decide)⟩) (fun hno => ⟨fun z => absurd rfl z, fun _ => hK0 (fun ⟨v, _, j, a1, _, a2, a3, _, a4⟩ => hno ⟨v, j, a1, a2, a3, a4⟩) _ hcs⟩)
  have hvv : v = v' := (yn_inj (by omega) (by omega)).1 b3
  subst hvv b4
  refine w7_exchange ht.2 hv a2 b2 _ _ (fun en' h' => ?_)
  exact hK1 v i j hv a2 b2 rfl rfl rfl _ ⟨⟨hN, hM, hF, yEr_exch hE hv a2 b2⟩, hg, ⟨rfl, h'⟩, hp, hf, hu, ho, hd, he⟩

theorem c_take (h : yCS N M F T al rs rw' t81 t82 t83 t84 t85 t104 t105 t106 t0 t10 t17 t111 t38 t35 t107 t11 t12 t14 t108 t16 t15 t20 t109 t19 t18 t23 t26 t27 t36 t37) (K : Int32 → (Int32 × Int32 × Int32 × Int32 × (Nat → Int32) × (Nat → Int32) × Int32 × Int32 × (Nat → Int64) × (Nat → Int32) × (Nat → Int32) × (Nat → Int64) × (Nat → Int64) × (Nat → Int32) × (Nat → Int64) × (Nat → Int32) × (Nat → Int64) × (Nat → Int64) × (Nat → Int32) × (Nat → Int32) × Int32 × (Nat → Int32) × (Nat → Int32) × (Nat → Int32) × (Nat → Int32) × Int32 × (Nat → Int32) × (Nat → Int32) × Int32 × (Nat → Int32) × (Nat → Int32)) → Prop)
    (hK1 : yPln N (yGk M F T al) → ∀ (n81 : Int32) (n82 : Int32) (n83 : Int32) (n107 : Int32) (n11 : Nat → Int32) (n12 : Nat → Int32) (n116 : Int32) (n117 : Int32) (n5 : Nat → Int64) (n40 : Nat → Int32) (n2 : Nat → Int32) (n3 : Nat → Int64) (n4 : Nat → Int64) (n1 : Nat → Int32) (n6 : Nat → Int64) (n7 : Nat → Int32) (n8 : Nat → Int64) (n9 : Nat → Int64) (n13 : Nat → Int32) (n14 : Nat → Int32) (n108 : Int32) (n21 : Nat → Int32) (n16 : Nat → Int32) (n15 : Nat → Int32) (n20 : Nat → Int32) (n109 : Int32) (n19 : Nat → Int32) (n18 : Nat → Int32) (n111 : Int32) (n35 : Nat → Int32) (n38 : Nat → Int32), yCS N M F T al (fun v => (yTn N M F T al v).length) (fun v i => (yTn N M F T al v).getD i 0) n81 n82 n83 t84 t85 t104 t105 t106 t0 t10 t17 n111 n38 n35 n107 n11 n12 n14 n108 n16 n15 n20 n109 n19 n18 t23 t26 t27 t36 t37 → K 1 (n81, n82, n83, n107, n11, n12, n116, n117, n5, n40, n2, n3, n4, n1, n6, n7, n8, n9, n13, n14, n108, n21, n16, n15, n20, n109, n19, n18, n111, n35, n38))
    (hK0 : ¬ yPln N (yGk M F T al) → ∀ (n81 : Int32) (n82 : Int32) (n83 : Int32) (n107 : Int32) (n11 : Nat → Int32) (n12 : Nat → Int32) (n116 : Int32) (n117 : Int32) (n5 : Nat → Int64) (n40 : Nat → Int32) (n2 : Nat → Int32) (n3 : Nat → Int64) (n4 : Nat → Int64) (n1 : Nat → Int32) (n6 : Nat → Int64) (n7 : Nat → Int32) (n8 : Nat → Int64) (n9 : Nat → Int64) (n13 : Nat → Int32) (n14 : Nat → Int32) (n108 : Int32) (n21 : Nat → Int32) (n16 : Nat → Int32) (n15 : Nat → Int32) (n20 : Nat → Int32) (n109 : Int32) (n19 : Nat → Int32) (n18 : Nat → Int32) (n111 : Int32) (n35 : Nat → Int32) (n38 : Nat → Int32), yCS N M F T al rs rw' n81 n82 n83 t84 t85 t104 t105 t106 t0 t10 t17 n111 n38 n35 n107 n11 n12 n14 n108 n16 n15 n20 n109 n19 n18 t23 t26 t27 t36 t37 → K (-3) (n81, n82, n83, n107, n11, n12, n116, n117, n5, n40, n2, n3, n4, n1, n6, n7, n8, n9, n13, n14, n108, n21, n16, n15, n20, n109, n19, n18, n111, n35, n38))
    : wX8_take t81 t82 t83 t84 t85 t104 t105 t106 t107 t11 t17 t12 t116 t117 t5 t40 t2 t3 t4 t1 t6 t7 t8 t9 t13 t14 t108 t21 t16 t15 t20 t109 t19 t18 t10 t0 t111 t35 t38 K := by
  obtain ⟨⟨hN, hM, hF, hE⟩, hg, ht, hp, hf, hu, ho, hd, he⟩ := h
  have e104 := hg.1
  have e105 := hg.2.1
  have e106 := hg.2.2.1
  have e111 := ht.1
  subst e104 e105 e106 e111
  unfold wX8_take
  refine w8_isPlane hN hF hg hp hf _ _ _ _ _ _ _ _ _ _ _ _ _ _ _ _ _ _ (fun q pk' pl' u hc => ⟨fun _ => ?_, fun z => absurd z (by decide)⟩) (fun q pk' pl' u hc => ⟨fun z => absurd rfl z, fun _ => hK0 q _ _ _ _ _ _ _ _ _ _ _ _ _ _ _ _ _ _ _ _ _ _ _ _ _ _ _ _ _ _ _ ⟨⟨hN, hM, hF, hE⟩, hg, ht, hc, hf, hu, ho, hd, he⟩⟩)
  refine w8_makeFilled hN hF hg q hf _ _ _ _ _ _ _ _ _ _ _ _ _ _ _ _ _ _ _ _ _ (fun fn' fb' fj' x3 x4 x5 x6 x7 x8 x9 x10 x11 x12 x13 x14 th ord' hf' hfn hfl hord => ?_)
  refine w8_turns2 hN hM hF hg q hfl hord hu _ _ _ _ _ _ _ _ (fun tk' uc' b' us' ue' ffo' fc' fst' fen' htk hu' => ?_)
  obtain ⟨_, _, hu3⟩ := id hu'
  obtain ⟨_, euc, hrw, _⟩ := hu3 htk
  subst euc
  have hjN := yCG_N hN hF hg
  obtain ⟨_, _, _, _, hEt⟩ := yTn_ok hN hM hF hjN q hfl
  unfold wX7_copy
  intro g21 h21 g37 h37
  have n0 : Int32.toNatClampNeg (0 : Int32) = 0 := yn_nat (by omega : (0 : Nat) < 2147483648)
  have n160 : Int32.toNatClampNeg (160 : Int32) = 160 := yn_nat (by omega : (160 : Nat) < 2147483648)
  have n181 : Int32.toNatClampNeg (181 : Int32) = 181 := yn_nat (by omega : (181 : Nat) < 2147483648)
  refine hK1 q _ _ _ _ _ _ _ _ _ _ _ _ _ _ _ _ _ _ _ _ _ _ _ _ _ _ _ _ _ _ _ ⟨⟨hN, hM, hF, hEt⟩, hg, ⟨rfl, ⟨hrw.1, hrw.2.1, fun v hv => ?_, fun v i hv hi => ?_, hrw.2.2.2.2⟩⟩, hc, hf', hu', ho, hd, he⟩
  · show g37 v = _
    rw [h37, n0, n181]; unfold va_cpy
    rw [if_pos (by omega), show 0 + (v - 0) = v by omega]; exact hrw.2.2.1 v hv
  · have hsz := yS_at (fun v => (yTn N M F T al v).length) hv
    have h160 := hrw.2.1
    have hi' : i < (yTn N M F T al v).length := hi
    show g21 _ = _
    rw [h21, n0, n160]; unfold va_cpy
    rw [if_pos (by omega), show 0 + (yS v (fun v => (yTn N M F T al v).length) + i - 0) = yS v (fun v => (yTn N M F T al v).length) + i by omega]; exact hrw.2.2.2.1 v i hv hi

theorem c_dualBack (h : yCS N M F T al rs rw' t81 t82 t83 t84 t85 t104 t105 t106 t0 t10 t17 t111 t38 t35 t107 t11 t12 t14 t108 t16 t15 t20 t109 t19 t18 t23 t26 t27 t36 t37) (K : Int32 → (Int32 × Int32 × Int32 × Int32 × (Nat → Int32) × (Nat → Int32) × Int32 × Int32 × (Nat → Int64) × (Nat → Int32) × (Nat → Int32) × (Nat → Int64) × (Nat → Int64) × (Nat → Int32) × (Nat → Int64) × (Nat → Int32) × (Nat → Int64) × (Nat → Int64) × (Nat → Int32) × (Nat → Int32) × Int32 × (Nat → Int32) × (Nat → Int32) × (Nat → Int32) × (Nat → Int32) × Int32 × (Nat → Int32) × (Nat → Int32) × (Nat → Int32) × (Nat → Int32) × Int32 × (Nat → Int32) × (Nat → Int32)) → Prop)
    (hK : ∀ (n81 : Int32) (n82 : Int32) (n83 : Int32) (n107 : Int32) (n11 : Nat → Int32) (n12 : Nat → Int32) (n116 : Int32) (n117 : Int32) (n5 : Nat → Int64) (n40 : Nat → Int32) (n2 : Nat → Int32) (n3 : Nat → Int64) (n4 : Nat → Int64) (n1 : Nat → Int32) (n6 : Nat → Int64) (n7 : Nat → Int32) (n8 : Nat → Int64) (n9 : Nat → Int64) (n13 : Nat → Int32) (n14 : Nat → Int32) (n108 : Int32) (n21 : Nat → Int32) (n16 : Nat → Int32) (n15 : Nat → Int32) (n20 : Nat → Int32) (n109 : Int32) (n19 : Nat → Int32) (n18 : Nat → Int32) (n25 : Nat → Int32) (n24 : Nat → Int32) (n110 : Int32) (n23 : Nat → Int32) (n22 : Nat → Int32), yCS N M F T al rs rw' n81 n82 n83 t84 t85 t104 t105 t106 t0 t10 t17 t111 t38 t35 n107 n11 n12 n14 n108 n16 n15 n20 n109 n19 n18 n23 t26 t27 t36 t37 → K (yADb N M F T al rs) (n81, n82, n83, n107, n11, n12, n116, n117, n5, n40, n2, n3, n4, n1, n6, n7, n8, n9, n13, n14, n108, n21, n16, n15, n20, n109, n19, n18, n25, n24, n110, n23, n22))
    : wX8_dualBack t81 t82 t83 t84 t85 t104 t105 t106 t107 t11 t17 t12 t116 t117 t5 t40 t2 t3 t4 t1 t6 t7 t8 t9 t13 t14 t108 t21 t16 t15 t20 t109 t19 t18 t10 t0 t25 t24 t110 t23 t22 t111 t38 K := by
  obtain ⟨⟨hN, hM, hF, hE⟩, hg, ht, hp, hf, hu, ho, hd, he⟩ := h
  have e104 := hg.1
  have e105 := hg.2.1
  have e106 := hg.2.2.1
  have e111 := ht.1
  subst e104 e105 e106 e111
  unfold wX8_dualBack
  unfold yADb at hK
  refine w8_hasDual hN hM hF hg hp hf _ _ _ _ _ _ _ _ _ _ _ _ _ _ _ _ _ (fun qd pk' pl' u hc => ⟨fun _ => ?_, fun z => absurd z (by decide)⟩) (fun qd pk' pl' u hc => ⟨fun z => absurd rfl z, fun _ => ?_⟩)
  · rw [yIf_pos qd] at hK
    have q := qd.1
    refine w8_makeFilled hN hF hg q hf _ _ _ _ _ _ _ _ _ _ _ _ _ _ _ _ _ _ _ _ _ (fun fn' fb' fj' x3 x4 x5 x6 x7 x8 x9 x10 x11 x12 x13 x14 th ord' hf' hfn hfl hord => ?_)
    refine w8_turns2 hN hM hF hg q hfl hord hu _ _ _ _ _ _ _ _ (fun tk' uc' b' us' ue' ffo' fc' fst' fen' htk hu' => ?_)
    obtain ⟨_, _, hu3⟩ := id hu'
    obtain ⟨_, euc, _, hfo, efc, hrw⟩ := hu3 htk
    have hjN := yCG_N hN hF hg
    obtain ⟨_, _, _, hmem, hEt⟩ := yTn_ok hN hM hF hjN q hfl
    have hbare : yNb N (fun v => decide ((yTn N M F T al v).length = 0)) = 0 := by
      apply Classical.byContradiction
      intro hn
      obtain ⟨v, hv, hz⟩ := yNb_ex N (show 0 < yNb N (fun v => decide ((yTn N M F T al v).length = 0)) by omega)
      rw [decide_eq_true_eq] at hz
      obtain ⟨e, e1, e2⟩ := yHd_bare hF qd hv
      have := (hmem v e hv).2 ⟨e1, e2⟩
      rw [List.length_eq_zero_iff.1 hz] at this
      exact absurd this List.not_mem_nil
    have hcl := yBt_closed hEt (fun e he' => yLv_pt he')
    obtain ⟨kI, kR, kL, kA⟩ := yTc_keeps hcl 160
    have k160 := yTI_few kI kR
    have hE2 : yEr (yTf N M F T al).1 (fun e => (yTf N M F T al).2.2.2 e - 1) (fun e => yLv M al e = true) (yTf N M F T al).2.1 (yTf N M F T al).2.2.1 :=
      yEr_congr kI (fun e => ⟨fun h => kL e h, fun h => kA e (by have := (yLv_iff.1 h).1; omega) h⟩) (fun e _ => rfl)
    rw [hbare, Nat.add_zero] at efc hrw
    have hrw2 : yRw (yTf N M F T al).1 (yTf N M F T al).2.1 (yTf N M F T al).2.2.1 fst' fen' := yRw_congr hrw (fun v hv => by rw [if_pos hv]) (fun v i _ _ => rfl)
    have hz2 : yNb (yTf N M F T al).1 (fun v => decide ((yTf N M F T al).2.1 v = 0)) = 0 := by
      apply Classical.byContradiction
      intro hn
      obtain ⟨v, hv, hz⟩ := yNb_ex _ (show 0 < yNb (yTf N M F T al).1 (fun v => decide ((yTf N M F T al).2.1 v = 0)) by omega)
      rw [decide_eq_true_eq] at hz
      have := kR v hv
      have h2 : 1 ≤ (yTf N M F T al).2.1 v := this
      omega
    subst efc
    refine w1_trace hrw2 hE2 (fun e he' => yLv_pt he') (by omega) _ _ _ _ _ ho _ (fun b fo2 st2 en2 a1 a2 => ?_)
    rw [hz2, Nat.add_zero] at a2 ⊢
    have h0 : st2 0 = 0 := by rw [a2.2.2.1 0 (by omega)]; rfl
    have hcl2 := yBt_closed hE2 (fun e he' => yLv_pt he')
    obtain ⟨mI, mR, mL, mA⟩ := yTc_keeps hcl2 160
    have m160 := yTI_few mI mR
    have hrw3 : yRw (yTf2 N M F T al).1 (yTf2 N M F T al).2.1 (yTf2 N M F T al).2.2.1 st2 en2 := yRw_congr a2 (fun v hv => if_pos hv) (fun v i _ _ => rfl)
    have hlt : ∀ r i, r < (yTf2 N M F T al).1 → i < (yTf2 N M F T al).2.1 r → (yTf2 N M F T al).2.2.1 r i < 2*M := fun r i hr hi => (yLv_iff.1 (mL _ (mI.1 r i hr hi).1)).1
    have hm160 : (yTf2 N M F T al).1 ≤ 160 := m160
    refine ⟨fun c => ?_, fun c => ?_⟩
    · have hc2 : (yTf2 N M F T al).1 = N := (yn_inj (by omega) (by omega)).1 c
      refine w8_dual58 hN hM hF hg.2.2.2.1 ht.2 _ _ _ _ _ hrw3 rfl hlt mR _ _ _ _ _ (fun w => ?_) (fun w => ?_)
      · rw [yIf_pos ⟨hc2, w⟩] at hK
        exact hK _ _ _ _ _ _ _ _ _ _ _ _ _ _ _ _ _ _ _ _ _ _ _ _ _ _ _ _ _ _ _ _ _ ⟨⟨hN, hM, hF, hE⟩, hg, ht, hc, hf', hu', h0, hd, he⟩
      · rw [yIf_neg (fun hh => w hh.2)] at hK
        exact hK _ _ _ _ _ _ _ _ _ _ _ _ _ _ _ _ _ _ _ _ _ _ _ _ _ _ _ _ _ _ _ _ _ ⟨⟨hN, hM, hF, hE⟩, hg, ht, hc, hf', hu', h0, hd, he⟩
    · rw [yIf_neg (fun hh => c (by show Int32.ofNat (yTf2 N M F T al).1 = _; rw [hh.1]))] at hK
      exact hK _ _ _ _ _ _ _ _ _ _ _ _ _ _ _ _ _ _ _ _ _ _ _ _ _ _ _ _ _ _ _ _ _ ⟨⟨hN, hM, hF, hE⟩, hg, ht, hc, hf', hu', h0, hd, he⟩
  · rw [yIf_neg qd] at hK
    exact hK _ _ _ _ _ _ _ _ _ _ _ _ _ _ _ _ _ _ _ _ _ _ _ _ _ _ _ _ _ _ _ _ _ ⟨⟨hN, hM, hF, hE⟩, hg, ht, hc, hf, hu, ho, hd, he⟩

end


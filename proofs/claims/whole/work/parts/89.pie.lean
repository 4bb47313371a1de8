
-- all arcs of a choice but one
def yCm (c : Nat → Bool) (k j : Nat) : Bool := c j && decide (j ≠ k)

theorem yCm_iff {c : Nat → Bool} {k j : Nat} : yCm c k j = true ↔ c j = true ∧ j ≠ k := by
  unfold yCm; rw [Bool.and_eq_true, decide_eq_true_eq]

-- THE PIECE
noncomputable def yKs (N M : Nat) (F T : Nat → Nat) (c : Nat → Bool) (k : Nat) : Nat → Bool :=
  @ite _ (c k = true ∧ ¬ yPln N (yGk M F T (yCm c k))) (Classical.propDecidable _) (yCm c k) c
noncomputable def yKp (N M : Nat) (F T : Nat → Nat) : Nat → (Nat → Bool) → (Nat → Bool)
  | 0, c => c
  | k+1, c => yKp N M F T k (yKs N M F T c k)

section
variable {N M : Nat} {F T : Nat → Nat}

theorem yKs_pos {c : Nat → Bool} {k : Nat} (h : c k = true ∧ ¬ yPln N (yGk M F T (yCm c k))) : yKs N M F T c k = yCm c k := by
  unfold yKs; exact @if_pos _ (Classical.propDecidable _) h _ _ _
theorem yKs_neg {c : Nat → Bool} {k : Nat} (h : ¬ (c k = true ∧ ¬ yPln N (yGk M F T (yCm c k)))) : yKs N M F T c k = c := by
  unfold yKs; exact @if_neg _ (Classical.propDecidable _) h _ _ _

theorem yKs_sub {c : Nat → Bool} {k j : Nat} (h : yKs N M F T c k j = true) : c j = true := by
  by_cases q : c k = true ∧ ¬ yPln N (yGk M F T (yCm c k))
  · rw [yKs_pos q] at h; exact (yCm_iff.1 h).1
  · rw [yKs_neg q] at h; exact h

theorem yKp_sub : ∀ k (c : Nat → Bool) j, yKp N M F T k c j = true → c j = true := by
  intro k
  induction k with
  | zero => intro c j h; exact h
  | succ k ih => intro c j h; exact yKs_sub (ih _ j h)

theorem yKp_high : ∀ k (c : Nat → Bool) j, k ≤ j → yKp N M F T k c j = c j := by
  intro k
  induction k with
  | zero => intro c j h; rfl
  | succ k ih =>
    intro c j h
    show yKp N M F T k (yKs N M F T c k) j = c j
    rw [ih _ j (by omega)]
    by_cases q : c k = true ∧ ¬ yPln N (yGk M F T (yCm c k))
    · rw [yKs_pos q]
      unfold yCm
      rw [decide_eq_true (by omega), Bool.and_true]
    · rw [yKs_neg q]

theorem yKp_np : ∀ k (c : Nat → Bool), ¬ yPln N (yGk M F T c) → ¬ yPln N (yGk M F T (yKp N M F T k c)) := by
  intro k
  induction k with
  | zero => intro c h; exact h
  | succ k ih =>
    intro c h
    apply ih
    by_cases q : c k = true ∧ ¬ yPln N (yGk M F T (yCm c k))
    · rw [yKs_pos q]; exact q.2
    · rw [yKs_neg q]; exact h

theorem yKp_min (hN : N ≤ 20) (hF : ∀ k, k < M → F k < N ∧ T k < N) : ∀ k (c : Nat → Bool) j, j < k → yKp N M F T k c j = true → yPln N (yGk M F T (yCm (yKp N M F T k c) j)) := by
  intro k
  induction k with
  | zero => intro c j h; omega
  | succ k ih =>
    intro c j hj h
    by_cases e : j = k
    · subst e
      have h' : yKp N M F T j (yKs N M F T c j) j = true := h
      rw [yKp_high j _ j (Nat.le_refl _)] at h'
      by_cases q : c j = true ∧ ¬ yPln N (yGk M F T (yCm c j))
      · rw [yKs_pos q] at h'; exact absurd rfl (yCm_iff.1 h').2
      · have hc : c j = true := by rw [yKs_neg q] at h'; exact h'
        have hp : yPln N (yGk M F T (yCm c j)) := by
          apply Classical.byContradiction
          intro hn; exact q ⟨hc, hn⟩
        refine yPln_mono (by omega) (yGk_sg hF) (yGk_sg hF) (fun v w hvw => ?_) hp
        refine yGk_mono (fun i hi hh => ?_) v w hvw
        rw [yCm_iff] at hh ⊢
        exact ⟨yKp_sub (j+1) c i hh.1, hh.2⟩
    · exact ih _ j (by omega) h

-- an edge of the graph is an end
theorem yGk_end {c : Nat → Bool} {a b : Nat} (h : yGk M F T c a b = true) : ∃ e, yLv M c e = true ∧ yNd F T e = a ∧ yNd F T (yPt e) = b ∧ F (e/2) ≠ T (e/2) := by
  obtain ⟨k, a1, a2, a3, a4⟩ := (yGk_iff F T c M a b).1 h
  have hA : ∀ j, yNd F T (2*j) = F j := fun j => by unfold yNd; rw [if_pos (by omega), show 2*j/2 = j by omega]
  have hB : ∀ j, yNd F T (2*j+1) = T j := fun j => by unfold yNd; rw [if_neg (by omega), show (2*j+1)/2 = j by omega]
  have pA : ∀ j, yPt (2*j) = 2*j+1 := fun j => by unfold yPt; rw [if_pos (by omega)]
  have pB : ∀ j, yPt (2*j+1) = 2*j := fun j => by unfold yPt; rw [if_neg (by omega)]; omega
  rcases a4 with a4 | a4
  · refine ⟨2*k, yLv_iff.2 ⟨by omega, by rw [show 2*k/2 = k by omega]; exact a2⟩, by rw [hA]; exact a4.1, by rw [pA, hB]; exact a4.2, ?_⟩
    rw [show 2*k/2 = k by omega]; exact a3
  · refine ⟨2*k+1, yLv_iff.2 ⟨by omega, by rw [show (2*k+1)/2 = k by omega]; exact a2⟩, by rw [hB]; exact a4.2, by rw [pB, hA]; exact a4.1, ?_⟩
    rw [show (2*k+1)/2 = k by omega]; exact a3

theorem yNd_arc (e : Nat) : (yNd F T e = F (e/2) ∧ yNd F T (yPt e) = T (e/2)) ∨ (yNd F T e = T (e/2) ∧ yNd F T (yPt e) = F (e/2)) := by
  have hh := yPt_half e
  by_cases p : e % 2 = 0
  · left
    have : yPt e % 2 ≠ 0 := by unfold yPt; rw [if_pos p]; omega
    refine ⟨by unfold yNd; rw [if_pos p], ?_⟩
    rw [← hh]; unfold yNd; rw [if_neg this]
  · right
    have : yPt e % 2 = 0 := by unfold yPt; rw [if_neg p]; omega
    refine ⟨by unfold yNd; rw [if_neg p], ?_⟩
    rw [← hh]; unfold yNd; rw [if_pos this]

-- a barred piece
def yBpc (N M : Nat) (F T : Nat → Nat) (c : Nat → Bool) : Prop :=
  N ≤ 20 ∧ M ≤ 80 ∧ (∀ k, k < M → F k < N ∧ T k < N) ∧ ¬ yPln N (yGk M F T c) ∧ ∀ k, k < M → c k = true → yPln N (yGk M F T (yCm c k))

variable {c : Nat → Bool}

theorem yBpc_nd (h : yBpc N M F T c) {e : Nat} (he : yLv M c e = true) : yNd F T e < N := by
  have := (yLv_iff.1 he).1
  have := h.2.2.1 (e/2) (by omega)
  unfold yNd; split <;> omega

theorem yBpc_noloop (h : yBpc N M F T c) {k : Nat} (hk : k < M) (hc : c k = true) : F k ≠ T k := by
  intro e
  apply h.2.2.2.1
  have hp := h.2.2.2.2 k hk hc
  refine yPln_mono (by have := h.1; omega) (yGk_sg h.2.2.1) (yGk_sg h.2.2.1) (fun v w hvw => ?_) hp
  rw [yGk_iff] at hvw ⊢
  obtain ⟨j, a1, a2, a3, a4⟩ := hvw
  exact ⟨j, a1, yCm_iff.2 ⟨a2, fun q => a3 (by rw [q]; exact e)⟩, a3, a4⟩

theorem yBpc_noalike (h : yBpc N M F T c) {j k : Nat} (hj : j < M) (hk : k < M) (hcj : c j = true) (hck : c k = true) (hal : (F j = F k ∧ T j = T k) ∨ (F j = T k ∧ T j = F k)) : j = k := by
  apply Classical.byContradiction
  intro hne
  apply h.2.2.2.1
  have hp := h.2.2.2.2 k hk hck
  refine yPln_mono (by have := h.1; omega) (yGk_sg h.2.2.1) (yGk_sg h.2.2.1) (fun v w hvw => ?_) hp
  rw [yGk_iff] at hvw ⊢
  obtain ⟨i, a1, a2, a3, a4⟩ := hvw
  by_cases q : i = k
  · subst q
    have hl := yBpc_noloop h hj hcj
    exact ⟨j, hj, yCm_iff.2 ⟨hcj, hne⟩, hl, by omega⟩
  · exact ⟨i, a1, yCm_iff.2 ⟨a2, q⟩, a3, a4⟩

-- ends of kept arcs: two nodes settle the end
theorem yBpc_end (h : yBpc N M F T c) {e f : Nat} (he : yLv M c e = true) (hf : yLv M c f = true) (h1 : yNd F T e = yNd F T f) (h2 : yNd F T (yPt e) = yNd F T (yPt f)) : e = f := by
  have he' := yLv_iff.1 he
  have hf' := yLv_iff.1 hf
  have hle := yBpc_noloop h (by omega) he'.2
  have hlf := yBpc_noloop h (by omega) hf'.2
  have hk : e/2 = f/2 := by
    refine yBpc_noalike h (by omega) (by omega) he'.2 hf'.2 ?_
    rcases yNd_arc (F := F) (T := T) e with a | a <;> rcases yNd_arc (F := F) (T := T) f with b | b <;> omega
  by_cases q : e = f
  · exact q
  · exfalso
    have : f = yPt e := by unfold yPt; split <;> omega
    rw [this, yPt_pt] at h2
    rcases yNd_arc (F := F) (T := T) e with a | a <;> omega

theorem yBpc_pe (h : yBpc N M F T c) {e : Nat} (he : yLv M c e = true) : yNd F T e ≠ yNd F T (yPt e) := by
  have he' := yLv_iff.1 he
  have hl := yBpc_noloop h (by omega) he'.2
  rcases yNd_arc (F := F) (T := T) e with a | a <;> omega

-- the edge of an end
def yEe (F T : Nat → Nat) (e : Nat) : Nat := yIx (yNd F T e) (yNd F T (yPt e))

theorem yBpc_edge (h : yBpc N M F T c) {e : Nat} (he : yLv M c e = true) : yEe F T e < 1024 ∧ yGr (yGk M F T c) (yEe F T e) = true ∧ ∀ v, yI (yEe F T e) v = true ↔ (v = yNd F T e ∨ v = yNd F T (yPt e)) := by
  have h1 := yBpc_nd h he
  have h2 := yBpc_nd h (yLv_pt he)
  have h3 := yBpc_pe h he
  have hN := h.1
  have hsg := yGk_sg (c := c) h.2.2.1
  refine ⟨yIx_lt (by omega) (by omega), ?_, fun v => yI_iff (by omega) (by omega) h3 v⟩
  unfold yEe
  rw [yGr_iff (n := N) (by omega) hsg.1 hsg.2 _ _ (by omega) (by omega)]
  exact yEnd_g he rfl rfl h3

-- an edge at a node is that of a kept end there
theorem yBpc_at (h : yBpc N M F T c) {d v : Nat} (hd : d < 1024) (hx : yGr (yGk M F T c) d = true) (hv : yI d v = true) : ∃ e, yLv M c e = true ∧ yNd F T e = v ∧ d = yEe F T e := by
  have hN := h.1
  have hsg := yGk_sg (c := c) h.2.2.1
  have hn := yGr_node hsg hx
  have hxx : yGk M F T c (d/32) (d%32) = true := by unfold yGr at hx; rw [Bool.and_eq_true] at hx; exact hx.2
  rcases (yGr_ends d hd hx v).1 hv with q | q
  · obtain ⟨e, a1, a2, a3, _⟩ := yGk_end hxx
    refine ⟨e, a1, by rw [a2, q], ?_⟩
    unfold yEe; rw [a2, a3, yIx_de hn.1]
  · rw [hsg.2] at hxx
    obtain ⟨e, a1, a2, a3, _⟩ := yGk_end hxx
    refine ⟨e, a1, by rw [a2, q], ?_⟩
    unfold yEe; rw [a2, a3, yIx_comm, yIx_de hn.1]

theorem yBpc_eeinj (h : yBpc N M F T c) {e f : Nat} (he : yLv M c e = true) (hf : yLv M c f = true) (hee : yEe F T e = yEe F T f) (hn : yNd F T e = yNd F T f) : e = f := by
  have h1 := yBpc_nd h he
  have h2 := yBpc_nd h (yLv_pt he)
  have h3 := yBpc_nd h hf
  have h4 := yBpc_nd h (yLv_pt hf)
  have hN := h.1
  have := yIx_inj (by omega) (by omega) (by omega) (by omega) hee
  have p1 := yBpc_pe h he
  have p2 := yBpc_pe h hf
  exact yBpc_end h he hf hn (by omega)

-- without the arc of an end: all other edges
theorem yBpc_rest (h : yBpc N M F T c) {e d : Nat} (he : yLv M c e = true) (hd : d < 1024) (hx : yGr (yGk M F T c) d = true) (hne : d ≠ yEe F T e) : yGr (yGk M F T (yCm c (e/2))) d = true := by
  have hsg := yGk_sg (c := c) h.2.2.1
  have hn := yGr_node hsg hx
  have hxx : yGk M F T c (d/32) (d%32) = true := by unfold yGr at hx; rw [Bool.and_eq_true] at hx; exact hx.2
  obtain ⟨f, a1, a2, a3, a4⟩ := yGk_end hxx
  have hfe : f/2 ≠ e/2 := by
    intro q
    apply hne
    have hdf : d = yEe F T f := by unfold yEe; rw [a2, a3, yIx_de hn.1]
    have : f = e ∨ f = yPt e := by unfold yPt; split <;> omega
    rcases this with r | r
    · rw [hdf, r]
    · rw [hdf, r]; unfold yEe; rw [yPt_pt, yIx_comm]
  have hl := yLv_iff.1 a1
  have : yLv M (yCm c (e/2)) f = true := yLv_iff.2 ⟨hl.1, yCm_iff.2 ⟨hl.2, hfe⟩⟩
  have hg := yEnd_g this a2 a3 (by omega)
  unfold yGr
  rw [Bool.and_eq_true, decide_eq_true_eq]
  exact ⟨hn.1, hg⟩

-- no node has one end alone
theorem yBpc_two (h : yBpc N M F T c) {e : Nat} (he : yLv M c e = true) : ∃ f, yLv M c f = true ∧ yNd F T f = yNd F T e ∧ f ≠ e := by
  apply Classical.byContradiction
  intro hno
  have honly : ∀ f, yLv M c f = true → yNd F T f = yNd F T e → f = e := by
    intro f h1 h2
    apply Classical.byContradiction
    intro h3; exact hno ⟨f, h1, h2, h3⟩
  have hN := h.1
  have he' := yLv_iff.1 he
  have hp := h.2.2.2.2 (e/2) (by omega) he'.2
  apply h.2.2.2.1
  rw [yPln_iff (by omega) (yGk_sg h.2.2.1)] at hp ⊢
  rcases hp with hp | hp
  · exact Or.inl hp
  right
  obtain ⟨b1, b2, b3⟩ := yBpc_edge h he
  refine yLab_pend (d := yEe F T e) hp (fun d hd hx hne => yBpc_rest h he hd hx hne) (fun y hy hev => ?_) b1
  have hpar := hev (yNd F T e)
  rw [yX_one 1024 _ (yEe F T e) b1] at hpar
  · rw [(b3 _).2 (Or.inl rfl), Bool.and_true] at hpar; exact hpar
  · intro d hd hne
    cases hyd : y d with
    | false => rfl
    | true =>
      cases hI : yI d (yNd F T e) with
      | false => rfl
      | true =>
        exfalso
        obtain ⟨f, a1, a2, a3⟩ := yBpc_at h hd (hy d hd hyd) hI
        exact hne (by rw [a3, honly f a1 a2])
end


-- how many kept ends a node has
def yEc (M : Nat) (F T : Nat → Nat) (c : Nat → Bool) (v : Nat) : Nat := yNb (2*M) (fun e => c (e/2) && decide (yNd F T e = v))

theorem yNb_le1 {p : Nat → Bool} {x : Nat} : ∀ m, (∀ i, i < m → p i = true → i = x) → yNb m p ≤ 1 ∧ (m ≤ x → yNb m p = 0) := by
  intro m
  induction m with
  | zero => intro _; simp [yNb]
  | succ m ih =>
    intro h
    obtain ⟨a1, a2⟩ := ih (fun i hi hp => h i (by omega) hp)
    simp only [yNb]
    by_cases q : p m = true
    · have := h m (by omega) q
      rw [if_pos q, a2 (by omega)]
      exact ⟨by omega, fun hh => by omega⟩
    · rw [if_neg q]; exact ⟨by omega, fun hh => by have := a2 (by omega); omega⟩

theorem yNb_pair {p : Nat → Bool} {m e : Nat} (h : yNb m p = 2) (hp : p e = true) (hem : e < m) : ∃ o, o < m ∧ p o = true ∧ o ≠ e ∧ ∀ x, x < m → p x = true → x = e ∨ x = o := by
  have h1 : ∃ o, o < m ∧ p o = true ∧ o ≠ e := by
    apply Classical.byContradiction
    intro hno
    have := (yNb_le1 (p := p) (x := e) m (fun i hi hpi => by
      apply Classical.byContradiction
      intro hne; exact hno ⟨i, hi, hpi, hne⟩)).1
    omega
  obtain ⟨o, o1, o2, o3⟩ := h1
  refine ⟨o, o1, o2, o3, fun x hx hpx => ?_⟩
  apply Classical.byContradiction
  intro hne
  have := yPigC 3 m p (fun i => if i = 0 then e else if i = 1 then o else x) (fun i hi => by
    try dsimp only
    split
    · exact ⟨hem, hp⟩
    · split
      · exact ⟨o1, o2⟩
      · exact ⟨hx, hpx⟩) (fun i j hi hj hij => by
    try dsimp only at hij
    by_cases a : i = 0
    · by_cases b : j = 0
      · omega
      · rw [if_pos a, if_neg b] at hij
        split at hij <;> omega
    · by_cases b : j = 0
      · rw [if_neg a, if_pos b] at hij
        split at hij <;> omega
      · rw [if_neg a, if_neg b] at hij
        split at hij <;> split at hij <;> omega)
  omega

section
variable {N M : Nat} {F T : Nat → Nat} {c : Nat → Bool}

theorem yEc_in {e v : Nat} : (e < 2*M ∧ (c (e/2) && decide (yNd F T e = v)) = true) ↔ (yLv M c e = true ∧ yNd F T e = v) := by
  rw [yLv_iff, Bool.and_eq_true, decide_eq_true_eq]
  constructor
  · rintro ⟨a, b, d⟩; exact ⟨⟨a, b⟩, d⟩
  · rintro ⟨⟨a, b⟩, d⟩; exact ⟨a, b, d⟩

theorem yEc_ge2 (h : yBpc N M F T c) {e : Nat} (he : yLv M c e = true) : 2 ≤ yEc M F T c (yNd F T e) := by
  obtain ⟨f, f1, f2, f3⟩ := yBpc_two h he
  unfold yEc
  have a := (yEc_in (F := F) (T := T) (v := yNd F T e)).2 ⟨he, rfl⟩
  have b := (yEc_in (F := F) (T := T) (v := yNd F T e)).2 ⟨f1, f2⟩
  apply yPigC 2 (2*M) _ (fun i => if i = 0 then e else f)
  · intro i hi
    try dsimp only
    split
    · exact a
    · exact b
  · intro i j hi hj hij
    try dsimp only at hij
    split at hij <;> split at hij <;> omega

-- the other end at a node with two
noncomputable def yOe (M : Nat) (F T : Nat → Nat) (c : Nat → Bool) (e : Nat) : Nat := Classical.epsilon (fun x => yLv M c x = true ∧ yNd F T x = yNd F T e ∧ x ≠ e)

theorem yOe_spec {e : Nat} (he : yLv M c e = true) (h2 : yEc M F T c (yNd F T e) = 2) :
    yLv M c (yOe M F T c e) = true ∧ yNd F T (yOe M F T c e) = yNd F T e ∧ yOe M F T c e ≠ e ∧ ∀ x, yLv M c x = true → yNd F T x = yNd F T e → x = e ∨ x = yOe M F T c e := by
  have a := (yEc_in (F := F) (T := T) (v := yNd F T e)).2 ⟨he, rfl⟩
  obtain ⟨o, o1, o2, o3, o4⟩ := yNb_pair h2 a.2 a.1
  have ho := (yEc_in (F := F) (T := T) (v := yNd F T e)).1 ⟨o1, o2⟩
  have hsp := Classical.epsilon_spec (p := fun x => yLv M c x = true ∧ yNd F T x = yNd F T e ∧ x ≠ e) ⟨o, ho.1, ho.2, o3⟩
  have heq : yOe M F T c e = o := by
    have hx := (yEc_in (F := F) (T := T) (v := yNd F T e)).2 ⟨hsp.1, hsp.2.1⟩
    rcases o4 _ hx.1 hx.2 with q | q
    · exact absurd q hsp.2.2
    · exact q
  rw [heq]
  refine ⟨ho.1, ho.2, o3, fun x x1 x2 => ?_⟩
  have hx := (yEc_in (F := F) (T := T) (v := yNd F T e)).2 ⟨x1, x2⟩
  exact o4 x hx.1 hx.2

theorem yOe_inv {e : Nat} (he : yLv M c e = true) (h2 : yEc M F T c (yNd F T e) = 2) : yOe M F T c (yOe M F T c e) = e := by
  obtain ⟨a1, a2, a3, a4⟩ := yOe_spec he h2
  obtain ⟨b1, b2, b3, b4⟩ := yOe_spec a1 (by rw [a2]; exact h2)
  rcases b4 e he a2.symm with q | q
  · exact absurd q.symm a3
  · exact q.symm

noncomputable def yWlk (M : Nat) (F T : Nat → Nat) (c : Nat → Bool) (e : Nat) : Nat → Nat
  | 0 => e
  | i+1 => yPt (yOe M F T c (yWlk M F T c e i))

-- no walk goes on for ever
theorem yBpc_ends (h : yBpc N M F T c) {e : Nat} (he : yLv M c e = true) : ∃ t, t < 20 ∧ (∀ i, i < t → yEc M F T c (yNd F T (yWlk M F T c e i)) = 2) ∧ 3 ≤ yEc M F T c (yNd F T (yWlk M F T c e t)) := by
  have hN := h.1
  -- the walk keeps to kept ends as long as nodes have two
  have hkept : ∀ i, (∀ j, j < i → yEc M F T c (yNd F T (yWlk M F T c e j)) = 2) → yLv M c (yWlk M F T c e i) = true := by
    intro i
    induction i with
    | zero => intro _; exact he
    | succ i ih =>
      intro hj
      exact yLv_pt (yOe_spec (ih (fun j hj' => hj j (by omega))) (hj i (by omega))).1
  apply Classical.byContradiction
  intro hno
  have hall : ∀ i, i < 20 → yEc M F T c (yNd F T (yWlk M F T c e i)) = 2 := by
    intro i
    induction i using Nat.strongRecOn with
    | ind i ih =>
      intro hi
      have hk := hkept i (fun j hj => ih j hj (by omega))
      have h2 := yEc_ge2 h hk
      apply Classical.byContradiction
      intro hne
      exact hno ⟨i, hi, fun j hj => ih j hj (by omega), by omega⟩
  have hk : ∀ i, i ≤ 20 → yLv M c (yWlk M F T c e i) = true := fun i hi => hkept i (fun j hj => hall j (by omega))
  -- two of the nodes are one
  have hrep : ∃ i j, i < j ∧ j ≤ 20 ∧ yNd F T (yWlk M F T c e i) = yNd F T (yWlk M F T c e j) := by
    apply Classical.byContradiction
    intro hn
    have := yPig 21 20 (fun i => yNd F T (yWlk M F T c e i)) (fun i hi => by
      have := yBpc_nd h (hk i (by omega))
      show yNd F T (yWlk M F T c e i) < 20
      omega) (fun i j hi hj hij => by
      rcases Nat.lt_trichotomy i j with q | q | q
      · exact absurd ⟨i, j, q, by omega, hij⟩ hn
      · exact q
      · exact absurd ⟨j, i, q, by omega, hij.symm⟩ hn)
    omega
  obtain ⟨i, j, hij, hj20, hnd⟩ := hrep
  -- the walk does not turn back
  have hback : ∀ d i j, j = i + d → 0 < d → j ≤ 20 → yWlk M F T c e j = yOe M F T c (yWlk M F T c e i) → False := by
    intro d
    induction d using Nat.strongRecOn with
    | ind d ih =>
      intro i j hj hd hj20 heq
      by_cases d1 : d = 1
      · subst d1
        rw [hj] at heq
        exact yPt_ne _ (heq : yPt (yOe M F T c (yWlk M F T c e i)) = _)
      · have hj' : j = (j-1)+1 := by omega
        rw [hj'] at heq
        have heq' : yPt (yOe M F T c (yWlk M F T c e (j-1))) = yOe M F T c (yWlk M F T c e i) := heq
        have h1 : yOe M F T c (yWlk M F T c e (j-1)) = yWlk M F T c e (i+1) := by
          show _ = yPt (yOe M F T c (yWlk M F T c e i))
          rw [← heq', yPt_pt]
        have h2 : yWlk M F T c e (j-1) = yOe M F T c (yWlk M F T c e (i+1)) := by
          rw [← h1]; exact (yOe_inv (hk (j-1) (by omega)) (hall (j-1) (by omega))).symm
        by_cases d2 : d = 2
        · have e1 : j - 1 = i + 1 := by omega
          rw [e1] at h2
          have hi1 := hall (i+1) (by omega)
          exact (yOe_spec (hk (i+1) (by omega)) hi1).2.2.1 h2.symm
        · exact ih (d-2) (by omega) (i+1) (j-1) (by omega) (by omega) (by omega) h2
  have hi2 := hall i (by omega)
  have hsame : yWlk M F T c e j = yWlk M F T c e i := by
    rcases (yOe_spec (hk i (by omega)) hi2).2.2.2 _ (hk j hj20) hnd.symm with q | q
    · exact q
    · exact (hback (j-i) i j (by omega) (by omega) hj20 q).elim
  -- so it comes back to where it began
  have hzero : ∀ i j, i < j → j ≤ 20 → yWlk M F T c e j = yWlk M F T c e i → yWlk M F T c e (j-i) = e := by
    intro i
    induction i with
    | zero => intro j _ _ q; exact q
    | succ i ih =>
      intro j hij hj q
      have hj' : j = (j-1)+1 := by omega
      rw [hj'] at q
      have q' : yPt (yOe M F T c (yWlk M F T c e (j-1))) = yPt (yOe M F T c (yWlk M F T c e i)) := q
      have q2 : yOe M F T c (yWlk M F T c e (j-1)) = yOe M F T c (yWlk M F T c e i) := by
        rw [← yPt_pt (yOe M F T c (yWlk M F T c e (j-1))), q', yPt_pt]
      have q3 : yWlk M F T c e (j-1) = yWlk M F T c e i := by
        rw [← yOe_inv (hk (j-1) (by omega)) (hall (j-1) (by omega)), q2, yOe_inv (hk i (by omega)) (hall i (by omega))]
      have := ih (j-1) (by omega) (by omega) q3
      rw [show j - (i+1) = j - 1 - i by omega]; exact this
  have hp := hzero i j hij hj20 hsame
  have hp1 : 1 ≤ j - i := by omega
  have hp20 : j - i ≤ 20 := by omega
  generalize j - i = p at hp hp1 hp20
  -- the round of edges
  have hpt : ∀ i, i < p → ∃ i', i' < p ∧ yPt (yWlk M F T c e i) = yOe M F T c (yWlk M F T c e i') := by
    intro i hi
    by_cases q : i = 0
    · refine ⟨p-1, by omega, ?_⟩
      rw [q]
      have h1 : yWlk M F T c e ((p-1)+1) = e := by rw [show p - 1 + 1 = p by omega]; exact hp
      have h2 : yPt (yOe M F T c (yWlk M F T c e (p-1))) = e := h1
      show yPt e = _
      rw [← h2, yPt_pt, h2]
    · refine ⟨i-1, by omega, ?_⟩
      have h1 : yWlk M F T c e i = yPt (yOe M F T c (yWlk M F T c e (i-1))) := by
        have : i = (i-1)+1 := by omega
        rw [this]; rfl
      rw [h1, yPt_pt]
  have hnx : ∀ i, i < p → ∃ i', i' < p ∧ yPt (yOe M F T c (yWlk M F T c e i)) = yWlk M F T c e i' := by
    intro i hi
    by_cases q : i + 1 = p
    · have hq : yWlk M F T c e (i+1) = e := by rw [q]; exact hp
      exact ⟨0, by omega, hq⟩
    · exact ⟨i+1, by omega, rfl⟩
  have hee : ∀ i, i < p → ∃ i', i' < p ∧ yEe F T (yOe M F T c (yWlk M F T c e i)) = yEe F T (yWlk M F T c e i') := by
    intro i hi
    obtain ⟨i', a1, a2⟩ := hnx i hi
    refine ⟨i', a1, ?_⟩
    rw [← a2]; unfold yEe; rw [yPt_pt, yIx_comm]
  have he' := yLv_iff.1 he
  have hpl := h.2.2.2.2 (e/2) (by have := h.2.1; omega) he'.2
  apply h.2.2.2.1
  rw [yPln_iff (by omega) (yGk_sg h.2.2.1)] at hpl ⊢
  rcases hpl with hpl | hpl
  · exact Or.inl hpl
  right
  -- edges at a node of the round: just two
  have hatn : ∀ i, i < p → ∀ d, d < 1024 → yGr (yGk M F T c) d = true → yI d (yNd F T (yWlk M F T c e i)) = true → d = yEe F T (yWlk M F T c e i) ∨ d = yEe F T (yOe M F T c (yWlk M F T c e i)) := by
    intro i hi d hd hx hI
    obtain ⟨f, f1, f2, f3⟩ := yBpc_at h hd hx hI
    rcases (yOe_spec (hk i (by omega)) (hall i (by omega))).2.2.2 f f1 f2 with q | q
    · left; rw [f3, q]
    · right; rw [f3, q]
  have hdiff : ∀ i, i < p → yEe F T (yWlk M F T c e i) ≠ yEe F T (yOe M F T c (yWlk M F T c e i)) := by
    intro i hi q
    have hs := yOe_spec (hk i (by omega)) (hall i (by omega))
    exact hs.2.2.1 (yBpc_eeinj h hs.1 (hk i (by omega)) q.symm hs.2.1)
  refine yLab_apart (D := fun d => yD (∃ i, i < p ∧ d = yEe F T (yWlk M F T c e i))) hpl (fun d hd hx hD => ?_) (fun d hd hD => ?_) ?_ (fun y hy hev => ?_)
  · apply yBpc_rest h he hd hx
    intro q
    rw [yD_iff0] at hD
    exact hD ⟨0, by omega, q⟩
  · obtain ⟨i, a1, a2⟩ := (yD_iff _).1 hD
    rw [a2]; exact (yBpc_edge h (hk i (by omega))).2.1
  · intro v
    show yX 1024 (fun d => yD (∃ i, i < p ∧ d = yEe F T (yWlk M F T c e i)) && yI d v) = false
    by_cases q : ∃ i, i < p ∧ v = yNd F T (yWlk M F T c e i)
    · obtain ⟨i, a1, a2⟩ := q
      have hs := yOe_spec (hk i (by omega)) (hall i (by omega))
      have b := yBpc_edge h (hk i (by omega))
      have b' := yBpc_edge h hs.1
      rw [a2, yX_two 1024 _ (yEe F T (yWlk M F T c e i)) (yEe F T (yOe M F T c (yWlk M F T c e i))) b.1 b'.1 (hdiff i a1)]
      · rw [yD_pos ⟨i, a1, rfl⟩, (b.2.2 _).2 (Or.inl rfl)]
        obtain ⟨i', c1, c2⟩ := hee i a1
        rw [yD_pos ⟨i', c1, c2⟩, (b'.2.2 _).2 (Or.inl hs.2.1.symm)]
        rfl
      · intro d hd n1 n2
        cases hD : yD (∃ i, i < p ∧ d = yEe F T (yWlk M F T c e i)) with
        | false => rfl
        | true =>
          cases hI : yI d (yNd F T (yWlk M F T c e i)) with
          | false => rfl
          | true =>
            exfalso
            obtain ⟨i', c1, c2⟩ := (yD_iff _).1 hD
            have hx : yGr (yGk M F T c) d = true := by rw [c2]; exact (yBpc_edge h (hk i' (by omega))).2.1
            rcases hatn i a1 d hd hx hI with r | r
            · exact n1 r
            · exact n2 r
    · apply yX_false
      intro d hd
      cases hD : yD (∃ i, i < p ∧ d = yEe F T (yWlk M F T c e i)) with
      | false => rfl
      | true =>
        cases hI : yI d v with
        | false => rfl
        | true =>
          exfalso
          obtain ⟨i, c1, c2⟩ := (yD_iff _).1 hD
          rw [c2] at hI
          rcases ((yBpc_edge h (hk i (by omega))).2.2 v).1 hI with r | r
          · exact q ⟨i, c1, r⟩
          · obtain ⟨i', d1, d2⟩ := hpt i c1
            rw [d2, (yOe_spec (hk i' (by omega)) (hall i' (by omega))).2.1] at r
            exact q ⟨i', d1, r⟩
  · -- all or none
    have hstep : ∀ i, i < p → y (yEe F T (yWlk M F T c e i)) = y (yEe F T (yOe M F T c (yWlk M F T c e i))) := by
      intro i hi
      have hs := yOe_spec (hk i (by omega)) (hall i (by omega))
      have b := yBpc_edge h (hk i (by omega))
      have b' := yBpc_edge h hs.1
      have hpar := hev (yNd F T (yWlk M F T c e i))
      rw [yX_two 1024 _ (yEe F T (yWlk M F T c e i)) (yEe F T (yOe M F T c (yWlk M F T c e i))) b.1 b'.1 (hdiff i hi)] at hpar
      · rw [(b.2.2 _).2 (Or.inl rfl), (b'.2.2 _).2 (Or.inl hs.2.1.symm), Bool.and_true, Bool.and_true] at hpar
        revert hpar
        cases y (yEe F T (yWlk M F T c e i)) <;> cases y (yEe F T (yOe M F T c (yWlk M F T c e i))) <;> simp
      · intro d hd n1 n2
        cases hyd : y d with
        | false => rfl
        | true =>
          cases hI : yI d (yNd F T (yWlk M F T c e i)) with
          | false => rfl
          | true =>
            exfalso
            rcases hatn i hi d hd (hy d hd hyd) hI with r | r
            · exact n1 r
            · exact n2 r
    refine ⟨y (yEe F T e), fun d hd hD => ?_⟩
    obtain ⟨i, a1, a2⟩ := (yD_iff _).1 hD
    rw [a2]
    clear hD a2
    induction i with
    | zero => rfl
    | succ i ih =>
      rw [← ih (by omega), hstep i (by omega)]
      show y (yEe F T (yPt (yOe M F T c (yWlk M F T c e i)))) = _
      congr 1
      unfold yEe; rw [yPt_pt, yIx_comm]
end


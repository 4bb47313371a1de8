
-- a graph that takes no more edge
def yMax (n : Nat) (X : Nat → Bool) : Prop :=
  n ≤ 32 ∧ 3 ≤ n ∧ (∀ e, e < 1024 → X e = true → e/32 < e%32 ∧ e%32 < n) ∧ yLab X ∧
  ∀ a b, a < b → b < n → X (yIx a b) = false → ¬ yLab (fun e => X e || decide (e = yIx a b))

section
variable {n : Nat} {X : Nat → Bool}

theorem yMax_ends (h : yMax n X) {e : Nat} (he : e < 1024) (hx : X e = true) : ∀ v, yI e v = true ↔ (v = e/32 ∨ v = e%32) := by
  intro v
  have h1 := h.2.2.1 e he hx
  have hn := h.1
  have := yI_iff (a := e/32) (b := e%32) (by omega) (by omega) (by omega) v
  rw [yIx_de h1.1] at this
  exact this

theorem yMax_nodes (h : yMax n X) : ∀ e, e < 1024 → X e = true → ∃ p q, p ≠ q ∧ p < 32 ∧ q < 32 ∧ ∀ v, yI e v = true ↔ (v = p ∨ v = q) := by
  intro e he hx
  have h1 := h.2.2.1 e he hx
  have hn := h.1
  exact ⟨e/32, e%32, by omega, by omega, by omega, yMax_ends h he hx⟩

theorem yMax_con (h : yMax n X) (U : Nat → Bool) (hU : ∀ e, e < 1024 → X e = true → U (e/32) = U (e%32)) : ∀ p q, p < n → q < n → U p = U q := by
  have key : ∀ p q, p < q → q < n → U p = U q := by
    intro p q hpq hq
    have hn := h.1
    have hd := yIx_div (by omega : q < 32) hpq
    cases hx : X (yIx p q) with
    | true =>
      have := hU _ (yIx_lt (by omega) (by omega)) hx
      rw [hd.1, hd.2] at this; exact this
    | false =>
      by_cases c : U p = U q
      · exact c
      · exfalso
        refine h.2.2.2.2 p q hpq hq hx (yLab_bridge h.2.2.2.1 (yIx_lt (by omega) (by omega)) U ?_ hU)
        rw [hd.1, hd.2]; exact c
  intro p q hp hq
  rcases Nat.lt_trichotomy p q with c | c | c
  · exact key p q c hq
  · rw [c]
  · exact (key q p c hp).symm

-- every node has an edge
theorem yMax_edge (h : yMax n X) {v : Nat} (hv : v < n) : ∃ e, e < 1024 ∧ X e = true ∧ yI e v = true := by
  by_cases c : ∃ e, e < 1024 ∧ X e = true ∧ yI e v = true
  · exact c
  · exfalso
    have h3 := h.2.1
    have hU := yMax_con h (fun x => decide (x = v)) (by
      intro e he hx
      have hI := yMax_ends h he hx v
      have hn : ¬ yI e v = true := fun hh => c ⟨e, he, hx, hh⟩
      rw [hI] at hn
      have n1 : ¬ e/32 = v := fun hh => hn (Or.inl hh.symm)
      have n2 : ¬ e%32 = v := fun hh => hn (Or.inr hh.symm)
      simp [n1, n2])
    have := hU v (if v = 0 then 1 else 0) hv (by split <;> omega)
    by_cases c0 : v = 0
    · simp [c0] at this
    · simp [c0] at this; omega

theorem yEv_tri {a b c : Nat} (ha : a < 32) (hb : b < 32) (hc : c < 32) (hab : a ≠ b) (hac : a ≠ c) (hbc : b ≠ c) :
    yEv 1024 yI (fun e => decide (e = yIx b c ∨ e = yIx a b ∨ e = yIx a c)) := by
  have h1 := yI_iff ha hb hab; have h2 := yI_iff ha hc hac; have h3 := yI_iff hb hc hbc
  have n1 : yIx b c ≠ yIx a b := fun h => by rcases yIx_inj hb hc ha hb h with d | d <;> omega
  have n2 : yIx b c ≠ yIx a c := fun h => by rcases yIx_inj hb hc ha hc h with d | d <;> omega
  have n3 : yIx a b ≠ yIx a c := fun h => by rcases yIx_inj ha hb ha hc h with d | d <;> omega
  intro v
  have hsplit : yX 1024 (fun e => decide (e = yIx b c ∨ e = yIx a b ∨ e = yIx a c) && yI e v) =
      Bool.xor (yX 1024 (fun e => decide (e = yIx b c) && yI e v)) (Bool.xor (yX 1024 (fun e => decide (e = yIx a b) && yI e v)) (yX 1024 (fun e => decide (e = yIx a c) && yI e v))) := by
    rw [← yX_xor, ← yX_xor]
    apply yX_congr
    intro e _
    by_cases c1 : e = yIx b c
    · subst c1; simp [n1, n2]
    · by_cases c2 : e = yIx a b
      · subst c2; simp [n1.symm, n3]
      · by_cases c3 : e = yIx a c
        · subst c3; simp [n2.symm, n3.symm]
        · simp [c1, c2, c3]
  have one : ∀ x y, x < 32 → y < 32 → yX 1024 (fun e => decide (e = yIx x y) && yI e v) = yI (yIx x y) v := by
    intro x y hx hy
    rw [yX_one 1024 _ (yIx x y) (yIx_lt hx hy) (fun i _ hi => by simp [hi])]; simp
  rw [hsplit, one b c hb hc, one a b ha hb, one a c ha hc]
  have e1 : yI (yIx a b) v = decide (v = a ∨ v = b) := by rw [Bool.eq_iff_iff, h1 v, decide_eq_true_iff]
  have e2 : yI (yIx a c) v = decide (v = a ∨ v = c) := by rw [Bool.eq_iff_iff, h2 v, decide_eq_true_iff]
  have e3 : yI (yIx b c) v = decide (v = b ∨ v = c) := by rw [Bool.eq_iff_iff, h3 v, decide_eq_true_iff]
  rw [e1, e2, e3]
  by_cases c1 : v = a
  · subst c1; simp [hab, hac]
  · by_cases c2 : v = b
    · subst c2; simp [hab.symm, hbc]
    · by_cases c3 : v = c
      · subst c3; simp [hac.symm, hbc.symm]
      · simp [c1, c2, c3]

theorem yMax_co (h : yMax n X) {v x y : Nat} (hv : v < n) (hx : x < n) (hy : y < n) (hxv : x ≠ v) (hyv : y ≠ v) (h1 : X (yIx v x) = true) (h2 : X (yIx v y) = true) : yCo 1024 yI X v x y := by
  have hn := h.1
  by_cases hco : yCo 1024 yI X v x y
  · exact hco
  · exfalso
    have hxy : x ≠ y := fun c => hco (by rw [c]; exact yCo_refl _ _ _ _ _)
    have l1 : yIx v x < 1024 := yIx_lt (by omega) (by omega)
    have l2 : yIx v y < 1024 := yIx_lt (by omega) (by omega)
    have l0 : yIx x y < 1024 := yIx_lt (by omega) (by omega)
    have i1 := yI_iff (a := v) (b := x) (by omega) (by omega) (Ne.symm hxv)
    have i2 := yI_iff (a := v) (b := y) (by omega) (by omega) (Ne.symm hyv)
    have i0 := yI_iff (a := x) (b := y) (by omega) (by omega) hxy
    have hX0 : X (yIx x y) = false := by
      cases hh : X (yIx x y) with
      | false => rfl
      | true => exact absurd (yCo_step (yCo_refl _ _ _ v x) (yIx x y) l0 hh ((i0 x).2 (Or.inl rfl)) ((i0 y).2 (Or.inr rfl)) hxv hyv) hco
    obtain ⟨cls, hbl⟩ := yBl_ex 1024 yI X
    have hcls : cls (yIx v x) ≠ cls (yIx v y) := by
      intro hc
      exact hco ((yBl_at (yMax_nodes h) hbl v (yIx v x) x (yIx v y) y l1 l2 h1 h2 ((i1 v).2 (Or.inl rfl)) ((i1 x).2 (Or.inr rfl)) ((i2 v).2 (Or.inl rfl)) ((i2 y).2 (Or.inr rfl)) hxv hyv).1 hc)
    -- labels for each class
    have hall : ∀ r, yLab (fun e => X e && decide (cls e = r)) := fun r => yLab_sub h.2.2.2.1 (fun e _ hh => by rw [Bool.and_eq_true] at hh; exact hh.1)
    have hch : ∃ L : Nat → Bool → Nat → Nat, ∀ r, yDs 1024 yI (fun e => X e && decide (cls e = r)) (fun _ => false) (L r false) (L r true) :=
      ⟨fun r => Classical.choose (hall r), fun r => Classical.choose_spec (hall r)⟩
    obtain ⟨L, hL⟩ := hch
    have hj := yBl_join (yMax_nodes h) hbl (fun r => L r false) (fun r => L r true) hL
    have hne1 : yIx x y ≠ yIx v x := fun hh => by rcases yIx_inj (by omega) (by omega) (by omega) (by omega) hh with d | d <;> omega
    have hne2 : yIx x y ≠ yIx v y := fun hh => by rcases yIx_inj (by omega) (by omega) (by omega) (by omega) hh with d | d <;> omega
    have hne3 : yIx v x ≠ yIx v y := fun hh => hcls (by rw [hh])
    obtain ⟨s', t', hd⟩ := yDs_join3 hj l0 l1 l2 hne1 hne2 hne3 hX0 h1 h2 (yEv_tri (by omega) (by omega) (by omega) (Ne.symm hxv) (Ne.symm hyv) hxy) (by
      intro y' hy' hev
      obtain ⟨c, hc⟩ := hj.2 y' hy' hev
      refine ⟨fun p => Bool.xor (c p) (decide (p.1 = cls (yIx v y)) && Bool.xor (c (cls (yIx v x), L (cls (yIx v x)) false (yIx v x))) (c (cls (yIx v y), L (cls (yIx v y)) false (yIx v y)))), ?_, ?_⟩
      · simp [hcls]
        cases c (cls (yIx v x), L (cls (yIx v x)) false (yIx v x)) <;> cases c (cls (yIx v y), L (cls (yIx v y)) false (yIx v y)) <;> rfl
      · intro e he hx'
        rw [hc e he hx']
        dsimp only
        generalize (decide (cls e = cls (yIx v y)) && Bool.xor (c (cls (yIx v x), L (cls (yIx v x)) false (yIx v x))) (c (cls (yIx v y), L (cls (yIx v y)) false (yIx v y)))) = w
        cases c (cls e, L (cls e) true e) <;> cases c (cls e, L (cls e) false e) <;> cases w <;> rfl)
    -- labels as numbers
    have hlab : yLab (fun e => X e || decide (e = yIx x y)) := by
      obtain ⟨nm, hnm⟩ := yPairNum
      have := yDs_inj hd (fun o => match o with | none => 0 | some p => nm p + 1) (by
        intro a b hab
        cases a <;> cases b <;> simp at hab
        · rfl
        · exact congrArg some (hnm _ _ hab))
      exact ⟨fun b e => if b then (match t' e with | none => 0 | some p => nm p + 1) else (match s' e with | none => 0 | some p => nm p + 1), this⟩
    rcases Nat.lt_or_ge x y with c | c
    · exact h.2.2.2.2 x y c hy hX0 hlab
    · rw [yIx_comm] at hX0 hlab
      exact h.2.2.2.2 y x (by omega) hx hX0 hlab

theorem yMax_one (h : yMax n X) {cl : Nat → Nat} (hbl : yBl 1024 yI X cl) : ∀ e e', e < 1024 → e' < 1024 → X e = true → X e' = true → cl e = cl e' := by
  have hadj : ∀ e e' v, e < 1024 → e' < 1024 → X e = true → X e' = true → yI e v = true → yI e' v = true → cl e = cl e' := by
    intro e e' v he he' hx hx' hv hv'
    have hn := h.1
    have g := h.2.2.1 e he hx; have g' := h.2.2.1 e' he' hx'
    have I1 := yMax_ends h he hx; have I2 := yMax_ends h he' hx'
    have hvn : v < n := by rcases (I1 v).1 hv with c | c <;> omega
    have o1 : ∃ x, x ≠ v ∧ x < n ∧ yI e x = true ∧ yIx v x = e := by
      rcases (I1 v).1 hv with c | c
      · exact ⟨e%32, by omega, by omega, (I1 _).2 (Or.inr rfl), by rw [c, yIx_de g.1]⟩
      · exact ⟨e/32, by omega, by omega, (I1 _).2 (Or.inl rfl), by rw [c, yIx_comm, yIx_de g.1]⟩
    have o2 : ∃ x, x ≠ v ∧ x < n ∧ yI e' x = true ∧ yIx v x = e' := by
      rcases (I2 v).1 hv' with c | c
      · exact ⟨e'%32, by omega, by omega, (I2 _).2 (Or.inr rfl), by rw [c, yIx_de g'.1]⟩
      · exact ⟨e'/32, by omega, by omega, (I2 _).2 (Or.inl rfl), by rw [c, yIx_comm, yIx_de g'.1]⟩
    obtain ⟨x, x1, x2, x3, x4⟩ := o1
    obtain ⟨y, y1, y2, y3, y4⟩ := o2
    exact hbl.1 e e' v x y he he' hx hx' hv x3 hv' y3 x1 y1 (yMax_co h hvn x2 y2 x1 y1 (by rw [x4]; exact hx) (by rw [y4]; exact hx'))
  intro e e' he he' hx hx'
  have hU := yMax_con h (fun v => yD (∃ d, d < 1024 ∧ X d = true ∧ yI d v = true ∧ cl d = cl e)) (by
    intro d hd hxd
    have Id := yMax_ends h hd hxd
    have st : ∀ p q, yI d p = true → yI d q = true → (∃ d', d' < 1024 ∧ X d' = true ∧ yI d' p = true ∧ cl d' = cl e) → (∃ d', d' < 1024 ∧ X d' = true ∧ yI d' q = true ∧ cl d' = cl e) := by
      rintro p q hp hq ⟨d', a1, a2, a3, a4⟩
      exact ⟨d, hd, hxd, hq, by rw [hadj d d' p hd a1 hxd a2 hp a3]; exact a4⟩
    rw [Bool.eq_iff_iff, yD_iff, yD_iff]
    exact ⟨st _ _ ((Id _).2 (Or.inl rfl)) ((Id _).2 (Or.inr rfl)), st _ _ ((Id _).2 (Or.inr rfl)) ((Id _).2 (Or.inl rfl))⟩)
  have g := h.2.2.1 e he hx; have g' := h.2.2.1 e' he' hx'
  have := hU (e%32) (e'%32) g.2 g'.2
  rw [yD_pos ⟨e, he, hx, (yMax_ends h he hx _).2 (Or.inr rfl), rfl⟩] at this
  obtain ⟨d, d1, d2, d3, d4⟩ := (yD_iff _).1 this.symm
  rw [hadj e' d (e'%32) he' d1 hx' d2 ((yMax_ends h he' hx' _).2 (Or.inr rfl)) d3, d4]

theorem yMax_v2 (h : yMax n X) : yV2 1024 yI X := by
  obtain ⟨cl, hbl⟩ := yBl_ex 1024 yI X
  have h1 := yMax_one h hbl
  by_cases hex : ∃ e, e < 1024 ∧ X e = true
  · obtain ⟨e0, he0, hx0⟩ := hex
    refine yV2_congr (yBl_v2 (yMax_nodes h) hbl (cl e0)) ?_
    intro e he
    cases hx : X e with
    | false => rfl
    | true => rw [h1 e e0 he he0 hx hx0]; simp
  · intro v a b ha _ _ hxa
    exact absurd ⟨a, ha, hxa⟩ hex
end


-- FILLED
def ySg (n : Nat) (g : Nat → Nat → Bool) : Prop := (∀ v w, g v w = true → v < n ∧ w < n ∧ v ≠ w) ∧ (∀ v w, g v w = g w v)
def yAddE (g : Nat → Nat → Bool) (a b v w : Nat) : Bool := g v w || decide ((v = a ∧ w = b) ∨ (v = b ∧ w = a))
def yUp (g G : Nat → Nat → Bool) (c v w : Nat) : Bool := g v w || (G v w && decide (yIx v w < c))
def yFl (n : Nat) (g G : Nat → Nat → Bool) : Prop :=
  ySg n G ∧ (∀ v w, g v w = true → G v w = true) ∧ ∀ a b, a < b → b < n → g a b = false → (G a b = true ↔ yPln n (yAddE (yUp g G (yIx a b)) a b))

section
variable {n : Nat} {g G : Nat → Nat → Bool}

theorem yGr_node {n e : Nat} {g : Nat → Nat → Bool} (hg : ySg n g) (h : yGr g e = true) : e/32 < e%32 ∧ e%32 < n := by
  unfold yGr at h
  rw [Bool.and_eq_true, decide_eq_true_iff] at h
  exact ⟨h.1, (hg.1 _ _ h.2).2.1⟩

theorem yPln_iff (hn : n ≤ 32) (hg : ySg n g) : yPln n g ↔ (n < 3 ∨ yLab (yGr g)) := by
  constructor
  · rintro (h | h)
    · exact Or.inl h
    · exact Or.inr h.2
  · rintro (h | h)
    · exact Or.inl h
    · rcases Nat.lt_or_ge n 3 with c | c
      · exact Or.inl c
      · refine Or.inr ⟨?_, h⟩
        rw [yHand2 hn hg.1 hg.2]
        obtain ⟨lab, hl⟩ := h
        have := yEuler c hn (fun e _ hx => yGr_node hg hx) hl
        omega

theorem yGr_mono {g g' : Nat → Nat → Bool} (h : ∀ v w, g v w = true → g' v w = true) (e : Nat) (hx : yGr g e = true) : yGr g' e = true := by
  unfold yGr at hx ⊢
  rw [Bool.and_eq_true] at hx ⊢
  exact ⟨hx.1, h _ _ hx.2⟩

theorem yPln_mono {g g' : Nat → Nat → Bool} (hn : n ≤ 32) (hg : ySg n g) (hg' : ySg n g') (h : ∀ v w, g v w = true → g' v w = true) (hp : yPln n g') : yPln n g := by
  rw [yPln_iff hn hg'] at hp
  rw [yPln_iff hn hg]
  rcases hp with c | c
  · exact Or.inl c
  · exact Or.inr (yLab_sub c (fun e _ hx => yGr_mono h e hx))

theorem yAddE_gs {a b : Nat} (hg : ySg n g) (ha : a < n) (hb : b < n) (hab : a ≠ b) : ySg n (yAddE g a b) := by
  constructor
  · intro v w h
    unfold yAddE at h
    rw [Bool.or_eq_true, decide_eq_true_iff] at h
    rcases h with h | h | h
    · exact hg.1 v w h
    · omega
    · omega
  · intro v w
    unfold yAddE
    rw [hg.2 v w]
    congr 1
    rw [decide_eq_decide]
    omega

theorem yUp_gs {c : Nat} (hg : ySg n g) (hG : ySg n G) : ySg n (yUp g G c) := by
  constructor
  · intro v w h
    unfold yUp at h
    rw [Bool.or_eq_true, Bool.and_eq_true] at h
    rcases h with h | h
    · exact hg.1 v w h
    · exact hG.1 v w h.1
  · intro v w
    unfold yUp
    rw [hg.2 v w, hG.2 v w, yIx_comm]

theorem yGr_add {a b : Nat} (hn : n ≤ 32) (hg : ySg n g) (ha : a < n) (hb : b < n) (hab : a ≠ b) (e : Nat) (he : e < 1024) : yGr (yAddE g a b) e = (yGr g e || decide (e = yIx a b)) := by
  have hA := yAddE_gs hg ha hb hab
  rw [Bool.eq_iff_iff, Bool.or_eq_true, decide_eq_true_iff]
  constructor
  · intro h
    have hh := yGr_node hA h
    unfold yGr at h ⊢
    rw [Bool.and_eq_true] at h
    have h2 := h.2
    unfold yAddE at h2
    rw [Bool.or_eq_true, decide_eq_true_iff] at h2
    rcases h2 with c | c | c
    · left; rw [h.1, c]; rfl
    · right; rw [← c.1, ← c.2, yIx_de hh.1]
    · right; rw [← c.1, ← c.2, yIx_comm, yIx_de hh.1]
  · rintro (h | h)
    · exact yGr_mono (fun v w hv => by unfold yAddE; rw [hv]; rfl) e h
    · rw [h, yGr_iff hn hA.1 hA.2 a b (by omega) (by omega)]
      unfold yAddE; simp

-- FILLED is one graph
theorem yFl_uniq {G' : Nat → Nat → Bool} (hn : n ≤ 32) (h : yFl n g G) (h' : yFl n g G') : ∀ v w, G v w = G' v w := by
  have key : ∀ c v w, yIx v w < c → G v w = G' v w := by
    intro c
    induction c with
    | zero => intro v w hh; omega
    | succ c ih =>
      have lt : ∀ v w, v < w → yIx v w < c + 1 → G v w = G' v w := by
        intro v w hvw hc
        by_cases hw : w < n
        · cases hgv : g v w with
          | true => rw [h.2.1 v w hgv, h'.2.1 v w hgv]
          | false =>
            rw [Bool.eq_iff_iff, h.2.2 v w hvw hw hgv, h'.2.2 v w hvw hw hgv]
            have : yUp g G (yIx v w) = yUp g G' (yIx v w) := by
              funext x y
              unfold yUp
              by_cases d : yIx x y < yIx v w
              · rw [ih x y (by omega)]
              · rw [decide_eq_false d, Bool.and_false, Bool.and_false]
            rw [this]
        · have z1 : G v w = false := by
            cases hh : G v w with
            | false => rfl
            | true => have := h.1.1 v w hh; omega
          have z2 : G' v w = false := by
            cases hh : G' v w with
            | false => rfl
            | true => have := h'.1.1 v w hh; omega
          rw [z1, z2]
      intro v w hc
      rcases Nat.lt_trichotomy v w with d | d | d
      · exact lt v w d hc
      · have z1 : G v w = false := by
          cases hh : G v w with
          | false => rfl
          | true => have := h.1.1 v w hh; omega
        have z2 : G' v w = false := by
          cases hh : G' v w with
          | false => rfl
          | true => have := h'.1.1 v w hh; omega
        rw [z1, z2]
      · rw [h.1.2, h'.1.2]
        exact lt w v d (by rw [yIx_comm]; exact hc)
  intro v w
  exact key (yIx v w + 1) v w (by omega)

theorem yUp_all (hn : n ≤ 32) (h : yFl n g G) (v w : Nat) : yUp g G 1024 v w = G v w := by
  unfold yUp
  cases hh : G v w with
  | true =>
    have := h.1.1 v w hh
    rw [decide_eq_true (yIx_lt (by omega) (by omega))]; simp
  | false =>
    cases hg : g v w with
    | false => rfl
    | true => have := h.2.1 v w hg; rw [hh] at this; cases this

theorem yFl_pln (hn : n ≤ 32) (hg : ySg n g) (h : yFl n g G) (hp : yPln n g) : yPln n G := by
  have key : ∀ c, c ≤ 1024 → yPln n (yUp g G c) := by
    intro c
    induction c with
    | zero =>
      intro _
      have : yUp g G 0 = g := by funext v w; unfold yUp; simp
      rw [this]; exact hp
    | succ c ih =>
      intro hc
      by_cases hex : ∃ a b, a < b ∧ b < n ∧ yIx a b = c ∧ g a b = false ∧ G a b = true
      · obtain ⟨a, b, hab, hb, hcd, hga, hGa⟩ := hex
        have h1 := (h.2.2 a b hab hb hga).1 hGa
        have : yUp g G (c+1) = yAddE (yUp g G (yIx a b)) a b := by
          funext v w
          unfold yUp yAddE
          rw [hcd]
          by_cases d : (v = a ∧ w = b) ∨ (v = b ∧ w = a)
          · have : yIx v w = c := by
              rcases d with d | d
              · rw [d.1, d.2]; exact hcd
              · rw [d.1, d.2, yIx_comm]; exact hcd
            have hGv : G v w = true := by
              rcases d with d | d
              · rw [d.1, d.2]; exact hGa
              · rw [d.1, d.2, h.1.2]; exact hGa
            rw [this, decide_eq_true d, hGv]
            simp
          · rw [decide_eq_false d, Bool.or_false]
            congr 1
            cases hGv : G v w with
            | false => rfl
            | true =>
              have hv := h.1.1 v w hGv
              have : yIx v w ≠ c := by
                intro hh
                apply d
                rw [← hcd] at hh
                exact yIx_inj (by omega) (by omega) (by omega) (by omega) hh
              congr 1
              rw [decide_eq_decide]; omega
        rw [this]; exact h1
      · have : yUp g G (c+1) = yUp g G c := by
          funext v w
          unfold yUp
          cases hgv : g v w with
          | true => rfl
          | false =>
            cases hGv : G v w with
            | false => rfl
            | true =>
              have hv := h.1.1 v w hGv
              have : yIx v w ≠ c := by
                intro hh
                rcases Nat.lt_or_ge v w with d | d
                · exact hex ⟨v, w, d, hv.2.1, hh, hgv, hGv⟩
                · exact hex ⟨w, v, by omega, hv.1, by rw [yIx_comm]; exact hh, by rw [hg.2]; exact hgv, by rw [h.1.2]; exact hGv⟩
              congr 2
              rw [decide_eq_decide]; omega
        rw [this]; exact ih (by omega)
  have := key 1024 (Nat.le_refl _)
  have he : yUp g G 1024 = G := by funext v w; exact yUp_all hn h v w
  rw [he] at this; exact this

theorem yFl_max (hn : n ≤ 32) (h3 : 3 ≤ n) (hg : ySg n g) (h : yFl n g G) (hp : yPln n g) : yMax n (yGr G) := by
  refine ⟨hn, h3, fun e _ hx => yGr_node h.1 hx, ?_, ?_⟩
  · rcases (yPln_iff hn h.1).1 (yFl_pln hn hg h hp) with c | c
    · omega
    · exact c
  · intro a b hab hb hX hl
    rw [yGr_iff hn h.1.1 h.1.2 a b (by omega) (by omega)] at hX
    have hga : g a b = false := by
      cases hh : g a b with
      | false => rfl
      | true => have := h.2.1 a b hh; rw [hX] at this; cases this
    have hno : ¬ yPln n (yAddE (yUp g G (yIx a b)) a b) := by
      intro hh
      have := (h.2.2 a b hab hb hga).2 hh
      rw [hX] at this; cases this
    apply hno
    rw [yPln_iff hn (yAddE_gs (yUp_gs hg h.1) (by omega) hb (by omega))]
    right
    refine yLab_sub hl ?_
    intro e he hx
    rw [yGr_add hn (yUp_gs hg h.1) (by omega) hb (by omega) e he, Bool.or_eq_true] at hx
    rw [Bool.or_eq_true]
    rcases hx with c | c
    · left
      refine yGr_mono ?_ e c
      intro v w hv
      unfold yUp at hv
      rw [Bool.or_eq_true, Bool.and_eq_true] at hv
      rcases hv with d | d
      · exact h.2.1 v w d
      · exact d.1
    · exact Or.inr c

-- FILLED of a graph in between
theorem yFl_mid {W : Nat → Nat → Bool} (hn : n ≤ 32) (hg : ySg n g) (hW : ySg n W) (h : yFl n g G) (hp : yPln n g) (h1 : ∀ v w, g v w = true → W v w = true) (h2 : ∀ v w, W v w = true → G v w = true) : yFl n W G := by
  refine ⟨h.1, h2, ?_⟩
  intro a b hab hb hWa
  have hga : g a b = false := by
    cases hh : g a b with
    | false => rfl
    | true => have := h1 a b hh; rw [hWa] at this; cases this
  constructor
  · intro hGa
    refine yPln_mono hn (yAddE_gs (yUp_gs hW h.1) (by omega) hb (by omega)) h.1 ?_ (yFl_pln hn hg h hp)
    intro v w hv
    unfold yAddE yUp at hv
    rw [Bool.or_eq_true, Bool.or_eq_true, Bool.and_eq_true, decide_eq_true_iff, decide_eq_true_iff] at hv
    rcases hv with (d | d) | d | d
    · exact h2 v w d
    · exact d.1
    · rw [d.1, d.2]; exact hGa
    · rw [d.1, d.2, h.1.2]; exact hGa
  · intro hh
    apply (h.2.2 a b hab hb hga).2
    refine yPln_mono hn (yAddE_gs (yUp_gs hg h.1) (by omega) hb (by omega)) (yAddE_gs (yUp_gs hW h.1) (by omega) hb (by omega)) ?_ hh
    intro v w hv
    unfold yAddE yUp at hv ⊢
    rw [Bool.or_eq_true, Bool.or_eq_true] at hv ⊢
    rcases hv with (d | d) | d
    · exact Or.inl (Or.inl (h1 v w d))
    · exact Or.inl (Or.inr d)
    · exact Or.inr d
end


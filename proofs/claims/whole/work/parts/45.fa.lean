-- a deep-first search, with numbers
-- n nodes, g neighbours; vis: seen, ht: height, par: from where; op: neighbours not yet looked at; fin: left for good
-- nb back arcs, bs: from where, bl: the height where they end
def yPar (par : Nat → Nat) : Nat → Nat → Nat
  | 0, q => q
  | k+1, q => yPar par k (par q)

def yUpp (ht par : Nat → Nat) (q j : Nat) : Nat := yPar par (ht q - j) q

-- x lies on the way from w to the root
def yAn (ht par : Nat → Nat) (x w : Nat) : Prop := ht x ≤ ht w ∧ yUpp ht par w (ht x) = x

def yDf (n : Nat) (g : Nat → Nat → Bool) (vis fin : Nat → Bool) (ht par : Nat → Nat) (op : Nat → Nat → Bool) (nb : Nat) (bs bl : Nat → Nat) : Prop :=
  (∀ w, vis w = true → w < n) ∧
  (∀ w, vis w = true → 0 < ht w → vis (par w) = true ∧ g (par w) w = true ∧ ht (par w) + 1 = ht w ∧ op (par w) w = false) ∧
  (∀ w x, op w x = true → g w x = true) ∧
  (∀ w x, vis w = false → op w x = g w x) ∧
  (∀ w, fin w = true → vis w = true ∧ ∀ x, op w x = false) ∧
  (∀ w, vis w = true → fin w = false → 0 < ht w → fin (par w) = false) ∧
  (∀ w x, vis w = true → g w x = true → op w x = false → vis x = true ∧ (yAn ht par x w ∨ yAn ht par w x)) ∧
  (∀ j, j < nb → vis (bs j) = true ∧ ∃ x, g (bs j) x = true ∧ op (bs j) x = false ∧ vis x = true ∧ ht x = bl j ∧ bl j + 1 < ht (bs j)) ∧
  (∀ i j, i < nb → j < nb → bs i = bs j → bl i = bl j → i = j) ∧
  (∀ w x, vis w = true → g w x = true → op w x = false → ht x + 1 < ht w → ∃ j, j < nb ∧ bs j = w ∧ bl j = ht x)

theorem yPar_add (par : Nat → Nat) (a b q : Nat) : yPar par (a + b) q = yPar par a (yPar par b q) := by
  induction b generalizing q with
  | zero => rfl
  | succ b ih => rw [← Nat.add_assoc]; show yPar par (a + b) (par q) = _; rw [ih]; rfl

theorem yPar_succ (par : Nat → Nat) (k q : Nat) : yPar par (k+1) q = par (yPar par k q) := by
  rw [Nat.add_comm, yPar_add]; rfl

section
variable {n : Nat} {g : Nat → Nat → Bool} {vis fin : Nat → Bool} {ht par : Nat → Nat} {op : Nat → Nat → Bool} {nb : Nat} {bs bl : Nat → Nat}

theorem yPar_vis (h : ∀ w, vis w = true → 0 < ht w → vis (par w) = true ∧ ht (par w) + 1 = ht w) (k : Nat) : ∀ q, vis q = true → k ≤ ht q →
    vis (yPar par k q) = true ∧ ht (yPar par k q) = ht q - k := by
  induction k with
  | zero => intro q hq _; exact ⟨hq, rfl⟩
  | succ k ih =>
    intro q hq hk
    have h1 := h q hq (by omega)
    have h2 := ih (par q) h1.1 (by omega)
    refine ⟨h2.1, ?_⟩
    show ht (yPar par k (par q)) = _
    rw [h2.2]; omega

-- on seen nodes the ways do not change when others are added
theorem yPar_same {par' : Nat → Nat} (h : ∀ w, vis w = true → 0 < ht w → vis (par w) = true ∧ ht (par w) + 1 = ht w)
    (hp : ∀ w, vis w = true → 0 < ht w → par' w = par w) (k : Nat) : ∀ q, vis q = true → k ≤ ht q → yPar par' k q = yPar par k q := by
  induction k with
  | zero => intro q _ _; rfl
  | succ k ih =>
    intro q hq hk
    have h1 := h q hq (by omega)
    show yPar par' k (par' q) = yPar par k (par q)
    rw [hp q hq (by omega)]
    exact ih (par q) h1.1 (by omega)

theorem yAn_refl (w : Nat) : yAn ht par w w := by
  refine ⟨Nat.le_refl _, ?_⟩
  unfold yUpp; rw [Nat.sub_self]; rfl

-- an ancestor of the node from where is one
theorem yAn_up (h : ∀ w, vis w = true → 0 < ht w → vis (par w) = true ∧ ht (par w) + 1 = ht w) {x w : Nat} (hw : vis w = true) (h0 : 0 < ht w)
    (ha : yAn ht par x (par w)) : yAn ht par x w := by
  have h1 := h w hw h0
  refine ⟨by have := ha.1; omega, ?_⟩
  have h2 := ha.2
  have h3 := ha.1
  unfold yUpp at h2 ⊢
  have : ht w - ht x = (ht (par w) - ht x) + 1 := by omega
  rw [this]; exact h2

theorem yAn_down (h : ∀ w, vis w = true → 0 < ht w → vis (par w) = true ∧ ht (par w) + 1 = ht w) {x w : Nat} (hw : vis w = true) (hne : x ≠ w)
    (ha : yAn ht par x w) : 0 < ht w ∧ yAn ht par x (par w) := by
  have hlt : ht x < ht w := by
    have := ha.1
    by_cases he : ht x = ht w
    · exfalso
      have h2 := ha.2
      unfold yUpp at h2
      rw [he, Nat.sub_self] at h2
      exact hne h2.symm
    · omega
  have h1 := h w hw (by omega)
  refine ⟨by omega, by omega, ?_⟩
  have h2 := ha.2
  unfold yUpp at h2 ⊢
  have : ht w - ht x = (ht (par w) - ht x) + 1 := by omega
  rw [this] at h2; exact h2

theorem yAn_trans {x y w : Nat}
    (h1 : yAn ht par x y) (h2 : yAn ht par y w) : yAn ht par x w := by
  refine ⟨Nat.le_trans h1.1 h2.1, ?_⟩
  have a1 := h1.2
  have a2 := h2.2
  have b1 := h1.1
  have b2 := h2.1
  unfold yUpp at a1 a2 ⊢
  have : ht w - ht x = (ht y - ht x) + (ht w - ht y) := by omega
  rw [this, yPar_add, a2, a1]

-- beginning
theorem yDf_start : yDf n g (fun _ => false) (fun _ => false) ht par g 0 bs bl := by
  refine ⟨?_, ?_, ?_, ?_, ?_, ?_, ?_, ?_, ?_, ?_⟩
  · intro w h; cases h
  · intro w h; cases h
  · intro w x h; exact h
  · intro w x _; rfl
  · intro w h; cases h
  · intro w h; cases h
  · intro w x h; cases h
  · intro j h; omega
  · intro i j h; omega
  · intro w x h; cases h

def yUpd {A : Type} (f : Nat → A) (k : Nat) (x : A) : Nat → A := fun j => if j = k then x else f j
def yUp2 (f : Nat → Nat → Bool) (v w : Nat) : Nat → Nat → Bool := fun a b => if a = v ∧ b = w then false else f a b

-- a new root
theorem yDf_root (h : yDf n g vis fin ht par op nb bs bl) (r : Nat) (hr : r < n) (hv : vis r = false) (hall : ∀ w, vis w = true → fin w = true) (p : Nat) :
    yDf n g (yUpd vis r true) fin (yUpd ht r 0) (yUpd par r p) op nb bs bl := by
  obtain ⟨d1, d2, d3, d4, d5, d6, d7, d8, d9, d10⟩ := h
  have hne : ∀ w, vis w = true → w ≠ r := fun w hw e => by rw [e, hv] at hw; cases hw
  have hvv : ∀ w, yUpd vis r true w = true → w = r ∨ vis w = true := by
    intro w hw; unfold yUpd at hw; by_cases e : w = r
    · exact Or.inl e
    · rw [if_neg e] at hw; exact Or.inr hw
  have hv1 : ∀ w, vis w = true → yUpd vis r true w = true := by
    intro w hw; unfold yUpd; by_cases e : w = r
    · rw [if_pos e]
    · rw [if_neg e]; exact hw
  have hht : ∀ w, vis w = true → yUpd ht r 0 w = ht w := by
    intro w hw; unfold yUpd; rw [if_neg (hne w hw)]
  have hpp : ∀ w, vis w = true → yUpd par r p w = par w := by
    intro w hw; unfold yUpd; rw [if_neg (hne w hw)]
  have hr0 : yUpd ht r 0 r = 0 := by unfold yUpd; rw [if_pos rfl]
  have d2' : ∀ w, vis w = true → 0 < ht w → vis (par w) = true ∧ ht (par w) + 1 = ht w := fun w a b => ⟨(d2 w a b).1, (d2 w a b).2.2.1⟩
  have hopr : ∀ x, op r x = g r x := fun x => d4 r x hv
  have hAn : ∀ x w, vis x = true → vis w = true → yAn ht par x w → yAn (yUpd ht r 0) (yUpd par r p) x w := by
    intro x w hx hw ha
    refine ⟨by rw [hht x hx, hht w hw]; exact ha.1, ?_⟩
    have a2 := ha.2
    unfold yUpp at a2 ⊢
    rw [hht x hx, hht w hw, yPar_same d2' (fun w a _ => hpp w a) _ w hw (by omega)]; exact a2
  refine ⟨?_, ?_, d3, ?_, ?_, ?_, ?_, ?_, d9, ?_⟩
  · intro w hw; rcases hvv w hw with e | e
    · rw [e]; exact hr
    · exact d1 w e
  · intro w hw h0
    rcases hvv w hw with e | e
    · rw [e, hr0] at h0; omega
    · rw [hht w e] at h0
      have := d2 w e h0
      rw [hpp w e, hht _ this.1, hht w e]
      exact ⟨hv1 _ this.1, this.2⟩
  · intro w x hw
    apply d4
    unfold yUpd at hw; by_cases e : w = r
    · rw [if_pos e] at hw; cases hw
    · rw [if_neg e] at hw; exact hw
  · intro w hw; exact ⟨hv1 w (d5 w hw).1, (d5 w hw).2⟩
  · intro w hw hf h0
    rcases hvv w hw with e | e
    · rw [e, hr0] at h0; omega
    · rw [hall w e] at hf; cases hf
  · intro w x hw hgx ho
    rcases hvv w hw with e | e
    · rw [e, hopr x, ← e, hgx] at ho; cases ho
    · have := d7 w x e hgx ho
      refine ⟨hv1 x this.1, ?_⟩
      rcases this.2 with ha | ha
      · exact Or.inl (hAn x w this.1 e ha)
      · exact Or.inr (hAn w x e this.1 ha)
  · intro j hj
    obtain ⟨a1, x, a2, a3, a4, a5, a6⟩ := d8 j hj
    exact ⟨hv1 _ a1, x, a2, a3, hv1 x a4, by rw [hht x a4]; exact a5, by rw [hht _ a1]; exact a6⟩
  · intro w x hw hgx ho hh
    rcases hvv w hw with e | e
    · rw [e, hopr x, ← e, hgx] at ho; cases ho
    · have := d7 w x e hgx ho
      rw [hht x this.1, hht w e] at hh
      obtain ⟨j, j1, j2, j3⟩ := d10 w x e hgx ho hh
      exact ⟨j, j1, j2, by rw [hht x this.1]; exact j3⟩

-- a new node from v
theorem yDf_tree (h : yDf n g vis fin ht par op nb bs bl) (v w : Nat) (hv : vis v = true) (hf : fin v = false) (ho : op v w = true) (hw : vis w = false) (hwn : w < n) :
    yDf n g (yUpd vis w true) fin (yUpd ht w (ht v + 1)) (yUpd par w v) (yUp2 op v w) nb bs bl := by
  obtain ⟨d1, d2, d3, d4, d5, d6, d7, d8, d9, d10⟩ := h
  have hne : ∀ x, vis x = true → x ≠ w := fun x hx e => by rw [e, hw] at hx; cases hx
  have hvw : v ≠ w := hne v hv
  have hvv : ∀ x, yUpd vis w true x = true → x = w ∨ vis x = true := by
    intro x hx; unfold yUpd at hx; by_cases e : x = w
    · exact Or.inl e
    · rw [if_neg e] at hx; exact Or.inr hx
  have hv1 : ∀ x, vis x = true → yUpd vis w true x = true := by
    intro x hx; unfold yUpd; rw [if_neg (hne x hx)]; exact hx
  have hvw1 : yUpd vis w true w = true := by unfold yUpd; rw [if_pos rfl]
  have hht : ∀ x, vis x = true → yUpd ht w (ht v + 1) x = ht x := by
    intro x hx; unfold yUpd; rw [if_neg (hne x hx)]
  have hpp : ∀ x, vis x = true → yUpd par w v x = par x := by
    intro x hx; unfold yUpd; rw [if_neg (hne x hx)]
  have hhw : yUpd ht w (ht v + 1) w = ht v + 1 := by unfold yUpd; rw [if_pos rfl]
  have hpw : yUpd par w v w = v := by unfold yUpd; rw [if_pos rfl]
  have d2' : ∀ w, vis w = true → 0 < ht w → vis (par w) = true ∧ ht (par w) + 1 = ht w := fun w a b => ⟨(d2 w a b).1, (d2 w a b).2.2.1⟩
  have hop : ∀ a b, ¬ (a = v ∧ b = w) → yUp2 op v w a b = op a b := by intro a b hab; unfold yUp2; rw [if_neg hab]
  have hopvw : yUp2 op v w v w = false := by unfold yUp2; rw [if_pos ⟨rfl, rfl⟩]
  have hsub : ∀ a b, yUp2 op v w a b = true → op a b = true := by
    intro a b hab; unfold yUp2 at hab; by_cases e : a = v ∧ b = w
    · rw [if_pos e] at hab; cases hab
    · rw [if_neg e] at hab; exact hab
  have hAn : ∀ x y, vis x = true → vis y = true → yAn ht par x y → yAn (yUpd ht w (ht v + 1)) (yUpd par w v) x y := by
    intro x y hx hy ha
    refine ⟨by rw [hht x hx, hht y hy]; exact ha.1, ?_⟩
    have a2 := ha.2
    unfold yUpp at a2 ⊢
    rw [hht x hx, hht y hy, yPar_same d2' (fun w a _ => hpp w a) _ y hy (by omega)]; exact a2
  have hAvw : yAn (yUpd ht w (ht v + 1)) (yUpd par w v) v w := by
    refine ⟨by rw [hht v hv, hhw]; omega, ?_⟩
    unfold yUpp
    rw [hht v hv, hhw]
    have : ht v + 1 - ht v = 1 := by omega
    rw [this]; show yUpd par w v w = v; exact hpw
  refine ⟨?_, ?_, ?_, ?_, ?_, ?_, ?_, ?_, d9, ?_⟩
  · intro x hx; rcases hvv x hx with e | e
    · rw [e]; exact hwn
    · exact d1 x e
  · intro x hx h0
    rcases hvv x hx with e | e
    · rw [e, hpw, hht v hv, hhw]
      exact ⟨hv1 v hv, d3 v w ho, rfl, hopvw⟩
    · rw [hht x e] at h0
      have := d2 x e h0
      rw [hpp x e, hht _ this.1, hht x e]
      exact ⟨hv1 _ this.1, this.2.1, this.2.2.1, by rw [hop _ _ (fun hh => hne x e hh.2)]; exact this.2.2.2⟩
  · intro a b hab; exact d3 a b (hsub a b hab)
  · intro a b ha
    have hav : a ≠ v := by intro e; rw [e, hv1 v hv] at ha; cases ha
    rw [hop a b (fun hh => hav hh.1)]
    apply d4
    unfold yUpd at ha; by_cases e : a = w
    · rw [if_pos e] at ha; cases ha
    · rw [if_neg e] at ha; exact ha
  · intro x hx
    have := d5 x hx
    refine ⟨hv1 x this.1, fun y => ?_⟩
    cases hb : yUp2 op v w x y with
    | false => rfl
    | true => have := hsub x y hb; rw [(d5 x hx).2 y] at this; cases this
  · intro x hx hfx h0
    rcases hvv x hx with e | e
    · rw [e, hpw]; exact hf
    · rw [hht x e] at h0
      rw [hpp x e]; exact d6 x e hfx h0
  · intro a b ha hgb hob
    rcases hvv a ha with e | e
    · -- a = w: nothing of it is looked at
      rw [e, hop w b (fun hh => hvw hh.1.symm), d4 w b hw, ← e, hgb] at hob; cases hob
    · by_cases hab : a = v ∧ b = w
      · rw [hab.1, hab.2]
        exact ⟨hvw1, Or.inr hAvw⟩
      · rw [hop a b hab] at hob
        have := d7 a b e hgb hob
        refine ⟨hv1 b this.1, ?_⟩
        rcases this.2 with h1 | h1
        · exact Or.inl (hAn b a this.1 e h1)
        · exact Or.inr (hAn a b e this.1 h1)
  · intro j hj
    obtain ⟨a1, x, a2, a3, a4, a5, a6⟩ := d8 j hj
    refine ⟨hv1 _ a1, x, a2, ?_, hv1 x a4, by rw [hht x a4]; exact a5, by rw [hht _ a1]; exact a6⟩
    cases hb : yUp2 op v w (bs j) x with
    | false => rfl
    | true => rw [hsub _ _ hb] at a3; cases a3
  · intro a b ha hgb hob hh
    rcases hvv a ha with e | e
    · rw [e, hop w b (fun hh => hvw hh.1.symm), d4 w b hw, ← e, hgb] at hob; cases hob
    · by_cases hab : a = v ∧ b = w
      · rw [hab.1, hab.2, hhw, hht v hv] at hh; omega
      · rw [hop a b hab] at hob
        have := d7 a b e hgb hob
        rw [hht b this.1, hht a e] at hh
        obtain ⟨j, j1, j2, j3⟩ := d10 a b e hgb hob hh
        exact ⟨j, j1, j2, by rw [hht b this.1]; exact j3⟩

-- an edge to a node seen before; nothing or a back arc
theorem yDf_seen (hs : ∀ v w, g v w = g w v) (h : yDf n g vis fin ht par op nb bs bl) (v w : Nat) (hv : vis v = true)
    (hact : ∀ x, vis x = true → fin x = false → yAn ht par x v)
    (ho : op v w = true) (hw : vis w = true) (nb' : Nat) (bs' bl' : Nat → Nat)
    (hb : (¬ ht w + 1 < ht v ∧ nb' = nb ∧ bs' = bs ∧ bl' = bl) ∨ (ht w + 1 < ht v ∧ nb' = nb + 1 ∧ bs' = yUpd bs nb v ∧ bl' = yUpd bl nb (ht w))) :
    yDf n g vis fin ht par (yUp2 op v w) nb' bs' bl' := by
  have h' := h
  obtain ⟨d1, d2, d3, d4, d5, d6, d7, d8, d9, d10⟩ := h
  have hop : ∀ a b, ¬ (a = v ∧ b = w) → yUp2 op v w a b = op a b := by intro a b hab; unfold yUp2; rw [if_neg hab]
  have hsub : ∀ a b, yUp2 op v w a b = true → op a b = true := by
    intro a b hab; unfold yUp2 at hab; by_cases e : a = v ∧ b = w
    · rw [if_pos e] at hab; cases hab
    · rw [if_neg e] at hab; exact hab
  have hle : ∀ a b, op a b = false → yUp2 op v w a b = false := by
    intro a b hab
    cases hb : yUp2 op v w a b with
    | false => rfl
    | true => rw [hsub a b hb] at hab; cases hab
  -- v and w lie on one way
  have hrel : yAn ht par w v ∨ yAn ht par v w := by
    by_cases hf : fin w = true
    · have h5 := (d5 w hf).2 v
      have := d7 w v hw (by rw [hs]; exact d3 v w ho) h5
      rcases this.2 with h1 | h1
      · exact Or.inr h1
      · exact Or.inl h1
    · exact Or.inl (hact w hw (by revert hf; cases fin w <;> simp))
  refine ⟨d1, ?_, ?_, ?_, ?_, d6, ?_, ?_, ?_, ?_⟩
  · intro x hx h0
    have := d2 x hx h0
    exact ⟨this.1, this.2.1, this.2.2.1, hle _ _ this.2.2.2⟩
  · intro a b hab; exact d3 a b (hsub a b hab)
  · intro a b ha
    have hav : a ≠ v := by intro e; rw [e, hv] at ha; cases ha
    rw [hop a b (fun hh => hav hh.1)]; exact d4 a b ha
  · intro x hx; exact ⟨(d5 x hx).1, fun y => hle _ _ ((d5 x hx).2 y)⟩
  · intro a b ha hgb hob
    by_cases hab : a = v ∧ b = w
    · rw [hab.1, hab.2]; exact ⟨hw, hrel⟩
    · rw [hop a b hab] at hob; exact d7 a b ha hgb hob
  · intro j hj
    rcases hb with ⟨_, e1, e2, e3⟩ | ⟨hlt, e1, e2, e3⟩
    · rw [e1] at hj; rw [e2, e3]
      obtain ⟨a1, x, a2, a3, a4⟩ := d8 j hj
      exact ⟨a1, x, a2, hle _ _ a3, a4⟩
    · by_cases hjn : j = nb
      · rw [e2, e3, hjn]
        have q1 : yUpd bs nb v nb = v := by unfold yUpd; rw [if_pos rfl]
        have q2 : yUpd bl nb (ht w) nb = ht w := by unfold yUpd; rw [if_pos rfl]
        rw [q1, q2]
        exact ⟨hv, w, d3 v w ho, by unfold yUp2; rw [if_pos ⟨rfl, rfl⟩], hw, rfl, hlt⟩
      · have hj' : j < nb := by omega
        rw [e2, e3]
        have q1 : yUpd bs nb v j = bs j := by unfold yUpd; rw [if_neg hjn]
        have q2 : yUpd bl nb (ht w) j = bl j := by unfold yUpd; rw [if_neg hjn]
        rw [q1, q2]
        obtain ⟨a1, x, a2, a3, a4⟩ := d8 j hj'
        exact ⟨a1, x, a2, hle _ _ a3, a4⟩
  · intro i j hi hj h1 h2
    rcases hb with ⟨_, e1, e2, e3⟩ | ⟨hlt, e1, e2, e3⟩
    · rw [e1] at hi hj; rw [e2] at h1; rw [e3] at h2; exact d9 i j hi hj h1 h2
    · -- a back arc from v to that height is new
      have hnew : ∀ j, j < nb → ¬ (bs j = v ∧ bl j = ht w) := by
        intro j hj ⟨c1, c2⟩
        obtain ⟨a1, x, a2, a3, a4, a5, a6⟩ := d8 j hj
        rw [c1] at a2 a3 a6
        -- x is w: both ancestors of v of one height
        have hx := d7 v x hv a2 a3
        have hxv : yAn ht par x v := by
          rcases hx.2 with h3 | h3
          · exact h3
          · have := h3.1; omega
        have hwv : yAn ht par w v := by
          rcases hrel with h3 | h3
          · exact h3
          · have := h3.1; omega
        have hxw : x = w := by rw [← hxv.2, ← hwv.2, a5, c2]
        rw [hxw, ho] at a3; cases a3
      have q1 : ∀ j, j ≠ nb → yUpd bs nb v j = bs j := by intro j hj; unfold yUpd; rw [if_neg hj]
      have q2 : ∀ j, j ≠ nb → yUpd bl nb (ht w) j = bl j := by intro j hj; unfold yUpd; rw [if_neg hj]
      have q1' : yUpd bs nb v nb = v := by unfold yUpd; rw [if_pos rfl]
      have q2' : yUpd bl nb (ht w) nb = ht w := by unfold yUpd; rw [if_pos rfl]
      rw [e2] at h1; rw [e3] at h2
      by_cases hin : i = nb
      · by_cases hjn : j = nb
        · omega
        · exfalso
          rw [hin, q1', q1 j hjn] at h1
          rw [hin, q2', q2 j hjn] at h2
          exact hnew j (by omega) ⟨h1.symm, h2.symm⟩
      · by_cases hjn : j = nb
        · exfalso
          rw [hjn, q1', q1 i hin] at h1
          rw [hjn, q2', q2 i hin] at h2
          exact hnew i (by omega) ⟨h1, h2⟩
        · rw [q1 i hin, q1 j hjn] at h1
          rw [q2 i hin, q2 j hjn] at h2
          exact d9 i j (by omega) (by omega) h1 h2
  · intro a b ha hgb hob hh
    by_cases hab : a = v ∧ b = w
    · rw [hab.1, hab.2] at hh ⊢
      rcases hb with ⟨hn, _⟩ | ⟨hlt, e1, e2, e3⟩
      · exact absurd hh hn
      · refine ⟨nb, by omega, ?_, ?_⟩
        · rw [e2]; unfold yUpd; rw [if_pos rfl]
        · rw [e3]; unfold yUpd; rw [if_pos rfl]
    · rw [hop a b hab] at hob
      obtain ⟨j, j1, j2, j3⟩ := d10 a b ha hgb hob hh
      rcases hb with ⟨_, e1, e2, e3⟩ | ⟨hlt, e1, e2, e3⟩
      · rw [e1, e2, e3]; exact ⟨j, j1, j2, j3⟩
      · refine ⟨j, by omega, ?_, ?_⟩
        · rw [e2]; unfold yUpd; rw [if_neg (by omega)]; exact j2
        · rw [e3]; unfold yUpd; rw [if_neg (by omega)]; exact j3

-- a node is left for good
theorem yDf_leave (h : yDf n g vis fin ht par op nb bs bl) (v : Nat) (hv : vis v = true) (ho : ∀ x, op v x = false)
    (hact : ∀ x, vis x = true → fin x = false → yAn ht par x v) :
    yDf n g vis (yUpd fin v true) ht par op nb bs bl := by
  obtain ⟨d1, d2, d3, d4, d5, d6, d7, d8, d9, d10⟩ := h
  have d2' : ∀ w, vis w = true → 0 < ht w → vis (par w) = true ∧ ht (par w) + 1 = ht w := fun w a b => ⟨(d2 w a b).1, (d2 w a b).2.2.1⟩
  refine ⟨d1, d2, d3, d4, ?_, ?_, d7, d8, d9, d10⟩
  · intro w hw
    unfold yUpd at hw; by_cases e : w = v
    · rw [e]; exact ⟨hv, ho⟩
    · rw [if_neg e] at hw; exact d5 w hw
  · intro w hw hf h0
    unfold yUpd at hf ⊢
    by_cases e : w = v
    · rw [if_pos e] at hf; cases hf
    · rw [if_neg e] at hf
      have h1 := d6 w hw hf h0
      by_cases e2 : par w = v
      · exfalso
        have h2 := hact w hw hf
        have h3 := h2.1
        have h4 := (d2 w hw h0).2.2.1
        rw [e2] at h4; omega
      · rw [if_neg e2]; exact h1
end
-- the edges of a graph that is told by neighbours
def yGr (g : Nat → Nat → Bool) (e : Nat) : Bool := decide (e / 32 < e % 32) && g (e / 32) (e % 32)

def yTe (ht par : Nat → Nat) (e : Nat) : Bool :=
  (decide (0 < ht (e / 32)) && decide (par (e / 32) = e % 32)) || (decide (0 < ht (e % 32)) && decide (par (e % 32) = e / 32))
def yBk (g : Nat → Nat → Bool) (ht par : Nat → Nat) (e : Nat) : Bool := yGr g e && !yTe ht par e
def ySr (ht : Nat → Nat) (e : Nat) : Nat := if ht (e / 32) < ht (e % 32) then e % 32 else e / 32
def yLo (ht : Nat → Nat) (e : Nat) : Nat := if ht (e / 32) < ht (e % 32) then ht (e / 32) else ht (e % 32)
def yPe (par : Nat → Nat) (y : Nat) : Nat := yIx y (par y)

theorem yGr_iff {n : Nat} {g : Nat → Nat → Bool} (hn : n ≤ 32) (hg : ∀ v w, g v w = true → v < n ∧ w < n ∧ v ≠ w) (hs : ∀ v w, g v w = g w v) (a b : Nat) (ha : a < 32) (hb : b < 32) :
    yGr g (yIx a b) = g a b := by
  unfold yGr
  by_cases h : a < b
  · have := yIx_div hb h
    rw [this.1, this.2]; simp [h]
  · by_cases h2 : b < a
    · rw [yIx_comm]
      have := yIx_div ha h2
      rw [this.1, this.2, hs b a]; simp [h2]
    · have hab : a = b := by omega
      subst hab
      have e1 : g a a = false := by
        cases hh : g a a with
        | false => rfl
        | true => exact absurd rfl (hg a a hh).2.2
      rw [e1]
      unfold yIx
      rw [if_neg h]
      have h3 : ¬ ((32 * a + a) / 32 < (32 * a + a) % 32) := by omega
      rw [decide_eq_false h3]; rfl

section
variable {n : Nat} {g : Nat → Nat → Bool} {vis fin : Nat → Bool} {ht par : Nat → Nat} {op : Nat → Nat → Bool} {nb : Nat} {bs bl : Nat → Nat}

theorem yDf_up (h : yDf n g vis fin ht par op nb bs bl) (hall : ∀ v, v < n → vis v = true) (q j : Nat) (hq : q < n) (hj : j ≤ ht q) :
    yUpp ht par q j < n ∧ ht (yUpp ht par q j) = j := by
  obtain ⟨d1, d2, _⟩ := h
  have := yPar_vis (vis := vis) (ht := ht) (par := par) (fun w a b => ⟨(d2 w a b).1, (d2 w a b).2.2.1⟩) (ht q - j) q (hall q hq) (by omega)
  unfold yUpp
  exact ⟨d1 _ this.1, by rw [this.2]; omega⟩

theorem yDf_tr (hn : n ≤ 32) (hg : ∀ v w, g v w = true → v < n ∧ w < n ∧ v ≠ w) (hs : ∀ v w, g v w = g w v)
    (h : yDf n g vis fin ht par op nb bs bl) (hall : ∀ v, v < n → vis v = true) (hfin : ∀ v x, v < n → op v x = false) :
    yTr 1024 yI (yGr g) (fun v => v < n) ht (yUpp ht par) (yPe par) (yBk g ht par) (ySr ht) (yLo ht) := by
  have hup := fun q j hq hj => yDf_up h hall q j hq hj
  obtain ⟨d1, d2, d3, d4, d5, d6, d7, d8, d9, d10⟩ := h
  have hpar : ∀ y, y < n → 0 < ht y → par y < n ∧ g (par y) y = true ∧ ht (par y) + 1 = ht y := by
    intro y hy h0
    have := d2 y (hall y hy) h0
    exact ⟨d1 _ this.1, this.2.1, this.2.2.1⟩
  have hup1 : ∀ y, y < n → 0 < ht y → yUpp ht par y (ht y - 1) = par y := by
    intro y hy h0
    unfold yUpp
    have : ht y - (ht y - 1) = 1 := by omega
    rw [this]; rfl
  have hI2 : ∀ a b, a < n → b < n → a ≠ b → ∀ v, yI (yIx a b) v = true ↔ (v = a ∨ v = b) := fun a b ha hb hab v => yI_iff (by omega) (by omega) hab v
  -- an edge has two ends a < b
  have hedge : ∀ e, e < 1024 → yGr g e = true → ∃ a b, a < b ∧ a < n ∧ b < n ∧ g a b = true ∧ e = yIx a b ∧ e / 32 = a ∧ e % 32 = b := by
    intro e he hge
    unfold yGr at hge
    simp only [Bool.and_eq_true, decide_eq_true_iff] at hge
    have := hg _ _ hge.2
    refine ⟨e / 32, e % 32, hge.1, this.1, this.2.1, hge.2, ?_, rfl, rfl⟩
    unfold yIx; rw [if_pos hge.1]; omega
  have hrel : ∀ a b, g a b = true → yAn ht par a b ∨ yAn ht par b a := by
    intro a b hab
    have h1 := hg a b hab
    rcases (d7 a b (hall a h1.1) hab (hfin a b h1.1)).2 with h2 | h2
    · exact Or.inr h2
    · exact Or.inl h2
  refine ⟨?_, ?_, ?_, ?_, ?_, ?_, ?_⟩
  · intro q j hq hj; exact hup q j hq hj
  · intro q hq; unfold yUpp; rw [Nat.sub_self]; rfl
  · intro q j i hq hj hi
    have h1 := (hup q j hq hj).2
    unfold yUpp at h1 ⊢
    rw [h1, ← yPar_add]
    congr 1; omega
  · intro y hy h0
    have h1 := hpar y hy h0
    have hne : y ≠ par y := by intro e; rw [← e] at h1; omega
    refine ⟨yIx_lt (by omega) (by omega), ?_, ?_, ?_⟩
    · unfold yPe; rw [yGr_iff hn hg hs y (par y) (by omega) (by omega), hs]; exact h1.2.1
    · unfold yBk yPe
      have : yTe ht par (yIx y (par y)) = true := by
        unfold yTe
        by_cases hlt : y < par y
        · have e := yIx_div (by omega : par y < 32) hlt
          rw [e.1, e.2]; simp [h0]
        · rw [yIx_comm]
          have e := yIx_div (by omega : y < 32) (by omega : par y < y)
          rw [e.1, e.2]; simp [h0]
      rw [this]; simp
    · intro v
      unfold yPe
      rw [hI2 y (par y) hy h1.1 hne v, hup1 y hy h0]
  · intro y y' hy hy' h0 h0' he
    unfold yPe at he
    have h1 := hpar y hy h0
    have h1' := hpar y' hy' h0'
    rcases yIx_inj (by omega) (by omega) (by omega) (by omega) he with ⟨a, _⟩ | ⟨a, b⟩
    · exact a
    · exfalso
      have e1 := h1.2.2
      have e2 := h1'.2.2
      rw [b] at e1
      rw [← a] at e2
      omega
  · intro e he hB
    unfold yBk at hB
    simp only [Bool.and_eq_true, Bool.not_eq_true'] at hB
    obtain ⟨a, b, hab, han, hbn, hgab, hee, e1, e2⟩ := hedge e he hB.1
    refine ⟨hB.1, ?_, ?_, ?_⟩
    · unfold ySr; rw [e1, e2]; split <;> omega
    · -- not a tree edge: at least two apart
      have hT := hB.2
      unfold yTe at hT
      rw [e1, e2] at hT
      simp only [Bool.or_eq_false_iff, Bool.and_eq_false_iff, decide_eq_false_iff_not] at hT
      unfold ySr yLo
      rw [e1, e2]
      have key : ∀ a b, a < n → b < n → a ≠ b → yAn ht par a b → ¬ (0 < ht b ∧ par b = a) → ht a + 1 < ht b := by
        intro a b ha hb hab hA hT
        have h0 := hA.1
        by_cases hq : ht a = ht b
        · exfalso
          have := hA.2
          unfold yUpp at this
          rw [hq, Nat.sub_self] at this
          exact hab this.symm
        · by_cases hq2 : ht a + 1 = ht b
          · exfalso
            apply hT
            refine ⟨by omega, ?_⟩
            have := hA.2
            have hh := hup1 b hb (by omega)
            have : ht b - 1 = ht a := by omega
            rw [this] at hh
            rw [← hh]; exact hA.2
          · omega
      rcases hrel a b hgab with hA | hA
      · have := key a b han hbn (by omega) hA (fun hh => by rcases hT.2 with h3 | h3; exact h3 hh.1; exact h3 hh.2)
        rw [if_pos (by omega), if_pos (by omega)]; exact this
      · have := key b a hbn han (by omega) hA (fun hh => by rcases hT.1 with h3 | h3; exact h3 hh.1; exact h3 hh.2)
        rw [if_neg (by omega), if_neg (by omega)]; exact this
    · intro v
      rw [hee, hI2 a b han hbn (by omega) v, ← hee]
      unfold ySr yLo
      rw [e1, e2]
      rcases hrel a b hgab with hA | hA
      · by_cases hlt : ht a < ht b
        · rw [if_pos hlt, if_pos hlt, hA.2]
          constructor <;> (intro h3; rcases h3 with h3 | h3; exact Or.inr h3; exact Or.inl h3)
        · have hq : ht a = ht b := by have := hA.1; omega
          exfalso
          have := hA.2
          unfold yUpp at this
          rw [hq, Nat.sub_self] at this
          have : b = a := this
          omega
      · have hlt : ¬ ht a < ht b := by have := hA.1; omega
        rw [if_neg hlt, if_neg hlt, hA.2]
  · intro e he hge
    obtain ⟨a, b, hab, han, hbn, hgab, hee, e1, e2⟩ := hedge e he hge
    cases hT : yTe ht par e with
    | false => left; unfold yBk; rw [hge, hT]; rfl
    | true =>
      right
      unfold yTe at hT
      rw [e1, e2] at hT
      simp only [Bool.or_eq_true, Bool.and_eq_true, decide_eq_true_iff] at hT
      rcases hT with hT | hT
      · exact ⟨a, han, hT.1, by unfold yPe; rw [hT.2]; exact hee⟩
      · exact ⟨b, hbn, hT.1, by unfold yPe; rw [hT.2, yIx_comm]; exact hee⟩

-- back edges and the numbers of back arcs
theorem yDf_num (hn : n ≤ 32) (hg : ∀ v w, g v w = true → v < n ∧ w < n ∧ v ≠ w) (hs : ∀ v w, g v w = g w v)
    (h : yDf n g vis fin ht par op nb bs bl) (hall : ∀ v, v < n → vis v = true) (hfin : ∀ v x, v < n → op v x = false) :
    (∀ e, e < 1024 → yBk g ht par e = true → ∃ j, j < nb ∧ bs j = ySr ht e ∧ bl j = yLo ht e) ∧
    (∀ j, j < nb → ∃ e, e < 1024 ∧ yBk g ht par e = true ∧ bs j = ySr ht e ∧ bl j = yLo ht e) ∧
    (∀ e e', e < 1024 → e' < 1024 → yBk g ht par e = true → yBk g ht par e' = true → ySr ht e = ySr ht e' → yLo ht e = yLo ht e' → e = e') := by
  have hT := yDf_tr hn hg hs h hall hfin
  obtain ⟨d1, d2, d3, d4, d5, d6, d7, d8, d9, d10⟩ := h
  refine ⟨?_, ?_, ?_⟩
  · intro e he hB
    obtain ⟨g1, g2, g3, g4⟩ := hT.2.2.2.2.2.1 e he hB
    have hge : yGr g e = true := g1
    unfold yGr at hge
    simp only [Bool.and_eq_true, decide_eq_true_iff] at hge
    have hgn := hg _ _ hge.2
    unfold ySr yLo at g3 ⊢
    by_cases hlt : ht (e / 32) < ht (e % 32)
    · rw [if_pos hlt, if_pos hlt] at g3
      rw [if_pos hlt, if_pos hlt]
      exact d10 (e % 32) (e / 32) (hall _ hgn.2.1) (by rw [hs]; exact hge.2) (hfin _ _ hgn.2.1) g3
    · rw [if_neg hlt, if_neg hlt] at g3
      rw [if_neg hlt, if_neg hlt]
      exact d10 (e / 32) (e % 32) (hall _ hgn.1) hge.2 (hfin _ _ hgn.1) g3
  · intro j hj
    obtain ⟨a1, x, a2, a3, a4, a5, a6⟩ := d8 j hj
    have hgn := hg _ _ a2
    have hdist : ht x < ht (bs j) := by omega
    have hex : ∃ e, e < 1024 ∧ yGr g e = true ∧ ySr ht e = bs j ∧ yLo ht e = ht x ∧ yTe ht par e = false := by
      refine ⟨yIx (bs j) x, yIx_lt (by omega) (by omega), by rw [yGr_iff hn hg hs _ _ (by omega) (by omega)]; exact a2, ?_⟩
      by_cases hlt : bs j < x
      · have e := yIx_div (by omega : x < 32) hlt
        unfold ySr yLo yTe
        rw [e.1, e.2, if_neg (by omega), if_neg (by omega)]
        refine ⟨rfl, rfl, ?_⟩
        simp only [Bool.or_eq_false_iff, Bool.and_eq_false_iff, decide_eq_false_iff_not]
        constructor
        · by_cases h0 : 0 < ht (bs j)
          · right; intro hp
            have := (d2 (bs j) a1 h0).2.2.1
            rw [hp] at this; omega
          · left; exact h0
        · by_cases h0 : 0 < ht x
          · right; intro hp
            have := (d2 x a4 h0).2.2.1
            rw [hp] at this; omega
          · left; exact h0
      · have hne : bs j ≠ x := hgn.2.2
        rw [yIx_comm]
        have e := yIx_div (by omega : bs j < 32) (by omega : x < bs j)
        unfold ySr yLo yTe
        rw [e.1, e.2, if_pos hdist, if_pos hdist]
        refine ⟨rfl, rfl, ?_⟩
        simp only [Bool.or_eq_false_iff, Bool.and_eq_false_iff, decide_eq_false_iff_not]
        constructor
        · by_cases h0 : 0 < ht x
          · right; intro hp
            have := (d2 x a4 h0).2.2.1
            rw [hp] at this; omega
          · left; exact h0
        · by_cases h0 : 0 < ht (bs j)
          · right; intro hp
            have := (d2 (bs j) a1 h0).2.2.1
            rw [hp] at this; omega
          · left; exact h0
    obtain ⟨e, b1, b2, b3, b4, b5⟩ := hex
    refine ⟨e, b1, ?_, b3.symm, by rw [b4, a5]⟩
    unfold yBk; rw [b2, b5]; rfl
  · intro e e' he he' hB hB' h1 h2
    obtain ⟨g1, g2, g3, g4⟩ := hT.2.2.2.2.2.1 e he hB
    obtain ⟨k1, k2, k3, k4⟩ := hT.2.2.2.2.2.1 e' he' hB'
    have hge : yGr g e = true := g1
    have hge' : yGr g e' = true := k1
    unfold yGr at hge hge'
    simp only [Bool.and_eq_true, decide_eq_true_iff] at hge hge'
    -- the same two ends
    have hiff : ∀ v, yI e v = true ↔ yI e' v = true := by
      intro v; rw [g4 v, k4 v, h1, h2]
    have e1 : ∀ e, e < 1024 → e / 32 < e % 32 → ∀ v, yI e v = true ↔ (v = e / 32 ∨ v = e % 32) := by
      intro e he hlt v
      have : e = yIx (e / 32) (e % 32) := by unfold yIx; rw [if_pos hlt]; omega
      have h3 := yI_iff (a := e / 32) (b := e % 32) (by omega) (by omega) (by omega) v
      rw [← this] at h3; exact h3
    have p1 := (e1 e' he' hge'.1 (e / 32)).1 ((hiff _).1 ((e1 e he hge.1 (e / 32)).2 (Or.inl rfl)))
    have p2 := (e1 e' he' hge'.1 (e % 32)).1 ((hiff _).1 ((e1 e he hge.1 (e % 32)).2 (Or.inr rfl)))
    omega
end

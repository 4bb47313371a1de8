

-- sum of bits below m
def yX : Nat → (Nat → Bool) → Bool
  | 0, _ => false
  | m+1, p => Bool.xor (yX m p) (p m)

theorem yX_congr (m : Nat) (p q : Nat → Bool) (h : ∀ i, i < m → p i = q i) : yX m p = yX m q := by
  induction m with
  | zero => rfl
  | succ m ih => simp only [yX]; rw [ih (fun i hi => h i (by omega)), h m (by omega)]

theorem yX_xor (m : Nat) (p q : Nat → Bool) : yX m (fun i => Bool.xor (p i) (q i)) = Bool.xor (yX m p) (yX m q) := by
  induction m with
  | zero => rfl
  | succ m ih =>
    simp only [yX]; rw [ih]
    cases yX m p <;> cases yX m q <;> cases p m <;> cases q m <;> rfl

theorem yX_false (m : Nat) (p : Nat → Bool) (h : ∀ i, i < m → p i = false) : yX m p = false := by
  induction m with
  | zero => rfl
  | succ m ih => simp only [yX]; rw [ih (fun i hi => h i (by omega)), h m (by omega)]; rfl

theorem yX_one (m : Nat) (p : Nat → Bool) (e : Nat) (he : e < m) (h : ∀ i, i < m → i ≠ e → p i = false) : yX m p = p e := by
  induction m with
  | zero => omega
  | succ m ih =>
    simp only [yX]
    by_cases hm : e = m
    · subst hm; rw [yX_false e p (fun i hi => h i (by omega) (by omega))]; simp
    · rw [ih (by omega) (fun i hi => h i (by omega)), h m (by omega) (by omega)]; simp

theorem yX_two (m : Nat) (p : Nat → Bool) (e f : Nat) (he : e < m) (hf : f < m) (hne : e ≠ f)
    (h : ∀ i, i < m → i ≠ e → i ≠ f → p i = false) : yX m p = Bool.xor (p e) (p f) := by
  have h1 : yX m p = yX m (fun i => Bool.xor (if i = e then p i else false) (if i = e then false else p i)) := by
    apply yX_congr; intro i _; by_cases hi : i = e <;> simp [hi]
  rw [h1, yX_xor]
  rw [yX_one m (fun i => if i = e then p i else false) e he (by intro i _ hi; simp [hi])]
  rw [yX_one m (fun i => if i = e then false else p i) f hf (by
    intro i hi hif
    by_cases hie : i = e
    · simp [hie]
    · simp [hie, h i hi hie hif])]
  have : ¬ f = e := fun h => hne h.symm
  simp [this]
-- even sets
def yEv (m : Nat) (I : Nat → Nat → Bool) (z : Nat → Bool) : Prop :=
  ∀ v, yX m (fun e => z e && I e v) = false

-- odd nodes of a set of edges
def yDg (m : Nat) (I : Nat → Nat → Bool) (z : Nat → Bool) (v : Nat) : Bool :=
  yX m (fun e => z e && I e v)

-- a labelling of the edges of X: two labels an edge
def yEm {L : Type} (m : Nat) (I : Nat → Nat → Bool) (X : Nat → Bool) (s t : Nat → L) : Prop :=
  (∀ c : L → Bool, yEv m I (fun e => X e && Bool.xor (c (s e)) (c (t e)))) ∧
  (∀ z : Nat → Bool, (∀ e, e < m → z e = true → X e = true) → yEv m I z →
    ∃ c : L → Bool, ∀ e, e < m → X e = true → z e = Bool.xor (c (s e)) (c (t e)))

theorem yDg_congr (m : Nat) (I : Nat → Nat → Bool) (z w : Nat → Bool) (v : Nat)
    (h : ∀ e, e < m → I e v = true → z e = w e) : yDg m I z v = yDg m I w v := by
  unfold yDg
  apply yX_congr
  intro e he
  cases hI : I e v with
  | false => simp
  | true => rw [h e he hI]

theorem yDg_xor (m : Nat) (I : Nat → Nat → Bool) (z w : Nat → Bool) (v : Nat) :
    yDg m I (fun e => Bool.xor (z e) (w e)) v = Bool.xor (yDg m I z v) (yDg m I w v) := by
  unfold yDg
  rw [← yX_xor]
  apply yX_congr
  intro e _
  dsimp only
  cases z e <;> cases w e <;> cases I e v <;> rfl

theorem yDg_false (m : Nat) (I : Nat → Nat → Bool) (z : Nat → Bool) (v : Nat)
    (h : ∀ e, e < m → I e v = true → z e = false) : yDg m I z v = false := by
  unfold yDg
  apply yX_false
  intro e he
  cases hI : I e v with
  | false => simp
  | true => rw [h e he hI]; rfl

theorem yDg_one (m : Nat) (I : Nat → Nat → Bool) (z : Nat → Bool) (v a : Nat) (ha : a < m) (hI : I a v = true)
    (h : ∀ e, e < m → I e v = true → e ≠ a → z e = false) : yDg m I z v = z a := by
  unfold yDg
  rw [yX_one m _ a ha]
  · rw [hI]; simp
  · intro e he hne
    cases hI : I e v with
    | false => simp
    | true => rw [h e he hI hne]; rfl

theorem yDg_two (m : Nat) (I : Nat → Nat → Bool) (z : Nat → Bool) (v a b : Nat) (ha : a < m) (hb : b < m) (hab : a ≠ b)
    (hIa : I a v = true) (hIb : I b v = true)
    (h : ∀ e, e < m → I e v = true → e ≠ a → e ≠ b → z e = false) : yDg m I z v = Bool.xor (z a) (z b) := by
  unfold yDg
  rw [yX_two m _ a b ha hb hab]
  · rw [hIa, hIb]; simp
  · intro e he h1 h2
    cases hI : I e v with
    | false => simp
    | true => rw [h e he hI h1 h2]; rfl

theorem yEv_xor (m : Nat) (I : Nat → Nat → Bool) (z w : Nat → Bool) (hz : yEv m I z) (hw : yEv m I w) :
    yEv m I (fun e => Bool.xor (z e) (w e)) := by
  intro v
  have := yDg_xor m I z w v
  unfold yDg at this
  rw [this, hz v, hw v]; rfl

theorem yEv_congr (m : Nat) (I : Nat → Nat → Bool) (z w : Nat → Bool) (h : ∀ e, e < m → z e = w e) (hz : yEv m I z) :
    yEv m I w := by
  intro v
  rw [← hz v]
  apply yX_congr
  intro e he
  rw [h e he]

-- at a node off the boundary of a colouring, edges that lie on a common even set have one colour
theorem yColor {L : Type} {m : Nat} {I : Nat → Nat → Bool} {X : Nat → Bool} {s t : Nat → L}
    (hE : yEm m I X s t) (c : L → Bool) (v : Nat)
    (hv : ∀ e, e < m → X e = true → I e v = true → c (s e) = c (t e))
    (w : Nat → Bool) (hwX : ∀ e, e < m → w e = true → X e = true) (hw : yEv m I w)
    (a b : Nat) (ha : a < m) (hb : b < m) (hab : a ≠ b) (hIa : I a v = true) (hIb : I b v = true)
    (wa : w a = true) (wb : w b = true)
    (h : ∀ e, e < m → w e = true → I e v = true → e = a ∨ e = b) : c (s a) = c (s b) := by
  obtain ⟨d, hd⟩ := hE.2 w hwX hw
  have h1 := hE.1 (fun l => c l && d l) v
  have h2 : yX m (fun e => (X e && Bool.xor (c (s e) && d (s e)) (c (t e) && d (t e))) && I e v)
      = yDg m I (fun e => w e && c (s e)) v := by
    unfold yDg
    apply yX_congr
    intro e he
    cases hI : I e v with
    | false => simp
    | true =>
      cases hX : X e with
      | false =>
        have : w e = false := by
          cases hwe : w e with
          | false => rfl
          | true => have := hwX e he hwe; rw [hX] at this; cases this
        simp [this]
      | true =>
        dsimp only
        rw [hd e he hX, hv e he hX hI]
        cases c (t e) <;> cases d (s e) <;> cases d (t e) <;> rfl
  rw [h2] at h1
  rw [yDg_two m I _ v a b ha hb hab hIa hIb] at h1
  · rw [wa, wb] at h1
    revert h1
    cases c (s a) <;> cases c (s b) <;> simp
  · intro e he hI h3 h4
    cases hwe : w e with
    | false => simp
    | true => rcases h e he hwe hI with h5 | h5 <;> contradiction

-- the inside of a circuit
theorem yInside {L : Type} {m : Nat} {I : Nat → Nat → Bool} {X : Nat → Bool} {s t : Nat → L}
    (hE : yEm m I X s t) (z : Nat → Bool)
    (hzc : ∀ w, (∀ e, e < m → w e = true → z e = true) → yEv m I w →
       (∀ e, e < m → w e = false) ∨ (∀ e, e < m → w e = z e))
    (c : L → Bool) (hc : ∀ e, e < m → X e = true → z e = Bool.xor (c (s e)) (c (t e))) :
    yEm (L := Option L) m I (fun e => X e && (c (s e) || c (t e)))
      (fun e => if c (s e) then some (s e) else none) (fun e => if c (t e) then some (t e) else none) := by
  constructor
  · intro d
    refine yEv_congr m I _ _ ?_ (hE.1 (fun l => if c l then d (some l) else d none))
    intro e he
    cases hs : c (s e) <;> cases ht : c (t e) <;> simp [hs, ht]
  · intro y hyX hy
    obtain ⟨d, hd⟩ := hE.2 y (fun e he h => by
      have := hyX e he h
      simp at this; exact this.1) hy
    have h1 := hE.1 (fun l => !c l && d l)
    have h2 := hzc (fun e => X e && Bool.xor (!c (s e) && d (s e)) (!c (t e) && d (t e))) ?_ h1
    · -- the constant on the outer side
      have h3 : ∃ k : Bool, ∀ e, e < m → X e = true → z e = true →
          (c (s e) = false → d (s e) = k) ∧ (c (t e) = false → d (t e) = k) := by
        rcases h2 with h2 | h2
        · refine ⟨false, ?_⟩
          intro e he hX hz
          have h4 := h2 e he
          have h5 := hc e he hX
          simp only [hX, hz] at h4 h5
          revert h4 h5
          cases c (s e) <;> cases c (t e) <;> cases d (s e) <;> cases d (t e) <;> simp
        · refine ⟨true, ?_⟩
          intro e he hX hz
          have h4 := h2 e he
          have h5 := hc e he hX
          simp only [hX, hz] at h4 h5
          revert h4 h5
          cases c (s e) <;> cases c (t e) <;> cases d (s e) <;> cases d (t e) <;> simp
      obtain ⟨k, hk⟩ := h3
      refine ⟨fun o => match o with | some l => d l | none => k, ?_⟩
      intro e he hX
      simp only [Bool.and_eq_true] at hX
      have h5 := hc e he hX.1
      have h6 := hd e he hX.1
      have h7 := hk e he hX.1
      have h8 := hX.2
      rw [h6]
      grind
    · intro e he h
      cases hz : z e with
      | true => rfl
      | false =>
        exfalso
        simp only [Bool.and_eq_true] at h
        have h5 := hc e he h.1
        have h6 := hd e he h.1
        have h7 : y e = true → (c (s e) || c (t e)) = true := fun hh => by
          have := hyX e he hh; simp only [Bool.and_eq_true] at this; exact this.2
        rw [hz] at h5
        rw [h6] at h7
        have h8 := h.2
        revert h5 h7 h8
        cases c (s e) <;> cases c (t e) <;> cases d (s e) <;> cases d (t e) <;> simp
-- a labelling with an outer boundary z (z may be empty): outside the colour is 0
def yDs {L : Type} (m : Nat) (I : Nat → Nat → Bool) (X z : Nat → Bool) (s t : Nat → L) : Prop :=
  (∀ c : L → Bool, yEv m I (fun e => X e && Bool.xor (c (t e)) (!z e && c (s e)))) ∧
  (∀ y : Nat → Bool, (∀ e, e < m → y e = true → X e = true) → yEv m I y →
    ∃ c : L → Bool, ∀ e, e < m → X e = true → y e = Bool.xor (c (t e)) (!z e && c (s e)))

-- a circuit: even, no smaller even set, joins for any set of odd nodes on it, two edges a node
def yCi (m : Nat) (I : Nat → Nat → Bool) (z : Nat → Bool) : Prop :=
  yEv m I z ∧
  (∀ w : Nat → Bool, (∀ e, e < m → w e = true → z e = true) → yEv m I w →
       (∀ e, e < m → w e = false) ∨ (∀ e, e < m → w e = z e)) ∧
  (∀ w : Nat → Bool, (∀ v, yDg m I w v = true → ∃ e, e < m ∧ z e = true ∧ I e v = true) →
    ∃ J : Nat → Bool, (∀ e, e < m → J e = true → z e = true) ∧ ∀ v, yDg m I J v = yDg m I w v) ∧
  (∀ e v, e < m → z e = true → I e v = true → ∃ f, f < m ∧ f ≠ e ∧ z f = true ∧ I f v = true ∧
     ∀ d, d < m → z d = true → I d v = true → d = e ∨ d = f)

-- at each node any two edges of X lie on an even set that has no other edge there
def yV2 (m : Nat) (I : Nat → Nat → Bool) (X : Nat → Bool) : Prop :=
  ∀ v a b, a < m → b < m → a ≠ b → X a = true → X b = true → I a v = true → I b v = true →
    ∃ w : Nat → Bool, (∀ e, e < m → w e = true → X e = true) ∧ yEv m I w ∧ w a = true ∧ w b = true ∧
      ∀ e, e < m → w e = true → I e v = true → e = a ∨ e = b

theorem yDs_color {L : Type} {m : Nat} {I : Nat → Nat → Bool} {X z : Nat → Bool} {s t : Nat → L}
    (hE : yDs m I X z s t) (c : L → Bool) (v : Nat)
    (hv : ∀ e, e < m → X e = true → I e v = true → z e = false ∧ c (s e) = c (t e))
    (hV : yV2 m I X)
    (a b : Nat) (ha : a < m) (hb : b < m) (hXa : X a = true) (hXb : X b = true) (hIa : I a v = true) (hIb : I b v = true) :
    c (t a) = c (t b) := by
  by_cases hab : a = b
  · rw [hab]
  obtain ⟨w, hwX, hw, wa, wb, h⟩ := hV v a b ha hb hab hXa hXb hIa hIb
  obtain ⟨d, hd⟩ := hE.2 w hwX hw
  have h1 := hE.1 (fun l => c l && d l) v
  have h2 : yX m (fun e => (X e && Bool.xor (c (t e) && d (t e)) (!z e && (c (s e) && d (s e)))) && I e v)
      = yDg m I (fun e => w e && c (t e)) v := by
    unfold yDg
    apply yX_congr
    intro e he
    cases hI : I e v with
    | false => simp
    | true =>
      cases hX : X e with
      | false =>
        have : w e = false := by
          cases hwe : w e with
          | false => rfl
          | true => have := hwX e he hwe; rw [hX] at this; cases this
        simp [this]
      | true =>
        dsimp only
        have h3 := hv e he hX hI
        rw [hd e he hX, h3.2, h3.1]
        cases c (t e) <;> cases d (s e) <;> cases d (t e) <;> rfl
  rw [h2] at h1
  rw [yDg_two m I _ v a b ha hb hab hIa hIb] at h1
  · rw [wa, wb] at h1
    revert h1
    cases c (t a) <;> cases c (t b) <;> simp
  · intro e he hI h3 h4
    cases hwe : w e with
    | false => simp
    | true => rcases h e he hwe hI with h5 | h5 <;> contradiction

-- the inside of a circuit
theorem yDs_inside {L : Type} {m : Nat} {I : Nat → Nat → Bool} {X z0 : Nat → Bool} {s t : Nat → L}
    (hE : yDs m I X z0 s t) (z : Nat → Bool) (hzc : yCi m I z)
    (c : L → Bool) (hc : ∀ e, e < m → X e = true → z e = Bool.xor (c (t e)) (!z0 e && c (s e)))
    (X' : Nat → Bool) (hX' : ∀ e, e < m → X' e = (X e && (c (t e) || (!z0 e && c (s e))))) :
    yDs m I X' z s (fun e => if c (t e) then t e else s e) := by
  constructor
  · intro d
    refine yEv_congr m I _ _ ?_ (hE.1 (fun l => c l && d l))
    intro e he
    rw [hX' e he]
    cases hXe : X e with
    | false => simp
    | true =>
      have := hc e he hXe
      cases hs : c (s e) <;> cases ht : c (t e) <;> cases hz : z0 e <;> simp_all
  · intro y hyX hy
    have hyX2 : ∀ e, e < m → y e = true → X e = true := fun e he h => by
      have := hyX e he h; rw [hX' e he] at this; simp at this; exact this.1
    obtain ⟨d, hd⟩ := hE.2 y hyX2 hy
    have h1 := hE.1 (fun l => !c l && d l)
    have h2 := hzc.2.1 (fun e => X e && Bool.xor (!c (t e) && d (t e)) (!z0 e && (!c (s e) && d (s e)))) ?_ h1
    · have h3 : ∃ k : Bool, ∀ e, e < m → X e = true → z e = true →
          y e = Bool.xor (if c (t e) then d (t e) else d (s e)) k := by
        rcases h2 with h2 | h2
        · refine ⟨false, ?_⟩
          intro e he hX hz
          have h4 := h2 e he
          have h5 := hc e he hX
          have h6 := hd e he hX
          rw [h6]
          revert h4 h5
          rw [hX, hz]
          cases c (s e) <;> cases c (t e) <;> cases d (s e) <;> cases d (t e) <;> cases z0 e <;> simp
        · refine ⟨true, ?_⟩
          intro e he hX hz
          have h4 := h2 e he
          have h5 := hc e he hX
          have h6 := hd e he hX
          rw [h6]
          revert h4 h5
          rw [hX, hz]
          cases c (s e) <;> cases c (t e) <;> cases d (s e) <;> cases d (t e) <;> cases z0 e <;> simp
      obtain ⟨k, hk⟩ := h3
      refine ⟨fun l => Bool.xor (d l) k, ?_⟩
      intro e he hX
      rw [hX' e he] at hX
      simp only [Bool.and_eq_true] at hX
      have h5 := hc e he hX.1
      have h6 := hd e he hX.1
      have h7 := hk e he hX.1
      have h8 := hX.2
      cases hz : z e with
      | true =>
        rw [h7 hz]
        cases hct : c (t e) <;> simp [hct]
      | false =>
        rw [h6]
        rw [hz] at h5
        clear h1 h2 hk h7 h6 hX' hd hc hyX hyX2
        cases hct : c (t e) <;> cases hcs : c (s e) <;> cases hz0 : z0 e <;> simp [hct, hcs, hz0] at h5 h8 ⊢
        cases d (t e) <;> cases d (s e) <;> cases k <;> rfl
    · intro e he h
      cases hz : z e with
      | true => rfl
      | false =>
        exfalso
        simp only [Bool.and_eq_true] at h
        have h5 := hc e he h.1
        have h6 := hd e he h.1
        have h7 : y e = true → (c (t e) || (!z0 e && c (s e))) = true := fun hh => by
          have := hyX e he hh; rw [hX' e he] at this; simp only [Bool.and_eq_true] at this; exact this.2
        rw [hz] at h5
        rw [h6] at h7
        have h8 := h.2
        revert h5 h7 h8
        cases c (s e) <;> cases c (t e) <;> cases d (s e) <;> cases d (t e) <;> cases z0 e <;> simp

-- fewer edges: the labels on both sides of an edge that is left out become one
theorem yDs_del {L : Type} {m : Nat} {I : Nat → Nat → Bool} {X z : Nat → Bool} {s t : Nat → L}
    (hE : yDs m I X z s t) (U : Nat → Bool) (hU : ∀ e, e < m → U e = true → z e = false) (n : Nat) (hn : n ≤ m) :
    ∃ q : L → L, yDs m I (fun e => X e && !(decide (e < n) && U e)) z (fun e => q (s e)) (fun e => q (t e)) := by
  induction n with
  | zero =>
    refine ⟨id, ?_⟩
    simpa using hE
  | succ n ih =>
    obtain ⟨q, h1, h2⟩ := ih (by omega)
    by_cases hb : U n = true ∧ X n = true
    · -- really one edge less
      refine ⟨fun l => @ite _ (q l = q (t n)) (Classical.propDecidable _) (q (s n)) (q l), ?_, ?_⟩
      · intro c
        refine yEv_congr m I _ _ ?_ (h1 (fun l => @ite _ (l = q (t n)) (Classical.propDecidable _) (c (q (s n))) (c l)))
        intro e he
        by_cases hen : e = n
        · subst hen
          have hz := hU e he hb.1
          by_cases h3 : q (s e) = q (t e) <;> simp [hb.1, hb.2, hz, h3]
        · have h4 : (decide (e < n + 1)) = decide (e < n) := by
            by_cases h5 : e < n
            · simp [h5]; omega
            · simp [h5]; omega
          dsimp only
          rw [h4]
          by_cases h5 : q (s e) = q (t n) <;> by_cases h6 : q (t e) = q (t n) <;> simp [h5, h6]
      · intro y hy hev
        obtain ⟨c, hc⟩ := h2 y (fun e he h => by
          have := hy e he h
          by_cases hen : e = n
          · subst hen; simp [hb.1] at this
          · have h4 : (decide (e < n + 1)) = decide (e < n) := by
              by_cases h5 : e < n
              · simp [h5]; omega
              · simp [h5]; omega
            dsimp only at this ⊢
            rw [h4] at this; exact this) hev
        refine ⟨c, ?_⟩
        have hyn : y n = false := by
          cases hyn : y n with
          | false => rfl
          | true => have := hy n (by omega) hyn; simp [hb.1] at this
        have h7 := hc n (by omega) (by simp [hb.2])
        have hz := hU n (by omega) hb.1
        rw [hyn, hz] at h7
        have h8 : c (q (s n)) = c (q (t n)) := by
          revert h7; cases c (q (s n)) <;> cases c (q (t n)) <;> simp
        intro e he hX
        have h9 : (X e && !(decide (e < n) && U e)) = true := by
          revert hX
          by_cases h5 : e < n
          · have : e < n + 1 := by omega
            simp [h5, this]
          · simp [h5]; intro h _; exact h
        rw [hc e he h9]
        by_cases h5 : q (s e) = q (t n) <;> by_cases h6 : q (t e) = q (t n) <;> simp [h5, h6, h8]
    · refine ⟨q, ?_⟩
      have h3 : ∀ e, (X e && !(decide (e < n + 1) && U e)) = (X e && !(decide (e < n) && U e)) := by
        intro e
        by_cases hen : e = n
        · subst hen
          cases hu : U e <;> cases hx : X e <;> simp
          exact hb ⟨hu, hx⟩
        · have h4 : (decide (e < n + 1)) = decide (e < n) := by
            by_cases h5 : e < n
            · simp [h5]; omega
            · simp [h5]; omega
          rw [h4]
      have h4 : (fun e => X e && !(decide (e < n + 1) && U e)) = (fun e => X e && !(decide (e < n) && U e)) := funext h3
      rw [h4]
      exact ⟨h1, h2⟩

theorem yDs_congr {L : Type} {m : Nat} {I : Nat → Nat → Bool} {X z : Nat → Bool} {s t : Nat → L}
    (hE : yDs m I X z s t) (X' : Nat → Bool) (h : ∀ e, e < m → X e = X' e) : yDs m I X' z s t := by
  constructor
  · intro c
    refine yEv_congr m I _ _ ?_ (hE.1 c)
    intro e he; rw [h e he]
  · intro y hy hev
    obtain ⟨c, hc⟩ := hE.2 y (fun e he hh => by rw [h e he]; exact hy e he hh) hev
    exact ⟨c, fun e he hX => hc e he (by rw [h e he]; exact hX)⟩

theorem yDs_sub {L : Type} {m : Nat} {I : Nat → Nat → Bool} {X z : Nat → Bool} {s t : Nat → L}
    (hE : yDs m I X z s t) (X' : Nat → Bool) (h : ∀ e, e < m → X' e = true → X e = true)
    (hz : ∀ e, e < m → z e = true → X e = true → X' e = true) :
    ∃ q : L → L, yDs m I X' z (fun e => q (s e)) (fun e => q (t e)) := by
  obtain ⟨q, hq⟩ := yDs_del hE (fun e => X e && !X' e) (fun e he hu => by
    cases hze : z e with
    | false => rfl
    | true =>
      simp only [Bool.and_eq_true, Bool.not_eq_true'] at hu
      have := hz e he hze hu.1
      rw [hu.2] at this; cases this) m (Nat.le_refl m)
  refine ⟨q, yDs_congr hq X' ?_⟩
  intro e he
  cases hx : X e <;> cases hx' : X' e <;> simp [he]
  have := h e he hx'; rw [hx] at this; cases this
theorem yChoice {A B : Type} {r : A → B → Prop} (h : ∀ a, ∃ b, r a b) : ∃ f : A → B, ∀ a, r a (f a) :=
  ⟨fun a => Classical.choose (h a), fun a => Classical.choose_spec (h a)⟩

noncomputable def yD (p : Prop) : Bool := @decide p (Classical.propDecidable p)

theorem yD_iff (p : Prop) : yD p = true ↔ p := by
  unfold yD; simp

theorem yD_iff0 (p : Prop) : yD p = false ↔ ¬ p := by
  unfold yD; simp

theorem yD_pos {p : Prop} (h : p) : yD p = true := (yD_iff p).2 h
theorem yD_neg {p : Prop} (h : ¬ p) : yD p = false := (yD_iff0 p).2 h

theorem yD_True : yD True = true := yD_pos trivial

def yOn (m : Nat) (I : Nat → Nat → Bool) (z : Nat → Bool) (v : Nat) : Prop :=
  ∃ e, e < m ∧ z e = true ∧ I e v = true

theorem yX_swap (m n : Nat) (a : Nat → Nat → Bool) :
    yX m (fun e => yX n (fun p => a e p)) = yX n (fun p => yX m (fun e => a e p)) := by
  induction m with
  | zero => rw [yX_false n]; rfl; intros; rfl
  | succ m ih => simp only [yX]; rw [ih, yX_xor]

theorem yX_group {B : Type} (bd : Nat → B) (m : Nat) : ∀ (p : Nat → Bool)
    (_ : ∀ i : B, yX m (fun e => yD (bd e = i) && p e) = false), yX m p = false := by
  induction m with
  | zero => intro p _; rfl
  | succ m ih =>
    intro p h
    have h1 : yX (m+1) p = yX (m+1) (fun e => Bool.xor (yD (bd e = bd m) && p e) (!yD (bd e = bd m) && p e)) := by
      apply yX_congr; intro e _
      cases yD (bd e = bd m) <;> cases p e <;> rfl
    rw [h1, yX_xor, h (bd m)]
    simp only [yX]
    rw [yD_pos trivial]
    have h2 := ih (fun e => !yD (bd e = bd m) && p e) ?_
    · rw [h2]; rfl
    · intro i
      by_cases hi : i = bd m
      · subst hi
        apply yX_false
        intro e _
        cases yD (bd e = bd m) <;> simp
      · have h3 := h i
        simp only [yX] at h3
        rw [yD_neg (fun h => hi h.symm : ¬ bd m = i)] at h3
        rw [← h3]
        simp only [Bool.false_and, Bool.xor_false]
        apply yX_congr
        intro e _
        by_cases he : bd e = i
        · rw [yD_pos he, yD_neg (fun h => hi (he.symm.trans h) : ¬ bd e = bd m)]; simp
        · rw [yD_neg he]; simp

theorem yDg_and (m : Nat) (I : Nat → Nat → Bool) (k : Bool) (z : Nat → Bool) (v : Nat) :
    yDg m I (fun e => k && z e) v = (k && yDg m I z v) := by
  cases k with
  | false => simp only [Bool.false_and]; apply yDg_false; intros; rfl
  | true => simp only [Bool.true_and]

theorem yDg_exists (m : Nat) (I : Nat → Nat → Bool) (z : Nat → Bool) (v : Nat) (h : yDg m I z v = true) : yOn m I z v := by
  by_cases hc : yOn m I z v
  · exact hc
  · exfalso
    rw [yDg_false m I z v] at h
    · cases h
    · intro e he hI
      cases hz : z e with
      | false => rfl
      | true => exact absurd ⟨e, he, hz, hI⟩ hc

theorem yEv_iff (m : Nat) (I : Nat → Nat → Bool) (z : Nat → Bool) : yEv m I z ↔ ∀ v, yDg m I z v = false := Iff.rfl

-- beads between two faces f and f0
def yGd (m : Nat) (H : Nat → Bool) (sH tH : Nat → Nat) (f f0 : Nat) (k : Nat → Bool) : Prop :=
  ∀ e, e < m → H e = true → sH e ≠ f → sH e ≠ f0 → tH e ≠ f → tH e ≠ f0 → k (sH e) = k (tH e)

def yCl (m : Nat) (H : Nat → Bool) (sH tH : Nat → Nat) (f f0 : Nat) (l : Nat) : Nat → Prop :=
  fun l' => ∀ k : Nat → Bool, yGd m H sH tH f f0 k → k l = k l'

theorem yCl_of {m : Nat} {H : Nat → Bool} {sH tH : Nat → Nat} {f f0 : Nat} {l l' : Nat}
    (h : ∀ k : Nat → Bool, yGd m H sH tH f f0 k → k l = k l') : yCl m H sH tH f f0 l = yCl m H sH tH f f0 l' := by
  funext x
  apply propext
  constructor
  · intro h1 k hk; rw [← h k hk]; exact h1 k hk
  · intro h1 k hk; rw [h k hk]; exact h1 k hk

theorem yCl_to {m : Nat} {H : Nat → Bool} {sH tH : Nat → Nat} {f f0 : Nat} {l l' : Nat}
    (h : yCl m H sH tH f f0 l = yCl m H sH tH f f0 l') (k : Nat → Bool) (hk : yGd m H sH tH f f0 k) : k l = k l' := by
  have h1 : yCl m H sH tH f f0 l' l' := fun k _ => rfl
  rw [← h] at h1
  exact h1 k hk

-- the bead of an edge (for edges off H: the bead of a face told)
noncomputable def yBd (m : Nat) (H : Nat → Bool) (sH tH : Nat → Nat) (f f0 : Nat) (g : Nat → Nat) (e : Nat) : (Nat → Prop) ⊕ Nat :=
  if H e = true then
    (if sH e ≠ f ∧ sH e ≠ f0 then Sum.inl (yCl m H sH tH f f0 (sH e))
     else if tH e ≠ f ∧ tH e ≠ f0 then Sum.inl (yCl m H sH tH f f0 (tH e)) else Sum.inr e)
  else Sum.inl (yCl m H sH tH f f0 (g e))

theorem yBd_s {m : Nat} {H : Nat → Bool} {sH tH : Nat → Nat} {f f0 : Nat} {g : Nat → Nat} {e : Nat} (hH : H e = true)
    (h1 : sH e ≠ f) (h2 : sH e ≠ f0) : yBd m H sH tH f f0 g e = Sum.inl (yCl m H sH tH f f0 (sH e)) := by
  unfold yBd; rw [if_pos hH, if_pos ⟨h1, h2⟩]

theorem yBd_t {m : Nat} {H : Nat → Bool} {sH tH : Nat → Nat} {f f0 : Nat} {g : Nat → Nat} {e : Nat} (he : e < m) (hH : H e = true)
    (h1 : tH e ≠ f) (h2 : tH e ≠ f0) : yBd m H sH tH f f0 g e = Sum.inl (yCl m H sH tH f f0 (tH e)) := by
  unfold yBd; rw [if_pos hH]
  by_cases h3 : sH e ≠ f ∧ sH e ≠ f0
  · rw [if_pos h3]
    congr 1
    apply yCl_of
    intro k hk
    exact hk e he hH h3.1 h3.2 h1 h2
  · rw [if_neg h3, if_pos ⟨h1, h2⟩]

theorem yBd_n {m : Nat} {H : Nat → Bool} {sH tH : Nat → Nat} {f f0 : Nat} {g : Nat → Nat} {e : Nat} (hH : H e = true)
    (h1 : sH e = f ∨ sH e = f0) (h2 : tH e = f ∨ tH e = f0) : yBd m H sH tH f f0 g e = Sum.inr e := by
  unfold yBd; rw [if_pos hH, if_neg, if_neg]
  · intro h; rcases h2 with h2 | h2
    · exact h.1 h2
    · exact h.2 h2
  · intro h; rcases h1 with h1 | h1
    · exact h.1 h1
    · exact h.2 h1

theorem yBd_x {m : Nat} {H : Nat → Bool} {sH tH : Nat → Nat} {f f0 : Nat} {g : Nat → Nat} {e : Nat} (hH : H e = false) :
    yBd m H sH tH f f0 g e = Sum.inl (yCl m H sH tH f f0 (g e)) := by
  unfold yBd; rw [if_neg]; rw [hH]; simp

-- boundary of a face
def yZ (H : Nat → Bool) (sH tH : Nat → Nat) (g e : Nat) : Bool := H e && (sH e == g || tH e == g)

-- the other face of an edge
def yO (sH tH : Nat → Nat) (g e : Nat) : Nat := if sH e = g then tH e else sH e

theorem yZ_iff (H : Nat → Bool) (sH tH : Nat → Nat) (g e : Nat) : yZ H sH tH g e = true ↔ H e = true ∧ (sH e = g ∨ tH e = g) := by
  unfold yZ; simp

-- b2
theorem yBead_even {m : Nat} {I : Nat → Nat → Bool} {H : Nat → Bool} {sH tH : Nat → Nat}
    (hH : yDs m I H (fun _ => false) sH tH) (hne : ∀ e, e < m → H e = true → sH e ≠ tH e) (f f0 : Nat) (g : Nat → Nat) (hff : f ≠ f0)
    (i : (Nat → Prop) ⊕ Nat) (v : Nat) :
    yDg m I (fun e => yD (yBd m H sH tH f f0 g e = i) && yZ H sH tH f e) v
      = yDg m I (fun e => yD (yBd m H sH tH f f0 g e = i) && yZ H sH tH f0 e) v := by
  have h := hH.1 (fun l => yD (l ≠ f ∧ l ≠ f0 ∧ Sum.inl (yCl m H sH tH f f0 l) = i)) v
  have h1 : yDg m I (fun e => Bool.xor (yD (yBd m H sH tH f f0 g e = i) && yZ H sH tH f e)
      (yD (yBd m H sH tH f f0 g e = i) && yZ H sH tH f0 e)) v = false := by
    rw [← h]
    apply yDg_congr (w := fun e => H e && Bool.xor (yD (tH e ≠ f ∧ tH e ≠ f0 ∧ Sum.inl (yCl m H sH tH f f0 (tH e)) = i))
      (!false && yD (sH e ≠ f ∧ sH e ≠ f0 ∧ Sum.inl (yCl m H sH tH f f0 (sH e)) = i)))
    intro e he _
    cases hHe : H e with
    | false => simp [yZ, hHe]
    | true =>
      have hn := hne e he hHe
      have hq : ∀ (a b c : Prop), (¬ a ∨ ¬ b) → yD (a ∧ b ∧ c) = false := fun a b c h => yD_neg (fun h1 => h.elim (fun h2 => h2 h1.1) (fun h2 => h2 h1.2.1))
      have hp : ∀ (a b c : Prop), a → b → yD (a ∧ b ∧ c) = yD c := fun a b c h1 h2 => by
        by_cases hc : c
        · rw [yD_pos hc, yD_pos ⟨h1, h2, hc⟩]
        · rw [yD_neg hc, yD_neg (fun h => hc h.2.2)]
      by_cases s1 : sH e ≠ f ∧ sH e ≠ f0
      · have hb := yBd_s (tH := tH) (m := m) (g := g) hHe s1.1 s1.2
        by_cases t1 : tH e ≠ f ∧ tH e ≠ f0
        · have hb2 := yBd_t (sH := sH) (g := g) he hHe t1.1 t1.2
          have z1 : yZ H sH tH f e = false := by simp [yZ, s1.1, t1.1]
          have z0 : yZ H sH tH f0 e = false := by simp [yZ, s1.2, t1.2]
          rw [hp _ _ _ s1.1 s1.2, hp _ _ _ t1.1 t1.2, ← hb, ← hb2, z1, z0]
          simp
        · rw [hp _ _ _ s1.1 s1.2, hq _ _ _ (by
            by_cases h5 : tH e = f
            · exact Or.inl (fun h => h h5)
            · exact Or.inr (fun h => t1 ⟨h5, h⟩)), ← hb]
          by_cases h5 : tH e = f
          · have z1 : yZ H sH tH f e = true := by simp [yZ, hHe, h5]
            have z0 : yZ H sH tH f0 e = false := by simp [yZ, s1.2, h5, hff]
            rw [z1, z0]; simp
          · have h6 : tH e = f0 := by
              by_cases h6 : tH e = f0
              · exact h6
              · exact absurd ⟨h5, h6⟩ t1
            have z1 : yZ H sH tH f e = false := by simp [yZ, h5, s1.1]
            have z0 : yZ H sH tH f0 e = true := by simp [yZ, hHe, h6]
            rw [z1, z0]; simp
      · rw [hq (sH e ≠ f) (sH e ≠ f0) _ (by
            by_cases h5 : sH e = f
            · exact Or.inl (fun h => h h5)
            · exact Or.inr (fun h => s1 ⟨h5, h⟩))]
        by_cases t1 : tH e ≠ f ∧ tH e ≠ f0
        · have hb2 := yBd_t (sH := sH) (g := g) he hHe t1.1 t1.2
          rw [hp _ _ _ t1.1 t1.2, ← hb2]
          by_cases h5 : sH e = f
          · have z1 : yZ H sH tH f e = true := by simp [yZ, hHe, h5]
            have z0 : yZ H sH tH f0 e = false := by simp [yZ, t1.2, h5, hff]
            rw [z1, z0]; simp
          · have h6 : sH e = f0 := by
              by_cases h6 : sH e = f0
              · exact h6
              · exact absurd ⟨h5, h6⟩ s1
            have z1 : yZ H sH tH f e = false := by simp [yZ, h5, t1.1]
            have z0 : yZ H sH tH f0 e = true := by simp [yZ, hHe, h6]
            rw [z1, z0]; simp
        · rw [hq (tH e ≠ f) (tH e ≠ f0) _ (by
            by_cases h5 : tH e = f
            · exact Or.inl (fun h => h h5)
            · exact Or.inr (fun h => t1 ⟨h5, h⟩))]
          have h7 : (sH e = f ∧ tH e = f0) ∨ (sH e = f0 ∧ tH e = f) := by omega
          have z1 : yZ H sH tH f e = true := by rcases h7 with h7 | h7 <;> simp [yZ, hHe, h7.1, h7.2]
          have z0 : yZ H sH tH f0 e = true := by rcases h7 with h7 | h7 <;> simp [yZ, hHe, h7.1, h7.2]
          rw [z1, z0]; simp
  rw [yDg_xor] at h1
  revert h1
  cases yDg m I (fun e => yD (yBd m H sH tH f f0 g e = i) && yZ H sH tH f e) v <;>
    cases yDg m I (fun e => yD (yBd m H sH tH f f0 g e = i) && yZ H sH tH f0 e) v <;> simp
theorem yO_delta {H : Nat → Bool} {sH tH : Nat → Nat} {a e : Nat} (c : Nat → Bool) (hz : yZ H sH tH a e = true) :
    Bool.xor (c (tH e)) (c (sH e)) = Bool.xor (c a) (c (yO sH tH a e)) := by
  rw [yZ_iff] at hz
  unfold yO
  by_cases h : sH e = a
  · rw [if_pos h, h]; cases c a <;> cases c (tH e) <;> rfl
  · rw [if_neg h]
    have : tH e = a := by rcases hz.2 with h1 | h1; exact absurd h1 h; exact h1
    rw [this]

theorem yBead_lab {m : Nat} {H : Nat → Bool} {sH tH : Nat → Nat} {f f0 : Nat} {g : Nat → Nat} {e a : Nat} (he : e < m)
    (ha : a = f ∨ a = f0) (hz : yZ H sH tH a e = true) :
    (yO sH tH a e ≠ f ∧ yO sH tH a e ≠ f0 ∧ yBd m H sH tH f f0 g e = Sum.inl (yCl m H sH tH f f0 (yO sH tH a e))) ∨
    (yBd m H sH tH f f0 g e = Sum.inr e ∧ (yO sH tH a e = f ∨ yO sH tH a e = f0)) := by
  have hz' := (yZ_iff H sH tH a e).1 hz
  unfold yO
  by_cases h : sH e = a
  · rw [if_pos h]
    by_cases h1 : tH e ≠ f ∧ tH e ≠ f0
    · exact Or.inl ⟨h1.1, h1.2, yBd_t he hz'.1 h1.1 h1.2⟩
    · right
      have h2 : tH e = f ∨ tH e = f0 := by omega
      refine ⟨yBd_n hz'.1 (by omega) h2, h2⟩
  · rw [if_neg h]
    have h3 : tH e = a := by rcases hz'.2 with h1 | h1; exact absurd h1 h; exact h1
    by_cases h1 : sH e ≠ f ∧ sH e ≠ f0
    · exact Or.inl ⟨h1.1, h1.2, yBd_s hz'.1 h1.1 h1.2⟩
    · right
      have h2 : sH e = f ∨ sH e = f0 := by omega
      refine ⟨yBd_n hz'.1 h2 (by omega), h2⟩

theorem yO_on {H : Nat → Bool} {sH tH : Nat → Nat} {a b e : Nat} (_ : sH e ≠ tH e) (hz : yZ H sH tH a e = true)
    (hb : yO sH tH a e ≠ b) (hab : a ≠ b) : yZ H sH tH b e = false := by
  have hz' := (yZ_iff H sH tH a e).1 hz
  cases h : yZ H sH tH b e with
  | false => rfl
  | true =>
    exfalso
    have h' := (yZ_iff H sH tH b e).1 h
    unfold yO at hb
    by_cases h1 : sH e = a
    · rw [if_pos h1] at hb; omega
    · rw [if_neg h1] at hb; omega

theorem yBead_const {m : Nat} {I : Nat → Nat → Bool} {H : Nat → Bool} {sH tH : Nat → Nat}
    (hH : yDs m I H (fun _ => false) sH tH) (hne : ∀ e, e < m → H e = true → sH e ≠ tH e) (f f0 : Nat) (g : Nat → Nat) (hff : f ≠ f0)
    (T T' : Nat → Bool) (hT : ∀ e, e < m → T e = true → yZ H sH tH f e = true) (hT' : ∀ e, e < m → T' e = true → yZ H sH tH f0 e = true)
    (hd : ∀ v, yDg m I T v = yDg m I T' v) (e e' : Nat) (he : e < m) (he' : e' < m)
    (hb : yBd m H sH tH f f0 g e = yBd m H sH tH f f0 g e') :
    (yZ H sH tH f e = true → yZ H sH tH f e' = true → T e = T e') ∧
    (yZ H sH tH f0 e = true → yZ H sH tH f0 e' = true → T' e = T' e') := by
  obtain ⟨c, hc⟩ := hH.2 (fun e => Bool.xor (T e) (T' e)) (by
      intro e he h
      cases h1 : T e with
      | true => exact ((yZ_iff H sH tH f e).1 (hT e he h1)).1
      | false =>
        cases h2 : T' e with
        | true => exact ((yZ_iff H sH tH f0 e).1 (hT' e he h2)).1
        | false => rw [h1, h2] at h; cases h) (by
      intro v
      have := yDg_xor m I T T' v
      unfold yDg at this
      rw [this]
      have := hd v
      unfold yDg at this
      rw [this]; simp)
  have hT0 : ∀ e, e < m → yZ H sH tH f e = false → T e = false := fun e he h => by
    cases h1 : T e with
    | false => rfl
    | true => rw [hT e he h1] at h; cases h
  have hT0' : ∀ e, e < m → yZ H sH tH f0 e = false → T' e = false := fun e he h => by
    cases h1 : T' e with
    | false => rfl
    | true => rw [hT' e he h1] at h; cases h
  have hgd : yGd m H sH tH f f0 c := by
    intro e he hHe h1 h2 h3 h4
    have := hc e he hHe
    rw [hT0 e he (by simp [yZ, h1, h3]), hT0' e he (by simp [yZ, h2, h4])] at this
    revert this
    cases c (sH e) <;> cases c (tH e) <;> simp
  constructor
  · intro hz hz'
    have hzH := ((yZ_iff H sH tH f e).1 hz).1
    have hzH' := ((yZ_iff H sH tH f e').1 hz').1
    rcases yBead_lab (g := g) (f := f) (f0 := f0) he (Or.inl rfl) hz with h1 | h1
    · rcases yBead_lab (g := g) (f := f) (f0 := f0) he' (Or.inl rfl) hz' with h2 | h2
      · rw [h1.2.2, h2.2.2] at hb
        have h3 := yCl_to (Sum.inl.inj hb) c hgd
        have h4 := hc e he hzH
        have h5 := hc e' he' hzH'
        dsimp only at h4 h5
        simp only [Bool.not_false, Bool.true_and] at h4 h5
        rw [yO_delta c hz, hT0' e he (yO_on (hne e he hzH) hz h1.2.1 hff), Bool.xor_false] at h4
        rw [yO_delta c hz', hT0' e' he' (yO_on (hne e' he' hzH') hz' h2.2.1 hff), Bool.xor_false] at h5
        rw [h4, h5, h3]
      · rw [h1.2.2, h2.1] at hb; cases hb
    · rcases yBead_lab (g := g) (f := f) (f0 := f0) he' (Or.inl rfl) hz' with h2 | h2
      · rw [h1.1, h2.2.2] at hb; cases hb
      · rw [h1.1, h2.1] at hb; cases hb; rfl
  · intro hz hz'
    have hzH := ((yZ_iff H sH tH f0 e).1 hz).1
    have hzH' := ((yZ_iff H sH tH f0 e').1 hz').1
    rcases yBead_lab (g := g) (f := f) (f0 := f0) he (Or.inr rfl) hz with h1 | h1
    · rcases yBead_lab (g := g) (f := f) (f0 := f0) he' (Or.inr rfl) hz' with h2 | h2
      · rw [h1.2.2, h2.2.2] at hb
        have h3 := yCl_to (Sum.inl.inj hb) c hgd
        have h4 := hc e he hzH
        have h5 := hc e' he' hzH'
        dsimp only at h4 h5
        simp only [Bool.not_false, Bool.true_and] at h4 h5
        rw [yO_delta c hz, hT0 e he (yO_on (hne e he hzH) hz h1.1 (Ne.symm hff)), Bool.false_xor] at h4
        rw [yO_delta c hz', hT0 e' he' (yO_on (hne e' he' hzH') hz' h2.1 (Ne.symm hff)), Bool.false_xor] at h5
        rw [h4, h5, h3]
      · rw [h1.2.2, h2.1] at hb; cases hb
    · rcases yBead_lab (g := g) (f := f) (f0 := f0) he' (Or.inr rfl) hz' with h2 | h2
      · rw [h1.1, h2.2.2] at hb; cases hb
      · rw [h1.1, h2.1] at hb; cases hb; rfl

-- a bead that has an edge on f has one on f0, and none has all of f
theorem yBead_many {m : Nat} {I : Nat → Nat → Bool} {H : Nat → Bool} {sH tH : Nat → Nat}
    (hH : yDs m I H (fun _ => false) sH tH) (hne : ∀ e, e < m → H e = true → sH e ≠ tH e) (f f0 : Nat) (g : Nat → Nat) (hff : f ≠ f0)
    (hCf : yCi m I (yZ H sH tH f)) (hCf0 : yCi m I (yZ H sH tH f0))
    (hw0 : ∃ w v0, yDg m I w v0 = true ∧ ∀ v, yDg m I w v = true → yOn m I (yZ H sH tH f) v ∧ yOn m I (yZ H sH tH f0) v)
    (i : (Nat → Prop) ⊕ Nat) :
    (∃ e, e < m ∧ yZ H sH tH f e = true ∧ yBd m H sH tH f f0 g e ≠ i) ∧
    ((∃ e, e < m ∧ yZ H sH tH f e = true ∧ yBd m H sH tH f f0 g e = i) → ∃ e, e < m ∧ yZ H sH tH f0 e = true ∧ yBd m H sH tH f f0 g e = i) := by
  obtain ⟨w, v0, hv0, hw⟩ := hw0
  obtain ⟨T, hT, hTd⟩ := hCf.2.2.1 w (fun v hv => (hw v hv).1)
  obtain ⟨T', hT', hTd'⟩ := hCf0.2.2.1 w (fun v hv => (hw v hv).2)
  have hA : ∃ e, e < m ∧ yZ H sH tH f e = true ∧ yBd m H sH tH f f0 g e ≠ i := by
    by_cases hcon : ∃ e, e < m ∧ yZ H sH tH f e = true ∧ yBd m H sH tH f f0 g e ≠ i
    · exact hcon
    · exfalso
      have hall : ∀ e, e < m → yZ H sH tH f e = true → yBd m H sH tH f f0 g e = i := by
        intro e he hz
        by_cases h : yBd m H sH tH f f0 g e = i
        · exact h
        · exact absurd ⟨e, he, hz, h⟩ hcon
      -- T is constant on Z f
      obtain ⟨e1, he1, hTe1, _⟩ := yDg_exists m I T v0 (by rw [hTd]; exact hv0)
      have hc : ∀ e, e < m → T e = yZ H sH tH f e := by
        intro e he
        cases hz : yZ H sH tH f e with
        | false =>
          cases h : T e with
          | false => rfl
          | true => rw [hT e he h] at hz; cases hz
        | true =>
          have := (yBead_const hH hne f f0 g hff T T' hT hT' (fun v => by rw [hTd, hTd']) e e1 he he1
            (by rw [hall e he hz, hall e1 he1 (hT e1 he1 hTe1)])).1 hz (hT e1 he1 hTe1)
          rw [this, hTe1]
      have h2 : yDg m I T v0 = yDg m I (yZ H sH tH f) v0 := yDg_congr m I _ _ v0 (fun e he _ => hc e he)
      rw [hTd, hv0, (yEv_iff m I _).1 hCf.1 v0] at h2
      cases h2
  refine ⟨hA, ?_⟩
  rintro ⟨e1, he1, hz1, hb1⟩
  by_cases hcon : ∃ e, e < m ∧ yZ H sH tH f0 e = true ∧ yBd m H sH tH f f0 g e = i
  · exact hcon
  · exfalso
    have h1 : yEv m I (fun e => yD (yBd m H sH tH f f0 g e = i) && yZ H sH tH f e) := by
      intro v
      have := yBead_even hH hne f f0 g hff i v
      unfold yDg at this
      rw [this]
      apply yX_false
      intro e he
      cases hz : yZ H sH tH f0 e with
      | false => simp [hz]
      | true => dsimp only; rw [yD_neg (fun h => hcon ⟨e, he, hz, h⟩)]; rfl
    rcases hCf.2.1 _ (fun e he h => by simp only [Bool.and_eq_true] at h; exact h.2) h1 with h2 | h2
    · have := h2 e1 he1
      rw [yD_pos hb1, hz1] at this; cases this
    · obtain ⟨e2, he2, hz2, hb2⟩ := hA
      have := h2 e2 he2
      rw [yD_neg hb2, hz2] at this; cases this

-- confinement, one piece
theorem yBead_conf {m : Nat} {I : Nat → Nat → Bool} {H : Nat → Bool} {sH tH : Nat → Nat}
    (hH : yDs m I H (fun _ => false) sH tH) (hne : ∀ e, e < m → H e = true → sH e ≠ tH e) (f f0 : Nat) (g : Nat → Nat) (hff : f ≠ f0)
    (hmany : ∀ i, (∃ e, e < m ∧ yZ H sH tH f e = true ∧ yBd m H sH tH f f0 g e = i) → ∃ e, e < m ∧ yZ H sH tH f0 e = true ∧ yBd m H sH tH f f0 g e = i)
    (h : Nat) (hf : h ≠ f) (hf0 : h ≠ f0)
    (J J' : Nat → Bool) (hJ : ∀ e, e < m → J e = true → yZ H sH tH f e = true) (hJ' : ∀ e, e < m → J' e = true → yZ H sH tH h e = true)
    (hd : ∀ v, yDg m I J v = yDg m I J' v) :
    ∃ k : Bool, ∀ e, e < m → yZ H sH tH f e = true → yBd m H sH tH f f0 g e ≠ Sum.inl (yCl m H sH tH f f0 h) → J e = k := by
  obtain ⟨c, hc⟩ := hH.2 (fun e => Bool.xor (J e) (J' e)) (by
      intro e he hh
      cases h1 : J e with
      | true => exact ((yZ_iff H sH tH f e).1 (hJ e he h1)).1
      | false =>
        cases h2 : J' e with
        | true => exact ((yZ_iff H sH tH h e).1 (hJ' e he h2)).1
        | false => rw [h1, h2] at hh; cases hh) (by
      intro v
      have := yDg_xor m I J J' v
      unfold yDg at this
      rw [this]
      have := hd v
      unfold yDg at this
      rw [this]; simp)
  have hJ0 : ∀ e, e < m → yZ H sH tH f e = false → J e = false := fun e he h => by
    cases h1 : J e with
    | false => rfl
    | true => rw [hJ e he h1] at h; cases h
  have hJ0' : ∀ e, e < m → yZ H sH tH h e = false → J' e = false := fun e he hh => by
    cases h1 : J' e with
    | false => rfl
    | true => rw [hJ' e he h1] at hh; cases hh
  refine ⟨Bool.xor (c f) (c f0), ?_⟩
  intro e he hz hb
  have hzH := ((yZ_iff H sH tH f e).1 hz).1
  have hOh : yO sH tH f e ≠ h := by
    intro hO
    apply hb
    rcases yBead_lab (g := g) (f := f) (f0 := f0) he (Or.inl rfl) hz with h1 | h1
    · rw [h1.2.2, hO]
    · rw [hO] at h1; rcases h1.2 with h2 | h2
      · exact absurd h2 hf
      · exact absurd h2 hf0
  have h4 := hc e he hzH
  dsimp only at h4
  simp only [Bool.not_false, Bool.true_and] at h4
  rw [yO_delta c hz, hJ0' e he (yO_on (hne e he hzH) hz hOh (Ne.symm hf)), Bool.xor_false] at h4
  rw [h4]
  congr 1
  rcases yBead_lab (g := g) (f := f) (f0 := f0) he (Or.inl rfl) hz with h1 | h1
  · obtain ⟨e0, he0, hz0, hb0⟩ := hmany _ ⟨e, he, hz, rfl⟩
    have hzH0 := ((yZ_iff H sH tH f0 e0).1 hz0).1
    rcases yBead_lab (g := g) (f := f) (f0 := f0) he0 (Or.inr rfl) hz0 with h2 | h2
    · have hcl : yCl m H sH tH f f0 (yO sH tH f e) = yCl m H sH tH f f0 (yO sH tH f0 e0) := by
        rw [h1.2.2, h2.2.2] at hb0; exact (Sum.inl.inj hb0).symm
      have hn : yCl m H sH tH f f0 (yO sH tH f e) ≠ yCl m H sH tH f f0 h := by
        intro hh; apply hb; rw [h1.2.2, hh]
      have hO0 : yO sH tH f0 e0 ≠ h := by
        intro hh; apply hn; rw [hcl, hh]
      have h5 := hc e0 he0 hzH0
      dsimp only at h5
      simp only [Bool.not_false, Bool.true_and] at h5
      rw [yO_delta c hz0, hJ0' e0 he0 (yO_on (hne e0 he0 hzH0) hz0 hO0 (Ne.symm hf0)),
        hJ0 e0 he0 (yO_on (hne e0 he0 hzH0) hz0 h2.1 (Ne.symm hff))] at h5
      have h6 : c f0 = c (yO sH tH f0 e0) := by
        revert h5; cases c f0 <;> cases c (yO sH tH f0 e0) <;> simp
      rw [h6]
      have h7 := yCl_to hcl (fun l => !yD (yCl m H sH tH f f0 l = yCl m H sH tH f f0 h) && c l) (by
        intro d hd hHd a1 a2 a3 a4
        have h8 : yCl m H sH tH f f0 (sH d) = yCl m H sH tH f f0 (tH d) := yCl_of (fun k hk => hk d hd hHd a1 a2 a3 a4)
        dsimp only
        rw [h8]
        by_cases h9 : yCl m H sH tH f f0 (tH d) = yCl m H sH tH f f0 h
        · rw [yD_pos h9]; rfl
        · rw [yD_neg h9]
          have h10 : sH d ≠ h := fun hh => h9 (by rw [← h8, hh])
          have h11 : tH d ≠ h := fun hh => h9 (by rw [hh])
          have h12 := hc d hd hHd
          rw [hJ0 d hd (by simp [yZ, a1, a3]), hJ0' d hd (by simp [yZ, h10, h11])] at h12
          revert h12
          cases c (sH d) <;> cases c (tH d) <;> simp)
      rw [yD_neg hn, yD_neg (by rw [← hcl]; exact hn)] at h7
      simpa using h7
    · rw [h1.2.2, h2.1] at hb0; cases hb0
  · rcases h1.2 with h2 | h2
    · exfalso
      have h3 := (yZ_iff H sH tH f e).1 hz
      unfold yO at h2
      have := hne e he hzH
      by_cases h4 : sH e = f
      · rw [if_pos h4] at h2; omega
      · rw [if_neg h4] at h2; omega
    · rw [h2]

-- beads at a node off f0
theorem yBead_node {m : Nat} {I : Nat → Nat → Bool} {H : Nat → Bool} {sH tH : Nat → Nat}
    (hH : yDs m I H (fun _ => false) sH tH) (hV : yV2 m I H) (f f0 : Nat)
    (hne : ∀ e, e < m → H e = true → sH e ≠ tH e)
    (hCf : yCi m I (yZ H sH tH f)) (v : Nat) (hv0 : ¬ yOn m I (yZ H sH tH f0) v)
    (e : Nat) (he : e < m) (hz : yZ H sH tH f e = true) (hI : I e v = true)
    (d : Nat) (hd : d < m) (hHd : H d = true) (hId : I d v = true) (l : Nat) (hl : l = sH d ∨ l = tH d) (hlf : l ≠ f) :
    yCl m H sH tH f f0 (yO sH tH f e) = yCl m H sH tH f f0 l := by
  apply yCl_of
  intro k hk
  have hno : ∀ a, a < m → H a = true → I a v = true → sH a ≠ f0 ∧ tH a ≠ f0 := by
    intro a ha hHa hIa
    constructor
    · intro h; exact hv0 ⟨a, ha, (yZ_iff _ _ _ _ _).2 ⟨hHa, Or.inl h⟩, hIa⟩
    · intro h; exact hv0 ⟨a, ha, (yZ_iff _ _ _ _ _).2 ⟨hHa, Or.inr h⟩, hIa⟩
  obtain ⟨e', he', hee, hz', hI', hall⟩ := hCf.2.2.2 e v he hz hI
  have hOn : ∀ a, a < m → yZ H sH tH f a = true → I a v = true → yO sH tH f a ≠ f ∧ yO sH tH f a ≠ f0 := by
    intro a ha hza hIa
    have h1 := (yZ_iff _ _ _ _ _).1 hza
    have h2 := hno a ha h1.1 hIa
    have h3 := hne a ha h1.1
    unfold yO
    by_cases h4 : sH a = f
    · rw [if_pos h4]; omega
    · rw [if_neg h4]; omega
  -- the two edges of f at v
  have hk2 : k (yO sH tH f e) = k (yO sH tH f e') := by
    have h1 := hH.1 (fun l => if l = f then false else k l) v
    have h2 : yDg m I (fun a => H a && Bool.xor ((fun l => if l = f then false else k l) (tH a)) (!false && (fun l => if l = f then false else k l) (sH a))) v = false := h1
    rw [yDg_two m I _ v e e' he he' (Ne.symm hee) hI hI'] at h2
    · simp only [Bool.not_false, Bool.true_and] at h2
      rw [yO_delta (fun l => if l = f then false else k l) hz, yO_delta (fun l => if l = f then false else k l) hz'] at h2
      rw [if_pos rfl, if_neg (hOn e he hz hI).1, if_neg (hOn e' he' hz' hI').1, ((yZ_iff _ _ _ _ _).1 hz).1, ((yZ_iff _ _ _ _ _).1 hz').1] at h2
      revert h2
      cases k (yO sH tH f e) <;> cases k (yO sH tH f e') <;> simp
    · intro a ha hIa h3 h4
      cases hHa : H a with
      | false => simp
      | true =>
        have hza : yZ H sH tH f a = false := by
          cases h5 : yZ H sH tH f a with
          | false => rfl
          | true => rcases hall a ha h5 hIa with h6 | h6 <;> contradiction
        have h7 : sH a ≠ f ∧ tH a ≠ f := by
          constructor
          · intro h8; rw [(yZ_iff _ _ _ _ _).2 ⟨hHa, Or.inl h8⟩] at hza; cases hza
          · intro h8; rw [(yZ_iff _ _ _ _ _).2 ⟨hHa, Or.inr h8⟩] at hza; cases hza
        have h9 := hno a ha hHa hIa
        dsimp only
        rw [if_neg h7.1, if_neg h7.2, hk a ha hHa h7.1 h9.1 h7.2 h9.2]; simp
  obtain ⟨K, hK⟩ : ∃ K, k (yO sH tH f e) = K := ⟨_, rfl⟩
  rw [hK]
  have hcol : ∀ a, a < m → H a = true → I a v = true →
      (if sH a = f then K else k (sH a)) = (if tH a = f then K else k (tH a)) := by
    intro a ha hHa hIa
    have h9 := hno a ha hHa hIa
    cases hza : yZ H sH tH f a with
    | false =>
      have h7 : sH a ≠ f ∧ tH a ≠ f := by
        constructor
        · intro h8; rw [(yZ_iff _ _ _ _ _).2 ⟨hHa, Or.inl h8⟩] at hza; cases hza
        · intro h8; rw [(yZ_iff _ _ _ _ _).2 ⟨hHa, Or.inr h8⟩] at hza; cases hza
      rw [if_neg h7.1, if_neg h7.2, hk a ha hHa h7.1 h9.1 h7.2 h9.2]
    | true =>
      have h10 : k (yO sH tH f a) = K := by
        rcases hall a ha hza hIa with h6 | h6
        · rw [h6, hK]
        · rw [h6, ← hk2, hK]
      have h11 := (yZ_iff _ _ _ _ _).1 hza
      have h12 := hne a ha hHa
      unfold yO at h10
      by_cases h13 : sH a = f
      · rw [if_pos h13] at h10 ⊢
        rw [if_neg (fun h => h12 (h13.trans h.symm))]; exact h10.symm
      · rw [if_neg h13] at h10 ⊢
        have h14 : tH a = f := by rcases h11.2 with h15 | h15; exact absurd h15 h13; exact h15
        rw [if_pos h14]; exact h10
  have h1 := yDs_color hH (fun l => if l = f then K else k l) v (fun a ha hHa hIa => ⟨rfl, hcol a ha hHa hIa⟩) hV
    e d he hd ((yZ_iff _ _ _ _ _).1 hz).1 hHd hI hId
  have h2 : (if tH d = f then K else k (tH d)) = k l := by
    rcases hl with hl | hl
    · rw [← hcol d hd hHd hId, ← hl, if_neg hlf]
    · rw [← hl, if_neg hlf]
  rw [h2] at h1
  rw [← h1]
  have h3 := hcol e he ((yZ_iff _ _ _ _ _).1 hz).1 hI
  rcases ((yZ_iff _ _ _ _ _).1 hz).2 with h4 | h4
  · rw [← h3, h4, if_pos rfl]
  · rw [h4, if_pos rfl]
-- the sum over pieces of their joins
theorem yDg_sum (m n : Nat) (I : Nat → Nat → Bool) (J : Nat → Nat → Bool) (v : Nat) :
    yDg m I (fun e => yX n (fun p => J p e)) v = yX n (fun p => yDg m I (J p) v) := by
  unfold yDg
  rw [← yX_swap]
  apply yX_congr
  intro e _
  cases I e v with
  | false => simp; rw [yX_false]; intros; rfl
  | true => simp

-- several pieces in one bead: off the bead the inner labels are one
theorem yBead_inner {L : Type} {m : Nat} {I : Nat → Nat → Bool} {H : Nat → Bool} {sH tH : Nat → Nat}
    (hH : yDs m I H (fun _ => false) sH tH) (hne : ∀ e, e < m → H e = true → sH e ≠ tH e) (f f0 : Nat) (g : Nat → Nat) (hff : f ≠ f0)
    (hmany : ∀ i, (∃ e, e < m ∧ yZ H sH tH f e = true ∧ yBd m H sH tH f f0 g e = i) → ∃ e, e < m ∧ yZ H sH tH f0 e = true ∧ yBd m H sH tH f f0 g e = i)
    (hCf : yCi m I (yZ H sH tH f))
    (R : Nat → Bool) (hR : ∀ e, e < m → R e = true → H e = false)
    (s t : Nat → L) (hD : yDs m I (fun e => yZ H sH tH f e || R e) (yZ H sH tH f) s t)
    (n : Nat) (pc : Nat → Nat) (hpn : ∀ e, e < m → R e = true → pc e < n)
    (h : Nat → Nat) (i : (Nat → Prop) ⊕ Nat)
    (hRi : ∀ e, e < m → R e = true → h (pc e) ≠ f ∧ h (pc e) ≠ f0 ∧ i = Sum.inl (yCl m H sH tH f f0 (h (pc e))) ∧ yCi m I (yZ H sH tH (h (pc e))))
    (hRn : ∀ e e' v, e < m → e' < m → R e = true → R e' = true → I e v = true → I e' v = true → ¬ yOn m I H v → pc e = pc e')
    (hRa : ∀ e v, e < m → R e = true → I e v = true → yOn m I H v → yOn m I (yZ H sH tH f) v ∧ yOn m I (yZ H sH tH (h (pc e))) v)
    (a b : Nat) (ha : a < m) (hb : b < m) (hza : yZ H sH tH f a = true) (hzb : yZ H sH tH f b = true)
    (hba : yBd m H sH tH f f0 g a ≠ i) (hbb : yBd m H sH tH f f0 g b ≠ i) : t a = t b := by
  -- for every colouring the values agree
  have key : ∀ c : L → Bool, c (t a) = c (t b) := by
    intro c
    have hev := hD.1 c
    -- the set of the colouring
    obtain ⟨y, hy⟩ : ∃ y : Nat → Bool, y = fun e => (yZ H sH tH f e || R e) && Bool.xor (c (t e)) (!yZ H sH tH f e && c (s e)) := ⟨_, rfl⟩
    have hyev : yEv m I y := by rw [hy]; exact hev
    have hzR : ∀ e, e < m → R e = true → yZ H sH tH f e = false := fun e he hr => by
      simp [yZ, hR e he hr]
    -- joins of each piece
    have hJ : ∀ p : Nat, ∃ J : Nat → Bool, (∀ e, e < m → J e = true → yZ H sH tH f e = true) ∧
        (∀ v, yDg m I J v = yDg m I (fun e => R e && yD (pc e = p) && y e) v) ∧
        ∃ k : Bool, ∀ e, e < m → yZ H sH tH f e = true → yBd m H sH tH f f0 g e ≠ i → J e = k := by
      intro p
      by_cases hex : ∃ e, e < m ∧ R e = true ∧ pc e = p
      · obtain ⟨e0, he0, hr0, hp0⟩ := hex
        have hodd : ∀ v, yDg m I (fun e => R e && yD (pc e = p) && y e) v = true →
            yOn m I (yZ H sH tH f) v ∧ yOn m I (yZ H sH tH (h p)) v := by
          intro v hv
          obtain ⟨e1, he1, h1, hI1⟩ := yDg_exists m I _ v hv
          simp only [Bool.and_eq_true] at h1
          have hp1 : pc e1 = p := (yD_iff _).1 h1.1.2
          by_cases hHv : yOn m I H v
          · have := hRa e1 v he1 h1.1.1 hI1 hHv
            rw [hp1] at this; exact this
          · exfalso
            have h2 : yDg m I (fun e => R e && yD (pc e = p) && y e) v = yDg m I y v := by
              apply yDg_congr
              intro e he hI
              cases hr : R e with
              | true => rw [yD_pos ((hRn e e1 v he he1 hr h1.1.1 hI hI1 hHv).trans hp1)]; simp
              | false =>
                have hz : yZ H sH tH f e = false := by
                  cases hz : yZ H sH tH f e with
                  | false => rfl
                  | true => exact absurd ⟨e, he, ((yZ_iff _ _ _ _ _).1 hz).1, hI⟩ hHv
                rw [hy]; simp [hr, hz]
            rw [h2, (yEv_iff m I y).1 hyev v] at hv; cases hv
        have h3 := hRi e0 he0 hr0
        rw [hp0] at h3
        obtain ⟨J, hJ1, hJ2⟩ := hCf.2.2.1 _ (fun v hv => (hodd v hv).1)
        obtain ⟨J', hJ1', hJ2'⟩ := h3.2.2.2.2.2.1 _ (fun v hv => (hodd v hv).2)
        obtain ⟨k, hk⟩ := yBead_conf hH hne f f0 g hff hmany (h p) h3.1 h3.2.1 J J' hJ1 hJ1' (fun v => by rw [hJ2, hJ2'])
        refine ⟨J, hJ1, hJ2, k, ?_⟩
        intro e he hz hbe
        apply hk e he hz
        rw [← h3.2.2.1]; exact hbe
      · refine ⟨fun _ => false, ?_, ?_, false, fun _ _ _ _ => rfl⟩
        · intro e _ hh; cases hh
        · intro v
          rw [yDg_false, yDg_false]
          · intro e he _
            cases hr : R e with
            | false => rfl
            | true => rw [yD_neg (fun hp => hex ⟨e, he, hr, hp⟩)]; rfl
          · intros; rfl
    -- choose
    have hch := yChoice hJ
    obtain ⟨J, hJ⟩ := hch
    have hch2 := yChoice (fun p => (hJ p).2.2)
    obtain ⟨k, hk⟩ := hch2
    -- T + sum J is even and on Z f
    have hev2 : yEv m I (fun e => Bool.xor (yZ H sH tH f e && c (t e)) (yX n (fun p => J p e))) := by
      rw [yEv_iff]
      intro v
      rw [yDg_xor, yDg_sum]
      have h1 : yX n (fun p => yDg m I (J p) v) = yX n (fun p => yDg m I (fun e => R e && yD (pc e = p) && y e) v) :=
        yX_congr n _ _ (fun p _ => (hJ p).2.1 v)
      rw [h1, ← yDg_sum]
      have h2 := (yEv_iff m I y).1 hyev v
      rw [← yDg_xor]
      rw [← h2]
      apply yDg_congr
      intro e he _
      rw [hy]
      dsimp only
      cases hr : R e with
      | true =>
        rw [hzR e he hr]
        rw [yX_one n _ (pc e) (hpn e he hr)]
        · rw [yD_pos rfl]; simp
        · intro p _ hp
          rw [yD_neg (fun hh => hp hh.symm)]; simp
      | false =>
        rw [yX_false]
        · cases yZ H sH tH f e <;> simp
        · intro p _; simp
    have hsub : ∀ e, e < m → Bool.xor (yZ H sH tH f e && c (t e)) (yX n (fun p => J p e)) = true → yZ H sH tH f e = true := by
      intro e he hh
      cases hz : yZ H sH tH f e with
      | true => rfl
      | false =>
        rw [hz, yX_false] at hh
        · cases hh
        · intro p _
          cases hjp : J p e with
          | false => rfl
          | true => rw [(hJ p).1 e he hjp] at hz; cases hz
    have hconst : yX n (fun p => J p a) = yX n (fun p => J p b) := by
      apply yX_congr
      intro p _
      rw [hk p a ha hza hba, hk p b hb hzb hbb]
    rcases hCf.2.1 _ hsub hev2 with h3 | h3
    · have h4 := h3 a ha
      have h5 := h3 b hb
      rw [hza] at h4; rw [hzb, ← hconst] at h5
      revert h4 h5
      cases c (t a) <;> cases c (t b) <;> cases yX n (fun p => J p a) <;> simp
    · have h4 := h3 a ha
      have h5 := h3 b hb
      rw [hza] at h4; rw [hzb, ← hconst] at h5
      revert h4 h5
      cases c (t a) <;> cases c (t b) <;> cases yX n (fun p => J p a) <;> simp
  have h1 := key (fun l => yD (l = t a))
  rw [yD_pos rfl] at h1
  exact ((yD_iff _).1 h1.symm).symm
-- parts told bead by bead, put together
theorem yGlue {B L LY : Type} {m : Nat} {I : Nat → Nat → Bool} (Z Z0 R Y : Nat → Bool) (bd : Nat → B)
    (hZ : yEv m I Z)
    (hYZ : ∀ e, e < m → Y e = true → Z e = false ∧ R e = false ∧ Z0 e = false)
    (hb2 : ∀ i v, yDg m I (fun e => yD (bd e = i) && Z e) v = yDg m I (fun e => yD (bd e = i) && Z0 e) v)
    (s t : B → Nat → L) (hD : ∀ i, yDs m I (fun e => Z e || (R e && yD (bd e = i))) Z (s i) (t i))
    (x : B → L) (hx : ∀ i e, e < m → Z e = true → bd e ≠ i → t i e = x i)
    (sY tY : Nat → LY) (hDY : yDs m I (fun e => Z0 e || Y e) Z0 sY tY)
    (u : B → LY) (hu : ∀ e, e < m → Z0 e = true → tY e = u (bd e))
    (hex : ∀ e, e < m → (Z e = true ∨ R e = true) → ∃ d, d < m ∧ Z0 d = true ∧ bd d = bd e)
    -- odd nodes of a part of an even set that lies in one bead can be joined on Z, alike in each bead
    (hodd : ∀ y : Nat → Bool, (∀ e, e < m → y e = true → (Z e = true ∨ R e = true ∨ Y e = true)) → yEv m I y → ∀ i,
      ∃ T : Nat → Bool, (∀ e, e < m → T e = true → Z e = true) ∧ (∀ v, yDg m I T v = yDg m I (fun e => yD (bd e = i) && ((Z e || R e) && y e)) v) ∧
        ∀ e e', e < m → e' < m → Z e = true → Z e' = true → bd e = bd e' → T e = T e') :
    ∃ (L' : Type) (s' t' : Nat → L'), yDs m I (fun e => Z e || R e || Y e) Z s' t' := by
  refine ⟨LY ⊕ (B × L),
    fun e => if Y e then Sum.inl (sY e) else (@ite _ (s (bd e) e = x (bd e)) (Classical.propDecidable _) (Sum.inl (u (bd e))) (Sum.inr (bd e, s (bd e) e))),
    fun e => if Y e then Sum.inl (tY e) else (@ite _ (t (bd e) e = x (bd e)) (Classical.propDecidable _) (Sum.inl (u (bd e))) (Sum.inr (bd e, t (bd e) e))), ?_, ?_⟩
  · -- even
    intro c
    rw [yEv_iff]
    intro v
    -- colour of a label in bead i
    obtain ⟨ci, hci⟩ : ∃ ci : B → L → Bool, ci = fun i l => @ite _ (l = x i) (Classical.propDecidable _) (c (Sum.inl (u i))) (c (Sum.inr (i, l))) := ⟨_, rfl⟩
    have hcix : ∀ i, ci i (x i) = c (Sum.inl (u i)) := by intro i; rw [hci]; simp
    -- first the sum over Z and R
    have hP : yDg m I (fun e => Bool.xor ((Z e || R e) && Bool.xor (ci (bd e) (t (bd e) e)) (!Z e && ci (bd e) (s (bd e) e))) (Z0 e && c (Sum.inl (tY e)))) v = false := by
      unfold yDg
      apply yX_group bd
      intro i
      have h1 : yDg m I (fun e => Bool.xor (yD (bd e = i) && ((Z e || R e) && Bool.xor (ci i (t i e)) (!Z e && ci i (s i e)))) (ci i (x i) && (yD (bd e = i) && Z0 e))) v = false := by
        rw [yDg_xor, yDg_and, ← hb2 i v]
        have h2 := (yEv_iff m I _).1 ((hD i).1 (ci i)) v
        have h3 : yDg m I (fun e => (Z e || (R e && yD (bd e = i))) && Bool.xor (ci i (t i e)) (!Z e && ci i (s i e))) v =
            yDg m I (fun e => Bool.xor (yD (bd e = i) && ((Z e || R e) && Bool.xor (ci i (t i e)) (!Z e && ci i (s i e)))) (ci i (x i) && (!yD (bd e = i) && Z e))) v := by
          apply yDg_congr
          intro e he _
          by_cases hbe : bd e = i
          · rw [yD_pos hbe]; cases Z e <;> cases R e <;> simp
          · rw [yD_neg hbe]
            cases hz : Z e with
            | false => simp
            | true => rw [hx i e he hz hbe]; simp
        rw [h3, yDg_xor, yDg_and] at h2
        have h4 : yDg m I (fun e => !yD (bd e = i) && Z e) v = yDg m I (fun e => yD (bd e = i) && Z e) v := by
          have h5 := (yEv_iff m I Z).1 hZ v
          have h6 : yDg m I Z v = yDg m I (fun e => Bool.xor (!yD (bd e = i) && Z e) (yD (bd e = i) && Z e)) v := by
            apply yDg_congr
            intro e _ _
            cases yD (bd e = i) <;> simp
          rw [h6, yDg_xor] at h5
          revert h5
          cases yDg m I (fun e => !yD (bd e = i) && Z e) v <;> cases yDg m I (fun e => yD (bd e = i) && Z e) v <;> simp
        rw [h4] at h2
        exact h2
      rw [← h1]
      unfold yDg
      apply yX_congr
      intro e he
      dsimp only
      by_cases hbe : bd e = i
      · rw [yD_pos hbe, hcix]
        subst hbe
        cases hz0 : Z0 e with
        | false => simp
        | true =>
          rw [hu e he hz0]; simp
      · rw [yD_neg hbe]; simp
    have hQ : yDg m I (fun e => (Z0 e || Y e) && Bool.xor (c (Sum.inl (tY e))) (!Z0 e && c (Sum.inl (sY e)))) v = false := (yEv_iff m I _).1 (hDY.1 (fun l => c (Sum.inl l))) v
    have hPQ : Bool.xor (yDg m I (fun e => Bool.xor ((Z e || R e) && Bool.xor (ci (bd e) (t (bd e) e)) (!Z e && ci (bd e) (s (bd e) e))) (Z0 e && c (Sum.inl (tY e)))) v)
       (yDg m I (fun e => (Z0 e || Y e) && Bool.xor (c (Sum.inl (tY e))) (!Z0 e && c (Sum.inl (sY e)))) v) = false := by rw [hP, hQ]; rfl
    rw [← yDg_xor] at hPQ
    rw [← hPQ]
    apply yDg_congr
    intro e he _
    dsimp only
    cases hy : Y e with
    | true =>
      obtain ⟨h1, h2, h3⟩ := hYZ e he hy
      rw [h1, h2, h3]
      simp
    | false =>
      have e1 : ∀ i l, c (@ite _ (l = x i) (Classical.propDecidable _) (Sum.inl (u i)) (Sum.inr (i, l))) = ci i l := by
        intro i l
        rw [hci]
        by_cases hl : l = x i <;> simp [hl]
      simp only [Bool.false_eq_true, if_false]
      rw [e1, e1]
      cases hz : Z e <;> cases hr : R e <;> cases hz0 : Z0 e <;> simp
  · -- every even set
    intro y hy hev
    have hy3 : ∀ e, e < m → y e = true → (Z e = true ∨ R e = true ∨ Y e = true) := by
      intro e he h
      have := hy e he h
      simp only [Bool.or_eq_true] at this
      rcases this with (h1 | h1) | h1
      · exact Or.inl h1
      · exact Or.inr (Or.inl h1)
      · exact Or.inr (Or.inr h1)
    -- in each bead
    have hbead : ∀ i, ∃ c : L → Bool, (∀ e, e < m → (Z e = true ∨ R e = true) → bd e = i → y e = Bool.xor (c (t i e)) (!Z e && c (s i e))) ∧
        ∀ v, yDg m I (fun e => yD (bd e = i) && ((Z e || R e) && y e)) v = (c (x i) && yDg m I (fun e => yD (bd e = i) && Z0 e) v) := by
      intro i
      -- a join that is empty in bead i
      have hT : ∃ T : Nat → Bool, (∀ e, e < m → T e = true → Z e = true) ∧ (∀ v, yDg m I T v = yDg m I (fun e => yD (bd e = i) && ((Z e || R e) && y e)) v) ∧
          (∀ e, e < m → Z e = true → bd e = i → T e = false) := by
        obtain ⟨T, h1, h2, h3⟩ := hodd y hy3 hev i
        by_cases hc : ∃ d, d < m ∧ Z d = true ∧ bd d = i ∧ T d = true
        · obtain ⟨d, hd, hzd, hbd, hTd⟩ := hc
          refine ⟨fun e => Bool.xor (T e) (Z e), ?_, ?_, ?_⟩
          · intro e he h
            dsimp only at h
            cases hz : Z e with
            | true => rfl
            | false =>
              rw [hz] at h
              cases ht : T e with
              | false => rw [ht] at h; cases h
              | true => rw [h1 e he ht] at hz; cases hz
          · intro v
            rw [yDg_xor, h2 v, (yEv_iff m I Z).1 hZ v]; simp
          · intro e he hz hb
            dsimp only
            rw [h3 e d he hd hz hzd (hb.trans hbd.symm), hTd, hz]; rfl
        · refine ⟨T, h1, h2, ?_⟩
          intro e he hz hb
          cases ht : T e with
          | false => rfl
          | true => exact absurd ⟨e, he, hz, hb, ht⟩ hc
      obtain ⟨T, h1, h2, h3⟩ := hT
      have hz' : yEv m I (fun e => Bool.xor (yD (bd e = i) && ((Z e || R e) && y e)) (T e)) := by
        rw [yEv_iff]
        intro v
        rw [yDg_xor, h2 v]; simp
      obtain ⟨c, hc⟩ := (hD i).2 _ (by
        intro e he h
        dsimp only at h ⊢
        cases ht : T e with
        | true => rw [h1 e he ht]; rfl
        | false =>
          rw [ht] at h
          simp only [Bool.xor_false, Bool.and_eq_true] at h
          rw [h.1]
          have := h.2.1
          revert this
          cases Z e <;> cases R e <;> simp) hz'
      refine ⟨c, ?_, ?_⟩
      · intro e he hzr hb
        have h4 := hc e he (by dsimp only; rw [yD_pos hb]; rcases hzr with h | h <;> simp [h])
        rw [← h4, yD_pos hb]
        have ht : T e = false := by
          cases hz : Z e with
          | true => exact h3 e he hz hb
          | false =>
            cases ht : T e with
            | false => rfl
            | true => rw [h1 e he ht] at hz; cases hz
        rw [ht]
        rcases hzr with h | h <;> simp [h]
      · intro v
        rw [← h2 v]
        have h5 : yDg m I T v = yDg m I (fun e => c (x i) && (!yD (bd e = i) && Z e)) v := by
          apply yDg_congr
          intro e he _
          cases hz : Z e with
          | false =>
            cases ht : T e with
            | false => simp
            | true => rw [h1 e he ht] at hz; cases hz
          | true =>
            by_cases hb : bd e = i
            · rw [yD_pos hb, h3 e he hz hb]; simp
            · have h6 := hc e he (by dsimp only; rw [hz]; rfl)
              rw [yD_neg hb] at h6 ⊢
              rw [hx i e he hz hb, hz] at h6
              simpa using h6
        rw [h5, yDg_and]
        have h4 : yDg m I (fun e => !yD (bd e = i) && Z e) v = yDg m I (fun e => yD (bd e = i) && Z e) v := by
          have h5 := (yEv_iff m I Z).1 hZ v
          have h6 : yDg m I Z v = yDg m I (fun e => Bool.xor (!yD (bd e = i) && Z e) (yD (bd e = i) && Z e)) v := by
            apply yDg_congr
            intro e _ _
            cases yD (bd e = i) <;> simp
          rw [h6, yDg_xor] at h5
          revert h5
          cases yDg m I (fun e => !yD (bd e = i) && Z e) v <;> cases yDg m I (fun e => yD (bd e = i) && Z e) v <;> simp
        rw [h4, hb2 i v]
    obtain ⟨ci, hci⟩ := yChoice hbead
    -- the part in Y
    have hYev : yEv m I (fun e => Bool.xor (Y e && y e) (Z0 e && ci (bd e) (x (bd e)))) := by
      rw [yEv_iff]
      intro v
      have h1 : yDg m I (fun e => Bool.xor (Z0 e && ci (bd e) (x (bd e))) ((Z e || R e) && y e)) v = false := by
        unfold yDg
        apply yX_group bd
        intro i
        have h2 := (hci i).2 v
        have h3 : yDg m I (fun e => Bool.xor (ci i (x i) && (yD (bd e = i) && Z0 e)) (yD (bd e = i) && ((Z e || R e) && y e))) v = false := by
          rw [yDg_xor, yDg_and, h2]; simp
        rw [← h3]
        unfold yDg
        apply yX_congr
        intro e _
        dsimp only
        by_cases hb : bd e = i
        · rw [yD_pos hb]
          subst hb
          cases Z0 e <;> simp
        · rw [yD_neg hb]; simp
      have h2 := (yEv_iff m I y).1 hev v
      have h3 : Bool.xor (yDg m I (fun e => Bool.xor (Z0 e && ci (bd e) (x (bd e))) ((Z e || R e) && y e)) v) (yDg m I y v) = false := by rw [h1, h2]; rfl
      rw [← yDg_xor] at h3
      rw [← h3]
      apply yDg_congr
      intro e he _
      cases hyY : Y e with
      | true => obtain ⟨a1, a2, a3⟩ := hYZ e he hyY; rw [a1, a2, a3]; simp
      | false =>
        cases hye : y e with
        | false => simp
        | true =>
          rcases hy3 e he hye with h | h | h
          · rw [h]; simp
          · rw [h]; simp
          · rw [h] at hyY; cases hyY
    obtain ⟨cY, hcY⟩ := hDY.2 _ (by
      intro e he h
      dsimp only at h ⊢
      cases hz : Z0 e with
      | true => rfl
      | false =>
        rw [hz] at h
        simp only [Bool.false_and, Bool.xor_false, Bool.and_eq_true] at h
        rw [h.1]; rfl) hYev
    have hmatch : ∀ e, e < m → (Z e = true ∨ R e = true) → cY (u (bd e)) = ci (bd e) (x (bd e)) := by
      intro e he hzr
      obtain ⟨d, hd, hzd, hbd⟩ := hex e he hzr
      have h1 := hcY d hd (by dsimp only; rw [hzd]; rfl)
      rw [hu d hd hzd, hzd, hbd] at h1
      have h2 : Y d = false := by
        cases hyd : Y d with
        | false => rfl
        | true => rw [(hYZ d hd hyd).2.2] at hzd; cases hzd
      rw [h2] at h1
      simpa using h1.symm
    refine ⟨fun l => match l with | Sum.inl a => cY a | Sum.inr (i, a) => ci i a, ?_⟩
    intro e he hX
    cases hyY : Y e with
    | true =>
      obtain ⟨a1, a2, a3⟩ := hYZ e he hyY
      have h1 := hcY e he (by dsimp only; rw [hyY]; simp)
      rw [hyY, a3] at h1
      simp only [Bool.true_and, Bool.false_and, Bool.xor_false] at h1
      rw [h1, a1]
      simp [hyY]
    | false =>
      have hzr : Z e = true ∨ R e = true := by
        dsimp only at hX
        rw [hyY] at hX
        simpa using hX
      have h1 := (hci (bd e)).1 e he hzr rfl
      have h2 := hmatch e he hzr
      rw [h1]
      have e1 : ∀ l, (match (@ite _ (l = x (bd e)) (Classical.propDecidable _) (Sum.inl (u (bd e))) (Sum.inr (bd e, l)) : LY ⊕ (B × L)) with
          | Sum.inl a => cY a | Sum.inr (i, a) => ci i a) = ci (bd e) l := by
        intro l
        by_cases hl : l = x (bd e)
        · rw [if_pos hl, hl, ← h2]
        · rw [if_neg hl]
      simp only [hyY, Bool.false_eq_true, if_false]
      rw [e1, e1]
theorem yFlip {L L0 : Type} {m n : Nat} {I : Nat → Nat → Bool} {H : Nat → Bool} {sH tH : Nat → Nat}
    (hH : yDs m I H (fun _ => false) sH tH) (hne : ∀ e, e < m → H e = true → sH e ≠ tH e) (hV : yV2 m I H)
    (f f0 : Nat) (hff : f ≠ f0)
    (hCf : yCi m I (yZ H sH tH f)) (hCf0 : yCi m I (yZ H sH tH f0))
    (X X0 : Nat → Bool) (hXH : ∀ e, e < m → X e = true → H e = false) (hX0H : ∀ e, e < m → X0 e = true → H e = false)
    (s t : Nat → L) (hD : yDs m I (fun e => yZ H sH tH f e || X e) (yZ H sH tH f) s t)
    (s0 t0 : Nat → L0) (hD0 : yDs m I (fun e => yZ H sH tH f0 e || X0 e) (yZ H sH tH f0) s0 t0)
    (pc : Nat → Nat) (hpn : ∀ e, e < m → X e = true → pc e < n)
    (S : Nat → Bool) (h : Nat → Nat)
    (hh : ∀ e, e < m → X e = true → S (pc e) = false → h (pc e) ≠ f ∧ h (pc e) ≠ f0 ∧ yCi m I (yZ H sH tH (h (pc e))) ∧
      ∃ e' v, e' < m ∧ X e' = true ∧ pc e' = pc e ∧ I e' v = true ∧ yOn m I H v ∧ ¬ yOn m I (yZ H sH tH f0) v)
    (hXa : ∀ e v, e < m → X e = true → I e v = true → yOn m I H v → yOn m I (yZ H sH tH f) v ∧ (S (pc e) = false → yOn m I (yZ H sH tH (h (pc e))) v))
    (hX0a : ∀ e v, e < m → X0 e = true → S (pc e) = true → I e v = true → yOn m I H v → yOn m I (yZ H sH tH f) v ∧ yOn m I (yZ H sH tH f0) v)
    (hN : ∀ e e' v, e < m → e' < m → (X e || X0 e) = true → (X e' || X0 e') = true → I e v = true → I e' v = true → ¬ yOn m I H v → pc e = pc e' ∧ X e = X e')
    (hdis : ∀ e, e < m → X e = true → X0 e = false)
    (hw0 : ∃ w v0, yDg m I w v0 = true ∧ ∀ v, yDg m I w v = true → yOn m I (yZ H sH tH f) v ∧ yOn m I (yZ H sH tH f0) v) :
    ∃ (L' : Type) (s' t' : Nat → L'), yDs m I (fun e => yZ H sH tH f e || (X e && !S (pc e)) || (X0 e && S (pc e))) (yZ H sH tH f) s' t' := by
  have hmany := fun i => yBead_many hH hne f f0 (fun e => h (pc e)) hff hCf hCf0 hw0 i
  have hzH : ∀ g e, yZ H sH tH g e = true → H e = true := fun g e hz => ((yZ_iff _ _ _ _ _).1 hz).1
  -- labels in each bead
  have hq : ∀ i, ∃ q : L → L, yDs m I (fun e => yZ H sH tH f e || ((X e && !S (pc e)) && yD (yBd m H sH tH f f0 (fun e => h (pc e)) e = i))) (yZ H sH tH f)
      (fun e => q (s e)) (fun e => q (t e)) := by
    intro i
    apply yDs_sub hD
    · intro e _ hx
      try dsimp only at hx ⊢
      revert hx
      cases yZ H sH tH f e <;> cases X e <;> simp
    · intro e _ hz _
      rw [hz]; rfl
  obtain ⟨q, hq⟩ := yChoice hq
  obtain ⟨eI, heI⟩ := yChoice (fun i => (hmany i).1)
  -- labels of the others
  obtain ⟨qY, hqY⟩ := yDs_sub hD0 (fun e => yZ H sH tH f0 e || (X0 e && S (pc e))) (by
      intro e _ hx
      try dsimp only at hx ⊢
      revert hx
      cases yZ H sH tH f0 e <;> cases X0 e <;> simp) (by
      intro e _ hz _
      rw [hz]; rfl)
  have hbx : ∀ e, e < m → X e = true → yBd m H sH tH f f0 (fun e => h (pc e)) e = Sum.inl (yCl m H sH tH f f0 (h (pc e))) :=
    fun e he hx => yBd_x (hXH e he hx)
  -- one label on f0 in each bead
  have hY1 : ∀ e e', e < m → e' < m → yZ H sH tH f0 e = true → yZ H sH tH f0 e' = true →
      yBd m H sH tH f f0 (fun e => h (pc e)) e = yBd m H sH tH f f0 (fun e => h (pc e)) e' → qY (t0 e) = qY (t0 e') := by
    intro e e' he he' hz hz' hb
    have key : ∀ c : L0 → Bool, c (qY (t0 e)) = c (qY (t0 e')) := by
      intro c
      have hev := (yEv_iff m I _).1 (hqY.1 c)
      have hdeg : ∀ v, yDg m I (fun e => yZ H sH tH f0 e && c (qY (t0 e))) v = yDg m I (fun e => (X0 e && S (pc e)) && Bool.xor (c (qY (t0 e))) (c (qY (s0 e)))) v := by
        intro v
        have h1 := hev v
        have h2 : yDg m I (fun e => Bool.xor (yZ H sH tH f0 e && c (qY (t0 e))) ((X0 e && S (pc e)) && Bool.xor (c (qY (t0 e))) (c (qY (s0 e))))) v = false := by
          rw [← h1]
          apply yDg_congr
          intro d hd _
          cases hzd : yZ H sH tH f0 d with
          | true =>
            have : X0 d = false := by
              cases hx : X0 d with
              | false => rfl
              | true => have := hX0H d hd hx; rw [hzH _ _ hzd] at this; cases this
            simp [this, hzd]
          | false => simp [hzd]
        rw [yDg_xor] at h2
        revert h2
        cases yDg m I (fun e => yZ H sH tH f0 e && c (qY (t0 e))) v <;>
          cases yDg m I (fun e => (X0 e && S (pc e)) && Bool.xor (c (qY (t0 e))) (c (qY (s0 e)))) v <;> simp
      obtain ⟨T, hT1, hT2⟩ := hCf.2.2.1 (fun e => yZ H sH tH f0 e && c (qY (t0 e))) (by
        intro v hv
        obtain ⟨d, hd, hzd, hId⟩ := yDg_exists m I _ v hv
        rw [hdeg] at hv
        obtain ⟨d', hd', hzd', hId'⟩ := yDg_exists m I _ v hv
        simp only [Bool.and_eq_true] at hzd hzd'
        exact (hX0a d' v hd' hzd'.1.1 hzd'.1.2 hId' ⟨d, hd, hzH _ _ hzd.1, hId⟩).1)
      have h3 := (yBead_const hH hne f f0 (fun e => h (pc e)) hff T (fun e => yZ H sH tH f0 e && c (qY (t0 e))) hT1
        (fun e _ hx => by simp only [Bool.and_eq_true] at hx; exact hx.1) hT2 e e' he he' hb).2 hz hz'
      rw [hz, hz'] at h3
      simpa using h3
    have h1 := key (fun l => yD (l = qY (t0 e)))
    rw [yD_pos rfl] at h1
    exact ((yD_iff _).1 h1.symm).symm
  have hu : ∀ i : (Nat → Prop) ⊕ Nat, ∃ l : L0, ∀ e, e < m → yZ H sH tH f0 e = true → yBd m H sH tH f f0 (fun e => h (pc e)) e = i → qY (t0 e) = l := by
    intro i
    by_cases hc : ∃ e, e < m ∧ yZ H sH tH f0 e = true ∧ yBd m H sH tH f f0 (fun e => h (pc e)) e = i
    · obtain ⟨e0, he0, hz0, hb0⟩ := hc
      exact ⟨qY (t0 e0), fun e he hz hb => hY1 e e0 he he0 hz hz0 (hb.trans hb0.symm)⟩
    · exact ⟨t0 0, fun e he hz hb => absurd ⟨e, he, hz, hb⟩ hc⟩
  obtain ⟨u, hu⟩ := yChoice hu
  -- at a node off f0 all edges of f and of its pieces are in one bead
  have hnode : ∀ v, ¬ yOn m I (yZ H sH tH f0) v → ∀ e e', e < m → e' < m →
      (yZ H sH tH f e = true ∨ (X e = true ∧ S (pc e) = false)) → (yZ H sH tH f e' = true ∨ (X e' = true ∧ S (pc e') = false)) →
      I e v = true → I e' v = true → yBd m H sH tH f f0 (fun e => h (pc e)) e = yBd m H sH tH f f0 (fun e => h (pc e)) e' := by
    intro v hv0 e e' he he' h1 h2 hI hI'
    by_cases hHv : yOn m I H v
    · -- on H: a bead of f at v
      have hfv : yOn m I (yZ H sH tH f) v := by
        rcases h1 with h1 | h1
        · exact ⟨e, he, h1, hI⟩
        · exact (hXa e v he h1.1 hI hHv).1
      obtain ⟨d, hd, hzd, hId⟩ := hfv
      have hgen : ∀ a, a < m → (yZ H sH tH f a = true ∨ (X a = true ∧ S (pc a) = false)) → I a v = true →
          yBd m H sH tH f f0 (fun e => h (pc e)) a = Sum.inl (yCl m H sH tH f f0 (yO sH tH f d)) := by
        intro a ha h3 hIa
        rcases h3 with h3 | h3
        · rcases yBead_lab (g := fun e => h (pc e)) (f := f) (f0 := f0) ha (Or.inl rfl) h3 with h4 | h4
          · rw [h4.2.2]
            congr 1
            refine (yBead_node hH hV f f0 hne hCf v hv0 d hd hzd hId a ha (hzH _ _ h3) hIa (yO sH tH f a) ?_ h4.1).symm
            unfold yO
            by_cases h5 : sH a = f
            · rw [if_pos h5]; exact Or.inr rfl
            · rw [if_neg h5]; exact Or.inl rfl
          · exfalso
            have h6 := (yZ_iff _ _ _ _ _).1 h3
            have h7 := hne a ha h6.1
            rcases h4.2 with h8 | h8
            · unfold yO at h8
              by_cases h5 : sH a = f
              · rw [if_pos h5] at h8; omega
              · rw [if_neg h5] at h8; omega
            · apply hv0
              refine ⟨a, ha, (yZ_iff _ _ _ _ _).2 ⟨h6.1, ?_⟩, hIa⟩
              unfold yO at h8
              by_cases h5 : sH a = f
              · rw [if_pos h5] at h8; exact Or.inr h8
              · rw [if_neg h5] at h8; exact Or.inl h8
        · rw [hbx a ha h3.1]
          congr 1
          obtain ⟨b, hb, hzb, hIb⟩ := (hXa a v ha h3.1 hIa hHv).2 h3.2
          have h4 := hh a ha h3.1 h3.2
          have h5 := (yZ_iff _ _ _ _ _).1 hzb
          refine (yBead_node hH hV f f0 hne hCf v hv0 d hd hzd hId b hb h5.1 hIb (h (pc a)) ?_ h4.1).symm
          rcases h5.2 with h6 | h6
          · exact Or.inl h6.symm
          · exact Or.inr h6.symm
      rw [hgen e he h1 hI, hgen e' he' h2 hI']
    · have h3 : X e = true := by
        rcases h1 with h1 | h1
        · exact absurd ⟨e, he, hzH _ _ h1, hI⟩ hHv
        · exact h1.1
      have h4 : X e' = true := by
        rcases h2 with h1 | h1
        · exact absurd ⟨e', he', hzH _ _ h1, hI'⟩ hHv
        · exact h1.1
      have h5 := hN e e' v he he' (by rw [h3]; rfl) (by rw [h4]; rfl) hI hI' hHv
      rw [hbx e he h3, hbx e' he' h4, h5.1]
  refine yGlue (yZ H sH tH f) (yZ H sH tH f0) (fun e => X e && !S (pc e)) (fun e => X0 e && S (pc e)) (yBd m H sH tH f f0 (fun e => h (pc e)))
    hCf.1 ?_ (fun i v => yBead_even hH hne f f0 (fun e => h (pc e)) hff i v)
    (fun i e => q i (s e)) (fun i e => q i (t e)) hq (fun i => q i (t (eI i))) ?_
    (fun e => qY (s0 e)) (fun e => qY (t0 e)) hqY u (fun e he hz => hu _ e he hz rfl) ?_ ?_
  · intro e he hx
    simp only [Bool.and_eq_true] at hx
    have h1 := hX0H e he hx.1
    refine ⟨by simp [yZ, h1], ?_, by simp [yZ, h1]⟩
    cases h2 : X e with
    | false => rfl
    | true => rw [hdis e he h2] at hx; cases hx.1
  · intro i e he hz hb
    have h1 := heI i
    refine yBead_inner hH hne f f0 (fun e => h (pc e)) hff (fun i => (hmany i).2) hCf
      (fun e => (X e && !S (pc e)) && yD (yBd m H sH tH f f0 (fun e => h (pc e)) e = i)) ?_ (fun e => q i (s e)) (fun e => q i (t e)) (hq i)
      n pc ?_ h i ?_ ?_ ?_ e (eI i) he h1.1 hz h1.2.1 hb h1.2.2
    · intro a ha hx; simp only [Bool.and_eq_true] at hx; exact hXH a ha hx.1.1
    · intro a ha hx; simp only [Bool.and_eq_true] at hx; exact hpn a ha hx.1.1
    · intro a ha hx
      simp only [Bool.and_eq_true, Bool.not_eq_true'] at hx
      have h2 := hh a ha hx.1.1 hx.1.2
      refine ⟨h2.1, h2.2.1, ?_, h2.2.2.1⟩
      rw [← hbx a ha hx.1.1]; exact ((yD_iff _).1 hx.2).symm
    · intro a b v ha hb hx hy hIa hIb hv
      simp only [Bool.and_eq_true] at hx hy
      exact (hN a b v ha hb (by rw [hx.1.1]; rfl) (by rw [hy.1.1]; rfl) hIa hIb hv).1
    · intro a v ha hx hIa hv
      simp only [Bool.and_eq_true, Bool.not_eq_true'] at hx
      have h2 := hXa a v ha hx.1.1 hIa hv
      exact ⟨h2.1, h2.2 hx.1.2⟩
  · intro e he hzr
    rcases hzr with hz | hx
    · exact (hmany _).2 ⟨e, he, hz, rfl⟩
    · simp only [Bool.and_eq_true, Bool.not_eq_true'] at hx
      obtain ⟨h1, h2, h3, e', v, he', hx', hp', hI', hHv, hv0⟩ := hh e he hx.1 hx.2
      obtain ⟨d, hd, hzd, hId⟩ := (hXa e' v he' hx' hI' hHv).1
      have h4 := hnode v hv0 d e' hd he' (Or.inl hzd) (Or.inr ⟨hx', by rw [hp']; exact hx.2⟩) hId hI'
      obtain ⟨b, hb, hzb, hbb⟩ := (hmany _).2 ⟨d, hd, hzd, rfl⟩
      refine ⟨b, hb, hzb, ?_⟩
      rw [hbb, h4, hbx e' he' hx', hbx e he hx.1, hp']
  · intro y hy hev i
    have hodd : ∀ v, yDg m I (fun e => yD (yBd m H sH tH f f0 (fun e => h (pc e)) e = i) && ((yZ H sH tH f e || (X e && !S (pc e))) && y e)) v = true →
        yOn m I (yZ H sH tH f) v ∧ yOn m I (yZ H sH tH f0) v := by
      intro v hv
      obtain ⟨e1, he1, hz1, hI1⟩ := yDg_exists m I _ v hv
      simp only [Bool.and_eq_true, Bool.or_eq_true, Bool.not_eq_true'] at hz1
      have hb1 := (yD_iff _).1 hz1.1
      have hv0 : yOn m I (yZ H sH tH f0) v := by
        by_cases hv0 : yOn m I (yZ H sH tH f0) v
        · exact hv0
        · exfalso
          have h2 : yDg m I (fun e => yD (yBd m H sH tH f f0 (fun e => h (pc e)) e = i) && ((yZ H sH tH f e || (X e && !S (pc e))) && y e)) v = yDg m I y v := by
            apply yDg_congr
            intro e he hI
            cases hye : y e with
            | false => simp
            | true =>
              have h3 : yZ H sH tH f e = true ∨ (X e = true ∧ S (pc e) = false) := by
                rcases hy e he hye with h3 | h3 | h3
                · exact Or.inl h3
                · simp only [Bool.and_eq_true, Bool.not_eq_true'] at h3; exact Or.inr h3
                · exfalso
                  simp only [Bool.and_eq_true] at h3
                  by_cases hHv : yOn m I H v
                  · exact hv0 (hX0a e v he h3.1 h3.2 hI hHv).2
                  · rcases hz1.2.1 with h4 | h4
                    · exact hHv ⟨e1, he1, hzH _ _ h4, hI1⟩
                    · have h5 := hN e e1 v he he1 (by rw [h3.1]; simp) (by rw [h4.1]; rfl) hI hI1 hHv
                      rw [h5.1, h4.2] at h3
                      cases h3.2
              have h4 := hnode v hv0 e e1 he he1 h3 hz1.2.1 hI hI1
              rw [yD_pos (h4.trans hb1)]
              rcases h3 with h3 | h3
              · rw [h3]; rfl
              · rw [h3.1, h3.2]; simp
          rw [h2, (yEv_iff m I y).1 hev v] at hv
          cases hv
      refine ⟨?_, hv0⟩
      rcases hz1.2.1 with h4 | h4
      · exact ⟨e1, he1, h4, hI1⟩
      · obtain ⟨d, hd, hzd, hId⟩ := hv0
        exact (hXa e1 v he1 h4.1 hI1 ⟨d, hd, hzH _ _ hzd, hId⟩).1
    obtain ⟨T, hT1, hT2⟩ := hCf.2.2.1 _ (fun v hv => (hodd v hv).1)
    obtain ⟨T', hT1', hT2'⟩ := hCf0.2.2.1 _ (fun v hv => (hodd v hv).2)
    refine ⟨T, hT1, hT2, ?_⟩
    intro e e' he he' hz hz' hb
    exact (yBead_const hH hne f f0 (fun e => h (pc e)) hff T T' hT1 hT1' (fun v => by rw [hT2, hT2']) e e' he he' hb).1 hz hz'

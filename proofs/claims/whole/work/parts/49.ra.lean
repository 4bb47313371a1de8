
-- what can be reached over nodes that are not barred
def yRe (n : Nat) (f : Nat → Int32) (wo : Int32) (s y : Nat) : Prop :=
  ∀ U : Nat → Prop, U s → (∀ p q, p < n → q < 32 → U p → yM (f p) q = true → yM wo q = false → U q) → U y

theorem yNb_strict (m : Nat) (p q : Nat → Bool) (k : Nat) (hk : k < m) (h1 : p k = false) (h2 : q k = true) (h : ∀ i, i < m → p i = true → q i = true) : yNb m p < yNb m q := by
  induction m with
  | zero => omega
  | succ m ih =>
    simp only [yNb]
    by_cases e : k = m
    · rw [← e, h1, h2]
      have := yNb_sub k p q (fun i hi => h i (by omega))
      simp; omega
    · have h3 := ih (by omega) (fun i hi => h i (by omega))
      cases hp : p m with
      | false => simp; omega
      | true => rw [h m (by omega) hp]; simp; omega

theorem w9_reached19 {n : Nat} (hn : n ≤ 21) (f : Nat → Int32) (wo : Int32) (s : Nat) (all0 : Int32) (K : Int32 → Unit → Prop) (B : Int32 → Int32 → Prop)
    (hB : ∀ all, (∀ y, y < 32 → yM all0 y = true → yM all y = true) → (∀ y, y < 32 → yM all y = true → yRe n f wo s y) →
      (∀ p q, p < n → q < 32 → yM all0 p = true → yM (f p) q = true → yM wo q = false → yM all q = true) → B all all0) :
    ∀ d v all, n - v = d → v ≤ n → (∀ y, y < 32 → yM all0 y = true → yM all y = true) → (∀ y, y < 32 → yM all y = true → yRe n f wo s y) →
      (∀ p q, p < v → q < 32 → yM all0 p = true → yM (f p) q = true → yM wo q = false → yM all q = true) →
      wLX9_reached_19 (Int32.ofNat n) f wo all0 K B (d+1) all (Int32.ofNat v) := by
  intro d
  induction d with
  | zero =>
    intro v all hd hv h1 h2 h3
    unfold wLX9_reached_19
    refine ⟨fun _ => hB all h1 h2 (fun p q hp => h3 p q (by omega)), fun hh => ?_⟩
    exfalso; apply hh; rw [yn_le (by omega) (by omega)]; omega
  | succ d ih =>
    intro v all hd hv h1 h2 h3
    have e1 : Int32.ofNat v + 1 = Int32.ofNat (v+1) := yn_add v 1
    unfold wLX9_reached_19
    rw [e1, yM_test (by omega), yn_nat (by omega : v < 2147483648)]
    refine ⟨fun hh => ?_, fun _ => ⟨fun hno => ?_, fun hyes => ⟨yn_in (by omega) (by omega), fun v51 h51 => ?_⟩⟩⟩
    · exfalso; rw [yn_le (by omega) (by omega)] at hh; omega
    · refine ih (v+1) all (by omega) (by omega) h1 h2 ?_
      intro p q hp hq ha hf hw
      by_cases e : p = v
      · exfalso
        apply hno
        rw [e] at ha
        rw [h1 v (by omega) ha]; rfl
      · exact h3 p q (by omega) hq ha hf hw
    · have hv' : yM all v = true := by
        cases hb : yM all v with
        | true => rfl
        | false => rw [hb] at hyes; exact absurd hyes (by decide)
      have hbit : ∀ y, y < 32 → (yM v51 y = true ↔ (yM all y = true ∨ (yM (f v) y = true ∧ yM wo y = false))) := by
        intro y hy
        rw [h51, yM_or, yM_and, yM_not _ y hy]
        cases yM all y <;> cases yM (f v) y <;> cases yM wo y <;> simp
      refine ih (v+1) v51 (by omega) (by omega) ?_ ?_ ?_
      · intro y hy ha; exact (hbit y hy).2 (Or.inl (h1 y hy ha))
      · intro y hy ha
        rcases (hbit y hy).1 ha with h | h
        · exact h2 y hy h
        · intro U hU hc
          exact hc v y (by omega) hy (h2 v (by omega) hv' U hU hc) h.1 h.2
      · intro p q hp hq ha hf hw
        by_cases e : p = v
        · rw [e] at hf; exact (hbit q hq).2 (Or.inr ⟨hf, hw⟩)
        · exact (hbit q hq).2 (Or.inl (h3 p q (by omega) hq ha hf hw))

theorem w9_reached7 {n : Nat} (hn : n ≤ 21) (f : Nat → Int32) (wo : Int32) (s : Nat) (hs : s < n) (K : Int32 → Unit → Prop)
    (hK : ∀ x, (∀ y, y < 32 → (yM x y = true ↔ yRe n f wo s y)) → K x ()) :
    ∀ d all old, 32 - yNb 32 (yM all) ≤ d → yM all s = true → (∀ y, y < 32 → yM all y = true → yRe n f wo s y) →
      (all = old → ∀ p q, p < n → q < 32 → yM all p = true → yM (f p) q = true → yM wo q = false → yM all q = true) →
      (∀ y, y < 32 → yM old y = true → yM all y = true) →
      wLX9_reached_7 (Int32.ofNat n) f wo K (d+2) all old := by
  have hfin : ∀ all, yM all s = true → (∀ y, y < 32 → yM all y = true → yRe n f wo s y) →
      (∀ p q, p < n → q < 32 → yM all p = true → yM (f p) q = true → yM wo q = false → yM all q = true) → K all () := by
    intro all h1 h2 h3
    refine hK all (fun y hy => ⟨h2 y hy, fun hr => ?_⟩)
    have : y < 32 → yM all y = true := hr (fun z => z < 32 → yM all z = true) (fun _ => h1) (fun p q hp hq hu hf hw _ => h3 p q hp hq (hu (by omega)) hf hw)
    exact this hy
  have h0eq : (0 : Int32) = Int32.ofNat 0 := rfl
  intro d
  induction d with
  | zero =>
    intro all old hd h1 h2 h3 h4
    unfold wLX9_reached_7
    refine ⟨fun he => hfin all h1 h2 (h3 he.symm), fun hne => ?_⟩
    refine ⟨n + 1, ?_⟩
    rw [h0eq]
    refine w9_reached19 hn f wo s all K _ ?_ n 0 all (by omega) (by omega) (fun y _ h => h) h2 (fun p q hp => by omega)
    intro all' k1 k2 k3
    -- all bits are set: nothing can be new
    have hall : ∀ y, y < 32 → yM all y = true := by
      intro y hy
      cases hb : yM all y with
      | true => rfl
      | false =>
        exfalso
        have := yNb_strict 32 (yM all) (fun _ => true) y hy hb rfl (fun _ _ _ => rfl)
        have h5 := yNb_le 32 (fun _ : Nat => true)
        omega
    have heq : all' = all := yM_ext (fun y hy => by rw [hall y hy, k1 y hy (hall y hy)])
    rw [heq]
    unfold wLX9_reached_7
    refine ⟨fun _ => hfin all h1 h2 (fun p q hp hq ha hf hw => hall q hq), fun hh => absurd rfl hh⟩
  | succ d ih =>
    intro all old hd h1 h2 h3 h4
    unfold wLX9_reached_7
    refine ⟨fun he => hfin all h1 h2 (h3 he.symm), fun hne => ?_⟩
    refine ⟨n + 1, ?_⟩
    rw [h0eq]
    refine w9_reached19 hn f wo s all K _ ?_ n 0 all (by omega) (by omega) (fun y _ h => h) h2 (fun p q hp => by omega)
    intro all' k1 k2 k3
    by_cases he : all' = all
    · rw [he]
      unfold wLX9_reached_7
      refine ⟨fun _ => hfin all h1 h2 ?_, fun hh => absurd rfl hh⟩
      intro p q hp hq ha hf hw
      rw [← he]; exact k3 p q hp hq ha hf hw
    · -- something new
      have hex : ∃ y, y < 32 ∧ yM all y = false ∧ yM all' y = true := by
        by_cases hc : ∃ y, y < 32 ∧ yM all y = false ∧ yM all' y = true
        · exact hc
        · exfalso; apply he
          apply yM_ext
          intro y hy
          cases hb : yM all y with
          | true => exact k1 y hy hb
          | false =>
            cases hb' : yM all' y with
            | false => rfl
            | true => exact absurd ⟨y, hy, hb, hb'⟩ hc
      obtain ⟨y, hy, hb, hb'⟩ := hex
      have hlt := yNb_strict 32 (yM all) (yM all') y hy hb hb' (fun i hi => k1 i hi)
      have h5 := yNb_le 32 (yM all')
      exact ih all' all (by omega) (k1 s (by omega) h1) k2 (fun hq => absurd hq he) k1

theorem w9_reached {n : Nat} (hn : n ≤ 21) (f : Nat → Int32) (wo : Int32) (s : Nat) (hs : s < n) (K : Int32 → Unit → Prop)
    (i0 i1 i2 i4 i5 i6 i7 i8 i9 i10 i11 i12 i13 i14 i15 i16 i17 : Int32)
    (hK : ∀ x, (∀ y, y < 32 → (yM x y = true ↔ yRe n f wo s y)) → K x ()) :
    wX9_reached i0 i1 i2 (Int32.ofNat n) i4 i5 i6 i7 i8 i9 i10 i11 i12 i13 i14 i15 i16 i17 f (Int32.ofNat s) wo K := by
  unfold wX9_reached
  intro v3 hv3
  have hbit : ∀ y, y < 32 → (yM v3 y = true ↔ y = s) := by
    intro y hy
    rw [hv3, yM_shl (by omega) y hy, decide_eq_true_iff]
  refine ⟨34, w9_reached7 hn f wo s hs K hK 32 v3 0 (by omega) ((hbit s (by omega)).2 rfl) ?_ ?_ ?_⟩
  · intro y hy h
    rw [(hbit y hy).1 h]
    intro U hU _; exact hU
  · intro he
    exfalso
    have := (hbit s (by omega)).2 rfl
    rw [he, yM_zero] at this; cases this
  · intro y _ h; rw [yM_zero] at h; cases h

-- roots of a forest of pointers
theorem w9_rootOf {E : Nat} (hE : E ≤ 220) (eo : Nat → Int32) (po cls dep : Nat → Nat)
    (hpo : ∀ e, e < E → eo e = Int32.ofNat (po e) ∧ po e < E ∧ cls (po e) = cls e ∧ (po e = e → cls e = e) ∧ (po e ≠ e → dep (po e) < dep e))
    (K : Int32 → Unit → Prop) (i0 i1 i2 i3 i4 i5 i6 i7 i8 i9 i10 i11 i12 i13 i14 i15 i16 i17 : Int32) (e : Nat) (he : e < E) (hK : K (Int32.ofNat (cls e)) ()) :
    wX9_rootOf i0 i1 i2 i3 i4 i5 i6 i7 i8 i9 i10 i11 i12 i13 i14 i15 i16 i17 eo (Int32.ofNat e) K := by
  have key : ∀ d e, e < E → dep e ≤ d → K (Int32.ofNat (cls e)) () → wLX9_rootOf_2 eo K (d+1) (Int32.ofNat e) := by
    intro d
    induction d with
    | zero =>
      intro e he hd hk
      have h := hpo e he
      unfold wLX9_rootOf_2
      rw [yn_nat (by omega), h.1]
      have hpe : po e = e := by
        by_cases hc : po e = e
        · exact hc
        · have := h.2.2.2.2 hc; omega
      refine ⟨yn_in (by omega) (by omega), fun _ => ?_, fun hne => ?_⟩
      · rw [h.2.2.2.1 hpe] at hk; exact hk
      · exfalso; apply hne; rw [hpe]
    | succ d ih =>
      intro e he hd hk
      have h := hpo e he
      unfold wLX9_rootOf_2
      rw [yn_nat (by omega), h.1]
      refine ⟨yn_in (by omega) (by omega), fun heq => ?_, fun hne => ⟨yn_in (by omega) (by omega), fun v18 hv => ?_⟩⟩
      · have hpe : po e = e := (yn_inj (by omega) (by omega)).1 heq
        rw [h.2.2.2.1 hpe] at hk; exact hk
      · rw [hv]
        have hpe : po e ≠ e := fun hc => hne (by rw [hc])
        refine ih (po e) h.2.1 (by have := h.2.2.2.2 hpe; omega) ?_
        rw [h.2.2.1]; exact hk
  unfold wX9_rootOf
  exact ⟨_, key (dep e) e he (Nat.le_refl _) hK⟩

-- the number of an edge
theorem w9_edgeAt {E : Nat} (hE : E ≤ 220) (fa fb : Nat → Int32) (ea eb : Nat → Nat) (hab : ∀ e, e < E → fa e = Int32.ofNat (ea e) ∧ fb e = Int32.ofNat (eb e) ∧ ea e < 32 ∧ eb e < 32)
    (a b : Nat) (ha : a < 32) (hb : b < 32) (K : Int32 → Unit → Prop)
    (e0 : Nat) (he0 : e0 < E) (h0 : (ea e0 = a ∧ eb e0 = b) ∨ (ea e0 = b ∧ eb e0 = a))
    (hK : ∀ e, e < E → (ea e = a ∧ eb e = b) ∨ (ea e = b ∧ eb e = a) → K (Int32.ofNat e) ())
    (i0 i1 i2 i3 i4 i5 i6 i7 i8 i9 i10 i11 i12 i13 i14 i15 i16 i17 : Int32) :
    wX9_edgeAt i0 i1 i2 i3 i4 i5 i6 i7 i8 i9 i10 i11 i12 i13 i14 i15 i16 i17 fa fb (Int32.ofNat a) (Int32.ofNat b) K := by
  have key : ∀ d e, e0 - e = d → e ≤ e0 → wLX9_edgeAt_2 fa fb (Int32.ofNat a) (Int32.ofNat b) K (d+1) (Int32.ofNat e) := by
    intro d
    induction d with
    | zero =>
      intro e hd he
      have hee : e = e0 := by omega
      subst hee
      have h := hab e he0
      have hk := hK e he0 h0
      unfold wLX9_edgeAt_2
      rw [yn_nat (by omega), h.1, h.2.1]
      simp only [yn_inj (show ea e < 2147483648 by omega) (show a < 2147483648 by omega), yn_inj (show ea e < 2147483648 by omega) (show b < 2147483648 by omega),
        yn_inj (show eb e < 2147483648 by omega) (show a < 2147483648 by omega), yn_inj (show eb e < 2147483648 by omega) (show b < 2147483648 by omega)]
      have hin := yn_in (n := e) (N := 220) (by omega) (by omega)
      refine ⟨hin, fun h1 => ⟨hin, fun h2 => ?_, fun h2 => ⟨hin, fun _ => hk, fun h3 => ?_⟩⟩, fun h1 => ⟨hin, fun _ => hk, fun h2 => ⟨hin, fun h3 => ?_, fun h3 => ⟨hin, fun _ => hk, fun h4 => ?_⟩⟩⟩⟩
      all_goals (exfalso; rcases h0 with h0 | h0 <;> omega)
    | succ d ih =>
      intro e hd he
      have hlt : e < E := by omega
      have h := hab e hlt
      have e1 : Int32.ofNat e + 1 = Int32.ofNat (e+1) := yn_add e 1
      have hgo := ih (e+1) (by omega) (by omega)
      unfold wLX9_edgeAt_2
      rw [yn_nat (by omega), h.1, h.2.1, e1]
      simp only [yn_inj (show ea e < 2147483648 by omega) (show a < 2147483648 by omega), yn_inj (show ea e < 2147483648 by omega) (show b < 2147483648 by omega),
        yn_inj (show eb e < 2147483648 by omega) (show a < 2147483648 by omega), yn_inj (show eb e < 2147483648 by omega) (show b < 2147483648 by omega)]
      have hin := yn_in (n := e) (N := 220) (by omega) (by omega)
      refine ⟨hin, fun h1 => ⟨hin, fun h2 => hgo, fun h2 => ⟨hin, fun h3 => hK e hlt (Or.inr ⟨h2, h3⟩), fun h3 => hgo⟩⟩,
        fun h1 => ⟨hin, fun h2 => hK e hlt (Or.inl ⟨h1, h2⟩), fun h2 => ⟨hin, fun h3 => hgo, fun h3 => ⟨hin, fun h4 => hK e hlt (Or.inr ⟨h3, h4⟩), fun h4 => hgo⟩⟩⟩⟩
  unfold wX9_edgeAt
  have h0eq : (0 : Int32) = Int32.ofNat 0 := rfl
  rw [h0eq]
  exact ⟨_, key e0 0 (by omega) (by omega)⟩

section
variable {n : Nat} {f : Nat → Int32}

theorem yGr_ends {g : Nat → Nat → Bool} (e : Nat) (he : e < 1024) (h : yGr g e = true) : ∀ v, yI e v = true ↔ (v = e / 32 ∨ v = e % 32) := by
  unfold yGr at h
  simp only [Bool.and_eq_true, decide_eq_true_iff] at h
  intro v
  have : e = yIx (e / 32) (e % 32) := by unfold yIx; rw [if_pos h.1]; omega
  have h3 := yI_iff (a := e / 32) (b := e % 32) (by omega) (by omega) (by omega) v
  rw [← this] at h3; exact h3

-- reached without v is hanging together without v
theorem yRe_co (hn : n ≤ 21) (hg : ∀ v w, yGm n f v w = true → v < n ∧ w < n ∧ v ≠ w) (hs : ∀ v w, yGm n f v w = yGm n f w v)
    (v x y : Nat) (wo : Int32) (hwo : ∀ q, q < 32 → (yM wo q = true ↔ q = v)) (hxv : x ≠ v) :
    yRe n f wo x y ↔ (y ≠ v ∧ yCo 1024 yI (yGr (yGm n f)) v x y) := by
  constructor
  · intro h
    apply h (fun z => z ≠ v ∧ yCo 1024 yI (yGr (yGm n f)) v x z) ⟨hxv, yCo_refl _ _ _ _ _⟩
    intro p q hp hq hu hf hw
    have hqv : q ≠ v := by
      intro e
      have := (hwo q hq).2 e
      rw [hw] at this; cases this
    have hgpq : yGm n f p q = true := by unfold yGm; simp [hp, hf]
    have hb := hg p q hgpq
    refine ⟨hqv, yCo_step hu.2 (yIx p q) (yIx_lt (by omega) (by omega)) ?_ ?_ ?_ hu.1 hqv⟩
    · rw [yGr_iff (by omega : n ≤ 32) hg hs p q (by omega) (by omega)]; exact hgpq
    · rw [yI_iff (by omega) (by omega) hb.2.2]; exact Or.inl rfl
    · rw [yI_iff (by omega) (by omega) hb.2.2]; exact Or.inr rfl
  · rintro ⟨_, h⟩
    apply h (fun z => yRe n f wo x z) (fun U hU _ => hU)
    intro e p q he hge hp hq hpv hqv hu
    have hends := yGr_ends e he hge
    have hge' := hge
    unfold yGr at hge'
    simp only [Bool.and_eq_true, decide_eq_true_iff] at hge'
    by_cases hpq : p = q
    · rw [← hpq]; exact hu
    · have hgpq : yGm n f p q = true := by
        rcases (hends p).1 hp with h1 | h1 <;> rcases (hends q).1 hq with h2 | h2
        · exact absurd (h1.trans h2.symm) hpq
        · rw [h1, h2]; exact hge'.2
        · rw [h1, h2, hs]; exact hge'.2
        · exact absurd (h1.trans h2.symm) hpq
      have hb := hg p q hgpq
      have hf : yM (f p) q = true := by
        unfold yGm at hgpq
        simp only [Bool.and_eq_true] at hgpq
        exact hgpq.2
      intro U hU hc
      refine hc p q hb.1 (by omega) (hu U hU hc) hf ?_
      cases hw : yM wo q with
      | false => rfl
      | true => exact absurd ((hwo q (by omega)).1 hw) hqv

-- the row of edges
def yEd (n : Nat) (f : Nat → Int32) (a b E : Nat) (fa fb : Nat → Int32) (ea eb : Nat → Nat) : Prop :=
  (∀ e, e < E → fa e = Int32.ofNat (ea e) ∧ fb e = Int32.ofNat (eb e) ∧ ea e < eb e ∧ eb e < n ∧ yGm n f (ea e) (eb e) = true ∧ (ea e < a ∨ (ea e = a ∧ eb e < b))) ∧
  (∀ e e', e < E → e' < E → ea e = ea e' → eb e = eb e' → e = e') ∧
  (∀ x y, x < y → yGm n f x y = true → (x < a ∨ (x = a ∧ y < b)) → ∃ e, e < E ∧ ea e = x ∧ eb e = y)

theorem yEd_few (hn : n ≤ 21) {a b E : Nat} {fa fb : Nat → Int32} {ea eb : Nat → Nat} (h : yEd n f a b E fa fb ea eb) (x y : Nat) (hxy : x < y) (hg : yGm n f x y = true) (hyn : y < n)
    (hnew : ¬ (x < a ∨ (x = a ∧ y < b))) : E + 1 ≤ yNb 1024 (yGr (yGm n f)) := by
  refine yPigC (E+1) 1024 _ (fun i => if i = E then yIx x y else yIx (ea i) (eb i)) ?_ ?_
  · intro i hi
    by_cases e : i = E
    · simp only [e, if_true]
      have := yIx_div (by omega : y < 32) hxy
      refine ⟨yIx_lt (by omega) (by omega), ?_⟩
      unfold yGr; rw [this.1, this.2]; simp [hxy, hg]
    · simp only [e, if_false]
      have h1 := h.1 i (by omega)
      have := yIx_div (by omega : eb i < 32) h1.2.2.1
      refine ⟨yIx_lt (by omega) (by omega), ?_⟩
      unfold yGr; rw [this.1, this.2]; simp [h1.2.2.1, h1.2.2.2.2.1]
  · intro i j hi hj he
    by_cases e : i = E
    · by_cases e' : j = E
      · omega
      · exfalso
        simp only [e, e', if_true, if_false] at he
        have h1 := h.1 j (by omega)
        rcases yIx_inj (by omega) (by omega) (by omega) (by omega) he with ⟨k1, k2⟩ | ⟨k1, k2⟩
        · apply hnew; rw [k1, k2]; exact h1.2.2.2.2.2
        · omega
    · by_cases e' : j = E
      · exfalso
        simp only [e, e', if_true, if_false] at he
        have h1 := h.1 i (by omega)
        rcases yIx_inj (by omega) (by omega) (by omega) (by omega) he with ⟨k1, k2⟩ | ⟨k1, k2⟩
        · apply hnew; rw [← k1, ← k2]; exact h1.2.2.2.2.2
        · omega
      · simp only [e, e', if_false] at he
        have h1 := h.1 i (by omega)
        have h2 := h.1 j (by omega)
        rcases yIx_inj (by omega) (by omega) (by omega) (by omega) he with ⟨k1, k2⟩ | ⟨k1, k2⟩
        · exact h.2.1 i j (by omega) (by omega) k1 k2
        · omega

theorem w9_edges19 (hn : n ≤ 21) (hg : ∀ v w, yGm n f v w = true → v < n ∧ w < n ∧ v ≠ w) (hM : yNb 1024 (yGr (yGm n f)) ≤ 210)
    (K : (Int32 × (Nat → Int32) × (Nat → Int32) × (Nat → Int32)) → Prop) (a : Nat) (ha : a < n) (B : (Nat → Int32) → (Nat → Int32) → (Nat → Int32) → Int32 → Int32 → Prop)
    (hB : ∀ E fa fb eo ea eb, yEd n f (a+1) 0 E fa fb ea eb → (∀ e, e < E → eo e = Int32.ofNat e) → E ≤ 210 → B fa fb eo (Int32.ofNat E) (Int32.ofNat (a+1))) :
    ∀ d b E fa fb eo ea eb, n - b = d → a < b → b ≤ n → yEd n f a b E fa fb ea eb → (∀ e, e < E → eo e = Int32.ofNat e) → E ≤ 210 →
      wLX9_findBlocks_19 (Int32.ofNat n) f (Int32.ofNat a) K B (d+1) fa fb eo (Int32.ofNat E) (Int32.ofNat b) := by
  intro d
  induction d with
  | zero =>
    intro b E fa fb eo ea eb hd hab hb hE ho hle
    have e1 : Int32.ofNat a + 1 = Int32.ofNat (a+1) := yn_add a 1
    unfold wLX9_findBlocks_19
    rw [e1]
    refine ⟨fun _ => hB E fa fb eo ea eb ?_ ho hle, fun hh => ?_⟩
    · refine ⟨fun e he => ?_, hE.2.1, fun x y hxy hgx hlt => ?_⟩
      · have := hE.1 e he
        exact ⟨this.1, this.2.1, this.2.2.1, this.2.2.2.1, this.2.2.2.2.1, by rcases this.2.2.2.2.2 with h | h <;> omega⟩
      · apply hE.2.2 x y hxy hgx
        have := hg x y hgx
        rcases hlt with h | h
        · by_cases e : x = a
          · exact Or.inr ⟨e, by omega⟩
          · exact Or.inl (by omega)
        · omega
    · exfalso; apply hh; rw [yn_le (by omega) (by omega)]; omega
  | succ d ih =>
    intro b E fa fb eo ea eb hd hab hb hE ho hle
    have hbn : b < n := by omega
    have e1 : Int32.ofNat b + 1 = Int32.ofNat (b+1) := yn_add b 1
    have e2 : Int32.ofNat E + 1 = Int32.ofNat (E+1) := yn_add E 1
    unfold wLX9_findBlocks_19
    rw [e1, yn_nat (by omega : a < 2147483648), yM_test (by omega)]
    refine ⟨fun hh => ?_, fun _ => ⟨yn_in (by omega) (by omega), fun hno => ?_, fun hyes => ?_⟩⟩
    · exfalso; rw [yn_le (by omega) (by omega)] at hh; omega
    · refine ih (b+1) E fa fb eo ea eb (by omega) (by omega) (by omega) ?_ ho hle
      refine ⟨fun e he => ?_, hE.2.1, fun x y hxy hgx hlt => ?_⟩
      · have := hE.1 e he
        exact ⟨this.1, this.2.1, this.2.2.1, this.2.2.2.1, this.2.2.2.2.1, by rcases this.2.2.2.2.2 with h | h <;> omega⟩
      · apply hE.2.2 x y hxy hgx
        rcases hlt with h | h
        · exact Or.inl h
        · by_cases e : y = b
          · exfalso
            apply hno
            rw [h.1, e] at hgx
            unfold yGm at hgx
            simp only [Bool.and_eq_true] at hgx
            rw [hgx.2]; rfl
          · exact Or.inr ⟨h.1, by omega⟩
    · have hgab : yGm n f a b = true := by
        unfold yGm
        cases hbit : yM (f a) b with
        | true => simp [ha]
        | false => rw [hbit] at hyes; exact absurd hyes (by decide)
      have hfew := yEd_few hn hE a b hab hgab hbn (by omega)
      have hin := yn_in (n := E) (N := 220) (by omega) (by omega)
      refine ⟨hin, fun g50 h50 => ⟨hin, fun g60 h60 => ⟨hin, fun g73 h73 v81 h81 => ?_⟩⟩⟩
      rw [yn_nat (by omega)] at h50 h60 h73
      rw [h81, e2]
      refine ih (b+1) (E+1) g50 g60 g73 (fun e => if e = E then a else ea e) (fun e => if e = E then b else eb e) (by omega) (by omega) (by omega) ?_ ?_ (by omega)
      · refine ⟨fun e he => ?_, fun e e' he he' h1 h2 => ?_, fun x y hxy hgx hlt => ?_⟩
        · by_cases ee : e = E
          · simp only [ee, if_true]
            rw [h50, h60, yupd_same, yupd_same]
            exact ⟨rfl, rfl, hab, hbn, hgab, Or.inr ⟨trivial, by omega⟩⟩
          · simp only [ee, if_false]
            rw [h50, h60, yupd_ne _ _ _ _ ee, yupd_ne _ _ _ _ ee]
            have := hE.1 e (by omega)
            exact ⟨this.1, this.2.1, this.2.2.1, this.2.2.2.1, this.2.2.2.2.1, by rcases this.2.2.2.2.2 with h | h <;> omega⟩
        · by_cases ee : e = E
          · by_cases ee' : e' = E
            · omega
            · exfalso
              simp only [ee, ee', if_true, if_false] at h1 h2
              have := (hE.1 e' (by omega)).2.2.2.2.2
              omega
          · by_cases ee' : e' = E
            · exfalso
              simp only [ee, ee', if_true, if_false] at h1 h2
              have := (hE.1 e (by omega)).2.2.2.2.2
              omega
            · simp only [ee, ee', if_false] at h1 h2
              exact hE.2.1 e e' (by omega) (by omega) h1 h2
        · by_cases exy : x = a ∧ y = b
          · exact ⟨E, by omega, by simp [exy.1], by simp [exy.2]⟩
          · obtain ⟨e, he, h1, h2⟩ := hE.2.2 x y hxy hgx (by omega)
            exact ⟨e, by omega, by simp only [show ¬ e = E by omega, if_false]; exact h1, by simp only [show ¬ e = E by omega, if_false]; exact h2⟩
      · intro e he
        by_cases ee : e = E
        · rw [ee, h73, yupd_same]
        · rw [h73, yupd_ne _ _ _ _ ee]; exact ho e (by omega)

-- pointers between edges, and what they say
def yUf (n : Nat) (f : Nat → Int32) (E : Nat) (ea eb : Nat → Nat) (eo : Nat → Int32) (po cls dep : Nat → Nat) : Prop :=
  (∀ e, e < E → eo e = Int32.ofNat (po e) ∧ po e < E ∧ cls (po e) = cls e ∧ (po e = e → cls e = e) ∧ (po e ≠ e → dep (po e) < dep e)) ∧
  (∀ e, e < E → cls e < E ∧ cls (cls e) = cls e ∧ po (cls e) = cls e) ∧
  (∀ k : Nat → Bool, (∀ e e' v x y, e < 1024 → e' < 1024 → yGr (yGm n f) e = true → yGr (yGm n f) e' = true → yI e v = true → yI e x = true → yI e' v = true → yI e' y = true → x ≠ v → y ≠ v →
    yCo 1024 yI (yGr (yGm n f)) v x y → k e = k e') → ∀ e e', e < E → e' < E → cls e = cls e' → k (yIx (ea e) (eb e)) = k (yIx (ea e') (eb e')))

-- one pointer more
theorem yUf_link {E : Nat} {ea eb : Nat → Nat} {eo : Nat → Int32} {po cls dep : Nat → Nat} (h : yUf n f E ea eb eo po cls dep) (r r' : Nat) (hr : r < E) (_ : r' < E)
    (hcr : cls r = r) (hcr' : cls r' = r') (e1 e2 : Nat) (he1 : e1 < E) (he2 : e2 < E) (hc1 : cls e1 = r) (hc2 : cls e2 = r')
    (hk : ∀ k : Nat → Bool, (∀ e e' v x y, e < 1024 → e' < 1024 → yGr (yGm n f) e = true → yGr (yGm n f) e' = true → yI e v = true → yI e x = true → yI e' v = true → yI e' y = true → x ≠ v → y ≠ v →
      yCo 1024 yI (yGr (yGm n f)) v x y → k e = k e') → k (yIx (ea e1) (eb e1)) = k (yIx (ea e2) (eb e2))) :
    ∃ po' dep', yUf n f E ea eb (upd eo r' (Int32.ofNat r)) po' (fun e => if cls e = r' then r else cls e) dep' := by
  by_cases hrr : r' = r
  · refine ⟨po, dep, ?_, ?_, ?_⟩
    · intro e he
      have h1 := h.1 e he
      have hpr : po r = r := by have := (h.2.1 r hr).2.2; rw [hcr] at this; exact this
      have hcl : (if cls e = r' then r else cls e) = cls e := by split <;> omega
      have hclp : (if cls (po e) = r' then r else cls (po e)) = cls (po e) := by split <;> omega
      refine ⟨?_, h1.2.1, by dsimp only; rw [hcl, hclp]; exact h1.2.2.1, by dsimp only; rw [hcl]; exact h1.2.2.2.1, h1.2.2.2.2⟩
      by_cases e0 : e = r'
      · rw [e0, yupd_same]; rw [hrr, hpr]
      · rw [yupd_ne _ _ _ _ e0]; exact h1.1
    · intro e he
      have hcl : ∀ e, (if cls e = r' then r else cls e) = cls e := by intro e; split <;> omega
      dsimp only
      rw [hcl, hcl]; exact h.2.1 e he
    · intro k hk' e e' he he' hcc
      have hcl : ∀ e, (if cls e = r' then r else cls e) = cls e := by intro e; split <;> omega
      dsimp only at hcc
      rw [hcl, hcl] at hcc
      exact h.2.2 k hk' e e' he he' hcc
  · refine ⟨fun e => if e = r' then r else po e, fun e => if cls e = r' then dep e + dep r + 1 else dep e, ?_, ?_, ?_⟩
    · intro e he
      have h1 := h.1 e he
      by_cases e0 : e = r'
      · rw [e0, yupd_same]
        simp only [if_true]
        refine ⟨trivial, hr, ?_, fun hh => absurd hh.symm hrr, fun _ => ?_⟩
        · rw [hcr, hcr']; simp
        · rw [hcr, hcr']
          have : ¬ r = r' := fun hh => hrr hh.symm
          simp only [this, if_false, if_true]; omega
      · rw [yupd_ne _ _ _ _ e0]
        simp only [e0, if_false]
        refine ⟨h1.1, h1.2.1, by rw [h1.2.2.1], fun hh => ?_, fun hh => ?_⟩
        · have := h1.2.2.2.1 hh
          rw [this]
          simp [e0]
        · have := h1.2.2.2.2 hh
          rw [h1.2.2.1]
          split <;> omega
    · intro e he
      have h1 := h.2.1 e he
      have hrne : ¬ r = r' := fun hh => hrr hh.symm
      by_cases e0 : cls e = r'
      · simp only [e0, if_true, hcr, hrne, if_false]
        refine ⟨hr, trivial, ?_⟩
        have := (h.2.1 r hr).2.2
        rw [hcr] at this; exact this
      · simp only [e0, if_false, h1.2.1]
        exact ⟨h1.1, trivial, h1.2.2⟩
    · intro k hk' e e' he he' hcc
      have hlink := hk k hk'
      have hto : ∀ e, e < E → cls e = r → k (yIx (ea e) (eb e)) = k (yIx (ea e1) (eb e1)) := fun e he hh => h.2.2 k hk' e e1 he he1 (hh.trans hc1.symm)
      have hto' : ∀ e, e < E → cls e = r' → k (yIx (ea e) (eb e)) = k (yIx (ea e1) (eb e1)) := fun e he hh => by
        rw [h.2.2 k hk' e e2 he he2 (hh.trans hc2.symm), hlink]
      dsimp only at hcc
      by_cases c1 : cls e = r'
      · by_cases c2 : cls e' = r'
        · rw [hto' e he c1, hto' e' he' c2]
        · simp only [c1, c2, if_true, if_false] at hcc
          rw [hto' e he c1, hto e' he' hcc.symm]
      · by_cases c2 : cls e' = r'
        · simp only [c1, c2, if_true, if_false] at hcc
          rw [hto e he hcc, hto' e' he' c2]
        · simp only [c1, c2, if_false] at hcc
          exact h.2.2 k hk' e e' he he' hcc
end

section
variable {n : Nat} {f : Nat → Int32}

def yPr2 (ea eb : Nat → Nat) (e v y : Nat) : Prop := (ea e = v ∧ eb e = y) ∨ (ea e = y ∧ eb e = v)
def yMn (E : Nat) (c c' : Nat → Nat) : Prop := ∀ e e', e < E → e' < E → c e = c e' → c' e = c' e'
def yRl (n : Nat) (f : Nat → Int32) (E : Nat) (ea eb cls : Nat → Nat) (v : Nat) : Prop :=
  ∀ y y', yGm n f v y = true → yGm n f v y' = true → yCo 1024 yI (yGr (yGm n f)) v y y' → ∀ e e', e < E → e' < E → yPr2 ea eb e v y → yPr2 ea eb e' v y' → cls e = cls e'

theorem yRl_mono {E : Nat} {ea eb c c' : Nat → Nat} {v : Nat} (h : yRl n f E ea eb c v) (hm : yMn E c c') : yRl n f E ea eb c' v :=
  fun y y' a b d e e' he he' p p' => hm e e' he he' (h y y' a b d e e' he he' p p')

theorem yEd_find (hg : ∀ v w, yGm n f v w = true → v < n ∧ w < n ∧ v ≠ w) (hs : ∀ v w, yGm n f v w = yGm n f w v) {E : Nat} {fa fb : Nat → Int32} {ea eb : Nat → Nat}
    (hE : yEd n f n 0 E fa fb ea eb) (v y : Nat) (h : yGm n f v y = true) : ∃ e, e < E ∧ yPr2 ea eb e v y := by
  have hb := hg v y h
  by_cases hlt : v < y
  · obtain ⟨e, he, h1, h2⟩ := hE.2.2 v y hlt h (Or.inl hb.1)
    exact ⟨e, he, Or.inl ⟨h1, h2⟩⟩
  · obtain ⟨e, he, h1, h2⟩ := hE.2.2 y v (by omega) (by rw [hs]; exact h) (Or.inl hb.2.1)
    exact ⟨e, he, Or.inr ⟨h1, h2⟩⟩

theorem yEd_uniq {E : Nat} {fa fb : Nat → Int32} {ea eb : Nat → Nat} (hE : yEd n f n 0 E fa fb ea eb) {v y e e' : Nat} (he : e < E) (he' : e' < E)
    (h : yPr2 ea eb e v y) (h' : yPr2 ea eb e' v y) : e = e' := by
  have a1 := hE.1 e he
  have a2 := hE.1 e' he'
  apply hE.2.1 e e' he he'
  · rcases h with h | h <;> rcases h' with h' | h' <;> omega
  · rcases h with h | h <;> rcases h' with h' | h' <;> omega

-- the edge as a pair
theorem yPr2_ix {ea eb : Nat → Nat} {e v y : Nat} (h : yPr2 ea eb e v y) : yIx (ea e) (eb e) = yIx v y := by
  rcases h with h | h
  · rw [h.1, h.2]
  · rw [h.1, h.2, yIx_comm]

theorem w9_link172 (hn : n ≤ 21) (hg : ∀ v w, yGm n f v w = true → v < n ∧ w < n ∧ v ≠ w) (hs : ∀ v w, yGm n f v w = yGm n f w v)
    {E : Nat} (hE210 : E ≤ 210) {fa fb : Nat → Int32} {ea eb : Nat → Nat} (hE : yEd n f n 0 E fa fb ea eb)
    (v x : Nat) (hvx : yGm n f v x = true) (wth v156 : Int32) (hwth : ∀ y, y < 32 → (yM wth y = true ↔ (yGm n f v y = true ∧ yCo 1024 yI (yGr (yGm n f)) v x y)))
    (r : Nat) (hr : r < E) (ex : Nat) (hex : ex < E) (hpx : yPr2 ea eb ex v x) (cls0 : Nat → Nat)
    (K : (Int32 × (Nat → Int32) × (Nat → Int32) × (Nat → Int32)) → Prop) (B : (Nat → Int32) → Int32 → Prop)
    (i0 i1 i2 i5 i6 i7 i8 i9 i10 i11 i12 i13 i14 i15 i16 i17 : Int32)
    (hB : ∀ eo po cls dep, yUf n f E ea eb eo po cls dep → yMn E cls0 cls → (∀ y e, y < 32 → yM wth y = true → e < E → yPr2 ea eb e v y → cls e = r) → B eo v156) :
    ∀ d y eo po cls dep, n - y = d → y ≤ n → yUf n f E ea eb eo po cls dep → yMn E cls0 cls → cls ex = r → cls r = r →
      (∀ y' e, y' < y → yM wth y' = true → e < E → yPr2 ea eb e v y' → cls e = r) →
      wLX9_findBlocks_172 i0 i1 i2 (Int32.ofNat n) i5 i6 i7 i8 i9 i10 i11 i12 i13 i14 i15 i16 i17 fa fb (Int32.ofNat E) (Int32.ofNat v) wth v156 (Int32.ofNat r) K B (d+1) eo (Int32.ofNat y) := by
  have hbx := hg v x hvx
  have hfab : ∀ e, e < E → fa e = Int32.ofNat (ea e) ∧ fb e = Int32.ofNat (eb e) ∧ ea e < 32 ∧ eb e < 32 := by
    intro e he
    have := hE.1 e he
    exact ⟨this.1, this.2.1, by omega, by omega⟩
  intro d
  induction d with
  | zero =>
    intro y eo po cls dep hd hy hU hM hcx hcr hdone
    unfold wLX9_findBlocks_172
    refine ⟨fun _ => hB eo po cls dep hU hM ?_, fun hh => ?_⟩
    · intro y' e hy' hw he hp
      have := hg _ _ ((hwth y' hy').1 hw).1
      exact hdone y' e (by omega) hw he hp
    · exfalso; apply hh; rw [yn_le (by omega) (by omega)]; omega
  | succ d ih =>
    intro y eo po cls dep hd hy hU hM hcx hcr hdone
    have e1 : Int32.ofNat y + 1 = Int32.ofNat (y+1) := yn_add y 1
    unfold wLX9_findBlocks_172
    rw [e1, yM_test (by omega)]
    refine ⟨fun hh => ?_, fun _ => ⟨fun hno => ?_, fun hyes => ?_⟩⟩
    · exfalso; rw [yn_le (by omega) (by omega)] at hh; omega
    · refine ih (y+1) eo po cls dep (by omega) (by omega) hU hM hcx hcr ?_
      intro y' e hy' hw he hp
      by_cases ey : y' = y
      · exfalso; apply hno; rw [ey] at hw; rw [hw]; rfl
      · exact hdone y' e (by omega) hw he hp
    · have hw : yM wth y = true := by
        cases hb : yM wth y with
        | true => rfl
        | false => rw [hb] at hyes; exact absurd hyes (by decide)
      have hwy := (hwth y (by omega)).1 hw
      have hby := hg _ _ hwy.1
      obtain ⟨e0, he0, hp0⟩ := yEd_find hg hs hE v y hwy.1
      refine w9_edgeAt (by omega) fa fb ea eb hfab v y (by omega) (by omega) _ e0 he0 hp0 ?_ i0 i1 i2 _ _ i5 i6 i7 i8 i9 i10 i11 i12 i13 i14 i15 i16 i17
      intro e he hp
      refine w9_rootOf (by omega) eo po cls dep hU.1 _ i0 i1 i2 _ _ i5 i6 i7 i8 i9 i10 i11 i12 i13 i14 i15 i16 i17 e he ?_
      have hce := hU.2.1 e he
      refine ⟨yn_in (by omega) (by omega), fun g209 h209 => ?_⟩
      rw [yn_nat (by omega)] at h209
      obtain ⟨po', dep', hU'⟩ := yUf_link hU r (cls e) hr hce.1 hcr hce.2.1 ex e hex he hcx rfl (by
        intro k hk
        rw [yPr2_ix hpx, yPr2_ix hp]
        refine hk (yIx v x) (yIx v y) v x y (yIx_lt (by omega) (by omega)) (yIx_lt (by omega) (by omega)) ?_ ?_ ?_ ?_ ?_ ?_ (Ne.symm hbx.2.2) (Ne.symm hby.2.2) hwy.2
        · rw [yGr_iff (by omega : n ≤ 32) hg hs v x (by omega) (by omega)]; exact hvx
        · rw [yGr_iff (by omega : n ≤ 32) hg hs v y (by omega) (by omega)]; exact hwy.1
        · rw [yI_iff (by omega) (by omega) hbx.2.2]; exact Or.inl rfl
        · rw [yI_iff (by omega) (by omega) hbx.2.2]; exact Or.inr rfl
        · rw [yI_iff (by omega) (by omega) hby.2.2]; exact Or.inl rfl
        · rw [yI_iff (by omega) (by omega) hby.2.2]; exact Or.inr rfl)
      rw [← h209] at hU'
      refine ih (y+1) g209 po' _ dep' (by omega) (by omega) hU' ?_ ?_ ?_ ?_
      · intro a b ha hb hab
        dsimp only
        rw [hM a b ha hb hab]
      · rw [hcx]; split <;> rfl
      · rw [hcr]; split <;> rfl
      · intro y' e' hy' hw' he' hp'
        by_cases ey : y' = y
        · rw [ey] at hp'
          have : e' = e := yEd_uniq hE he' he hp' hp
          rw [this, if_pos rfl]
        · rw [hdone y' e' (by omega) hw' he' hp']; split <;> rfl

theorem w9_blocks113 (hn : n ≤ 21) (hg : ∀ v w, yGm n f v w = true → v < n ∧ w < n ∧ v ≠ w) (hs : ∀ v w, yGm n f v w = yGm n f w v)
    {E : Nat} (hE210 : E ≤ 210) {fa fb : Nat → Int32} {ea eb : Nat → Nat} (hE : yEd n f n 0 E fa fb ea eb)
    (v : Nat) (hv : v < n) (cls0 : Nat → Nat)
    (K : (Int32 × (Nat → Int32) × (Nat → Int32) × (Nat → Int32)) → Prop) (B : (Nat → Int32) → Int32 → Prop)
    (i0 i1 i2 i5 i6 i7 i8 i9 i10 i11 i12 i13 i14 i15 i16 i17 : Int32)
    (hB : ∀ eo po cls dep, yUf n f E ea eb eo po cls dep → yMn E cls0 cls → yRl n f E ea eb cls v → B eo (Int32.ofNat (v+1))) :
    ∀ d left eo po cls dep, yNb 32 (yM left) ≤ d → yUf n f E ea eb eo po cls dep → yMn E cls0 cls → (∀ y, y < 32 → yM left y = true → yGm n f v y = true) →
      (∀ y y', yGm n f v y = true → yM left y = false → yGm n f v y' = true → yCo 1024 yI (yGr (yGm n f)) v y y' →
        yM left y' = false ∧ ∀ e e', e < E → e' < E → yPr2 ea eb e v y → yPr2 ea eb e' v y' → cls e = cls e') →
      wLX9_findBlocks_113 i0 i1 i2 (Int32.ofNat n) i5 i6 i7 i8 i9 i10 i11 i12 i13 i14 i15 i16 i17 f fa fb (Int32.ofNat E) (Int32.ofNat v) K B (d+1) eo left := by
  have h0eq : (0 : Int32) = Int32.ofNat 0 := rfl
  have hfab : ∀ e, e < E → fa e = Int32.ofNat (ea e) ∧ fb e = Int32.ofNat (eb e) ∧ ea e < 32 ∧ eb e < 32 := by
    intro e he
    have := hE.1 e he
    exact ⟨this.1, this.2.1, by omega, by omega⟩
  have hdone : ∀ left eo po cls dep, left = 0 → yUf n f E ea eb eo po cls dep → yMn E cls0 cls →
      (∀ y y', yGm n f v y = true → yM left y = false → yGm n f v y' = true → yCo 1024 yI (yGr (yGm n f)) v y y' →
        yM left y' = false ∧ ∀ e e', e < E → e' < E → yPr2 ea eb e v y → yPr2 ea eb e' v y' → cls e = cls e') → B eo (Int32.ofNat v + 1) := by
    intro left eo po cls dep hz hU hM hD
    have e1 : Int32.ofNat v + 1 = Int32.ofNat (v+1) := yn_add v 1
    rw [e1]
    refine hB eo po cls dep hU hM ?_
    intro y y' h1 h2 h3
    exact (hD y y' h1 (by rw [hz]; exact yM_zero y) h2 h3).2
  intro d
  induction d with
  | zero =>
    intro left eo po cls dep hd hU hM hsub hD
    have hz : left = 0 := by
      rw [yM_eq0]
      intro i hi
      cases hb : yM left i with
      | false => rfl
      | true => have := yNb_pos 32 (yM left) i hi hb; omega
    unfold wLX9_findBlocks_113
    exact ⟨fun _ => hdone left eo po cls dep hz hU hM hD, fun hne => absurd hz hne⟩
  | succ d ih =>
    intro left eo po cls dep hd hU hM hsub hD
    unfold wLX9_findBlocks_113
    refine ⟨fun hz => hdone left eo po cls dep hz hU hM hD, fun hne => ?_⟩
    obtain ⟨x, hx32, hbx, hlx⟩ := yM_least hne
    have hvx := hsub x hx32 hbx
    have hgx := hg v x hvx
    -- the search for the least
    have hfind : ∀ k z, x - z = k → z ≤ x → wLX9_findBlocks_119 i0 i1 i2 (Int32.ofNat n) i5 i6 i7 i8 i9 i10 i11 i12 i13 i14 i15 i16 i17 f fa fb (Int32.ofNat E) (Int32.ofNat v) eo left K
        (fun z0 z1 => (wLX9_findBlocks_113 i0 i1 i2 (Int32.ofNat n) i5 i6 i7 i8 i9 i10 i11 i12 i13 i14 i15 i16 i17 f fa fb (Int32.ofNat E) (Int32.ofNat v) K B (d+1)) z0 z1) (k+1) (Int32.ofNat z) := by
      intro k
      induction k with
      | zero =>
        intro z hk hz
        have hzx : z = x := by omega
        rw [hzx]
        unfold wLX9_findBlocks_119
        rw [yM_test hx32, hbx]
        refine ⟨fun _ => ?_, fun hh => absurd hh (by decide)⟩
        have hwo : ∀ q, q < 32 → (yM ((1 : Int32) <<< (Int32.ofNat v &&& 31)) q = true ↔ q = v) := by
          intro q hq; rw [yM_shl (by omega) q hq, decide_eq_true_iff]
        refine w9_reached hn f _ x hgx.2.1 _ i0 i1 i2 _ i5 i6 i7 i8 i9 i10 i11 i12 i13 i14 i15 i16 i17 ?_
        intro rm hrm
        rw [yn_nat (by omega : v < 2147483648)]
        refine ⟨yn_in (by omega) (by omega), fun v148 h148 v156 h156 => ?_⟩
        have hwth : ∀ y, y < 32 → (yM v148 y = true ↔ (yGm n f v y = true ∧ yCo 1024 yI (yGr (yGm n f)) v x y)) := by
          intro y hy
          rw [h148, yM_and, Bool.and_eq_true, hrm y hy, yRe_co hn hg hs v x y _ hwo (Ne.symm hgx.2.2)]
          have hgm : yM (f v) y = true ↔ yGm n f v y = true := by unfold yGm; simp [hv]
          rw [hgm]
          constructor
          · rintro ⟨⟨_, h1⟩, h2⟩; exact ⟨h2, h1⟩
          · rintro ⟨h1, h2⟩; exact ⟨⟨fun e => (hg v y h1).2.2 e.symm, h2⟩, h1⟩
        obtain ⟨e0, he0, hp0⟩ := yEd_find hg hs hE v x hvx
        refine w9_edgeAt (by omega) fa fb ea eb hfab v x (by omega) hx32 _ e0 he0 hp0 ?_ i0 i1 i2 _ _ i5 i6 i7 i8 i9 i10 i11 i12 i13 i14 i15 i16 i17
        intro ex hex hpx
        refine w9_rootOf (by omega) eo po cls dep hU.1 _ i0 i1 i2 _ _ i5 i6 i7 i8 i9 i10 i11 i12 i13 i14 i15 i16 i17 ex hex ?_
        have hce := hU.2.1 ex hex
        refine ⟨n + 1, ?_⟩
        rw [h0eq]
        refine w9_link172 hn hg hs hE210 hE v x hvx v148 v156 hwth (cls ex) hce.1 ex hex hpx cls K _ i0 i1 i2 i5 i6 i7 i8 i9 i10 i11 i12 i13 i14 i15 i16 i17 ?_
          n 0 eo po cls dep (by omega) (by omega) hU (fun _ _ _ _ h => h) rfl hce.2.1 (fun y' e hy' => by omega)
        intro eo' po' cls' dep' hU' hM' hall
        have hbit : ∀ y, y < 32 → (yM v156 y = true ↔ (yM left y = true ∧ ¬ (yM v148 y = true))) := by
          intro y hy
          rw [h156, yM_and, yM_not _ y hy]
          cases yM left y <;> cases yM v148 y <;> simp
        have hxw : yM v148 x = true := (hwth x hx32).2 ⟨hvx, yCo_refl _ _ _ _ _⟩
        refine ih v156 eo' po' cls' dep' ?_ hU' (fun e e' he he' hh => hM' e e' he he' (hM e e' he he' hh)) ?_ ?_
        · have := yNb_strict 32 (yM v156) (yM left) x hx32 (by
            cases hb : yM v156 x with
            | false => rfl
            | true => exact absurd hxw ((hbit x hx32).1 hb).2) hbx (fun i hi hb => ((hbit i hi).1 hb).1)
          omega
        · intro y hy hb; exact hsub y hy ((hbit y hy).1 hb).1
        · intro y y' hy hl hy' hco
          have hyn := hg v y hy
          have hyn' := hg v y' hy'
          by_cases hly : yM left y = true
          · -- y went now, with x
            have hyw : yM v148 y = true := by
              cases hb : yM v148 y with
              | true => rfl
              | false =>
                exfalso
                have := (hbit y (by omega)).2 ⟨hly, by rw [hb]; simp⟩
                rw [this] at hl; cases hl
            have hcx := ((hwth y (by omega)).1 hyw).2
            have hyw' : yM v148 y' = true := (hwth y' (by omega)).2 ⟨hy', yCo_trans hcx hco⟩
            refine ⟨?_, fun e e' he he' hp hp' => ?_⟩
            · cases hb : yM v156 y' with
              | false => rfl
              | true => exact absurd hyw' ((hbit y' (by omega)).1 hb).2
            · rw [hall y e (by omega) hyw he hp, hall y' e' (by omega) hyw' he' hp']
          · have hly' : yM left y = false := by revert hly; cases yM left y <;> simp
            have := hD y y' hy hly' hy' hco
            refine ⟨?_, fun e e' he he' hp hp' => hM' e e' he he' (this.2 e e' he he' hp hp')⟩
            cases hb : yM v156 y' with
            | false => rfl
            | true => have h5 := ((hbit y' (by omega)).1 hb).1; rw [this.1] at h5; cases h5
      | succ k ihk =>
        intro z hk hz
        have e1 : Int32.ofNat z + 1 = Int32.ofNat (z+1) := yn_add z 1
        unfold wLX9_findBlocks_119
        rw [e1, yM_test (by omega), hlx z (by omega)]
        exact ⟨fun hh => absurd rfl hh, fun _ => ihk (z+1) (by omega) (by omega)⟩
    refine ⟨x + 1, ?_⟩
    rw [h0eq]
    exact hfind x 0 (by omega) (by omega)

theorem w9_findBlocks (hn : n ≤ 21) (hg : ∀ v w, yGm n f v w = true → v < n ∧ w < n ∧ v ≠ w) (hs : ∀ v w, yGm n f v w = yGm n f w v) (hM : yNb 1024 (yGr (yGm n f)) ≤ 210)
    (f19 f20 f21 : Nat → Int32) (K : (Int32 × (Nat → Int32) × (Nat → Int32) × (Nat → Int32)) → Prop)
    (i0 i1 i2 i4 i5 i6 i7 i8 i9 i10 i11 i12 i13 i14 i15 i16 i17 : Int32)
    (hK : ∀ E fa fb eo ea eb po cls dep, E ≤ 210 → yEd n f n 0 E fa fb ea eb → yUf n f E ea eb eo po cls dep → (∀ v, v < n → yRl n f E ea eb cls v) → K (Int32.ofNat E, fa, fb, eo)) :
    wX9_findBlocks i0 i1 i2 (Int32.ofNat n) i4 i5 i6 i7 i8 i9 i10 i11 i12 i13 i14 i15 i16 i17 f f19 f20 f21 K := by
  have h0eq : (0 : Int32) = Int32.ofNat 0 := rfl
  -- node by node
  have h98 : ∀ E fa fb ea eb, E ≤ 210 → yEd n f n 0 E fa fb ea eb → ∀ d v eo po cls dep, n - v = d → v ≤ n → yUf n f E ea eb eo po cls dep → (∀ v', v' < v → yRl n f E ea eb cls v') →
      wLX9_findBlocks_98 i0 i1 i2 (Int32.ofNat n) i5 i6 i7 i8 i9 i10 i11 i12 i13 i14 i15 i16 i17 f fa fb (Int32.ofNat E) K (d+1) eo (Int32.ofNat v) := by
    intro E fa fb ea eb hE210 hE d
    induction d with
    | zero =>
      intro v eo po cls dep hd hv hU hR
      unfold wLX9_findBlocks_98
      refine ⟨fun _ => hK E fa fb eo ea eb po cls dep hE210 hE hU (fun v' hv' => hR v' (by omega)), fun hh => ?_⟩
      exfalso; apply hh; rw [yn_le (by omega) (by omega)]; omega
    | succ d ih =>
      intro v eo po cls dep hd hv hU hR
      unfold wLX9_findBlocks_98
      rw [yn_nat (by omega : v < 2147483648)]
      refine ⟨fun hh => ?_, fun _ => ⟨yn_in (by omega) (by omega), fun v112 h112 => ?_⟩⟩
      · exfalso; rw [yn_le (by omega) (by omega)] at hh; omega
      · refine ⟨33, ?_⟩
        refine w9_blocks113 hn hg hs hE210 hE v (by omega) cls K _ i0 i1 i2 i5 i6 i7 i8 i9 i10 i11 i12 i13 i14 i15 i16 i17 ?_ 32 v112 eo po cls dep (yNb_le 32 _) hU (fun _ _ _ _ h => h) ?_ ?_
        · intro eo' po' cls' dep' hU' hM' hR'
          refine ih (v+1) eo' po' cls' dep' (by omega) (by omega) hU' ?_
          intro v' hv'
          by_cases e : v' = v
          · rw [e]; exact hR'
          · exact yRl_mono (hR v' (by omega)) hM'
        · intro y hy hb
          rw [h112] at hb
          unfold yGm; simp [hb]; omega
        · intro y y' hy hl
          exfalso
          rw [h112] at hl
          unfold yGm at hy
          simp only [Bool.and_eq_true] at hy
          rw [hy.2] at hl; cases hl
  -- the row of edges
  have h7 : ∀ d a E fa fb eo ea eb, n - a = d → a ≤ n → yEd n f a 0 E fa fb ea eb → (∀ e, e < E → eo e = Int32.ofNat e) → E ≤ 210 →
      wLX9_findBlocks_7 i0 i1 i2 (Int32.ofNat n) i5 i6 i7 i8 i9 i10 i11 i12 i13 i14 i15 i16 i17 f K (d+1) fa fb eo (Int32.ofNat E) (Int32.ofNat a) := by
    intro d
    induction d with
    | zero =>
      intro a E fa fb eo ea eb hd ha hE ho hle
      have han : a = n := by omega
      unfold wLX9_findBlocks_7
      refine ⟨fun _ => ?_, fun hh => ?_⟩
      · refine ⟨n + 1, ?_⟩
        rw [h0eq]
        rw [han] at hE
        refine h98 E fa fb ea eb hle hE n 0 eo (fun e => e) (fun e => e) (fun _ => 0) (by omega) (by omega) ?_ (fun v' hv' => by omega)
        refine ⟨fun e he => ⟨ho e he, he, rfl, fun _ => rfl, fun hh => absurd rfl hh⟩, fun e he => ⟨he, rfl, rfl⟩, ?_⟩
        intro k _ e e' _ _ hee
        dsimp only at hee
        rw [hee]
      · exfalso; apply hh; rw [yn_le (by omega) (by omega)]; omega
    | succ d ih =>
      intro a E fa fb eo ea eb hd ha hE ho hle
      have e1 : Int32.ofNat a + 1 = Int32.ofNat (a+1) := yn_add a 1
      unfold wLX9_findBlocks_7
      refine ⟨fun hh => ?_, fun _ v18 h18 => ?_⟩
      · exfalso; rw [yn_le (by omega) (by omega)] at hh; omega
      · rw [h18, e1]
        refine ⟨(n - (a+1)) + 1, ?_⟩
        refine w9_edges19 hn hg hM K a (by omega) _ ?_ (n - (a+1)) (a+1) E fa fb eo ea eb rfl (by omega) (by omega) ?_ ho hle
        · intro E' fa' fb' eo' ea' eb' h1 h2 h3
          exact ih (a+1) E' fa' fb' eo' ea' eb' (by omega) (by omega) h1 h2 h3
        · refine ⟨fun e he => ?_, hE.2.1, fun x y hxy hgx hlt => hE.2.2 x y hxy hgx ?_⟩
          · have := hE.1 e he
            exact ⟨this.1, this.2.1, this.2.2.1, this.2.2.2.1, this.2.2.2.2.1, by rcases this.2.2.2.2.2 with h | h <;> omega⟩
          · omega
  unfold wX9_findBlocks
  refine ⟨n + 1, ?_⟩
  rw [h0eq]
  exact h7 n 0 0 f19 f20 f21 (fun _ => 0) (fun _ => 0) (by omega) (by omega)
    ⟨fun e he => by omega, fun e e' he => by omega, fun x y _ _ h => by omega⟩ (fun e he => by omega) (by omega)
end

theorem yDs_color2 {L : Type} {m : Nat} {I : Nat → Nat → Bool} {X z : Nat → Bool} {s t : Nat → L}
    (hE : yDs m I X z s t) (c : L → Bool) (v : Nat)
    (hv : ∀ e, e < m → X e = true → I e v = true → Bool.xor (c (t e)) (!z e && c (s e)) = false)
    (hV : yV2 m I X)
    (a b : Nat) (ha : a < m) (hb : b < m) (hXa : X a = true) (hXb : X b = true) (hIa : I a v = true) (hIb : I b v = true) :
    c (t a) = c (t b) := by
  by_cases hab : a = b
  · rw [hab]
  obtain ⟨w, hwX, hw, wa, wb, h⟩ := hV v a b ha hb hab hXa hXb hIa hIb
  obtain ⟨d, hd⟩ := hE.2 w hwX hw
  have h1 := hE.1 (fun l => c l && d l) v
  have h2 : yX m (fun e => (X e && Bool.xor (c (t e) && d (t e)) (!z e && (c (s e) && d (s e)))) && I e v)
      = yDg m I (fun e => w e && c (t e)) v := by
    unfold yDg
    apply yX_congr
    intro e he
    cases hI : I e v with
    | false => simp
    | true =>
      cases hX : X e with
      | false =>
        have : w e = false := by
          cases hwe : w e with
          | false => rfl
          | true => have := hwX e he hwe; rw [hX] at this; cases this
        simp [this]
      | true =>
        dsimp only
        have h3 := hv e he hX hI
        rw [hd e he hX]
        revert h3
        cases c (t e) <;> cases c (s e) <;> cases d (s e) <;> cases d (t e) <;> cases z e <;> simp
  rw [h2] at h1
  rw [yDg_two m I _ v a b ha hb hab hIa hIb] at h1
  · rw [wa, wb] at h1
    revert h1
    cases c (t a) <;> cases c (t b) <;> simp
  · intro e he hI h3 h4
    cases hwe : w e with
    | false => simp
    | true => rcases h e he hwe hI with h5 | h5 <;> contradiction

-- a join that holds (or leaves out) a given edge at a node
theorem yCi_join {m : Nat} {I : Nat → Nat → Bool} {Z : Nat → Bool} (hC : yCi m I Z) (w : Nat → Bool)
    (hw : ∀ v, yDg m I w v = true → yOn m I Z v) (d : Nat) (_ : d < m) (hZd : Z d = true) (k : Bool) :
    ∃ J : Nat → Bool, (∀ e, e < m → J e = true → Z e = true) ∧ (∀ v, yDg m I J v = yDg m I w v) ∧ J d = k := by
  obtain ⟨J, h1, h2⟩ := hC.2.2.1 w hw
  by_cases hk : J d = k
  · exact ⟨J, h1, h2, hk⟩
  · refine ⟨fun e => Bool.xor (J e) (Z e), ?_, ?_, ?_⟩
    · intro e he h
      cases hz : Z e with
      | true => rfl
      | false =>
        dsimp only at h
        rw [hz, Bool.xor_false] at h
        rw [h1 e he h] at hz; cases hz
    · intro v
      rw [yDg_xor, h2 v, (yEv_iff m I Z).1 hC.1 v]; simp
    · dsimp only
      rw [hZd]
      revert hk
      cases J d <;> cases k <;> simp

theorem yV2_disc {m : Nat} {I : Nat → Nat → Bool} {G H Z X : Nat → Bool} (hV : yV2 m I G) (hC : yCi m I Z)
    (hZH : ∀ e, e < m → Z e = true → H e = true) (hZG : ∀ e, e < m → Z e = true → G e = true)
    (hXG : ∀ e, e < m → X e = true → G e = true ∧ H e = false)
    (hA : ∀ e v, e < m → X e = true → I e v = true → yOn m I H v → yOn m I Z v)
    (hN : ∀ e e' v, e < m → e' < m → X e = true → G e' = true → I e v = true → I e' v = true → ¬ yOn m I H v → X e' = true) :
    yV2 m I (fun e => Z e || X e) := by
  -- part of an even set
  have hpart : ∀ w0 : Nat → Bool, (∀ e, e < m → w0 e = true → G e = true) → yEv m I w0 →
      ∀ u, yDg m I (fun e => X e && w0 e) u = true → yOn m I Z u := by
    intro w0 hw0 hev u hu
    obtain ⟨e1, he1, h1, hI1⟩ := yDg_exists m I _ u hu
    simp only [Bool.and_eq_true] at h1
    by_cases hH : yOn m I H u
    · exact hA e1 u he1 h1.1 hI1 hH
    · exfalso
      have h2 : yDg m I (fun e => X e && w0 e) u = yDg m I w0 u := by
        apply yDg_congr
        intro e he hI
        cases hw : w0 e with
        | false => simp
        | true => rw [hN e1 e u he1 he h1.1 (hw0 e he hw) hI1 hI hH]; rfl
      rw [h2, (yEv_iff m I w0).1 hev u] at hu; cases hu
  have hXZ : ∀ e, e < m → X e = true → Z e = false := by
    intro e he hx
    cases hz : Z e with
    | false => rfl
    | true => have := hZH e he hz; rw [(hXG e he hx).2] at this; cases this
  -- one of X, one of Z
  have hmix : ∀ v a b, a < m → b < m → X a = true → Z b = true → I a v = true → I b v = true →
      ∃ w : Nat → Bool, (∀ e, e < m → w e = true → (Z e || X e) = true) ∧ yEv m I w ∧ w a = true ∧ w b = true ∧
      ∀ e, e < m → w e = true → I e v = true → e = a ∨ e = b := by
    intro v a b ha hb hxa hzb hIa hIb
    have hne : a ≠ b := by intro h; subst h; rw [hXZ a ha hxa] at hzb; cases hzb
    obtain ⟨w0, h1, h2, h3, h4, h5⟩ := hV v a b ha hb hne (hXG a ha hxa).1 (hZG b hb hzb) hIa hIb
    obtain ⟨J, j1, j2, j3⟩ := yCi_join hC (fun e => X e && w0 e) (hpart w0 h1 h2) b hb hzb true
    refine ⟨fun e => Bool.xor (X e && w0 e) (J e), ?_, ?_, ?_, ?_, ?_⟩
    · intro e he h
      dsimp only at h
      cases hj : J e with
      | true => rw [j1 e he hj]; rfl
      | false =>
        rw [hj, Bool.xor_false] at h
        simp only [Bool.and_eq_true] at h
        rw [h.1]; simp
    · rw [yEv_iff]; intro u; rw [yDg_xor, j2 u]; simp
    · have : J a = false := by
        cases hj : J a with
        | false => rfl
        | true => have := j1 a ha hj; rw [hXZ a ha hxa] at this; cases this
      dsimp only; rw [this, hxa, h3]; rfl
    · have : X b = false := by
        cases hx : X b with
        | false => rfl
        | true => rw [hXZ b hb hx] at hzb; cases hzb
      dsimp only; rw [this, j3]; rfl
    · obtain ⟨b', hb', hbb, hzb', hIb', hall⟩ := hC.2.2.2 b v hb hzb hIb
      -- parity at v
      have hpar : yDg m I (fun e => X e && w0 e) v = true := by
        rw [yDg_one m I _ v a ha hIa]
        · rw [hxa, h3]; rfl
        · intro e he hI hea
          cases hx : X e with
          | false => rfl
          | true =>
            cases hw : w0 e with
            | false => rfl
            | true =>
              exfalso
              rcases h5 e he hw hI with h6 | h6
              · exact hea h6
              · subst h6; rw [hXZ e he hx] at hzb; cases hzb
      have hJ : yDg m I J v = true := by rw [j2 v, hpar]
      have hJ' : J b' = false := by
        rw [yDg_two m I J v b b' hb hb' (Ne.symm hbb) hIb hIb'] at hJ
        · rw [j3] at hJ
          revert hJ; cases J b' <;> simp
        · intro e he hI h6 h7
          cases hj : J e with
          | false => rfl
          | true => rcases hall e he (j1 e he hj) hI with h8 | h8 <;> contradiction
      intro e he h hI
      dsimp only at h
      cases hj : J e with
      | true =>
        rcases hall e he (j1 e he hj) hI with h8 | h8
        · exact Or.inr h8
        · rw [h8, hJ'] at hj; cases hj
      | false =>
        rw [hj, Bool.xor_false] at h
        simp only [Bool.and_eq_true] at h
        rcases h5 e he h.2 hI with h6 | h6
        · exact Or.inl h6
        · exact Or.inr h6
  intro v a b ha hb hab hXa hXb hIa hIb
  simp only [Bool.or_eq_true] at hXa hXb
  rcases hXa with hza | hxa
  · rcases hXb with hzb | hxb
    · -- both on Z
      refine ⟨Z, fun e _ h => by dsimp only; rw [h]; rfl, hC.1, hza, hzb, ?_⟩
      obtain ⟨d, hd, hda, hzd, hId, hall⟩ := hC.2.2.2 a v ha hza hIa
      have hbd : b = d := by
        rcases hall b hb hzb hIb with h | h
        · exact absurd h.symm hab
        · exact h
      intro e he hz hI
      rw [hbd]
      exact hall e he hz hI
    · obtain ⟨w, h1, h2, h3, h4, h5⟩ := hmix v b a hb ha hxb hza hIb hIa
      exact ⟨w, h1, h2, h4, h3, fun e he hw hI => (h5 e he hw hI).symm⟩
  · rcases hXb with hzb | hxb
    · exact hmix v a b ha hb hxa hzb hIa hIb
    · -- both off Z
      obtain ⟨w0, h1, h2, h3, h4, h5⟩ := hV v a b ha hb hab (hXG a ha hxa).1 (hXG b hb hxb).1 hIa hIb
      have hJ : ∃ J : Nat → Bool, (∀ e, e < m → J e = true → Z e = true) ∧ (∀ u, yDg m I J u = yDg m I (fun e => X e && w0 e) u) ∧
          (∀ e, e < m → I e v = true → J e = false) := by
        have hpar : yDg m I (fun e => X e && w0 e) v = false := by
          rw [yDg_two m I _ v a b ha hb hab hIa hIb]
          · rw [hxa, hxb, h3, h4]; rfl
          · intro e he hI h6 h7
            cases hw : w0 e with
            | false => simp
            | true => rcases h5 e he hw hI with h8 | h8 <;> contradiction
        by_cases hon : yOn m I Z v
        · obtain ⟨d, hd, hzd, hId⟩ := hon
          obtain ⟨d', hd', hdd, hzd', hId', hall⟩ := hC.2.2.2 d v hd hzd hId
          obtain ⟨J, j1, j2, j3⟩ := yCi_join hC (fun e => X e && w0 e) (hpart w0 h1 h2) d hd hzd false
          refine ⟨J, j1, j2, ?_⟩
          have hJv : yDg m I J v = false := by rw [j2 v, hpar]
          have hJ' : J d' = false := by
            rw [yDg_two m I J v d d' hd hd' (Ne.symm hdd) hId hId'] at hJv
            · rw [j3] at hJv
              revert hJv; cases J d' <;> simp
            · intro e he hI h6 h7
              cases hj : J e with
              | false => rfl
              | true => rcases hall e he (j1 e he hj) hI with h8 | h8 <;> contradiction
          intro e he hI
          cases hj : J e with
          | false => rfl
          | true =>
            rcases hall e he (j1 e he hj) hI with h8 | h8
            · rw [h8, j3] at hj; cases hj
            · rw [h8, hJ'] at hj; cases hj
        · obtain ⟨J, j1, j2⟩ := hC.2.2.1 _ (hpart w0 h1 h2)
          refine ⟨J, j1, j2, ?_⟩
          intro e he hI
          cases hj : J e with
          | false => rfl
          | true => exact absurd ⟨e, he, j1 e he hj, hI⟩ hon
      obtain ⟨J, j1, j2, j3⟩ := hJ
      refine ⟨fun e => Bool.xor (X e && w0 e) (J e), ?_, ?_, ?_, ?_, ?_⟩
      · intro e he h
        dsimp only at h ⊢
        cases hj : J e with
        | true => rw [j1 e he hj]; rfl
        | false =>
          rw [hj, Bool.xor_false] at h
          simp only [Bool.and_eq_true] at h
          rw [h.1]; simp
      · rw [yEv_iff]; intro u; rw [yDg_xor, j2 u]; simp
      · dsimp only; rw [j3 a ha hIa, hxa, h3]; rfl
      · dsimp only; rw [j3 b hb hIb, hxb, h4]; rfl
      · intro e he h hI
        dsimp only at h
        rw [j3 e he hI, Bool.xor_false] at h
        simp only [Bool.and_eq_true] at h
        exact h5 e he h.2 hI
theorem yCi_congr {m : Nat} {I : Nat → Nat → Bool} {z z' : Nat → Bool} (hC : yCi m I z) (h : ∀ e, e < m → z e = z' e) : yCi m I z' := by
  refine ⟨yEv_congr m I _ _ h hC.1, ?_, ?_, ?_⟩
  · intro w hw hev
    rcases hC.2.1 w (fun e he hh => by rw [h e he]; exact hw e he hh) hev with h1 | h1
    · exact Or.inl h1
    · exact Or.inr (fun e he => by rw [h1 e he, h e he])
  · intro w hw
    obtain ⟨J, j1, j2⟩ := hC.2.2.1 w (fun v hv => by
      obtain ⟨e, he, h1, h2⟩ := hw v hv
      exact ⟨e, he, by rw [h e he]; exact h1, h2⟩)
    exact ⟨J, fun e he hh => by rw [← h e he]; exact j1 e he hh, j2⟩
  · intro e v he hz hI
    obtain ⟨f, hf, h1, h2, h3, h4⟩ := hC.2.2.2 e v he (by rw [h e he]; exact hz) hI
    exact ⟨f, hf, h1, by rw [← h f hf]; exact h2, h3, fun d hd hz hI => h4 d hd (by rw [h d hd]; exact hz) hI⟩

theorem yDs_congr2 {L : Type} {m : Nat} {I : Nat → Nat → Bool} {X z : Nat → Bool} {s t : Nat → L}
    (hE : yDs m I X z s t) (X' z' : Nat → Bool) (h : ∀ e, e < m → X e = X' e) (hz : ∀ e, e < m → z e = z' e) : yDs m I X' z' s t := by
  constructor
  · intro c
    refine yEv_congr m I _ _ ?_ (hE.1 c)
    intro e he; rw [h e he, hz e he]
  · intro y hy hev
    obtain ⟨c, hc⟩ := hE.2 y (fun e he hh => by rw [h e he]; exact hy e he hh) hev
    exact ⟨c, fun e he hX => by rw [hc e he (by rw [h e he]; exact hX), hz e he]⟩

theorem yOn_congr {m : Nat} {I : Nat → Nat → Bool} {z z' : Nat → Bool} {v : Nat} (h : yOn m I z v) (hz : ∀ e, e < m → z e = z' e) : yOn m I z' v := by
  obtain ⟨e, he, h1, h2⟩ := h
  exact ⟨e, he, by rw [← hz e he]; exact h1, h2⟩

def yUsed (m : Nat) (H : Nat → Bool) (sH tH : Nat → Nat) (f : Nat) : Prop := ∃ e, e < m ∧ yZ H sH tH f e = true

def yXf (G H : Nat → Bool) (as : Nat → Nat) (f e : Nat) : Bool := G e && !H e && (as e == f)

-- the part H lies in the plane by faces sH, tH; the rest of G can be put into the faces told by as
def yDem (m : Nat) (I : Nat → Nat → Bool) (G H : Nat → Bool) (sH tH as : Nat → Nat) : Prop :=
  (∀ e, e < m → H e = true → G e = true) ∧
  yDs m I H (fun _ => false) sH tH ∧ (∀ e, e < m → H e = true → sH e ≠ tH e) ∧ yV2 m I H ∧
  (∀ f, yUsed m H sH tH f → yCi m I (yZ H sH tH f)) ∧
  (∀ f, yUsed m H sH tH f → ∃ (L : Type) (s t : Nat → L), yDs m I (fun e => yZ H sH tH f e || yXf G H as f e) (yZ H sH tH f) s t) ∧
  (∀ e, e < m → G e = true → H e = false → yUsed m H sH tH (as e)) ∧
  (∀ e v, e < m → G e = true → H e = false → I e v = true → yOn m I H v → yOn m I (yZ H sH tH (as e)) v) ∧
  (∀ e e' v, e < m → e' < m → G e = true → H e = false → G e' = true → H e' = false → I e v = true → I e' v = true →
     ¬ yOn m I H v → as e = as e') ∧
  yV2 m I G

theorem yXf_iff (G H : Nat → Bool) (as : Nat → Nat) (f e : Nat) : yXf G H as f e = true ↔ G e = true ∧ H e = false ∧ as e = f := by
  unfold yXf; simp; constructor
  · intro h; exact ⟨h.1.1, h.1.2, h.2⟩
  · intro h; exact ⟨⟨h.1, h.2.1⟩, h.2.2⟩

theorem yDem_v2 {m : Nat} {I : Nat → Nat → Bool} {G H : Nat → Bool} {sH tH as : Nat → Nat} (h : yDem m I G H sH tH as) (f : Nat)
    (hf : yUsed m H sH tH f) : yV2 m I (fun e => yZ H sH tH f e || yXf G H as f e) := by
  obtain ⟨h1, h2, h3, h4, h5, h6, h7, h8, h9, h10⟩ := h
  refine yV2_disc h10 (h5 f hf) (H := H) ?_ ?_ ?_ ?_ ?_
  · intro e he hz; exact ((yZ_iff _ _ _ _ _).1 hz).1
  · intro e he hz; exact h1 e he ((yZ_iff _ _ _ _ _).1 hz).1
  · intro e he hx; have := (yXf_iff _ _ _ _ _).1 hx; exact ⟨this.1, this.2.1⟩
  · intro e v he hx hI hv
    have h11 := (yXf_iff _ _ _ _ _).1 hx
    have := h8 e v he h11.1 h11.2.1 hI hv
    rw [h11.2.2] at this; exact this
  · intro e e' v he he' hx hg hI hI' hv
    have h11 := (yXf_iff _ _ _ _ _).1 hx
    have h12 : H e' = false := by
      cases hh : H e' with
      | false => rfl
      | true => exact absurd ⟨e', he', hh, hI'⟩ hv
    exact (yXf_iff _ _ _ _ _).2 ⟨hg, h12, by rw [← h9 e e' v he he' h11.1 h11.2.1 hg h12 hI hI' hv]; exact h11.2.2⟩

-- how the labels of the faces change when face f is split along P, of which side A keeps f
def ySs (f k : Nat) (P A : Nat → Bool) (sH : Nat → Nat) (e : Nat) : Nat := if P e then f else if sH e = f ∧ A e = false then k else sH e
def ySt (f k : Nat) (P A : Nat → Bool) (tH : Nat → Nat) (e : Nat) : Nat := if P e then k else if tH e = f ∧ A e = false then k else tH e

theorem yDem_step {m : Nat} {I : Nat → Nat → Bool} {G H : Nat → Bool} {sH tH as : Nat → Nat} (hD : yDem m I G H sH tH as)
    (f k : Nat) (hf : yUsed m H sH tH f) (hk : ∀ e, e < m → H e = true → sH e ≠ k ∧ tH e ≠ k)
    (P A : Nat → Bool) (hP : ∀ e, e < m → P e = true → G e = true ∧ H e = false ∧ as e = f)
    (hPne : ∃ e, e < m ∧ P e = true)
    (hA : ∀ e, e < m → A e = true → yZ H sH tH f e = true)
    (hC1 : yCi m I (fun e => A e || P e)) (hC2 : yCi m I (fun e => (yZ H sH tH f e && !A e) || P e))
    (hPH : ∀ e v, e < m → P e = true → I e v = true → yOn m I H v → yDg m I P v = true)
    (hPall : ∀ y : Nat → Bool, (∀ e, e < m → y e = true → (H e || P e) = true) → yEv m I y →
      (∀ e, e < m → P e = true → y e = false) ∨ (∀ e, e < m → P e = true → y e = true)) :
    ∃ as', yDem m I G (fun e => H e || P e) (ySs f k P A sH) (ySt f k P A tH) as' := by
  have hV2f := yDem_v2 hD f hf
  obtain ⟨h1, h2, h3, h4, h5, h6, h7, h8, h9, h10⟩ := hD
  have hPH0 : ∀ e, e < m → P e = true → H e = false := fun e he hp => (hP e he hp).2.1
  have hHP0 : ∀ e, e < m → H e = true → P e = false := fun e he hh => by
    cases hp : P e with
    | false => rfl
    | true => rw [hPH0 e he hp] at hh; cases hh
  have hfk : f ≠ k := by
    obtain ⟨e, he, hz⟩ := hf
    have hz' := (yZ_iff _ _ _ _ _).1 hz
    have := hk e he hz'.1
    rcases hz'.2 with h | h
    · rw [← h]; exact this.1
    · rw [← h]; exact this.2
  have hZP : ∀ e, e < m → yZ H sH tH f e = true → P e = false := fun e he hz => hHP0 e he ((yZ_iff _ _ _ _ _).1 hz).1
  have hAP : ∀ e, e < m → A e = true → P e = false := fun e he ha => hZP e he (hA e he ha)
  -- the new boundaries
  have zf : ∀ e, e < m → yZ (fun e => H e || P e) (ySs f k P A sH) (ySt f k P A tH) f e = (A e || P e) := by
    intro e he
    unfold yZ ySs ySt
    dsimp only
    cases hp : P e with
    | true => simp
    | false =>
      simp only [Bool.or_false, Bool.false_eq_true, if_false]
      cases hh : H e with
      | false =>
        cases ha : A e with
        | false => simp
        | true => have := ((yZ_iff _ _ _ _ _).1 (hA e he ha)).1; rw [hh] at this; cases this
      | true =>
        have hk' := hk e he hh
        cases ha : A e with
        | false =>
          by_cases a1 : sH e = f <;> by_cases a2 : tH e = f <;> simp [a1, a2, Ne.symm hfk]
        | true =>
          have := ((yZ_iff _ _ _ _ _).1 (hA e he ha)).2
          simp; exact this
  have zk : ∀ e, e < m → yZ (fun e => H e || P e) (ySs f k P A sH) (ySt f k P A tH) k e = ((yZ H sH tH f e && !A e) || P e) := by
    intro e he
    unfold yZ ySs ySt
    dsimp only
    cases hp : P e with
    | true => simp
    | false =>
      simp only [Bool.or_false, Bool.false_eq_true, if_false]
      cases hh : H e with
      | false => simp
      | true =>
        have hk' := hk e he hh
        cases ha : A e with
        | false =>
          rw [Bool.eq_iff_iff]
          by_cases a1 : sH e = f <;> by_cases a2 : tH e = f <;> simp [a1, a2, hk'.1, hk'.2]
        | true => simp [hk'.1, hk'.2]
  have zl : ∀ l, l ≠ f → l ≠ k → ∀ e, e < m → yZ (fun e => H e || P e) (ySs f k P A sH) (ySt f k P A tH) l e = yZ H sH tH l e := by
    intro l hlf hlk e he
    unfold yZ ySs ySt
    dsimp only
    cases hp : P e with
    | true => simp [hPH0 e he hp, Ne.symm hlf, Ne.symm hlk]
    | false =>
      simp only [Bool.or_false, Bool.false_eq_true, if_false]
      cases hh : H e with
      | false => simp
      | true =>
        rw [Bool.eq_iff_iff]
        by_cases a1 : sH e = f ∧ A e = false
        · by_cases a2 : tH e = f ∧ A e = false
          · simp [a1, a2, Ne.symm hlf, Ne.symm hlk]
          · rw [if_pos a1, if_neg a2]; simp [a1, Ne.symm hlf, Ne.symm hlk]
        · by_cases a2 : tH e = f ∧ A e = false
          · rw [if_neg a1, if_pos a2]; simp [a2, Ne.symm hlf, Ne.symm hlk]
          · rw [if_neg a1, if_neg a2]
  -- the colours
  obtain ⟨L, s, t, hDs⟩ := h6 f hf
  have hz1X : ∀ e, e < m → (A e || P e) = true → (yZ H sH tH f e || yXf G H as f e) = true := by
    intro e he h
    simp only [Bool.or_eq_true] at h
    rcases h with h | h
    · rw [hA e he h]; rfl
    · rw [(yXf_iff G H as f e).2 (hP e he h)]; simp
  obtain ⟨c, hc⟩ := hDs.2 (fun e => A e || P e) hz1X hC1.1
  have hcA : ∀ e, e < m → yZ H sH tH f e = true → c (t e) = A e := by
    intro e he hz
    have := hc e he (by dsimp only; rw [hz]; rfl)
    rw [hz, hZP e he hz] at this
    simpa using this.symm
  have hcX : ∀ e, e < m → yXf G H as f e = true → P e = Bool.xor (c (t e)) (c (s e)) := by
    intro e he hx
    have hx' := (yXf_iff G H as f e).1 hx
    have hz : yZ H sH tH f e = false := by simp [yZ, hx'.2.1]
    have ha : A e = false := by
      cases ha : A e with
      | false => rfl
      | true => rw [hA e he ha] at hz; cases hz
    have := hc e he (by dsimp only; rw [hx]; simp)
    rw [hz, ha] at this
    simpa using this
  have hcn : ∀ e, e < m → (yZ H sH tH f e || yXf G H as f e) = true →
      ((yZ H sH tH f e && !A e) || P e) = Bool.xor (!c (t e)) (!yZ H sH tH f e && !c (s e)) := by
    intro e he hx
    have := hc e he hx
    cases hz : yZ H sH tH f e with
    | true =>
      rw [hcA e he hz, hZP e he hz]
      cases A e <;> simp
    | false =>
      rw [hz] at hx this
      have := hcX e he hx
      rw [this]
      cases c (t e) <;> cases c (s e) <;> simp
  -- inside
  have hin1 := yDs_inside hDs (fun e => A e || P e) hC1 c hc
    (fun e => (A e || P e) || (yXf G H as f e && !P e && c (t e))) (by
      intro e he
      cases hz : yZ H sH tH f e with
      | true =>
        have hx : yXf G H as f e = false := by simp [yXf, ((yZ_iff _ _ _ _ _).1 hz).1]
        rw [hcA e he hz, hZP e he hz, hx]; simp
      | false =>
        have ha : A e = false := by
          cases ha : A e with
          | false => rfl
          | true => rw [hA e he ha] at hz; cases hz
        rw [ha]
        cases hx : yXf G H as f e with
        | false =>
          cases hp : P e with
          | false => simp
          | true => rw [(yXf_iff G H as f e).2 (hP e he hp)] at hx; cases hx
        | true =>
          rw [hcX e he hx]
          cases c (t e) <;> cases c (s e) <;> simp)
  have hin2 := yDs_inside hDs (fun e => (yZ H sH tH f e && !A e) || P e) hC2 (fun l => !c l) hcn
    (fun e => ((yZ H sH tH f e && !A e) || P e) || (yXf G H as f e && !P e && !c (t e))) (by
      intro e he
      cases hz : yZ H sH tH f e with
      | true =>
        have hx : yXf G H as f e = false := by simp [yXf, ((yZ_iff _ _ _ _ _).1 hz).1]
        rw [hcA e he hz, hZP e he hz, hx]; simp
      | false =>
        cases hx : yXf G H as f e with
        | false =>
          cases hp : P e with
          | false => simp
          | true => rw [(yXf_iff G H as f e).2 (hP e he hp)] at hx; cases hx
        | true =>
          rw [hcX e he hx]
          cases c (t e) <;> cases c (s e) <;> simp)
  -- the new places
  refine ⟨fun e => if as e = f then (if c (t e) then f else k) else as e, ?_, ?_, ?_, ?_, ?_, ?_, ?_, ?_, ?_, h10⟩
  · intro e he h
    dsimp only at h
    cases hp : P e with
    | true => exact (hP e he hp).1
    | false => rw [hp, Bool.or_false] at h; exact h1 e he h
  · -- labels of the new part
    constructor
    · intro d
      have e1 := hC2.1
      have e2 := h2.1 d
      have e3 : yEv m I (fun e => Bool.xor (d f) (d k) && ((yZ H sH tH f e && !A e) || P e)) := by
        rw [yEv_iff]; intro v; rw [yDg_and, (yEv_iff m I _).1 e1 v]; simp
      refine yEv_congr m I _ _ ?_ (yEv_xor m I _ _ e2 e3)
      intro e he
      dsimp only
      unfold ySs ySt
      cases hp : P e with
      | true =>
        rw [hPH0 e he hp]
        simp only [if_true]
        cases d f <;> cases d k <;> simp
      | false =>
        cases hh : H e with
        | false => simp [yZ, hh]
        | true =>
          simp only [Bool.false_eq_true, if_false, Bool.or_false]
          have hst := h3 e he hh
          cases ha : A e with
          | true => simp
          | false =>
            by_cases a1 : sH e = f
            · have a2 : tH e ≠ f := fun h => hst (a1.trans h.symm)
              simp only [yZ, hh, a1, a2]
              simp only [beq_self_eq_true, Bool.true_or, Bool.not_false, Bool.and_self, Bool.true_and, and_self, false_and, if_true, if_false]
              cases d f <;> cases d k <;> cases d (tH e) <;> rfl
            · by_cases a2 : tH e = f
              · simp only [yZ, hh, a1, a2]
                simp only [beq_self_eq_true, Bool.or_true, Bool.not_false, Bool.and_self, Bool.true_and, and_self, false_and, if_true, if_false]
                cases d f <;> cases d k <;> cases d (sH e) <;> rfl
              · have hzz : yZ H sH tH f e = false := by simp [yZ, a1, a2]
                rw [hzz]; simp [a1, a2]
    · intro y hy hev
      rcases hPall y hy hev with hn | ha
      · obtain ⟨d, hd⟩ := h2.2 y (fun e he hh => by
          have := hy e he hh
          simp only [Bool.or_eq_true] at this
          rcases this with h | h
          · exact h
          · rw [hn e he h] at hh; cases hh) hev
        refine ⟨fun l => if l = k then d f else d l, ?_⟩
        intro e he hX
        unfold ySs ySt
        cases hp : P e with
        | true => rw [hn e he hp]; simp
        | false =>
          have hh : H e = true := by dsimp only at hX; rw [hp, Bool.or_false] at hX; exact hX
          have hk' := hk e he hh
          rw [hd e he hh]
          have b1 : (fun l => if l = k then d f else d l) (if tH e = f ∧ A e = false then k else tH e) = d (tH e) := by
            by_cases a1 : tH e = f ∧ A e = false
            · rw [if_pos a1]; simp [a1.1]
            · rw [if_neg a1]; dsimp only; rw [if_neg hk'.2]
          have b2 : (fun l => if l = k then d f else d l) (if sH e = f ∧ A e = false then k else sH e) = d (sH e) := by
            by_cases a1 : sH e = f ∧ A e = false
            · rw [if_pos a1]; simp [a1.1]
            · rw [if_neg a1]; dsimp only; rw [if_neg hk'.1]
          simp only [Bool.false_eq_true, if_false]
          try dsimp only at b1 b2
          rw [b1, b2]
      · have hev2 : yEv m I (fun e => Bool.xor (y e) (A e || P e)) := yEv_xor m I _ _ hev hC1.1
        obtain ⟨d, hd⟩ := h2.2 _ (fun e he hh => by
          cases hp : P e with
          | true => rw [ha e he hp, hp] at hh; simp at hh
          | false =>
            rw [hp, Bool.or_false] at hh
            cases hA' : A e with
            | true => exact ((yZ_iff _ _ _ _ _).1 (hA e he hA')).1
            | false =>
              rw [hA', Bool.xor_false] at hh
              have := hy e he hh
              dsimp only at this
              rw [hp, Bool.or_false] at this; exact this) hev2
        refine ⟨fun l => if l = k then d f else if l = f then !d f else d l, ?_⟩
        intro e he hX
        unfold ySs ySt
        cases hp : P e with
        | true => rw [ha e he hp]; simp [hfk]
        | false =>
          have hh : H e = true := by dsimp only at hX; rw [hp, Bool.or_false] at hX; exact hX
          have hk' := hk e he hh
          have hst := h3 e he hh
          have h11 := hd e he hh
          rw [hp, Bool.or_false] at h11
          have h12 : y e = Bool.xor (A e) (Bool.xor (d (tH e)) (!false && d (sH e))) := by
            rw [← h11]; cases y e <;> cases A e <;> rfl
          rw [h12]
          simp only [Bool.false_eq_true, if_false]
          cases hA' : A e with
          | true =>
            have hz := ((yZ_iff _ _ _ _ _).1 (hA e he hA')).2
            simp only [Bool.true_eq_false, and_false, if_false]
            rw [if_neg hk'.1, if_neg hk'.2]
            rcases hz with hz | hz
            · have : tH e ≠ f := fun h => hst (hz.trans h.symm)
              rw [if_pos hz, if_neg this, hz]
              cases d f <;> cases d (tH e) <;> rfl
            · have : sH e ≠ f := fun h => hst (h.trans hz.symm)
              rw [if_pos hz, if_neg this, hz]
              cases d f <;> cases d (sH e) <;> rfl
          | false =>
            have b1 : (fun l => if l = k then d f else if l = f then !d f else d l) (if tH e = f ∧ false = false then k else tH e) = d (tH e) := by
              by_cases a1 : tH e = f
              · rw [if_pos ⟨a1, rfl⟩]; simp [a1]
              · rw [if_neg (fun h => a1 h.1)]; dsimp only; rw [if_neg hk'.2, if_neg a1]
            have b2 : (fun l => if l = k then d f else if l = f then !d f else d l) (if sH e = f ∧ false = false then k else sH e) = d (sH e) := by
              by_cases a1 : sH e = f
              · rw [if_pos ⟨a1, rfl⟩]; simp [a1]
              · rw [if_neg (fun h => a1 h.1)]; dsimp only; rw [if_neg hk'.1, if_neg a1]
            try dsimp only at b1 b2
            rw [b1, b2]; simp
  · -- two different faces
    intro e he hX
    unfold ySs ySt
    cases hp : P e with
    | true => simp [hfk]
    | false =>
      have hh : H e = true := by dsimp only at hX; rw [hp, Bool.or_false] at hX; exact hX
      have hk' := hk e he hh
      have hst := h3 e he hh
      simp only [Bool.false_eq_true, if_false]
      by_cases a1 : sH e = f ∧ A e = false
      · have : ¬ (tH e = f ∧ A e = false) := fun h => hst (a1.1.trans h.1.symm)
        rw [if_pos a1, if_neg this]; exact Ne.symm hk'.2
      · by_cases a2 : tH e = f ∧ A e = false
        · rw [if_neg a1, if_pos a2]; exact hk'.1
        · rw [if_neg a1, if_neg a2]; exact hst
  · -- two edges at a node
    have hmix : ∀ v a b, a < m → b < m → H a = true → P b = true → I a v = true → I b v = true →
        ∃ w : Nat → Bool, (∀ e, e < m → w e = true → (H e || P e) = true) ∧ yEv m I w ∧ w a = true ∧ w b = true ∧
        ∀ e, e < m → w e = true → I e v = true → e = a ∨ e = b := by
      intro v a b ha hb hHa hPb hIa hIb
      obtain ⟨b', hb', hbb, hzb', hIb', hall⟩ := hC1.2.2.2 b v hb (by dsimp only; rw [hPb]; simp) hIb
      have hPb' : P b' = false := by
        have h11 := hPH b v hb hPb hIb ⟨a, ha, hHa, hIa⟩
        rw [yDg_two m I P v b b' hb hb' (Ne.symm hbb) hIb hIb'] at h11
        · rw [hPb] at h11
          revert h11; cases P b' <;> simp
        · intro e he hI h12 h13
          cases hp : P e with
          | false => rfl
          | true => rcases hall e he (by dsimp only; rw [hp]; simp) hI with h14 | h14 <;> contradiction
      have hAb' : A b' = true := by dsimp only at hzb'; rw [hPb', Bool.or_false] at hzb'; exact hzb'
      have hz1H : ∀ e, e < m → (A e || P e) = true → (H e || P e) = true := by
        intro e he h
        cases hp : P e with
        | true => simp
        | false => rw [hp, Bool.or_false] at h; rw [((yZ_iff _ _ _ _ _).1 (hA e he h)).1]; rfl
      by_cases hab : a = b'
      · refine ⟨fun e => A e || P e, hz1H, hC1.1, ?_, ?_, ?_⟩
        · dsimp only; rw [hab, hAb']; rfl
        · dsimp only; rw [hPb]; simp
        · intro e he hw hI
          rcases hall e he hw hI with h | h
          · exact Or.inr h
          · exact Or.inl (h.trans hab.symm)
      · obtain ⟨w0, w1, w2, w3, w4, w5⟩ := h4 v a b' ha hb' hab hHa ((yZ_iff _ _ _ _ _).1 (hA b' hb' hAb')).1 hIa hIb'
        have hw0P : ∀ e, e < m → P e = true → w0 e = false := by
          intro e he hp
          cases hw : w0 e with
          | false => rfl
          | true => have := w1 e he hw; rw [hPH0 e he hp] at this; cases this
        refine ⟨fun e => Bool.xor (w0 e) (A e || P e), ?_, yEv_xor m I _ _ w2 hC1.1, ?_, ?_, ?_⟩
        · intro e he h
          dsimp only at h
          cases hw : w0 e with
          | true => rw [w1 e he hw]; rfl
          | false => rw [hw, Bool.false_xor] at h; exact hz1H e he h
        · dsimp only
          have hA0 : A a = false := by
            cases hA' : A a with
            | false => rfl
            | true =>
              rcases hall a ha (by dsimp only; rw [hA']; rfl) hIa with h | h
              · rw [h] at hHa; rw [hPH0 b hb hPb] at hHa; cases hHa
              · exact absurd h hab
          rw [w3, hA0, hHP0 a ha hHa]; rfl
        · dsimp only
          rw [hw0P b hb hPb, hPb]; simp
        · intro e he h hI
          dsimp only at h
          by_cases heb' : e = b'
          · rw [heb', w4, hAb'] at h; simp at h
          · cases hw : w0 e with
            | true =>
              rcases w5 e he hw hI with h' | h'
              · exact Or.inl h'
              · exact absurd h' heb'
            | false =>
              rw [hw, Bool.false_xor] at h
              rcases hall e he h hI with h' | h'
              · exact Or.inr h'
              · exact absurd h' heb'
    intro v a b ha hb hab hXa hXb hIa hIb
    dsimp only at hXa hXb
    cases hpa : P a with
    | true =>
      cases hpb : P b with
      | true =>
        refine ⟨fun e => A e || P e, ?_, hC1.1, ?_, ?_, ?_⟩
        · intro e he h
          dsimp only at h ⊢
          cases hp : P e with
          | true => simp
          | false => rw [hp, Bool.or_false] at h; rw [((yZ_iff _ _ _ _ _).1 (hA e he h)).1]; rfl
        · dsimp only; rw [hpa]; simp
        · dsimp only; rw [hpb]; simp
        · intro e he hw hI
          obtain ⟨d, hd, hda, hzd, hId, hall⟩ := hC1.2.2.2 a v ha (by dsimp only; rw [hpa]; simp) hIa
          have hbd : b = d := by
            rcases hall b hb (by dsimp only; rw [hpb]; simp) hIb with h | h
            · exact absurd h.symm hab
            · exact h
          rw [hbd]; exact hall e he hw hI
      | false =>
        rw [hpb, Bool.or_false] at hXb
        obtain ⟨w, w1, w2, w3, w4, w5⟩ := hmix v b a hb ha hXb hpa hIb hIa
        exact ⟨w, w1, w2, w4, w3, fun e he hw hI => (w5 e he hw hI).symm⟩
    | false =>
      rw [hpa, Bool.or_false] at hXa
      cases hpb : P b with
      | true => exact hmix v a b ha hb hXa hpb hIa hIb
      | false =>
        rw [hpb, Bool.or_false] at hXb
        obtain ⟨w, w1, w2, w3, w4, w5⟩ := h4 v a b ha hb hab hXa hXb hIa hIb
        exact ⟨w, fun e he hw => by dsimp only; rw [w1 e he hw]; rfl, w2, w3, w4, w5⟩
  · -- circuits
    intro l hl
    by_cases hlf : l = f
    · rw [hlf]; exact yCi_congr hC1 (fun e he => (zf e he).symm)
    · by_cases hlk : l = k
      · rw [hlk]; exact yCi_congr hC2 (fun e he => (zk e he).symm)
      · refine yCi_congr (h5 l ?_) (fun e he => (zl l hlf hlk e he).symm)
        obtain ⟨e, he, hz⟩ := hl
        exact ⟨e, he, by rw [← zl l hlf hlk e he]; exact hz⟩
  · -- places in faces
    intro l hl
    by_cases hlf : l = f
    · subst hlf
      refine ⟨L, s, _, yDs_congr2 hin1 _ _ ?_ ?_⟩
      · intro e he
        rw [zf e he]
        cases hz : (A e || P e) with
        | true => simp
        | false =>
          simp only [Bool.false_or]
          have hp : P e = false := by revert hz; cases A e <;> cases P e <;> simp
          unfold yXf
          dsimp only
          rw [hp]
          rw [Bool.eq_iff_iff]
          by_cases h11 : as e = l
          · cases hct : c (t e) <;> simp [h11, Ne.symm hfk]
          · simp [h11]
      · intro e he; exact (zf e he).symm
    · by_cases hlk : l = k
      · subst hlk
        refine ⟨L, s, _, yDs_congr2 hin2 _ _ ?_ ?_⟩
        · intro e he
          rw [zk e he]
          cases hz : ((yZ H sH tH f e && !A e) || P e) with
          | true => simp
          | false =>
            simp only [Bool.false_or]
            have hp : P e = false := by revert hz; cases P e <;> simp
            unfold yXf
            dsimp only
            rw [hp]
            rw [Bool.eq_iff_iff]
            cases hg : G e with
            | false => simp
            | true =>
              cases hh : H e with
              | true => simp
              | false =>
                by_cases h11 : as e = f
                · cases hct : c (t e) <;> simp [h11, hfk]
                · have h12 : as e ≠ l := by
                    intro h13
                    obtain ⟨d, hd, hzd⟩ := h7 e he hg hh
                    rw [h13] at hzd
                    have h14 := (yZ_iff _ _ _ _ _).1 hzd
                    have h15 := hk d hd h14.1
                    rcases h14.2 with h16 | h16
                    · exact h15.1 h16
                    · exact h15.2 h16
                  simp [h11, h12]
        · intro e he; exact (zk e he).symm
      · obtain ⟨L', s', t', hDs'⟩ := h6 l (by
          obtain ⟨e, he, hz⟩ := hl
          exact ⟨e, he, by rw [← zl l hlf hlk e he]; exact hz⟩)
        refine ⟨L', s', t', yDs_congr2 hDs' _ _ ?_ ?_⟩
        · intro e he
          rw [zl l hlf hlk e he]
          congr 1
          unfold yXf
          dsimp only
          rw [Bool.eq_iff_iff]
          cases hp : P e with
          | true =>
            have h11 := hP e he hp
            have : as e ≠ l := fun h => hlf (h.symm.trans h11.2.2)
            simp [this]
          | false =>
            by_cases h11 : as e = f
            · have : as e ≠ l := fun h => hlf (h.symm.trans h11)
              cases hct : c (t e) <;> simp [h11, Ne.symm hlf, Ne.symm hlk]
            · simp [h11]
        · intro e he; exact (zl l hlf hlk e he).symm
  · -- the faces told are faces
    intro e he hg hX
    dsimp only at hX ⊢
    have hh : H e = false := by revert hX; cases H e <;> simp
    by_cases h11 : as e = f
    · rw [if_pos h11]
      obtain ⟨e0, he0, hp0⟩ := hPne
      cases hct : c (t e) with
      | true => exact ⟨e0, he0, by simp only [if_true]; rw [zf e0 he0, hp0]; simp⟩
      | false => exact ⟨e0, he0, by simp only [Bool.false_eq_true, if_false]; rw [zk e0 he0, hp0]; simp⟩
    · rw [if_neg h11]
      obtain ⟨d, hd, hzd⟩ := h7 e he hg hh
      have hlk : as e ≠ k := by
        intro h13
        rw [h13] at hzd
        have h14 := (yZ_iff _ _ _ _ _).1 hzd
        have h15 := hk d hd h14.1
        rcases h14.2 with h16 | h16
        · exact h15.1 h16
        · exact h15.2 h16
      exact ⟨d, hd, by rw [zl _ h11 hlk d hd]; exact hzd⟩
  · -- attached to the face told
    intro e v he hg hX hI hv
    dsimp only at hX ⊢
    have hh : H e = false := by revert hX; cases H e <;> simp
    have hp : P e = false := by revert hX; cases P e <;> simp
    by_cases h11 : as e = f
    · rw [if_pos h11]
      have hxf : yXf G H as f e = true := (yXf_iff G H as f e).2 ⟨hg, hh, h11⟩
      by_cases hPv : yOn m I P v
      · obtain ⟨d, hd, hpd, hId⟩ := hPv
        cases hct : c (t e) with
        | true => exact ⟨d, hd, by simp only [if_true]; rw [zf d hd, hpd]; simp, hId⟩
        | false => exact ⟨d, hd, by simp only [Bool.false_eq_true, if_false]; rw [zk d hd, hpd]; simp, hId⟩
      · have hHv : yOn m I H v := by
          obtain ⟨d, hd, hzd, hId⟩ := hv
          dsimp only at hzd
          cases hpd : P d with
          | true => exact absurd ⟨d, hd, hpd, hId⟩ hPv
          | false => rw [hpd, Bool.or_false] at hzd; exact ⟨d, hd, hzd, hId⟩
        obtain ⟨a, ha, hza, hIa⟩ := h8 e v he hg hh hI hHv
        rw [h11] at hza
        cases hct : c (t e) with
        | true =>
          simp only [if_true]
          by_cases hon : yOn m I (fun e => A e || P e) v
          · exact yOn_congr hon (fun e he => (zf e he).symm)
          · exfalso
            have hAa : A a = false := by
              cases hA' : A a with
              | false => rfl
              | true => exact absurd ⟨a, ha, by dsimp only; rw [hA']; rfl, hIa⟩ hon
            have h12 := yDs_color2 hDs c v (fun d hd hxd hId => by
              rw [← hc d hd hxd]
              cases hzd : (A d || P d) with
              | false => rfl
              | true => exact absurd ⟨d, hd, hzd, hId⟩ hon) hV2f a e ha he (by rw [hza]; rfl) (by rw [hxf]; simp) hIa hI
            rw [hcA a ha hza, hAa, hct] at h12; cases h12
        | false =>
          simp only [Bool.false_eq_true, if_false]
          by_cases hon : yOn m I (fun e => (yZ H sH tH f e && !A e) || P e) v
          · exact yOn_congr hon (fun e he => (zk e he).symm)
          · exfalso
            have hAa : A a = true := by
              cases hA' : A a with
              | true => rfl
              | false => exact absurd ⟨a, ha, by dsimp only; rw [hA', hza]; rfl, hIa⟩ hon
            have h12 := yDs_color2 hDs (fun l => !c l) v (fun d hd hxd hId => by
              rw [← hcn d hd hxd]
              cases hzd : ((yZ H sH tH f d && !A d) || P d) with
              | false => rfl
              | true => exact absurd ⟨d, hd, hzd, hId⟩ hon) hV2f a e ha he (by rw [hza]; rfl) (by rw [hxf]; simp) hIa hI
            rw [hcA a ha hza, hAa, hct] at h12; cases h12
    · rw [if_neg h11]
      have hHv : yOn m I H v := by
        by_cases hHv : yOn m I H v
        · exact hHv
        · exfalso
          obtain ⟨d, hd, hzd, hId⟩ := hv
          dsimp only at hzd
          cases hpd : P d with
          | true =>
            have h12 := hP d hd hpd
            exact h11 ((h9 e d v he hd hg hh h12.1 h12.2.1 hI hId hHv).trans h12.2.2)
          | false => rw [hpd, Bool.or_false] at hzd; exact hHv ⟨d, hd, hzd, hId⟩
      have h12 := h8 e v he hg hh hI hHv
      have hlk : as e ≠ k := by
        intro h13
        obtain ⟨d, hd, hzd⟩ := h7 e he hg hh
        rw [h13] at hzd
        have h14 := (yZ_iff _ _ _ _ _).1 hzd
        have h15 := hk d hd h14.1
        rcases h14.2 with h16 | h16
        · exact h15.1 h16
        · exact h15.2 h16
      exact yOn_congr h12 (fun e he => (zl _ h11 hlk e he).symm)
  · -- at a node off the part
    intro e e' v he he' hg hX hg' hX' hI hI' hv
    dsimp only at hX hX' ⊢
    have hh : H e = false := by revert hX; cases H e <;> simp
    have hh' : H e' = false := by revert hX'; cases H e' <;> simp
    have hHv : ¬ yOn m I H v := by
      rintro ⟨d, hd, hzd, hId⟩
      exact hv ⟨d, hd, by dsimp only; rw [hzd]; rfl, hId⟩
    have h11 := h9 e e' v he he' hg hh hg' hh' hI hI' hHv
    rw [h11]
    by_cases h12 : as e' = f
    · rw [if_pos h12, if_pos h12]
      have hon : ¬ yOn m I (fun e => A e || P e) v := by
        rintro ⟨d, hd, hzd, hId⟩
        dsimp only at hzd
        cases hpd : P d with
        | true => exact hv ⟨d, hd, by dsimp only; rw [hpd]; simp, hId⟩
        | false => rw [hpd, Bool.or_false] at hzd; exact hHv ⟨d, hd, ((yZ_iff _ _ _ _ _).1 (hA d hd hzd)).1, hId⟩
      have h13 := yDs_color2 hDs c v (fun d hd hxd hId => by
          rw [← hc d hd hxd]
          cases hzd : (A d || P d) with
          | false => rfl
          | true => exact absurd ⟨d, hd, hzd, hId⟩ hon) hV2f e e' he he'
          (by rw [(yXf_iff G H as f e).2 ⟨hg, hh, h11.trans h12⟩]; simp) (by rw [(yXf_iff G H as f e').2 ⟨hg', hh', h12⟩]; simp) hI hI'
      rw [h13]
    · rw [if_neg h12, if_neg h12]
theorem yDem_init {L : Type} {m : Nat} {I : Nat → Nat → Bool} {G C : Nat → Bool} {s t : Nat → L}
    (hE : yDs m I G (fun _ => false) s t) (hV : yV2 m I G) (hC : yCi m I C) (hCG : ∀ e, e < m → C e = true → G e = true)
    (hne : ∃ e, e < m ∧ C e = true) : ∃ as, yDem m I G C (fun _ => 0) (fun _ => 1) as := by
  have z0 : ∀ e, yZ C (fun _ => 0) (fun _ => 1) 0 e = C e := by intro e; simp [yZ]
  have z1 : ∀ e, yZ C (fun _ => 0) (fun _ => 1) 1 e = C e := by intro e; simp [yZ]
  have zl : ∀ l, l ≠ 0 → l ≠ 1 → ∀ e, yZ C (fun _ => 0) (fun _ => 1) l e = false := by
    intro l h0 h1 e
    simp [yZ, Ne.symm h0, Ne.symm h1]
  have hu : ∀ l, yUsed m C (fun _ => 0) (fun _ => 1) l → l = 0 ∨ l = 1 := by
    rintro l ⟨e, he, hz⟩
    by_cases h0 : l = 0
    · exact Or.inl h0
    · by_cases h1 : l = 1
      · exact Or.inr h1
      · rw [zl l h0 h1 e] at hz; cases hz
  obtain ⟨c, hc⟩ := hE.2 C hCG hC.1
  have hc0 : ∀ e, e < m → G e = true → C e = false → c (t e) = c (s e) := by
    intro e he hg hce
    have := hc e he hg
    rw [hce] at this
    revert this; cases c (t e) <;> cases c (s e) <;> simp
  have hin1 := yDs_inside hE C hC c hc (fun e => C e || (G e && !C e && c (t e))) (by
    intro e he
    cases hg : G e with
    | false =>
      cases hce : C e with
      | false => simp
      | true => rw [hCG e he hce] at hg; cases hg
    | true =>
      have := hc e he hg
      rw [this]
      cases c (t e) <;> cases c (s e) <;> simp)
  have hin2 := yDs_inside hE C hC (fun l => !c l) (by
      intro e he hg
      rw [hc e he hg]
      cases c (t e) <;> cases c (s e) <;> simp) (fun e => C e || (G e && !C e && !c (t e))) (by
    intro e he
    cases hg : G e with
    | false =>
      cases hce : C e with
      | false => simp
      | true => rw [hCG e he hce] at hg; cases hg
    | true =>
      have := hc e he hg
      rw [this]
      cases c (t e) <;> cases c (s e) <;> simp)
  refine ⟨fun e => if c (t e) then 0 else 1, hCG, ?_, ?_, ?_, ?_, ?_, ?_, ?_, ?_, hV⟩
  · constructor
    · intro d
      have : yEv m I (fun e => Bool.xor (d 1) (d 0) && C e) := by
        rw [yEv_iff]; intro v; rw [yDg_and, (yEv_iff m I _).1 hC.1 v]; simp
      refine yEv_congr m I _ _ ?_ this
      intro e _
      cases C e <;> simp
    · intro y hy hev
      rcases hC.2.1 y hy hev with h | h
      · refine ⟨fun _ => false, ?_⟩
        intro e he _; rw [h e he]; rfl
      · refine ⟨fun l => l == 0, ?_⟩
        intro e he hce; rw [h e he, hce]; rfl
  · intro e _ _; simp
  · intro v a b ha hb hab hXa hXb hIa hIb
    refine ⟨C, fun e _ h => h, hC.1, hXa, hXb, ?_⟩
    obtain ⟨d, hd, hda, hzd, hId, hall⟩ := hC.2.2.2 a v ha hXa hIa
    have hbd : b = d := by
      rcases hall b hb hXb hIb with h | h
      · exact absurd h.symm hab
      · exact h
    intro e he hz hI
    rw [hbd]
    exact hall e he hz hI
  · intro l hl
    rcases hu l hl with h | h
    · rw [h]; exact yCi_congr hC (fun e _ => (z0 e).symm)
    · rw [h]; exact yCi_congr hC (fun e _ => (z1 e).symm)
  · intro l hl
    rcases hu l hl with h | h
    · subst h
      refine ⟨L, s, _, yDs_congr2 hin1 _ _ ?_ (fun e _ => (z0 e).symm)⟩
      intro e he
      rw [z0 e]
      unfold yXf
      dsimp only
      cases c (t e) <;> simp
    · subst h
      refine ⟨L, s, _, yDs_congr2 hin2 _ _ ?_ (fun e _ => (z1 e).symm)⟩
      intro e he
      rw [z1 e]
      unfold yXf
      dsimp only
      cases c (t e) <;> simp
  · intro e he _ _
    obtain ⟨d, hd, hcd⟩ := hne
    dsimp only
    cases c (t e) with
    | true => exact ⟨d, hd, by simp only [if_true]; rw [z0 d]; exact hcd⟩
    | false => exact ⟨d, hd, by simp only [Bool.false_eq_true, if_false]; rw [z1 d]; exact hcd⟩
  · intro e v he _ _ hI hv
    dsimp only
    cases c (t e) with
    | true => exact yOn_congr hv (fun e _ => (z0 e).symm)
    | false => exact yOn_congr hv (fun e _ => (z1 e).symm)
  · intro e e' v he he' hg hce hg' hce' hI hI' hv
    have := yDs_color2 hE c v (fun d hd hg hId => by
      rw [← hc d hd hg]
      cases hcd : C d with
      | false => rfl
      | true => exact absurd ⟨d, hd, hcd, hId⟩ hv) hV e e' he he' hg hg' hI hI'
    dsimp only
    rw [this]

theorem yDem_flip {m n : Nat} {I : Nat → Nat → Bool} {G H : Nat → Bool} {sH tH as : Nat → Nat} (hD : yDem m I G H sH tH as)
    (pc : Nat → Nat) (hpn : ∀ e, e < m → G e = true → H e = false → pc e < n)
    (hpc : ∀ e e' v, e < m → e' < m → G e = true → H e = false → G e' = true → H e' = false → I e v = true → I e' v = true → ¬ yOn m I H v → pc e = pc e')
    (has : ∀ e e', e < m → e' < m → G e = true → H e = false → G e' = true → H e' = false → pc e = pc e' → as e = as e')
    (hadm : ∀ e, e < m → G e = true → H e = false → ∃ f1 f2, f1 ≠ f2 ∧ yUsed m H sH tH f1 ∧ yUsed m H sH tH f2 ∧
      ∀ e' v, e' < m → G e' = true → H e' = false → pc e' = pc e → I e' v = true → yOn m I H v →
        yOn m I (yZ H sH tH f1) v ∧ yOn m I (yZ H sH tH f2) v)
    (e0 : Nat) (he0 : e0 < m) (hg0 : G e0 = true) (hh0 : H e0 = false) (f : Nat) (hf : yUsed m H sH tH f)
    (hadm0 : ∀ e' v, e' < m → G e' = true → H e' = false → pc e' = pc e0 → I e' v = true → yOn m I H v → yOn m I (yZ H sH tH f) v)
    (hw0 : ∃ w v0, yDg m I w v0 = true ∧ ∀ v, yDg m I w v = true → yOn m I H v ∧ ∃ e', e' < m ∧ G e' = true ∧ H e' = false ∧ pc e' = pc e0 ∧ I e' v = true) :
    ∃ as', yDem m I G H sH tH as' ∧
      (∀ e e', e < m → e' < m → G e = true → H e = false → G e' = true → H e' = false → pc e = pc e' → as' e = as' e') ∧ as' e0 = f := by
  by_cases hsame : as e0 = f
  · exact ⟨as, hD, has, hsame⟩
  have hD' := hD
  obtain ⟨h1, h2, h3, h4, h5, h6, h7, h8, h9, h10⟩ := hD
  obtain ⟨f0, hf0⟩ : ∃ f0, as e0 = f0 := ⟨_, rfl⟩
  rw [hf0] at hsame
  have huf0 : yUsed m H sH tH f0 := by rw [← hf0]; exact h7 e0 he0 hg0 hh0
  -- pieces that both faces take
  obtain ⟨S, hS⟩ : ∃ S : Nat → Bool, ∀ p, S p = yD (∀ e' v, e' < m → G e' = true → H e' = false → pc e' = p → I e' v = true → yOn m I H v →
      yOn m I (yZ H sH tH f) v ∧ yOn m I (yZ H sH tH f0) v) := ⟨_, fun _ => rfl⟩
  have hS1 : ∀ e v, e < m → G e = true → H e = false → S (pc e) = true → I e v = true → yOn m I H v →
      yOn m I (yZ H sH tH f) v ∧ yOn m I (yZ H sH tH f0) v := by
    intro e v he hg hh hs hI hv
    rw [hS] at hs
    exact (yD_iff _).1 hs e v he hg hh rfl hI hv
  have hS0 : ∀ e, S (pc e) = false → ∃ e' v, e' < m ∧ G e' = true ∧ H e' = false ∧ pc e' = pc e ∧ I e' v = true ∧ yOn m I H v ∧
      ¬ (yOn m I (yZ H sH tH f) v ∧ yOn m I (yZ H sH tH f0) v) := by
    intro e hs
    rw [hS] at hs
    have hs' := (yD_iff0 _).1 hs
    by_cases hc : ∃ e' v, e' < m ∧ G e' = true ∧ H e' = false ∧ pc e' = pc e ∧ I e' v = true ∧ yOn m I H v ∧
      ¬ (yOn m I (yZ H sH tH f) v ∧ yOn m I (yZ H sH tH f0) v)
    · exact hc
    · exfalso
      apply hs'
      intro e' v a1 a2 a3 a4 a5 a6
      by_cases hx : yOn m I (yZ H sH tH f) v ∧ yOn m I (yZ H sH tH f0) v
      · exact hx
      · exact absurd ⟨e', v, a1, a2, a3, a4, a5, a6, hx⟩ hc
  have hse0 : S (pc e0) = true := by
    rw [hS]
    apply yD_pos
    intro e' v a1 a2 a3 a4 a5 a6
    refine ⟨hadm0 e' v a1 a2 a3 a4 a5 a6, ?_⟩
    have := h8 e' v a1 a2 a3 a5 a6
    rw [has e' e0 a1 he0 a2 a3 hg0 hh0 a4, hf0] at this
    exact this
  -- another face of the others
  have hh : ∀ p, ∃ l, ∀ e, e < m → G e = true → H e = false → (as e = f ∨ as e = f0) → pc e = p → S p = false →
      l ≠ f ∧ l ≠ f0 ∧ yUsed m H sH tH l ∧ ∀ e' v, e' < m → G e' = true → H e' = false → pc e' = p → I e' v = true → yOn m I H v → yOn m I (yZ H sH tH l) v := by
    intro p
    by_cases hc : ∃ e, e < m ∧ G e = true ∧ H e = false ∧ (as e = f ∨ as e = f0) ∧ pc e = p ∧ S p = false
    · obtain ⟨e, he, hg, hh, ha, hp, hs⟩ := hc
      obtain ⟨f1, f2, hf12, hu1, hu2, hall⟩ := hadm e he hg hh
      rw [hp] at hall
      -- l that is not the face the piece lies in
      have hpick : ∃ l, l ≠ as e ∧ yUsed m H sH tH l ∧ ∀ e' v, e' < m → G e' = true → H e' = false → pc e' = p → I e' v = true → yOn m I H v → yOn m I (yZ H sH tH l) v := by
        by_cases h11 : f1 = as e
        · exact ⟨f2, fun h => hf12 (h11.trans h.symm), hu2, fun e' v a1 a2 a3 a4 a5 a6 => (hall e' v a1 a2 a3 a4 a5 a6).2⟩
        · exact ⟨f1, h11, hu1, fun e' v a1 a2 a3 a4 a5 a6 => (hall e' v a1 a2 a3 a4 a5 a6).1⟩
      obtain ⟨l, hl1, hl2, hl3⟩ := hpick
      have hother : ∀ e' v, e' < m → G e' = true → H e' = false → pc e' = p → I e' v = true → yOn m I H v → yOn m I (yZ H sH tH (as e)) v := by
        intro e' v a1 a2 a3 a4 a5 a6
        have := h8 e' v a1 a2 a3 a5 a6
        rw [has e' e a1 he a2 a3 hg hh (a4.trans hp.symm)] at this
        exact this
      have hno : ∀ l', (l' = f ∨ l' = f0) → l' ≠ as e → l ≠ l' := by
        intro l' hl' hne hll
        obtain ⟨e', v, b1, b2, b3, b4, b5, b6, b7⟩ := hS0 e (by rw [hp]; exact hs)
        apply b7
        have c1 := hother e' v b1 b2 b3 (b4.trans hp) b5 b6
        have c2 := hl3 e' v b1 b2 b3 (b4.trans hp) b5 b6
        rw [hll] at c2
        rcases ha with ha | ha
        · rw [ha] at c1 hne
          rcases hl' with hl' | hl'
          · exact absurd hl' hne
          · rw [hl'] at c2; exact ⟨c1, c2⟩
        · rw [ha] at c1 hne
          rcases hl' with hl' | hl'
          · rw [hl'] at c2; exact ⟨c2, c1⟩
          · exact absurd hl' hne
      refine ⟨l, fun _ _ _ _ _ _ _ => ⟨?_, ?_, hl2, hl3⟩⟩
      · by_cases h12 : f = as e
        · rw [h12]; exact hl1
        · exact hno f (Or.inl rfl) h12
      · by_cases h12 : f0 = as e
        · rw [h12]; exact hl1
        · exact hno f0 (Or.inr rfl) h12
    · exact ⟨0, fun e a1 a2 a3 a4 a5 a6 => absurd ⟨e, a1, a2, a3, a4, a5, a6⟩ hc⟩
  obtain ⟨h, hh⟩ := yChoice hh
  have hw1 : ∃ w v0, yDg m I w v0 = true ∧ ∀ v, yDg m I w v = true → yOn m I (yZ H sH tH f) v ∧ yOn m I (yZ H sH tH f0) v := by
    obtain ⟨w, v0, hw, hwv⟩ := hw0
    refine ⟨w, v0, hw, fun v hv => ?_⟩
    obtain ⟨hv1, e', a1, a2, a3, a4, a5⟩ := hwv v hv
    exact hS1 e' v a1 a2 a3 (by rw [a4]; exact hse0) a5 hv1
  -- the two flips
  have hflip : ∀ f f0, f ≠ f0 → yUsed m H sH tH f → yUsed m H sH tH f0 →
      (∀ e v, e < m → G e = true → H e = false → S (pc e) = true → I e v = true → yOn m I H v → yOn m I (yZ H sH tH f) v ∧ yOn m I (yZ H sH tH f0) v) →
      (∀ e, S (pc e) = false → ∃ e' v, e' < m ∧ G e' = true ∧ H e' = false ∧ pc e' = pc e ∧ I e' v = true ∧ yOn m I H v ∧
        ¬ (yOn m I (yZ H sH tH f) v ∧ yOn m I (yZ H sH tH f0) v)) →
      (∀ e, e < m → G e = true → H e = false → as e = f → S (pc e) = false → h (pc e) ≠ f ∧ h (pc e) ≠ f0 ∧ yUsed m H sH tH (h (pc e)) ∧
        ∀ e' v, e' < m → G e' = true → H e' = false → pc e' = pc e → I e' v = true → yOn m I H v → yOn m I (yZ H sH tH (h (pc e))) v) →
      (∃ w v0, yDg m I w v0 = true ∧ ∀ v, yDg m I w v = true → yOn m I (yZ H sH tH f) v ∧ yOn m I (yZ H sH tH f0) v) →
      ∃ (L' : Type) (s' t' : Nat → L'), yDs m I (fun e => yZ H sH tH f e || (yXf G H as f e && !S (pc e)) || (yXf G H as f0 e && S (pc e))) (yZ H sH tH f) s' t' := by
    intro f f0 hff hf hf0 hS1 hS0 hh hw
    obtain ⟨L, s, t, hDs⟩ := h6 f hf
    obtain ⟨L0, s0, t0, hDs0⟩ := h6 f0 hf0
    refine yFlip (n := n) h2 h3 h4 f f0 hff (h5 f hf) (h5 f0 hf0) (yXf G H as f) (yXf G H as f0) ?_ ?_ s t hDs s0 t0 hDs0 pc ?_ S h ?_ ?_ ?_ ?_ ?_ hw
    · intro e _ hx; exact ((yXf_iff _ _ _ _ _).1 hx).2.1
    · intro e _ hx; exact ((yXf_iff _ _ _ _ _).1 hx).2.1
    · intro e he hx; have := (yXf_iff _ _ _ _ _).1 hx; exact hpn e he this.1 this.2.1
    · intro e he hx hs
      have hx' := (yXf_iff _ _ _ _ _).1 hx
      have h11 := hh e he hx'.1 hx'.2.1 hx'.2.2 hs
      refine ⟨h11.1, h11.2.1, h5 _ h11.2.2.1, ?_⟩
      obtain ⟨e', v, b1, b2, b3, b4, b5, b6, b7⟩ := hS0 e hs
      have hase : as e' = f := (has e' e b1 he b2 b3 hx'.1 hx'.2.1 b4).trans hx'.2.2
      refine ⟨e', v, b1, (yXf_iff _ _ _ _ _).2 ⟨b2, b3, hase⟩, b4, b5, b6, fun h12 => b7 ⟨?_, h12⟩⟩
      have := h8 e' v b1 b2 b3 b5 b6
      rw [hase] at this; exact this
    · intro e v he hx hI hv
      have hx' := (yXf_iff _ _ _ _ _).1 hx
      refine ⟨?_, fun hs => ?_⟩
      · have := h8 e v he hx'.1 hx'.2.1 hI hv
        rw [hx'.2.2] at this; exact this
      · exact (hh e he hx'.1 hx'.2.1 hx'.2.2 hs).2.2.2 e v he hx'.1 hx'.2.1 rfl hI hv
    · intro e v he hx hs hI hv
      have hx' := (yXf_iff _ _ _ _ _).1 hx
      exact hS1 e v he hx'.1 hx'.2.1 hs hI hv
    · intro e e' v he he' hx hx' hI hI' hv
      have hx1 : G e = true ∧ H e = false := by
        simp only [Bool.or_eq_true] at hx
        rcases hx with hx | hx
        · have := (yXf_iff _ _ _ _ _).1 hx; exact ⟨this.1, this.2.1⟩
        · have := (yXf_iff _ _ _ _ _).1 hx; exact ⟨this.1, this.2.1⟩
      have hx2 : G e' = true ∧ H e' = false := by
        simp only [Bool.or_eq_true] at hx'
        rcases hx' with hx | hx
        · have := (yXf_iff _ _ _ _ _).1 hx; exact ⟨this.1, this.2.1⟩
        · have := (yXf_iff _ _ _ _ _).1 hx; exact ⟨this.1, this.2.1⟩
      refine ⟨hpc e e' v he he' hx1.1 hx1.2 hx2.1 hx2.2 hI hI' hv, ?_⟩
      have := h9 e e' v he he' hx1.1 hx1.2 hx2.1 hx2.2 hI hI' hv
      unfold yXf
      rw [hx1.1, hx1.2, hx2.1, hx2.2, this]
    · intro e _ hx
      have hx' := (yXf_iff _ _ _ _ _).1 hx
      cases hx0 : yXf G H as f0 e with
      | false => rfl
      | true => exact absurd (hx'.2.2.symm.trans ((yXf_iff _ _ _ _ _).1 hx0).2.2) hff
  have hfl1 := hflip f f0 (Ne.symm hsame) hf huf0 hS1 hS0 (fun e he hg hhe ha hs => hh (pc e) e he hg hhe (Or.inl ha) rfl hs) hw1
  have hfl2 := hflip f0 f hsame huf0 hf (fun e v a1 a2 a3 a4 a5 a6 => (hS1 e v a1 a2 a3 a4 a5 a6).symm)
    (fun e hs => by
      obtain ⟨e', v, b1, b2, b3, b4, b5, b6, b7⟩ := hS0 e hs
      exact ⟨e', v, b1, b2, b3, b4, b5, b6, fun h => b7 h.symm⟩)
    (fun e he hg hhe ha hs => by
      have := hh (pc e) e he hg hhe (Or.inr ha) rfl hs
      exact ⟨this.2.1, this.1, this.2.2⟩)
    (by
      obtain ⟨w, v0, hw, hwv⟩ := hw1
      exact ⟨w, v0, hw, fun v hv => (hwv v hv).symm⟩)
  refine ⟨fun e => if S (pc e) then (if as e = f0 then f else if as e = f then f0 else as e) else as e, ⟨h1, h2, h3, h4, h5, ?_, ?_, ?_, ?_, h10⟩, ?_, ?_⟩
  · intro l hl
    by_cases hlf : l = f
    · subst hlf
      obtain ⟨L', s', t', hDs⟩ := hfl1
      refine ⟨L', s', t', yDs_congr hDs _ ?_⟩
      intro e he
      rw [Bool.or_assoc]
      congr 1
      unfold yXf
      dsimp only
      rw [Bool.eq_iff_iff]
      cases hs : S (pc e) with
      | false => simp
      | true =>
        by_cases a1 : as e = f0
        · simp [a1]
        · by_cases a2 : as e = l
          · simp [a2, hsame, Ne.symm hsame]
          · simp [a1, a2]
    · by_cases hlf0 : l = f0
      · subst hlf0
        obtain ⟨L', s', t', hDs⟩ := hfl2
        refine ⟨L', s', t', yDs_congr hDs _ ?_⟩
        intro e he
        rw [Bool.or_assoc]
        congr 1
        unfold yXf
        dsimp only
        rw [Bool.eq_iff_iff]
        cases hs : S (pc e) with
        | false => simp
        | true =>
          by_cases a1 : as e = l
          · simp [a1, hsame, Ne.symm hsame]
          · by_cases a2 : as e = f
            · simp [a2, Ne.symm hsame]
            · simp [a1, a2]
      · obtain ⟨L', s', t', hDs⟩ := h6 l hl
        refine ⟨L', s', t', yDs_congr hDs _ ?_⟩
        intro e he
        congr 1
        unfold yXf
        dsimp only
        rw [Bool.eq_iff_iff]
        cases hs : S (pc e) with
        | false => simp
        | true =>
          by_cases a1 : as e = f0
          · simp [a1, Ne.symm hlf, Ne.symm hlf0]
          · by_cases a2 : as e = f
            · simp [a2, Ne.symm hsame, Ne.symm hlf, Ne.symm hlf0]
            · simp [a1, a2]
  · intro e he hg hhe
    dsimp only
    cases hs : S (pc e) with
    | false => simp only [Bool.false_eq_true, if_false]; exact h7 e he hg hhe
    | true =>
      simp only [if_true]
      by_cases a1 : as e = f0
      · rw [if_pos a1]; exact hf
      · rw [if_neg a1]
        by_cases a2 : as e = f
        · rw [if_pos a2]; exact huf0
        · rw [if_neg a2]; exact h7 e he hg hhe
  · intro e v he hg hhe hI hv
    dsimp only
    cases hs : S (pc e) with
    | false => simp only [Bool.false_eq_true, if_false]; exact h8 e v he hg hhe hI hv
    | true =>
      simp only [if_true]
      have h11 := hS1 e v he hg hhe hs hI hv
      by_cases a1 : as e = f0
      · rw [if_pos a1]; exact h11.1
      · rw [if_neg a1]
        by_cases a2 : as e = f
        · rw [if_pos a2]; exact h11.2
        · rw [if_neg a2]; exact h8 e v he hg hhe hI hv
  · intro e e' v he he' hg hhe hg' hhe' hI hI' hv
    dsimp only
    rw [h9 e e' v he he' hg hhe hg' hhe' hI hI' hv, hpc e e' v he he' hg hhe hg' hhe' hI hI' hv]
  · intro e e' he he' hg hhe hg' hhe' hp
    dsimp only
    rw [has e e' he he' hg hhe hg' hhe' hp, hp]
  · dsimp only
    rw [hse0, hf0]; simp

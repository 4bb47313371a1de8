-- two edges cannot cross inside one face
theorem yCross {m : Nat} {I : Nat → Nat → Bool} {G : Nat → Bool} {s t : Nat → Nat} (hE : yDs m I G (fun _ => false) s t)
    (hV : yV2 m I G) (f : Nat)
    (v1 v3 a01 a12 a23 e e' : Nat) (A : Nat → Bool)
    (hA : ∀ d, d < m → A d = true → d = a01 ∨ d = a12)
    (h01 : a01 < m ∧ yZ G s t f a01 = true ∧ I a01 v1 = true)
    (h12 : a12 < m ∧ yZ G s t f a12 = true)
    (hA1 : ∀ d, d < m → yZ G s t f d = true → I d v1 = true → A d = true)
    (h23 : a23 < m ∧ yZ G s t f a23 = true ∧ I a23 v3 = true)
    (h3 : I a01 v3 = false ∧ I a12 v3 = false)
    (he : e < m ∧ G e = true ∧ I e v1 = false ∧ I e v3 = false)
    (hz : yEv m I (fun d => Bool.xor (A d) (decide (d = e))))
    (he' : e' < m ∧ G e' = true ∧ I e' v1 = true ∧ I e' v3 = true ∧ s e' ≠ f ∧ t e' ≠ f) : False := by
  have hAG : ∀ d, d < m → A d = true → yZ G s t f d = true := by
    intro d hd h
    rcases hA d hd h with h1 | h1
    · rw [h1]; exact h01.2.1
    · rw [h1]; exact h12.2
  have hzG : ∀ d, yZ G s t f d = true → G d = true := fun d h => ((yZ_iff _ _ _ _ _).1 h).1
  obtain ⟨c, hc⟩ := hE.2 (fun d => Bool.xor (A d) (decide (d = e))) (by
    intro d hd h
    cases ha : A d with
    | true => exact hzG d (hAG d hd ha)
    | false =>
      rw [ha, Bool.false_xor] at h
      have : d = e := of_decide_eq_true h
      rw [this]; exact he.2.1) hz
  -- at v3
  have k3 : c (t a23) = c (t e') := by
    refine yDs_color2 hE c v3 ?_ hV a23 e' h23.1 he'.1 (hzG _ h23.2.1) he'.2.1 h23.2.2 he'.2.2.2.1
    intro d hd hg hI
    rw [← hc d hd hg]
    have h1 : A d = false := by
      cases ha : A d with
      | false => rfl
      | true =>
        rcases hA d hd ha with h4 | h4
        · rw [h4, h3.1] at hI; cases hI
        · rw [h4, h3.2] at hI; cases hI
    have h2 : d ≠ e := by intro h4; rw [h4, he.2.2.2] at hI; cases hI
    rw [h1]; simp [h2]
  have hA23 : A a23 = false := by
    cases ha : A a23 with
    | false => rfl
    | true =>
      rcases hA a23 h23.1 ha with h4 | h4
      · have := h23.2.2; rw [h4, h3.1] at this; cases this
      · have := h23.2.2; rw [h4, h3.2] at this; cases this
  have h23e : a23 ≠ e := by intro h4; have := h23.2.2; rw [h4, he.2.2.2] at this; cases this
  have kf : c (t a23) = c f := by
    have h1 := hc a23 h23.1 (hzG _ h23.2.1)
    rw [hA23] at h1
    simp only [h23e, decide_false, Bool.xor_false, Bool.not_false, Bool.true_and] at h1
    rcases ((yZ_iff _ _ _ _ _).1 h23.2.1).2 with h4 | h4
    · rw [h4] at h1; revert h1; cases c (t a23) <;> cases c f <;> simp
    · rw [h4]
  -- at v1
  have k1 : (fun l => Bool.xor (c l) (decide (l = f))) (t a01) = (fun l => Bool.xor (c l) (decide (l = f))) (t e') := by
    refine yDs_color2 hE (fun l => Bool.xor (c l) (decide (l = f))) v1 ?_ hV a01 e' h01.1 he'.1 (hzG _ h01.2.1) he'.2.1 h01.2.2 he'.2.2.1
    intro d hd hg hI
    have h1 := hc d hd hg
    have h2 : d ≠ e := by intro h4; rw [h4, he.2.2.1] at hI; cases hI
    simp only [h2, decide_false, Bool.xor_false, Bool.not_false, Bool.true_and] at h1
    cases hzd : yZ G s t f d with
    | true =>
      rw [hA1 d hd hzd hI] at h1
      have h4 := (yZ_iff _ _ _ _ _).1 hzd
      by_cases h5 : s d = f
      · by_cases h6 : t d = f
        · rw [h5, h6] at h1; simp at h1
        · rw [h5] at h1 ⊢
          simp only [h6, decide_false, decide_true]
          revert h1; cases c (t d) <;> cases c f <;> simp
      · have h6 : t d = f := by rcases h4.2 with h7 | h7; exact absurd h7 h5; exact h7
        rw [h6] at h1 ⊢
        simp only [h5, decide_false, decide_true]
        revert h1; cases c (s d) <;> cases c f <;> simp
    | false =>
      have h5 : s d ≠ f := fun h => by rw [(yZ_iff _ _ _ _ _).2 ⟨hg, Or.inl h⟩] at hzd; cases hzd
      have h6 : t d ≠ f := fun h => by rw [(yZ_iff _ _ _ _ _).2 ⟨hg, Or.inr h⟩] at hzd; cases hzd
      have h7 : A d = false := by
        cases ha : A d with
        | false => rfl
        | true => rw [hAG d hd ha] at hzd; cases hzd
      rw [h7] at h1
      simp only [h5, h6, decide_false, Bool.xor_false, Bool.not_false, Bool.true_and]
      exact h1.symm
  have hA01 : A a01 = true := hA1 a01 h01.1 h01.2.1 h01.2.2
  have kf2 : (fun l => Bool.xor (c l) (decide (l = f))) (t a01) = !c f := by
    have h1 := hc a01 h01.1 (hzG _ h01.2.1)
    have h01e : a01 ≠ e := by intro h4; have := h01.2.2; rw [h4, he.2.2.1] at this; cases this
    rw [hA01] at h1
    simp only [h01e, decide_false, Bool.xor_false, Bool.not_false, Bool.true_and] at h1
    dsimp only
    by_cases h6 : t a01 = f
    · rw [h6]; simp
    · have h4 : s a01 = f := by rcases ((yZ_iff _ _ _ _ _).1 h01.2.1).2 with h7 | h7; exact h7; exact absurd h7 h6
      rw [h4] at h1
      simp only [h6, decide_false, Bool.xor_false]
      revert h1; cases c (t a01) <;> cases c f <;> simp
  rw [kf2] at k1
  dsimp only at k1
  rw [← k3, kf] at k1
  simp only [he'.2.2.2.2.2, decide_false, Bool.xor_false] at k1
  revert k1; cases c f <;> simp

-- connected: a set of nodes that holds a node and all its neighbours' neighbours holds all
def yConn (m : Nat) (I : Nat → Nat → Bool) (G : Nat → Bool) : Prop :=
  ∀ U : Nat → Prop, (∃ e v, e < m ∧ G e = true ∧ I e v = true ∧ U v) →
    (∀ e p q, e < m → G e = true → I e p = true → I e q = true → U p → U q) → ∀ e v, e < m → G e = true → I e v = true → U v

-- a face of three does not part the others
theorem yTri_keeps {m : Nat} {I : Nat → Nat → Bool} {G : Nat → Bool} {s t : Nat → Nat} (hE : yDs m I G (fun _ => false) s t)
    (hV : yV2 m I G) (hK : yConn m I G)
    (hT : ∀ l e p e' q, e < m → e' < m → yZ G s t l e = true → yZ G s t l e' = true → I e p = true → I e' q = true → p ≠ q →
      ∃ d, d < m ∧ G d = true ∧ I d p = true ∧ I d q = true)
    (f : Nat) (F : Nat → Prop) (hC : yCi m I (yZ G s t f))
    (hF : ∀ e, e < m → yZ G s t f e = true → ∀ v, I e v = true → F v)
    (hF2 : ∀ e, e < m → G e = true → (∀ v, I e v = true → F v) → yZ G s t f e = true)
    (W : Nat → Prop) (hW : ∀ e p q, e < m → G e = true → I e p = true → I e q = true → W p → ¬ F p → ¬ F q → W q)
    (d0 x0 : Nat) (hx : d0 < m ∧ G d0 = true ∧ I d0 x0 = true ∧ W x0 ∧ ¬ F x0)
    (d1 x1 : Nat) (hy : d1 < m ∧ G d1 = true ∧ I d1 x1 = true ∧ ¬ F x1) : W x1 := by
  by_cases hcon : W x1
  · exact hcon
  exfalso
  -- colours of the faces
  obtain ⟨c, hcd⟩ : ∃ c : Nat → Bool, ∀ l, c l = yD (l ≠ f ∧ ∃ e v, e < m ∧ yZ G s t l e = true ∧ I e v = true ∧ W v ∧ ¬ F v) := ⟨_, fun _ => rfl⟩
  have hin : ∀ e p l, e < m → G e = true → I e p = true → ¬ F p → (l = s e ∨ l = t e) → c l = yD (W p) := by
    intro e p l he hg hI hp hl
    have hzl : yZ G s t l e = true := (yZ_iff _ _ _ _ _).2 ⟨hg, by rcases hl with h | h; exact Or.inl h.symm; exact Or.inr h.symm⟩
    have hlf : l ≠ f := by
      intro h; rw [h] at hzl; exact hp (hF e he hzl p hI)
    rw [hcd]
    by_cases hw : W p
    · rw [yD_pos hw, yD_pos ⟨hlf, e, p, he, hzl, hI, hw, hp⟩]
    · rw [yD_neg hw, yD_neg]
      rintro ⟨_, e', q, he', hz', hI', hwq, hq⟩
      by_cases hpq : q = p
      · rw [hpq] at hwq; exact hw hwq
      · obtain ⟨d, hd, hgd, hdq, hdp⟩ := hT l e' q e p he' he hz' hzl hI' hI hpq
        exact hw (hW d q p hd hgd hdq hdp hwq hq hp)
  have hcf : c f = false := by rw [hcd]; exact yD_neg (fun h => h.1 rfl)
  have hsub : ∀ e, e < m → (G e && Bool.xor (c (t e)) (!false && c (s e))) = true → yZ G s t f e = true := by
    intro e he h
    simp only [Bool.and_eq_true, Bool.not_false, Bool.true_and] at h
    apply hF2 e he h.1
    intro v hI
    by_cases hv : F v
    · exact hv
    · exfalso
      rw [hin e v (t e) he h.1 hI hv (Or.inr rfl), hin e v (s e) he h.1 hI hv (Or.inl rfl)] at h
      revert h; cases yD (W v) <;> simp
  -- one colour everywhere
  have hmono : ∀ k : Nat → Bool, (∀ e, e < m → G e = true → k (t e) = k (s e)) → ∀ e e', e < m → e' < m → G e = true → G e' = true →
      (∃ v, I e v = true) → (∃ v, I e' v = true) → k (t e) = k (t e') := by
    intro k hk e e' he he' hg hg' hve hve'
    obtain ⟨v, hIv⟩ := hve
    obtain ⟨v', hIv'⟩ := hve'
    have := hK (fun n => ∃ d, d < m ∧ G d = true ∧ I d n = true ∧ k (t d) = k (t e)) ⟨e, v, he, hg, hIv, e, he, hg, hIv, rfl⟩ (by
      intro d p q hd hgd hp hq ⟨d', h1, h2, h3, h4⟩
      refine ⟨d, hd, hgd, hq, ?_⟩
      rw [← h4]
      refine yDs_color2 hE k p ?_ hV d d' hd h1 hgd h2 hp h3
      intro x hx1 hx2 _
      rw [hk x hx1 hx2]; simp) e' v' he' hg' hIv'
    obtain ⟨d, h1, h2, h3, h4⟩ := this
    rw [← h4]
    refine yDs_color2 hE k v' ?_ hV d e' h1 he' h2 hg' h3 hIv'
    intro x hx1 hx2 _
    rw [hk x hx1 hx2]; simp
  have hcx0 : c (t d0) = true := by rw [hin d0 x0 (t d0) hx.1 hx.2.1 hx.2.2.1 hx.2.2.2.2 (Or.inr rfl)]; exact yD_pos hx.2.2.2.1
  have hcx1 : c (t d1) = false := by rw [hin d1 x1 (t d1) hy.1 hy.2.1 hy.2.2.1 hy.2.2.2 (Or.inr rfl)]; exact yD_neg hcon
  rcases hC.2.1 _ hsub (hE.1 c) with h1 | h1
  · have hk : ∀ e, e < m → G e = true → c (t e) = c (s e) := by
      intro e he hg
      have := h1 e he
      rw [hg] at this
      revert this; cases c (t e) <;> cases c (s e) <;> simp
    have := hmono c hk d0 d1 hx.1 hy.1 hx.2.1 hy.2.1 ⟨x0, hx.2.2.1⟩ ⟨x1, hy.2.2.1⟩
    rw [hcx0, hcx1] at this; cases this
  · have hsf0 : s d0 ≠ f ∧ t d0 ≠ f := by
      constructor
      · intro h; exact hx.2.2.2.2 (hF d0 hx.1 ((yZ_iff _ _ _ _ _).2 ⟨hx.2.1, Or.inl h⟩) x0 hx.2.2.1)
      · intro h; exact hx.2.2.2.2 (hF d0 hx.1 ((yZ_iff _ _ _ _ _).2 ⟨hx.2.1, Or.inr h⟩) x0 hx.2.2.1)
    have hsf1 : s d1 ≠ f ∧ t d1 ≠ f := by
      constructor
      · intro h; exact hy.2.2.2 (hF d1 hy.1 ((yZ_iff _ _ _ _ _).2 ⟨hy.2.1, Or.inl h⟩) x1 hy.2.2.1)
      · intro h; exact hy.2.2.2 (hF d1 hy.1 ((yZ_iff _ _ _ _ _).2 ⟨hy.2.1, Or.inr h⟩) x1 hy.2.2.1)
    have hk : ∀ e, e < m → G e = true → (fun l => Bool.xor (c l) (decide (l = f))) (t e) = (fun l => Bool.xor (c l) (decide (l = f))) (s e) := by
      intro e he hg
      have h2 := h1 e he
      rw [hg] at h2
      simp only [Bool.true_and, Bool.not_false] at h2
      cases hz : yZ G s t f e with
      | true =>
        rw [hz] at h2
        have h4 := (yZ_iff _ _ _ _ _).1 hz
        by_cases h5 : s e = f
        · by_cases h6 : t e = f
          · rw [h5, h6] at h2; simp at h2
          · rw [h5] at h2 ⊢
            simp only [h6, decide_false, decide_true]
            revert h2; cases c (t e) <;> cases c f <;> simp
        · have h6 : t e = f := by rcases h4.2 with h7 | h7; exact absurd h7 h5; exact h7
          rw [h6] at h2 ⊢
          simp only [h5, decide_false, decide_true]
          revert h2; cases c (s e) <;> cases c f <;> simp
      | false =>
        rw [hz] at h2
        have h5 : s e ≠ f := fun h => by rw [(yZ_iff _ _ _ _ _).2 ⟨hg, Or.inl h⟩] at hz; cases hz
        have h6 : t e ≠ f := fun h => by rw [(yZ_iff _ _ _ _ _).2 ⟨hg, Or.inr h⟩] at hz; cases hz
        simp only [h5, h6, decide_false, Bool.xor_false]
        revert h2; cases c (t e) <;> cases c (s e) <;> simp
    have := hmono (fun l => Bool.xor (c l) (decide (l = f))) hk d0 d1 hx.1 hy.1 hx.2.1 hy.2.1 ⟨x0, hx.2.2.1⟩ ⟨x1, hy.2.2.1⟩
    simp only [hsf0.2, hsf1.2, decide_false, Bool.xor_false] at this
    rw [hcx0, hcx1] at this; cases this

-- three nodes that are neighbours of one another and do not part the others are those of a face
theorem yTri_face {m : Nat} {I : Nat → Nat → Bool} {G : Nat → Bool} {s t : Nat → Nat} (hE : yDs m I G (fun _ => false) s t)
    (hV : yV2 m I G)
    (z : Nat → Bool) (F : Nat → Prop) (hz : yEv m I z) (hzG : ∀ e, e < m → z e = true → G e = true)
    (hzF : ∀ e, e < m → z e = true → ∀ v, I e v = true → F v)
    (a : Nat) (ha : a < m ∧ z a = true)
    (d0 x0 : Nat) (hx : d0 < m ∧ G d0 = true ∧ I d0 x0 = true ∧ ¬ F x0)
    (hW : ∀ W : Nat → Prop, W x0 → (∀ e p q, e < m → G e = true → I e p = true → I e q = true → W p → ¬ F p → ¬ F q → W q) →
      ∀ e v, e < m → G e = true → I e v = true → ¬ F v → W v) :
    ∃ l, yZ G s t l a = true ∧ ∀ e v, e < m → yZ G s t l e = true → I e v = true → F v := by
  obtain ⟨c, hc⟩ := hE.2 z hzG hz
  -- all edges with a node off z have one colour
  have hoff : ∀ e v, e < m → G e = true → I e v = true → ¬ F v → z e = false ∧ c (t e) = c (s e) := by
    intro e v he hg hI hv
    have h1 : z e = false := by
      cases h : z e with
      | false => rfl
      | true => exact absurd (hzF e he h v hI) hv
    refine ⟨h1, ?_⟩
    have := hc e he hg
    rw [h1] at this
    revert this; cases c (t e) <;> cases c (s e) <;> simp
  have hcol : ∀ e v, e < m → G e = true → I e v = true → ¬ F v → c (t e) = c (t d0) := by
    intro e v he hg hI hv
    have hat : ∀ p, ¬ F p → ∀ e e', e < m → e' < m → G e = true → G e' = true → I e p = true → I e' p = true → c (t e) = c (t e') := by
      intro p hp e e' he he' hg hg' hI hI'
      refine yDs_color2 hE c p ?_ hV e e' he he' hg hg' hI hI'
      intro x hx1 hx2 hxI
      rw [(hoff x p hx1 hx2 hxI hp).2]; simp
    obtain ⟨d, h1, h2, h3, h4⟩ := hW (fun n => ∃ d, d < m ∧ G d = true ∧ I d n = true ∧ c (t d) = c (t d0)) ⟨d0, hx.1, hx.2.1, hx.2.2.1, rfl⟩ (by
      intro e p q he hg hp hq ⟨d, h1, h2, h3, h4⟩ hFp _
      exact ⟨e, he, hg, hq, (hat p hFp e d he h1 hg h2 hp h3).trans h4⟩) e v he hg hI hv
    exact (hat v hv e d he h1 hg h2 hI h3).trans h4
  -- the side of a that has the other colour
  have haG := hzG a ha.1 ha.2
  have hca := hc a ha.1 haG
  rw [ha.2] at hca
  have hpick : ∃ l, yZ G s t l a = true ∧ c l ≠ c (t d0) := by
    by_cases h : c (t a) = c (t d0)
    · refine ⟨s a, (yZ_iff _ _ _ _ _).2 ⟨haG, Or.inl rfl⟩, ?_⟩
      intro h2; rw [h, h2] at hca; simp at hca
    · exact ⟨t a, (yZ_iff _ _ _ _ _).2 ⟨haG, Or.inr rfl⟩, h⟩
  obtain ⟨l, hl1, hl2⟩ := hpick
  refine ⟨l, hl1, ?_⟩
  intro e v he hze hI
  by_cases hv : F v
  · exact hv
  · exfalso
    have h1 := (yZ_iff _ _ _ _ _).1 hze
    have h2 := hcol e v he h1.1 hI hv
    have h3 := (hoff e v he h1.1 hI hv).2
    rcases h1.2 with h4 | h4
    · rw [h4] at h3; exact hl2 (h3.symm.trans h2)
    · rw [h4] at h2; exact hl2 h2
-- edges as numbers 32 a + b of two nodes a < b < 32
def yI (e v : Nat) : Bool := Bool.xor (e / 32 == v) (e % 32 == v)
def yIx (a b : Nat) : Nat := if a < b then 32 * a + b else 32 * b + a

theorem yIx_comm (a b : Nat) : yIx a b = yIx b a := by
  unfold yIx
  by_cases h : a < b
  · rw [if_pos h, if_neg (by omega)]
  · by_cases h2 : b < a
    · rw [if_neg h, if_pos h2]
    · have : a = b := by omega
      rw [this]

theorem yIx_div {a b : Nat} (hb : b < 32) (h : a < b) : (yIx a b) / 32 = a ∧ (yIx a b) % 32 = b := by
  unfold yIx; rw [if_pos h]; omega

theorem yIx_lt {a b : Nat} (ha : a < 32) (hb : b < 32) : yIx a b < 1024 := by
  unfold yIx
  by_cases h : a < b
  · rw [if_pos h]; omega
  · rw [if_neg h]; omega

theorem yI_iff {a b : Nat} (ha : a < 32) (hb : b < 32) (hab : a ≠ b) (v : Nat) : yI (yIx a b) v = true ↔ (v = a ∨ v = b) := by
  have key : ∀ a b, a < 32 → b < 32 → a < b → (yI (yIx a b) v = true ↔ (v = a ∨ v = b)) := by
    intro a b ha hb hlt
    have h := yIx_div hb hlt
    unfold yI
    rw [h.1, h.2]
    by_cases h1 : a = v
    · have h2 : b ≠ v := by omega
      simp [h1, h2]
    · by_cases h2 : b = v
      · simp [h1, h2]
      · have e1 : (a == v) = false := by simp [h1]
        have e2 : (b == v) = false := by simp [h2]
        rw [e1, e2]
        constructor
        · intro hh; cases hh
        · rintro (hh | hh)
          · exact absurd hh.symm h1
          · exact absurd hh.symm h2
  by_cases h : a < b
  · exact key a b ha hb h
  · rw [yIx_comm, key b a hb ha (by omega)]
    constructor
    · intro h; exact h.symm
    · intro h; exact h.symm

theorem yIx_inj {a b c d : Nat} (ha : a < 32) (hb : b < 32) (hc : c < 32) (hd : d < 32) (h : yIx a b = yIx c d) :
    (a = c ∧ b = d) ∨ (a = d ∧ b = c) := by
  unfold yIx at h
  by_cases h1 : a < b <;> by_cases h2 : c < d <;> simp only [h1, h2, if_true, if_false] at h <;> omega

-- each edge has two ends or none
theorem yI_hand (e : Nat) (he : e < 1024) : yX 32 (fun v => yI e v) = false := by
  unfold yI
  rw [yX_xor, yX_one 32 _ (e/32) (by omega), yX_one 32 _ (e%32) (by omega)]
  · simp
  · intro i _ h; simp; exact fun h2 => h h2.symm
  · intro i _ h; simp; exact fun h2 => h h2.symm

theorem yHand (w : Nat → Bool) : yX 32 (fun v => yDg 1024 yI w v) = false := by
  unfold yDg
  rw [yX_swap]
  apply yX_false
  intro e he
  cases w e with
  | false => rw [yX_false]; intros; rfl
  | true => simp only [Bool.true_and]; exact yI_hand e he

theorem yX_inj (N n : Nat) (v : Nat → Nat) (f : Nat → Bool) (hv : ∀ k, k < n → v k < N) (hi : ∀ i j, i < n → j < n → v i = v j → i = j)
    (hf : ∀ x, x < N → f x = true → ∃ k, k < n ∧ x = v k) : yX N f = yX n (fun k => f (v k)) := by
  have h1 : yX n (fun k => f (v k)) = yX n (fun k => yX N (fun x => decide (x = v k) && f x)) := by
    apply yX_congr
    intro k hk
    rw [yX_one N _ (v k) (hv k hk)]
    · simp
    · intro i _ h; simp [h]
  rw [h1, yX_swap]
  apply yX_congr
  intro x hx
  cases hfx : f x with
  | false => rw [yX_false]; intros; simp
  | true =>
    obtain ⟨k, hk, hxk⟩ := hf x hx hfx
    rw [yX_one n _ k hk]
    · simp [hxk]
    · intro i hi' hne
      have : x ≠ v i := by
        intro h; exact hne (hi i k hi' hk (h.symm.trans hxk))
      simp [this]

-- a round of nodes
noncomputable def yCy (n : Nat) (v : Nat → Nat) (e : Nat) : Bool := yD (∃ i, i < n ∧ e = yIx (v i) (v ((i+1) % n)))

section
variable {n : Nat} {v : Nat → Nat}

theorem yCy_ne (hn : 3 ≤ n) (hi : ∀ i j, i < n → j < n → v i = v j → i = j) (i : Nat) (h : i < n) : v i ≠ v ((i+1) % n) := by
  intro h1
  have h2 := hi i ((i+1) % n) h (Nat.mod_lt _ (by omega)) h1
  by_cases h3 : i + 1 = n
  · rw [h3, Nat.mod_self] at h2; omega
  · rw [Nat.mod_eq_of_lt (by omega)] at h2; omega

theorem yCy_inj (hn : 3 ≤ n) (hv : ∀ i, i < n → v i < 32) (hi : ∀ i j, i < n → j < n → v i = v j → i = j) (i j : Nat) (h1 : i < n) (h2 : j < n)
    (h : yIx (v i) (v ((i+1) % n)) = yIx (v j) (v ((j+1) % n))) : i = j := by
  have hm : ∀ i, (i+1) % n < n := fun i => Nat.mod_lt _ (by omega)
  rcases yIx_inj (hv i h1) (hv _ (hm i)) (hv j h2) (hv _ (hm j)) h with ⟨a1, a2⟩ | ⟨a1, a2⟩
  · exact hi i j h1 h2 a1
  · exfalso
    have b1 := hi i ((j+1) % n) h1 (hm j) a1
    have b2 := hi ((i+1) % n) j (hm i) h2 a2
    by_cases c1 : i + 1 = n
    · rw [c1, Nat.mod_self] at b2
      rw [← b2] at b1
      rw [Nat.mod_eq_of_lt (by omega)] at b1
      omega
    · rw [Nat.mod_eq_of_lt (by omega)] at b2
      rw [← b2] at b1
      by_cases c2 : i + 1 + 1 = n
      · rw [c2, Nat.mod_self] at b1; omega
      · rw [Nat.mod_eq_of_lt (by omega)] at b1; omega

-- the two edges at node i of the round
theorem yCy_at (hn : 3 ≤ n) (hv : ∀ i, i < n → v i < 32) (hi : ∀ i j, i < n → j < n → v i = v j → i = j) (i : Nat) (h : i < n) (e : Nat) :
    (yCy n v e = true ∧ yI e (v ((i+1) % n)) = true) ↔ (e = yIx (v i) (v ((i+1) % n)) ∨ e = yIx (v ((i+1) % n)) (v (((i+1) % n + 1) % n))) := by
  have hm : ∀ i, (i+1) % n < n := fun i => Nat.mod_lt _ (by omega)
  constructor
  · rintro ⟨h1, h2⟩
    obtain ⟨j, hj, hej⟩ := (yD_iff _).1 h1
    rw [hej, yI_iff (hv j hj) (hv _ (hm j)) (yCy_ne hn hi j hj)] at h2
    rcases h2 with h2 | h2
    · right
      have := hi _ _ (hm i) hj h2
      rw [hej, this]
    · left
      have := hi _ _ (hm i) (hm j) h2
      have hij : i = j := by
        by_cases c1 : i + 1 = n
        · by_cases c2 : j + 1 = n
          · omega
          · rw [c1, Nat.mod_self, Nat.mod_eq_of_lt (by omega)] at this; omega
        · by_cases c2 : j + 1 = n
          · rw [c2, Nat.mod_self, Nat.mod_eq_of_lt (by omega)] at this; omega
          · rw [Nat.mod_eq_of_lt (by omega), Nat.mod_eq_of_lt (by omega)] at this; omega
      rw [hej, hij]
  · rintro (h1 | h1)
    · refine ⟨yD_pos ⟨i, h, h1⟩, ?_⟩
      rw [h1, yI_iff (hv i h) (hv _ (hm i)) (yCy_ne hn hi i h)]; exact Or.inr rfl
    · refine ⟨yD_pos ⟨_, hm i, h1⟩, ?_⟩
      rw [h1, yI_iff (hv _ (hm i)) (hv _ (hm _)) (yCy_ne hn hi _ (hm i))]; exact Or.inl rfl

-- nodes of the round
theorem yCy_on (hn : 3 ≤ n) (hv : ∀ i, i < n → v i < 32) (hi : ∀ i j, i < n → j < n → v i = v j → i = j) (e x : Nat)
    (h1 : yCy n v e = true) (h2 : yI e x = true) : ∃ i, i < n ∧ x = v ((i+1) % n) := by
  have hm : ∀ i, (i+1) % n < n := fun i => Nat.mod_lt _ (by omega)
  obtain ⟨j, hj, hej⟩ := (yD_iff _).1 h1
  rw [hej, yI_iff (hv j hj) (hv _ (hm j)) (yCy_ne hn hi j hj)] at h2
  rcases h2 with h2 | h2
  · by_cases hj0 : j = 0
    · exact ⟨n-1, by omega, by rw [h2, hj0, Nat.sub_add_cancel (by omega), Nat.mod_self]⟩
    · exact ⟨j-1, by omega, by rw [h2, Nat.sub_add_cancel (by omega), Nat.mod_eq_of_lt hj]⟩
  · exact ⟨j, hj, h2⟩

theorem yCy_ci (hn : 3 ≤ n) (hv : ∀ i, i < n → v i < 32) (hi : ∀ i j, i < n → j < n → v i = v j → i = j) : yCi 1024 yI (yCy n v) := by
  have hm : ∀ i, (i+1) % n < n := fun i => Nat.mod_lt _ (by omega)
  have hlt : ∀ i, i < n → yIx (v i) (v ((i+1) % n)) < 1024 := fun i h => yIx_lt (hv i h) (hv _ (hm i))
  have hdist : ∀ i, i < n → yIx (v i) (v ((i+1) % n)) ≠ yIx (v ((i+1) % n)) (v (((i+1) % n + 1) % n)) := by
    intro i h h1
    have := yCy_inj hn hv hi i ((i+1) % n) h (hm i) h1
    by_cases c1 : i + 1 = n
    · rw [c1, Nat.mod_self] at this; omega
    · rw [Nat.mod_eq_of_lt (by omega)] at this; omega
  -- degree of a part at a node
  have hdeg : ∀ w : Nat → Bool, (∀ e, e < 1024 → w e = true → yCy n v e = true) → ∀ i, i < n →
      yDg 1024 yI w (v ((i+1) % n)) = Bool.xor (w (yIx (v i) (v ((i+1) % n)))) (w (yIx (v ((i+1) % n)) (v (((i+1) % n + 1) % n)))) := by
    intro w hw i h
    have a1 := (yCy_at hn hv hi i h (yIx (v i) (v ((i+1) % n)))).2 (Or.inl rfl)
    have a2 := (yCy_at hn hv hi i h (yIx (v ((i+1) % n)) (v (((i+1) % n + 1) % n)))).2 (Or.inr rfl)
    rw [yDg_two 1024 yI w _ _ _ (hlt i h) (hlt _ (hm i)) (hdist i h) a1.2 a2.2]
    intro e he hI h1 h2
    cases hwe : w e with
    | false => rfl
    | true =>
      rcases (yCy_at hn hv hi i h e).1 ⟨hw e he hwe, hI⟩ with h3 | h3 <;> contradiction
  have hzero : ∀ w : Nat → Bool, (∀ e, e < 1024 → w e = true → yCy n v e = true) → ∀ x, (¬ ∃ i, i < n ∧ x = v ((i+1) % n)) → yDg 1024 yI w x = false := by
    intro w hw x hx
    apply yDg_false
    intro e he hI
    cases hwe : w e with
    | false => rfl
    | true => exact absurd (yCy_on hn hv hi e x (hw e he hwe) hI) hx
  refine ⟨?_, ?_, ?_, ?_⟩
  · rw [yEv_iff]
    intro x
    by_cases hx : ∃ i, i < n ∧ x = v ((i+1) % n)
    · obtain ⟨i, h, hxi⟩ := hx
      rw [hxi, hdeg _ (fun _ _ h => h) i h]
      have a1 := (yCy_at hn hv hi i h (yIx (v i) (v ((i+1) % n)))).2 (Or.inl rfl)
      have a2 := (yCy_at hn hv hi i h (yIx (v ((i+1) % n)) (v (((i+1) % n + 1) % n)))).2 (Or.inr rfl)
      rw [a1.1, a2.1]; rfl
    · exact hzero _ (fun _ _ h => h) x hx
  · intro w hw hev
    have hsame : ∀ i, i < n → w (yIx (v i) (v ((i+1) % n))) = w (yIx (v 0) (v ((0+1) % n))) := by
      intro i
      induction i with
      | zero => intro _; rfl
      | succ i ih =>
        intro h
        rw [← ih (by omega)]
        have h1 := (yEv_iff _ _ _).1 hev (v ((i+1) % n))
        rw [hdeg w hw i (by omega), Nat.mod_eq_of_lt h] at h1
        rw [Nat.mod_eq_of_lt h]
        revert h1
        cases w (yIx (v i) (v (i+1))) <;> cases w (yIx (v (i+1)) (v ((i+1+1) % n))) <;> simp
    cases h0 : w (yIx (v 0) (v ((0+1) % n))) with
    | false =>
      left
      intro e he
      cases hwe : w e with
      | false => rfl
      | true =>
        obtain ⟨i, h, hei⟩ := (yD_iff _).1 (hw e he hwe)
        rw [hei, hsame i h, h0] at hwe; cases hwe
    | true =>
      right
      intro e he
      cases hz : yCy n v e with
      | true =>
        obtain ⟨i, h, hei⟩ := (yD_iff _).1 hz
        rw [hei, hsame i h, h0]
      | false =>
        cases hwe : w e with
        | false => rfl
        | true => rw [hw e he hwe] at hz; cases hz
  · intro w hw
    -- prefix sums
    obtain ⟨J, hJ⟩ : ∃ J : Nat → Bool, ∀ e, J e = yD (∃ i, i < n ∧ e = yIx (v i) (v ((i+1) % n)) ∧ yX (i+1) (fun k => yDg 1024 yI w (v k)) = true) := ⟨_, fun _ => rfl⟩
    have hJi : ∀ i, i < n → J (yIx (v i) (v ((i+1) % n))) = yX (i+1) (fun k => yDg 1024 yI w (v k)) := by
      intro i h
      rw [hJ]
      cases hx : yX (i+1) (fun k => yDg 1024 yI w (v k)) with
      | true => exact yD_pos ⟨i, h, rfl, hx⟩
      | false =>
        apply yD_neg
        rintro ⟨j, hj, hej, hxj⟩
        have := yCy_inj hn hv hi i j h hj hej
        rw [← this, hx] at hxj; cases hxj
    have hJsub : ∀ e, e < 1024 → J e = true → yCy n v e = true := by
      intro e _ h
      rw [hJ] at h
      obtain ⟨i, h1, h2, _⟩ := (yD_iff _).1 h
      exact yD_pos ⟨i, h1, h2⟩
    have htot : yX n (fun k => yDg 1024 yI w (v k)) = false := by
      rw [← yX_inj 32 n v (fun x => yDg 1024 yI w x) hv hi]
      · exact yHand w
      · intro x _ hx
        obtain ⟨e, he, h1, h2⟩ := hw x hx
        obtain ⟨i, h3, h4⟩ := yCy_on hn hv hi e x h1 h2
        exact ⟨_, hm i, h4⟩
    refine ⟨J, hJsub, ?_⟩
    intro x
    by_cases hx : ∃ i, i < n ∧ x = v ((i+1) % n)
    · obtain ⟨i, h, hxi⟩ := hx
      rw [hxi, hdeg J hJsub i h, hJi i h, hJi _ (hm i)]
      by_cases c1 : i + 1 = n
      · rw [c1, Nat.mod_self, htot]
        simp only [yX, Bool.false_xor]
      · rw [Nat.mod_eq_of_lt (by omega)]
        simp only [yX]
        cases yX i (fun k => yDg 1024 yI w (v k)) <;> cases yDg 1024 yI w (v i) <;> cases yDg 1024 yI w (v (i+1)) <;> rfl
    · rw [hzero J hJsub x hx]
      cases hwx : yDg 1024 yI w x with
      | false => rfl
      | true =>
        obtain ⟨e, he, h1, h2⟩ := hw x hwx
        exact absurd (yCy_on hn hv hi e x h1 h2) hx
  · intro e x he hz hI
    obtain ⟨i, h, hxi⟩ := yCy_on hn hv hi e x hz hI
    rw [hxi] at hI ⊢
    have a1 := (yCy_at hn hv hi i h (yIx (v i) (v ((i+1) % n)))).2 (Or.inl rfl)
    have a2 := (yCy_at hn hv hi i h (yIx (v ((i+1) % n)) (v (((i+1) % n + 1) % n)))).2 (Or.inr rfl)
    rcases (yCy_at hn hv hi i h e).1 ⟨hz, hI⟩ with h3 | h3
    · refine ⟨_, hlt _ (hm i), ?_, a2.1, a2.2, ?_⟩
      · rw [h3]; exact (hdist i h).symm
      · intro d hd hzd hId
        rcases (yCy_at hn hv hi i h d).1 ⟨hzd, hId⟩ with h4 | h4
        · exact Or.inl (h4.trans h3.symm)
        · exact Or.inr h4
    · refine ⟨_, hlt i h, ?_, a1.1, a1.2, ?_⟩
      · rw [h3]; exact hdist i h
      · intro d hd hzd hId
        rcases (yCy_at hn hv hi i h d).1 ⟨hzd, hId⟩ with h4 | h4
        · exact Or.inr h4
        · exact Or.inl (h4.trans h3.symm)
end
-- two nodes hang together without v
def yCo (m : Nat) (I : Nat → Nat → Bool) (G : Nat → Bool) (v x y : Nat) : Prop :=
  ∀ U : Nat → Prop, U x → (∀ e p q, e < m → G e = true → I e p = true → I e q = true → p ≠ v → q ≠ v → U p → U q) → U y

theorem yCo_refl (m : Nat) (I : Nat → Nat → Bool) (G : Nat → Bool) (v x : Nat) : yCo m I G v x x := fun _ h _ => h

theorem yCo_step {m : Nat} {I : Nat → Nat → Bool} {G : Nat → Bool} {v x p q : Nat} (h : yCo m I G v x p) (e : Nat) (he : e < m) (hg : G e = true)
    (hp : I e p = true) (hq : I e q = true) (hpv : p ≠ v) (hqv : q ≠ v) : yCo m I G v x q :=
  fun U hU hc => hc e p q he hg hp hq hpv hqv (h U hU hc)

theorem yCo_symm {m : Nat} {I : Nat → Nat → Bool} {G : Nat → Bool} {v x y : Nat} (h : yCo m I G v x y) : yCo m I G v y x := by
  exact h (fun n => yCo m I G v n x) (yCo_refl m I G v x)
    (fun e p q he hg hp hq hpv hqv hu U hU hc => hu U (hc e q p he hg hq hp hqv hpv hU) hc)

theorem yCo_trans {m : Nat} {I : Nat → Nat → Bool} {G : Nat → Bool} {v x y z : Nat} (h : yCo m I G v x y) (h2 : yCo m I G v y z) : yCo m I G v x z :=
  fun U hU hc => h2 U (h U hU hc) hc

-- classes of edges: as told by pairs at a node whose other ends hang together without it, and no coarser
def yBl (m : Nat) (I : Nat → Nat → Bool) (G : Nat → Bool) (cls : Nat → Nat) : Prop :=
  (∀ e e' v x y, e < m → e' < m → G e = true → G e' = true → I e v = true → I e x = true → I e' v = true → I e' y = true → x ≠ v → y ≠ v →
    yCo m I G v x y → cls e = cls e') ∧
  (∀ k : Nat → Bool, (∀ e e' v x y, e < m → e' < m → G e = true → G e' = true → I e v = true → I e x = true → I e' v = true → I e' y = true → x ≠ v → y ≠ v →
    yCo m I G v x y → k e = k e') → ∀ e e', e < m → e' < m → G e = true → G e' = true → cls e = cls e' → k e = k e')

section
variable {m N : Nat} {I : Nat → Nat → Bool} {G : Nat → Bool} {cls : Nat → Nat}

theorem yBl_at (hI : ∀ e, e < m → G e = true → ∃ p q, p ≠ q ∧ p < N ∧ q < N ∧ ∀ n, I e n = true ↔ (n = p ∨ n = q)) (hB : yBl m I G cls)
    (u e x e' y : Nat) (he : e < m) (he' : e' < m) (hg : G e = true) (hg' : G e' = true) (h1 : I e u = true) (h2 : I e x = true) (h3 : I e' u = true) (h4 : I e' y = true)
    (hx : x ≠ u) (hy : y ≠ u) : cls e = cls e' ↔ yCo m I G u x y := by
  constructor
  · intro hc
    have hk := hB.2 (fun d => yD (∃ n, I d n = true ∧ n ≠ u ∧ yCo m I G u x n)) (by
      intro d d' p a b hd hd' hgd hgd' hp ha hp' hb hap hbp hco
      rw [Bool.eq_iff_iff, yD_iff, yD_iff]
      have key : ∀ d d' a b, d < m → d' < m → G d = true → G d' = true → I d p = true → I d a = true → I d' p = true → I d' b = true → a ≠ p → b ≠ p →
          yCo m I G p a b → (∃ n, I d n = true ∧ n ≠ u ∧ yCo m I G u x n) → (∃ n, I d' n = true ∧ n ≠ u ∧ yCo m I G u x n) := by
        intro d d' a b hd hd' hgd hgd' hp ha hp' hb hap hbp hco ⟨n, hn, hnu, hxn⟩
        by_cases hpu : p = u
        · refine ⟨b, hb, by rw [← hpu]; exact hbp, ?_⟩
          -- n is a
          have hna : n = a := by
            obtain ⟨p1, q1, hpq, _, _, hi⟩ := hI d hd hgd
            have e1 := (hi n).1 hn
            have e2 := (hi a).1 ha
            have e3 := (hi p).1 hp
            rw [hpu] at e3 hap
            rcases e1 with e1 | e1 <;> rcases e2 with e2 | e2 <;> rcases e3 with e3 | e3 <;> omega
          rw [hna] at hxn
          rw [hpu] at hco
          exact yCo_trans hxn hco
        · refine ⟨p, hp', hpu, ?_⟩
          by_cases hnp : n = p
          · rw [← hnp]; exact hxn
          · exact yCo_step hxn d hd hgd hn hp hnu hpu
      constructor
      · exact key d d' a b hd hd' hgd hgd' hp ha hp' hb hap hbp hco
      · exact key d' d b a hd' hd hgd' hgd hp' hb hp ha hbp hap (yCo_symm hco)) e e' he he' hg hg' hc
    rw [yD_pos ⟨x, h2, hx, yCo_refl m I G u x⟩] at hk
    obtain ⟨n, hn, hnu, hxn⟩ := (yD_iff _).1 hk.symm
    have hny : n = y := by
      obtain ⟨p1, q1, hpq, _, _, hi⟩ := hI e' he' hg'
      have e1 := (hi n).1 hn
      have e2 := (hi y).1 h4
      have e3 := (hi u).1 h3
      rcases e1 with e1 | e1 <;> rcases e2 with e2 | e2 <;> rcases e3 with e3 | e3 <;> omega
    rw [← hny]; exact hxn
  · intro hc
    exact hB.1 e e' u x y he he' hg hg' h1 h2 h3 h4 hx hy hc

-- an even set meets a class in an even set
theorem yBl_even (hI : ∀ e, e < m → G e = true → ∃ p q, p ≠ q ∧ p < N ∧ q < N ∧ ∀ n, I e n = true ↔ (n = p ∨ n = q)) (hB : yBl m I G cls)
    (w : Nat → Bool) (hw : ∀ e, e < m → w e = true → G e = true) (hev : yEv m I w) (r : Nat) :
    yEv m I (fun e => w e && decide (cls e = r)) := by
  rw [yEv_iff]
  intro u
  by_cases hex : ∃ e0, e0 < m ∧ G e0 = true ∧ I e0 u = true ∧ cls e0 = r
  · obtain ⟨e0, he0, hg0, hI0, hc0⟩ := hex
    obtain ⟨x0, hx0, hx0u⟩ : ∃ x0, I e0 x0 = true ∧ x0 ≠ u := by
      obtain ⟨p, q, hpq, _, _, hi⟩ := hI e0 he0 hg0
      rcases (hi u).1 hI0 with h | h
      · exact ⟨q, (hi q).2 (Or.inr rfl), fun h2 => hpq (h.symm.trans h2.symm)⟩
      · exact ⟨p, (hi p).2 (Or.inl rfl), fun h2 => hpq (h2.trans h)⟩
    obtain ⟨D, hD⟩ : ∃ D : Nat → Bool, ∀ n, D n = yD (n ≠ u ∧ yCo m I G u x0 n) := ⟨_, fun _ => rfl⟩
    have h0 : yX N (fun n => D n && yDg m I w n) = false := by
      apply yX_false
      intro n _
      rw [(yEv_iff m I w).1 hev n]; simp
    have h1 : yX N (fun n => D n && yDg m I w n) = yX m (fun e => w e && yX N (fun n => D n && I e n)) := by
      have e1 : yX N (fun n => D n && yDg m I w n) = yX N (fun n => yX m (fun e => w e && (D n && I e n))) := by
        apply yX_congr
        intro n _
        rw [← yDg_and]
        unfold yDg
        apply yX_congr
        intro e _
        dsimp only
        cases D n <;> cases w e <;> cases I e n <;> rfl
      rw [e1, yX_swap]
      apply yX_congr
      intro e _
      cases w e with
      | false => rw [yX_false]; rfl; intros; rfl
      | true => simp
    rw [h1] at h0
    rw [← h0]
    unfold yDg
    apply yX_congr
    intro e he
    dsimp only
    cases hwe : w e with
    | false => simp
    | true =>
      have hg := hw e he hwe
      obtain ⟨p, q, hpq, hpN, hqN, hi⟩ := hI e he hg
      have hIp := (hi p).2 (Or.inl rfl)
      have hIq := (hi q).2 (Or.inr rfl)
      simp only [Bool.true_and]
      rw [yX_two N _ p q hpN hqN hpq]
      · rw [hIp, hIq, Bool.and_true, Bool.and_true]
        by_cases hpu : p = u
        · have hqu : q ≠ u := fun h => hpq (hpu.trans h.symm)
          have hiff := yBl_at hI hB u e0 x0 e q he0 he hg0 hg hI0 hx0 (by rw [← hpu]; exact hIp) hIq hx0u hqu
          rw [hc0] at hiff
          rw [hD, hD, yD_neg (fun h => h.1 hpu)]
          have hIu : I e u = true := by rw [← hpu]; exact hIp
          rw [hIu, Bool.and_true, Bool.false_xor, Bool.eq_iff_iff, yD_iff, decide_eq_true_iff]
          constructor
          · intro h; exact ⟨hqu, hiff.1 h.symm⟩
          · intro h; exact (hiff.2 h.2).symm
        · by_cases hqu : q = u
          · have hiff := yBl_at hI hB u e0 x0 e p he0 he hg0 hg hI0 hx0 (by rw [← hqu]; exact hIq) hIp hx0u hpu
            rw [hc0] at hiff
            rw [hD, hD, yD_neg (p := q ≠ u ∧ yCo m I G u x0 q) (fun h => h.1 hqu)]
            have hIu : I e u = true := by rw [← hqu]; exact hIq
            rw [hIu, Bool.and_true, Bool.xor_false, Bool.eq_iff_iff, yD_iff, decide_eq_true_iff]
            constructor
            · intro h; exact ⟨hpu, hiff.1 h.symm⟩
            · intro h; exact (hiff.2 h.2).symm
          · have hIu : I e u = false := by
              cases h : I e u with
              | false => rfl
              | true => rcases (hi u).1 h with h2 | h2
                        · exact absurd h2.symm hpu
                        · exact absurd h2.symm hqu
            have : D p = D q := by
              rw [hD, hD, Bool.eq_iff_iff, yD_iff, yD_iff]
              constructor
              · intro h; exact ⟨hqu, yCo_step h.2 e he hg hIp hIq hpu hqu⟩
              · intro h; exact ⟨hpu, yCo_step h.2 e he hg hIq hIp hqu hpu⟩
            rw [hIu, this]; simp
      · intro n _ h2 h3
        cases hin : I e n with
        | false => simp
        | true => rcases (hi n).1 hin with h4 | h4 <;> contradiction
  · apply yDg_false
    intro e he hI'
    cases hwe : w e with
    | false => rfl
    | true =>
      by_cases hc : cls e = r
      · exact absurd ⟨e, he, hw e he hwe, hI', hc⟩ hex
      · simp [hc]

theorem yBl_v2 (hI : ∀ e, e < m → G e = true → ∃ p q, p ≠ q ∧ p < N ∧ q < N ∧ ∀ n, I e n = true ↔ (n = p ∨ n = q)) (hB : yBl m I G cls) (r : Nat) :
    yV2 m I (fun e => G e && decide (cls e = r)) := by
  intro v a b ha hb hab hXa hXb hIa hIb
  simp only [Bool.and_eq_true, decide_eq_true_iff] at hXa hXb
  have hother : ∀ e, e < m → G e = true → I e v = true → ∃ x, I e x = true ∧ x ≠ v ∧ ∀ n, I e n = true ↔ (n = v ∨ n = x) := by
    intro e he hg hv
    obtain ⟨p, q, hpq, _, _, hi⟩ := hI e he hg
    rcases (hi v).1 hv with h | h
    · refine ⟨q, (hi q).2 (Or.inr rfl), fun h2 => hpq (h.symm.trans h2.symm), fun n => ?_⟩
      rw [hi n, h]
    · refine ⟨p, (hi p).2 (Or.inl rfl), fun h2 => hpq (h2.trans h), fun n => ?_⟩
      rw [hi n, h]; constructor <;> (intro h3; exact h3.symm)
  obtain ⟨x, hx, hxv, hxi⟩ := hother a ha hXa.1 hIa
  obtain ⟨y, hy, hyv, hyi⟩ := hother b hb hXb.1 hIb
  have hco := (yBl_at hI hB v a x b y ha hb hXa.1 hXb.1 hIa hx hIb hy hxv hyv).1 (hXa.2.trans hXb.2.symm)
  -- a way from x to y without v
  have hP : ∃ P : Nat → Bool, (∀ e, e < m → P e = true → G e = true ∧ I e v = false) ∧ ∀ n, yDg m I P n = Bool.xor (decide (n = x)) (decide (n = y)) := by
    apply hco (fun z => ∃ P : Nat → Bool, (∀ e, e < m → P e = true → G e = true ∧ I e v = false) ∧ ∀ n, yDg m I P n = Bool.xor (decide (n = x)) (decide (n = z)))
    · refine ⟨fun _ => false, fun e _ h => by (cases h), fun n => ?_⟩
      rw [yDg_false]
      · simp
      · intros; rfl
    · intro e p q he hg hp hq hpv hqv ⟨P, h1, h2⟩
      by_cases hpq : p = q
      · rw [← hpq]; exact ⟨P, h1, h2⟩
      have hIv : I e v = false ∧ ∀ n, I e n = true ↔ (n = p ∨ n = q) := by
        obtain ⟨p1, q1, hpq1, _, _, hi⟩ := hI e he hg
        have e1 := (hi p).1 hp
        have e2 := (hi q).1 hq
        have hi' : ∀ n, I e n = true ↔ (n = p ∨ n = q) := by
          intro n
          rw [hi n]
          rcases e1 with e1 | e1 <;> rcases e2 with e2 | e2 <;> omega
        refine ⟨?_, hi'⟩
        cases h : I e v with
        | false => rfl
        | true => rcases (hi' v).1 h with h3 | h3
                  · exact absurd h3.symm hpv
                  · exact absurd h3.symm hqv
      refine ⟨fun d => Bool.xor (P d) (decide (d = e)), ?_, ?_⟩
      · intro d hd h
        cases hPd : P d with
        | true => exact h1 d hd hPd
        | false =>
          dsimp only at h
          rw [hPd, Bool.false_xor] at h
          rw [of_decide_eq_true h]; exact ⟨hg, hIv.1⟩
      · intro n
        rw [yDg_xor, h2 n]
        have h3 : yDg m I (fun d => decide (d = e)) n = I e n := by
          cases hin : I e n with
          | true =>
            rw [yDg_one m I _ n e he hin]
            · simp
            · intro d _ _ hde; simp [hde]
          | false =>
            apply yDg_false
            intro d _ hd
            by_cases hde : d = e
            · rw [hde, hin] at hd; cases hd
            · simp [hde]
        rw [h3]
        cases hin : I e n with
        | true =>
          rcases (hIv.2 n).1 hin with h4 | h4
          · rw [h4]
            simp [hpq]
          · rw [h4]
            have : ¬ q = p := fun h => hpq h.symm
            simp [this]
        | false =>
          have h4 : n ≠ p := fun h => by rw [(hIv.2 n).2 (Or.inl h)] at hin; cases hin
          have h5 : n ≠ q := fun h => by rw [(hIv.2 n).2 (Or.inr h)] at hin; cases hin
          simp [h4, h5]
  obtain ⟨P, hP1, hP2⟩ := hP
  -- the round over v
  have hsing : ∀ e x, e < m → (∀ n, I e n = true ↔ (n = v ∨ n = x)) → x ≠ v → ∀ n, yDg m I (fun d => decide (d = e)) n = Bool.xor (decide (n = v)) (decide (n = x)) := by
    intro e x he hi hxv n
    cases hin : I e n with
    | true =>
      rw [yDg_one m I _ n e he hin]
      · rcases (hi n).1 hin with h | h
        · rw [h]; have : ¬ v = x := fun h => hxv h.symm
          simp [this]
        · rw [h]; simp [hxv]
      · intro d _ _ hde; simp [hde]
    | false =>
      rw [yDg_false]
      · have h4 : n ≠ v := fun h => by rw [(hi n).2 (Or.inl h)] at hin; cases hin
        have h5 : n ≠ x := fun h => by rw [(hi n).2 (Or.inr h)] at hin; cases hin
        simp [h4, h5]
      · intro d _ hd
        by_cases hde : d = e
        · rw [hde, hin] at hd; cases hd
        · simp [hde]
  have hw0 : yEv m I (fun d => Bool.xor (P d) (Bool.xor (decide (d = a)) (decide (d = b)))) := by
    rw [yEv_iff]
    intro n
    rw [yDg_xor, yDg_xor, hP2, hsing a x ha hxi hxv, hsing b y hb hyi hyv]
    cases decide (n = x) <;> cases decide (n = y) <;> cases decide (n = v) <;> rfl
  have hPa : P a = false := by
    cases h : P a with
    | false => rfl
    | true => rw [(hP1 a ha h).2] at hIa; cases hIa
  have hPb : P b = false := by
    cases h : P b with
    | false => rfl
    | true => rw [(hP1 b hb h).2] at hIb; cases hIb
  have hsub : ∀ e, e < m → Bool.xor (P e) (Bool.xor (decide (e = a)) (decide (e = b))) = true → G e = true := by
    intro e he h
    cases hPe : P e with
    | true => exact (hP1 e he hPe).1
    | false =>
      by_cases h1 : e = a
      · rw [h1]; exact hXa.1
      · by_cases h2 : e = b
        · rw [h2]; exact hXb.1
        · rw [hPe] at h; simp [h1, h2] at h
  have hba : ¬ b = a := fun h => hab h.symm
  refine ⟨fun e => Bool.xor (P e) (Bool.xor (decide (e = a)) (decide (e = b))) && decide (cls e = r), ?_, yBl_even hI hB _ hsub hw0 r, ?_, ?_, ?_⟩
  · intro e he h
    simp only [Bool.and_eq_true, decide_eq_true_iff] at h ⊢
    exact ⟨hsub e he h.1, h.2⟩
  · simp [hPa, hab, hXa.2]
  · simp [hPb, hba, hXb.2]
  · intro e he h hv
    simp only [Bool.and_eq_true] at h
    have hPe : P e = false := by
      cases h1 : P e with
      | false => rfl
      | true => rw [(hP1 e he h1).2] at hv; cases hv
    rw [hPe, Bool.false_xor] at h
    by_cases h1 : e = a
    · exact Or.inl h1
    · by_cases h2 : e = b
      · exact Or.inr h2
      · simp [h1, h2] at h

-- labellings of the classes make one of the whole
theorem yBl_join (hI : ∀ e, e < m → G e = true → ∃ p q, p ≠ q ∧ p < N ∧ q < N ∧ ∀ n, I e n = true ↔ (n = p ∨ n = q)) (hB : yBl m I G cls)
    (s t : Nat → Nat → Nat) (h : ∀ r, yDs m I (fun e => G e && decide (cls e = r)) (fun _ => false) (s r) (t r)) :
    yDs (L := Nat × Nat) m I G (fun _ => false) (fun e => (cls e, s (cls e) e)) (fun e => (cls e, t (cls e) e)) := by
  constructor
  · intro c
    rw [yEv_iff]
    intro v
    unfold yDg
    apply yX_group cls
    intro i
    have h1 := (yEv_iff m I _).1 ((h i).1 (fun l => c (i, l))) v
    refine Eq.trans ?_ h1
    unfold yDg
    apply yX_congr
    intro e _
    dsimp only
    by_cases hc : cls e = i
    · subst hc; rw [yD_pos rfl]; simp only [Bool.true_and, decide_true, Bool.and_true]
    · rw [yD_neg hc]; simp [hc]
  · intro y hy hev
    have hr : ∀ r, ∃ c : Nat → Bool, ∀ e, e < m → G e = true → cls e = r → y e = Bool.xor (c (t r e)) (c (s r e)) := by
      intro r
      obtain ⟨c, hc⟩ := (h r).2 (fun e => y e && decide (cls e = r)) (by
        intro e he hh
        simp only [Bool.and_eq_true] at hh ⊢
        exact ⟨hy e he hh.1, hh.2⟩) (yBl_even hI hB y hy hev r)
      refine ⟨c, fun e he hg hcl => ?_⟩
      have := hc e he (by simp [hg, hcl])
      simpa [hcl] using this
    obtain ⟨c, hc⟩ := yChoice hr
    refine ⟨fun l => c l.1 l.2, ?_⟩
    intro e he hg
    rw [hc (cls e) e he hg rfl]; simp
end


section
variable {n F : Nat} {g : Nat → Nat → Bool} {fo ρ : Nat → Nat → Nat}

-- the edges of a face
theorem yTg_Z (h : yTg n g F fo ρ) {a b : Nat} (hab : g a b = true) {e : Nat} (he : e < 1024) :
    yZ (yGr g) (yS1 fo) (yT1 fo) (fo a b) e = true ↔ (e = yIx a b ∨ e = yIx b (ρ a b) ∨ e = yIx (ρ a b) a) := by
  have t := yTg_th h hab
  have hz : ∀ x y, g x y = true → fo x y = fo a b → yZ (yGr g) (yS1 fo) (yT1 fo) (fo a b) (yIx x y) = true := by
    intro x y hxy hf
    have gx := yTg_gr h hxy
    rw [yZ_iff]
    refine ⟨gx.2.2.2.2.2.2.1, ?_⟩
    rcases yLb fo (by omega : x < 32) (by omega : y < 32) gx.2.2.1 with d | d
    · left; rw [d.1]; exact hf
    · right; rw [d.2]; exact hf
  constructor
  · intro hh
    rw [yZ_iff] at hh
    have h1 := yGr_node h.2.2.1 hh.1
    have hge : g (e/32) (e%32) = true := by have := hh.1; unfold yGr at this; rw [Bool.and_eq_true] at this; exact this.2
    have hde := yIx_de h1.1
    have key : ∀ x y, g x y = true → yIx x y = e → fo x y = fo a b → (e = yIx a b ∨ e = yIx b (ρ a b) ∨ e = yIx (ρ a b) a) := by
      intro x y hxy hxe hf
      rcases yTg_fo h hab hxy hf with c | c | c
      · left; rw [← hxe, c.1, c.2]
      · right; left; rw [← hxe, c.1, c.2]
      · right; right; rw [← hxe, c.1, c.2]
    unfold yS1 yT1 at hh
    rcases hh.2 with c | c
    · exact key _ _ hge hde c
    · exact key _ _ (by rw [h.2.2.1.2]; exact hge) (by rw [yIx_comm]; exact hde) c
  · rintro (c | c | c)
    · rw [c]; exact hz a b hab rfl
    · rw [c]; exact hz _ _ t.2.1 t.2.2.2.2.2.1
    · rw [c]; exact hz _ _ t.2.2.1 t.2.2.2.2.2.2

theorem yTg_Zci (h : yTg n g F fo ρ) {a b : Nat} (hab : g a b = true) : yCi 1024 yI (yZ (yGr g) (yS1 fo) (yT1 fo) (fo a b)) := by
  have t := yTg_th h hab
  have g1 := yTg_gr h hab; have g2 := yTg_gr h t.2.1; have g3 := yTg_gr h t.2.2.1
  have hci := yCy_ci (n := 3) (v := fun k => if k = 0 then a else if k = 1 then b else ρ a b) (by omega) (by
    intro i hi
    rcases (by omega : i = 0 ∨ i = 1 ∨ i = 2) with d | d | d <;> subst d <;> simp <;> omega) (by
    intro i j hi hj hij
    rcases (by omega : i = 0 ∨ i = 1 ∨ i = 2) with d | d | d <;> rcases (by omega : j = 0 ∨ j = 1 ∨ j = 2) with d' | d' | d' <;> subst d <;> subst d' <;> simp at hij <;> first | rfl | (exfalso; omega))
  refine yCi_congr hci ?_
  intro e he
  rw [Bool.eq_iff_iff, yTg_Z h hab he]
  unfold yCy
  rw [yD_iff]
  apply Iff.symm
  constructor
  · rintro (c | c | c)
    · exact ⟨0, by omega, by simpa using c⟩
    · exact ⟨1, by omega, by simpa using c⟩
    · exact ⟨2, by omega, by simpa using c⟩
  · rintro ⟨i, hi, c⟩
    rcases (by omega : i = 0 ∨ i = 1 ∨ i = 2) with d | d | d <;> subst d <;> simp at c
    · exact Or.inl c
    · exact Or.inr (Or.inl c)
    · exact Or.inr (Or.inr c)

theorem yTg_lab (h : yTg n g F fo ρ) {l e : Nat} (he : e < 1024) (hz : yZ (yGr g) (yS1 fo) (yT1 fo) l e = true) : ∃ a b, g a b = true ∧ fo a b = l := by
  rw [yZ_iff] at hz
  have h1 := yGr_node h.2.2.1 hz.1
  have hge : g (e/32) (e%32) = true := by have := hz.1; unfold yGr at this; rw [Bool.and_eq_true] at this; exact this.2
  unfold yS1 yT1 at hz
  rcases hz.2 with c | c
  · exact ⟨_, _, hge, c⟩
  · exact ⟨_, _, by rw [h.2.2.1.2]; exact hge, c⟩

theorem yTg_conn (h : yTg n g F fo ρ) : yConn 1024 yI (yGr g) := by
  intro U hex hcl e v he hx hI
  obtain ⟨e0, v0, he0, hx0, hI0, hU0⟩ := hex
  have hc := yMax_con h.2.2.2.1 (fun z => yD (U z)) (by
    intro d hd hxd
    have Id := yMax_ends h.2.2.2.1 hd hxd
    rw [Bool.eq_iff_iff, yD_iff, yD_iff]
    exact ⟨hcl d _ _ hd hxd ((Id _).2 (Or.inl rfl)) ((Id _).2 (Or.inr rfl)), hcl d _ _ hd hxd ((Id _).2 (Or.inr rfl)) ((Id _).2 (Or.inl rfl))⟩)
  have b0 : v0 < n := by
    have := yGr_node h.2.2.1 hx0
    rcases (yMax_ends h.2.2.2.1 he0 hx0 v0).1 hI0 with c | c <;> omega
  have b1 : v < n := by
    have := yGr_node h.2.2.1 hx
    rcases (yMax_ends h.2.2.2.1 he hx v).1 hI with c | c <;> omega
  have := hc v0 v b0 b1
  rw [yD_pos hU0] at this
  exact (yD_iff _).1 this.symm

-- three neighbours are a face just if the others hang together
theorem yTg_face (h : yTg n g F fo ρ) {a b c : Nat} (hab : g a b = true) (hbc : g b c = true) (hca : g c a = true) {x0 : Nat} (hx0 : x0 < n) (hxn : ¬ (x0 = a ∨ x0 = b ∨ x0 = c)) :
    (∀ W : Nat → Prop, W x0 → (∀ p q, g p q = true → W p → ¬ (p = a ∨ p = b ∨ p = c) → ¬ (q = a ∨ q = b ∨ q = c) → W q) → ∀ x, x < n → ¬ (x = a ∨ x = b ∨ x = c) → W x) ↔
    (c = ρ a b ∨ c = ρ b a) := by
  have hgs := h.2.2.1.2
  have g1 := yTg_gr h hab; have g2 := yTg_gr h hbc; have g3 := yTg_gr h hca
  constructor
  · intro hW
    obtain ⟨d0, hd0, hxd0, hId0⟩ := yMax_edge h.2.2.2.1 hx0
    obtain ⟨l, hl1, hl2⟩ := yTri_face h.2.2.2.2.1 (yMax_v2 h.2.2.2.1) (fun e => decide (e = yIx b c ∨ e = yIx a b ∨ e = yIx a c)) (fun v => v = a ∨ v = b ∨ v = c)
      (yEv_tri (by omega) (by omega) (by omega) g1.2.2.1 (Ne.symm g3.2.2.1) g2.2.2.1) (by
        intro e _ he
        rcases of_decide_eq_true he with d | d | d
        · rw [d]; exact g2.2.2.2.2.2.2.1
        · rw [d]; exact g1.2.2.2.2.2.2.1
        · rw [d, yIx_comm]; exact g3.2.2.2.2.2.2.1) (by
        intro e _ he v hv
        rcases of_decide_eq_true he with d | d | d
        · rw [d, g2.2.2.2.2.2.2.2 v] at hv; exact Or.inr hv
        · rw [d, g1.2.2.2.2.2.2.2 v] at hv
          rcases hv with e | e
          · exact Or.inl e
          · exact Or.inr (Or.inl e)
        · rw [d, yIx_comm, g3.2.2.2.2.2.2.2 v] at hv
          rcases hv with e | e
          · exact Or.inr (Or.inr e)
          · exact Or.inl e) (yIx a b) ⟨g1.2.2.2.2.2.1, by simp⟩ d0 x0 ⟨hd0, hxd0, hId0, hxn⟩ (by
        intro W hW0 hWc e v he hx hI hv
        refine hW W hW0 ?_ v ?_ hv
        · intro p q hpq hWp hp hq
          have gp := yTg_gr h hpq
          exact hWc (yIx p q) p q gp.2.2.2.2.2.1 gp.2.2.2.2.2.2.1 ((gp.2.2.2.2.2.2.2 p).2 (Or.inl rfl)) ((gp.2.2.2.2.2.2.2 q).2 (Or.inr rfl)) hWp hp hq
        · have := yGr_node h.2.2.1 hx
          rcases (yMax_ends h.2.2.2.1 he hx v).1 hI with d | d <;> omega)
    rw [yZ_iff] at hl1
    have key : ∀ x y, g x y = true → fo x y = l → (ρ x y = a ∨ ρ x y = b ∨ ρ x y = c) := by
      intro x y hxy hf
      have t := yTg_th h hxy
      have gy := yTg_gr h t.2.1
      refine hl2 (yIx y (ρ x y)) (ρ x y) gy.2.2.2.2.2.1 ?_ ((gy.2.2.2.2.2.2.2 _).2 (Or.inr rfl))
      rw [← hf, yTg_Z h hxy gy.2.2.2.2.2.1]
      exact Or.inr (Or.inl rfl)
    have hba : g b a = true := by rw [hgs]; exact hab
    have t1 := yTg_th h hab; have t2 := yTg_th h hba
    have g4 := yTg_gr h t1.2.1; have g5 := yTg_gr h t1.2.2.1
    have g6 := yTg_gr h t2.2.1; have g7 := yTg_gr h t2.2.2.1
    rcases yLb fo (by omega : a < 32) (by omega : b < 32) g1.2.2.1 with d | d
    · rw [d.1, d.2] at hl1
      rcases hl1.2 with e | e
      · left; have := key a b hab e; omega
      · right; have := key b a hba e; omega
    · rw [d.1, d.2] at hl1
      rcases hl1.2 with e | e
      · right; have := key b a hba e; omega
      · left; have := key a b hab e; omega
  · intro hc W hW0 hWc x hx hxn'
    obtain ⟨d0, hd0, hxd0, hId0⟩ := yMax_edge h.2.2.2.1 hx0
    obtain ⟨d1, hd1, hxd1, hId1⟩ := yMax_edge h.2.2.2.1 hx
    -- the face
    have hf : ∃ p q, g p q = true ∧ ((p = a ∧ q = b) ∨ (p = b ∧ q = a)) ∧ ρ p q = c := by
      rcases hc with d | d
      · exact ⟨a, b, hab, Or.inl ⟨rfl, rfl⟩, d.symm⟩
      · exact ⟨b, a, by rw [hgs]; exact hab, Or.inr ⟨rfl, rfl⟩, d.symm⟩
    obtain ⟨p, q, hpq, hpe, hρ⟩ := hf
    have hset : ∀ v, (v = p ∨ v = q ∨ v = ρ p q) ↔ (v = a ∨ v = b ∨ v = c) := by
      intro v; rw [hρ]; rcases hpe with d | d <;> omega
    refine yTri_keeps h.2.2.2.2.1 (yMax_v2 h.2.2.2.1) (yTg_conn h) ?_ (fo p q) (fun v => v = a ∨ v = b ∨ v = c) (yTg_Zci h hpq) ?_ ?_ W ?_ d0 x0 ⟨hd0, hxd0, hId0, hW0, hxn⟩ d1 x ⟨hd1, hxd1, hId1, hxn'⟩
    · -- nodes of a face are neighbours
      intro l e u e' w he he' hz hz' hI hI' huw
      obtain ⟨k, m, hkm, hl⟩ := yTg_lab h he hz
      subst hl
      have t := yTg_th h hkm
      have gk := yTg_gr h hkm; have gm := yTg_gr h t.2.1; have gr := yTg_gr h t.2.2.1
      have hin : ∀ e v, e < 1024 → yZ (yGr g) (yS1 fo) (yT1 fo) (fo k m) e = true → yI e v = true → (v = k ∨ v = m ∨ v = ρ k m) := by
        intro e v he hz hI
        rw [yTg_Z h hkm he] at hz
        rcases hz with d | d | d
        · rw [d, gk.2.2.2.2.2.2.2 v] at hI; rcases hI with i | i <;> omega
        · rw [d, gm.2.2.2.2.2.2.2 v] at hI; rcases hI with i | i <;> omega
        · rw [d, gr.2.2.2.2.2.2.2 v] at hI; rcases hI with i | i <;> omega
      have hu := hin e u he hz hI
      have hw := hin e' w he' hz' hI'
      have hadj : g u w = true := by
        have a1 := hkm; have a2 := t.2.1; have a3 := t.2.2.1
        have a1' : g m k = true := by rw [hgs]; exact a1
        have a2' : g (ρ k m) m = true := by rw [hgs]; exact a2
        have a3' : g k (ρ k m) = true := by rw [hgs]; exact a3
        rcases hu with d | d | d <;> rcases hw with d' | d' | d' <;> rw [d, d'] at huw ⊢ <;> first | exact absurd rfl huw | assumption
      have gu := yTg_gr h hadj
      exact ⟨yIx u w, gu.2.2.2.2.2.1, gu.2.2.2.2.2.2.1, (gu.2.2.2.2.2.2.2 u).2 (Or.inl rfl), (gu.2.2.2.2.2.2.2 w).2 (Or.inr rfl)⟩
    · intro e he hz v hI
      rw [← hset v]
      have t := yTg_th h hpq
      have gk := yTg_gr h hpq; have gm := yTg_gr h t.2.1; have gr := yTg_gr h t.2.2.1
      rw [yTg_Z h hpq he] at hz
      rcases hz with d | d | d
      · rw [d, gk.2.2.2.2.2.2.2 v] at hI; rcases hI with i | i <;> omega
      · rw [d, gm.2.2.2.2.2.2.2 v] at hI; rcases hI with i | i <;> omega
      · rw [d, gr.2.2.2.2.2.2.2 v] at hI; rcases hI with i | i <;> omega
    · intro e he hx' hall
      rw [yTg_Z h hpq he]
      have h1 := yGr_node h.2.2.1 hx'
      have Ie := yMax_ends h.2.2.2.1 he hx'
      have e1 := (hset _).2 (hall (e/32) ((Ie _).2 (Or.inl rfl)))
      have e2 := (hset _).2 (hall (e%32) ((Ie _).2 (Or.inr rfl)))
      have hde := yIx_de h1.1
      rw [← hde]
      rcases e1 with d | d | d <;> rcases e2 with d' | d' | d' <;> rw [d, d'] <;> first | (exfalso; omega) | exact Or.inl rfl | exact Or.inl (yIx_comm _ _) | exact Or.inr (Or.inl rfl) | exact Or.inr (Or.inl (yIx_comm _ _)) | exact Or.inr (Or.inr rfl) | exact Or.inr (Or.inr (yIx_comm _ _))
    · intro e p' q' he hx' hIp hIq hWp hp hq
      obtain ⟨w, hw, hew⟩ := yTg_at h he hx' hIp
      have gw := yTg_gr h hw
      rw [hew, gw.2.2.2.2.2.2.2 q'] at hIq
      rcases hIq with d | d
      · rw [d]; exact hWp
      · rw [d]; exact hWc p' w hw hWp hp (by rw [← d]; exact hq)
end


-- the round of a node's neighbours
def yIt (ρ : Nat → Nat → Nat) (v w0 : Nat) : Nat → Nat
  | 0 => w0
  | k+1 => ρ v (yIt ρ v w0 k)

def yLw (g : Nat → Nat → Bool) (v m : Nat) : Prop := g v m = true ∧ ∀ i, i < m → g v i = false

section
variable {n F : Nat} {g : Nat → Nat → Bool} {fo ρ : Nat → Nat → Nat}

theorem yTg_cyc (h : yTg n g F fo ρ) {v w0 : Nat} (hw0 : g v w0 = true) :
    1 ≤ yNb 32 (g v) ∧ (∀ i, g v (yIt ρ v w0 i) = true) ∧ yIt ρ v w0 (yNb 32 (g v)) = w0 ∧ (∀ i j, i < yNb 32 (g v) → j < yNb 32 (g v) → yIt ρ v w0 i = yIt ρ v w0 j → i = j) ∧
    (∀ w, g v w = true → ∃ i, i < yNb 32 (g v) ∧ w = yIt ρ v w0 i) := by
  have hgs := h.2.2.1.2
  have hfwd : ∀ w, g v w = true → g v (ρ v w) = true ∧ ρ (ρ v w) v = w := by
    intro w hw
    have := yTg_th h hw
    exact ⟨by rw [hgs]; exact this.2.2.1, this.2.2.2.2.1⟩
  have hg' : ∀ k, g v (yIt ρ v w0 k) = true := by
    intro k
    induction k with
    | zero => exact hw0
    | succ k ih => exact (hfwd _ ih).1
  have hrep : ∃ i j, i < j ∧ yIt ρ v w0 i = yIt ρ v w0 j := by
    by_cases hc' : ∃ i j, i < j ∧ yIt ρ v w0 i = yIt ρ v w0 j
    · exact hc'
    · exfalso
      have := yPig 33 32 (yIt ρ v w0) (fun i _ => by have := yTg_gr h (hg' i); omega) (by
        intro i j _ _ hij
        rcases Nat.lt_trichotomy i j with d | d | d
        · exact absurd ⟨i, j, d, hij⟩ hc'
        · exact d
        · exact absurd ⟨j, i, d, hij.symm⟩ hc')
      omega
  have hcan : ∀ i d, yIt ρ v w0 i = yIt ρ v w0 (i+d) → w0 = yIt ρ v w0 d := by
    intro i
    induction i with
    | zero => intro d hd; rw [Nat.zero_add] at hd; exact hd
    | succ i ih =>
      intro d hd
      apply ih d
      have e : i + 1 + d = (i + d) + 1 := by omega
      rw [e] at hd
      have h1 := (hfwd _ (hg' i)).2
      have h2 := (hfwd _ (hg' (i+d))).2
      have hd' : ρ v (yIt ρ v w0 i) = ρ v (yIt ρ v w0 (i+d)) := hd
      rw [hd'] at h1
      exact h1.symm.trans h2
  -- the least period
  have hleast : ∀ N, (∃ p, 1 ≤ p ∧ p ≤ N ∧ yIt ρ v w0 p = w0) → ∃ p, 1 ≤ p ∧ yIt ρ v w0 p = w0 ∧ ∀ q, 1 ≤ q → q < p → yIt ρ v w0 q ≠ w0 := by
    intro N
    induction N with
    | zero => rintro ⟨p, h1, h2, _⟩; omega
    | succ N ih =>
      rintro ⟨p, h1, h2, h3⟩
      by_cases hc' : ∃ q, 1 ≤ q ∧ q < p ∧ yIt ρ v w0 q = w0
      · obtain ⟨q, q1, q2, q3⟩ := hc'
        exact ih ⟨q, q1, by omega, q3⟩
      · exact ⟨p, h1, h3, fun q q1 q2 q3 => hc' ⟨q, q1, q2, q3⟩⟩
  obtain ⟨i, j, hij, he⟩ := hrep
  obtain ⟨p, hp1, hp2, hp3⟩ := hleast (j-i) ⟨j-i, by omega, Nat.le_refl _, (hcan i (j-i) (by rw [show i + (j-i) = j by omega]; exact he)).symm⟩
  have hdist : ∀ i j, i < p → j < p → yIt ρ v w0 i = yIt ρ v w0 j → i = j := by
    have key : ∀ i j, i < j → j < p → yIt ρ v w0 i ≠ yIt ρ v w0 j := by
      intro i j hij hj he
      have := hcan i (j-i) (by rw [show i + (j-i) = j by omega]; exact he)
      exact hp3 (j-i) (by omega) (by omega) this.symm
    intro i j hi hj he
    rcases Nat.lt_trichotomy i j with d | d | d
    · exact absurd he (key i j d hj)
    · exact d
    · exact absurd he.symm (key j i d hi)
  have hall : ∀ w, g v w = true → ∃ i, i < p ∧ w = yIt ρ v w0 i := by
    refine yTg_orbit h (fun w => ∃ i, i < p ∧ w = yIt ρ v w0 i) hw0 ⟨0, by omega, rfl⟩ ?_
    rintro w _ ⟨i, hi, hw⟩
    by_cases c : i + 1 < p
    · exact ⟨i+1, c, by rw [hw]; rfl⟩
    · refine ⟨0, by omega, ?_⟩
      have : i + 1 = p := by omega
      rw [hw]
      show yIt ρ v w0 (i+1) = w0
      rw [this]; exact hp2
  have hpd : p = yNb 32 (g v) := by
    have h1 := yPigC p 32 (g v) (yIt ρ v w0) (fun i _ => ⟨by have := yTg_gr h (hg' i); omega, hg' i⟩) hdist
    obtain ⟨x, x1, _, x3⟩ := yList 32 (g v)
    have hch : ∀ k, ∃ i, k < yNb 32 (g v) → (i < p ∧ x k = yIt ρ v w0 i) := by
      intro k
      by_cases hk : k < yNb 32 (g v)
      · obtain ⟨i, hi⟩ := hall (x k) (x1 k hk).2
        exact ⟨i, fun _ => hi⟩
      · exact ⟨0, fun hh => absurd hh hk⟩
    have h2 := yPig (yNb 32 (g v)) p (fun k => Classical.choose (hch k)) (fun k hk => (Classical.choose_spec (hch k) hk).1) (by
      intro k k' hk hk' hkk
      apply x3 k k' hk hk'
      have a1 := (Classical.choose_spec (hch k) hk).2
      have a2 := (Classical.choose_spec (hch k') hk').2
      have hkk' : Classical.choose (hch k) = Classical.choose (hch k') := hkk
      rw [a1, hkk', ← a2])
    omega
  rw [← hpd]
  exact ⟨hp1, hg', hp2, hdist, hall⟩

theorem yTg_deg (h : yTg n g F fo ρ) (v : Nat) : yNb 32 (g v) ≤ 19 := by
  by_cases hv : v < n
  · have hn := h.2.1
    have h1 := yNb_strict 32 (g v) (fun w => decide (w < n)) v (by omega) (by
      cases c : g v v with
      | false => rfl
      | true => exact absurd rfl (h.2.2.1.1 v v c).2.2) (decide_eq_true hv) (fun w _ hw => decide_eq_true (h.2.2.1.1 v w hw).2.1)
    have h2 := yNb_ext 32 n (by omega) (fun w => decide (w < n)) (fun i _ => rfl)
    omega
  · have : yNb 32 (g v) = 0 := by
      have h0 : yNb 32 (fun _ => false) = 0 := by decide +kernel
      rw [← h0]
      apply yNb_congr
      intro w _
      cases c : g v w with
      | false => rfl
      | true => have := h.2.2.1.1 v w c; omega
    omega

theorem yTg_nb (h : yTg n g F fo ρ) {v : Nat} (hv : v < n) : ∃ m, yLw g v m ∧ m < n := by
  obtain ⟨e, he, hx, hI⟩ := yMax_edge h.2.2.2.1 hv
  obtain ⟨w, hw, _⟩ := yTg_at h he hx hI
  have key : ∀ N w, w < N → g v w = true → ∃ m, yLw g v m := by
    intro N
    induction N with
    | zero => intro w hw; omega
    | succ N ih =>
      intro w hwN hw
      by_cases c : ∃ x, x < w ∧ g v x = true
      · obtain ⟨x, x1, x2⟩ := c
        exact ih x (by omega) x2
      · refine ⟨w, hw, fun i hi => ?_⟩
        cases hh : g v i with
        | false => rfl
        | true => exact absurd ⟨i, hi, hh⟩ c
  obtain ⟨m, hm⟩ := key (w+1) w (by omega) hw
  exact ⟨m, hm, (h.2.2.1.1 v m hm.1).2.1⟩
end

theorem yLw_uniq {g : Nat → Nat → Bool} {v m m' : Nat} (h : yLw g v m) (h' : yLw g v m') : m = m' := by
  rcases Nat.lt_trichotomy m m' with c | c | c
  · have := h'.2 m c; rw [h.1] at this; cases this
  · exact c
  · have := h.2 m' c; rw [h'.1] at this; cases this

theorem w9_least {x : Int32} {k : Nat} (hk : k < 32) (hx : yM x k = true) (hl : ∀ i, i < k → yM x i = false) (K : Int32 → Unit → Prop) (h : K (Int32.ofNat k) ()) : wX9_least x K := by
  have key : ∀ d i, k - i = d → i ≤ k → wLX9_least_2 x K (d+1) (Int32.ofNat i) := by
    intro d
    induction d with
    | zero =>
      intro i hd hi
      have : i = k := by omega
      subst this
      unfold wLX9_least_2
      rw [yM_test hk, hx]
      exact ⟨fun _ => h, fun hh => absurd hh (by decide)⟩
    | succ d ih =>
      intro i hd hi
      have e1 : Int32.ofNat i + 1 = Int32.ofNat (i+1) := yn_add i 1
      unfold wLX9_least_2
      rw [e1, yM_test (by omega), hl i (by omega)]
      exact ⟨fun hh => absurd rfl hh, fun _ => ih (i+1) (by omega) (by omega)⟩
  unfold wX9_least
  exact ⟨k - 0 + 1, key (k-0) 0 rfl (by omega)⟩


-- ROUND in the reference's arrays
def yRnds (n : Nat) (g : Nat → Nat → Bool) (ρ : Nat → Nat → Nat) (ar as : Nat → Int32) : Prop :=
  ∀ v, v < n → as v = Int32.ofNat (yNb 32 (g v)) ∧ ∀ w0, yLw g v w0 → ∀ i, i < yNb 32 (g v) → ar (20*v+i) = Int32.ofNat (yIt ρ v w0 i)

section
variable {n F : Nat} {g : Nat → Nat → Bool} {fo ρ : Nat → Nat → Nat}

def yFol (g : Nat → Nat → Bool) (ρ : Nat → Nat → Nat) (t : Nat → Int32) : Prop := ∀ a b, g a b = true → t (21*a+b) = Int32.ofNat (ρ a b)

theorem yn_21 (a b : Nat) : (21 : Int32) * Int32.ofNat a + Int32.ofNat b = Int32.ofNat (21*a+b) := by
  have : (21 : Int32) = Int32.ofNat 21 := rfl
  rw [this, yn_mul, yn_add]
theorem yn_20 (a b : Nat) : (20 : Int32) * Int32.ofNat a + Int32.ofNat b = Int32.ofNat (20*a+b) := by
  have : (20 : Int32) = Int32.ofNat 20 := rfl
  rw [this, yn_mul, yn_add]
theorem yn_20' (a : Nat) : (20 : Int32) * Int32.ofNat a = Int32.ofNat (20*a) := by
  have : (20 : Int32) = Int32.ofNat 20 := rfl
  rw [this, yn_mul]

-- the node before in the round
theorem w9_beforeOf (h : yTg n g F fo ρ) {t : Nat → Int32} (ht : yFol g ρ t) {v x : Nat} (hx : g v x = true) (K : Int32 → Unit → Prop) (hK : K (Int32.ofNat (ρ x v)) ())
    (i0 i1 i2 i3 i4 i5 i6 i7 i8 i9 i10 i11 i12 i13 i14 i15 i16 i17 : Int32) :
    wX9_beforeOf i0 i1 i2 i3 i4 i5 i6 i7 i8 i9 i10 i11 i12 i13 i14 i15 i16 i17 t (Int32.ofNat v) (Int32.ofNat x) K := by
  obtain ⟨c1, c2, c3, c4, c5⟩ := yTg_cyc h hx
  have hd := yTg_deg h v
  have hlast : yIt ρ v x (yNb 32 (g v) - 1) = ρ x v := by
    have h1 : yIt ρ v x (yNb 32 (g v) - 1 + 1) = x := by rw [show yNb 32 (g v) - 1 + 1 = yNb 32 (g v) by omega]; exact c3
    have h2 := (yTg_th h (c2 (yNb 32 (g v) - 1))).2.2.2.2.1
    have h1' : ρ v (yIt ρ v x (yNb 32 (g v) - 1)) = x := h1
    rw [h1'] at h2
    exact h2.symm
  have key : ∀ d i, yNb 32 (g v) - 1 - i = d → i ≤ yNb 32 (g v) - 1 → wLX9_beforeOf_2 t (Int32.ofNat v) (Int32.ofNat x) K (d+1) (Int32.ofNat (yIt ρ v x i)) := by
    intro d
    induction d with
    | zero =>
      intro i hd' hi
      have hi' : i = yNb 32 (g v) - 1 := by omega
      have gi := yTg_gr h (c2 i)
      unfold wLX9_beforeOf_2
      rw [yn_21, yn_nat (by omega), ht v _ (c2 i)]
      refine ⟨yn_in (by omega) (by omega), fun _ => ?_, fun hh => ?_⟩
      · rw [hi', hlast]; exact hK
      · exfalso; apply hh; rw [hi', hlast]
        have := (yTg_th h (show g x v = true by rw [h.2.2.1.2]; exact hx)).2.2.2.1
        rw [this]
    | succ d ih =>
      intro i hd' hi
      have gi := yTg_gr h (c2 i)
      have gi1 := yTg_gr h (c2 (i+1))
      have gx := yTg_gr h hx
      unfold wLX9_beforeOf_2
      rw [yn_21, yn_nat (by omega), ht v _ (c2 i)]
      refine ⟨yn_in (by omega) (by omega), fun hh => ?_, fun hh => ⟨yn_in (by omega) (by omega), fun v28 h28 => ?_⟩⟩
      · exfalso
        have he : yIt ρ v x (i+1) = x := (yn_inj (by omega) (by omega)).1 hh
        have := c4 (i+1) 0 (by omega) (by omega) he
        omega
      · rw [h28]; exact ih (i+1) (by omega) (by omega)
  unfold wX9_beforeOf
  exact ⟨_, key (yNb 32 (g v) - 1 - 0) 0 rfl (by omega)⟩

-- one node's round
theorem w9_rounds229 (h : yTg n g F fo ρ) {t77 : Nat → Int32} (ht : yFol g ρ t77) {v w0 : Nat} (hw0 : yLw g v w0) (as0 : Nat → Int32)
    (K : ((Nat → Int32) × (Nat → Int32) × (Nat → Int32)) → Prop) (B : (Nat → Int32) → (Nat → Int32) → Int32 → Prop) (ar0 : Nat → Int32)
    (hB : ∀ ar, (∀ i, i < yNb 32 (g v) → ar (20*v+i) = Int32.ofNat (yIt ρ v w0 i)) → (∀ u j, u < v → j < 20 → ar (20*u+j) = ar0 (20*u+j)) → B ar (upd as0 v (Int32.ofNat (yNb 32 (g v)))) (Int32.ofNat (v+1))) :
    ∀ d k ar, yNb 32 (g v) - 1 - k = d → k ≤ yNb 32 (g v) - 1 → (∀ i, i < k → ar (20*v+i) = Int32.ofNat (yIt ρ v w0 i)) → (∀ u j, u < v → j < 20 → ar (20*u+j) = ar0 (20*u+j)) →
      wLX9_findRounds_229 t77 as0 (Int32.ofNat v) K B (d+1) ar (Int32.ofNat (yIt ρ v w0 k)) (Int32.ofNat k) := by
  obtain ⟨c1, c2, c3, c4, c5⟩ := yTg_cyc h hw0.1
  have hdg := yTg_deg h v
  have gv := yTg_gr h hw0.1
  intro d
  have step : ∀ k ar, k < yNb 32 (g v) → (∀ i, i < k → ar (20*v+i) = Int32.ofNat (yIt ρ v w0 i)) → (∀ u j, u < v → j < 20 → ar (20*u+j) = ar0 (20*u+j)) →
      ∀ ar', ar' = upd ar (20*v+k) (Int32.ofNat (yIt ρ v w0 k)) → (∀ i, i < k+1 → ar' (20*v+i) = Int32.ofNat (yIt ρ v w0 i)) ∧ (∀ u j, u < v → j < 20 → ar' (20*u+j) = ar0 (20*u+j)) := by
    intro k ar hk h1 h2 ar' har
    constructor
    · intro i hi
      rw [har]
      by_cases c : i = k
      · rw [c, yupd_same]
      · rw [yupd_ne _ _ _ _ (by omega)]; exact h1 i (by omega)
    · intro u j hu hj
      rw [har, yupd_ne _ _ _ _ (by omega)]; exact h2 u j hu hj
  have ev : Int32.ofNat v + 1 = Int32.ofNat (v+1) := yn_add v 1
  induction d with
  | zero =>
    intro k ar hd hk h1 h2
    have hk' : k + 1 = yNb 32 (g v) := by omega
    have e1 : Int32.ofNat k + 1 = Int32.ofNat (k+1) := yn_add k 1
    have gk := yTg_gr h (c2 k)
    unfold wLX9_findRounds_229
    rw [yn_20, yn_21, yn_20', e1, ev, yn_nat (by omega), yn_nat (by omega), yn_nat (by omega), yn_nat (by omega), ht v _ (c2 k)]
    refine ⟨yn_in (by omega) (by omega), fun ar' har => ⟨yn_in (by omega) (by omega), fun v275 h275 => ⟨yn_in (by omega) (by omega), fun hne => ?_, fun _ => ⟨yn_in (by omega) (by omega), fun g300 h300 => ?_⟩⟩⟩⟩
    · exfalso; apply hne
      obtain ⟨s1, _⟩ := step k ar (by omega) h1 h2 ar' har
      have := s1 0 (by omega)
      rw [Nat.add_zero] at this
      rw [h275, this]
      have : ρ v (yIt ρ v w0 k) = w0 := by
        have h3 : yIt ρ v w0 (k+1) = w0 := by rw [hk']; exact c3
        exact h3
      rw [this]; rfl
    · obtain ⟨s1, s2⟩ := step k ar (by omega) h1 h2 ar' har
      rw [h300, hk']
      exact hB ar' (fun i hi => s1 i (by omega)) s2
  | succ d ih =>
    intro k ar hd hk h1 h2
    have e1 : Int32.ofNat k + 1 = Int32.ofNat (k+1) := yn_add k 1
    have gk := yTg_gr h (c2 k)
    have gk1 := yTg_gr h (c2 (k+1))
    unfold wLX9_findRounds_229
    rw [yn_20, yn_21, yn_20', e1, ev, yn_nat (by omega), yn_nat (by omega), yn_nat (by omega), yn_nat (by omega), ht v _ (c2 k)]
    refine ⟨yn_in (by omega) (by omega), fun ar' har => ⟨yn_in (by omega) (by omega), fun v275 h275 => ⟨yn_in (by omega) (by omega), fun _ => ?_, fun heq => ?_⟩⟩⟩
    · obtain ⟨s1, s2⟩ := step k ar (by omega) h1 h2 ar' har
      rw [h275]
      exact ih (k+1) ar' (by omega) (by omega) s1 s2
    · exfalso
      obtain ⟨s1, _⟩ := step k ar (by omega) h1 h2 ar' har
      have h0 := s1 0 (by omega)
      rw [Nat.add_zero] at h0
      rw [h275, h0] at heq
      have g0 := yTg_gr h (c2 0)
      have he : yIt ρ v w0 (k+1) = yIt ρ v w0 0 := (yn_inj (by omega) (by omega)).1 heq
      have := c4 (k+1) 0 (by omega) (by omega) he
      omega

-- the same the other way round
theorem w9_rounds229_1 (h : yTg n g F fo ρ) {t77 : Nat → Int32} (ht : yFol g ρ t77) {v w0 : Nat} (hw0 : yLw g v w0) (as0 : Nat → Int32)
    (i0 i1 i2 i3 i4 i5 i6 i7 i8 i9 i10 i11 i12 i13 i14 i15 i16 i17 : Int32)
    (K : ((Nat → Int32) × (Nat → Int32) × (Nat → Int32)) → Prop) (B : (Nat → Int32) → (Nat → Int32) → Int32 → Prop) (ar0 : Nat → Int32)
    (hB : ∀ ar, (∀ i, i < yNb 32 (g v) → ar (20*v+i) = Int32.ofNat (yIt (fun a b => ρ b a) v w0 i)) → (∀ u j, u < v → j < 20 → ar (20*u+j) = ar0 (20*u+j)) → B ar (upd as0 v (Int32.ofNat (yNb 32 (g v)))) (Int32.ofNat (v+1))) :
    ∀ d k ar, yNb 32 (g v) - 1 - k = d → k ≤ yNb 32 (g v) - 1 → (∀ i, i < k → ar (20*v+i) = Int32.ofNat (yIt (fun a b => ρ b a) v w0 i)) → (∀ u j, u < v → j < 20 → ar (20*u+j) = ar0 (20*u+j)) →
      wLX9_findRounds_229_1 i0 i1 i2 i3 i4 i5 i6 i7 i8 i9 i10 i11 i12 i13 i14 i15 i16 i17 t77 as0 (Int32.ofNat v) K B (d+1) ar (Int32.ofNat (yIt (fun a b => ρ b a) v w0 k)) (Int32.ofNat k) := by
  have h' := yTg_rev h
  obtain ⟨c1, c2, c3, c4, c5⟩ := yTg_cyc h' hw0.1
  have hdg := yTg_deg h v
  have gv := yTg_gr h hw0.1
  intro d
  have step : ∀ k ar, k < yNb 32 (g v) → (∀ i, i < k → ar (20*v+i) = Int32.ofNat (yIt (fun a b => ρ b a) v w0 i)) → (∀ u j, u < v → j < 20 → ar (20*u+j) = ar0 (20*u+j)) →
      ∀ ar', ar' = upd ar (20*v+k) (Int32.ofNat (yIt (fun a b => ρ b a) v w0 k)) → (∀ i, i < k+1 → ar' (20*v+i) = Int32.ofNat (yIt (fun a b => ρ b a) v w0 i)) ∧ (∀ u j, u < v → j < 20 → ar' (20*u+j) = ar0 (20*u+j)) := by
    intro k ar hk h1 h2 ar' har
    constructor
    · intro i hi
      rw [har]
      by_cases c : i = k
      · rw [c, yupd_same]
      · rw [yupd_ne _ _ _ _ (by omega)]; exact h1 i (by omega)
    · intro u j hu hj
      rw [har, yupd_ne _ _ _ _ (by omega)]; exact h2 u j hu hj
  have ev : Int32.ofNat v + 1 = Int32.ofNat (v+1) := yn_add v 1
  induction d with
  | zero =>
    intro k ar hd hk h1 h2
    have hk' : k + 1 = yNb 32 (g v) := by omega
    have e1 : Int32.ofNat k + 1 = Int32.ofNat (k+1) := yn_add k 1
    have gk := yTg_gr h (c2 k)
    unfold wLX9_findRounds_229_1
    rw [yn_20, yn_20', e1, ev, yn_nat (by omega), yn_nat (by omega), yn_nat (by omega)]
    refine ⟨yn_in (by omega) (by omega), fun ar' har => ?_⟩
    refine w9_beforeOf h ht (c2 k) _ ?_ _ _ _ _ _ _ _ _ _ _ _ _ _ _ _ _ _ _
    refine ⟨yn_in (by omega) (by omega), fun hne => ?_, fun _ => ⟨yn_in (by omega) (by omega), fun g300 h300 => ?_⟩⟩
    · exfalso; apply hne
      obtain ⟨s1, _⟩ := step k ar (by omega) h1 h2 ar' har
      have := s1 0 (by omega)
      rw [Nat.add_zero] at this
      rw [this]
      have : ρ (yIt (fun a b => ρ b a) v w0 k) v = w0 := by
        have h3 : yIt (fun a b => ρ b a) v w0 (k+1) = w0 := by rw [hk']; exact c3
        exact h3
      rw [this]; rfl
    · obtain ⟨s1, s2⟩ := step k ar (by omega) h1 h2 ar' har
      rw [h300, hk']
      exact hB ar' (fun i hi => s1 i (by omega)) s2
  | succ d ih =>
    intro k ar hd hk h1 h2
    have e1 : Int32.ofNat k + 1 = Int32.ofNat (k+1) := yn_add k 1
    have gk := yTg_gr h (c2 k)
    have gk1 := yTg_gr h (c2 (k+1))
    unfold wLX9_findRounds_229_1
    rw [yn_20, yn_20', e1, ev, yn_nat (by omega), yn_nat (by omega), yn_nat (by omega)]
    refine ⟨yn_in (by omega) (by omega), fun ar' har => ?_⟩
    refine w9_beforeOf h ht (c2 k) _ ?_ _ _ _ _ _ _ _ _ _ _ _ _ _ _ _ _ _ _
    refine ⟨yn_in (by omega) (by omega), fun _ => ?_, fun heq => ?_⟩
    · obtain ⟨s1, s2⟩ := step k ar (by omega) h1 h2 ar' har
      exact ih (k+1) ar' (by omega) (by omega) s1 s2
    · exfalso
      obtain ⟨s1, _⟩ := step k ar (by omega) h1 h2 ar' har
      have h0 := s1 0 (by omega)
      rw [Nat.add_zero] at h0
      rw [h0] at heq
      have g0 := yTg_gr h (c2 0)
      have he : yIt (fun a b => ρ b a) v w0 (k+1) = yIt (fun a b => ρ b a) v w0 0 := (yn_inj (by omega) (by omega)).1 heq
      have := c4 (k+1) 0 (by omega) (by omega) he
      omega
end



-- FILLED with its faces: fo is the face of a step, ρ the third node of it
def yTg (n : Nat) (g : Nat → Nat → Bool) (F : Nat) (fo ρ : Nat → Nat → Nat) : Prop :=
  3 ≤ n ∧ n ≤ 20 ∧ ySg n g ∧ yMax n (yGr g) ∧ yDs 1024 yI (yGr g) (fun _ => false) (yS1 fo) (yT1 fo) ∧
  (∀ a b, g a b = true → fo a b < F ∧ g b (ρ a b) = true ∧ g (ρ a b) a = true ∧ ρ b (ρ a b) = a ∧ ρ (ρ a b) a = b ∧ fo b (ρ a b) = fo a b ∧ fo (ρ a b) a = fo a b) ∧
  (∀ a b a' b', g a b = true → g a' b' = true → fo a' b' = fo a b → (a' = a ∧ b' = b) ∨ (a' = b ∧ b' = ρ a b) ∨ (a' = ρ a b ∧ b' = a)) ∧
  (∀ f, f < F → ∃ a b, g a b = true ∧ fo a b = f) ∧ F + 4 = 2 * n
-- its arrays
def yTa (g : Nat → Nat → Bool) (F : Nat) (fo ρ : Nat → Nat → Nat) (fa fb : Nat → Int32) : Prop :=
  ∀ f, f < F → ∃ a b, g a b = true ∧ fo a b = f ∧ fa (21*f) = Int32.ofNat a ∧ fa (21*f+1) = Int32.ofNat b ∧ fa (21*f+2) = Int32.ofNat (ρ a b) ∧
    (∀ w, w < 32 → (yM (fb f) w = true ↔ (w = a ∨ w = b ∨ w = ρ a b)))

section
variable {n F : Nat} {g : Nat → Nat → Bool} {sz : Nat → Nat} {fc fo : Nat → Nat → Nat}

noncomputable def yThird (fc fo : Nat → Nat → Nat) (a b : Nat) : Nat :=
  fc (fo a b) ((Classical.epsilon (fun k => k < 3 ∧ fc (fo a b) k = a ∧ fc (fo a b) ((k+1) % 3) = b) + 2) % 3)

theorem yThird_at (hS : yFs n F (yGr g) sz fc fo) (h3 : ∀ f, f < F → sz f = 3) {f k : Nat} (hf : f < F) (hk : k < 3) :
    fo (fc f k) (fc f ((k+1) % 3)) = f ∧ yThird fc fo (fc f k) (fc f ((k+1) % 3)) = fc f ((k+2) % 3) := by
  have h1 := hS.2.1 f k hf (by rw [h3 f hf]; exact hk)
  rw [h3 f hf] at h1
  refine ⟨h1.2, ?_⟩
  unfold yThird
  rw [h1.2]
  have hsp := Classical.epsilon_spec (p := fun k' => k' < 3 ∧ fc f k' = fc f k ∧ fc f ((k'+1) % 3) = fc f ((k+1) % 3)) ⟨k, hk, rfl, rfl⟩
  have hinj := (hS.1 f hf).2.2
  rw [h3 f hf] at hinj
  have := hinj _ _ hsp.1 hk hsp.2.1
  rw [this]

theorem yTg_of (h3n : 3 ≤ n) (hn : n ≤ 20) (hg : ySg n g) (hM : yMax n (yGr g)) (hS : yFs n F (yGr g) sz fc fo) (hD : yDs 1024 yI (yGr g) (fun _ => false) (yS1 fo) (yT1 fo))
    (hE : F + n = yNb 1024 (yGr g) + 2) : yTg n g F fo (yThird fc fo) ∧ ∀ f, f < F → sz f = 3 := by
  have h3 : ∀ f, f < F → sz f = 3 := fun f hf => yFace_three (by omega) hS hD hM hf
  refine ⟨?_, h3⟩
  have hedge : ∀ a b, g a b = true → yGr g (yIx a b) = true ∧ a < 32 ∧ b < 32 ∧ a ≠ b := by
    intro a b h
    have := hg.1 a b h
    exact ⟨by rw [yGr_iff (by omega) hg.1 hg.2 a b (by omega) (by omega)]; exact h, by omega, by omega, this.2.2⟩
  have hback : ∀ a b, a < 32 → b < 32 → yGr g (yIx a b) = true → g a b = true := by
    intro a b ha hb h
    rw [yGr_iff (by omega) hg.1 hg.2 a b ha hb] at h; exact h
  -- a step as a place in a face
  have hpos : ∀ a b, g a b = true → fo a b < F ∧ ∃ k, k < 3 ∧ fc (fo a b) k = a ∧ fc (fo a b) ((k+1) % 3) = b := by
    intro a b h
    obtain ⟨h1, h2, h3', h4⟩ := hedge a b h
    obtain ⟨k1, k, k2, k3, k4⟩ := hS.2.2.1 a b h2 h3' h4 h1
    rw [h3 _ k1] at k2 k4
    exact ⟨k1, k, k2, k3, k4⟩
  have hlt : ∀ f k, f < F → k < 3 → fc f k < n := fun f k hf hk => (hS.1 f hf).2.1 k (by rw [h3 f hf]; exact hk)
  have hinj : ∀ f i j, f < F → i < 3 → j < 3 → fc f i = fc f j → i = j := fun f i j hf hi hj he => (hS.1 f hf).2.2 i j (by rw [h3 f hf]; exact hi) (by rw [h3 f hf]; exact hj) he
  have hst : ∀ f k, f < F → k < 3 → g (fc f k) (fc f ((k+1) % 3)) = true := by
    intro f k hf hk
    have := hS.2.1 f k hf (by rw [h3 f hf]; exact hk)
    rw [h3 f hf] at this
    have b1 := hlt f k hf hk; have b2 := hlt f ((k+1)%3) hf (by omega)
    exact hback _ _ (by omega) (by omega) this.1
  have hthird := fun f k hf hk => yThird_at (g := g) hS h3 (f := f) (k := k) hf hk
  have hall : ∀ a b, g a b = true → ∃ f k, f < F ∧ k < 3 ∧ fo a b = f ∧ a = fc f k ∧ b = fc f ((k+1) % 3) ∧ yThird fc fo a b = fc f ((k+2) % 3) := by
    intro a b h
    obtain ⟨k1, k, k2, k3, k4⟩ := hpos a b h
    have := (hthird (fo a b) k k1 k2).2
    rw [k3, k4] at this
    exact ⟨fo a b, k, k1, k2, rfl, k3.symm, k4.symm, this⟩
  refine ⟨h3n, hn, hg, hM, hD, ?_, ?_, ?_, ?_⟩
  · intro a b h
    obtain ⟨f, k, hf, hk, h1, h2, h4, h5⟩ := hall a b h
    have e1 : (k+1) % 3 < 3 := by omega
    have e2 : (k+2) % 3 < 3 := by omega
    have m1 : ((k+1) % 3 + 1) % 3 = (k+2) % 3 := by omega
    have m2 : ((k+1) % 3 + 2) % 3 = k := by omega
    have m3 : ((k+2) % 3 + 1) % 3 = k := by omega
    have m4 : ((k+2) % 3 + 2) % 3 = (k+1) % 3 := by omega
    have t1 := hthird f ((k+1) % 3) hf e1
    have t2 := hthird f ((k+2) % 3) hf e2
    rw [m1, m2] at t1
    rw [m3, m4] at t2
    have s1 := hst f ((k+1)%3) hf e1
    have s2 := hst f ((k+2)%3) hf e2
    rw [m1] at s1
    rw [m3] at s2
    rw [h5, h1, h2, h4]
    exact ⟨hf, s1, s2, t1.2, t2.2, t1.1, t2.1⟩
  · intro a b a' b' h h' hfe
    obtain ⟨f, k, hf, hk, h1, h2, h4, h5⟩ := hall a b h
    obtain ⟨f', k', hf', hk', h1', h2', h4', h5'⟩ := hall a' b' h'
    have : f' = f := by rw [← h1', ← h1, hfe]
    subst this
    rw [h5, h2, h4, h2', h4']
    rcases (by omega : k' = k ∨ k' = (k+1) % 3 ∨ k' = (k+2) % 3) with c | c | c
    · left; rw [c]; exact ⟨rfl, rfl⟩
    · right; left; rw [c]; exact ⟨rfl, by congr 1; omega⟩
    · right; right; rw [c]; exact ⟨rfl, by congr 1; omega⟩
  · intro f hf
    refine ⟨fc f 0, fc f 1, ?_, ?_⟩
    · have := hst f 0 hf (by omega); simpa using this
    · have := (hthird f 0 hf (by omega)).1; simpa using this
  · -- the number of faces
    have hmany : yS n (fun v => yNb 32 (g v)) = 2 * yNb 1024 (yGr g) := yHand2 (by omega) hg.1 hg.2
    have hblk := yNb_blocks n (fun a b => g a b)
    obtain ⟨x, x1, _, x3⟩ := yList (32*n) (fun e => g (e/32) (e%32))
    have hpg := yPig (yNb (32*n) (fun e => g (e/32) (e%32))) (3 * F) (fun i => 3 * fo (x i / 32) (x i % 32) + Classical.epsilon (fun k => k < 3 ∧ fc (fo (x i / 32) (x i % 32)) k = x i / 32 ∧ fc (fo (x i / 32) (x i % 32)) ((k+1) % 3) = x i % 32)) (by
      intro i hi
      have h1 := (x1 i hi).2
      obtain ⟨k1, hk⟩ := hpos _ _ h1
      have hsp := Classical.epsilon_spec hk
      have := hsp.1
      omega) (by
      intro i j hi hj hij
      have h1 := (x1 i hi).2; have h2 := (x1 j hj).2
      obtain ⟨k1, hk⟩ := hpos _ _ h1
      obtain ⟨k1', hk'⟩ := hpos _ _ h2
      have hsp := Classical.epsilon_spec hk
      have hsp' := Classical.epsilon_spec hk'
      generalize Classical.epsilon (fun k => k < 3 ∧ fc (fo (x i / 32) (x i % 32)) k = x i / 32 ∧ fc (fo (x i / 32) (x i % 32)) ((k+1) % 3) = x i % 32) = u at hsp hij
      generalize Classical.epsilon (fun k => k < 3 ∧ fc (fo (x j / 32) (x j % 32)) k = x j / 32 ∧ fc (fo (x j / 32) (x j % 32)) ((k+1) % 3) = x j % 32) = w at hsp' hij
      have u1 := hsp.1; have w1 := hsp'.1
      have huw : u = w := by omega
      have hff : fo (x i / 32) (x i % 32) = fo (x j / 32) (x j % 32) := by omega
      rw [hff, huw] at hsp
      apply x3 i j hi hj
      have a1 := hsp.2.1.symm.trans hsp'.2.1
      have a2 := hsp.2.2.symm.trans hsp'.2.2
      omega)
    rw [hblk, hmany] at hpg
    have heu := yEuler (n := n) h3n (by omega) (fun e _ hx => yGr_node hg hx) hD
    omega
end

-- the other way round
theorem yTg_rev {n F : Nat} {g : Nat → Nat → Bool} {fo ρ : Nat → Nat → Nat} (h : yTg n g F fo ρ) : yTg n g F (fun a b => fo b a) (fun a b => ρ b a) := by
  obtain ⟨h1, h2, h3, h4, h5, h6, h7, h8, h9⟩ := h
  refine ⟨h1, h2, h3, h4, ?_, ?_, ?_, ?_, h9⟩
  · refine yDs_swap h5 ?_
    intro e _ _
    exact Or.inr ⟨rfl, rfl⟩
  · intro a b hab
    have hba : g b a = true := by rw [h3.2]; exact hab
    obtain ⟨k1, k2, k3, k4, k5, k6, k7⟩ := h6 b a hba
    exact ⟨k1, by rw [h3.2]; exact k3, by rw [h3.2]; exact k2, k5, k4, k7, k6⟩
  · intro a b a' b' hab hab' hfe
    have hba : g b a = true := by rw [h3.2]; exact hab
    have hba' : g b' a' = true := by rw [h3.2]; exact hab'
    rcases h7 b a b' a' hba hba' hfe with c | c | c
    · exact Or.inl ⟨c.2, c.1⟩
    · exact Or.inr (Or.inr ⟨c.2, c.1⟩)
    · exact Or.inr (Or.inl ⟨c.2, c.1⟩)
  · intro f hf
    obtain ⟨a, b, hab, hfe⟩ := h8 f hf
    exact ⟨b, a, by rw [h3.2]; exact hab, hfe⟩


-- what the reference knows after FILLED
theorem yAfter_tg {n : Nat} (h3n : 3 ≤ n) (hn : n ≤ 20) {sm fl g : Nat → Int32} (hs : ySg n (yGm n sm)) (hp : yPln n (yGm n sm)) (hF : yFl n (yGm n sm) (yGm n fl)) (hg : ∀ v, v < n → g v = fl v)
    {x0 x1 x2 x3 x4 x5 x6 : Int32} {x7 x8 x9 x10 x11 x12 x13 x14 x15 x16 x17 x18 : Nat → Int32}
    (hA : yAfter n g (x0, x1, x2, x3, x4, x5, x6, x7, x8, x9, x10, x11, x12, x13, x14, x15, x16, x17, x18)) :
    ∃ F fo ρ, yTg n (yGm n fl) F fo ρ ∧ x2 = Int32.ofNat F ∧ yTa (yGm n fl) F fo ρ x16 x15 := by
  have hgr : yGm n g = yGm n fl := yGm_congr hg
  have hM := yFl_max (by omega) h3n hs hF hp
  obtain ⟨cl, hbl, hcase⟩ := hA
  rw [hgr] at hbl hcase
  have hone := yMax_one hM hbl
  obtain ⟨a, b, c, ha, hb, hc, xa, xb, xc, hab, hac, hbc⟩ := yMax_three hM
  rcases hcase with hfew | ⟨r, F, blk, hI, hF2, hin, hblk⟩
  · exfalso
    refine hfew (cl a) a b c ha hb hc ?_ ?_ ?_ hab hac hbc
    · dsimp only; rw [xa]; simp
    · dsimp only; rw [xb, hone b a hb ha xb xa]; simp
    · dsimp only; rw [xc, hone c a hc ha xc xa]; simp
  · dsimp only at hI hF2 hin
    obtain ⟨sz, fc, fo, hS, hFA, hG, hD, _, hF1, hEu, hV3⟩ := hI
    -- the class is all
    have hinb : yGm n x14 = yGm n blk := yGm_congr hin
    rw [hinb] at hS hD hEu
    have hex : ∃ e, e < 1024 ∧ yGr (yGm n blk) e = true := by
      have hF0 := hS.1 0 (by omega)
      have h0 := hS.2.1 0 0 (by omega) (by omega)
      have g1 := hF0.2.1 0 (by omega); have g2 := hF0.2.1 _ (Nat.mod_lt (0+1) (by omega : 0 < sz 0))
      exact ⟨_, yIx_lt (by omega) (by omega), h0.1⟩
    obtain ⟨e0, he0, hx0⟩ := hex
    have hr : cl e0 = r ∧ yGr (yGm n fl) e0 = true := by
      rw [hblk e0 he0, Bool.and_eq_true, decide_eq_true_iff] at hx0
      exact ⟨hx0.2, hx0.1⟩
    have hall : ∀ e, e < 1024 → yGr (yGm n blk) e = yGr (yGm n fl) e := by
      intro e he
      rw [hblk e he]
      cases hx : yGr (yGm n fl) e with
      | false => rfl
      | true => rw [hone e e0 he he0 hx hr.2, hr.1]; simp
    have hnum : yNb 1024 (yGr (yGm n blk)) = yNb 1024 (yGr (yGm n fl)) := yNb_congr _ _ _ hall
    have hnod : yNb 32 (yM x1) = n := by
      apply yNb_ext 32 n (by omega)
      intro v hv
      rw [Bool.eq_iff_iff, decide_eq_true_iff, hG.2.2.2.1 v hv, hinb]
      constructor
      · rintro ⟨e, he, hx, hI⟩
        rw [hall e he] at hx
        have := yGr_node hF.1 hx
        rcases (yMax_ends hM he hx v).1 hI with c | c <;> omega
      · intro hvn
        obtain ⟨e, he, hx, hI⟩ := yMax_edge hM hvn
        exact ⟨e, he, by rw [hall e he]; exact hx, hI⟩
    rw [hnod, hnum] at hEu
    have hS' := yFs_congr (by omega) hS hall
    have hD' := yDs_congr hD _ hall
    obtain ⟨hT, h3⟩ := yTg_of h3n hn hF.1 hM hS' hD' hEu
    refine ⟨F, fo, yThird fc fo, hT, hF2, ?_⟩
    intro f hf
    have t0 := yThird_at (g := yGm n fl) hS' h3 hf (by omega : 0 < 3)
    have hA' := hFA f hf
    rw [h3 f hf] at hA'
    have hst := hS'.2.1 f 0 hf (by rw [h3 f hf]; omega)
    rw [h3 f hf] at hst
    have b0 := (hS'.1 f hf).2.1 0 (by rw [h3 f hf]; omega)
    have b1 := (hS'.1 f hf).2.1 1 (by rw [h3 f hf]; omega)
    simp only [Nat.zero_add, Nat.one_mod] at t0 hst
    refine ⟨fc f 0, fc f 1, ?_, t0.1, by simpa using hA'.2.1 0 (by omega), hA'.2.1 1 (by omega), ?_, ?_⟩
    · rw [← yGr_iff (by omega) hF.1.1 hF.1.2 _ _ (by omega) (by omega)]; exact hst.1
    · rw [t0.2]; exact hA'.2.1 2 (by omega)
    · intro w hw
      rw [hA'.2.2 w hw, t0.2]
      constructor
      · rintro ⟨k, hk, he⟩
        rcases (by omega : k = 0 ∨ k = 1 ∨ k = 2) with d | d | d
        · subst d; exact Or.inl he
        · subst d; exact Or.inr (Or.inl he)
        · subst d; exact Or.inr (Or.inr he)
      · rintro (he | he | he)
        · exact ⟨0, by omega, he⟩
        · exact ⟨1, by omega, he⟩
        · exact ⟨2, by omega, he⟩


section
variable {n F : Nat} {g : Nat → Nat → Bool} {fo ρ : Nat → Nat → Nat}

theorem yLb (fo : Nat → Nat → Nat) {a b : Nat} (ha : a < 32) (hb : b < 32) (hab : a ≠ b) :
    (yS1 fo (yIx a b) = fo a b ∧ yT1 fo (yIx a b) = fo b a) ∨ (yS1 fo (yIx a b) = fo b a ∧ yT1 fo (yIx a b) = fo a b) := by
  unfold yS1 yT1
  rcases Nat.lt_or_ge a b with c | c
  · have := yIx_div hb c
    rw [this.1, this.2]; exact Or.inl ⟨rfl, rfl⟩
  · have := yIx_div ha (by omega : b < a)
    rw [yIx_comm, this.1, this.2]; exact Or.inr ⟨rfl, rfl⟩

theorem yTg_gr (h : yTg n g F fo ρ) {a b : Nat} (hab : g a b = true) : a < 20 ∧ b < 20 ∧ a ≠ b ∧ a < n ∧ b < n ∧ yIx a b < 1024 ∧ yGr g (yIx a b) = true ∧ ∀ v, yI (yIx a b) v = true ↔ (v = a ∨ v = b) := by
  have hn := h.2.1
  have := h.2.2.1.1 a b hab
  refine ⟨by omega, by omega, this.2.2, this.1, this.2.1, yIx_lt (by omega) (by omega), ?_, fun v => yI_iff (by omega) (by omega) this.2.2 v⟩
  rw [yGr_iff (by omega) h.2.2.1.1 h.2.2.1.2 a b (by omega) (by omega)]; exact hab

-- an edge as a pair at one of its nodes
theorem yTg_at (h : yTg n g F fo ρ) {e v : Nat} (he : e < 1024) (hx : yGr g e = true) (hv : yI e v = true) : ∃ w, g v w = true ∧ e = yIx v w := by
  have h1 := yGr_node h.2.2.1 hx
  have hg : g (e/32) (e%32) = true := by unfold yGr at hx; rw [Bool.and_eq_true] at hx; exact hx.2
  have hde := yIx_de h1.1
  rcases (yMax_ends h.2.2.2.1 he hx v).1 hv with c | c
  · exact ⟨e%32, by rw [c]; exact hg, by rw [c, hde]⟩
  · exact ⟨e/32, by rw [c, h.2.2.1.2]; exact hg, by rw [c, yIx_comm, hde]⟩

theorem yTg_th (h : yTg n g F fo ρ) {a b : Nat} (hab : g a b = true) : fo a b < F ∧ g b (ρ a b) = true ∧ g (ρ a b) a = true ∧ ρ b (ρ a b) = a ∧ ρ (ρ a b) a = b ∧ fo b (ρ a b) = fo a b ∧ fo (ρ a b) a = fo a b :=
  h.2.2.2.2.2.1 a b hab

theorem yTg_fo (h : yTg n g F fo ρ) {a b a' b' : Nat} (hab : g a b = true) (hab' : g a' b' = true) (hf : fo a' b' = fo a b) :
    (a' = a ∧ b' = b) ∨ (a' = b ∧ b' = ρ a b) ∨ (a' = ρ a b ∧ b' = a) := h.2.2.2.2.2.2.1 a b a' b' hab hab' hf

theorem yTg_ne (h : yTg n g F fo ρ) {a b : Nat} (hab : g a b = true) : fo a b ≠ fo b a := by
  intro he
  have hba : g b a = true := by rw [h.2.2.1.2]; exact hab
  have h1 := yTg_gr h hab
  have h2 := yTg_th h hab
  have h3 := yTg_gr h h2.2.1
  have h4 := yTg_gr h h2.2.2.1
  rcases yTg_fo h hab hba he.symm with c | c | c <;> omega

-- all neighbours in one round
theorem yTg_orbit (h : yTg n g F fo ρ) {v : Nat} (U : Nat → Prop) {w0 : Nat} (hw0 : g v w0 = true) (hU0 : U w0) (hU : ∀ w, g v w = true → U w → U (ρ v w)) :
    ∀ w, g v w = true → U w := by
  have hgs := h.2.2.1.2
  -- the inverse turns within U too: the orbit is finite
  have hinv : ∀ w, g v w = true → g v (ρ w v) = true ∧ ρ v (ρ w v) = w ∧ fo v (ρ w v) = fo w v := by
    intro w hw
    have := yTg_th h (show g w v = true by rw [hgs]; exact hw)
    exact ⟨this.2.1, this.2.2.2.1, this.2.2.2.2.2.1⟩
  have hfwd : ∀ w, g v w = true → g v (ρ v w) = true ∧ ρ (ρ v w) v = w := by
    intro w hw
    have := yTg_th h hw
    exact ⟨by rw [hgs]; exact this.2.2.1, this.2.2.2.2.1⟩
  let O : Nat → Prop := fun w => ∀ V : Nat → Prop, V w0 → (∀ x, g v x = true → V x → V (ρ v x)) → (∀ x, g v x = true → V x → V (ρ x v)) → V w
  -- colour of the faces at v
  let c : Nat → Bool := fun l => yD (∃ w, g v w = true ∧ O w ∧ l = fo v w)
  have hfov : ∀ w w', g v w = true → g v w' = true → fo v w = fo v w' → w = w' := by
    intro w w' hw hw' hf
    have g1 := yTg_gr h hw; have g2 := yTg_gr h hw'
    have t := yTg_th h hw'
    have g3 := yTg_gr h t.2.2.1
    rcases yTg_fo h hw' hw hf with d | d | d <;> omega
  have hc : ∀ w, g v w = true → (c (fo v w) = true ↔ O w) := by
    intro w hw
    show yD _ = true ↔ _
    rw [yD_iff]
    constructor
    · rintro ⟨w', hw', hO, hf⟩
      rw [hfov w w' hw hw' hf]; exact hO
    · intro hO; exact ⟨w, hw, hO, rfl⟩
  have hc2 : ∀ w, g v w = true → (c (fo w v) = true ↔ O w) := by
    intro w hw
    have hi := hinv w hw
    rw [← hi.2.2, hc _ hi.1]
    constructor
    · intro hO V h1 h2 h3
      have := h2 _ hi.1 (hO V h1 h2 h3)
      rw [hi.2.1] at this; exact this
    · intro hO V h1 h2 h3
      exact h3 w hw (hO V h1 h2 h3)
  have hO0 : O w0 := fun V h1 _ _ => h1
  have hallO : ∀ w, g v w = true → O w := by
    intro w hw
    have g1 := yTg_gr h hw; have g2 := yTg_gr h hw0
    have hcol := yDs_color h.2.2.2.2.1 c v (by
      intro e he hx hI
      refine ⟨rfl, ?_⟩
      obtain ⟨x, hx', hex⟩ := yTg_at h he hx hI
      have gx := yTg_gr h hx'
      have e1 : c (fo v x) = c (fo x v) := by rw [Bool.eq_iff_iff, hc x hx', hc2 x hx']
      rcases yLb fo (by omega : v < 32) (by omega : x < 32) gx.2.2.1 with d | d <;> rw [hex, d.1, d.2]
      · exact e1
      · exact e1.symm) (yMax_v2 h.2.2.2.1) (yIx v w) (yIx v w0) g1.2.2.2.2.2.1 g2.2.2.2.2.2.1 g1.2.2.2.2.2.2.1 g2.2.2.2.2.2.2.1 ((g1.2.2.2.2.2.2.2 v).2 (Or.inl rfl)) ((g2.2.2.2.2.2.2.2 v).2 (Or.inl rfl))
    have hct : ∀ x, g v x = true → (c (yT1 fo (yIx v x)) = true ↔ O x) := by
      intro x hx'
      have gx := yTg_gr h hx'
      rcases yLb fo (by omega : v < 32) (by omega : x < 32) gx.2.2.1 with d | d <;> rw [d.2]
      · exact hc2 x hx'
      · exact hc x hx'
    have := (hct w0 hw0).2 hO0
    rw [← hcol] at this
    exact (hct w hw).1 this
  -- now U: closed the other way, for the orbit is finite
  intro w hw
  have hbackU : ∀ x, g v x = true → U x → U (ρ x v) := by
    intro x hx hUx
    -- x, ρ v x, .. comes back to x
    let it : Nat → Nat := fun k => Nat.rec x (fun _ y => ρ v y) k
    have it0 : it 0 = x := rfl
    have its : ∀ k, it (k+1) = ρ v (it k) := fun k => rfl
    have hg' : ∀ k, g v (it k) = true := by
      intro k
      induction k with
      | zero => exact hx
      | succ k ih => rw [its]; exact (hfwd _ ih).1
    have hUk : ∀ k, U (it k) := by
      intro k
      induction k with
      | zero => exact hUx
      | succ k ih => rw [its]; exact hU _ (hg' k) ih
    -- two of the first 33 are the same
    have hrep : ∃ i j, i < j ∧ it i = it j := by
      by_cases hc' : ∃ i j, i < j ∧ it i = it j
      · exact hc'
      · exfalso
        have := yPig 33 32 it (fun i _ => by have := yTg_gr h (hg' i); omega) (by
          intro i j _ _ hij
          rcases Nat.lt_trichotomy i j with d | d | d
          · exact absurd ⟨i, j, d, hij⟩ hc'
          · exact d
          · exact absurd ⟨j, i, d, hij.symm⟩ hc')
        omega
    obtain ⟨i, j, hij, he⟩ := hrep
    -- back to the first
    have hcan : ∀ i d, it i = it (i+d) → it 0 = it d := by
      intro i
      induction i with
      | zero => intro d hd; rw [Nat.zero_add] at hd; exact hd
      | succ i ih =>
        intro d hd
        apply ih d
        have : i + 1 + d = (i + d) + 1 := by omega
        rw [this, its, its] at hd
        have h1 := (hfwd _ (hg' i)).2
        have h2 := (hfwd _ (hg' (i+d))).2
        rw [hd] at h1
        exact h1.symm.trans h2
    have h0 := hcan i (j-i) (by rw [show i + (j-i) = j by omega]; exact he)
    have hd1 : j - i = (j-i-1) + 1 := by omega
    rw [hd1, its, it0] at h0
    have h1 := (hfwd _ (hg' (j-i-1))).2
    rw [← h0] at h1
    rw [h1]; exact hUk _
  exact hallO w hw U hU0 hU hbackU

-- two faces of an edge have two third nodes
theorem yTg_two (h : yTg n g F fo ρ) (h4 : 4 ≤ n) {a b : Nat} (hab : g a b = true) : ρ a b ≠ ρ b a := by
  intro he
  have hgs := h.2.2.1.2
  have hba : g b a = true := by rw [hgs]; exact hab
  have t1 := yTg_th h hab
  have t2 := yTg_th h hba
  have g1 := yTg_gr h hab
  have g2 := yTg_gr h t1.2.1
  have g3 := yTg_gr h t1.2.2.1
  rw [← he] at t2
  -- a has but b and c, and so on
  have na : ∀ w, g a w = true → w = b ∨ w = ρ a b := by
    refine yTg_orbit h (fun w => w = b ∨ w = ρ a b) hab (Or.inl rfl) ?_
    rintro w _ (c | c)
    · right; rw [c]
    · left; rw [c]; exact t2.2.2.2.1
  have nb : ∀ w, g b w = true → w = a ∨ w = ρ a b := by
    refine yTg_orbit h (fun w => w = a ∨ w = ρ a b) hba (Or.inl rfl) ?_
    rintro w _ (c | c)
    · right; rw [c]; exact he.symm
    · left; rw [c]; exact t1.2.2.2.1
  have nc : ∀ w, g (ρ a b) w = true → w = a ∨ w = b := by
    refine yTg_orbit h (fun w => w = a ∨ w = b) t1.2.2.1 (Or.inl rfl) ?_
    rintro w _ (c | c)
    · right; rw [c]; exact t1.2.2.2.2.1
    · left; rw [c]; exact t2.2.2.2.2.1
  have hU := yMax_con h.2.2.2.1 (fun v => decide (v = a ∨ v = b ∨ v = ρ a b)) (by
    intro e he' hx
    have hge : g (e/32) (e%32) = true := by unfold yGr at hx; rw [Bool.and_eq_true] at hx; exact hx.2
    have st : ∀ p q, g p q = true → (p = a ∨ p = b ∨ p = ρ a b) → (q = a ∨ q = b ∨ q = ρ a b) := by
      rintro p q hpq (c | c | c)
      · rw [c] at hpq; exact Or.inr (na q hpq)
      · rw [c] at hpq
        rcases nb q hpq with d | d
        · exact Or.inl d
        · exact Or.inr (Or.inr d)
      · rw [c] at hpq
        rcases nc q hpq with d | d
        · exact Or.inl d
        · exact Or.inr (Or.inl d)
    rw [decide_eq_decide]
    exact ⟨st _ _ hge, st _ _ (by rw [hgs]; exact hge)⟩)
  have hex : ∃ z, z < n ∧ ¬ (z = a ∨ z = b ∨ z = ρ a b) := by
    by_cases c : ∃ z, z < n ∧ ¬ (z = a ∨ z = b ∨ z = ρ a b)
    · exact c
    · exfalso
      have := yPig 4 3 (fun z => if z = a then 0 else if z = b then 1 else 2) (fun i _ => by split <;> (try split) <;> omega) (by
        intro i j hi hj hij
        have i1 : i = a ∨ i = b ∨ i = ρ a b := by
          by_cases d : i = a ∨ i = b ∨ i = ρ a b
          · exact d
          · exact absurd ⟨i, by omega, d⟩ c
        have j1 : j = a ∨ j = b ∨ j = ρ a b := by
          by_cases d : j = a ∨ j = b ∨ j = ρ a b
          · exact d
          · exact absurd ⟨j, by omega, d⟩ c
        split at hij <;> split at hij <;> (try split at hij) <;> (try split at hij) <;> omega)
      omega
  obtain ⟨z, hz, hzn⟩ := hex
  have := hU z a hz g1.2.2.2.1
  rw [decide_eq_false hzn, decide_eq_true (Or.inl rfl)] at this
  cases this
end


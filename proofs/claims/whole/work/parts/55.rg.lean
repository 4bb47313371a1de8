
theorem yMask (P : Nat → Prop) : ∃ x : Int32, ∀ w, w < 32 → (yM x w = true ↔ P w) := by
  have : ∀ k, k ≤ 32 → ∃ x : Int32, ∀ w, w < 32 → (yM x w = true ↔ (w < k ∧ P w)) := by
    intro k
    induction k with
    | zero => intro _; exact ⟨0, fun w _ => by rw [yM_zero]; simp⟩
    | succ k ih =>
      intro hk
      obtain ⟨x, hx⟩ := ih (by omega)
      by_cases hP : P k
      · refine ⟨x ||| ((1 : Int32) <<< (Int32.ofNat k &&& 31)), fun w hw => ?_⟩
        rw [yM_or, Bool.or_eq_true, hx w hw, yM_shl (by omega) w hw, decide_eq_true_iff]
        constructor
        · rintro (h | h)
          · exact ⟨by omega, h.2⟩
          · exact ⟨by omega, by rw [h]; exact hP⟩
        · rintro ⟨h1, h2⟩
          by_cases e : w = k
          · exact Or.inr e
          · exact Or.inl ⟨by omega, h2⟩
      · refine ⟨x, fun w hw => ?_⟩
        rw [hx w hw]
        constructor
        · rintro ⟨h1, h2⟩; exact ⟨by omega, h2⟩
        · rintro ⟨h1, h2⟩
          refine ⟨?_, h2⟩
          by_cases e : w = k
          · rw [e] at h2; exact absurd h2 hP
          · omega
  obtain ⟨x, hx⟩ := this 32 (Nat.le_refl _)
  exact ⟨x, fun w hw => by rw [hx w hw]; exact ⟨fun h => h.2, fun h => ⟨hw, h⟩⟩⟩

theorem yNb_pos1 {m : Nat} {p : Nat → Bool} {f : Nat} (hf : f < m) (h : p f = true) : 1 ≤ yNb m p :=
  yPigC 1 m p (fun _ => f) (fun _ _ => ⟨hf, h⟩) (fun i j hi hj _ => by omega)

theorem yNb_two {m : Nat} {p : Nat → Bool} {f g : Nat} (hf : f < m) (hg : g < m) (h : p f = true) (h' : p g = true) (hne : f ≠ g) : 2 ≤ yNb m p := by
  refine yPigC 2 m p (fun i => if i = 0 then f else g) (fun i _ => ?_) (fun i j hi hj he => ?_)
  · split
    · exact ⟨hf, h⟩
    · exact ⟨hg, h'⟩
  · by_cases c1 : i = 0 <;> by_cases c2 : j = 0
    · omega
    · rw [if_pos c1, if_neg c2] at he; exact absurd he hne
    · rw [if_neg c1, if_pos c2] at he; exact absurd he.symm hne
    · omega

theorem yNb_ex1 {m : Nat} {p : Nat → Bool} (h : 1 ≤ yNb m p) : ∃ f, f < m ∧ p f = true := by
  induction m with
  | zero => simp [yNb] at h
  | succ m ih =>
    cases hp : p m with
    | true => exact ⟨m, by omega, hp⟩
    | false =>
      simp only [yNb, hp] at h
      obtain ⟨f, hf, h1⟩ := ih (by simpa using h)
      exact ⟨f, by omega, h1⟩

theorem yNb_ex2 {m : Nat} {p : Nat → Bool} (h : 2 ≤ yNb m p) : ∃ f g, f < m ∧ g < m ∧ f ≠ g ∧ p f = true ∧ p g = true := by
  induction m with
  | zero => simp [yNb] at h
  | succ m ih =>
    cases hp : p m with
    | true =>
      simp only [yNb, hp, if_true] at h
      obtain ⟨f, hf, h1⟩ := yNb_ex1 (m := m) (p := p) (by omega)
      exact ⟨f, m, by omega, by omega, by omega, h1, hp⟩
    | false =>
      simp only [yNb, hp] at h
      obtain ⟨f, g, hf, hg, hne, h1, h2⟩ := ih (by simpa using h)
      exact ⟨f, g, by omega, by omega, hne, h1, h2⟩

theorem yNb_add1 (m : Nat) (p q : Nat → Bool) (x : Nat) (hx : x < m) (h1 : p x = false) (h2 : q x = true) (h : ∀ i, i < m → i ≠ x → q i = p i) : yNb m q = yNb m p + 1 := by
  induction m with
  | zero => omega
  | succ m ih =>
    simp only [yNb]
    by_cases e : x = m
    · rw [← e, h1, h2, yNb_congr x q p (fun i hi => h i (by omega) (by omega))]; simp
    · rw [ih (by omega) (fun i hi => h i (by omega)), h m (by omega) (by omega)]; omega

theorem yNb_img (m : Nat) (p : Nat → Bool) (c : Nat) (x : Nat → Nat) (hx : ∀ k, k < c → x k < m ∧ p (x k) = false) (hi : ∀ i j, i < c → j < c → x i = x j → i = j) :
    yNb m (fun e => p e || yD (∃ k, k < c ∧ e = x k)) = yNb m p + c := by
  induction c with
  | zero =>
    rw [Nat.add_zero]; apply yNb_congr; intro i _
    rw [yD_neg (by rintro ⟨k, hk, _⟩; omega), Bool.or_false]
  | succ c ih =>
    have h0 := ih (fun k hk => hx k (by omega)) (fun i j h1 h2 => hi i j (by omega) (by omega))
    rw [show yNb m p + (c+1) = (yNb m p + c) + 1 by omega, ← h0]
    apply yNb_add1 m _ _ (x c) (hx c (by omega)).1
    · rw [(hx c (by omega)).2, yD_neg]; rfl
      rintro ⟨k, hk, e⟩
      have := hi c k (by omega) (by omega) e; omega
    · rw [yD_pos ⟨c, by omega, rfl⟩]; simp
    · intro i _ hne
      congr 1
      rw [Bool.eq_iff_iff, yD_iff, yD_iff]
      constructor
      · rintro ⟨k, hk, e⟩
        by_cases e' : k = c
        · rw [e'] at e; exact absurd e hne
        · exact ⟨k, by omega, e⟩
      · rintro ⟨k, hk, e⟩; exact ⟨k, by omega, e⟩

-- pieces
section
variable {n : Nat} {bk inH : Nat → Int32} {nH : Int32}

noncomputable def yCp (n : Nat) (bk : Nat → Int32) (nH : Int32) (x : Nat) : Nat := Classical.epsilon (fun y => yRe n bk nH x y)
noncomputable def yPk (n : Nat) (bk : Nat → Int32) (nH : Int32) (e : Nat) : Nat :=
  if yM nH (e/32) = true ∧ yM nH (e%32) = true then e else 1024 + yCp n bk nH (if yM nH (e/32) = true then e%32 else e/32)
def yFr (n : Nat) (bk inH : Nat → Int32) (e : Nat) : Prop := e < 1024 ∧ yGr (yGm n bk) e = true ∧ yGr (yGm n inH) e = false
def yEb (n : Nat) (bk inH : Nat → Int32) (nH : Int32) (e : Nat) (en : Int32) : Prop :=
  ∀ w, w < 32 → (yM en w = true ↔ (yM nH w = true ∧ ∃ e', yFr n bk inH e' ∧ yPk n bk nH e' = yPk n bk nH e ∧ yI e' w = true))
-- the graph and the part of it
def yGH (n : Nat) (bk inH : Nat → Int32) (nH : Int32) : Prop :=
  n ≤ 21 ∧ (∀ v w, yGm n bk v w = true → v < n ∧ w < n ∧ v ≠ w) ∧ (∀ v w, yGm n bk v w = yGm n bk w v) ∧
  (∀ v, v < 32 → (yM nH v = true ↔ yOn 1024 yI (yGr (yGm n inH)) v)) ∧
  (∀ v w, yGm n inH v w = yGm n inH w v) ∧ (∀ v w, yGm n inH v w = true → yGm n bk v w = true)

theorem yCp_spec (x : Nat) : yRe n bk nH x (yCp n bk nH x) := Classical.epsilon_spec (p := fun y => yRe n bk nH x y) ⟨x, yRe_refl x⟩

theorem yCp_eq (hG : yGH n bk inH nH) {x y : Nat} (hx : yM nH x = false) (h : yRe n bk nH x y) : yCp n bk nH x = yCp n bk nH y := by
  unfold yCp
  congr 1
  funext z
  apply propext
  exact ⟨fun h1 => yRe_trans (yRe_symm hG.1 hG.2.1 hG.2.2.1 hx h) h1, fun h1 => yRe_trans h h1⟩

theorem yCp_inv (hG : yGH n bk inH nH) {x y : Nat} (hy : yM nH y = false) (h : yCp n bk nH x = yCp n bk nH y) : yRe n bk nH x y := by
  have h1 := yCp_spec (n := n) (bk := bk) (nH := nH) x
  have h2 := yCp_spec (n := n) (bk := bk) (nH := nH) y
  rw [← h] at h2
  exact yRe_trans h1 (yRe_symm hG.1 hG.2.1 hG.2.2.1 hy h2)

theorem yCp_lt (hG : yGH n bk inH nH) {x : Nat} (hx : x < n) : yCp n bk nH x < n := yRe_lt hG.2.1 hx (yCp_spec x)

theorem yGr_nodes (hG : yGH n bk inH nH) {e : Nat} (h : yGr (yGm n bk) e = true) : e/32 < e%32 ∧ e%32 < n ∧ yM (bk (e/32)) (e%32) = true ∧ yM (bk (e%32)) (e/32) = true := by
  unfold yGr at h
  rw [Bool.and_eq_true, decide_eq_true_iff] at h
  have h1 := hG.2.1 _ _ h.2
  have h2 := h.2
  rw [hG.2.2.1] at h2
  have h3 := h.2
  unfold yGm at h2 h3
  rw [Bool.and_eq_true] at h2 h3
  exact ⟨h.1, h1.2.1, h3.2, h2.2⟩

theorem yGr_of (hG : yGH n bk inH nH) {p q : Nat} (hp : p < n) (h : yM (bk p) q = true) :
    q < n ∧ p ≠ q ∧ yIx p q < 1024 ∧ yGr (yGm n bk) (yIx p q) = true ∧ ∀ v, yI (yIx p q) v = true ↔ (v = p ∨ v = q) := by
  have hn := hG.1
  have h1 : yGm n bk p q = true := by unfold yGm; rw [decide_eq_true hp, h]; rfl
  have h2 := hG.2.1 _ _ h1
  refine ⟨h2.2.1, h2.2.2, yIx_lt (by omega) (by omega), ?_, fun v => yI_iff (by omega) (by omega) h2.2.2 v⟩
  unfold yGr
  rcases Nat.lt_or_ge p q with c | c
  · have := yIx_div (by omega : q < 32) c
    rw [this.1, this.2, h1, decide_eq_true c]; rfl
  · have := yIx_div (by omega : p < 32) (by omega : q < p)
    rw [yIx_comm, this.1, this.2, hG.2.2.1, h1, decide_eq_true (by omega)]; rfl

theorem yFr_off (hG : yGH n bk inH nH) {p q : Nat} (hp : p < n) (h : yM (bk p) q = true) (ho : yM nH p = false ∨ yM nH q = false) : yFr n bk inH (yIx p q) := by
  obtain ⟨h1, h2, h3, h4, h5⟩ := yGr_of hG hp h
  have hn := hG.1
  refine ⟨h3, h4, ?_⟩
  cases hh : yGr (yGm n inH) (yIx p q) with
  | false => rfl
  | true =>
    exfalso
    rcases ho with c | c
    · have := (hG.2.2.2.1 p (by omega)).2 ⟨_, h3, hh, (h5 p).2 (Or.inl rfl)⟩
      rw [c] at this; cases this
    · have := (hG.2.2.2.1 q (by omega)).2 ⟨_, h3, hh, (h5 q).2 (Or.inr rfl)⟩
      rw [c] at this; cases this

theorem yI_ends (hG : yGH n bk inH nH) {e v : Nat} (h : yGr (yGm n bk) e = true) : yI e v = true ↔ (v = e/32 ∨ v = e%32) := by
  have h1 := yGr_nodes hG h
  have hn := hG.1
  have := yI_iff (a := e/32) (b := e%32) (by omega) (by omega) (by omega) v
  rw [yIx_de h1.1] at this
  exact this

theorem yPk_off (hG : yGH n bk inH nH) {e v : Nat} (hF : yFr n bk inH e) (hI : yI e v = true) (hv : yM nH v = false) : yPk n bk nH e = 1024 + yCp n bk nH v := by
  have h1 := yGr_nodes hG hF.2.1
  have hn := hG.1
  have hI' := (yI_ends hG hF.2.1).1 hI
  unfold yPk
  rcases hI' with c | c
  · rw [← c, if_neg (by rw [hv]; simp), if_neg (by rw [hv]; simp)]
  · rw [if_neg (by rw [← c, hv]; simp)]
    by_cases c2 : yM nH (e/32) = true
    · rw [if_pos c2, c]
    · rw [if_neg c2]
      have c3 : yM nH (e/32) = false := by simpa using c2
      rw [yCp_eq hG c3 (y := v)]
      rw [c] at hv ⊢
      exact yRe_step (yRe_refl _) (by omega) (by omega) h1.2.2.1 hv

theorem yPk_lt (hG : yGH n bk inH nH) {e : Nat} (hF : yFr n bk inH e) : yPk n bk nH e < 1056 := by
  have h1 := yGr_nodes hG hF.2.1
  have hn := hG.1
  unfold yPk
  split
  · have := hF.1; omega
  · split
    · have := yCp_lt (x := e%32) hG (by omega); omega
    · have := yCp_lt (x := e/32) hG (by omega); omega

-- a free edge is a chord or has an end off the part
theorem yFr_cases (hG : yGH n bk inH nH) {e : Nat} (hF : yFr n bk inH e) :
    (yChd n bk inH nH (e/32) (e%32) ∧ yPk n bk nH e = e) ∨ (∃ v, v < n ∧ yI e v = true ∧ yM nH v = false) := by
  have h1 := yGr_nodes hG hF.2.1
  have hn := hG.1
  by_cases c1 : yM nH (e/32) = true
  · by_cases c2 : yM nH (e%32) = true
    · left
      refine ⟨⟨h1.1, h1.2.1, c1, c2, h1.2.2.1, ?_⟩, ?_⟩
      · have := hF.2.2
        unfold yGr yGm at this
        rw [decide_eq_true h1.1, decide_eq_true (by omega : e/32 < n)] at this
        simpa using this
      · unfold yPk; rw [if_pos ⟨c1, c2⟩]
    · right; exact ⟨e%32, h1.2.1, (yI_ends hG hF.2.1).2 (Or.inr rfl), by simpa using c2⟩
  · right; exact ⟨e/32, by omega, (yI_ends hG hF.2.1).2 (Or.inl rfl), by simpa using c1⟩

theorem yChd_fr (hG : yGH n bk inH nH) {a b : Nat} (h : yChd n bk inH nH a b) : yFr n bk inH (yIx a b) ∧ yPk n bk nH (yIx a b) = yIx a b ∧ (yIx a b) / 32 = a ∧ (yIx a b) % 32 = b := by
  obtain ⟨h1, h2, h3, h4, h5, h6⟩ := h
  have hn := hG.1
  have h7 := yIx_div (by omega : b < 32) h1
  obtain ⟨g1, g2, g3, g4, g5⟩ := yGr_of hG (by omega) h5
  refine ⟨⟨g3, g4, ?_⟩, ?_, h7.1, h7.2⟩
  · unfold yGr yGm; rw [h7.1, h7.2, h6]; simp
  · unfold yPk; rw [h7.1, h7.2, if_pos ⟨h3, h4⟩]

theorem yEb_chd (hG : yGH n bk inH nH) {e : Nat} (hF : yFr n bk inH e) (hc : yChd n bk inH nH (e/32) (e%32)) (en : Int32) : yEb n bk inH nH e en ↔ yBit2 (e/32) (e%32) en := by
  have hpc : yPk n bk nH e = e := by unfold yPk; rw [if_pos ⟨hc.2.2.1, hc.2.2.2.1⟩]
  have hn := hG.1
  have key : ∀ w, w < 32 → ((yM nH w = true ∧ ∃ e', yFr n bk inH e' ∧ yPk n bk nH e' = yPk n bk nH e ∧ yI e' w = true) ↔ (w = e/32 ∨ w = e%32)) := by
    intro w hw
    constructor
    · rintro ⟨h1, e', h2, h3, h4⟩
      rw [hpc] at h3
      rcases yFr_cases hG h2 with c | ⟨v, hv, hI, hoff⟩
      · rw [c.2] at h3; rw [← h3]; exact (yI_ends hG h2.2.1).1 h4
      · rw [yPk_off hG h2 hI hoff] at h3
        have := hF.1; omega
    · intro h1
      refine ⟨?_, e, hF, rfl, (yI_ends hG hF.2.1).2 h1⟩
      rcases h1 with c | c
      · rw [c]; exact hc.2.2.1
      · rw [c]; exact hc.2.2.2.1
  unfold yEb yBit2
  constructor
  · intro h w hw; rw [h w hw]; exact key w hw
  · intro h w hw; rw [h w hw]; exact (key w hw).symm

theorem yEb_off (hG : yGH n bk inH nH) {e v : Nat} (hF : yFr n bk inH e) (hI : yI e v = true) (hv : yM nH v = false) (_ : v < n) (en : Int32) : yEb n bk inH nH e en ↔ yEo n bk nH v en := by
  have hpc := yPk_off hG hF hI hv
  have hn := hG.1
  have key : ∀ w, w < 32 → ((yM nH w = true ∧ ∃ e', yFr n bk inH e' ∧ yPk n bk nH e' = yPk n bk nH e ∧ yI e' w = true) ↔ (yM nH w = true ∧ ∃ y, y < n ∧ yRe n bk nH v y ∧ yM (bk y) w = true)) := by
    intro w hw
    constructor
    · rintro ⟨h1, e', h2, h3, h4⟩
      refine ⟨h1, ?_⟩
      rw [hpc] at h3
      rcases yFr_cases hG h2 with c | ⟨x, hx, hIx, hoff⟩
      · rw [c.2] at h3; have := h2.1; omega
      · rw [yPk_off hG h2 hIx hoff] at h3
        have hre := yCp_inv hG hoff (show yCp n bk nH v = yCp n bk nH x by omega)
        refine ⟨x, hx, hre, ?_⟩
        have hne : x ≠ w := by intro h; rw [h, h1] at hoff; cases hoff
        have g1 := yGr_nodes hG h2.2.1
        rcases (yI_ends hG h2.2.1).1 h4 with c1 | c1 <;> rcases (yI_ends hG h2.2.1).1 hIx with c2 | c2
        · omega
        · rw [c1, c2]; exact g1.2.2.2
        · rw [c1, c2]; exact g1.2.2.1
        · omega
    · rintro ⟨h1, y, hy, hre, hb⟩
      have hyo := yRe_off hv hre
      have hF' := yFr_off hG hy hb (Or.inl hyo)
      obtain ⟨g1, g2, g3, g4, g5⟩ := yGr_of hG hy hb
      refine ⟨h1, yIx y w, hF', ?_, (g5 w).2 (Or.inr rfl)⟩
      rw [yPk_off hG hF' ((g5 y).2 (Or.inl rfl)) hyo, hpc, yCp_eq hG hv hre]
  unfold yEb yEo
  constructor
  · intro h w hw; rw [h w hw]; exact key w hw
  · intro h w hw; rw [h w hw]; exact (key w hw).symm

-- what findPiece gives, by free edges
theorem yBst_free (hG : yGH n bk inH nH) {F : Nat} {fb : Nat → Int32} {be bo : Int32} {bf : Nat} (hF : F ≤ 120) (hB : yBst n F fb bk inH nH be bo bf)
    (hc : ∀ a b e, yChd n bk inH nH a b → yBit2 a b e → bf ≤ yCnt F fb e)
    (hp : ∀ v e, v < n → yM nH v = false → bk v ≠ 0 → yEo n bk nH v e → bf ≤ yCnt F fb e) (e1 : Nat) (he1 : yFr n bk inH e1) :
    (∀ e en, yFr n bk inH e → yEb n bk inH nH e en → bf ≤ yCnt F fb en) ∧ bf ≤ 120 ∧
    ((bo = 0 ∧ bf = yCnt F fb be ∧ ∃ a b, yChd n bk inH nH a b ∧ yBit2 a b be ∧ yEb n bk inH nH (yIx a b) be) ∨
     (∃ v e0, v < n ∧ yM nH v = false ∧ bf = yCnt F fb be ∧ (∀ y, y < 32 → (yM bo y = true ↔ yRe n bk nH v y)) ∧ yEo n bk nH v be ∧ yFr n bk inH e0 ∧ yI e0 v = true ∧ yEb n bk inH nH e0 be)) := by
  have hmin : ∀ e en, yFr n bk inH e → yEb n bk inH nH e en → bf ≤ yCnt F fb en := by
    intro e en hFe hEn
    rcases yFr_cases hG hFe with c | ⟨v, hv, hI, hoff⟩
    · exact hc _ _ en c.1 ((yEb_chd hG hFe c.1 en).1 hEn)
    · refine hp v en hv hoff ?_ ((yEb_off hG hFe hI hoff hv en).1 hEn)
      intro hz
      have g1 := yGr_nodes hG hFe.2.1
      have hn := hG.1
      rcases (yI_ends hG hFe.2.1).1 hI with c | c
      · rw [← c, hz, yM_zero] at g1; have := g1.2.2.1; cases this
      · rw [← c, hz, yM_zero] at g1; have := g1.2.2.2; cases this
  have hle : bf ≤ 120 := by
    obtain ⟨en, hen⟩ := yMask (fun w => yM nH w = true ∧ ∃ e', yFr n bk inH e' ∧ yPk n bk nH e' = yPk n bk nH e1 ∧ yI e' w = true)
    have h1 := hmin e1 en he1 hen
    have h2 := yCnt_le F fb en
    omega
  refine ⟨hmin, hle, ?_⟩
  rcases hB with h | ⟨h1, h2, a, b, h3, h4⟩ | ⟨v, h1, h2, h3, h4, h5, h6⟩
  · omega
  · left
    obtain ⟨g1, g2, g3, g4⟩ := yChd_fr hG h3
    refine ⟨h1, h2, a, b, h3, h4, ?_⟩
    rw [yEb_chd hG g1 (by rw [g3, g4]; exact h3), g3, g4]; exact h4
  · right
    obtain ⟨k, hk, hbk, _⟩ := yM_least h3
    have hF' := yFr_off hG h1 hbk (Or.inl h2)
    obtain ⟨g1, g2, g3, g4, g5⟩ := yGr_of hG h1 hbk
    have hI := (g5 v).2 (Or.inl rfl)
    exact ⟨v, yIx v k, h1, h2, h6, h4, h5, hF', hI, (yEb_off hG hF' hI h2 h1 be).2 h5⟩
end


def yS : Nat → (Nat → Nat) → Nat
  | 0, _ => 0
  | m+1, f => yS m f + f m

theorem yS_congr (m : Nat) (f g : Nat → Nat) (h : ∀ i, i < m → f i = g i) : yS m f = yS m g := by
  induction m with
  | zero => rfl
  | succ m ih => simp only [yS]; rw [ih (fun i hi => h i (by omega)), h m (by omega)]

theorem yS_one (m : Nat) (f g : Nat → Nat) (k d : Nat) (hk : k < m) (h1 : f k = g k + d) (h2 : ∀ i, i < m → i ≠ k → f i = g i) : yS m f = yS m g + d := by
  induction m with
  | zero => omega
  | succ m ih =>
    simp only [yS]
    by_cases e : k = m
    · rw [yS_congr m f g (fun i hi => h2 i (by omega) (by omega)), ← e, h1]; omega
    · rw [ih (by omega) (fun i hi hne => h2 i (by omega) hne), h2 m (by omega) (fun h => e h.symm)]; omega

theorem yNb_one (m : Nat) (p q : Nat → Bool) (k : Nat) (hk : k < m) (h1 : p k = true ∧ q k = false) (h2 : ∀ i, i < m → i ≠ k → p i = q i) : yNb m p = yNb m q + 1 := by
  induction m with
  | zero => omega
  | succ m ih =>
    simp only [yNb]
    by_cases e : k = m
    · rw [yNb_congr m p q (fun i hi => h2 i (by omega) (by omega)), ← e, h1.1, h1.2]; simp
    · rw [ih (by omega) (fun i hi hne => h2 i (by omega) hne), h2 m (by omega) (fun h => e h.symm)]; omega

theorem yNb_pos (m : Nat) (p : Nat → Bool) (k : Nat) (hk : k < m) (h : p k = true) : 0 < yNb m p := by
  induction m with
  | zero => omega
  | succ m ih =>
    simp only [yNb]
    by_cases e : k = m
    · rw [← e, h]; simp
    · have := ih (by omega); omega

theorem yNb_mono (m m' : Nat) (h : m ≤ m') (p : Nat → Bool) : yNb m p ≤ yNb m' p := by
  obtain ⟨d, hd⟩ : ∃ d, m' = m + d := ⟨m' - m, by omega⟩
  rw [hd, yNb_add]; omega

-- different numbers that all have p are no more than those that have p
theorem yPigC (c N : Nat) (p : Nat → Bool) (f : Nat → Nat) (h1 : ∀ i, i < c → f i < N ∧ p (f i) = true) (h2 : ∀ i j, i < c → j < c → f i = f j → i = j) : c ≤ yNb N p := by
  refine yPig c _ (fun i => yNb (f i) p) ?_ ?_
  · intro i hi
    have := h1 i hi
    have h3 : yNb (f i + 1) p ≤ yNb N p := yNb_mono _ _ (by omega) p
    simp only [yNb, this.2, if_true] at h3
    omega
  · intro i j hi hj he
    apply h2 i j hi hj
    have key : ∀ a b, a < b → p a = true → yNb a p ≠ yNb b p := by
      intro a b hab hpa
      have h3 : yNb (a+1) p ≤ yNb b p := yNb_mono _ _ (by omega) p
      simp only [yNb, hpa, if_true] at h3
      omega
    by_cases hlt : f i < f j
    · exact absurd he (key _ _ hlt (h1 i hi).2)
    · by_cases hgt : f j < f i
      · exact absurd he.symm (key _ _ hgt (h1 j hj).2)
      · omega

theorem yNb_blocks (n : Nat) (q : Nat → Nat → Bool) : yNb (32 * n) (fun e => q (e / 32) (e % 32)) = yS n (fun v => yNb 32 (q v)) := by
  induction n with
  | zero => rfl
  | succ n ih =>
    have e : 32 * (n+1) = 32 * n + 32 := by omega
    rw [e, yNb_add, ih]
    simp only [yS]
    congr 1
    apply yNb_congr
    intro i hi
    have e1 : (32 * n + i) / 32 = n := by omega
    have e2 : (32 * n + i) % 32 = i := by omega
    rw [e1, e2]

-- back arcs are no more than edges
theorem yDf_backs {n : Nat} {g : Nat → Nat → Bool} {vis fin : Nat → Bool} {ht par : Nat → Nat} {op : Nat → Nat → Bool} {nb : Nat} {bs bl : Nat → Nat}
    (hn : n ≤ 32) (hg : ∀ v w, g v w = true → v < n ∧ w < n ∧ v ≠ w) (hs : ∀ v w, g v w = g w v)
    (h : yDf n g vis fin ht par op nb bs bl) : 2 * nb ≤ yS n (fun v => yNb 32 (g v)) := by
  obtain ⟨d1, d2, d3, d4, d5, d6, d7, d8, d9, d10⟩ := h
  have hx : ∀ j, ∃ x, j < nb → g (bs j) x = true ∧ ht x = bl j ∧ bl j + 1 < ht (bs j) := by
    intro j
    by_cases hj : j < nb
    · obtain ⟨_, x, a2, _, _, a5, a6⟩ := d8 j hj
      exact ⟨x, fun _ => ⟨a2, a5, a6⟩⟩
    · exact ⟨0, fun h => absurd h hj⟩
  obtain ⟨x, hx⟩ := yChoice hx
  rw [← yNb_blocks n g]
  refine yPigC (2 * nb) (32 * n) _ (fun i => if i < nb then 32 * bs i + x i else 32 * x (i - nb) + bs (i - nb)) ?_ ?_
  · intro i hi
    by_cases e : i < nb
    · rw [if_pos e]
      have h1 := hx i e
      have h2 := hg _ _ h1.1
      have e1 : (32 * bs i + x i) / 32 = bs i := by omega
      have e2 : (32 * bs i + x i) % 32 = x i := by omega
      rw [e1, e2]
      exact ⟨by omega, h1.1⟩
    · rw [if_neg e]
      have h1 := hx (i - nb) (by omega)
      have h2 := hg _ _ h1.1
      have e1 : (32 * x (i - nb) + bs (i - nb)) / 32 = x (i - nb) := by omega
      have e2 : (32 * x (i - nb) + bs (i - nb)) % 32 = bs (i - nb) := by omega
      rw [e1, e2]
      exact ⟨by omega, by rw [hs]; exact h1.1⟩
  · intro i j hi hj he
    have hb : ∀ i, i < nb → bs i < 32 ∧ x i < 32 ∧ ht (x i) = bl i ∧ bl i + 1 < ht (bs i) := by
      intro i hi
      have h1 := hx i hi
      have h2 := hg _ _ h1.1
      exact ⟨by omega, by omega, h1.2.1, h1.2.2⟩
    by_cases e : i < nb
    · by_cases e' : j < nb
      · rw [if_pos e, if_pos e'] at he
        have b1 := hb i e
        have b2 := hb j e'
        have q1 : bs i = bs j := by omega
        have q2 : x i = x j := by omega
        exact d9 i j e e' q1 (by rw [← b1.2.2.1, ← b2.2.2.1, q2])
      · exfalso
        rw [if_pos e, if_neg e'] at he
        have b1 := hb i e
        have b2 := hb (j - nb) (by omega)
        have q1 : bs i = x (j - nb) := by omega
        have q2 : x i = bs (j - nb) := by omega
        have c1 := b1.2.2
        have c2 := b2.2.2
        rw [q2, q1] at c1
        omega
    · by_cases e' : j < nb
      · exfalso
        rw [if_neg e, if_pos e'] at he
        have b1 := hb (i - nb) (by omega)
        have b2 := hb j e'
        have q1 : x (i - nb) = bs j := by omega
        have q2 : bs (i - nb) = x j := by omega
        have c1 := b1.2.2
        have c2 := b2.2.2
        rw [q2, q1] at c1
        omega
      · rw [if_neg e, if_neg e'] at he
        have b1 := hb (i - nb) (by omega)
        have b2 := hb (j - nb) (by omega)
        have q1 : x (i - nb) = x (j - nb) := by omega
        have q2 : bs (i - nb) = bs (j - nb) := by omega
        have := d9 (i - nb) (j - nb) (by omega) (by omega) q2 (by rw [← b1.2.2.1, ← b2.2.2.1, q1])
        omega

-- the arrays while the search goes on
def yCn (n : Nat) (vis fin : Nat → Bool) (ht par : Nat → Nat) (op : Nat → Nat → Bool) (nb : Nat) (bs bl : Nat → Nat)
    (height parent opn : Nat → Int32) (own lower under : Nat → Int64) : Prop :=
  (∀ v, v < n → vis v = true → height v = Int32.ofNat (ht v)) ∧ (∀ v, v < n → vis v = false → height v = -1) ∧
  (∀ v, v < n → vis v = true → 0 < ht v → parent v = Int32.ofNat (par v)) ∧ (∀ v, v < n → vis v = true → ht v = 0 → parent v = -1) ∧
  (∀ v w, v < n → w < 32 → yM (opn v) w = op v w) ∧
  (∀ v j, v < n → j < 64 → (yL (own v) j = true ↔ j < nb ∧ bs j = v)) ∧
  (∀ h j, h ≤ n → j < 64 → (yL (lower h) j = true ↔ j < nb ∧ bl j + 1 = h)) ∧
  (∀ w j, w < n → j < 64 → (yL (under w) j = true ↔ j < nb ∧ vis w = true ∧ yAn ht par w (bs j) ∧ (fin w = true ∨ (bs j ≠ w ∧ fin (yUpp ht par (bs j) (ht w + 1)) = true))))

theorem yDf_ht {n : Nat} {g : Nat → Nat → Bool} {vis fin : Nat → Bool} {ht par : Nat → Nat} {op : Nat → Nat → Bool} {nb : Nat} {bs bl : Nat → Nat}
    (h : yDf n g vis fin ht par op nb bs bl) (v : Nat) (hv : vis v = true) : ht v < n := by
  obtain ⟨d1, d2, _⟩ := h
  have hp := fun k hk => yPar_vis (vis := vis) (ht := ht) (par := par) (fun w a b => ⟨(d2 w a b).1, (d2 w a b).2.2.1⟩) k v hv hk
  have := yPig (ht v + 1) n (fun k => yPar par k v) (fun k hk => d1 _ (hp k (by omega)).1) (by
    intro i j hi hj he
    have a1 := (hp i (by omega)).2
    have a2 := (hp j (by omega)).2
    rw [he] at a1
    omega)
  omega

theorem yn_pred {a b : Nat} (ha : a < 2147483648) (hb : b < 2147483647) : (Int32.ofNat a - 1 ≤ Int32.ofNat b) ↔ a ≤ b + 1 := by
  by_cases h : a = 0
  · subst h
    constructor
    · intro _; omega
    · intro _
      rw [Int32.le_iff_toInt_le, yn_toInt (by omega)]
      have : (Int32.ofNat 0 - 1).toInt = -1 := by decide
      rw [this]; omega
  · have : Int32.ofNat a - 1 = Int32.ofNat (a - 1) := yn_sub (a := a) (b := 1) (by omega)
    rw [this, yn_le (by omega) (by omega)]; omega

section
variable {n : Nat} {g : Nat → Nat → Bool} {vis fin : Nat → Bool} {ht par : Nat → Nat} {op : Nat → Nat → Bool} {nb : Nat} {bs bl : Nat → Nat}
  {height parent opn : Nat → Int32} {own lower under : Nat → Int64}

-- a mask without one bit
theorem yM_drop {x : Int32} {k : Nat} (hk : k < 32) (i : Nat) (hi : i < 32) :
    yM (x &&& (((1 : Int32) <<< (Int32.ofNat k &&& 31)) ^^^ (-1))) i = (yM x i && decide (¬ i = k)) := by
  rw [yM_and, yM_not _ i hi, yM_shl hk i hi]
  by_cases h : i = k <;> simp [h]

theorem yCn_open (h : yCn n vis fin ht par op nb bs bl height parent opn own lower under) (v k : Nat) (hv : v < n) (hk : k < 32) :
    yCn n vis fin ht par (yUp2 op v k) nb bs bl height parent (upd opn v ((opn v) &&& (((1 : Int32) <<< (Int32.ofNat k &&& 31)) ^^^ (-1)))) own lower under := by
  obtain ⟨c1, c2, c3, c4, c5, c6, c7, c8⟩ := h
  refine ⟨c1, c2, c3, c4, ?_, c6, c7, c8⟩
  intro a b ha hb
  unfold yUp2
  by_cases e : a = v
  · rw [e, yupd_same, yM_drop hk b hb, c5 v b hv hb]
    by_cases e2 : b = k
    · simp [e2]
    · simp [e2]
  · rw [yupd_ne _ _ _ _ e, c5 a b ha hb, if_neg (fun hh => e hh.1)]

theorem yCn_tree (hD : yDf n g vis fin ht par op nb bs bl) (h : yCn n vis fin ht par op nb bs bl height parent opn own lower under) (v w : Nat) (hw : vis w = false) :
    yCn n (yUpd vis w true) fin (yUpd ht w (ht v + 1)) (yUpd par w v) op nb bs bl (upd height w (Int32.ofNat (ht v + 1))) (upd parent w (Int32.ofNat v)) opn own lower under := by
  obtain ⟨c1, c2, c3, c4, c5, c6, c7, c8⟩ := h
  obtain ⟨d1, d2, d3, d4, d5, d6, d7, d8, d9, d10⟩ := hD
  have hne : ∀ x, vis x = true → x ≠ w := fun x hx e => by rw [e, hw] at hx; cases hx
  have q1 : ∀ {A : Type} (f : Nat → A) (y : A), yUpd f w y w = y := by intro A f y; unfold yUpd; rw [if_pos rfl]
  have q2 : ∀ {A : Type} (f : Nat → A) (y : A) (x : Nat), x ≠ w → yUpd f w y x = f x := by intro A f y x hx; unfold yUpd; rw [if_neg hx]
  have d2' : ∀ w, vis w = true → 0 < ht w → vis (par w) = true ∧ ht (par w) + 1 = ht w := fun w a b => ⟨(d2 w a b).1, (d2 w a b).2.2.1⟩
  have hup : ∀ x j, vis x = true → yUpp (yUpd ht w (ht v + 1)) (yUpd par w v) x j = yUpp ht par x j := by
    intro x j hx
    unfold yUpp
    rw [q2 ht _ x (hne x hx)]
    exact yPar_same d2' (fun y a _ => q2 par v y (hne y a)) _ x hx (by omega)
  refine ⟨?_, ?_, ?_, ?_, c5, c6, c7, ?_⟩
  · intro x hx hvx
    by_cases e : x = w
    · rw [e, yupd_same, q1]
    · rw [yupd_ne _ _ _ _ e, q2 ht _ x e]
      rw [q2 vis _ x e] at hvx
      exact c1 x hx hvx
  · intro x hx hvx
    by_cases e : x = w
    · rw [e, q1] at hvx; cases hvx
    · rw [yupd_ne _ _ _ _ e]
      rw [q2 vis _ x e] at hvx
      exact c2 x hx hvx
  · intro x hx hvx h0
    by_cases e : x = w
    · rw [e, yupd_same, q1]
    · rw [yupd_ne _ _ _ _ e, q2 par _ x e]
      rw [q2 vis _ x e] at hvx
      rw [q2 ht _ x e] at h0
      exact c3 x hx hvx h0
  · intro x hx hvx h0
    by_cases e : x = w
    · rw [e, q1] at h0; omega
    · rw [yupd_ne _ _ _ _ e]
      rw [q2 vis _ x e] at hvx
      rw [q2 ht _ x e] at h0
      exact c4 x hx hvx h0
  · intro x j hx hj
    rw [c8 x j hx hj]
    by_cases e : x = w
    · rw [e]
      constructor
      · rintro ⟨_, h2, _⟩; rw [hw] at h2; cases h2
      · rintro ⟨h1, _, h3, _⟩
        exfalso
        have hb := (d8 j h1).1
        have h4 := h3.1
        have h5 := h3.2
        rw [hup _ _ hb] at h5
        rw [q1] at h4 h5
        rw [q2 ht _ _ (hne _ hb)] at h4
        have := (yPar_vis d2' (ht (bs j) - (ht v + 1)) (bs j) hb (by omega)).1
        unfold yUpp at h5
        rw [h5, hw] at this; cases this
    · rw [q2 vis _ x e]
      by_cases hvx : vis x = true
      · constructor
        · rintro ⟨h1, h2, h3, h4⟩
          have hb := (d8 j h1).1
          refine ⟨h1, h2, ⟨?_, ?_⟩, ?_⟩
          · rw [q2 ht _ x e, q2 ht _ _ (hne _ hb)]; exact h3.1
          · rw [q2 ht _ x e, hup _ _ hb]; exact h3.2
          · rw [q2 ht _ x e, hup _ _ hb]; exact h4
        · rintro ⟨h1, h2, h3, h4⟩
          have hb := (d8 j h1).1
          have h5 := h3.1
          have h6 := h3.2
          rw [q2 ht _ x e, q2 ht _ _ (hne _ hb)] at h5
          rw [q2 ht _ x e, hup _ _ hb] at h6
          rw [q2 ht _ x e, hup _ _ hb] at h4
          exact ⟨h1, h2, ⟨h5, h6⟩, h4⟩
      · constructor
        · rintro ⟨_, h2, _⟩; exact absurd h2 hvx
        · rintro ⟨_, h2, _⟩; exact absurd h2 hvx

theorem yCn_back (d2' : ∀ w, vis w = true → 0 < ht w → vis (par w) = true ∧ ht (par w) + 1 = ht w) (h : yCn n vis fin ht par op nb bs bl height parent opn own lower under) (v w : Nat) (hvn : v < n) (hv : vis v = true)
    (hacf : ∀ x, vis x = true → yAn ht par x v → fin x = false) (hnb : nb < 64) (hww : ht w + 1 ≤ n) :
    yCn n vis fin ht par op (nb+1) (yUpd bs nb v) (yUpd bl nb (ht w)) height parent opn
      (vp_updL own v ((own v) ||| ((1 : Int64) <<< (Int32.toInt64 (Int32.ofNat nb) &&& 63))))
      (vp_updL lower (ht w + 1) ((lower (ht w + 1)) ||| ((1 : Int64) <<< (Int32.toInt64 (Int32.ofNat nb) &&& 63)))) under := by
  obtain ⟨c1, c2, c3, c4, c5, c6, c7, c8⟩ := h
  have q1 : ∀ (f : Nat → Nat) (y : Nat), yUpd f nb y nb = y := by intro f y; unfold yUpd; rw [if_pos rfl]
  have q2 : ∀ (f : Nat → Nat) (y : Nat) (x : Nat), x ≠ nb → yUpd f nb y x = f x := by intro f y x hx; unfold yUpd; rw [if_neg hx]
  refine ⟨c1, c2, c3, c4, c5, ?_, ?_, ?_⟩
  · intro x j hx hj
    by_cases e : x = v
    · rw [e, yupdL_same, yL_or, Bool.or_eq_true, c6 v j hvn hj, yL_shl hnb j hj, decide_eq_true_iff]
      by_cases ej : j = nb
      · rw [ej, q1]
        constructor
        · intro _; exact ⟨by omega, rfl⟩
        · intro _; exact Or.inr rfl
      · rw [q2 bs _ j ej]
        constructor
        · rintro (h1 | h1)
          · exact ⟨by omega, h1.2⟩
          · exact absurd h1 ej
        · rintro ⟨h1, h2⟩; exact Or.inl ⟨by omega, h2⟩
    · rw [yupdL_ne _ _ _ _ e, c6 x j hx hj]
      by_cases ej : j = nb
      · rw [ej, q1]
        constructor
        · rintro ⟨h1, _⟩; omega
        · rintro ⟨_, h2⟩; exact absurd h2.symm e
      · rw [q2 bs _ j ej]
        constructor
        · rintro ⟨h1, h2⟩; exact ⟨by omega, h2⟩
        · rintro ⟨h1, h2⟩; exact ⟨by omega, h2⟩
  · intro x j hx hj
    by_cases e : x = ht w + 1
    · rw [e, yupdL_same, yL_or, Bool.or_eq_true, c7 (ht w + 1) j (by omega) hj, yL_shl hnb j hj, decide_eq_true_iff]
      by_cases ej : j = nb
      · rw [ej, q1]
        constructor
        · intro _; exact ⟨by omega, rfl⟩
        · intro _; exact Or.inr rfl
      · rw [q2 bl _ j ej]
        constructor
        · rintro (h1 | h1)
          · exact ⟨by omega, h1.2⟩
          · exact absurd h1 ej
        · rintro ⟨h1, h2⟩; exact Or.inl ⟨by omega, h2⟩
    · rw [yupdL_ne _ _ _ _ e, c7 x j hx hj]
      by_cases ej : j = nb
      · rw [ej, q1]
        constructor
        · rintro ⟨h1, _⟩; omega
        · rintro ⟨_, h2⟩; exact absurd h2.symm e
      · rw [q2 bl _ j ej]
        constructor
        · rintro ⟨h1, h2⟩; exact ⟨by omega, h2⟩
        · rintro ⟨h1, h2⟩; exact ⟨by omega, h2⟩
  · intro x j hx hj
    rw [c8 x j hx hj]
    by_cases ej : j = nb
    · rw [ej, q1]
      constructor
      · rintro ⟨h1, _⟩; omega
      · rintro ⟨_, h2, h3, h4⟩
        exfalso
        have hfx := hacf x h2 h3
        rcases h4 with h4 | ⟨h4, h5⟩
        · rw [hfx] at h4; cases h4
        · -- the node above x on the way to v is not left yet
          have hlt : ht x < ht v := by
            have h6 := h3.1
            by_cases he : ht x = ht v
            · exfalso
              have h7 := h3.2
              unfold yUpp at h7
              rw [he, Nat.sub_self] at h7
              exact h4 h7
            · omega
          have hvv := yPar_vis d2' (ht v - (ht x + 1)) v hv (by omega)
          have hA : yAn ht par (yUpp ht par v (ht x + 1)) v := by
            refine ⟨?_, ?_⟩
            · unfold yUpp; rw [hvv.2]; omega
            · unfold yUpp; rw [hvv.2]; congr 1; omega
          have := hacf _ hvv.1 hA
          unfold yUpp at h5
          rw [this] at h5; cases h5
    · rw [q2 bs _ j ej]
      constructor
      · rintro ⟨h1, h2⟩; exact ⟨by omega, h2⟩
      · rintro ⟨h1, h2⟩; exact ⟨by omega, h2⟩

theorem yCn_leave (hD : yDf n g vis fin ht par op nb bs bl) (h : yCn n vis fin ht par op nb bs bl height parent opn own lower under) (v : Nat) (hvn : v < n) (hv : vis v = true) (hf : fin v = false)
    (hact : ∀ x, vis x = true → fin x = false → yAn ht par x v) (under' : Nat → Int64)
    (hu1 : under' v = (under v ||| own v))
    (hu2 : 0 < ht v → under' (par v) = (under (par v) ||| (under v ||| own v)))
    (hu3 : ∀ x, x ≠ v → (0 < ht v → x ≠ par v) → under' x = under x) :
    yCn n vis (yUpd fin v true) ht par op nb bs bl height parent opn own lower under' := by
  obtain ⟨c1, c2, c3, c4, c5, c6, c7, c8⟩ := h
  obtain ⟨d1, d2, d3, d4, d5, d6, d7, d8, d9, d10⟩ := hD
  have q1 : yUpd fin v true v = true := by unfold yUpd; rw [if_pos rfl]
  have q2 : ∀ x, x ≠ v → yUpd fin v true x = fin x := by intro x hx; unfold yUpd; rw [if_neg hx]
  have d2' : ∀ w, vis w = true → 0 < ht w → vis (par w) = true ∧ ht (par w) + 1 = ht w := fun w a b => ⟨(d2 w a b).1, (d2 w a b).2.2.1⟩
  -- the node above x on the way to y
  have hab : ∀ x y, vis y = true → yAn ht par x y → y ≠ x → ht x < ht y ∧ vis (yUpp ht par y (ht x + 1)) = true ∧ ht (yUpp ht par y (ht x + 1)) = ht x + 1 ∧
      par (yUpp ht par y (ht x + 1)) = x ∧ yAn ht par (yUpp ht par y (ht x + 1)) y := by
    intro x y hy hA hne
    have hlt : ht x < ht y := by
      have h6 := hA.1
      by_cases he : ht x = ht y
      · exfalso
        have h7 := hA.2
        unfold yUpp at h7
        rw [he, Nat.sub_self] at h7
        exact hne h7
      · omega
    have hvv := yPar_vis d2' (ht y - (ht x + 1)) y hy (by omega)
    have hh : ht (yUpp ht par y (ht x + 1)) = ht x + 1 := by unfold yUpp; rw [hvv.2]; omega
    refine ⟨hlt, hvv.1, hh, ?_, ⟨by rw [hh]; omega, by rw [hh]⟩⟩
    have h7 := hA.2
    unfold yUpp at h7 ⊢
    have h8 : ht y - ht x = (ht y - (ht x + 1)) + 1 := by omega
    rw [h8, yPar_succ] at h7
    exact h7
  -- all above v is left
  have hvfin : ∀ j, j < nb → yAn ht par v (bs j) → bs j ≠ v → fin (yUpp ht par (bs j) (ht v + 1)) = true := by
    intro j hj hA hne
    have hb := (d8 j hj).1
    obtain ⟨h1, h2, h3, h4, h5⟩ := hab v (bs j) hb hA hne
    cases hfx : fin (yUpp ht par (bs j) (ht v + 1)) with
    | true => rfl
    | false =>
      have := (hact _ h2 hfx).1
      omega
  have hv8 : ∀ j, j < 64 → (yL (under v ||| own v) j = true ↔ j < nb ∧ yAn ht par v (bs j)) := by
    intro j hj
    rw [yL_or, Bool.or_eq_true, c8 v j hvn hj, c6 v j hvn hj]
    constructor
    · rintro (⟨h1, _, h3, _⟩ | ⟨h1, h2⟩)
      · exact ⟨h1, h3⟩
      · exact ⟨h1, by rw [h2]; exact yAn_refl v⟩
    · rintro ⟨h1, h2⟩
      by_cases e : bs j = v
      · exact Or.inr ⟨h1, e⟩
      · exact Or.inl ⟨h1, hv, h2, Or.inr ⟨e, hvfin j h1 h2 e⟩⟩
  refine ⟨c1, c2, c3, c4, c5, c6, c7, ?_⟩
  intro x j hx hj
  by_cases e : x = v
  · rw [e, hu1, hv8 j hj, q1]
    constructor
    · rintro ⟨h1, h2⟩; exact ⟨h1, hv, h2, Or.inl rfl⟩
    · rintro ⟨h1, _, h3, _⟩; exact ⟨h1, h3⟩
  · rw [q2 x e]
    by_cases hp : 0 < ht v ∧ x = par v
    · have hxp := hp.2
      have hpv := d2 v hv hp.1
      have hpf := d6 v hv hf hp.1
      rw [hxp, hu2 hp.1, yL_or, Bool.or_eq_true, hv8 j hj, c8 (par v) j (by rw [← hxp]; exact hx) hj]
      have hApv : yAn ht par (par v) v := by
        refine ⟨by omega, ?_⟩
        unfold yUpp
        have : ht v - ht (par v) = 1 := by omega
        rw [this]; rfl
      constructor
      · rintro (⟨h1, h2, h3, h4⟩ | ⟨h1, h2⟩)
        · refine ⟨h1, h2, h3, ?_⟩
          rcases h4 with h4 | ⟨h4, h5⟩
          · exact Or.inl h4
          · refine Or.inr ⟨h4, ?_⟩
            by_cases ev : yUpp ht par (bs j) (ht (par v) + 1) = v
            · rw [ev]; exact q1
            · rw [q2 _ ev]; exact h5
        · have hA := yAn_trans hApv h2
          refine ⟨h1, hpv.1, hA, Or.inr ⟨?_, ?_⟩⟩
          · intro eb
            have := h2.1
            rw [eb] at this; omega
          · have h5 := h2.2
            rw [← hpv.2.2.1] at h5
            rw [h5]; exact q1
      · rintro ⟨h1, h2, h3, h4⟩
        rcases h4 with h4 | ⟨h4, h5⟩
        · rw [hpf] at h4; cases h4
        · by_cases ev : yUpp ht par (bs j) (ht (par v) + 1) = v
          · right
            have hb := (d8 j h1).1
            obtain ⟨k1, k2, k3, k4, k5⟩ := hab (par v) (bs j) hb h3 h4
            rw [ev] at k5
            exact ⟨h1, k5⟩
          · rw [q2 _ ev] at h5
            exact Or.inl ⟨h1, h2, h3, Or.inr ⟨h4, h5⟩⟩
    · rw [hu3 x e (fun h0 ex => hp ⟨h0, ex⟩), c8 x j hx hj]
      have hno : ∀ j, j < nb → vis x = true → yAn ht par x (bs j) → bs j ≠ x → yUpp ht par (bs j) (ht x + 1) ≠ v := by
        intro j hj hvx hA hne ev
        have hb := (d8 j hj).1
        obtain ⟨k1, k2, k3, k4, k5⟩ := hab x (bs j) hb hA hne
        rw [ev] at k3 k4
        exact hp ⟨by omega, k4.symm⟩
      constructor
      · rintro ⟨h1, h2, h3, h4⟩
        refine ⟨h1, h2, h3, ?_⟩
        rcases h4 with h4 | ⟨h4, h5⟩
        · exact Or.inl h4
        · exact Or.inr ⟨h4, by rw [q2 _ (hno j h1 h2 h3 h4)]; exact h5⟩
      · rintro ⟨h1, h2, h3, h4⟩
        refine ⟨h1, h2, h3, ?_⟩
        rcases h4 with h4 | ⟨h4, h5⟩
        · exact Or.inl h4
        · rw [q2 _ (hno j h1 h2 h3 h4)] at h5
          exact Or.inr ⟨h4, h5⟩
end

theorem yDf_act {n : Nat} {g : Nat → Nat → Bool} {vis fin : Nat → Bool} {ht par : Nat → Nat} {op : Nat → Nat → Bool} {nb : Nat} {bs bl : Nat → Nat}
    (h : yDf n g vis fin ht par op nb bs bl) : ∀ k v x, ht v - ht x = k → vis v = true → fin v = false → yAn ht par x v → fin x = false := by
  obtain ⟨d1, d2, d3, d4, d5, d6, d7, d8, d9, d10⟩ := h
  have d2' : ∀ w, vis w = true → 0 < ht w → vis (par w) = true ∧ ht (par w) + 1 = ht w := fun w a b => ⟨(d2 w a b).1, (d2 w a b).2.2.1⟩
  intro k
  induction k with
  | zero =>
    intro v x hk hv hf hA
    have h1 := hA.2
    have h2 := hA.1
    have h3 : ht x = ht v := by omega
    unfold yUpp at h1
    rw [h3, Nat.sub_self] at h1
    have h4 : v = x := h1
    rw [← h4]; exact hf
  | succ k ih =>
    intro v x hk hv hf hA
    have hne : x ≠ v := by intro e; rw [e] at hk; omega
    obtain ⟨h0, hA'⟩ := yAn_down d2' hv hne hA
    have := d2' v hv h0
    exact ih (par v) x (by omega) this.1 (d6 v hv hf h0) hA'

theorem w_searchL {n : Nat} {g : Nat → Nat → Bool} (hn : n ≤ 21) (hg : ∀ v w, g v w = true → v < n ∧ w < n ∧ v ≠ w) (hs : ∀ v w, g v w = g w v)
    (hE : yS n (fun v => yNb 32 (g v)) ≤ 115) (i1 : Int32) (vis0 : Nat → Bool)
    (K : (Int32 × (Nat → Int32) × (Nat → Int32) × (Nat → Int32) × (Nat → Int64) × (Nat → Int64) × (Nat → Int64)) → Prop)
    (hK : ∀ vis fin ht par op nb bs bl height parent opn own lower under, yDf n g vis fin ht par op nb bs bl → yCn n vis fin ht par op nb bs bl height parent opn own lower under →
      (∀ x, vis x = true → fin x = true) → (∀ x, vis0 x = true → vis x = true) → K (Int32.ofNat nb, height, parent, opn, own, lower, under)) :
    ∀ μ vis fin ht par op nb bs bl height parent opn own lower under v step, yDf n g vis fin ht par op nb bs bl → yCn n vis fin ht par op nb bs bl height parent opn own lower under →
      v < n → vis v = true → fin v = false → (∀ x, vis x = true → fin x = false → yAn ht par x v) → (∀ x, vis0 x = true → vis x = true) →
      yS n (fun a => yNb 32 (op a)) + yNb n (fun a => !fin a) = μ → step + μ ≤ 460 →
      wLX5_searchFrom_18 i1 K (μ+1) height parent opn own lower under (Int32.ofNat nb) (Int32.ofNat v) (Int32.ofNat step) := by
  intro μ
  induction μ with
  | zero =>
    intro vis fin ht par op nb bs bl height parent opn own lower under v step hD hC hvn hv hf hact h0 hμ hstep
    exfalso
    have := yNb_pos n (fun a => !fin a) v hvn (by simp [hf])
    omega
  | succ μ ih =>
    intro vis fin ht par op nb bs bl height parent opn own lower under v step hD hC hvn hv hf hact h0 hμ hstep
    have hD' := hD
    have hC' := hC
    obtain ⟨d1, d2, d3, d4, d5, d6, d7, d8, d9, d10⟩ := hD'
    obtain ⟨c1, c2, c3, c4, c5, c6, c7, c8⟩ := hC'
    have d2' : ∀ w, vis w = true → 0 < ht w → vis (par w) = true ∧ ht (par w) + 1 = ht w := fun w a b => ⟨(d2 w a b).1, (d2 w a b).2.2.1⟩
    have hacf : ∀ x, vis x = true → yAn ht par x v → fin x = false := fun x _ hA => yDf_act hD _ v x rfl hv hf hA
    have hhv := yDf_ht hD v hv
    have hstep1 : Int32.ofNat step + 1 = Int32.ofNat (step + 1) := yn_add step 1
    have e462 : (462 : Int32) = Int32.ofNat 462 := rfl
    unfold wLX5_searchFrom_18
    refine ⟨fun hbad => ?_, fun _ => ⟨fun hneg => ?_, fun _ => ?_⟩⟩
    · exfalso; rw [e462, yn_le (by omega) (by omega)] at hbad; omega
    · exact absurd hneg (yn_neg (by omega))
    · rw [yn_nat (by omega : v < 2147483648), hstep1]
      refine ⟨yn_in (by omega) (by omega), fun hne => ?_, fun hz => ?_⟩
      · -- a neighbour to look at
        refine ⟨yn_in (by omega) (by omega), ?_⟩
        obtain ⟨k, hk, hbk, hlk⟩ := yM_least hne
        refine w_lowest hk hbk hlk _ ?_
        have hop : op v k = true := by rw [← c5 v k hvn hk]; exact hbk
        have hgk := hg _ _ (d3 v k hop)
        refine ⟨yn_in (by omega) (by omega), yn_in (by omega) (by omega), ?_⟩
        intro g72 h72
        rw [yn_nat (by omega : k < 2147483648)]
        refine ⟨yn_in (by omega) (by omega), ?_⟩
        -- the measure goes down
        have hμ' : yS n (fun a => yNb 32 (yUp2 op v k a)) + yNb n (fun a => !fin a) = μ := by
          have : yS n (fun a => yNb 32 (op a)) = yS n (fun a => yNb 32 (yUp2 op v k a)) + 1 := by
            refine yS_one n _ _ v 1 hvn ?_ ?_
            · refine yNb_one 32 _ _ k hk ⟨hop, by unfold yUp2; rw [if_pos ⟨rfl, rfl⟩]⟩ ?_
              intro i _ hik
              unfold yUp2; rw [if_neg (fun hh => hik hh.2)]
            · intro i _ hiv
              apply yNb_congr
              intro b _
              unfold yUp2; rw [if_neg (fun hh => hiv hh.1)]
          omega
        have hC2 := yCn_open hC v k hvn hk
        rw [← h72] at hC2
        refine ⟨fun hge => ?_, fun hlt => ?_⟩
        · -- seen before
          have hvk : vis k = true := by
            cases hh : vis k with
            | true => rfl
            | false =>
              exfalso
              rw [c2 k hgk.2.1 hh] at hge
              exact absurd hge (by decide)
          have hhk := yDf_ht hD k hvk
          rw [c1 k hgk.2.1 hvk, c1 v hvn hv]
          refine ⟨yn_in (by omega) (by omega), yn_in (by omega) (by omega), fun hle => ?_, fun hnle => ?_⟩
          · rw [yn_pred (by omega) (by omega)] at hle
            have hD2 := yDf_seen hs hD v k hv hact hop hvk nb bs bl (Or.inl ⟨by omega, rfl, rfl, rfl⟩)
            exact ih vis fin ht par _ nb bs bl height parent g72 own lower under v (step+1) hD2 hC2 hvn hv hf hact h0 hμ' (by omega)
          · rw [yn_pred (by omega) (by omega)] at hnle
            have hD2 := yDf_seen hs hD v k hv hact hop hvk (nb+1) (yUpd bs nb v) (yUpd bl nb (ht k)) (Or.inr ⟨by omega, rfl, rfl, rfl⟩)
            have hnb2 := yDf_backs (by omega) hg hs hD2
            have hnb : nb < 57 := by omega
            refine ⟨yn_in (by omega) (by omega), ?_⟩
            unfold wX5_addBack
            intro v6 hv6 v14 hv14
            have e1 : Int32.ofNat (ht k) + 1 = Int32.ofNat (ht k + 1) := yn_add _ 1
            have e2 : Int32.ofNat nb + 1 = Int32.ofNat (nb + 1) := yn_add _ 1
            rw [yn_nat (by omega : v < 2147483648), e1, yn_nat (by omega : ht k + 1 < 2147483648)]
            refine ⟨yn_in (by omega) (by omega), yn_in (by omega) (by omega), ?_⟩
            intro g26 h26
            refine ⟨yn_in (by omega) (by omega), yn_in (by omega) (by omega), ?_⟩
            intro g38 h38
            have hC3 := yCn_back d2' hC2 v k hvn hv hacf (by omega) (by omega)
            rw [hv14, e2, h26, h38, hv6]
            exact ih vis fin ht par _ (nb+1) _ _ height parent g72 _ _ under v (step+1) hD2 hC3 hvn hv hf hact h0 hμ' (by omega)
        · -- new
          have hvk : vis k = false := by
            cases hh : vis k with
            | false => rfl
            | true =>
              exfalso
              apply hlt
              rw [c1 k hgk.2.1 hh]
              have : (0 : Int32) = Int32.ofNat 0 := rfl
              rw [this, yn_le (by omega) (by have := yDf_ht hD k hh; omega)]; omega
          have hD2 := yDf_tree hD v k hv hf hop hvk hgk.2.1
          refine ⟨yn_in (by omega) (by omega), yn_in (by omega) (by omega), ?_⟩
          intro g97 h97
          refine ⟨yn_in (by omega) (by omega), ?_⟩
          intro g105 h105
          have e1 : Int32.ofNat (ht v) + 1 = Int32.ofNat (ht v + 1) := yn_add _ 1
          rw [c1 v hvn hv, e1] at h97
          have hC3 := yCn_tree hD hC v k hvk
          have hC4 := yCn_open hC3 v k hvn hk
          rw [← h72, ← h97, ← h105] at hC4
          have q1 : yUpd vis k true k = true := by unfold yUpd; rw [if_pos rfl]
          have hvis1 : ∀ x, vis x = true → yUpd vis k true x = true := by
            intro x hx; unfold yUpd; by_cases e : x = k
            · rw [if_pos e]
            · rw [if_neg e]; exact hx
          have hfk : fin k = false := by
            cases hh : fin k with
            | false => rfl
            | true => rw [(d5 k hh).1] at hvk; cases hvk
          refine ih (yUpd vis k true) fin (yUpd ht k (ht v + 1)) (yUpd par k v) _ nb bs bl g97 g105 g72 own lower under k (step+1) hD2 hC4 hgk.2.1 q1 hfk ?_ (fun x hx => hvis1 x (h0 x hx)) hμ' (by omega)
          intro x hx hfx
          by_cases e : x = k
          · rw [e]; exact yAn_refl k
          · have hvx : vis x = true := by unfold yUpd at hx; rw [if_neg e] at hx; exact hx
            have hA := hact x hvx hfx
            -- over v to k
            have hvk' : v ≠ k := fun e => by rw [e, hvk] at hv; cases hv
            have hx' : yUpd ht k (ht v + 1) x = ht x := by unfold yUpd; rw [if_neg e]
            have hk' : yUpd ht k (ht v + 1) k = ht v + 1 := by unfold yUpd; rw [if_pos rfl]
            have hA1 := hA.1
            have hA2 := hA.2
            refine ⟨by rw [hx', hk']; omega, ?_⟩
            unfold yUpp at hA2 ⊢
            rw [hx', hk']
            have e3 : ht v + 1 - ht x = (ht v - ht x) + 1 := by omega
            rw [e3]
            show yPar (yUpd par k v) (ht v - ht x) (yUpd par k v k) = x
            have e4 : yUpd par k v k = v := by unfold yUpd; rw [if_pos rfl]
            rw [e4, yPar_same d2' (fun y a _ => by unfold yUpd; rw [if_neg (fun e => by rw [e, hvk] at a; cases a)]) _ v hv (by omega)]
            exact hA2
      · -- nothing more: leave v
        have hall : ∀ x, op v x = false := by
          intro x
          by_cases hx : x < 32
          · rw [← c5 v x hvn hx, hz]; exact yM_zero x
          · cases hh : op v x with
            | false => rfl
            | true => have := hg _ _ (d3 v x hh); omega
        have hD2 := yDf_leave hD v hv hall hact
        have hμ' : yS n (fun a => yNb 32 (op a)) + yNb n (fun a => !yUpd fin v true a) = μ := by
          have : yNb n (fun a => !fin a) = yNb n (fun a => !yUpd fin v true a) + 1 := by
            refine yNb_one n _ _ v hvn ⟨by simp [hf], by simp [yUpd]⟩ ?_
            intro i _ hi
            simp [yUpd, hi]
          omega
        unfold wX5_leave
        rw [yn_nat (by omega : v < 2147483648)]
        refine ⟨yn_in (by omega) (by omega), yn_in (by omega) (by omega), yn_in (by omega) (by omega), ?_⟩
        intro g14 h14
        refine ⟨yn_in (by omega) (by omega), fun hneg => ?_, fun hpos => ?_⟩
        · -- a root
          have hroot : ht v = 0 := by
            by_cases h : ht v = 0
            · exact h
            · exfalso
              rw [c3 v hvn hv (by omega)] at hneg
              have := (d2' v hv (by omega)).1
              exact yn_neg (by have := d1 _ this; omega) hneg
          have hC2 := yCn_leave hD hC v hvn hv hf hact g14 (by rw [h14, yupdL_same]) (fun h => by omega) (fun x hx _ => by rw [h14, yupdL_ne _ _ _ _ hx])
          have hallfin : ∀ x, vis x = true → yUpd fin v true x = true := by
            intro x hx
            unfold yUpd
            by_cases e : x = v
            · rw [if_pos e]
            · rw [if_neg e]
              cases hh : fin x with
              | true => rfl
              | false =>
                exfalso
                have hA := hact x hx hh
                have h1 := hA.1
                have h2 := hA.2
                have h3 : ht x = ht v := by omega
                unfold yUpp at h2
                rw [h3, Nat.sub_self] at h2
                exact e h2.symm
          refine ⟨yn_in (by omega) (by omega), ?_⟩
          rw [c4 v hvn hv hroot]
          have hfin := hK vis (yUpd fin v true) ht par op nb bs bl height parent opn own lower g14 hD2 hC2 hallfin h0
          unfold wLX5_searchFrom_18
          refine ⟨fun _ => hfin, fun _ => ⟨fun _ => hfin, fun hh => absurd (by decide) hh⟩⟩
        · have hnr : 0 < ht v := by
            by_cases h : 0 < ht v
            · exact h
            · exfalso; apply hpos; rw [c4 v hvn hv (by omega)]; decide
          have hp := d2' v hv hnr
          have hpn := d1 _ hp.1
          have hpv : par v ≠ v := by intro e; rw [e] at hp; omega
          rw [c3 v hvn hv hnr, yn_nat (by omega : par v < 2147483648)]
          refine ⟨yn_in (by omega) (by omega), yn_in (by omega) (by omega), yn_in (by omega) (by omega), yn_in (by omega) (by omega), ?_⟩
          intro g43 h43
          refine ⟨yn_in (by omega) (by omega), ?_⟩
          have hC2 := yCn_leave hD hC v hvn hv hf hact g43
            (by rw [h43, yupdL_ne _ _ _ _ (Ne.symm hpv), h14, yupdL_same])
            (fun _ => by rw [h43, yupdL_same, h14, yupdL_same, yupdL_ne _ _ _ _ hpv])
            (fun x hx hx2 => by rw [h43, yupdL_ne _ _ _ _ (hx2 hnr), h14, yupdL_ne _ _ _ _ hx])
          have hpf : yUpd fin v true (par v) = false := by unfold yUpd; rw [if_neg hpv]; exact d6 v hv hf hnr
          refine ih vis (yUpd fin v true) ht par op nb bs bl height parent opn own lower g43 (par v) (step+1) hD2 hC2 hpn hp.1 hpf ?_ h0 hμ' (by omega)
          intro x hx hfx
          have hxv : x ≠ v := by intro e; unfold yUpd at hfx; rw [if_pos e] at hfx; cases hfx
          have hfx' : fin x = false := by unfold yUpd at hfx; rw [if_neg hxv] at hfx; exact hfx
          exact (yAn_down d2' hv hxv (hact x hx hfx')).2

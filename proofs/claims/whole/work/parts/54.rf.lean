
section
variable {d L : Nat} {r pn : Nat → Nat}

theorem yGc_n1 (_ : 1 ≤ d) (hL : 2 ≤ L) (hrd : r d = pn (L-1)) {k : Nat} (hk : k < d) :
    yGc d L r pn k = r k ∧ yGc d L r pn ((k+1) % (d+L-1)) = r (k+1) := by
  unfold yGc
  rw [if_pos hk, Nat.mod_eq_of_lt (by omega)]
  refine ⟨rfl, ?_⟩
  by_cases h : k + 1 < d
  · rw [if_pos h]
  · rw [if_neg h, show k + 1 = d by omega, hrd]; congr 1; omega

theorem yGc_n2 (hd : 1 ≤ d) (_ : 2 ≤ L) (hr0 : r 0 = pn 0) {j : Nat} (hj : j + 1 < L) :
    yGc d L r pn (d+(L-2-j)) = pn (j+1) ∧ yGc d L r pn ((d+(L-2-j)+1) % (d+L-1)) = pn j := by
  unfold yGc
  rw [if_neg (by omega)]
  refine ⟨by congr 1; omega, ?_⟩
  by_cases h : j = 0
  · rw [show d+(L-2-j)+1 = d+L-1 by omega, Nat.mod_self, if_pos (by omega), hr0, h]
  · rw [Nat.mod_eq_of_lt (by omega), if_neg (by omega)]; congr 1; omega

theorem yGc_n3 {k : Nat} (hk : k < d+L-1) : k < d ∨ ∃ j, j + 1 < L ∧ k = d+(L-2-j) := by
  by_cases h : k < d
  · exact Or.inl h
  · exact Or.inr ⟨L-2-(k-d), by omega, by omega⟩

theorem yGc_lt {n : Nat} (hr : ∀ k, k < d → r k < n) (hp : ∀ k, k < L → pn k < n) {k : Nat} (hk : k < d+L-1) : yGc d L r pn k < n := by
  unfold yGc
  by_cases h : k < d
  · rw [if_pos h]; exact hr k h
  · rw [if_neg h]; exact hp _ (by omega)

theorem yGc_inj (hr : ∀ i j, i < d → j < d → r i = r j → i = j) (hp : ∀ i j, i < L → j < L → pn i = pn j → i = j) (hne : ∀ k j, k < d → 0 < j → j < L → r k ≠ pn j)
    (i j : Nat) (hi : i < d+L-1) (hj : j < d+L-1) (h : yGc d L r pn i = yGc d L r pn j) : i = j := by
  unfold yGc at h
  by_cases h1 : i < d
  · rw [if_pos h1] at h
    by_cases h2 : j < d
    · rw [if_pos h2] at h; exact hr i j h1 h2 h
    · rw [if_neg h2] at h; exact absurd h (hne i _ h1 (by omega) (by omega))
  · rw [if_neg h1] at h
    by_cases h2 : j < d
    · rw [if_pos h2] at h; exact absurd h.symm (hne j _ h2 (by omega) (by omega))
    · rw [if_neg h2] at h
      have := hp _ _ (by omega) (by omega) h
      omega
end

-- the edges of a way; the edges of a part of a round
noncomputable def yPp (L : Nat) (pn : Nat → Nat) (e : Nat) : Bool := yD (∃ k, k + 1 < L ∧ e = yIx (pn k) (pn (k+1)))
noncomputable def yAa (d : Nat) (r : Nat → Nat) (e : Nat) : Bool := yD (∃ k, k < d ∧ e = yIx (r k) (r (k+1)))
noncomputable def yFo (L : Nat) (pn : Nat → Nat) (d : Nat) (r : Nat → Nat) (f F : Nat) (fo : Nat → Nat → Nat) (a b : Nat) : Nat :=
  if yD (∃ k, k + 1 < L ∧ a = pn k ∧ b = pn (k+1)) = true then F
  else if yD (∃ k, k + 1 < L ∧ b = pn k ∧ a = pn (k+1)) = true then f
  else if fo a b = f ∧ yAa d r (yIx a b) = false then F else fo a b

section
variable {n F : Nat} {H : Nat → Bool} {sz : Nat → Nat} {fc : Nat → Nat → Nat} {fo : Nat → Nat → Nat}
variable {f s d L : Nat} {r pn : Nat → Nat}

-- what is known of the round r (of s nodes) of face f and of the way pn from r 0 to r d
def yRd (n : Nat) (H : Nat → Bool) (fo : Nat → Nat → Nat) (f s : Nat) (r : Nat → Nat) (d L : Nat) (pn : Nat → Nat) : Prop :=
  3 ≤ s ∧ (∀ k, r k < n) ∧ (∀ i j, i < s → j < s → r i = r j → i = j) ∧ (∀ k, r (k+s) = r k) ∧
  (∀ k, H (yIx (r k) (r (k+1))) = true ∧ fo (r k) (r (k+1)) = f) ∧
  (∀ a b, a < 32 → b < 32 → a ≠ b → H (yIx a b) = true → fo a b = f → ∃ k, k < s ∧ a = r k ∧ b = r (k+1)) ∧
  1 ≤ d ∧ d < s ∧ 2 ≤ L ∧ r 0 = pn 0 ∧ r d = pn (L-1) ∧ (∀ k, k < L → pn k < n) ∧ (∀ i j, i < L → j < L → pn i = pn j → i = j) ∧
  (∀ k, 0 < k → k + 1 < L → ∀ w, w < 32 → w ≠ pn k → H (yIx (pn k) w) = false) ∧ (∀ k, k + 1 < L → H (yIx (pn k) (pn (k+1))) = false)

theorem yRd_ne (h : yRd n H fo f s r d L pn) (k : Nat) : r k ≠ r (k+1) := by
  obtain ⟨h3, h1, h2, h4, _⟩ := h
  have hmod : ∀ k, r k = r (k % s) := by
    intro k
    induction k using Nat.strongRecOn with
    | ind k ih =>
      by_cases hk : k < s
      · rw [Nat.mod_eq_of_lt hk]
      · have := ih (k - s) (by omega)
        rw [show k = (k - s) + s by omega, h4, this, Nat.add_mod_right]
  intro he
  rw [hmod k, hmod (k+1)] at he
  have := h2 _ _ (Nat.mod_lt _ (by omega)) (Nat.mod_lt _ (by omega)) he
  rw [Nat.add_mod] at this
  rw [Nat.mod_eq_of_lt (show 1 < s by omega)] at this
  have hk := Nat.mod_lt k (show 0 < s by omega)
  by_cases c : k % s + 1 < s
  · rw [Nat.mod_eq_of_lt c] at this; omega
  · rw [show k % s + 1 = s by omega, Nat.mod_self] at this; omega

theorem yRd_inj (hn : n ≤ 21) (h : yRd n H fo f s r d L pn) (i j : Nat) (hi : i < s) (hj : j < s) (he : yIx (r i) (r (i+1)) = yIx (r j) (r (j+1))) : i = j := by
  have hmod1 : ∀ k, k < s → r (k+1) = r ((k+1) % s) := by
    intro k hk
    by_cases c : k + 1 < s
    · rw [Nat.mod_eq_of_lt c]
    · rw [show k + 1 = 0 + s by omega, h.2.2.2.1 0, Nat.add_mod_right, Nat.mod_eq_of_lt (by omega)]
  rw [hmod1 i hi, hmod1 j hj] at he
  exact yCy_inj h.1 (fun i _ => by have := h.2.1 i; omega) h.2.2.1 i j hi hj he

theorem yRd_A (hn : n ≤ 21) (h : yRd n H fo f s r d L pn) (k : Nat) (hk : k < s) : yAa d r (yIx (r k) (r (k+1))) = decide (k < d) := by
  by_cases hkd : k < d
  · rw [decide_eq_true hkd]; exact yD_pos ⟨k, hkd, rfl⟩
  · rw [decide_eq_false hkd]
    apply yD_neg
    rintro ⟨j, hj, he⟩
    have := yRd_inj hn h k j hk (by have := h.2.2.2.2.2.2.2.1; omega) he
    omega

theorem yRd_off (h : yRd n H fo f s r d L pn) (hn : n ≤ 21) (k j : Nat) (hk : k < d) (hj0 : 0 < j) (hj : j < L) : r k ≠ pn j := by
  have hne := yRd_ne h k
  obtain ⟨h3, h1, h2, h4, h5, h6, h7, h8, h9, h10, h11, h12, h13, h14, h15⟩ := h
  intro he
  by_cases hl : j + 1 < L
  · have := h14 j hj0 hl (r (k+1)) (by have := h1 (k+1); omega) (by rw [← he]; exact hne.symm)
    rw [← he, (h5 k).1] at this; cases this
  · rw [show j = L - 1 by omega, ← h11] at he
    have := h2 k d (by omega) h8 he
    omega

theorem yRd_off2 (h : yRd n H fo f s r d L pn) (hn : n ≤ 21) (k j : Nat) (hk : k < s - d) (hj0 : 0 < j) (hj : j < L) : r (d+k) ≠ pn (L-1-j) := by
  have hne := yRd_ne h (d+k)
  obtain ⟨h3, h1, h2, h4, h5, h6, h7, h8, h9, h10, h11, h12, h13, h14, h15⟩ := h
  intro he
  by_cases hl : j + 1 < L
  · have := h14 (L-1-j) (by omega) (by omega) (r (d+k+1)) (by have := h1 (d+k+1); omega) (by rw [← he]; exact hne.symm)
    rw [← he, (h5 (d+k)).1] at this; cases this
  · rw [show L-1-j = 0 by omega, ← h10] at he
    have := h2 (d+k) 0 (by omega) (by omega) he
    omega

theorem yFs_split (hn : n ≤ 21) (hS : yFs n F H sz fc fo) (hf : f < F) (h : yRd n H fo f s r d L pn) :
    yFs n (F+1) (fun e => H e || yPp L pn e)
      (fun g => if g = f then d+L-1 else if g = F then (s-d)+L-1 else sz g)
      (fun g => if g = f then yGc d L r pn else if g = F then yGc (s-d) L (fun k => r (d+k)) (fun j => pn (L-1-j)) else fc g)
      (yFo L pn d r f F fo) := by
  have hA := fun k hk => yRd_A hn h k hk
  have hoff := fun k j => yRd_off h hn k j
  have hoff2 := fun k j => yRd_off2 h hn k j
  have hrne := fun k => yRd_ne h k
  obtain ⟨h3, h1, h2, h4, h5, h6, h7, h8, h9, h10, h11, h12, h13, h14, h15⟩ := h
  obtain ⟨g1, g2, g3, g4⟩ := hS
  have hpl : ∀ k, k < L → pn k < 32 := fun k hk => by have := h12 k hk; omega
  have hpne : ∀ k, k + 1 < L → pn k ≠ pn (k+1) := fun k hk he => by have := h13 k (k+1) (by omega) (by omega) he; omega
  have hPH : ∀ e, yPp L pn e = true → H e = false := by
    intro e he
    obtain ⟨k, hk, hek⟩ := (yD_iff _).1 he
    rw [hek]; exact h15 k hk
  -- the face of steps of the way, of other steps
  have ff : ∀ k, k + 1 < L → yFo L pn d r f F fo (pn k) (pn (k+1)) = F := by
    intro k hk; unfold yFo; rw [if_pos (yD_pos ⟨k, hk, rfl, rfl⟩)]
  have fb : ∀ k, k + 1 < L → yFo L pn d r f F fo (pn (k+1)) (pn k) = f := by
    intro k hk; unfold yFo
    rw [if_neg, if_pos (yD_pos ⟨k, hk, rfl, rfl⟩)]
    rw [yD_iff]
    rintro ⟨j, hj, e1, e2⟩
    have a1 := h13 _ _ (by omega) (by omega) e1
    have a2 := h13 _ _ (by omega) (by omega) e2
    omega
  have fh : ∀ a b, H (yIx a b) = true → yFo L pn d r f F fo a b = if fo a b = f ∧ yAa d r (yIx a b) = false then F else fo a b := by
    intro a b hH
    unfold yFo
    rw [if_neg, if_neg]
    · rw [yD_iff]
      rintro ⟨j, hj, e1, e2⟩
      have := h15 j hj
      rw [e2, e1, yIx_comm] at hH
      rw [this] at hH; cases hH
    · rw [yD_iff]
      rintro ⟨j, hj, e1, e2⟩
      have := h15 j hj
      rw [e2, e1] at hH
      rw [this] at hH; cases hH
  have fr : ∀ k, k < s → yFo L pn d r f F fo (r k) (r (k+1)) = if k < d then f else F := by
    intro k hk
    rw [fh _ _ (h5 k).1, hA k hk, (h5 k).2]
    by_cases hkd : k < d <;> simp [hkd]
  have hPpos : ∀ k, k + 1 < L → (H (yIx (pn k) (pn (k+1))) || yPp L pn (yIx (pn k) (pn (k+1)))) = true := by
    intro k hk; rw [show yPp L pn (yIx (pn k) (pn (k+1))) = true from yD_pos ⟨k, hk, rfl⟩]; simp
  have hrs : r s = pn 0 := by rw [← h10, ← h4 0]; congr 1; omega
  have hFf : F ≠ f := by omega
  have hdd : d + (s - d) = s := by omega
  -- the two rounds
  have R1a : ∀ k, k < d → yGc d L r pn k = r k ∧ yGc d L r pn ((k+1) % (d+L-1)) = r (k+1) := fun k hk => yGc_n1 h7 h9 h11 hk
  have R1b : ∀ j, j + 1 < L → yGc d L r pn (d+(L-2-j)) = pn (j+1) ∧ yGc d L r pn ((d+(L-2-j)+1) % (d+L-1)) = pn j := fun j hj => yGc_n2 h7 h9 h10 hj
  have R2a : ∀ k, k < s-d → yGc (s-d) L (fun k => r (d+k)) (fun j => pn (L-1-j)) k = r (d+k) ∧
      yGc (s-d) L (fun k => r (d+k)) (fun j => pn (L-1-j)) ((k+1) % ((s-d)+L-1)) = r (d+k+1) := by
    intro k hk
    have := yGc_n1 (d := s-d) (L := L) (r := fun k => r (d+k)) (pn := fun j => pn (L-1-j)) (by omega) h9 (by
      show r (d+(s-d)) = pn (L-1-(L-1)); rw [hdd, hrs]; congr 1; omega) hk
    exact this
  have R2b : ∀ j, j + 1 < L → yGc (s-d) L (fun k => r (d+k)) (fun j => pn (L-1-j)) ((s-d)+j) = pn j ∧
      yGc (s-d) L (fun k => r (d+k)) (fun j => pn (L-1-j)) (((s-d)+j+1) % ((s-d)+L-1)) = pn (j+1) := by
    intro j hj
    have := yGc_n2 (d := s-d) (L := L) (r := fun k => r (d+k)) (pn := fun j => pn (L-1-j)) (by omega) h9 (by
      show r (d+0) = pn (L-1-0); rw [Nat.add_zero, h11]; rfl) (j := L-2-j) (by omega)
    rw [show L-2-(L-2-j) = j by omega] at this
    refine ⟨this.1.trans ?_, this.2.trans ?_⟩
    · show pn (L-1-(L-2-j+1)) = pn j; congr 1; omega
    · show pn (L-1-(L-2-j)) = pn (j+1); congr 1; omega
  have R2c : ∀ k, k < (s-d)+L-1 → k < s-d ∨ ∃ j, j + 1 < L ∧ k = (s-d)+j := by
    intro k hk
    by_cases c : k < s-d
    · exact Or.inl c
    · exact Or.inr ⟨k-(s-d), by omega, by omega⟩
  refine ⟨?_, ?_, ?_, ?_⟩
  · intro g hg
    by_cases e1 : g = f
    · simp only [if_pos e1]
      refine ⟨?_, fun k hk => yGc_lt (fun k _ => h1 k) h12 hk, yGc_inj (fun i j hi hj => h2 i j (by omega) (by omega)) h13 hoff⟩
      by_cases c : d = 1 ∧ L = 2
      · exfalso
        have a1 := h15 0 (by omega)
        have a2 := (h5 0).1
        rw [h10] at a2
        have a3 : r 1 = pn 1 := by have := h11; rw [c.1, c.2] at this; exact this
        rw [show (0:Nat)+1 = 1 by rfl] at a1 a2
        rw [a3, a1] at a2; cases a2
      · omega
    · simp only [if_neg e1]
      by_cases e2 : g = F
      · simp only [if_pos e2]
        refine ⟨?_, fun k hk => yGc_lt (fun k _ => h1 _) (fun j _ => h12 _ (by omega)) hk, ?_⟩
        · by_cases c : s - d = 1 ∧ L = 2
          · exfalso
            have a1 := h15 0 (by omega)
            have a2 := (h5 d).1
            rw [show d + 1 = s by omega, hrs, h11, c.2, yIx_comm] at a2
            rw [show (0:Nat)+1 = 1 by rfl] at a1
            rw [show (2:Nat)-1 = 1 by rfl, a1] at a2; cases a2
          · omega
        · refine yGc_inj (fun i j hi hj he => ?_) (fun i j hi hj he => ?_) hoff2
          · have := h2 _ _ (by omega) (by omega) he; omega
          · have := h13 _ _ (by omega) (by omega) he; omega
      · simp only [if_neg e2]; exact g1 g (by omega)
  · intro g k hg hk
    by_cases e1 : g = f
    · simp only [if_pos e1] at hk ⊢
      rw [e1]
      rcases yGc_n3 hk with c | ⟨j, hj, hkj⟩
      · rw [(R1a k c).1, (R1a k c).2, (h5 k).1, fr k (by omega), if_pos c]
        exact ⟨rfl, rfl⟩
      · rw [hkj, (R1b j hj).1, (R1b j hj).2, fb j hj, yIx_comm]
        exact ⟨hPpos j hj, rfl⟩
    · simp only [if_neg e1] at hk ⊢
      by_cases e2 : g = F
      · simp only [if_pos e2] at hk ⊢
        rw [e2]
        rcases R2c k hk with c | ⟨j, hj, hkj⟩
        · rw [(R2a k c).1, (R2a k c).2, (h5 (d+k)).1, fr (d+k) (by omega), if_neg (by omega)]
          exact ⟨rfl, rfl⟩
        · rw [hkj, (R2b j hj).1, (R2b j hj).2, ff j hj]
          exact ⟨hPpos j hj, rfl⟩
      · simp only [if_neg e2] at hk ⊢
        obtain ⟨a1, a2⟩ := g2 g k (by omega) hk
        rw [fh _ _ a1, a1, a2, if_neg (by intro hh; exact e1 hh.1)]
        exact ⟨rfl, rfl⟩
  · intro a b ha hb hab hH
    have hcase : H (yIx a b) = true ∨ yPp L pn (yIx a b) = true := by
      simpa [Bool.or_eq_true] using hH
    rcases hcase with c | c
    · by_cases e1 : fo a b = f
      · obtain ⟨k, hk, hak, hbk⟩ := h6 a b ha hb hab c e1
        rw [hak, hbk, fr k hk]
        by_cases hkd : k < d
        · rw [if_pos hkd]
          refine ⟨by omega, ?_⟩
          simp only [if_true]
          exact ⟨k, by omega, (R1a k hkd).1, (R1a k hkd).2⟩
        · rw [if_neg hkd]
          refine ⟨by omega, ?_⟩
          simp only [if_neg hFf, if_true]
          have := R2a (k-d) (by omega)
          rw [show d + (k-d) = k by omega] at this
          exact ⟨k-d, by omega, this.1, this.2⟩
      · obtain ⟨a1, k, a2, a3, a4⟩ := g3 a b ha hb hab c
        rw [fh a b c, if_neg (by intro hh; exact e1 hh.1)]
        refine ⟨by omega, ?_⟩
        simp only [if_neg e1, if_neg (by omega : fo a b ≠ F)]
        exact ⟨k, a2, a3, a4⟩
    · obtain ⟨k, hk, hek⟩ := (yD_iff _).1 c
      rcases yIx_inj ha hb (hpl k (by omega)) (hpl (k+1) (by omega)) hek with ⟨a1, a2⟩ | ⟨a1, a2⟩
      · rw [a1, a2, ff k hk]
        refine ⟨by omega, ?_⟩
        simp only [if_neg hFf, if_true]
        exact ⟨(s-d)+k, by omega, (R2b k hk).1, (R2b k hk).2⟩
      · rw [a1, a2, fb k hk]
        refine ⟨by omega, ?_⟩
        simp only [if_true]
        exact ⟨d+(L-2-k), by omega, (R1b k hk).1, (R1b k hk).2⟩
  · intro e he hH
    have hcase : H e = true ∨ yPp L pn e = true := by
      simpa [Bool.or_eq_true] using hH
    rcases hcase with c | c
    · exact g4 e he c
    · obtain ⟨k, hk, hek⟩ := (yD_iff _).1 c
      have hne := hpne k hk
      rcases Nat.lt_or_ge (pn k) (pn (k+1)) with c1 | c1
      · have := yIx_div (hpl (k+1) (by omega)) c1
        rw [hek, this.1, this.2]; exact c1
      · have := yIx_div (hpl k (by omega)) (by omega : pn (k+1) < pn k)
        rw [hek, yIx_comm, this.1, this.2]; omega
end

section
variable {n F : Nat} {H : Nat → Bool} {sz : Nat → Nat} {fc : Nat → Nat → Nat} {fo : Nat → Nat → Nat}
variable {f s d L : Nat} {r pn : Nat → Nat}

theorem yOn_H (hS : yFs n F H sz fc fo) {v : Nat} (hv : v < 32) (h : yOn 1024 yI H v) : ∃ w, w < 32 ∧ w ≠ v ∧ H (yIx v w) = true := by
  obtain ⟨e, he, hH, hI⟩ := h
  have h6 := hS.2.2.2 e he hH
  have h7 := yIx_de h6
  rw [← h7, yI_iff (by omega) (by omega) (by omega)] at hI
  rcases hI with c | c
  · exact ⟨e%32, by omega, by omega, by rw [c, h7]; exact hH⟩
  · exact ⟨e/32, by omega, by omega, by rw [c, yIx_comm, h7]; exact hH⟩

theorem yP_lt (hn : n ≤ 21) (h : yRd n H fo f s r d L pn) (k : Nat) (hk : k + 1 < L) : yIx (pn k) (pn (k+1)) < 1024 := by
  have h12 := h.2.2.2.2.2.2.2.2.2.2.2.1
  have := h12 k (by omega); have := h12 (k+1) hk
  exact yIx_lt (by omega) (by omega)

theorem yP_I (hn : n ≤ 21) (h : yRd n H fo f s r d L pn) (k : Nat) (hk : k + 1 < L) (v : Nat) : yI (yIx (pn k) (pn (k+1))) v = true ↔ (v = pn k ∨ v = pn (k+1)) := by
  obtain ⟨h3, h1, h2, h4, h5, h6, h7, h8, h9, h10, h11, h12, h13, h14, h15⟩ := h
  have := h12 k (by omega); have := h12 (k+1) hk
  apply yI_iff (by omega) (by omega)
  intro he; have := h13 _ _ (by omega) (by omega) he; omega

theorem yP_inj (hn : n ≤ 21) (h : yRd n H fo f s r d L pn) (k j : Nat) (hk : k + 1 < L) (hj : j + 1 < L) (he : yIx (pn k) (pn (k+1)) = yIx (pn j) (pn (j+1))) : k = j := by
  obtain ⟨h3, h1, h2, h4, h5, h6, h7, h8, h9, h10, h11, h12, h13, h14, h15⟩ := h
  have := h12 k (by omega); have := h12 (k+1) hk; have := h12 j (by omega); have := h12 (j+1) hj
  rcases yIx_inj (by omega) (by omega) (by omega) (by omega) he with ⟨a, b⟩ | ⟨a, b⟩
  · exact h13 _ _ (by omega) (by omega) a
  · have a1 := h13 _ _ (by omega) (by omega) a
    have a2 := h13 _ _ (by omega) (by omega) b
    omega

theorem yP_PH (hn : n ≤ 21) (hS : yFs n F H sz fc fo) (h : yRd n H fo f s r d L pn) (e v : Nat) (hp : yPp L pn e = true) (hI : yI e v = true)
    (hv : yOn 1024 yI H v) : yDg 1024 yI (yPp L pn) v = true := by
  have hlt := fun k hk => yP_lt hn h k hk
  have hPI := fun k hk v => yP_I hn h k hk v
  obtain ⟨h3, h1, h2, h4, h5, h6, h7, h8, h9, h10, h11, h12, h13, h14, h15⟩ := h
  obtain ⟨k, hk, hek⟩ := (yD_iff _).1 hp
  rw [hek, hPI k hk] at hI
  obtain ⟨j, hj, hvj⟩ : ∃ j, j < L ∧ v = pn j := by
    rcases hI with c | c
    · exact ⟨k, by omega, c⟩
    · exact ⟨k+1, by omega, c⟩
  have hj' : j = 0 ∨ j + 1 = L := by
    by_cases c : 0 < j ∧ j + 1 < L
    · exfalso
      obtain ⟨w, hw, hwv, hH⟩ := yOn_H hS (by rw [hvj]; have := h12 j hj; omega) hv
      rw [hvj] at hH hwv
      rw [h14 j c.1 c.2 w hw hwv] at hH; cases hH
    · omega
  -- the only edge of the way at this node
  have one : ∀ i, i + 1 < L → (v = pn i ∨ v = pn (i+1)) → (∀ i', i' + 1 < L → (v = pn i' ∨ v = pn (i'+1)) → i' = i) → yDg 1024 yI (yPp L pn) v = true := by
    intro i hi hvi huniq
    unfold yDg
    rw [yX_one 1024 _ (yIx (pn i) (pn (i+1))) (hlt i hi)]
    · rw [show yPp L pn (yIx (pn i) (pn (i+1))) = true from yD_pos ⟨i, hi, rfl⟩, (hPI i hi v).2 hvi]; rfl
    · intro e' _ hne
      cases hpe : yPp L pn e' with
      | false => rfl
      | true =>
        obtain ⟨k', hk', hek'⟩ := (yD_iff _).1 hpe
        cases hIe : yI e' v with
        | false => rfl
        | true =>
          rw [hek', hPI k' hk'] at hIe
          rw [hek', huniq k' hk' hIe] at hne
          exact absurd rfl hne
  rcases hj' with c | c
  · rw [c] at hvj
    refine one 0 (by omega) (Or.inl hvj) ?_
    intro i hi hv'
    rw [hvj] at hv'
    rcases hv' with c1 | c1
    · exact (h13 _ _ (by omega) (by omega) c1).symm
    · have := h13 _ _ (by omega) (by omega) c1; omega
  · rw [show j = L - 2 + 1 by omega] at hvj
    refine one (L-2) (by omega) (Or.inr hvj) ?_
    intro i hi hv'
    rw [hvj] at hv'
    rcases hv' with c1 | c1
    · have := h13 _ _ (by omega) (by omega) c1; omega
    · have := h13 _ _ (by omega) (by omega) c1; omega

theorem yP_all (hn : n ≤ 21) (hS : yFs n F H sz fc fo) (h : yRd n H fo f s r d L pn) (y : Nat → Bool)
    (hy : ∀ e, e < 1024 → y e = true → (H e || yPp L pn e) = true) (hev : yEv 1024 yI y) :
    (∀ e, e < 1024 → yPp L pn e = true → y e = false) ∨ (∀ e, e < 1024 → yPp L pn e = true → y e = true) := by
  have hlt := fun k hk => yP_lt hn h k hk
  have hPI := fun k hk v => yP_I hn h k hk v
  have hPi := fun k j hk hj => yP_inj hn h k j hk hj
  obtain ⟨h3, h1, h2, h4, h5, h6, h7, h8, h9, h10, h11, h12, h13, h14, h15⟩ := h
  have step : ∀ k, k + 2 < L → y (yIx (pn k) (pn (k+1))) = y (yIx (pn (k+1)) (pn (k+2))) := by
    intro k hk
    have hv := hev (pn (k+1))
    rw [yX_two 1024 _ (yIx (pn k) (pn (k+1))) (yIx (pn (k+1)) (pn (k+2))) (hlt k (by omega)) (hlt (k+1) (by omega)) (fun he => by have := hPi k (k+1) (by omega) (by omega) he; omega)] at hv
    · rw [(hPI k (by omega) (pn (k+1))).2 (Or.inr rfl), (hPI (k+1) (by omega) (pn (k+1))).2 (Or.inl rfl)] at hv
      revert hv
      cases y (yIx (pn k) (pn (k+1))) <;> cases y (yIx (pn (k+1)) (pn (k+2))) <;> simp
    · intro e he hne1 hne2
      cases hye : y e with
      | false => rfl
      | true =>
        cases hIe : yI e (pn (k+1)) with
        | false => rfl
        | true =>
          exfalso
          have h16 := hy e he hye
          rw [Bool.or_eq_true] at h16
          rcases h16 with c | c
          · obtain ⟨w, hw, hwv, hH⟩ := yOn_H hS (v := pn (k+1)) (by have := h12 (k+1) (by omega); omega) ⟨e, he, c, hIe⟩
            rw [h14 (k+1) (by omega) (by omega) w hw hwv] at hH; cases hH
          · obtain ⟨j, hj, hej⟩ := (yD_iff _).1 c
            rw [hej, hPI j hj] at hIe
            rcases hIe with c1 | c1
            · have := h13 _ _ (by omega) (by omega) c1
              rw [hej, ← this] at hne2; exact hne2 rfl
            · have := h13 _ _ (by omega) (by omega) c1
              rw [hej, show j = k by omega] at hne1; exact hne1 rfl
  have all : ∀ k, k + 1 < L → y (yIx (pn k) (pn (k+1))) = y (yIx (pn 0) (pn 1)) := by
    intro k
    induction k with
    | zero => intro _; rfl
    | succ k ih => intro hk; rw [← step k (by omega)]; exact ih (by omega)
  cases hy0 : y (yIx (pn 0) (pn 1)) with
  | false =>
    left; intro e _ hp
    obtain ⟨k, hk, hek⟩ := (yD_iff _).1 hp
    rw [hek, all k hk]; exact hy0
  | true =>
    right; intro e _ hp
    obtain ⟨k, hk, hek⟩ := (yD_iff _).1 hp
    rw [hek, all k hk]; exact hy0

-- the boundary of f by the round r
theorem yRd_Z (hn : n ≤ 21) (hS : yFs n F H sz fc fo) (h : yRd n H fo f s r d L pn) (e : Nat) (he : e < 1024) :
    yZ H (yS1 fo) (yT1 fo) f e = true ↔ ∃ k, k < s ∧ e = yIx (r k) (r (k+1)) := by
  have hne := fun k => yRd_ne h k
  obtain ⟨h3, h1, h2, h4, h5, h6, h7, h8, h9, h10, h11, h12, h13, h14, h15⟩ := h
  rw [yZ_iff]
  constructor
  · rintro ⟨hH, h16⟩
    have h17 := hS.2.2.2 e he hH
    have h18 := yIx_de h17
    rcases h16 with c | c
    · obtain ⟨k, hk, ha, hb⟩ := h6 (e/32) (e%32) (by omega) (by omega) (by omega) (by rw [h18]; exact hH) c
      exact ⟨k, hk, by rw [← ha, ← hb, h18]⟩
    · obtain ⟨k, hk, ha, hb⟩ := h6 (e%32) (e/32) (by omega) (by omega) (by omega) (by rw [yIx_comm, h18]; exact hH) c
      exact ⟨k, hk, by rw [← ha, ← hb, yIx_comm, h18]⟩
  · rintro ⟨k, hk, hek⟩
    refine ⟨by rw [hek]; exact (h5 k).1, ?_⟩
    have a1 := h1 k; have a2 := h1 (k+1); have a3 := hne k
    rcases Nat.lt_or_ge (r k) (r (k+1)) with c | c
    · left
      have := yIx_div (by omega : r (k+1) < 32) c
      unfold yS1; rw [hek, this.1, this.2]; exact (h5 k).2
    · right
      have := yIx_div (by omega : r k < 32) (by omega : r (k+1) < r k)
      unfold yT1; rw [hek, yIx_comm, this.1, this.2]; exact (h5 k).2

theorem yRd_c1 (h : yRd n H fo f s r d L pn) (e : Nat) : yCy (d+L-1) (yGc d L r pn) e = (yAa d r e || yPp L pn e) := by
  obtain ⟨h3, h1, h2, h4, h5, h6, h7, h8, h9, h10, h11, h12, h13, h14, h15⟩ := h
  rw [Bool.eq_iff_iff, Bool.or_eq_true]
  unfold yCy yAa yPp
  rw [yD_iff, yD_iff, yD_iff]
  constructor
  · rintro ⟨k, hk, hek⟩
    rcases yGc_n3 hk with c | ⟨j, hj, hkj⟩
    · have := yGc_n1 (r := r) (pn := pn) h7 h9 h11 c
      rw [this.1, this.2] at hek
      exact Or.inl ⟨k, c, hek⟩
    · have := yGc_n2 (r := r) (pn := pn) h7 h9 h10 hj
      rw [hkj, this.1, this.2, yIx_comm] at hek
      exact Or.inr ⟨j, hj, hek⟩
  · rintro (⟨k, hk, hek⟩ | ⟨j, hj, hek⟩)
    · have := yGc_n1 (r := r) (pn := pn) h7 h9 h11 hk
      exact ⟨k, by omega, by rw [this.1, this.2]; exact hek⟩
    · have := yGc_n2 (r := r) (pn := pn) h7 h9 h10 hj
      exact ⟨d+(L-2-j), by omega, by rw [this.1, this.2, yIx_comm]; exact hek⟩

theorem yRd_c2 (hn : n ≤ 21) (hS : yFs n F H sz fc fo) (h : yRd n H fo f s r d L pn) (e : Nat) (he : e < 1024) :
    yCy ((s-d)+L-1) (yGc (s-d) L (fun k => r (d+k)) (fun j => pn (L-1-j))) e = ((yZ H (yS1 fo) (yT1 fo) f e && !yAa d r e) || yPp L pn e) := by
  have hZ := yRd_Z hn hS h e he
  have hA := fun k hk => yRd_A hn h k hk
  obtain ⟨h3, h1, h2, h4, h5, h6, h7, h8, h9, h10, h11, h12, h13, h14, h15⟩ := h
  have hrs : r s = pn 0 := by rw [← h10, ← h4 0]; congr 1; omega
  have hdd : d + (s - d) = s := by omega
  have R2a : ∀ k, k < s-d → yGc (s-d) L (fun k => r (d+k)) (fun j => pn (L-1-j)) k = r (d+k) ∧
      yGc (s-d) L (fun k => r (d+k)) (fun j => pn (L-1-j)) ((k+1) % ((s-d)+L-1)) = r (d+k+1) := by
    intro k hk
    have := yGc_n1 (d := s-d) (L := L) (r := fun k => r (d+k)) (pn := fun j => pn (L-1-j)) (by omega) h9 (by
      show r (d+(s-d)) = pn (L-1-(L-1)); rw [hdd, hrs]; congr 1; omega) hk
    exact this
  have R2b : ∀ j, j + 1 < L → yGc (s-d) L (fun k => r (d+k)) (fun j => pn (L-1-j)) ((s-d)+j) = pn j ∧
      yGc (s-d) L (fun k => r (d+k)) (fun j => pn (L-1-j)) (((s-d)+j+1) % ((s-d)+L-1)) = pn (j+1) := by
    intro j hj
    have := yGc_n2 (d := s-d) (L := L) (r := fun k => r (d+k)) (pn := fun j => pn (L-1-j)) (by omega) h9 (by
      show r (d+0) = pn (L-1-0); rw [Nat.add_zero, h11]; rfl) (j := L-2-j) (by omega)
    rw [show L-2-(L-2-j) = j by omega] at this
    refine ⟨this.1.trans ?_, this.2.trans ?_⟩
    · show pn (L-1-(L-2-j+1)) = pn j; congr 1; omega
    · show pn (L-1-(L-2-j)) = pn (j+1); congr 1; omega
  rw [Bool.eq_iff_iff, Bool.or_eq_true, Bool.and_eq_true, hZ]
  unfold yCy yPp
  rw [yD_iff, yD_iff]
  constructor
  · rintro ⟨k, hk, hek⟩
    by_cases c : k < s-d
    · rw [(R2a k c).1, (R2a k c).2] at hek
      refine Or.inl ⟨⟨d+k, by omega, hek⟩, ?_⟩
      rw [hek, hA (d+k) (by omega), decide_eq_false (by omega)]; rfl
    · obtain ⟨j, hj, hkj⟩ : ∃ j, j + 1 < L ∧ k = (s-d)+j := ⟨k-(s-d), by omega, by omega⟩
      rw [hkj, (R2b j hj).1, (R2b j hj).2] at hek
      exact Or.inr ⟨j, hj, hek⟩
  · rintro (⟨⟨k, hk, hek⟩, hA'⟩ | ⟨j, hj, hek⟩)
    · rw [hek, hA k hk] at hA'
      have hkd : ¬ k < d := by
        intro c; rw [decide_eq_true c] at hA'; exact absurd hA' (by decide)
      have := R2a (k-d) (by omega)
      rw [show d + (k-d) = k by omega] at this
      exact ⟨k-d, by omega, by rw [this.1, this.2]; exact hek⟩
    · exact ⟨(s-d)+j, by omega, by rw [(R2b j hj).1, (R2b j hj).2]; exact hek⟩

-- the labels of the new faces
theorem yRd_lab (hn : n ≤ 21) (hS : yFs n F H sz fc fo) (h : yRd n H fo f s r d L pn) (e : Nat) (he : e < 1024) (hH : (H e || yPp L pn e) = true) :
    (yS1 (yFo L pn d r f F fo) e = ySs f F (yPp L pn) (yAa d r) (yS1 fo) e ∧ yT1 (yFo L pn d r f F fo) e = ySt f F (yPp L pn) (yAa d r) (yT1 fo) e) ∨
    (yS1 (yFo L pn d r f F fo) e = ySt f F (yPp L pn) (yAa d r) (yT1 fo) e ∧ yT1 (yFo L pn d r f F fo) e = ySs f F (yPp L pn) (yAa d r) (yS1 fo) e) := by
  obtain ⟨h3, h1, h2, h4, h5, h6, h7, h8, h9, h10, h11, h12, h13, h14, h15⟩ := h
  have ff : ∀ k, k + 1 < L → yFo L pn d r f F fo (pn k) (pn (k+1)) = F := by
    intro k hk; unfold yFo; rw [if_pos (yD_pos ⟨k, hk, rfl, rfl⟩)]
  have fb : ∀ k, k + 1 < L → yFo L pn d r f F fo (pn (k+1)) (pn k) = f := by
    intro k hk; unfold yFo
    rw [if_neg, if_pos (yD_pos ⟨k, hk, rfl, rfl⟩)]
    rw [yD_iff]
    rintro ⟨j, hj, e1, e2⟩
    have a1 := h13 _ _ (by omega) (by omega) e1
    have a2 := h13 _ _ (by omega) (by omega) e2
    omega
  have fh : ∀ a b, H (yIx a b) = true → yFo L pn d r f F fo a b = if fo a b = f ∧ yAa d r (yIx a b) = false then F else fo a b := by
    intro a b hH
    unfold yFo
    rw [if_neg, if_neg]
    · rw [yD_iff]
      rintro ⟨j, hj, e1, e2⟩
      have := h15 j hj
      rw [e2, e1, yIx_comm] at hH
      rw [this] at hH; cases hH
    · rw [yD_iff]
      rintro ⟨j, hj, e1, e2⟩
      have := h15 j hj
      rw [e2, e1] at hH
      rw [this] at hH; cases hH
  rw [Bool.or_eq_true] at hH
  cases hp : yPp L pn e with
  | true =>
    obtain ⟨k, hk, hek⟩ := (yD_iff _).1 hp
    have a1 := h12 k (by omega); have a2 := h12 (k+1) hk
    have hne : pn k ≠ pn (k+1) := fun he => by have := h13 _ _ (by omega) (by omega) he; omega
    unfold ySs ySt
    rw [hp]
    simp only [if_true]
    rcases Nat.lt_or_ge (pn k) (pn (k+1)) with c | c
    · right
      have := yIx_div (by omega : pn (k+1) < 32) c
      unfold yS1 yT1
      rw [hek, this.1, this.2, ff k hk, fb k hk]
      exact ⟨rfl, rfl⟩
    · left
      have := yIx_div (by omega : pn k < 32) (by omega : pn (k+1) < pn k)
      unfold yS1 yT1
      rw [hek, yIx_comm, this.1, this.2, ff k hk, fb k hk]
      exact ⟨rfl, rfl⟩
  | false =>
    have hH' : H e = true := by
      rcases hH with c | c
      · exact c
      · rw [hp] at c; cases c
    have h17 := hS.2.2.2 e he hH'
    have h18 := yIx_de h17
    left
    unfold ySs ySt yS1 yT1
    rw [hp, fh _ _ (by rw [h18]; exact hH'), fh _ _ (by rw [yIx_comm, h18]; exact hH'), yIx_comm (e%32), h18]
    simp

theorem yDem_split {G : Nat → Bool} {as : Nat → Nat} (hn : n ≤ 21) (hS : yFs n F H sz fc fo) (hf : f < F) (h : yRd n H fo f s r d L pn)
    (hD : yDem 1024 yI G H (yS1 fo) (yT1 fo) as) (hP : ∀ e, e < 1024 → yPp L pn e = true → G e = true ∧ as e = f) :
    ∃ as', yDem 1024 yI G (fun e => H e || yPp L pn e) (yS1 (yFo L pn d r f F fo)) (yT1 (yFo L pn d r f F fo)) as' := by
  have hS' := yFs_split hn hS hf h
  have hFf : F ≠ f := by omega
  have hC1 : yCi 1024 yI (yCy (d+L-1) (yGc d L r pn)) := by
    have := yFs_ci hn hS' f (by omega)
    simpa using this
  have hC2 : yCi 1024 yI (yCy ((s-d)+L-1) (yGc (s-d) L (fun k => r (d+k)) (fun j => pn (L-1-j)))) := by
    have := yFs_ci hn hS' F (by omega)
    simpa [hFf] using this
  have h15 := h.2.2.2.2.2.2.2.2.2.2.2.2.2.2
  have h9 := h.2.2.2.2.2.2.2.2.1
  obtain ⟨as', hD'⟩ := yDem_step hD f F ((yFs_used hn hS f).2 hf) (fun e he hH => by
      have h17 := hS.2.2.2 e he hH
      have h18 := yIx_de h17
      have a1 := (hS.2.2.1 (e/32) (e%32) (by omega) (by omega) (by omega) (by rw [h18]; exact hH)).1
      have a2 := (hS.2.2.1 (e%32) (e/32) (by omega) (by omega) (by omega) (by rw [yIx_comm, h18]; exact hH)).1
      unfold yS1 yT1
      constructor <;> omega) (yPp L pn) (yAa d r)
    (fun e he hp => ⟨(hP e he hp).1, by obtain ⟨k, hk, hek⟩ := (yD_iff _).1 hp; rw [hek]; exact h15 k hk, (hP e he hp).2⟩)
    ⟨yIx (pn 0) (pn 1), yP_lt hn h 0 (by omega), yD_pos ⟨0, by omega, rfl⟩⟩
    (fun e he ha => by
      rw [yRd_Z hn hS h e he]
      obtain ⟨k, hk, hek⟩ := (yD_iff _).1 ha
      exact ⟨k, by have := h.2.2.2.2.2.2.2.1; omega, hek⟩)
    (yCi_congr hC1 (fun e _ => yRd_c1 h e)) (yCi_congr hC2 (fun e he => yRd_c2 hn hS h e he))
    (fun e v _ hp hI hv => yP_PH hn hS h e v hp hI hv) (yP_all hn hS h)
  exact ⟨as', yDem_swap hD' (fun e he hH => yRd_lab hn hS h e he hH)⟩

theorem yDs_split (hn : n ≤ 21) (hS : yFs n F H sz fc fo) (hf : f < F) (h : yRd n H fo f s r d L pn)
    (hD : yDs 1024 yI H (fun _ => false) (yS1 fo) (yT1 fo)) :
    yDs 1024 yI (fun e => H e || yPp L pn e) (fun _ => false) (yS1 (yFo L pn d r f F fo)) (yT1 (yFo L pn d r f F fo)) := by
  have hS' := yFs_split hn hS hf h
  have hFf : F ≠ f := by omega
  have hC2 : yCi 1024 yI (yCy ((s-d)+L-1) (yGc (s-d) L (fun k => r (d+k)) (fun j => pn (L-1-j)))) := by
    have := yFs_ci hn hS' F (by omega)
    simpa [hFf] using this
  have h15 := h.2.2.2.2.2.2.2.2.2.2.2.2.2.2
  have hlab : ∀ e, e < 1024 → H e = true → yS1 fo e ≠ F ∧ yT1 fo e ≠ F := by
    intro e he hH
    have h17 := hS.2.2.2 e he hH
    have h18 := yIx_de h17
    have a1 := (hS.2.2.1 (e/32) (e%32) (by omega) (by omega) (by omega) (by rw [h18]; exact hH)).1
    have a2 := (hS.2.2.1 (e%32) (e/32) (by omega) (by omega) (by omega) (by rw [yIx_comm, h18]; exact hH)).1
    unfold yS1 yT1
    constructor <;> omega
  -- slots so that face f stands in the first
  let s0 : Nat → Nat := fun e => if yS1 fo e = f then yS1 fo e else yT1 fo e
  let t0 : Nat → Nat := fun e => if yS1 fo e = f then yT1 fo e else yS1 fo e
  have hD0 : yDs 1024 yI H (fun _ => false) s0 t0 := yDs_swap hD (fun e _ _ => by
    show (s0 e = _ ∧ t0 e = _) ∨ _
    by_cases c : yS1 fo e = f
    · left; exact ⟨if_pos c, if_pos c⟩
    · right; exact ⟨if_neg c, if_neg c⟩)
  let B : Nat → Bool := fun e => yZ H (yS1 fo) (yT1 fo) f e && !yAa d r e
  let s1 : Nat → Nat := fun e => if yPp L pn e = true then F else if B e = true then F else s0 e
  let t1 : Nat → Nat := fun e => if yPp L pn e = true then f else t0 e
  have hPH : ∀ e, yPp L pn e = true → H e = false := by
    intro e hp; obtain ⟨k, hk, hek⟩ := (yD_iff _).1 hp; rw [hek]; exact h15 k hk
  have hB : ∀ e, B e = true → H e = true ∧ (yS1 fo e = f ∨ yT1 fo e = f) ∧ yAa d r e = false := by
    intro e hb
    have hb' : (yZ H (yS1 fo) (yT1 fo) f e && !yAa d r e) = true := hb
    rw [Bool.and_eq_true, yZ_iff] at hb'
    exact ⟨hb'.1.1, hb'.1.2, by simpa using hb'.2⟩
  have hPB : ∀ e, B e = true → yPp L pn e = false := by
    intro e hb
    cases hp : yPp L pn e with
    | false => rfl
    | true => have := (hB e hb).1; rw [hPH e hp] at this; cases this
  have hmain := yInsert (m := 1024) (I := yI) (X := H) (fun b => if b then t0 else s0) hD0 false F f B (yPp L pn)
    (fun e _ hb => by
      refine ⟨(hB e hb).1, ?_⟩
      show (if yS1 fo e = f then yS1 fo e else yT1 fo e) = f
      by_cases c : yS1 fo e = f
      · rw [if_pos c]; exact c
      · rw [if_neg c]; rcases (hB e hb).2.1 with c1 | c1
        · exact absurd c1 c
        · exact c1)
    (fun e _ hp => hPH e hp)
    (fun e x he hH => by
      have := hlab e he hH
      cases x
      · show (if yS1 fo e = f then yS1 fo e else yT1 fo e) ≠ F
        split
        · exact this.1
        · exact this.2
      · show (if yS1 fo e = f then yT1 fo e else yS1 fo e) ≠ F
        split
        · exact this.2
        · exact this.1) (fun h => hFf h.symm)
    (yEv_congr 1024 yI _ _ (fun e he => yRd_c2 hn hS h e he) hC2.1)
    (yP_all hn hS h) (fun b => if b then t1 else s1)
    (fun e _ hb => ⟨by show s1 e = F; simp only [s1]; rw [if_neg (by rw [hPB e hb]; simp), if_pos hb], by show t1 e = t0 e; simp only [t1]; rw [if_neg (by rw [hPB e hb]; simp)]⟩)
    (fun e _ hp => ⟨by show s1 e = F; simp only [s1]; rw [if_pos hp], by show t1 e = f; simp only [t1]; rw [if_pos hp]⟩)
    (fun e _ hH hb => by
      have hp : yPp L pn e = false := by
        cases hp : yPp L pn e with
        | false => rfl
        | true => rw [hPH e hp] at hH; cases hH
      exact ⟨by show s1 e = s0 e; simp only [s1]; rw [if_neg (by rw [hp]; simp), if_neg (by rw [hb]; simp)], by show t1 e = t0 e; simp only [t1]; rw [if_neg (by rw [hp]; simp)]⟩)
  refine yDs_swap hmain ?_
  intro e he hH
  show (_ = s1 e ∧ _ = t1 e) ∨ (_ = t1 e ∧ _ = s1 e)
  have hl := yRd_lab hn hS h e he hH
  have key : (ySs f F (yPp L pn) (yAa d r) (yS1 fo) e = s1 e ∧ ySt f F (yPp L pn) (yAa d r) (yT1 fo) e = t1 e) ∨ (ySs f F (yPp L pn) (yAa d r) (yS1 fo) e = t1 e ∧ ySt f F (yPp L pn) (yAa d r) (yT1 fo) e = s1 e) := by
    unfold ySs ySt
    cases hp : yPp L pn e with
    | true =>
      right
      simp only [if_true, s1, t1, hp]
      exact ⟨trivial, trivial⟩
    | false =>
      have hH' : H e = true := by
        rw [Bool.or_eq_true] at hH
        rcases hH with c | c
        · exact c
        · rw [hp] at c; cases c
      have hne := yFs_ne hS e he hH'
      simp only [Bool.false_eq_true, if_false, s1, t1, s0, t0, hp]
      by_cases c : yS1 fo e = f
      · have c2 : yT1 fo e ≠ f := by rw [c] at hne; exact fun h => hne h.symm
        left
        cases ha : yAa d r e with
        | false =>
          have hb : B e = true := by show (yZ H (yS1 fo) (yT1 fo) f e && !yAa d r e) = true; rw [ha, (yZ_iff _ _ _ _ _).2 ⟨hH', Or.inl c⟩]; rfl
          simp [c, c2, hb]
        | true =>
          have hb : B e = false := by show (yZ H (yS1 fo) (yT1 fo) f e && !yAa d r e) = false; rw [ha]; simp
          simp [c, c2, hb]
      · right
        by_cases c2 : yT1 fo e = f
        · cases ha : yAa d r e with
          | false =>
            have hb : B e = true := by show (yZ H (yS1 fo) (yT1 fo) f e && !yAa d r e) = true; rw [ha, (yZ_iff _ _ _ _ _).2 ⟨hH', Or.inr c2⟩]; rfl
            simp [c, c2, hb]
          | true =>
            have hb : B e = false := by show (yZ H (yS1 fo) (yT1 fo) f e && !yAa d r e) = false; rw [ha]; simp
            simp [c, c2, hb]
        · have hb : B e = false := by
            cases hb : B e with
            | false => rfl
            | true => rcases (hB e hb).2.1 with c3 | c3
                      · exact absurd c3 c
                      · exact absurd c3 c2
          simp [c, c2, hb]
  rcases hl with ⟨a, b⟩ | ⟨a, b⟩
  · rw [a, b]; exact key
  · rw [a, b]
    rcases key with ⟨k1, k2⟩ | ⟨k1, k2⟩
    · right; exact ⟨k2, k1⟩
    · left; exact ⟨k2, k1⟩
end

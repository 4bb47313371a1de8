
-- the faces in the order in which they are met
def yFid (fo : Nat → Nat → Nat) (rm : Nat → Nat → Nat) (kk : Nat → Nat) (t i : Nat) : Nat := fo (rm t (kk t)) (rm (t+1) (i+1))
def yRg (kk pp : Nat → Nat) (t i : Nat) : Prop := kk t ≤ i + 1 ∧ i < kk t + pp t

section
variable {n F : Nat} {g : Nat → Nat → Bool} {fo ρ : Nat → Nat → Nat} {a b c T : Nat} {s : Nat → Nat} {rm : Nat → Nat → Nat} {kk pp : Nat → Nat}

theorem yFid_facts (h : yTg n g F fo ρ) (hab : g a b = true) (hc : ρ a b = c) (hr : yRun g ρ a b c T s rm kk pp) {t i : Nat} (ht : t < T) (hi : yRg kk pp t i) :
    g (rm t (kk t)) (rm (t+1) (i+1)) = true ∧ ρ (rm t (kk t)) (rm (t+1) (i+1)) = rm (t+1) i ∧ fo (rm (t+1) (i+1)) (rm (t+1) i) = yFid fo rm kk t i ∧ fo (rm (t+1) i) (rm t (kk t)) = yFid fo rm kk t i ∧ yFid fo rm kk t i < F ∧
    g (rm t (kk t)) (rm (t+1) i) = true ∧ i + 1 < s (t+1) := by
  have hS := (hr.2.2.2.2 t ht).1
  have hR := yRun_rim h hab hc hr t (by omega)
  obtain ⟨e0, e1, F1, F3, F2, F4⟩ := yStp_facts h hR hS
  obtain ⟨hk1, hk2, hp, ha, hb, hcc, hd, hfree⟩ := hS
  obtain ⟨r1, r2⟩ := hi
  have h1 := hcc (i+1-kk t) (by omega)
  rw [show kk t + (i+1-kk t) = i + 1 by omega, show i + 1 - 1 = i by omega] at h1
  have h2 := (F1 (i+1-kk t+1) (by omega)).2
  rw [show kk t + (i+1-kk t+1) - 1 = i + 1 by omega] at h2
  have tt := yTg_th h h2
  rw [h1] at tt
  exact ⟨h2, h1, tt.2.2.2.2.2.1, tt.2.2.2.2.2.2, tt.1, by rw [h.2.2.1.2]; exact tt.2.2.1, by omega⟩

theorem yFid_inj (h : yTg n g F fo ρ) (hab : g a b = true) (hc : ρ a b = c) (hr : yRun g ρ a b c T s rm kk pp) {t i t' i' : Nat} (ht : t < T) (hi : yRg kk pp t i) (ht' : t' < T) (hi' : yRg kk pp t' i')
    (he : yFid fo rm kk t i = yFid fo rm kk t' i') : t = t' ∧ i = i' := by
  have f := yFid_facts h hab hc hr ht hi
  have f' := yFid_facts h hab hc hr ht' hi'
  have hgo : ∀ τ σ j, τ < σ → σ ≤ T → j < s σ → rm σ j ≠ rm τ (kk τ) := by
    intro τ σ j hτ hσ hj hh
    exact ((yRun_rim h hab hc hr σ hσ).2.1 j hj).2 ⟨τ, hτ, hh⟩
  have b1 := f.2.2.2.2.2.2; have b2 := f'.2.2.2.2.2.2
  rcases yTg_fo h f.1 f'.1 he.symm with d | d | d
  · have e1 := yRun_inj h hab hc hr t' t ht' ht d.1
    subst e1
    have := (yRun_rim h hab hc hr (t'+1) (by omega)).2.2.1 _ _ b2 b1 d.2
    exact ⟨rfl, by omega⟩
  · exfalso
    -- the node taken off at t' is still there after t
    have hlt : t < t' := by
      rcases Nat.lt_or_ge t t' with q | q
      · exact q
      · exfalso; exact hgo t' (t+1) (i+1) (by omega) (by omega) b1 d.1.symm
    -- the third node is that of t
    have h3 := f'.2.1
    rw [d.1, d.2, (yTg_th h f.1).2.2.2.1] at h3
    exact hgo t (t'+1) i' (by omega) (by omega) (by omega) h3.symm
  · exfalso
    rw [f.2.1] at d
    have hlt : t < t' := by
      rcases Nat.lt_or_ge t t' with q | q
      · exact q
      · exfalso; exact hgo t' (t+1) i (by omega) (by omega) (by omega) d.1.symm
    exact hgo t (t'+1) (i'+1) (by omega) (by omega) b2 d.2

theorem yFid_out (h : yTg n g F fo ρ) (hab : g a b = true) (hc : ρ a b = c) (hr : yRun g ρ a b c T s rm kk pp) {t i : Nat} (ht : t < T) (hi : yRg kk pp t i) : yFid fo rm kk t i ≠ fo a b := by
  intro he
  have f := yFid_facts h hab hc hr ht hi
  have e1 := yRun_ends hr t (by omega)
  have e2 := yRun_ends hr (t+1) (by omega)
  have hR := yRun_rim h hab hc hr t (by omega)
  have hR' := yRun_rim h hab hc hr (t+1) (by omega)
  have hS := (hr.2.2.2.2 t ht).1
  have hk1 := hS.1; have hk2 := hS.2.1
  rcases yTg_fo h hab f.1 he with d | d | d
  · rw [← e1.1] at d
    have := hR.2.2.1 _ _ (by omega) (by omega) d.1; omega
  · rw [← e1.2.1] at d
    have := hR.2.2.1 _ _ (by omega) (by omega) d.1; omega
  · rw [← e2.1] at d
    have := hR'.2.2.1 _ _ f.2.2.2.2.2.2 (by omega) d.2; omega

theorem yFid_count (h : yTg n g F fo ρ) (hab : g a b = true) (hc : ρ a b = c) (hr : yRun g ρ a b c T s rm kk pp) (θ : Nat → Nat) :
    ∀ t, t ≤ T → yNb F (fun f => yD (∃ τ i, τ < t ∧ yRg kk pp τ i ∧ θ τ ≤ i ∧ f = yFid fo rm kk τ i)) = yS t (fun τ => kk τ + pp τ - max (kk τ - 1) (θ τ)) := by
  intro t
  induction t with
  | zero =>
    intro _
    have hz : ∀ m, yNb m (fun f => yD (∃ τ i, τ < 0 ∧ yRg kk pp τ i ∧ θ τ ≤ i ∧ f = yFid fo rm kk τ i)) = 0 := by
      intro m
      induction m with
      | zero => rfl
      | succ m ih =>
        simp only [yNb]
        rw [ih, if_neg]
        rw [yD_iff]; rintro ⟨τ, i, hτ, _⟩; omega
    rw [hz]; rfl
  | succ t ih =>
    intro ht
    have hk1 := (hr.2.2.2.2 t (by omega)).1.1
    simp only [yS]
    rw [← ih (by omega)]
    have himg := yNb_img F (fun f => yD (∃ τ i, τ < t ∧ yRg kk pp τ i ∧ θ τ ≤ i ∧ f = yFid fo rm kk τ i)) (kk t + pp t - max (kk t - 1) (θ t)) (fun k => yFid fo rm kk t (max (kk t - 1) (θ t) + k)) (by
      intro k hk
      have hrg : yRg kk pp t (max (kk t - 1) (θ t) + k) := ⟨by omega, by omega⟩
      refine ⟨(yFid_facts h hab hc hr (by omega) hrg).2.2.2.2.1, ?_⟩
      apply yD_neg
      rintro ⟨τ, i, hτ, hi, _, he⟩
      have := yFid_inj h hab hc hr (by omega) hrg (by omega) hi he
      omega) (by
      intro i j hi hj he
      have := yFid_inj h hab hc hr (by omega) ⟨by omega, by omega⟩ (by omega) ⟨by omega, by omega⟩ he
      omega)
    rw [← himg]
    apply yNb_congr
    intro f _
    rw [Bool.eq_iff_iff, Bool.or_eq_true, yD_iff, yD_iff, yD_iff]
    constructor
    · rintro ⟨τ, i, hτ, hi, hθ, he⟩
      by_cases q : τ = t
      · subst q
        obtain ⟨r1, r2⟩ := hi
        right
        refine ⟨i - max (kk τ - 1) (θ τ), by omega, ?_⟩
        rw [he]; congr 1; omega
      · exact Or.inl ⟨τ, i, by omega, hi, hθ, he⟩
    · rintro (⟨τ, i, hτ, hi, hθ, he⟩ | ⟨k, hk, he⟩)
      · exact ⟨τ, i, by omega, hi, hθ, he⟩
      · exact ⟨t, max (kk t - 1) (θ t) + k, by omega, ⟨by omega, by omega⟩, by omega, he⟩

theorem yFid_all (h : yTg n g F fo ρ) (hab : g a b = true) (hc : ρ a b = c) (hr : yRun g ρ a b c T s rm kk pp) (hT : s T = 2) (f : Nat) (hf : f < F) : f = fo a b ∨ ∃ t i, t < T ∧ yRg kk pp t i ∧ f = yFid fo rm kk t i := by
  have hst : ∀ t, t < T → 1 ≤ kk t ∧ kk t + 2 ≤ s t ∧ s t + pp t = s (t+1) + 1 := fun t ht => by
    have := (hr.2.2.2.2 t ht).1
    exact ⟨this.1, this.2.1, this.2.2.1⟩
  have hTn := (yRun_all h hab hc hr (Nat.le_refl T) hT).2
  have hFn : F + 4 = 2 * n := h.2.2.2.2.2.2.2.2
  have hnum : ∀ t, t ≤ T → yS t (fun τ => kk τ + pp τ - max (kk τ - 1) 0) + 3 = s t + 2 * t := by
    intro t
    induction t with
    | zero => intro _; rw [hr.1]; rfl
    | succ t ih =>
      intro ht
      have := hst t (by omega)
      simp only [yS]
      have := ih (by omega)
      omega
  have hcount := yFid_count h hab hc hr (fun _ => 0) T (Nat.le_refl _)
  have hn2 := hnum T (Nat.le_refl _)
  rw [hT] at hn2
  have hF1 : yNb F (fun f => yD (∃ τ i, τ < T ∧ yRg kk pp τ i ∧ 0 ≤ i ∧ f = yFid fo rm kk τ i)) + 1 = F := by omega
  have hadd := yNb_add1 F (fun f => yD (∃ τ i, τ < T ∧ yRg kk pp τ i ∧ 0 ≤ i ∧ f = yFid fo rm kk τ i)) (fun f => yD (∃ τ i, τ < T ∧ yRg kk pp τ i ∧ 0 ≤ i ∧ f = yFid fo rm kk τ i) || decide (f = fo a b)) (fo a b) (yTg_th h hab).1 (by
    apply yD_neg
    rintro ⟨τ, i, hτ, hi, _, he⟩
    exact yFid_out h hab hc hr hτ hi he.symm) (by simp) (fun i _ hne => by simp [hne])
  cases hh : (yD (∃ τ i, τ < T ∧ yRg kk pp τ i ∧ 0 ≤ i ∧ f = yFid fo rm kk τ i) || decide (f = fo a b)) with
  | true =>
    rw [Bool.or_eq_true, yD_iff, decide_eq_true_iff] at hh
    rcases hh with ⟨τ, i, h1, h2, _, h4⟩ | hh
    · exact Or.inr ⟨τ, i, h1, h2, h4⟩
    · exact Or.inl hh
  | false =>
    exfalso
    have h1 := yNb_strict F (fun f => yD (∃ τ i, τ < T ∧ yRg kk pp τ i ∧ 0 ≤ i ∧ f = yFid fo rm kk τ i) || decide (f = fo a b)) (fun _ => true) f hf hh rfl (fun _ _ _ => rfl)
    have h2 := yNb_le F (fun _ => true)
    omega

-- the colour of the outer face of an edge of the rim
theorem yFid_rim (h : yTg n g F fo ρ) (hab : g a b = true) (hc : ρ a b = c) (hr : yRun g ρ a b c T s rm kk pp) {ts : Nat} {pos : Nat → Nat} (hp : yCur T ts s kk pp pos) :
    ∀ t, 1 ≤ t → t ≤ T → ∀ i, i + 1 < s t → ∃ τ j, τ < t ∧ yRg kk pp τ j ∧ fo (rm t (i+1)) (rm t i) = yFid fo rm kk τ j ∧ (pos (τ+1) ≤ j ↔ pos t ≤ i) := by
  intro t
  induction t with
  | zero => intro h1; omega
  | succ t ih =>
    intro _ ht i hi
    obtain ⟨hk1, hk2, hpp, ha, hb, _⟩ := (hr.2.2.2.2 t (by omega)).1
    obtain ⟨d1, d2, d3, d4⟩ := hp.2.2.2.2.2.2 t (by omega)
    have old : ∀ j, j + 1 < s t → (j + 1 < kk t ∨ kk t < j) → ∃ τ j', τ < t ∧ yRg kk pp τ j' ∧ fo (rm t (j+1)) (rm t j) = yFid fo rm kk τ j' ∧ (pos (τ+1) ≤ j' ↔ pos t ≤ j) := by
      intro j hj hcase
      by_cases t0 : t = 0
      · exfalso
        subst t0
        have := hr.1
        omega
      · exact ih (by omega) (by omega) j hj
    rcases Nat.lt_or_ge (i+1) (kk t) with c1 | c1
    · rw [ha i (by omega), ha (i+1) c1]
      obtain ⟨τ, j, a1, a2, a3, a4⟩ := old i (by omega) (Or.inl c1)
      refine ⟨τ, j, by omega, a2, a3, ?_⟩
      rw [a4]
      rcases Nat.lt_trichotomy (pos t) (kk t) with e | e | e
      · rw [d1 e]
      · rcases Nat.lt_or_ge t ts with f | f
        · have := d3 e.symm f; omega
        · have := d4 e.symm f; omega
      · have := d2 e; omega
    · rcases Nat.lt_or_ge i (kk t + pp t) with c2 | c2
      · have hrg : yRg kk pp t i := ⟨c1, c2⟩
        exact ⟨t, i, by omega, hrg, (yFid_facts h hab hc hr (by omega) hrg).2.2.1, Iff.rfl⟩
      · have x1 := hb (i+1-pp t) (by omega) (by omega)
        rw [show i + 1 - pp t + pp t - 1 = i by omega] at x1
        have x2 := hb (i+1-pp t+1) (by omega) (by omega)
        rw [show i + 1 - pp t + 1 + pp t - 1 = i + 1 by omega] at x2
        rw [x1, x2]
        obtain ⟨τ, j, a1, a2, a3, a4⟩ := old (i+1-pp t) (by omega) (Or.inr (by omega))
        refine ⟨τ, j, by omega, a2, a3, ?_⟩
        rw [a4]
        rcases Nat.lt_trichotomy (pos t) (kk t) with e | e | e
        · have := d1 e; omega
        · rcases Nat.lt_or_ge t ts with f | f
          · have := d3 e.symm f; omega
          · have := d4 e.symm f; omega
        · have := d2 e; omega

-- the faces between the ways
def yKap (fo : Nat → Nat → Nat) (rm : Nat → Nat → Nat) (kk pp pos : Nat → Nat) (T f : Nat) : Prop := ∃ t i, t < T ∧ yRg kk pp t i ∧ pos (t+1) ≤ i ∧ f = yFid fo rm kk t i

theorem yKap_at (h : yTg n g F fo ρ) (hab : g a b = true) (hc : ρ a b = c) (hr : yRun g ρ a b c T s rm kk pp) {pos : Nat → Nat} {t i : Nat} (ht : t < T) (hi : yRg kk pp t i) :
    yKap fo rm kk pp pos T (yFid fo rm kk t i) ↔ pos (t+1) ≤ i := by
  constructor
  · rintro ⟨t', i', h1, h2, h3, h4⟩
    have := yFid_inj h hab hc hr ht hi h1 h2 h4
    rw [this.1, this.2]; exact h3
  · intro hh; exact ⟨t, i, ht, hi, hh, rfl⟩

theorem yKap_out (h : yTg n g F fo ρ) (hab : g a b = true) (hc : ρ a b = c) (hr : yRun g ρ a b c T s rm kk pp) {pos : Nat → Nat} : ¬ yKap fo rm kk pp pos T (fo a b) := by
  rintro ⟨t, i, h1, h2, _, h4⟩
  exact yFid_out h hab hc hr h1 h2 h4.symm

-- the two faces of an edge at the node that is taken off
theorem yKap_edge (h : yTg n g F fo ρ) (hab : g a b = true) (hc : ρ a b = c) (hr : yRun g ρ a b c T s rm kk pp) {ts : Nat} {pos : Nat → Nat} (hp : yCur T ts s kk pp pos) {t j : Nat} (ht : t < T) (hj : j ≤ pp t + 1) :
    (yKap fo rm kk pp pos T (fo (rm t (kk t)) (rm (t+1) (kk t + j - 1))) ↔ yKap fo rm kk pp pos T (fo (rm (t+1) (kk t + j - 1)) (rm t (kk t)))) ∨
    (kk t = pos t ∧ ts ≤ t ∧ j = pp t + 1) ∨ (kk t = pos t ∧ t < ts ∧ kk t + j - 1 = pos (t+1)) ∨ (t = 0 ∧ j = pp t + 1) := by
  have hS := (hr.2.2.2.2 t ht).1
  have hR := yRun_rim h hab hc hr t (by omega)
  obtain ⟨e0, e1, F1, F3, F2, F4⟩ := yStp_facts h hR hS
  have hk1 := hS.1; have hk2 := hS.2.1
  obtain ⟨d1, d2, d3, d4⟩ := hp.2.2.2.2.2.2 t ht
  have hpos := hp.2.2.2.2.1 t (by omega)
  have houter : ∀ i, (i = kk t - 1 ∨ i = kk t) → i + 1 < s t → (t = 0 ∧ fo (rm t (i+1)) (rm t i) = fo a b) ∨ (yKap fo rm kk pp pos T (fo (rm t (i+1)) (rm t i)) ↔ pos t ≤ i) := by
    intro i hi hi'
    by_cases t0 : t = 0
    · left
      subst t0
      have s0 := hr.1
      have th := yTg_th h hab
      rw [hc] at th
      refine ⟨rfl, ?_⟩
      rcases (by omega : i = 0 ∨ i = 1) with e | e
      · rw [e]; rw [hr.2.1, hr.2.2.1]; exact th.2.2.2.2.2.2
      · rw [e]; rw [hr.2.2.1, hr.2.2.2.1]; exact th.2.2.2.2.2.1
    · right
      obtain ⟨τ, j', a1, a2, a3, a4⟩ := yFid_rim h hab hc hr hp t (by omega) (by omega) i hi'
      rw [a3, yKap_at h hab hc hr (by omega) a2]; exact a4
  -- the face on the inner side
  have hin1 : 1 ≤ j → fo (rm t (kk t)) (rm (t+1) (kk t + j - 1)) = yFid fo rm kk t (kk t + j - 2) := by
    intro h1
    unfold yFid
    rw [show kk t + j - 2 + 1 = kk t + j - 1 by omega]
  have hin2 : j ≤ pp t → fo (rm (t+1) (kk t + j - 1)) (rm t (kk t)) = yFid fo rm kk t (kk t + j - 1) := by
    intro h1
    exact (yFid_facts h hab hc hr ht ⟨by omega, by omega⟩).2.2.2.1
  by_cases j0 : j = 0
  · subst j0
    left
    rw [hin2 (by omega), yKap_at h hab hc hr ht ⟨by omega, by omega⟩]
    simp only [Nat.add_zero]
    rw [e0]
    have ho := houter (kk t - 1) (Or.inl rfl) (by omega)
    rw [show kk t - 1 + 1 = kk t by omega] at ho
    have hge : ¬ pos t < kk t → ¬ pos (t+1) ≤ kk t - 1 := by
      intro hh
      rcases Nat.lt_trichotomy (pos t) (kk t) with e | e | e
      · exact absurd e hh
      · rcases Nat.lt_or_ge t ts with f | f
        · have := d3 e.symm f; omega
        · have := d4 e.symm f; omega
      · have := d2 e; omega
    rcases ho with ⟨t0, ho⟩ | ho
    · rw [ho]
      constructor
      · intro hh; exact absurd hh (yKap_out h hab hc hr)
      · intro hh
        exfalso
        refine hge ?_ hh
        subst t0
        have s0 := hr.1
        have p0 := hp.1
        omega
    · rw [ho]
      constructor
      · intro hh; have := d1 (by omega); omega
      · intro hh
        by_cases q : pos t < kk t
        · have := d1 q; omega
        · exact absurd hh (hge q)
  · by_cases jp : j = pp t + 1
    · -- the right one
      by_cases t0 : t = 0
      · exact Or.inr (Or.inr (Or.inr ⟨t0, jp⟩))
      · by_cases q : kk t = pos t ∧ ts ≤ t
        · exact Or.inr (Or.inl ⟨q.1, q.2, jp⟩)
        · left
          rw [hin1 (by omega), yKap_at h hab hc hr ht ⟨by omega, by omega⟩]
          have hq : kk t + j - 1 = kk t + pp t := by omega
          rw [hq, e1]
          rcases houter (kk t) (Or.inr rfl) (by omega) with ⟨t0', _⟩ | ho
          · exact absurd t0' t0
          · rw [ho]
            rcases Nat.lt_trichotomy (pos t) (kk t) with e | e | e
            · have := d1 e; omega
            · rcases Nat.lt_or_ge t ts with f | f
              · have := d3 e.symm f; omega
              · exact absurd ⟨e.symm, f⟩ q
            · have := d2 e; omega
    · -- in the middle
      by_cases q : kk t + j - 1 = pos (t+1)
      · rcases Nat.lt_trichotomy (pos t) (kk t) with e | e | e
        · have := d1 e; omega
        · rcases Nat.lt_or_ge t ts with f | f
          · exact Or.inr (Or.inr (Or.inl ⟨e.symm, f, q⟩))
          · have := d4 e.symm f; omega
        · have := d2 e; omega
      · left
        rw [hin1 (by omega), hin2 (by omega), yKap_at h hab hc hr ht ⟨by omega, by omega⟩, yKap_at h hab hc hr ht ⟨by omega, by omega⟩]
        omega
end


section
variable {n F : Nat} {g : Nat → Nat → Bool} {fo ρ : Nat → Nat → Nat} {a b c T : Nat} {s : Nat → Nat} {rm : Nat → Nat → Nat} {kk pp : Nat → Nat}

-- the walls are the two ways and the edge between the corners
def yWl (b c T ts : Nat) (rm : Nat → Nat → Nat) (kk pos : Nat → Nat) (wall : Nat → Nat → Prop) : Prop :=
  ∀ x y, wall x y ↔ ((∃ t, t < T ∧ kk t = pos t ∧ ts ≤ t ∧ ((x = rm t (kk t) ∧ y = rm t (kk t + 1)) ∨ (y = rm t (kk t) ∧ x = rm t (kk t + 1)))) ∨
    (∃ t, t < ts ∧ kk t = pos t ∧ ((x = rm (t+1) (pos (t+1)) ∧ y = rm t (kk t)) ∨ (y = rm (t+1) (pos (t+1)) ∧ x = rm t (kk t)))) ∨ (x = b ∧ y = c) ∨ (x = c ∧ y = b))

theorem yReach (h : yTg n g F fo ρ) (hab : g a b = true) (hc : ρ a b = c) (hr : yRun g ρ a b c T s rm kk pp) (hT : s T = 2) {ts : Nat} {pos : Nat → Nat} (hp : yCur T ts s kk pp pos)
    {wall : Nat → Nat → Prop} (hw : yWl b c T ts rm kk pos wall) {O : Nat → Prop} (hO0 : O (fo a b)) (hOc : ∀ x y, g x y = true → O (fo x y) → ¬ wall x y → O (fo y x))
    (hOm : ∀ V : Nat → Prop, V (fo a b) → (∀ x y, g x y = true → V (fo x y) → ¬ wall x y → V (fo y x)) → ∀ f, O f → V f) :
    ∀ f, f < F → (O f ↔ ¬ yKap fo rm kk pp pos T f) := by
  have hgs := h.2.2.1.2
  have hTn := yRun_all h hab hc hr (Nat.le_refl T) hT
  have hT1 : 1 ≤ T := by have := h.1; omega
  have heT := yRun_ends hr T (Nat.le_refl _)
  rw [hT] at heT
  have hb1 : rm T 1 = b := heT.2.1
  have hts := hp.2.1
  have hk0 : kk 0 = 1 ∧ s 0 = 3 := by
    have hS := (hr.2.2.2.2 0 (by omega)).1
    have h1 := hS.1; have h2 := hS.2.1; have h3 := hr.1
    omega
  have hv0 : rm 0 (kk 0) = c := by rw [hk0.1]; exact hr.2.2.1
  have hgo : ∀ τ σ j, τ < σ → σ ≤ T → j < s σ → rm σ j ≠ rm τ (kk τ) := by
    intro τ σ j hτ hσ hj hh
    exact ((yRun_rim h hab hc hr σ hσ).2.1 j hj).2 ⟨τ, hτ, hh⟩
  have hkks : ∀ t, t < T → 1 ≤ kk t ∧ kk t + 2 ≤ s t ∧ s t + pp t = s (t+1) + 1 := fun t ht => by
    have := (hr.2.2.2.2 t ht).1
    exact ⟨this.1, this.2.1, this.2.2.1⟩
  have hva : ∀ t, t < T → rm t (kk t) ≠ a ∧ rm t (kk t) ≠ b := by
    intro t ht
    have e := yRun_ends hr t (by omega)
    have hk := hkks t ht
    have hR := yRun_rim h hab hc hr t (by omega)
    constructor
    · intro hh
      rw [← e.1] at hh
      have := hR.2.2.1 _ _ (by omega) (by omega) hh; omega
    · intro hh
      rw [← e.2.1] at hh
      have := hR.2.2.1 _ _ (by omega) (by omega) hh; omega
  -- edges of the node taken off
  have hedge : ∀ t, t < T → ∀ y, g (rm t (kk t)) y = true → (∀ τ, τ < t → y ≠ rm τ (kk τ)) → ¬ (wall (rm t (kk t)) y) → (yKap fo rm kk pp pos T (fo (rm t (kk t)) y) ↔ yKap fo rm kk pp pos T (fo y (rm t (kk t)))) := by
    intro t ht y hy hng hnw
    have hS := (hr.2.2.2.2 t ht).1
    obtain ⟨e0, e1, F1, F3, F2, F4⟩ := yStp_facts h (yRun_rim h hab hc hr t (by omega)) hS
    rcases F4 y hy with ⟨τ, hτ, e⟩ | ⟨j, hj, e⟩
    · exact absurd e (hng τ hτ)
    · rw [e]
      rw [e, hw] at hnw
      rcases yKap_edge h hab hc hr hp ht hj with q | q | q | q
      · exact q
      · exfalso; apply hnw; left
        refine ⟨t, ht, q.1, q.2.1, Or.inl ⟨rfl, ?_⟩⟩
        rw [q.2.2, show kk t + (pp t + 1) - 1 = kk t + pp t by omega, e1]
      · exfalso; apply hnw; right; left
        exact ⟨t, q.2.1, q.1, Or.inr ⟨by rw [q.2.2], rfl⟩⟩
      · exfalso; apply hnw; right; right; right
        obtain ⟨q1, q2⟩ := q
        subst q1
        refine ⟨hv0, ?_⟩
        rw [q2, show kk 0 + (pp 0 + 1) - 1 = kk 0 + pp 0 by omega, e1, hk0.1]; exact hr.2.2.2.1
  have hwsym : ∀ x y, wall x y → wall y x := by
    intro x y hxy
    rw [hw] at hxy ⊢
    rcases hxy with ⟨t, a1, a2, a3, a4⟩ | ⟨t, a1, a2, a3⟩ | a1 | a1
    · exact Or.inl ⟨t, a1, a2, a3, Or.symm a4⟩
    · exact Or.inr (Or.inl ⟨t, a1, a2, Or.symm a3⟩)
    · exact Or.inr (Or.inr (Or.inr ⟨a1.2, a1.1⟩))
    · exact Or.inr (Or.inr (Or.inl ⟨a1.2, a1.1⟩))
  intro f hf
  constructor
  · -- what is reached has the colour of the outer face
    intro hO
    refine hOm (fun f => ¬ yKap fo rm kk pp pos T f) (yKap_out h hab hc hr) ?_ f hO
    intro x y hxy hk hnw
    have gx := yTg_gr h hxy
    have hyx : g y x = true := by rw [hgs]; exact hxy
    rcases hTn.1 x gx.2.2.2.1 with ⟨t, ht, ex⟩ | ex | ex
    · rcases hTn.1 y gx.2.2.2.2.1 with ⟨t', ht', ey⟩ | ey | ey
      · -- both taken off
        rcases Nat.lt_trichotomy t t' with e | e | e
        · have := hedge t ht y (by rw [← ex]; exact hxy) (fun τ hτ hh => by
            rw [ey] at hh
            have := yRun_inj h hab hc hr t' τ ht' (by omega) hh; omega) (by rw [← ex]; exact hnw)
          rw [← ex] at this
          rw [← this]; exact hk
        · rw [e, ← ey] at ex; exact absurd ex gx.2.2.1
        · have := hedge t' ht' x (by rw [← ey]; exact hyx) (fun τ hτ hh => by
            rw [ex] at hh
            have := yRun_inj h hab hc hr t τ ht (by omega) hh; omega) (by rw [← ey]; exact fun hh => hnw (hwsym _ _ hh))
          rw [← ey] at this
          rw [this]; exact hk
      · have := hedge t ht y (by rw [← ex]; exact hxy) (fun τ hτ hh => by
          rw [ey, heT.1] at hh; exact (hva τ (by omega)).1 hh.symm) (by rw [← ex]; exact hnw)
        rw [← ex] at this
        rw [← this]; exact hk
      · have := hedge t ht y (by rw [← ex]; exact hxy) (fun τ hτ hh => by
          rw [ey, hb1] at hh; exact (hva τ (by omega)).2 hh.symm) (by rw [← ex]; exact hnw)
        rw [← ex] at this
        rw [← this]; exact hk
    · rw [heT.1] at ex
      rcases hTn.1 y gx.2.2.2.2.1 with ⟨t', ht', ey⟩ | ey | ey
      · have := hedge t' ht' x (by rw [← ey]; exact hyx) (fun τ hτ hh => by
          rw [ex] at hh; exact (hva τ (by omega)).1 hh.symm) (by rw [← ey]; exact fun hh => hnw (hwsym _ _ hh))
        rw [← ey] at this
        rw [this]; exact hk
      · rw [heT.1, ← ex] at ey; exact absurd ey.symm gx.2.2.1
      · -- the bottom edge
        rw [hb1] at ey
        obtain ⟨τ, j, a1, a2, a3, a4⟩ := yFid_rim h hab hc hr hp T hT1 (Nat.le_refl _) 0 (by omega)
        rw [heT.1] at a3
        have a3' : fo b a = yFid fo rm kk τ j := by rw [← hb1]; exact a3
        rw [ex, ey, a3', yKap_at h hab hc hr (by omega) a2, a4]
        have := hp.2.2.2.1
        omega
    · rw [hb1] at ex
      rcases hTn.1 y gx.2.2.2.2.1 with ⟨t', ht', ey⟩ | ey | ey
      · have := hedge t' ht' x (by rw [← ey]; exact hyx) (fun τ hτ hh => by
          rw [ex] at hh; exact (hva τ (by omega)).2 hh.symm) (by rw [← ey]; exact fun hh => hnw (hwsym _ _ hh))
        rw [← ey] at this
        rw [this]; exact hk
      · rw [heT.1] at ey
        rw [ex, ey]; exact yKap_out h hab hc hr
      · rw [hb1, ← ex] at ey; exact absurd ey.symm gx.2.2.1
  · -- all of that colour is reached
    intro hk
    have hnowall : ∀ t m, t < T → kk t ≤ m + 1 → m < kk t + pp t → m < pos (t+1) → ¬ wall (rm t (kk t)) (rm (t+1) m) := by
      intro t m ht h1 h2 h3 hwl
      have hks := hkks t ht
      have hR' := yRun_rim h hab hc hr (t+1) (by omega)
      have hS := (hr.2.2.2.2 t ht).1
      obtain ⟨e0, e1, F1, F3, F2, F4⟩ := yStp_facts h (yRun_rim h hab hc hr t (by omega)) hS
      have hp1 := hp.2.2.2.2.1 (t+1) (by omega)
      rw [hw] at hwl
      rcases hwl with ⟨t', a1, a2, a3, a4 | a4⟩ | ⟨t', a1, a2, a4 | a4⟩ | a4 | a4
      · have et := yRun_inj h hab hc hr t t' ht a1 a4.1
        subst et
        rw [← e1] at a4
        have := hR'.2.2.1 _ _ (by omega) (by omega) a4.2
        omega
      · have hlt : t < t' := by
          rcases Nat.lt_or_ge t t' with q | q
          · exact q
          · exfalso; exact hgo t' (t+1) m (by omega) (by omega) (by omega) a4.1
        exact hgo t t' (kk t' + 1) hlt (by omega) (by have := hkks t' a1; omega) a4.2.symm
      · have hlt : t < t' := by
          rcases Nat.lt_or_ge t t' with q | q
          · exact q
          · exfalso; exact hgo t' (t+1) m (by omega) (by omega) (by omega) a4.2
        exact hgo t (t'+1) (pos (t'+1)) (by omega) (by omega) (hp.2.2.2.2.1 (t'+1) (by omega)).2 a4.1.symm
      · have et := yRun_inj h hab hc hr t t' ht (by omega) a4.2
        subst et
        have := hR'.2.2.1 _ _ (by omega) hp1.2 a4.1
        omega
      · exact (hva t ht).2 a4.1
      · have et := yRun_inj h hab hc hr t 0 ht (by omega) (by rw [hv0]; exact a4.1)
        subst et
        have hb' := (yRun_ends hr (0+1) (by omega)).2.1
        rw [← hb'] at a4
        have := hR'.2.2.1 _ _ (by omega) (by omega) a4.2
        omega
    have key : ∀ t, t < T → ∀ i, yRg kk pp t i → i < pos (t+1) → O (yFid fo rm kk t i) := by
      intro t
      induction t using Nat.strongRecOn with
      | _ t ih =>
        intro ht
        have hks := hkks t ht
        obtain ⟨d1, d2, d3, d4⟩ := hp.2.2.2.2.2.2 t ht
        have hS := (hr.2.2.2.2 t ht).1
        obtain ⟨e0, e1, F1, F3, F2, F4⟩ := yStp_facts h (yRun_rim h hab hc hr t (by omega)) hS
        have inner : ∀ d, kk t - 1 + d < kk t + pp t → kk t - 1 + d < pos (t+1) → O (yFid fo rm kk t (kk t - 1 + d)) := by
          intro d
          induction d with
          | zero =>
            intro h1 h2
            rw [Nat.add_zero] at h1 h2 ⊢
            have hrg : yRg kk pp t (kk t - 1) := ⟨by omega, h1⟩
            have ff := yFid_facts h hab hc hr ht hrg
            have hvA : g (rm t (kk t)) (rm (t+1) (kk t - 1)) = true := ff.2.2.2.2.2.1
            have hOA : O (fo (rm t (kk t)) (rm (t+1) (kk t - 1))) := by
              rw [e0]
              by_cases t0 : t = 0
              · subst t0
                rw [hv0, hk0.1]
                have : rm 0 (1-1) = a := hr.2.1
                rw [this]
                have th := yTg_th h hab
                rw [hc] at th
                rw [th.2.2.2.2.2.2]; exact hO0
              · obtain ⟨τ, j, a1, a2, a3, a4⟩ := yFid_rim h hab hc hr hp t (by omega) (by omega) (kk t - 1) (by omega)
                rw [show kk t - 1 + 1 = kk t by omega] at a3
                rw [a3]
                refine ih τ a1 (by omega) j a2 ?_
                have : ¬ pos t ≤ kk t - 1 := by
                  intro hh
                  have := d1 (by omega); omega
                rw [← a4] at this
                omega
            have := hOc _ _ hvA hOA (hnowall t (kk t - 1) ht (by omega) (by omega) h2)
            rw [ff.2.2.2.1] at this
            exact this
          | succ d ihd =>
            intro h1 h2
            have hprev := ihd (by omega) (by omega)
            have hrg : yRg kk pp t (kk t - 1 + (d+1)) := ⟨by omega, h1⟩
            have ff := yFid_facts h hab hc hr ht hrg
            have := hOc _ _ ff.2.2.2.2.2.1 (by
              have e : yFid fo rm kk t (kk t - 1 + d) = fo (rm t (kk t)) (rm (t+1) (kk t - 1 + (d+1))) := by
                unfold yFid; rw [show kk t - 1 + d + 1 = kk t - 1 + (d+1) by omega]
              rw [← e]; exact hprev) (hnowall t (kk t - 1 + (d+1)) ht (by omega) (by omega) h2)
            rw [ff.2.2.2.1] at this
            exact this
        intro i hi hpi
        obtain ⟨r1, r2⟩ := hi
        have := inner (i - (kk t - 1)) (by omega) (by omega)
        rw [show kk t - 1 + (i - (kk t - 1)) = i by omega] at this
        exact this
    rcases yFid_all h hab hc hr hT f hf with e | ⟨t, i, ht, hi, e⟩
    · rw [e]; exact hO0
    · rw [e] at hk ⊢
      rw [yKap_at h hab hc hr ht hi] at hk
      exact key t ht i hi (by omega)

-- how many are not reached
theorem yReach_count (h : yTg n g F fo ρ) (hab : g a b = true) (hc : ρ a b = c) (hr : yRun g ρ a b c T s rm kk pp) (hT : s T = 2) {ts : Nat} {pos : Nat → Nat} (hp : yCur T ts s kk pp pos)
    {wall : Nat → Nat → Prop} (hw : yWl b c T ts rm kk pos wall) {O : Nat → Prop} (hO0 : O (fo a b)) (hOc : ∀ x y, g x y = true → O (fo x y) → ¬ wall x y → O (fo y x))
    (hOm : ∀ V : Nat → Prop, V (fo a b) → (∀ x y, g x y = true → V (fo x y) → ¬ wall x y → V (fo y x)) → ∀ f, O f → V f) :
    yNb F (fun f => yD (¬ O f)) + 1 = 2 * yNb T (fun t => decide (pos t < kk t)) + yNb T (fun t => decide (kk t = pos t)) := by
  rw [← yCur_count hr hp, ← yFid_count h hab hc hr (fun t => pos (t+1)) T (Nat.le_refl _)]
  congr 1
  apply yNb_congr
  intro f hf
  rw [Bool.eq_iff_iff, yD_iff, yD_iff, yReach h hab hc hr hT hp hw hO0 hOc hOm f hf]
  unfold yKap
  constructor
  · intro hh
    have := Classical.not_not.1 hh
    exact this
  · intro hh hn; exact hn hh
end


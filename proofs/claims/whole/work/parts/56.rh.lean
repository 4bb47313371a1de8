
-- the faces' arrays
def yFA (F : Nat) (sz : Nat → Nat) (fc : Nat → Nat → Nat) (fa fs fb : Nat → Int32) : Prop :=
  ∀ f, f < F → fs f = Int32.ofNat (sz f) ∧ (∀ k, k < sz f → fa (21*f+k) = Int32.ofNat (fc f k)) ∧ (∀ w, w < 32 → (yM (fb f) w = true ↔ ∃ k, k < sz f ∧ w = fc f k))

section
variable {n F : Nat} {bk inH fa fs fb : Nat → Int32} {nH : Int32} {sz : Nat → Nat} {fc : Nat → Nat → Nat} {fo : Nat → Nat → Nat} {as : Nat → Nat}

theorem yDem_const (hG : yGH n bk inH nH) (hD : yDem 1024 yI (yGr (yGm n bk)) (yGr (yGm n inH)) (yS1 fo) (yT1 fo) as)
    {e e' : Nat} (he : yFr n bk inH e) (he' : yFr n bk inH e') (h : yPk n bk nH e = yPk n bk nH e') : as e = as e' := by
  have h9 := hD.2.2.2.2.2.2.2.2.1
  have hn := hG.1
  have hoffn : ∀ v, yM nH v = false → v < 32 → ¬ yOn 1024 yI (yGr (yGm n inH)) v := by
    intro v hv hv32 hon
    rw [(hG.2.2.2.1 v hv32).2 hon] at hv; cases hv
  rcases yFr_cases hG he with c | ⟨v, hv, hI, hoff⟩
  · rcases yFr_cases hG he' with c' | ⟨v', hv', hI', hoff'⟩
    · rw [c.2, c'.2] at h; rw [h]
    · rw [c.2, yPk_off hG he' hI' hoff'] at h
      have := he.1; omega
  · rcases yFr_cases hG he' with c' | ⟨v', hv', hI', hoff'⟩
    · rw [c'.2, yPk_off hG he hI hoff] at h
      have := he'.1; omega
    · rw [yPk_off hG he hI hoff, yPk_off hG he' hI' hoff'] at h
      have hre := yCp_inv hG hoff' (show yCp n bk nH v = yCp n bk nH v' by omega)
      have hU := hre (fun z => yM nH z = false ∧ ∀ d, yFr n bk inH d → yI d z = true → as e = as d)
        ⟨hoff, fun d hd hId => h9 e d v he.1 hd.1 he.2.1 he.2.2 hd.2.1 hd.2.2 hI hId (hoffn v hoff (by omega))⟩ (by
          intro p q hp hq hU hb hoq
          refine ⟨hoq, fun d hd hId => ?_⟩
          obtain ⟨g1, g2, g3, g4, g5⟩ := yGr_of hG hp hb
          have hpq := yFr_off hG hp hb (Or.inr hoq)
          rw [hU.2 _ hpq ((g5 p).2 (Or.inl rfl))]
          exact h9 _ d q hpq.1 hd.1 hpq.2.1 hpq.2.2 hd.2.1 hd.2.2 ((g5 q).2 (Or.inr rfl)) hId (hoffn q hoq hq))
      exact hU.2 e' he' hI'

theorem yI_lt {e v : Nat} (he : e < 1024) (h : yI e v = true) : v < 32 := by
  unfold yI at h
  by_cases c1 : e/32 = v
  · omega
  · by_cases c2 : e%32 = v
    · omega
    · rw [beq_false_of_ne c1, beq_false_of_ne c2] at h; cases h

theorem yDem_adm (hG : yGH n bk inH nH) (hS : yFs n F (yGr (yGm n inH)) sz fc fo) (hA : yFA F sz fc fa fs fb)
    (hD : yDem 1024 yI (yGr (yGm n bk)) (yGr (yGm n inH)) (yS1 fo) (yT1 fo) as) {e : Nat} (he : yFr n bk inH e) {en : Int32} (hen : yEb n bk inH nH e en) :
    as e < F ∧ yAd (fb (as e)) en = true := by
  have hn := hG.1
  have h7 := hD.2.2.2.2.2.2.1 e he.1 he.2.1 he.2.2
  have hF := (yFs_used hn hS _).1 h7
  refine ⟨hF, (yAd_iff _ _).2 ?_⟩
  intro w hw hm
  obtain ⟨h1, e', h2, h3, h4⟩ := (hen w hw).1 hm
  have h5 := yDem_const hG hD h2 he h3
  have h8 := hD.2.2.2.2.2.2.2.1 e' w h2.1 h2.2.1 h2.2.2 h4 ((hG.2.2.2.1 w hw).1 h1)
  rw [h5, yFs_on hn hS _ hF] at h8
  obtain ⟨k, hk, hkw⟩ := h8
  exact ((hA _ hF).2.2 w hw).2 ⟨k, hk, hkw.symm⟩

theorem yDem_pick (hG : yGH n bk inH nH) (hS : yFs n F (yGr (yGm n inH)) sz fc fo) (hA : yFA F sz fc fa fs fb)
    (hD : yDem 1024 yI (yGr (yGm n bk)) (yGr (yGm n inH)) (yS1 fo) (yT1 fo) as) {be : Int32} {bf : Nat}
    (hmin : ∀ e en, yFr n bk inH e → yEb n bk inH nH e en → bf ≤ yCnt F fb en) {e0 : Nat} (he0 : yFr n bk inH e0) (hen : yEb n bk inH nH e0 be) (hbf : bf = yCnt F fb be)
    (f : Nat) (hf : f < F) (hfa : yAd (fb f) be = true)
    (hw0 : ∃ w v0, yDg 1024 yI w v0 = true ∧ ∀ v, yDg 1024 yI w v = true → yOn 1024 yI (yGr (yGm n inH)) v ∧ ∃ e', yFr n bk inH e' ∧ yPk n bk nH e' = yPk n bk nH e0 ∧ yI e' v = true) :
    ∃ as', yDem 1024 yI (yGr (yGm n bk)) (yGr (yGm n inH)) (yS1 fo) (yT1 fo) as' ∧ ∀ e', yFr n bk inH e' → yPk n bk nH e' = yPk n bk nH e0 → as' e' = f := by
  have hn := hG.1
  -- a face that takes the mask of a piece
  have hon : ∀ e en g, yFr n bk inH e → yEb n bk inH nH e en → g < F → yAd (fb g) en = true →
      ∀ e' v, e' < 1024 → yGr (yGm n bk) e' = true → yGr (yGm n inH) e' = false → yPk n bk nH e' = yPk n bk nH e → yI e' v = true → yOn 1024 yI (yGr (yGm n inH)) v →
        yOn 1024 yI (yZ (yGr (yGm n inH)) (yS1 fo) (yT1 fo) g) v := by
    intro e en g he hen' hg had e' v he' hge hhe hpc hI hv
    have hv32 := yI_lt he' hI
    have h1 := (hen' v hv32).2 ⟨(hG.2.2.2.1 v hv32).2 hv, e', ⟨he', hge, hhe⟩, hpc, hI⟩
    have h2 := (yAd_iff _ _).1 had v hv32 h1
    obtain ⟨k, hk, hkv⟩ := ((hA g hg).2.2 v hv32).1 h2
    rw [yFs_on hn hS g hg]
    exact ⟨k, hk, hkv.symm⟩
  by_cases hb1 : bf ≤ 1
  · refine ⟨as, hD, fun e' he' hpc => ?_⟩
    rw [yDem_const hG hD he' he0 hpc]
    have h1 := yDem_adm hG hS hA hD he0 hen
    by_cases c : as e0 = f
    · exact c
    · exfalso
      have := yNb_two (p := fun f => yAd (fb f) be) h1.1 hf h1.2 hfa c
      have h2 : yCnt F fb be = yNb F (fun f => yAd (fb f) be) := rfl
      omega
  · obtain ⟨as', hD', hsame, hf'⟩ := yDem_flip (n := 1056) hD (yPk n bk nH)
      (fun e he hg hh => yPk_lt hG ⟨he, hg, hh⟩)
      (fun e e' v he he' hg hh hg' hh' hI hI' hv => by
        have hv32 := yI_lt he hI
        have hoff : yM nH v = false := by
          cases hm : yM nH v with
          | false => rfl
          | true => exact absurd ((hG.2.2.2.1 v hv32).1 hm) hv
        rw [yPk_off hG ⟨he, hg, hh⟩ hI hoff, yPk_off hG ⟨he', hg', hh'⟩ hI' hoff])
      (fun e e' he he' hg hh hg' hh' hpc => yDem_const hG hD ⟨he, hg, hh⟩ ⟨he', hg', hh'⟩ hpc)
      (fun e he hg hh => by
        obtain ⟨en, hen'⟩ := yMask (fun w => yM nH w = true ∧ ∃ e', yFr n bk inH e' ∧ yPk n bk nH e' = yPk n bk nH e ∧ yI e' w = true)
        have h1 := hmin e en ⟨he, hg, hh⟩ hen'
        have h2 : yCnt F fb en = yNb F (fun f => yAd (fb f) en) := rfl
        obtain ⟨f1, f2, hf1, hf2, hne, ha1, ha2⟩ := yNb_ex2 (m := F) (p := fun f => yAd (fb f) en) (by omega)
        exact ⟨f1, f2, hne, (yFs_used hn hS f1).2 hf1, (yFs_used hn hS f2).2 hf2, fun e' v a1 a2 a3 a4 a5 a6 =>
          ⟨hon e en f1 ⟨he, hg, hh⟩ hen' hf1 ha1 e' v a1 a2 a3 a4 a5 a6, hon e en f2 ⟨he, hg, hh⟩ hen' hf2 ha2 e' v a1 a2 a3 a4 a5 a6⟩⟩)
      e0 he0.1 he0.2.1 he0.2.2 f ((yFs_used hn hS f).2 hf) (fun e' v a1 a2 a3 a4 a5 a6 => hon e0 be f he0 hen hf hfa e' v a1 a2 a3 a4 a5 a6)
      (by
        obtain ⟨w, v0, h1, h2⟩ := hw0
        refine ⟨w, v0, h1, fun v hv => ?_⟩
        obtain ⟨h3, e', h4, h5, h6⟩ := h2 v hv
        exact ⟨h3, e', h4.1, h4.2.1, h4.2.2, h5, h6⟩)
    exact ⟨as', hD', fun e' he' hpc => by rw [hsame e' e0 he'.1 he0.1 he'.2.1 he'.2.2 he0.2.1 he0.2.2 hpc]; exact hf'⟩
end

-- the odd nodes of a way are its two last nodes
theorem yP_odd {n L : Nat} {pn : Nat → Nat} (hn : n ≤ 21) (hL : 2 ≤ L) (h12 : ∀ k, k < L → pn k < n) (h13 : ∀ i j, i < L → j < L → pn i = pn j → i = j) :
    yDg 1024 yI (yPp L pn) (pn 0) = true ∧ ∀ v, yDg 1024 yI (yPp L pn) v = true → v = pn 0 ∨ v = pn (L-1) := by
  have hlt : ∀ k, k + 1 < L → yIx (pn k) (pn (k+1)) < 1024 := fun k hk => by
    have := h12 k (by omega); have := h12 (k+1) hk; exact yIx_lt (by omega) (by omega)
  have hPI : ∀ k, k + 1 < L → ∀ v, (yI (yIx (pn k) (pn (k+1))) v = true ↔ (v = pn k ∨ v = pn (k+1))) := fun k hk v => by
    have := h12 k (by omega); have := h12 (k+1) hk
    apply yI_iff (by omega) (by omega)
    intro he; have := h13 _ _ (by omega) (by omega) he; omega
  constructor
  · unfold yDg
    rw [yX_one 1024 _ (yIx (pn 0) (pn (0+1))) (hlt 0 (by omega))]
    · rw [show yPp L pn (yIx (pn 0) (pn (0+1))) = true from yD_pos ⟨0, by omega, rfl⟩, (hPI 0 (by omega) (pn 0)).2 (Or.inl rfl)]; rfl
    · intro e' _ hne
      cases hpe : yPp L pn e' with
      | false => rfl
      | true =>
        obtain ⟨k', hk', hek'⟩ := (yD_iff _).1 hpe
        cases hIe : yI e' (pn 0) with
        | false => rfl
        | true =>
          exfalso
          rw [hek', hPI k' hk'] at hIe
          rcases hIe with c | c
          · have := h13 _ _ (by omega) (by omega) c; rw [hek', ← this] at hne; exact hne rfl
          · have := h13 _ _ (by omega) (by omega) c; omega
  · intro v hv
    by_cases hex : ∃ k, 0 < k ∧ k + 1 < L ∧ v = pn k
    · exfalso
      obtain ⟨k, hk0, hk, hvk⟩ := hex
      obtain ⟨k, rfl⟩ : ∃ j, k = j + 1 := ⟨k-1, by omega⟩
      unfold yDg at hv
      rw [yX_two 1024 _ (yIx (pn k) (pn (k+1))) (yIx (pn (k+1)) (pn (k+1+1))) (hlt k (by omega)) (hlt (k+1) (by omega)) (fun he => by
        have := h12 k (by omega); have := h12 (k+1) (by omega); have := h12 (k+1+1) (by omega)
        rcases yIx_inj (by omega) (by omega) (by omega) (by omega) he with ⟨a, b⟩ | ⟨a, b⟩
        · have := h13 _ _ (by omega) (by omega) a; omega
        · have := h13 _ _ (by omega) (by omega) a; omega)] at hv
      · rw [show yPp L pn (yIx (pn k) (pn (k+1))) = true from yD_pos ⟨k, by omega, rfl⟩, show yPp L pn (yIx (pn (k+1)) (pn (k+1+1))) = true from yD_pos ⟨k+1, by omega, rfl⟩,
          (hPI k (by omega) v).2 (Or.inr hvk), (hPI (k+1) (by omega) v).2 (Or.inl hvk)] at hv
        cases hv
      · intro e' _ hne1 hne2
        cases hpe : yPp L pn e' with
        | false => rfl
        | true =>
          obtain ⟨k', hk', hek'⟩ := (yD_iff _).1 hpe
          cases hIe : yI e' v with
          | false => rfl
          | true =>
            exfalso
            rw [hek', hPI k' hk', hvk] at hIe
            rcases hIe with c | c
            · have := h13 _ _ (by omega) (by omega) c; rw [hek', ← this] at hne2; exact hne2 rfl
            · have := h13 _ _ (by omega) (by omega) c; rw [hek', show k' = k by omega] at hne1; exact hne1 rfl
    · by_cases h0 : v = pn 0
      · exact Or.inl h0
      · by_cases h1 : v = pn (L-1)
        · exact Or.inr h1
        · exfalso
          unfold yDg at hv
          rw [yX_false] at hv
          · cases hv
          · intro e' _
            cases hpe : yPp L pn e' with
            | false => rfl
            | true =>
              obtain ⟨k', hk', hek'⟩ := (yD_iff _).1 hpe
              cases hIe : yI e' v with
              | false => rfl
              | true =>
                exfalso
                rw [hek', hPI k' hk'] at hIe
                rcases hIe with c | c
                · by_cases c2 : k' = 0
                  · rw [c2] at c; exact h0 c
                  · exact hex ⟨k', by omega, hk', c⟩
                · by_cases c2 : k' + 1 = L - 1
                  · rw [c2] at c; exact h1 c
                  · exact hex ⟨k'+1, by omega, by omega, c⟩

theorem ymod_ab {p q s : Nat} (hp : p < s) (hq : q < s) : (p + (q + s - p) % s) % s = q := by
  by_cases h : p ≤ q
  · have : (q + s - p) % s = q - p := by rw [show q + s - p = (q - p) + s by omega, Nat.add_mod_right, Nat.mod_eq_of_lt (by omega)]
    rw [this, show p + (q - p) = q by omega, Nat.mod_eq_of_lt hq]
  · rw [Nat.mod_eq_of_lt (by omega : q + s - p < s), show p + (q + s - p) = q + s by omega, Nat.add_mod_right, Nat.mod_eq_of_lt hq]

theorem ymod_d {p q s : Nat} (hp : p < s) (hq : q < s) (hne : p ≠ q) : 1 ≤ (q + s - p) % s ∧ (q + s - p) % s < s ∧ (p + s - q) % s = s - (q + s - p) % s := by
  rcases Nat.lt_or_ge p q with h | h
  · rw [show q + s - p = (q - p) + s by omega, Nat.add_mod_right, Nat.mod_eq_of_lt (by omega : q - p < s), Nat.mod_eq_of_lt (by omega : p + s - q < s)]
    omega
  · rw [show p + s - q = (p - q) + s by omega, Nat.add_mod_right, Nat.mod_eq_of_lt (by omega : p - q < s), Nat.mod_eq_of_lt (by omega : q + s - p < s)]
    omega

theorem ymod_inj {p s i j : Nat} (hi : i < s) (hj : j < s) (h : (p + i) % s = (p + j) % s) : i = j := by
  have h1 := Nat.div_add_mod (p+i) s
  have h2 := Nat.div_add_mod (p+j) s
  rw [h] at h1
  rcases Nat.lt_trichotomy ((p+i)/s) ((p+j)/s) with c | c | c
  · have : s * ((p+i)/s) + s ≤ s * ((p+j)/s) := by rw [← Nat.mul_succ]; exact Nat.mul_le_mul_left s c
    omega
  · rw [c] at h1; omega
  · have : s * ((p+j)/s) + s ≤ s * ((p+i)/s) := by rw [← Nat.mul_succ]; exact Nat.mul_le_mul_left s c
    omega

-- a way over a piece
def yPth (n : Nat) (bk inH : Nat → Int32) (nH : Int32) (e0 L : Nat) (pn : Nat → Nat) : Prop :=
  2 ≤ L ∧ L ≤ 22 ∧ (∀ k, k < L → pn k < n) ∧ (∀ i j, i < L → j < L → pn i = pn j → i = j) ∧
  (∀ k, k + 1 < L → yFr n bk inH (yIx (pn k) (pn (k+1))) ∧ yPk n bk nH (yIx (pn k) (pn (k+1))) = yPk n bk nH e0) ∧
  (∀ k, 0 < k → k + 1 < L → yM nH (pn k) = false) ∧ yM nH (pn 0) = true ∧ yM nH (pn (L-1)) = true

section
variable {n F : Nat} {bk inH fa fs fb : Nat → Int32} {nH : Int32} {sz : Nat → Nat} {fc : Nat → Nat → Nat} {fo : Nat → Nat → Nat} {as : Nat → Nat}

theorem yPth_rd (hG : yGH n bk inH nH) (hS : yFs n F (yGr (yGm n inH)) sz fc fo) {e0 L : Nat} {pn : Nat → Nat} (hP : yPth n bk inH nH e0 L pn)
    {f p q : Nat} (hf : f < F) (hp : p < sz f) (hq : q < sz f) (hcp : pn 0 = fc f p) (hcq : pn (L-1) = fc f q) :
    yRd n (yGr (yGm n inH)) fo f (sz f) (fun k => fc f ((p+k) % sz f)) ((q + sz f - p) % sz f) L pn := by
  obtain ⟨h1, h2, h3, h4, h5, h6, h7, h8⟩ := hP
  have hn := hG.1
  have hs := hS.1 f hf
  have hm : ∀ k, k % sz f < sz f := fun k => Nat.mod_lt _ (by omega)
  have hpq : p ≠ q := by
    intro h; rw [h, ← hcq] at hcp
    have := h4 _ _ (by omega) (by omega) hcp; omega
  have hd := ymod_d hp hq hpq
  refine ⟨hs.1, fun k => hs.2.1 _ (hm _), ?_, ?_, ?_, ?_, hd.1, hd.2.1, h1, ?_, ?_, h3, h4, ?_, ?_⟩
  · intro i j hi hj he
    exact ymod_inj hi hj (hs.2.2 _ _ (hm _) (hm _) he)
  · intro k; dsimp only; rw [← Nat.add_assoc, Nat.add_mod_right]
  · intro k
    have := hS.2.1 f ((p+k) % sz f) hf (hm _)
    rw [Nat.mod_add_mod, Nat.add_assoc] at this
    exact this
  · intro a b ha hb hab hH hfo
    obtain ⟨_, i, hi, h9, h10⟩ := hS.2.2.1 a b ha hb hab hH
    rw [hfo] at hi h9 h10
    refine ⟨(i + sz f - p) % sz f, hm _, ?_, ?_⟩
    · dsimp only; rw [ymod_ab hp hi]; exact h9.symm
    · dsimp only
      rw [← Nat.add_assoc, Nat.add_mod, ymod_ab hp hi, ← Nat.add_mod_mod, Nat.mod_mod]
      rw [← h10]
      congr 1
      rw [Nat.add_mod_mod]
  · dsimp only; rw [Nat.add_zero, Nat.mod_eq_of_lt hp]; exact hcp.symm
  · dsimp only; rw [ymod_ab hp hq]; exact hcq.symm
  · intro k hk0 hk w hw hne
    cases hh : yGr (yGm n inH) (yIx (pn k) w) with
    | false => rfl
    | true =>
      exfalso
      have hpk := h3 k (by omega)
      have := (hG.2.2.2.1 (pn k) (by omega)).2 ⟨_, yIx_lt (by omega) hw, hh, by rw [yI_iff (by omega) hw (fun h => hne h.symm)]; exact Or.inl rfl⟩
      rw [h6 k hk0 hk] at this; cases this
  · intro k hk; exact (h5 k hk).1.2.2

-- the part grows by a way
theorem yGH_join (hG : yGH n bk inH nH) {e0 L : Nat} {pn : Nat → Nat} (hP : yPth n bk inH nH e0 L pn) {inH' : Nat → Int32} {nH' : Int32}
    (h1 : ∀ v w, w < 32 → (yM (inH' v) w = true ↔ (yM (inH v) w = true ∨ yWe (L-1) L pn v w))) (h2 : ∀ w, w < 32 → (yM nH' w = true ↔ (yM nH w = true ∨ yWo (L-1) L pn w))) :
    yGH n bk inH' nH' ∧ (∀ e, e < 1024 → yGr (yGm n inH') e = (yGr (yGm n inH) e || yPp L pn e)) ∧
    yNb 1024 (yGr (yGm n inH')) = yNb 1024 (yGr (yGm n inH)) + (L-1) ∧ yNb 32 (yM nH') = yNb 32 (yM nH) + (L-2) := by
  obtain ⟨hL2, hL, h3, h4, h5, h6, h7, h8⟩ := hP
  have hn := hG.1
  have hmod : ∀ k, k < L-1 → (k+1) % L = k+1 := fun k hk => Nat.mod_eq_of_lt (by omega)
  have hwe : ∀ v w, yWe (L-1) L pn v w ↔ ∃ k, k + 1 < L ∧ ((v = pn k ∧ w = pn (k+1)) ∨ (w = pn k ∧ v = pn (k+1))) := by
    intro v w
    constructor
    · rintro ⟨k, hk, h⟩; rw [hmod k hk] at h; exact ⟨k, by omega, h⟩
    · rintro ⟨k, hk, h⟩; exact ⟨k, by omega, by rw [hmod k (by omega)]; exact h⟩
  have hwo : ∀ w, yWo (L-1) L pn w ↔ ∃ k, k < L ∧ w = pn k := by
    intro w
    constructor
    · rintro ⟨k, hk, h⟩
      rw [hmod k hk] at h
      rcases h with c | c
      · exact ⟨k, by omega, c⟩
      · exact ⟨k+1, by omega, c⟩
    · rintro ⟨k, hk, h⟩
      by_cases c : k < L-1
      · exact ⟨k, c, Or.inl h⟩
      · exact ⟨L-2, by omega, Or.inr (by rw [hmod _ (by omega), h]; congr 1; omega)⟩
  have hgm : ∀ v w, yGm n inH' v w = true ↔ (yGm n inH v w = true ∨ ∃ k, k + 1 < L ∧ ((v = pn k ∧ w = pn (k+1)) ∨ (w = pn k ∧ v = pn (k+1)))) := by
    intro v w
    by_cases hw : w < 32
    · unfold yGm
      rw [Bool.and_eq_true, Bool.and_eq_true, decide_eq_true_iff, h1 v w hw, hwe]
      constructor
      · rintro ⟨a, b | b⟩
        · exact Or.inl ⟨a, b⟩
        · exact Or.inr b
      · rintro (⟨a, b⟩ | ⟨k, hk, b⟩)
        · exact ⟨a, Or.inl b⟩
        · refine ⟨?_, Or.inr ⟨k, hk, b⟩⟩
          rcases b with c | c
          · rw [c.1]; exact h3 k (by omega)
          · rw [c.2]; exact h3 _ hk
    · unfold yGm
      rw [yM_big _ _ (by omega), yM_big _ _ (by omega), Bool.and_false]
      constructor
      · intro h; cases h
      · rintro (h | ⟨k, hk, b⟩)
        · cases h
        · exfalso
          rcases b with c | c
          · have := h3 _ hk; omega
          · have := h3 k (by omega); omega
  have hpne : ∀ k, k + 1 < L → pn k ≠ pn (k+1) := fun k hk he => by have := h4 _ _ (by omega) (by omega) he; omega
  have hHe : ∀ e, e < 1024 → yGr (yGm n inH') e = (yGr (yGm n inH) e || yPp L pn e) := by
    intro e he
    rw [Bool.eq_iff_iff, Bool.or_eq_true]
    unfold yGr
    rw [Bool.and_eq_true, Bool.and_eq_true, decide_eq_true_iff, hgm]
    constructor
    · rintro ⟨a, b | ⟨k, hk, b⟩⟩
      · exact Or.inl ⟨a, b⟩
      · right
        refine yD_pos ⟨k, hk, ?_⟩
        rw [← yIx_de a]
        rcases b with ⟨c1, c2⟩ | ⟨c1, c2⟩
        · rw [c1, c2]
        · rw [c1, c2, yIx_comm]
    · rintro (⟨a, b⟩ | h)
      · exact ⟨a, Or.inl b⟩
      · obtain ⟨k, hk, hek⟩ := (yD_iff _).1 h
        have g1 := h3 k (by omega); have g2 := h3 _ hk
        rcases Nat.lt_or_ge (pn k) (pn (k+1)) with c | c
        · have := yIx_div (by omega : pn (k+1) < 32) c
          rw [hek, this.1, this.2]
          exact ⟨c, Or.inr ⟨k, hk, Or.inl ⟨rfl, rfl⟩⟩⟩
        · have c' : pn (k+1) < pn k := by have := hpne k hk; omega
          have := yIx_div (by omega : pn k < 32) c'
          rw [hek, yIx_comm, this.1, this.2]
          exact ⟨c', Or.inr ⟨k, hk, Or.inr ⟨rfl, rfl⟩⟩⟩
  refine ⟨⟨hn, hG.2.1, hG.2.2.1, ?_, ?_, ?_⟩, hHe, ?_, ?_⟩
  · intro v hv
    rw [h2 v hv, hwo, hG.2.2.2.1 v hv]
    constructor
    · rintro (⟨e, he, hH, hI⟩ | ⟨k, hk, hvk⟩)
      · exact ⟨e, he, by rw [hHe e he, hH]; rfl, hI⟩
      · have hle : ∀ j, j + 1 < L → (v = pn j ∨ v = pn (j+1)) → yOn 1024 yI (yGr (yGm n inH')) v := by
          intro j hj hvj
          have g1 := h3 j (by omega); have g2 := h3 _ hj
          have hlt : yIx (pn j) (pn (j+1)) < 1024 := yIx_lt (by omega) (by omega)
          refine ⟨_, hlt, ?_, (yI_iff (by omega) (by omega) (hpne j hj) v).2 hvj⟩
          rw [hHe _ hlt, show yPp L pn (yIx (pn j) (pn (j+1))) = true from yD_pos ⟨j, hj, rfl⟩]; simp
        by_cases c : k + 1 < L
        · exact hle k c (Or.inl hvk)
        · exact hle (k-1) (by omega) (Or.inr (by rw [hvk]; congr 1; omega))
    · rintro ⟨e, he, hH, hI⟩
      rw [hHe e he, Bool.or_eq_true] at hH
      rcases hH with c | c
      · exact Or.inl ⟨e, he, c, hI⟩
      · obtain ⟨k, hk, hek⟩ := (yD_iff _).1 c
        have g1 := h3 k (by omega); have g2 := h3 _ hk
        rw [hek, yI_iff (by omega) (by omega) (hpne k hk)] at hI
        rcases hI with c1 | c1
        · exact Or.inr ⟨k, by omega, c1⟩
        · exact Or.inr ⟨k+1, by omega, c1⟩
  · intro v w
    rw [Bool.eq_iff_iff, hgm, hgm, hG.2.2.2.2.1 v w]
    constructor
    · rintro (h | ⟨k, hk, h⟩)
      · exact Or.inl h
      · exact Or.inr ⟨k, hk, by rcases h with c | c; exact Or.inr c; exact Or.inl c⟩
    · rintro (h | ⟨k, hk, h⟩)
      · exact Or.inl h
      · exact Or.inr ⟨k, hk, by rcases h with c | c; exact Or.inr c; exact Or.inl c⟩
  · intro v w h
    rcases (hgm v w).1 h with c | ⟨k, hk, c⟩
    · exact hG.2.2.2.2.2 v w c
    · have hF := (h5 k hk).1
      have g1 := h3 k (by omega); have g2 := h3 _ hk
      have hkk : yGm n bk (pn k) (pn (k+1)) = true := by
        have h9 := hF.2.1
        unfold yGr at h9
        rw [Bool.and_eq_true] at h9
        rcases Nat.lt_or_ge (pn k) (pn (k+1)) with c | c
        · have := yIx_div (by omega : pn (k+1) < 32) c
          rw [this.1, this.2] at h9; exact h9.2
        · have := yIx_div (by omega : pn k < 32) (by have := hpne k hk; omega : pn (k+1) < pn k)
          rw [yIx_comm, this.1, this.2, hG.2.2.1] at h9; exact h9.2
      rcases c with ⟨c1, c2⟩ | ⟨c1, c2⟩
      · rw [c1, c2]; exact hkk
      · rw [c1, c2, hG.2.2.1]; exact hkk
  · rw [yNb_congr 1024 _ _ hHe]
    have := yNb_img 1024 (yGr (yGm n inH)) (L-1) (fun k => yIx (pn k) (pn (k+1))) (fun k hk => ⟨(h5 k (by omega)).1.1, (h5 k (by omega)).1.2.2⟩) (by
      intro i j hi hj he
      have := h3 i (by omega); have := h3 (i+1) (by omega); have := h3 j (by omega); have := h3 (j+1) (by omega)
      rcases yIx_inj (by omega) (by omega) (by omega) (by omega) he with ⟨a, b⟩ | ⟨a, b⟩
      · exact h4 _ _ (by omega) (by omega) a
      · have a1 := h4 _ _ (by omega) (by omega) a
        have a2 := h4 _ _ (by omega) (by omega) b
        omega)
    rw [← this]
    apply yNb_congr
    intro e _
    congr 1
    unfold yPp
    rw [Bool.eq_iff_iff, yD_iff, yD_iff]
    exact ⟨fun ⟨k, hk, h⟩ => ⟨k, by omega, h⟩, fun ⟨k, hk, h⟩ => ⟨k, by omega, h⟩⟩
  · have := yNb_img 32 (yM nH) (L-2) (fun k => pn (k+1)) (fun k hk => ⟨by have := h3 (k+1) (by omega); omega, h6 (k+1) (by omega) (by omega)⟩) (by
      intro i j hi hj he
      have := h4 _ _ (by omega) (by omega) he; omega)
    rw [← this]
    apply yNb_congr
    intro w hw
    rw [Bool.eq_iff_iff, h2 w hw, hwo, Bool.or_eq_true, yD_iff]
    constructor
    · rintro (h | ⟨k, hk, h⟩)
      · exact Or.inl h
      · by_cases c0 : k = 0
        · left; rw [h, c0]; exact h7
        · by_cases c1 : k = L-1
          · left; rw [h, c1]; exact h8
          · right; exact ⟨k-1, by omega, by rw [h]; congr 1; omega⟩
    · rintro (h | ⟨k, hk, h⟩)
      · exact Or.inl h
      · exact Or.inr ⟨k+1, by omega, h⟩
end

def yPl (n : Nat) (bk : Nat → Int32) : Prop := ∃ lab : Bool → Nat → Nat, yDs 1024 yI (yGr (yGm n bk)) (fun _ => false) (lab false) (lab true)

-- what holds while a class of edges is laid
def yEmI (n : Nat) (bk inH : Nat → Int32) (nH : Int32) (fa fs fb : Nat → Int32) (F : Nat) : Prop :=
  ∃ (sz : Nat → Nat) (fc fo : Nat → Nat → Nat), yFs n F (yGr (yGm n inH)) sz fc fo ∧ yFA F sz fc fa fs fb ∧ yGH n bk inH nH ∧
    yDs 1024 yI (yGr (yGm n inH)) (fun _ => false) (yS1 fo) (yT1 fo) ∧
    (yPl n bk → ∃ as, yDem 1024 yI (yGr (yGm n bk)) (yGr (yGm n inH)) (yS1 fo) (yT1 fo) as) ∧
    1 ≤ F ∧ F + yNb 32 (yM nH) = yNb 1024 (yGr (yGm n inH)) + 2 ∧ 3 ≤ yNb 32 (yM nH)

theorem yGH_sub {n : Nat} {bk inH : Nat → Int32} {nH : Int32} (hG : yGH n bk inH nH) (e : Nat) (h : yGr (yGm n inH) e = true) : yGr (yGm n bk) e = true := by
  unfold yGr at h ⊢
  rw [Bool.and_eq_true] at h ⊢
  exact ⟨h.1, hG.2.2.2.2.2 _ _ h.2⟩

theorem yEmI_F {n : Nat} {bk inH : Nat → Int32} {nH : Int32} {fa fs fb : Nat → Int32} {F : Nat} (h : yEmI n bk inH nH fa fs fb F) (hE : yNb 1024 (yGr (yGm n bk)) ≤ 57) : F ≤ 56 := by
  obtain ⟨sz, fc, fo, hS, hA, hG, hD, hP, h1, h2, h3⟩ := h
  have := yNb_sub 1024 _ _ (fun e _ he => yGH_sub hG e he)
  omega

-- the labels of equal parts
theorem yFs_congr {n F : Nat} {H H' : Nat → Bool} {sz : Nat → Nat} {fc fo : Nat → Nat → Nat} (hn : n ≤ 21) (h : yFs n F H sz fc fo) (hH : ∀ e, e < 1024 → H e = H' e) : yFs n F H' sz fc fo := by
  obtain ⟨h1, h2, h3, h4⟩ := h
  refine ⟨h1, ?_, ?_, fun e he hh => h4 e he (by rw [hH e he]; exact hh)⟩
  · intro f k hf hk
    obtain ⟨a, b⟩ := h2 f k hf hk
    have h5 := h1 f hf
    have g1 := h5.2.1 k hk
    have g2 := h5.2.1 _ (Nat.mod_lt (k+1) (by omega))
    rw [hH _ (yIx_lt (by omega) (by omega))] at a
    exact ⟨a, b⟩
  · intro a b ha hb hab hh
    exact h3 a b ha hb hab (by rw [hH _ (yIx_lt ha hb)]; exact hh)

theorem yDem_congr {m : Nat} {I : Nat → Nat → Bool} {G H H' : Nat → Bool} {s t as : Nat → Nat} (h : yDem m I G H s t as) (hH : ∀ e, e < m → H e = H' e) : yDem m I G H' s t as := by
  obtain ⟨h1, h2, h3, h4, h5, h6, h7, h8, h9, h10⟩ := h
  have hz : ∀ f e, e < m → yZ H s t f e = yZ H' s t f e := fun f e he => by unfold yZ; rw [hH e he]
  have hx : ∀ f e, e < m → yXf G H as f e = yXf G H' as f e := fun f e he => by unfold yXf; rw [hH e he]
  have hu : ∀ f, yUsed m H' s t f → yUsed m H s t f := by
    rintro f ⟨e, he, h⟩; exact ⟨e, he, by rw [hz f e he]; exact h⟩
  have ho : ∀ v, yOn m I H' v → yOn m I H v := fun v h => yOn_congr h (fun e he => (hH e he).symm)
  have hf : ∀ e, e < m → H' e = false → H e = false := fun e he h => by rw [hH e he]; exact h
  refine ⟨fun e he hh => h1 e he (by rw [hH e he]; exact hh), yDs_congr h2 _ hH, fun e he hh => h3 e he (by rw [hH e he]; exact hh), ?_, ?_, ?_, ?_, ?_, ?_, h10⟩
  · intro v a b ha hb hab hXa hXb hIa hIb
    obtain ⟨w, hw, k1, k2, k3, k4⟩ := h4 v a b ha hb hab (by rw [hH a ha]; exact hXa) (by rw [hH b hb]; exact hXb) hIa hIb
    exact ⟨w, fun e he hh => by rw [← hH e he]; exact hw e he hh, k1, k2, k3, k4⟩
  · intro f hf'; exact yCi_congr (h5 f (hu f hf')) (hz f)
  · intro f hf'
    obtain ⟨L, s0, t0, hd⟩ := h6 f (hu f hf')
    exact ⟨L, s0, t0, yDs_congr2 hd _ _ (fun e he => by rw [hz f e he, hx f e he]) (hz f)⟩
  · intro e he hg hh
    obtain ⟨e', he', h11⟩ := h7 e he hg (hf e he hh)
    exact ⟨e', he', by rw [← hz _ e' he']; exact h11⟩
  · intro e v he hg hh hI hv
    exact yOn_congr (h8 e v he hg (hf e he hh) hI (ho v hv)) (hz _)
  · intro e e' v he he' hg hh hg' hh' hI hI' hv
    exact h9 e e' v he he' hg (hf e he hh) hg' (hf e' he' hh') hI hI' (fun h => hv (yOn_congr h hH))

theorem w9_splitJoin {n F L f e0 bf : Nat} {bk inH fa fs fb pt old : Nat → Int32} {nH be : Int32} {pn : Nat → Nat} (hI : yEmI n bk inH nH fa fs fb F)
    (hE : yNb 1024 (yGr (yGm n bk)) ≤ 57) (hP : yPth n bk inH nH e0 L pn) (hpt : ∀ k, k < L → pt k = Int32.ofNat (pn k))
    (hmin : ∀ e en, yFr n bk inH e → yEb n bk inH nH e en → bf ≤ yCnt F fb en) (he0 : yFr n bk inH e0) (hen : yEb n bk inH nH e0 be) (hbf : bf = yCnt F fb be)
    (hf : f < F) (hfa : yAd (fb f) be = true)
    (K : (Int32 × (Nat → Int32) × (Nat → Int32) × (Nat → Int32) × (Nat → Int32)) → (Int32 × (Nat → Int32)) → Prop)
    (hK : ∀ fs' old' fb' fa' nH' inH', yEmI n bk inH' nH' fa' fs' fb' (F+1) → yNb 1024 (yGr (yGm n inH)) < yNb 1024 (yGr (yGm n inH')) → K (Int32.ofNat (F+1), fs', old', fb', fa') (nH', inH'))
    (i0 i1 i2 i3 i4 i8 i9 i10 i11 i12 i13 i14 i15 i16 i17 : Int32) :
    wX9_split i0 i1 i2 i3 i4 nH (Int32.ofNat F) (Int32.ofNat L) i8 i9 i10 i11 i12 i13 i14 i15 i16 i17 fs pt old fb fa (Int32.ofNat f)
      (fun u => wX9_joinPath i0 i1 i2 i3 i4 nH u.1 (Int32.ofNat L) i8 i9 i10 i11 i12 i13 i14 i15 i16 i17 pt inH 0 (fun w => K u w)) := by
  have hF56 := yEmI_F hI hE
  obtain ⟨sz, fc, fo, hS, hA, hG, hD, hPl, h1, h2, h3⟩ := hI
  have hn := hG.1
  have hP' := hP
  obtain ⟨hL2, hL, k3, k4, k5, k6, k7, k8⟩ := hP
  -- the two ends lie on the face
  have hend : ∀ k, k + 1 < L → ∀ v, (v = pn k ∨ v = pn (k+1)) → yM nH v = true → ∃ p, p < sz f ∧ v = fc f p := by
    intro k hk v hv hvn
    have g1 := k3 k (by omega); have g2 := k3 _ hk
    have hv32 : v < 32 := by rcases hv with c | c <;> omega
    have hI : yI (yIx (pn k) (pn (k+1))) v = true := by
      rw [yI_iff (by omega) (by omega) (fun h => by have := k4 _ _ (by omega) (by omega) h; omega)]; exact hv
    have := (hen v hv32).2 ⟨hvn, _, (k5 k hk).1, (k5 k hk).2, hI⟩
    exact ((hA f hf).2.2 v hv32).1 ((yAd_iff _ _).1 hfa v hv32 this)
  obtain ⟨p, hp, hcp⟩ := hend 0 (by omega) (pn 0) (Or.inl rfl) k7
  obtain ⟨q, hq, hcq⟩ := hend (L-2) (by omega) (pn (L-1)) (Or.inr (by congr 1; omega)) k8
  have hR := yPth_rd hG hS hP' hf hp hq hcp hcq
  have hpq : p ≠ q := by
    intro h; rw [h, ← hcq] at hcp
    have := k4 _ _ (by omega) (by omega) hcp; omega
  have hd := ymod_d hp hq hpq
  have hS' := yFs_split hn hS hf hR
  have hFf : F ≠ f := by omega
  have s1 := hS'.1 f (by omega)
  have s2 := hS'.1 F (by omega)
  simp only [if_true, if_neg hFf] at s1 s2
  have l1 := yPig _ _ _ s1.2.1 s1.2.2
  have l2 := yPig _ _ _ s2.2.1 s2.2.2
  rw [← hd.2.2] at l2
  have hsf := hS.1 f hf
  have lf := yPig _ _ _ hsf.2.1 hsf.2.2
  refine w9_split (c := fc f) (pn := pn) (by omega) hp hq hL2 (by omega) (fun k hk => by have := hsf.2.1 k hk; omega) hsf.2.2 (fun k hk => by have := k3 k hk; omega) hpt (by omega) hf
    fa fs fb old (hA f hf).2.1 (hA f hf).1 hcp hcq (by omega) (by omega) _ i0 i1 i2 i3 i4 nH i8 i9 i10 i11 i12 i13 i14 i15 i16 i17 ?_
  intro old' fa1 fs1 fb1 fa2 fs2 fb2 hY1 hY2
  have h0 : (0 : Int32) = Int32.ofNat 0 := rfl
  rw [h0]
  refine w9_joinPath hL2 (by omega) pn pt hpt (fun k hk => by have := k3 k hk; omega) inH nH 0 (L-1) (Or.inl ⟨rfl, by omega⟩) _ ?_ i0 i1 i2 i3 i4 _ i8 i9 i10 i11 i12 i13 i14 i15 i16 i17
  intro inH' nH' j1 j2
  obtain ⟨hG', hH', hcE, hcV⟩ := yGH_join hG hP' j1 j2
  refine hK fs2 old' fb2 fa2 nH' inH' ?_ (by omega)
  refine ⟨_, _, _, yFs_congr hn hS' (fun e he => (hH' e he).symm), ?_, hG', yDs_congr (yDs_split hn hS hf hR hD) _ (fun e he => (hH' e he).symm), ?_, by omega, by omega, by omega⟩
  · -- the arrays
    intro g hg
    by_cases c1 : g = F
    · rw [c1]
      simp only [if_neg hFf, if_true]
      have hfun : (fun k => fc f ((p + ((q + sz f - p) % sz f + k)) % sz f)) = (fun k => fc f ((q + k) % sz f)) := by
        funext k
        rw [← Nat.add_assoc, ← Nat.mod_add_mod, ymod_ab hp hq]
      rw [hfun, ← hd.2.2]
      exact ⟨hY2.2.2.1 (by omega), hY2.1, hY2.2.2.2.2.1⟩
    · by_cases c2 : g = f
      · rw [c2]
        simp only [if_true]
        refine ⟨?_, ?_, ?_⟩
        · rw [hY2.2.2.2.1 f (by omega)]; exact hY1.2.2.1 (by omega)
        · intro k hk; rw [hY2.2.1 f k (by omega) (by omega)]; exact hY1.1 k hk
        · intro w hw; rw [hY2.2.2.2.2.2 f (by omega), yupd_ne _ _ _ _ (by omega)]; exact hY1.2.2.2.2.1 w hw
      · simp only [if_neg c1, if_neg c2]
        have hgF : g < F := by omega
        obtain ⟨a1, a2, a3⟩ := hA g hgF
        have hsg := hS.1 g hgF
        have lg := yPig _ _ _ hsg.2.1 hsg.2.2
        refine ⟨?_, ?_, ?_⟩
        · rw [hY2.2.2.2.1 g c1, hY1.2.2.2.1 g c2]; exact a1
        · intro k hk; rw [hY2.2.1 g k c1 (by omega), hY1.2.1 g k c2 (by omega)]; exact a2 k hk
        · intro w hw; rw [hY2.2.2.2.2.2 g c1, yupd_ne _ _ _ _ c1, hY1.2.2.2.2.2 g c2, yupd_ne _ _ _ _ c2]; exact a3 w hw
  · intro hpl
    obtain ⟨as, hDem⟩ := hPl hpl
    obtain ⟨as1, hD1, has1⟩ := yDem_pick hG hS hA hDem hmin he0 hen hbf f hf hfa (by
      have hodd := yP_odd hn hL2 k3 k4
      refine ⟨yPp L pn, pn 0, hodd.1, fun v hv => ?_⟩
      have hex : ∀ k, k + 1 < L → (v = pn k ∨ v = pn (k+1)) → yM nH v = true → yOn 1024 yI (yGr (yGm n inH)) v ∧ ∃ e', yFr n bk inH e' ∧ yPk n bk nH e' = yPk n bk nH e0 ∧ yI e' v = true := by
        intro k hk hvk hvn
        have g1 := k3 k (by omega); have g2 := k3 _ hk
        have hv32 : v < 32 := by rcases hvk with c | c <;> omega
        exact ⟨(hG.2.2.2.1 v hv32).1 hvn, _, (k5 k hk).1, (k5 k hk).2, by
          rw [yI_iff (by omega) (by omega) (fun h => by have := k4 _ _ (by omega) (by omega) h; omega)]; exact hvk⟩
      rcases hodd.2 v hv with c | c
      · exact hex 0 (by omega) (Or.inl c) (by rw [c]; exact k7)
      · exact hex (L-2) (by omega) (Or.inr (by rw [c, show L-2+1 = L-1 by omega])) (by rw [c]; exact k8))
    obtain ⟨as2, hD2⟩ := yDem_split hn hS hf hR hD1 (fun e _ hp => by
      obtain ⟨k, hk, hek⟩ := (yD_iff _).1 hp
      rw [hek]
      exact ⟨(k5 k hk).1.2.1, has1 _ (k5 k hk).1 (k5 k hk).2⟩)
    exact ⟨as2, yDem_congr hD2 (fun e he => (hH' e he).symm)⟩

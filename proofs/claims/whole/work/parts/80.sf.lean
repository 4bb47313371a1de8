
theorem w_lowest0 (K : Int32 → Unit → Prop) (h : K (Int32.ofNat 32) ()) : wX8_lowest 0 K := by
  unfold wX8_lowest
  apply w_bitCount
  have : yNb 32 (yM (((0 : Int32) ^^^ (-1)) &&& ((0 : Int32) - 1))) = 32 := by decide +kernel
  rw [this]; exact h

theorem yM_above (w x : Nat) (hw : w < 20) (hx : x < 32) : yM (-((2 : Int32) <<< (Int32.ofNat w &&& 31))) x = decide (w < x) := by
  have h : ∀ w : Fin 20, ∀ x : Fin 32, yM (-((2 : Int32) <<< (Int32.ofNat w.1 &&& 31))) x.1 = decide (w.1 < x.1) := by decide +kernel
  exact h ⟨w, hw⟩ ⟨x, hx⟩

-- the next neighbour by rising numbers
def yNxt (g : Nat → Nat → Bool) (v w y : Nat) : Prop := g v y = true ∧ ((w < y ∧ ∀ i, w < i → i < y → g v i = false) ∨ ((∀ i, w < i → g v i = false) ∧ ∀ i, i < y → g v i = false))

theorem w_layRising {n : Nat} (hn : n ≤ 20) (fl : Nat → Int32) (f2 : Nat → Int32) (K : (Nat → Int32) → Prop)
    (hK : ∀ o, (∀ v w, v < n → w < n → ∀ y, yNxt (yGm n fl) v w y → o (20*v+w) = Int32.ofNat y) → K o) : wX6_layRising (Int32.ofNat n) fl f2 K := by
  have h0eq : (0 : Int32) = Int32.ofNat 0 := rfl
  have hgm : ∀ p q, p < n → yGm n fl p q = yM (fl p) q := fun p q hp => by unfold yGm; rw [decide_eq_true hp, Bool.true_and]
  have h25 : ∀ (v : Nat) (_ : v < n) (v22 : Int32) (_ : v22 = fl v) (B : (Nat → Int32) → Int32 → Prop) (o0 : Nat → Int32) (_ : ∀ o, (∀ w, w < n → ∀ y, yNxt (yGm n fl) v w y → o (20*v+w) = Int32.ofNat y) → (∀ u w, u < v → w < 20 → o (20*u+w) = o0 (20*u+w)) → B o (Int32.ofNat (v+1))),
      ∀ d w o, n - w = d → w ≤ n → (∀ w', w' < w → ∀ y, yNxt (yGm n fl) v w' y → o (20*v+w') = Int32.ofNat y) → (∀ u w, u < v → w < 20 → o (20*u+w) = o0 (20*u+w)) → wLX6_layRising_25 (Int32.ofNat n) (Int32.ofNat v) v22 K B (d+1) o (Int32.ofNat w) := by
    intro v hv v22 h22 B o0 hB d
    have ev : Int32.ofNat v + 1 = Int32.ofNat (v+1) := yn_add v 1
    induction d with
    | zero =>
      intro w o hd hw h1 h2
      unfold wLX6_layRising_25
      rw [ev]
      refine ⟨fun _ => hB o (fun w' hw' => h1 w' (by omega)) h2, fun hh => ?_⟩
      exfalso; apply hh; rw [yn_le (by omega) (by omega)]; omega
    | succ d ih =>
      intro w o hd hw h1 h2
      have ew : Int32.ofNat w + 1 = Int32.ofNat (w+1) := yn_add w 1
      have next : ∀ (x : Int32), (∀ y, yNxt (yGm n fl) v w y → x = Int32.ofNat y) → ∀ o', o' = upd o (20*v+w) x → wLX6_layRising_25 (Int32.ofNat n) (Int32.ofNat v) v22 K B (d+1) o' (Int32.ofNat (w+1)) := by
        intro x hx o' ho'
        refine ih (w+1) o' (by omega) (by omega) ?_ ?_
        · intro w' hw' y hy
          rw [ho']
          by_cases q : w' = w
          · rw [q] at hy ⊢; rw [yupd_same]; exact hx y hy
          · rw [yupd_ne _ _ _ _ (by omega)]; exact h1 w' (by omega) y hy
        · intro u w' hu hw'
          rw [ho', yupd_ne _ _ _ _ (by omega)]; exact h2 u w' hu hw'
      unfold wLX6_layRising_25
      rw [ew, yn_m20, yn_nat (by omega)]
      refine ⟨fun hh => ?_, fun _ v42 h42 => ?_⟩
      · exfalso; rw [yn_le (by omega) (by omega)] at hh; omega
      have b42 : ∀ x, x < 32 → yM v42 x = (yGm n fl v x && decide (w < x)) := by
        intro x hx; rw [h42, yM_and, yM_above w x (by omega) hx, h22, hgm v x hv]
      refine ⟨fun hz => ?_, fun hnz => ?_⟩
      · -- none above
        have hnone : ∀ i, i < 32 → w < i → yGm n fl v i = false := by
          intro i hi hwi
          have := (yM_eq0.1 hz) i hi
          rw [b42 i hi, decide_eq_true hwi, Bool.and_true] at this; exact this
        by_cases hall : v22 = 0
        · rw [show wX8_lowest v22 = wX8_lowest 0 by rw [hall]]
          apply w_lowest0
          refine ⟨yn_in (by omega) (by omega), fun o' ho' => next _ ?_ o' ho'⟩
          intro y hy
          exfalso
          have hg := hy.1
          rw [hgm v y hv, ← h22, hall, yM_zero] at hg; cases hg
        · obtain ⟨k, hk, hkb, hkl⟩ := yM_least hall
          refine w_lowest hk hkb hkl _ ?_
          refine ⟨yn_in (by omega) (by omega), fun o' ho' => next _ ?_ o' ho'⟩
          intro y hy
          have hg := hy.1
          rw [hgm v y hv] at hg
          have hy32 : y < 32 := by
            rcases Nat.lt_or_ge y 32 with q | q
            · exact q
            · rw [yM_big _ _ q] at hg; cases hg
          rcases hy.2 with ⟨q1, _⟩ | ⟨_, q2⟩
          · have := hnone y hy32 q1
            rw [hy.1] at this; cases this
          · have : k = y := by
              rcases Nat.lt_trichotomy k y with q | q | q
              · have := q2 k q
                rw [hgm v k hv, ← h22, hkb] at this; cases this
              · exact q
              · have := hkl y q
                rw [h22, hg] at this; cases this
            rw [this]
      · obtain ⟨k, hk, hkb, hkl⟩ := yM_least hnz
        refine w_lowest hk hkb hkl _ ?_
        rw [b42 k hk, Bool.and_eq_true, decide_eq_true_iff] at hkb
        refine ⟨yn_in (by omega) (by omega), fun o' ho' => next _ ?_ o' ho'⟩
        intro y hy
        rcases hy.2 with ⟨q1, q2⟩ | ⟨q1, _⟩
        · have hg := hy.1
          have hy32 : y < 32 := by
            rcases Nat.lt_or_ge y 32 with q | q
            · exact q
            · rw [hgm v y hv, yM_big _ _ q] at hg; cases hg
          have : k = y := by
            rcases Nat.lt_trichotomy k y with q | q | q
            · have := q2 k hkb.2 q
              rw [hkb.1] at this; cases this
            · exact q
            · have := hkl y q
              rw [b42 y hy32, hg, decide_eq_true q1] at this; cases this
          rw [this]
        · have := q1 k hkb.2
          rw [hkb.1] at this; cases this
  have h2 : ∀ d v o, n - v = d → v ≤ n → (∀ u w, u < v → w < n → ∀ y, yNxt (yGm n fl) u w y → o (20*u+w) = Int32.ofNat y) → wLX6_layRising_2 (Int32.ofNat n) fl K (d+1) o (Int32.ofNat v) := by
    intro d
    induction d with
    | zero =>
      intro v o hd hv h1
      unfold wLX6_layRising_2
      refine ⟨fun _ => hK o (fun u w hu hw y hy => h1 u w (by omega) hw y hy), fun hh => ?_⟩
      exfalso; apply hh; rw [yn_le (by omega) (by omega)]; omega
    | succ d ih =>
      intro v o hd hv h1
      unfold wLX6_layRising_2
      rw [yn_nat (by omega)]
      refine ⟨fun hh => ?_, fun _ => ⟨yn_in (by omega) (by omega), fun v22 h22 => ?_⟩⟩
      · exfalso; rw [yn_le (by omega) (by omega)] at hh; omega
      · rw [h0eq]
        refine ⟨_, h25 v (by omega) v22 h22 _ o ?_ (n-0) 0 o rfl (by omega) (fun w' hw' => by omega) (fun _ _ _ _ => rfl)⟩
        intro o' q1 q2
        refine ih (v+1) o' (by omega) (by omega) ?_
        intro u w hu hw y hy
        by_cases q : u = v
        · rw [q] at hy ⊢; exact q1 w hw y hy
        · rw [q2 u w (by omega) (by omega)]; exact h1 u w (by omega) hw y hy
  unfold wX6_layRising
  rw [h0eq]
  exact ⟨_, h2 (n-0) 0 f2 rfl (by omega) (fun u w hu => by omega)⟩

-- fewer than three nodes: no faces
theorem w_findFaces2 {n : Nat} (hn : n ≤ 2) (fl f0 : Nat → Int32) (K : (Nat → Int32) → Prop) (hK : ∀ th, K th) : wX6_findFaces f0 (Int32.ofNat n) fl K := by
  have h0eq : (0 : Int32) = Int32.ofNat 0 := rfl
  have h33 : ∀ (a : Nat) (_ : a < n) (B : (Nat → Int32) → Int32 → Prop) (_ : ∀ th, B th (Int32.ofNat (a+1))), ∀ d b th, n - b = d → b ≤ n → a < b → wLX6_findFaces_33 (Int32.ofNat n) fl (Int32.ofNat a) K B (d+1) th (Int32.ofNat b) := by
    intro a ha B hB d
    have ea : Int32.ofNat a + 1 = Int32.ofNat (a+1) := yn_add a 1
    induction d with
    | zero =>
      intro b th hd hb hab
      unfold wLX6_findFaces_33
      rw [ea]
      refine ⟨fun _ => hB th, fun hh => ?_⟩
      exfalso; apply hh; rw [yn_le (by omega) (by omega)]; omega
    | succ d ih =>
      intro b th hd hb hab
      have eb : Int32.ofNat b + 1 = Int32.ofNat (b+1) := yn_add b 1
      unfold wLX6_findFaces_33
      rw [eb, yn_nat (by omega), yn_nat (by omega)]
      refine ⟨fun hh => ?_, fun _ => ⟨yn_in (by omega) (by omega), ?_⟩⟩
      · exfalso; rw [yn_le (by omega) (by omega)] at hh; omega
      · refine w_hasBit (by omega) _ (fun hbit => ⟨fun hh => absurd hh (by decide), fun _ => ⟨yn_in (by omega) (by omega), yn_in (by omega) (by omega), fun v65 h65 v70 h70 => ?_⟩⟩) (fun hbit => ⟨fun _ v70 h70 => ?_, fun hh => absurd rfl hh⟩)
        · rw [h70]
          refine ⟨1, ?_⟩
          unfold wLX6_findFaces_72_1
          rw [eb]
          refine ⟨fun _ => ih (b+1) th (by omega) (by omega) (by omega), fun hh => ?_⟩
          exfalso; apply hh; rw [yn_le (by omega) (by omega)]; omega
        · rw [h70]
          refine ⟨1, ?_⟩
          unfold wLX6_findFaces_72
          rw [eb]
          refine ⟨fun _ => ih (b+1) th (by omega) (by omega) (by omega), fun hh => ?_⟩
          exfalso; apply hh; rw [yn_le (by omega) (by omega)]; omega
  have h18 : ∀ d a th, n - a = d → a ≤ n → wLX6_findFaces_18 (Int32.ofNat n) fl K (d+1) th (Int32.ofNat a) := by
    intro d
    induction d with
    | zero =>
      intro a th hd ha
      unfold wLX6_findFaces_18
      refine ⟨fun _ => hK th, fun hh => ?_⟩
      exfalso; apply hh; rw [yn_le (by omega) (by omega)]; omega
    | succ d ih =>
      intro a th hd ha
      have e1 : Int32.ofNat a + 1 = Int32.ofNat (a+1) := yn_add a 1
      unfold wLX6_findFaces_18
      rw [e1]
      refine ⟨fun hh => ?_, fun _ v32 h32 => ?_⟩
      · exfalso; rw [yn_le (by omega) (by omega)] at hh; omega
      · rw [h32]
        exact ⟨_, h33 a (by omega) _ (fun th' => ih (a+1) th' (by omega) (by omega)) (n-(a+1)) (a+1) th rfl (by omega) (by omega)⟩
  unfold wX6_findFaces
  refine w_fill400 0 f0 _ ?_
  intro f hf
  rw [h0eq]
  exact ⟨_, h18 (n-0) 0 f rfl (by omega)⟩


section
variable {n F F' : Nat} {g : Nat → Nat → Bool} {fo ρ fo' ρ' : Nat → Nat → Nat}

theorem yTg_thirds (h : yTg n g F fo ρ) (h' : yTg n g F' fo' ρ') (h4 : 4 ≤ n) {a b c : Nat} (hab : g a b = true) (hc : c = ρ a b ∨ c = ρ b a) : c = ρ' a b ∨ c = ρ' b a := by
  have hgs := h.2.2.1.2
  have hba : g b a = true := by rw [hgs]; exact hab
  have t1 := yTg_th h hab; have t2 := yTg_th h hba
  have hbc : g b c = true ∧ g c a = true := by
    rcases hc with e | e
    · rw [e]; exact ⟨t1.2.1, t1.2.2.1⟩
    · rw [e]; exact ⟨by rw [hgs]; exact t2.2.2.1, by rw [hgs]; exact t2.2.1⟩
  have g1 := yTg_gr h hab; have g2 := yTg_gr h hbc.1; have g3 := yTg_gr h hbc.2
  have hex : ∃ z, z < n ∧ ¬ (z = a ∨ z = b ∨ z = c) := by
    by_cases d : ∃ z, z < n ∧ ¬ (z = a ∨ z = b ∨ z = c)
    · exact d
    · exfalso
      have := yPig 4 3 (fun z => if z = a then 0 else if z = b then 1 else 2) (fun i _ => by split <;> (try split) <;> omega) (by
        intro i j hi hj hij
        have i1 : i = a ∨ i = b ∨ i = c := by
          by_cases e : i = a ∨ i = b ∨ i = c
          · exact e
          · exact absurd ⟨i, by omega, e⟩ d
        have j1 : j = a ∨ j = b ∨ j = c := by
          by_cases e : j = a ∨ j = b ∨ j = c
          · exact e
          · exact absurd ⟨j, by omega, e⟩ d
        split at hij <;> split at hij <;> (try split at hij) <;> (try split at hij) <;> omega)
      omega
  obtain ⟨z, hz, hzn⟩ := hex
  exact (yTg_face h' hab hbc.1 hbc.2 hz hzn).1 ((yTg_face h hab hbc.1 hbc.2 hz hzn).2 hc)

-- ROUND is one
theorem yTg_uniq (h : yTg n g F fo ρ) (h' : yTg n g F' fo' ρ') (hw : yWay g ρ) (hw' : yWay g ρ') : ∀ v w, g v w = true → ρ v w = ρ' v w := by
  have hgs := h.2.2.1.2
  have hn3 := h.1
  rcases Nat.lt_or_ge n 4 with c4 | h4
  · intro v w hvw
    have t1 := yTg_th h hvw; have t2 := yTg_th h' hvw
    have g1 := yTg_gr h hvw; have g2 := yTg_gr h t1.2.1; have g3 := yTg_gr h t1.2.2.1
    have g4 := yTg_gr h t2.2.1; have g5 := yTg_gr h t2.2.2.1
    omega
  · -- one pair leads to the next
    have turn : ∀ v w, g v w = true → ρ v w = ρ' v w → ρ v (ρ v w) = ρ' v (ρ v w) := by
      intro v w hvw he
      have t1 := yTg_th h hvw
      have t2 := yTg_th h' hvw
      have hvx : g v (ρ v w) = true := by rw [hgs]; exact t1.2.2.1
      rcases yTg_thirds h h' h4 hvx (Or.inl rfl) with e | e
      · exact e
      · exfalso
        have e1 : ρ' (ρ v w) v = w := by rw [he]; exact t2.2.2.2.2.1
        rw [e1] at e
        exact yTg_two h h4 hvx (by rw [e, t1.2.2.2.2.1])
    have all : ∀ v w0, g v w0 = true → ρ v w0 = ρ' v w0 → ∀ w, g v w = true → ρ v w = ρ' v w := by
      intro v w0 h0 he
      exact yTg_orbit h (fun w => ρ v w = ρ' v w) h0 he (fun w hw he' => turn v w hw he')
    obtain ⟨m, hm, hmn⟩ := yTg_nb h (by omega : 0 < n)
    have hm0 : g m 0 = true := by rw [hgs]; exact hm.1
    have h0 : ρ 0 m = ρ' 0 m := by
      have a1 := hw m hm; have a2 := hw' m hm
      have b1 := yTg_thirds h h' h4 hm.1 (Or.inl rfl)
      have b2 := yTg_thirds h' h h4 hm.1 (Or.inl rfl)
      have b3 := yTg_thirds h h' h4 hm.1 (Or.inr rfl)
      omega
    have hU := yMax_con h.2.2.2.1 (fun v => yD (∀ w, g v w = true → ρ v w = ρ' v w)) (by
      intro e he hx
      have hge : g (e/32) (e%32) = true := by unfold yGr at hx; rw [Bool.and_eq_true] at hx; exact hx.2
      have st : ∀ p q, g p q = true → (∀ w, g p w = true → ρ p w = ρ' p w) → (∀ w, g q w = true → ρ q w = ρ' q w) := by
        intro p q hpq hp
        have t1 := yTg_th h hpq
        have t2 := yTg_th h' hpq
        have he := hp q hpq
        refine all q (ρ p q) t1.2.1 ?_
        rw [t1.2.2.2.1, he, t2.2.2.2.1]
      rw [Bool.eq_iff_iff, yD_iff, yD_iff]
      exact ⟨st _ _ hge, st _ _ (by rw [hgs]; exact hge)⟩)
    intro v w hvw
    have gv := yTg_gr h hvw
    have := hU 0 v (by omega) gv.2.2.2.1
    rw [yD_pos (all 0 m hm.1 h0)] at this
    exact (yD_iff _).1 this.symm w hvw

def yNorm (g : Nat → Nat → Bool) (ρ : Nat → Nat → Nat) (v w : Nat) : Nat := if g v w then ρ v w else 0

theorem yNorm_at {v w : Nat} (h : g v w = true) : yNorm g ρ v w = ρ v w := by unfold yNorm; rw [if_pos h]

theorem yTg_norm (h : yTg n g F fo ρ) : yTg n g F fo (yNorm g ρ) := by
  obtain ⟨h1, h2, h3, h4, h5, h6, h7, h8, h9⟩ := h
  refine ⟨h1, h2, h3, h4, h5, ?_, ?_, h8, h9⟩
  · intro a b hab
    obtain ⟨k1, k2, k3, k4, k5, k6, k7⟩ := h6 a b hab
    rw [yNorm_at hab, yNorm_at k2, yNorm_at k3]
    exact ⟨k1, k2, k3, k4, k5, k6, k7⟩
  · intro a b a' b' hab hab' he
    rw [yNorm_at hab]; exact h7 a b a' b' hab hab' he

theorem yWay_norm (h : yTg n g F fo ρ) (hw : yWay g ρ) : yWay g (yNorm g ρ) := by
  intro m hm
  rw [yNorm_at hm.1, yNorm_at (by rw [h.2.2.1.2]; exact hm.1)]
  exact hw m hm

theorem yNorm_rev (hs : ∀ v w, g v w = g w v) : yNorm g (fun x y => ρ y x) = fun x y => yNorm g ρ y x := by
  funext x y
  unfold yNorm
  rw [hs y x]

theorem yTa_norm {fa fb : Nat → Int32} (h : yTa g F fo ρ fa fb) : yTa g F fo (yNorm g ρ) fa fb := by
  intro f hf
  obtain ⟨a, b, h1, h2, h3, h4, h5, h6⟩ := h f hf
  refine ⟨a, b, h1, h2, h3, h4, ?_, ?_⟩
  · rw [yNorm_at h1]; exact h5
  · intro w hw; rw [yNorm_at h1]; exact h6 w hw
end

-- FILLED and ROUND as functions of the graph
noncomputable def yGf (n : Nat) (g : Nat → Nat → Bool) : Nat → Nat → Bool := Classical.epsilon (fun G => yFl n g G)
noncomputable def yNu (n : Nat) (G : Nat → Nat → Bool) : Nat → Nat → Nat :=
  if n < 3 then (fun _ w => w) else Classical.epsilon (fun ν => (∃ F fo, yTg n G F fo ν) ∧ yWay G ν ∧ ∀ v w, G v w = false → ν v w = 0)

theorem yGf_eq {n : Nat} (hn : n ≤ 32) {g G : Nat → Nat → Bool} (h : yFl n g G) : yGf n g = G := by
  have h1 : yFl n g (yGf n g) := Classical.epsilon_spec (p := fun G => yFl n g G) ⟨G, h⟩
  funext v w
  exact yFl_uniq hn h1 h v w

theorem yNu_eq {n F : Nat} {G : Nat → Nat → Bool} {fo ρ : Nat → Nat → Nat} (h : yTg n G F fo ρ) (hw : yWay G ρ) : yNu n G = yNorm G ρ := by
  have hn3 := h.1
  unfold yNu
  rw [if_neg (by omega)]
  have hsp := Classical.epsilon_spec (p := fun ν => (∃ F fo, yTg n G F fo ν) ∧ yWay G ν ∧ ∀ v w, G v w = false → ν v w = 0)
    ⟨yNorm G ρ, ⟨F, fo, yTg_norm h⟩, yWay_norm h hw, fun v w hh => by unfold yNorm; rw [hh]; rfl⟩
  obtain ⟨⟨F', fo', k1⟩, k2, k3⟩ := hsp
  funext v w
  cases hg : G v w with
  | true => rw [yNorm_at hg]; exact yTg_uniq k1 h k2 hw v w hg
  | false => rw [k3 v w hg]; unfold yNorm; rw [hg]; rfl

-- fewer than three nodes
theorem yFl_two {n : Nat} (hn : n < 3) {g G : Nat → Nat → Bool} (hg : ySg n g) (h : yFl n g G) : ∀ v w, G v w = true ↔ (v < n ∧ w < n ∧ v ≠ w) := by
  intro v w
  constructor
  · exact h.1.1 v w
  · rintro ⟨h1, h2, h3⟩
    have key : ∀ a b, a < b → b < n → G a b = true := by
      intro a b hab hb
      cases hh : g a b with
      | true => exact h.2.1 a b hh
      | false => exact (h.2.2 a b hab hb hh).2 (Or.inl hn)
    rcases Nat.lt_or_ge v w with e | e
    · exact key v w e h2
    · rw [h.1.2]; exact key w v (by omega) h1

-- the class's ROUND
theorem w_ring {n : Nat} (hn : n ≤ 20) {sm fl : Nat → Int32} (hs : ySg n (yGm n sm)) (hp : yPln n (yGm n sm)) (hF : yFl n (yGm n sm) (yGm n fl)) (f24 f25 : Nat → Int32) (K : (Nat → Int32) → (Nat → Int32) → Prop)
    (hK : ∀ th o, (∀ v w, yGm n fl v w = true → o (20*v+w) = Int32.ofNat (yNu n (yGm n fl) v w)) → K th o)
    (hT : 3 ≤ n → ∃ F fo ρ, yTg n (yGm n fl) F fo ρ ∧ yWay (yGm n fl) ρ) :
    wX6_findFaces f24 (Int32.ofNat n) fl (fun u53 => wX6_lay (Int32.ofNat n) f25 fl u53 (fun u60 => K u53 u60)) := by
  have h4eq : (4 : Int32) = Int32.ofNat 4 := rfl
  rcases Nat.lt_or_ge n 3 with c3 | c3
  · refine w_findFaces2 (by omega) fl f24 _ ?_
    intro th
    unfold wX6_lay
    refine ⟨fun hh => ?_, fun _ => ?_⟩
    · exfalso; rw [h4eq, yn_le (by omega) (by omega)] at hh; omega
    · refine w_layRising (by omega) fl f25 _ ?_
      intro o ho
      apply hK
      intro v w hvw
      have hnu : yNu n (yGm n fl) v w = w := by unfold yNu; rw [if_pos c3]
      have hv := hF.1.1 v w hvw
      rw [hnu]
      refine ho v w hv.1 hv.2.1 w ⟨hvw, ?_⟩
      right
      constructor
      · intro i hi
        cases hh : yGm n fl v i with
        | false => rfl
        | true => have := hF.1.1 v i hh; omega
      · intro i hi
        cases hh : yGm n fl v i with
        | false => rfl
        | true => have := hF.1.1 v i hh; omega
  · obtain ⟨F, fo, ρ, hTg, hway⟩ := hT c3
    have hnu := yNu_eq hTg hway
    have hgs := hTg.2.2.1.2
    refine w_findFaces hTg f24 _ ?_
    intro th hth
    unfold wX6_lay
    refine ⟨fun h4 => ?_, fun h4 => ?_⟩
    · rw [h4eq, yn_le (by omega) (by omega)] at h4
      refine w_layByThirds hTg h4 hway hth f25 _ ?_
      intro o ho
      apply hK
      intro v w hvw
      rw [hnu, yNorm_at hvw]; exact ho v w hvw
    · rw [h4eq, yn_le (by omega) (by omega)] at h4
      refine w_layRising (by omega) fl f25 _ ?_
      intro o ho
      apply hK
      intro v w hvw
      rw [hnu, yNorm_at hvw]
      have t := yTg_th hTg hvw
      have g1 := yTg_gr hTg hvw; have g2 := yTg_gr hTg t.2.1; have g3 := yTg_gr hTg t.2.2.1
      have hvr : yGm n fl v (ρ v w) = true := by rw [hgs]; exact t.2.2.1
      refine ho v w g1.2.2.2.1 g1.2.2.2.2.1 (ρ v w) ⟨hvr, ?_⟩
      have hno : ∀ i, i ≠ w → i ≠ ρ v w → yGm n fl v i = false := by
        intro i h1 h2
        cases hh : yGm n fl v i with
        | false => rfl
        | true => have := hTg.2.2.1.1 v i hh; omega
      rcases Nat.lt_or_ge w (ρ v w) with q | q
      · left; exact ⟨q, fun i hi hi' => hno i (by omega) (by omega)⟩
      · right
        exact ⟨fun i hi => hno i (by omega) (by omega), fun i hi => hno i (by omega) (by omega)⟩


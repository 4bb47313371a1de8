
def yOkl (nd : Nat → Nat) (L : Nat → Prop) (v : Nat) (p : List Nat) : Prop := p.Nodup ∧ ∀ x, x ∈ p → L x ∧ nd x = v

theorem yOkl_pre {nd : Nat → Nat} {L : Nat → Prop} {v : Nat} {p q : List Nat} (h : yOkl nd L v q) (hp : ∃ t, q = p ++ t) : yOkl nd L v p := by
  obtain ⟨t, rfl⟩ := hp
  exact ⟨(List.nodup_append.1 h.1).1, fun x hx => h.2 x (List.mem_append.2 (Or.inl hx))⟩

theorem yEi_sum {N : Nat} {nd : Nat → Nat} {L : Nat → Prop} {ls : Nat → List Nat} (h : ∀ v, v < N → yOkl nd L v (ls v)) {B : Nat} (hB : ∀ e, L e → e < B) : yS N (fun v => (ls v).length) ≤ B := by
  have hget : ∀ v i, i < (ls v).length → (ls v).getD i 0 ∈ ls v := by
    intro v i hi
    rw [List.getD_eq_getElem?_getD, List.getElem?_eq_getElem hi]
    exact List.getElem_mem hi
  have hp := yS_place (fun v => (ls v).length) N
  have hex : ∀ j, ∃ e, j < yS N (fun v => (ls v).length) → ∃ u i, u < N ∧ i < (ls u).length ∧ j = yS u (fun v => (ls v).length) + i ∧ e = (ls u).getD i 0 := by
    intro j
    by_cases c : j < yS N (fun v => (ls v).length)
    · obtain ⟨u, i, a1, a2, a3⟩ := hp j c
      exact ⟨(ls u).getD i 0, fun _ => ⟨u, i, a1, a2, a3, rfl⟩⟩
    · exact ⟨0, fun h => absurd h c⟩
  have hf := fun j => Classical.choose_spec (hex j)
  apply yPig _ B (fun j => Classical.choose (hex j))
  · intro j hj
    obtain ⟨u, i, a1, a2, a3, a4⟩ := hf j hj
    show Classical.choose (hex j) < B
    rw [a4]; exact hB _ ((h u a1).2 _ (hget u i a2)).1
  · intro j j' hj hj' he
    obtain ⟨u, i, a1, a2, a3, a4⟩ := hf j hj
    obtain ⟨u', i', b1, b2, b3, b4⟩ := hf j' hj'
    have he' : Classical.choose (hex j) = Classical.choose (hex j') := he
    rw [a4, b4] at he'
    have hu : u = u' := by rw [← ((h u a1).2 _ (hget u i a2)).2, ← ((h u' b1).2 _ (hget u' i' b2)).2, he']
    subst hu
    rw [List.getD_eq_getElem?_getD, List.getElem?_eq_getElem a2, List.getD_eq_getElem?_getD, List.getElem?_eq_getElem b2] at he'
    have := (List.getElem_inj (h u a1).1).1 he'
    rw [a3, b3, this]

theorem yEi_room {nd : Nat → Nat} {L : Nat → Prop} {R : Nat → List Nat} {v e : Nat} {p : List Nat} (h : ∀ u, u < v → yOkl nd L u (R u)) (hp : yOkl nd L v (p ++ [e])) (hB : ∀ e, L e → e < 160) :
    yS (v+1) (fun u => (if u = v then p else R u).length) < 160 ∧ e < 160 := by
  have h1 := yEi_sum (N := v+1) (nd := nd) (L := L) (ls := fun u => if u = v then p ++ [e] else R u) (fun u hu => by
    by_cases c : u = v
    · subst c; simp only [if_true]; exact hp
    · simp only [if_neg c]; exact h u (by omega)) hB
  have e1 : yS (v+1) (fun u => ((fun u => if u = v then p ++ [e] else R u) u).length) = yS v (fun u => (if u = v then p ++ [e] else R u).length) + (if v = v then p ++ [e] else R v).length := rfl
  have e2 : yS (v+1) (fun u => (if u = v then p else R u).length) = yS v (fun u => (if u = v then p else R u).length) + (if v = v then p else R v).length := rfl
  have e3 : yS v (fun u => (if u = v then p ++ [e] else R u).length) = yS v (fun u => (if u = v then p else R u).length) := by
    apply yS_congr; intro i hi; rw [if_neg (by omega), if_neg (by omega)]
  rw [e1, e3, if_pos rfl, List.length_append] at h1
  rw [e2, if_pos rfl]
  simp only [List.length_singleton] at h1
  exact ⟨by omega, hB e (hp.2 e (List.mem_append.2 (Or.inr (List.mem_singleton.2 rfl)))).1⟩

-- the class's rows while row v is laid
def yRp (R : Nat → List Nat) (v : Nat) (p : List Nat) (st en : Nat → Int32) : Prop :=
  yRw (v+1) (fun u => (if u = v then p else R u).length) (fun u i => (if u = v then p else R u).getD i 0) st en

theorem w7_appL {R : Nat → List Nat} {v e : Nat} {p : List Nat} {st en : Nat → Int32} (h : yRp R v p st en) (hr : yS (v+1) (fun u => (if u = v then p else R u).length) < 160 ∧ e < 160) (K : ((Nat → Int32) × (Nat → Int32)) → Prop) (hK : ∀ st' en', yRp R v (p ++ [e]) st' en' → K (st', en')) :
    wX7_append (Int32.ofNat (v+1)) st en (Int32.ofNat v) (Int32.ofNat e) K := by
  refine w7_append h (Nat.lt_succ_self _) hr.2 hr.1 _ (fun st' en' h' => hK st' en' ?_)
  refine yRw_congr h' (fun u hu => ?_) (fun u i hu hi => ?_)
  · by_cases c : u = v
    · subst c; simp
    · simp [c]
  · by_cases c : u = v
    · subst c
      simp only [true_and, if_true] at hi ⊢
      by_cases d : i = p.length
      · rw [if_pos d, d]; simp [List.getD_eq_getElem?_getD]
      · rw [if_neg d]
        have hi' : i < p.length := by omega
        simp [List.getD_eq_getElem?_getD, List.getElem?_append_left hi']
    · simp [c]

section
variable {N M : Nat} {F T : Nat → Nat} {al : Nat → Bool} {there at' : Nat → Int32}

theorem w3_endAt (hM : M ≤ 80) (hA : yAt M F T at') (hB : yBo M al there) (hF : ∀ k, k < M → F k < 20 ∧ T k < 20) {v w k : Nat} (hv : v < 20) (hw : w < 20) (hk : k < M) (i0 i1 i2 : Int32) (K : Int32 → Unit → Prop)
    (hK1 : ∀ e, yEnl F T al v w k = [e] → e < 160 → K (Int32.ofNat e) ()) (hK0 : yEnl F T al v w k = [] → K (-1) ()) : wX3_endAt i0 i1 i2 there at' (Int32.ofNat v) (Int32.ofNat w) (Int32.ofNat k) K := by
  have hb := hF k hk
  unfold wX3_endAt
  rw [yn_21', yn_2, yn_nat (by omega), yn_nat (by omega), yn_nat (by omega), (hA k hk).1, (hA k hk).2, yn_inj (by omega) (by omega), yn_inj (by omega) (by omega), yn_inj (by omega) (by omega), yn_inj (by omega) (by omega)]
  unfold yEnl at hK1 hK0
  have hal : ¬ there k = 0 → al k = true := by
    intro h
    cases e : al k with
    | true => rfl
    | false => exact absurd ((yBo_iff hB hk).2 e) h
  have p1 : ∀ n, n < 160 → vp_in (Int32.ofNat n) 160 := fun n hn => yn_in (by omega) hn
  refine ⟨yn_in (by omega) (by omega), fun h => ⟨p1 _ (by omega), fun h1 => ⟨p1 _ (by omega), fun h2 => ?_, fun h2 => ⟨p1 _ (by omega), fun h3 => ?_, fun h3 => ?_⟩⟩, fun h1 => ⟨p1 _ (by omega), fun h2 => ⟨p1 _ (by omega), fun h3 => ?_, fun h3 => ⟨p1 _ (by omega), fun h4 => ?_, fun h4 => ?_⟩⟩, fun h2 => ?_⟩⟩, fun h => ?_⟩
  · apply hK0; rw [if_neg (by rintro ⟨_, q, _⟩; exact h1 q), if_neg (by rintro ⟨_, q, _⟩; exact h2 q)]
  · apply hK0; rw [if_neg (by rintro ⟨_, q, _⟩; exact h1 q), if_neg (by rintro ⟨_, _, q⟩; exact h3 q)]
  · exact hK1 _ (by rw [if_neg (by rintro ⟨_, q, _⟩; exact h1 q), if_pos ⟨hal h, h2, h3⟩]) (by omega)
  · apply hK0; rw [if_neg (by rintro ⟨_, _, q⟩; exact h2 q), if_neg (by rintro ⟨_, q, _⟩; exact h3 q)]
  · apply hK0; rw [if_neg (by rintro ⟨_, _, q⟩; exact h2 q), if_neg (by rintro ⟨_, _, q⟩; exact h4 q)]
  · exact hK1 _ (by rw [if_neg (by rintro ⟨_, _, q⟩; exact h2 q), if_pos ⟨hal h, h3, h4⟩]) (by omega)
  · exact hK1 _ (by rw [if_pos ⟨hal h, h1, h2⟩]) (by omega)
  · have := (yBo_iff hB hk).1 h
    apply hK0; rw [if_neg (by rintro ⟨q, _⟩; rw [this] at q; cases q), if_neg (by rintro ⟨q, _⟩; rw [this] at q; cases q)]

-- alike arcs
theorem w8_layAlike (hM : M ≤ 80) (hA : yAt M F T at') (hB : yBo M al there) (hF : ∀ k, k < M → F k < 20 ∧ T k < 20) {R : Nat → List Nat} {v w : Nat} (hv : v < 20) (hw : w < 20) {q : List Nat}
    (hR : ∀ u, u < v → yOkl (yNd F T) (fun e => yLv M al e = true) u (R u)) (hq : yOkl (yNd F T) (fun e => yLv M al e = true) v (q ++ yAlk M F T al v w M)) {st en : Nat → Int32} (h : yRp R v q st en)
    (i0 i1 i2 i3 i4 i5 i7 : Int32) (K : ((Nat → Int32) × (Nat → Int32)) → Prop) (hK : ∀ st' en', yRp R v (q ++ yAlk M F T al v w M) st' en' → K (st', en')) :
    wX8_layAlike i0 i1 i2 i3 i4 i5 (Int32.ofNat M) i7 there at' (Int32.ofNat (v+1)) st en (Int32.ofNat v) (Int32.ofNat w) K := by
  have hB160 : ∀ e, yLv M al e = true → e < 160 := fun e he => by have := (yLv_iff.1 he).1; omega
  have hpre : ∀ d i, i + d = M → ∃ t, yAlk M F T al v w M = yAlk M F T al v w i ++ t := by
    intro d
    induction d with
    | zero => intro i hi; exact ⟨[], by rw [List.append_nil, show i = M by omega]⟩
    | succ d ih =>
      intro i hi
      obtain ⟨t, ht⟩ := ih (i+1) (by omega)
      exact ⟨yEnl F T al v w (if v < w then i else M-1-i) ++ t, by rw [ht, ← List.append_assoc]; rfl⟩
  have key : ∀ d i st en, M - i = d → i ≤ M → yRp R v (q ++ yAlk M F T al v w i) st en → wLX8_layAlike_2 i5 (Int32.ofNat M) i7 there at' (Int32.ofNat (v+1)) (Int32.ofNat v) (Int32.ofNat w) K (d+1) st en (Int32.ofNat i) := by
    intro d
    induction d with
    | zero =>
      intro i st en hd hi hw'
      have : i = M := by omega
      subst this
      unfold wLX8_layAlike_2
      refine ⟨fun _ => hK st en hw', fun hh => ?_⟩
      exfalso; apply hh; rw [yn_le (by omega) (by omega)]; omega
    | succ d ih =>
      intro i st en hd hi hw'
      have ei : Int32.ofNat i + 1 = Int32.ofNat (i+1) := yn_add i 1
      have em : Int32.ofNat M - 1 - Int32.ofNat i = Int32.ofNat (M-1-i) := by
        have h1eq : (1 : Int32) = Int32.ofNat 1 := rfl
        rw [h1eq, yn_sub (by omega), yn_sub (by omega)]
      have step : ∀ k, k = (if v < w then i else M-1-i) → wX3_endAt i5 (Int32.ofNat M) i7 there at' (Int32.ofNat v) (Int32.ofNat w) (Int32.ofNat k) (fun r43 _ => ((r43 < 0 → (wLX8_layAlike_2 i5 (Int32.ofNat M) i7 there at' (Int32.ofNat (v+1)) (Int32.ofNat v) (Int32.ofNat w) K (d+1)) st en (Int32.ofNat (i+1))) ∧ (¬ r43 < 0 → (wX7_append (Int32.ofNat (v+1)) st en (Int32.ofNat v) r43 (fun u60 => (wLX8_layAlike_2 i5 (Int32.ofNat M) i7 there at' (Int32.ofNat (v+1)) (Int32.ofNat v) (Int32.ofNat w) K (d+1)) (u60.1) (u60.2) (Int32.ofNat (i+1))))))) := by
        intro k hk
        have hkM : k < M := by rw [hk]; split <;> omega
        have hsucc : yAlk M F T al v w (i+1) = yAlk M F T al v w i ++ yEnl F T al v w k := by rw [hk]; rfl
        refine w3_endAt hM hA hB hF hv hw hkM _ _ _ _ (fun e he h160 => ⟨fun hh => absurd hh (yn_neg (by omega)), fun _ => ?_⟩) (fun he => ⟨fun _ => ?_, fun hh => absurd yn_m1 hh⟩)
        · rw [he] at hsucc
          have hroom := yEi_room (R := R) (v := v) (e := e) (p := q ++ yAlk M F T al v w i) hR (by
            refine yOkl_pre hq ?_
            obtain ⟨t, ht⟩ := hpre d (i+1) (by omega)
            exact ⟨t, by rw [ht, hsucc]; simp⟩) hB160
          refine w7_appL hw' hroom _ (fun st' en' h' => ih (i+1) st' en' (by omega) (by omega) ?_)
          rw [hsucc, ← List.append_assoc]; exact h'
        · rw [he, List.append_nil] at hsucc
          exact ih (i+1) st en (by omega) (by omega) (by rw [hsucc]; exact hw')
      unfold wLX8_layAlike_2
      rw [ei, em]
      refine ⟨fun hh => ?_, fun _ => ⟨fun hle v33 h33 => ?_, fun hgt => ?_⟩⟩
      · exfalso; rw [yn_le (by omega) (by omega)] at hh; omega
      · rw [yn_le (by omega) (by omega)] at hle
        rw [h33]
        exact step _ (by rw [if_neg (by omega)])
      · rw [yn_le (by omega) (by omega)] at hgt
        exact step _ (by rw [if_pos (by omega)])
  unfold wX8_layAlike
  exact ⟨M - 0 + 1, key (M-0) 0 st en rfl (by omega) (by show yRp R v (q ++ []) st en; rw [List.append_nil]; exact h)⟩

-- loops
theorem w8_layLoops (hM : M ≤ 80) (hA : yAt M F T at') (hB : yBo M al there) (hF : ∀ k, k < M → F k < 20 ∧ T k < 20) {R : Nat → List Nat} {v : Nat} (hv : v < 20) {q : List Nat}
    (hR : ∀ u, u < v → yOkl (yNd F T) (fun e => yLv M al e = true) u (R u)) (hq : yOkl (yNd F T) (fun e => yLv M al e = true) v (q ++ yLps F T al v M)) {st en : Nat → Int32} (h : yRp R v q st en)
    (i0 i1 i2 i3 i4 i5 i7 : Int32) (K : ((Nat → Int32) × (Nat → Int32)) → Prop) (hK : ∀ st' en', yRp R v (q ++ yLps F T al v M) st' en' → K (st', en')) :
    wX8_layLoops i0 i1 i2 i3 i4 i5 (Int32.ofNat M) i7 there at' (Int32.ofNat (v+1)) st en (Int32.ofNat v) K := by
  have hB160 : ∀ e, yLv M al e = true → e < 160 := fun e he => by have := (yLv_iff.1 he).1; omega
  have hpre : ∀ d i, i + d = M → ∃ t, yLps F T al v M = yLps F T al v i ++ t := by
    intro d
    induction d with
    | zero => intro i hi; exact ⟨[], by rw [List.append_nil, show i = M by omega]⟩
    | succ d ih =>
      intro i hi
      obtain ⟨t, ht⟩ := ih (i+1) (by omega)
      exact ⟨yLp F T al v i ++ t, by rw [ht, ← List.append_assoc]; rfl⟩
  have key : ∀ d i st en, M - i = d → i ≤ M → yRp R v (q ++ yLps F T al v i) st en → wLX8_layLoops_2 i5 (Int32.ofNat M) i7 there at' (Int32.ofNat (v+1)) (Int32.ofNat v) K (d+1) st en (Int32.ofNat i) := by
    intro d
    induction d with
    | zero =>
      intro i st en hd hi hw'
      have : i = M := by omega
      subst this
      unfold wLX8_layLoops_2
      refine ⟨fun _ => hK st en hw', fun hh => ?_⟩
      exfalso; apply hh; rw [yn_le (by omega) (by omega)]; omega
    | succ d ih =>
      intro i st en hd hi hw'
      have ei : Int32.ofNat i + 1 = Int32.ofNat (i+1) := yn_add i 1
      have hsucc : yLps F T al v (i+1) = yLps F T al v i ++ yLp F T al v i := rfl
      unfold wLX8_layLoops_2
      rw [ei, yn_21', yn_2]
      refine ⟨fun hh => ?_, fun _ => ?_⟩
      · exfalso; rw [yn_le (by omega) (by omega)] at hh; omega
      refine w3_endAt hM hA hB hF hv hv (by omega) _ _ _ _ (fun e he h160 => ⟨fun hh => absurd hh (yn_neg (by omega)), fun _ => ?_⟩) (fun he => ⟨fun _ => ?_, fun hh => absurd yn_m1 hh⟩)
      · have hc : al i = true ∧ F i = v ∧ T i = v := by
          unfold yEnl at he
          split at he
          · assumption
          · cases he
        have hlp : yLp F T al v i = [2*i, 2*i+1] := by unfold yLp; rw [if_pos hc]
        rw [hlp] at hsucc
        obtain ⟨t, ht⟩ := hpre d (i+1) (by omega)
        have hroom1 := yEi_room (R := R) (v := v) (e := 2*i) (p := q ++ yLps F T al v i) hR (by
          refine yOkl_pre hq ⟨(2*i+1) :: t, ?_⟩
          rw [ht, hsucc]; simp) hB160
        have hroom2 := yEi_room (R := R) (v := v) (e := 2*i+1) (p := q ++ yLps F T al v i ++ [2*i]) hR (by
          refine yOkl_pre hq ⟨t, ?_⟩
          rw [ht, hsucc]; simp) hB160
        refine w7_appL hw' hroom1 _ (fun st' en' h' => w7_appL h' hroom2 _ (fun st2 en2 h2 => ih (i+1) st2 en2 (by omega) (by omega) ?_))
        rw [hsucc]
        have e3 : q ++ (yLps F T al v i ++ [2*i, 2*i+1]) = q ++ yLps F T al v i ++ [2*i] ++ [2*i+1] := by simp
        rw [e3]; exact h2
      · have hlp : yLp F T al v i = [] := by
          unfold yLp
          rw [if_neg]
          rintro ⟨c1, c2, c3⟩
          unfold yEnl at he
          rw [if_pos ⟨c1, c2, c3⟩] at he; cases he
        rw [hlp, List.append_nil] at hsucc
        exact ih (i+1) st en (by omega) (by omega) (by rw [hsucc]; exact hw')
  unfold wX8_layLoops
  exact ⟨M - 0 + 1, key (M-0) 0 st en rfl (by omega) (by show yRp R v (q ++ []) st en; rw [List.append_nil]; exact h)⟩
end


section
variable {N M : Nat} {F T : Nat → Nat} {al : Nat → Bool}

theorem yEnd_g {e v w : Nat} (hl : yLv M al e = true) (hv : yNd F T e = v) (hw : yNd F T (yPt e) = w) (hvw : v ≠ w) : yGk M F T al v w = true := by
  have hl' := yLv_iff.1 hl
  rw [yGk_iff]
  refine ⟨e/2, by omega, hl'.2, ?_⟩
  have hh := yPt_half e
  by_cases p : e % 2 = 0
  · have e1 : yNd F T e = F (e/2) := by unfold yNd; rw [if_pos p]
    have e2 : yNd F T (yPt e) = T (e/2) := by
      have : yPt e % 2 ≠ 0 := by unfold yPt; rw [if_pos p]; omega
      rw [← hh]
      unfold yNd; rw [if_neg this]
    rw [e2] at hw
    rw [e1] at hv
    exact ⟨by rw [hv, hw]; exact hvw, Or.inl ⟨hv, hw⟩⟩
  · have e1 : yNd F T e = T (e/2) := by unfold yNd; rw [if_neg p]
    have e2 : yNd F T (yPt e) = F (e/2) := by
      have : yPt e % 2 = 0 := by unfold yPt; rw [if_neg p]; omega
      rw [← hh]
      unfold yNd; rw [if_pos this]
    rw [e2] at hw
    rw [e1] at hv
    exact ⟨by rw [hv, hw]; exact Ne.symm hvw, Or.inr ⟨hw, hv⟩⟩

theorem yAlk_nil {v w : Nat} (hvw : v ≠ w) (h : yGk M F T al v w = false) : yAlk M F T al v w M = [] := by
  rw [List.eq_nil_iff_forall_not_mem]
  intro e he
  obtain ⟨a1, a2, a3⟩ := (yAlk_all hvw).1 he
  rw [yEnd_g a1 a2 a3 hvw] at h; cases h

theorem yLw_ex {p : Nat → Bool} {w : Nat} (h : p w = true) : ∃ m, m ≤ w ∧ p m = true ∧ ∀ i, i < m → p i = false := by
  have key : ∀ N w, w < N → p w = true → ∃ m, m ≤ w ∧ p m = true ∧ ∀ i, i < m → p i = false := by
    intro N
    induction N with
    | zero => intro w hw; omega
    | succ N ih =>
      intro w hwN hw
      by_cases c : ∃ x, x < w ∧ p x = true
      · obtain ⟨x, x1, x2⟩ := c
        obtain ⟨m, a1, a2⟩ := ih x (by omega) x2
        exact ⟨m, by omega, a2⟩
      · refine ⟨w, Nat.le_refl _, hw, fun i hi => ?_⟩
        cases hh : p i with
        | false => rfl
        | true => exact absurd ⟨i, hi, hh⟩ c
  exact key (w+1) w (by omega) h

theorem yNb_ex {p : Nat → Bool} : ∀ m, 0 < yNb m p → ∃ w, w < m ∧ p w = true := by
  intro m
  induction m with
  | zero => intro h; simp [yNb] at h
  | succ m ih =>
    intro h
    by_cases c : p m = true
    · exact ⟨m, by omega, c⟩
    · have : 0 < yNb m p := by simp only [yNb] at h; rw [if_neg c] at h; exact h
      obtain ⟨w, a1, a2⟩ := ih this
      exact ⟨w, by omega, a2⟩

variable {there at' : Nat → Int32}

theorem w8_layNeighbours (hM : M ≤ 80) (hN : N ≤ 20) (hA : yAt M F T at') (hB : yBo M al there) (hF : ∀ k, k < M → F k < N ∧ T k < N) {fl jm o : Nat → Int32} {G : Nat → Nat → Bool} {ν : Nat → Nat → Nat} (hG : yGm N fl = G) (hSg : ySg N G) (hg : ∀ v w, yGk M F T al v w = true → G v w = true) (hj : yGm 20 jm = yGk M F T al) (ho : ∀ v w, G v w = true → o (20*v+w) = Int32.ofNat (ν v w))
    {R : Nat → List Nat} {v : Nat} (hv : v < N) (hC : yCyc G ν v) (hR : ∀ u, u < v → yOkl (yNd F T) (fun e => yLv M al e = true) u (R u))
    {st en : Nat → Int32} (h : yRp R v [] st en) (i0 i1 i2 i3 i4 i5 i7 i9 : Int32) (K : ((Nat → Int32) × (Nat → Int32)) → Prop) (hK : ∀ st' en', yRp R v (yNbl M F T al ν (yLst G v) v (yNb 32 (G v))) st' en' → K (st', en')) :
    wX8_layNeighbours i0 i1 i2 i3 i4 i5 fl i7 (Int32.ofNat M) i9 jm o there at' (Int32.ofNat (v+1)) st en (Int32.ofNat v) K := by
  have hF20 : ∀ k, k < M → F k < 20 ∧ T k < 20 := fun k hk => by have := hF k hk; omega
  have hGv : ∀ w, G v w = yM (fl v) w := fun w => by rw [← hG]; unfold yGm; rw [decide_eq_true hv, Bool.true_and]
  have hjv : ∀ w, yGk M F T al v w = yM (jm v) w := fun w => by rw [← hj]; unfold yGm; rw [decide_eq_true (by omega), Bool.true_and]
  have hdeg : yNb 32 (yM (fl v)) = yNb 32 (G v) := by apply yNb_congr; intro i _; exact (hGv i).symm
  have hGne : ∀ w, G v w = true → v ≠ w := fun w hw => (hSg.1 v w hw).2.2
  have hGlt : ∀ w, G v w = true → w < 20 := fun w hw => by have := (hSg.1 v w hw).2.1; omega
  have hd32 : yNb 32 (G v) ≤ 32 := by
    have : ∀ m, yNb m (G v) ≤ m := by
      intro m
      induction m with
      | zero => exact Nat.le_refl _
      | succ m ih => simp only [yNb]; split <;> omega
    exact this 32
  have hok : yOkl (yNd F T) (fun e => yLv M al e = true) v (yTrw M F T al G ν v) :=
    ⟨yTrw_nodup hC hGne, fun x hx => (yTrw_mem hC hGne (hg v)).1 hx⟩
  have hpre : ∀ d i, i + d = yNb 32 (G v) → ∃ t, yTrw M F T al G ν v = yNbl M F T al ν (yLst G v) v i ++ t := by
    intro d
    induction d with
    | zero => intro i hi; exact ⟨yLps F T al v M, by rw [show i = yNb 32 (G v) by omega]; rfl⟩
    | succ d ih =>
      intro i hi
      obtain ⟨t, ht⟩ := ih (i+1) (by omega)
      exact ⟨yAlk M F T al v (yIt ν v (yLst G v) i) M ++ t, by rw [ht, ← List.append_assoc]; rfl⟩
  have key : ∀ d i st en w, yNb 32 (G v) - i = d → i ≤ yNb 32 (G v) → (i < yNb 32 (G v) → w = Int32.ofNat (yIt ν v (yLst G v) i)) → yRp R v (yNbl M F T al ν (yLst G v) v i) st en →
      wLX8_layNeighbours_29 i0 i1 i2 i3 i4 i7 (Int32.ofNat M) i9 jm o there at' (Int32.ofNat (v+1)) (Int32.ofNat v) (Int32.ofNat (yNb 32 (G v))) K (d+1) st en w (Int32.ofNat i) := by
    intro d
    induction d with
    | zero =>
      intro i st en w hd hi hw hr
      have : i = yNb 32 (G v) := by omega
      subst this
      unfold wLX8_layNeighbours_29
      refine ⟨fun _ => hK st en hr, fun hh => ?_⟩
      exfalso; apply hh; rw [yn_le (by omega) (by omega)]; omega
    | succ d ih =>
      intro i st en w hd hi hw hr
      have ei : Int32.ofNat i + 1 = Int32.ofNat (i+1) := yn_add i 1
      have hi' : i < yNb 32 (G v) := by omega
      have hgw := hC.1 i hi'
      have hwl := hGlt _ hgw
      have hsucc : yNbl M F T al ν (yLst G v) v (i+1) = yNbl M F T al ν (yLst G v) v i ++ yAlk M F T al v (yIt ν v (yLst G v) i) M := rfl
      rw [hw hi']
      unfold wLX8_layNeighbours_29
      rw [ei, yn_nat (by omega)]
      refine ⟨fun hh => ?_, fun _ => ⟨yn_in (by omega) (by omega), ?_⟩⟩
      · exfalso; rw [yn_le (by omega) (by omega)] at hh; omega
      refine w_hasBit (by omega) _ (fun h1 => ⟨fun hh => absurd hh (by decide), fun _ => ?_⟩) (fun h0 => ⟨fun _ => ?_, fun hh => absurd rfl hh⟩)
      · obtain ⟨t, ht⟩ := hpre d (i+1) (by omega)
        refine w8_layAlike hM hA hB hF20 (by omega) hwl hR (yOkl_pre hok ⟨t, by rw [← hsucc]; exact ht⟩) hr _ _ _ _ _ _ _ _ (fun st' en' h' => ?_)
        refine w_behind (by omega) hwl o _ ?_
        refine ih (i+1) st' en' _ (by omega) (by omega) (fun _ => ?_) (by rw [hsucc]; exact h')
        rw [ho v _ hgw]; rfl
      · have hnil := yAlk_nil (hGne _ hgw) (by rw [hjv]; exact h0)
        rw [hnil, List.append_nil] at hsucc
        refine w_behind (by omega) hwl o _ ?_
        refine ih (i+1) st en _ (by omega) (by omega) (fun _ => ?_) (by rw [hsucc]; exact hr)
        rw [ho v _ hgw]; rfl
  unfold wX8_layNeighbours
  rw [yn_nat (by omega)]
  refine ⟨yn_in (by omega) (by omega), w_bitCount _ _ ⟨yn_in (by omega) (by omega), ?_⟩⟩
  rw [hdeg]
  by_cases c : 0 < yNb 32 (G v)
  · obtain ⟨w, w1, w2⟩ := yNb_ex 32 c
    obtain ⟨m, m1, m2, m3⟩ := yLw_ex w2
    have hlw : yLw G v m := ⟨m2, m3⟩
    refine w_lowest (k := m) (by omega) (by rw [← hGv]; exact m2) (fun i hi => by rw [← hGv]; exact m3 i hi) _ ?_
    exact ⟨_, key (yNb 32 (G v) - 0) 0 st en _ rfl (by omega) (fun _ => by rw [yLst_eq hlw]; rfl) h⟩
  · have h0 : fl v = 0 := by
      rw [yM_eq0]
      intro i hi
      rw [← hGv]
      cases e : G v i with
      | false => rfl
      | true =>
        exfalso; apply c
        have := yPigC 1 32 (G v) (fun _ => i) (fun _ _ => ⟨hi, e⟩) (fun a b ha hb _ => by omega)
        omega
    rw [h0]
    refine w_lowest0 _ ?_
    exact ⟨_, key (yNb 32 (G v) - 0) 0 st en _ rfl (by omega) (fun hh => absurd hh c) h⟩
end


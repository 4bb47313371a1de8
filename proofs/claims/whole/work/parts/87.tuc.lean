
theorem yCyc_of {n : Nat} (hn : n ≤ 20) {sm fl : Nat → Int32} (hs : ySg n (yGm n sm)) (hp : yPln n (yGm n sm)) (hF : yFl n (yGm n sm) (yGm n fl)) : ∀ v, v < n → yCyc (yGm n fl) (yNu n (yGm n fl)) v := by
  intro v hv
  by_cases h3 : 3 ≤ n
  · obtain ⟨F, fo, ρ, hT, hW⟩ := yTg_ex h3 hn hs hp hF
    rw [yNu_eq hT hW]
    have hT' := yTg_norm hT
    obtain ⟨m, hm, _⟩ := yTg_nb hT hv
    have hl := yLst_eq hm
    obtain ⟨a1, a2, a3, a4, a5⟩ := yTg_cyc hT' hm.1
    unfold yCyc
    rw [hl]
    exact ⟨fun i _ => a2 i, a4, a5⟩
  · have h2 := yFl_two (by omega) hs hF
    have hnu : yNu n (yGm n fl) = fun _ w => w := by unfold yNu; rw [if_pos (by omega)]
    rw [hnu]
    by_cases c : n = 2
    · subst c
      have hG : ∀ w, yGm 2 fl v w = true ↔ w = 1 - v := by
        intro w; rw [h2 v w]; omega
      have hl : yLst (yGm 2 fl) v = 1 - v := by
        apply yLst_eq
        refine ⟨(hG _).2 rfl, fun i hi => ?_⟩
        cases e : yGm 2 fl v i with
        | false => rfl
        | true => have := (hG i).1 e; omega
      have hone : yNb 32 (yGm 2 fl v) = 1 := by
        have e1 : yNb 32 (yGm 2 fl v) = yNb 32 (fun w => decide (w = 1 - v)) := by
          apply yNb_congr
          intro i _
          rw [Bool.eq_iff_iff, hG i, decide_eq_true_eq]
        rw [e1]
        rcases (by omega : v = 0 ∨ v = 1) with c | c <;> subst c <;> decide
      unfold yCyc
      rw [hl, hone]
      have hit : ∀ i, yIt (fun _ w => w) v (1 - v) i = 1 - v := by
        intro i
        induction i with
        | zero => rfl
        | succ i ih => exact ih
      refine ⟨fun i _ => by rw [hit, hG], fun i j hi hj _ => by omega, fun w hw => ⟨0, by omega, ?_⟩⟩
      rw [hit]; exact (hG w).1 hw
    · have hno : ∀ w, yGm n fl v w = false := by
        intro w
        cases e : yGm n fl v w with
        | false => rfl
        | true => have := (h2 v w).1 e; omega
      have h0 : yNb 32 (yGm n fl v) = 0 := by
        have e1 : yNb 32 (yGm n fl v) = yNb 32 (fun _ => false) := by
          apply yNb_congr; intro i _; exact hno i
        rw [e1]; decide
      unfold yCyc
      rw [h0]
      exact ⟨fun i hi => absurd hi (Nat.not_lt_zero _), fun i j hi => absurd hi (Nat.not_lt_zero _), fun w hw => by rw [hno w] at hw; cases hw⟩

-- the turnings of a plane graph
noncomputable def yTn (N M : Nat) (F T : Nat → Nat) (al : Nat → Bool) (v : Nat) : List Nat :=
  yTrw M F T al (yGf N (yGk M F T al)) (yNu N (yGf N (yGk M F T al))) v

section
variable {N M : Nat} {F T : Nat → Nat} {al : Nat → Bool}

theorem yTn_ok (hN : N ≤ 20) (hM : M ≤ 80) (hF : ∀ k, k < M → F k < N ∧ T k < N) {sm fl : Nat → Int32} (hsm : yGm N sm = yGk M F T al) (hp : yPln N (yGk M F T al)) (hFl : yFl N (yGm N sm) (yGm N fl)) :
    (∀ v, v < N → yCyc (yGm N fl) (yNu N (yGm N fl)) v) ∧ yGf N (yGk M F T al) = yGm N fl ∧ (∀ v, v < N → (yTn N M F T al v).Nodup) ∧ (∀ v e, v < N → (e ∈ yTn N M F T al v ↔ (yLv M al e = true ∧ yNd F T e = v))) ∧
    yEr N (yNd F T) (fun e => yLv M al e = true) (fun v => (yTn N M F T al v).length) (fun v i => (yTn N M F T al v).getD i 0) := by
  have hs : ySg N (yGm N sm) := by rw [hsm]; exact yGk_sg hF
  have hp' : yPln N (yGm N sm) := by rw [hsm]; exact hp
  have hC := yCyc_of hN hs hp' hFl
  have hG : yGf N (yGk M F T al) = yGm N fl := by rw [← hsm]; exact yGf_eq (by omega) hFl
  have hSg := hFl.1
  have hne : ∀ v w, yGm N fl v w = true → v ≠ w := fun v w h => (hSg.1 v w h).2.2
  have hsub : ∀ v w, yGk M F T al v w = true → yGm N fl v w = true := fun v w h => hFl.2.1 v w (by rw [hsm]; exact h)
  have h1 : ∀ v, v < N → (yTn N M F T al v).Nodup := by
    intro v hv; unfold yTn; rw [hG]; exact yTrw_nodup (hC v hv) (hne v)
  have h2 : ∀ v e, v < N → (e ∈ yTn N M F T al v ↔ (yLv M al e = true ∧ yNd F T e = v)) := by
    intro v e hv; unfold yTn; rw [hG]; exact yTrw_mem (hC v hv) (hne v) (hsub v)
  refine ⟨hC, hG, h1, h2, yEr_lists h1 h2 (fun e he => ?_)⟩
  have := yLv_iff.1 he
  refine ⟨by omega, ?_⟩
  have := hF (e/2) (by omega)
  unfold yNd; split <;> omega

-- FACES of the turnings
noncomputable def yTf (N M : Nat) (F T : Nat → Nat) (al : Nat → Bool) : yTS :=
  yTc (yBt N (fun v => (yTn N M F T al v).length) (fun v i => (yTn N M F T al v).getD i 0)) (yLv M al) 160

theorem w8_makeTurns (hN : N ≤ 20) (hM : M ≤ 80) (hF : ∀ k, k < M → F k < N ∧ T k < N) {there at' : Nat → Int32} (hA : yAt M F T at') (hB : yBo M al there) {jm fl o : Nat → Int32} (hj : yGm 20 jm = yGk M F T al) (hp : yPln N (yGk M F T al)) (hFl : yFl N (yGm N jm) (yGm N fl)) (ho : ∀ v w, yGm N fl v w = true → o (20*v+w) = Int32.ofNat (yNu N (yGm N fl) v w))
    (i0 i1 i2 i3 i4 i5 i8 : Int32) (f9 f10 f11 f12 : Nat → Int32) (i13 : Int32) (f14 f15 : Nat → Int32) (i16 : Int32) (h10 : f10 0 = 0) (h14 : f14 0 = 0)
    (K : (Int32 × Int32 × (Nat → Int32) × (Nat → Int32) × (Nat → Int32) × (Nat → Int32) × Int32 × (Nat → Int32) × (Nat → Int32)) → Prop)
    (hK0 : ¬ i2 = 0 → K (i2, i5, f9, f10, f11, f12, i13, f14, f15))
    (hK : ∀ b st en fo st' en', yRw N (fun v => (yTn N M F T al v).length) (fun v i => (yTn N M F T al v).getD i 0) st en → yFq (yTf N M F T al).2.2.2 fo →
      yRw ((yTf N M F T al).1 + yNb N (fun v => decide ((yTn N M F T al v).length = 0))) (fun r => if r < (yTf N M F T al).1 then (yTf N M F T al).2.1 r else 0) (yTf N M F T al).2.2.1 st' en' →
      K (1, Int32.ofNat N, b, st, en, fo, Int32.ofNat ((yTf N M F T al).1 + yNb N (fun v => decide ((yTn N M F T al v).length = 0))), st', en')) :
    wX8_makeTurns i0 i1 i2 i3 i4 i5 (Int32.ofNat N) (Int32.ofNat M) i8 f9 f10 f11 f12 i13 f14 f15 i16 fl jm o there at' K := by
  have hF20 : ∀ k, k < M → F k < 20 ∧ T k < 20 := fun k hk => by have := hF k hk; omega
  have hjN : yGm N jm = yGk M F T al := yGm_less hN (fun v w h => ((yGk_sg hF).1 v w h).1) hj
  obtain ⟨hC, hG, h1, h2, hE⟩ := yTn_ok hN hM hF hjN hp hFl
  have hSg := hFl.1
  have hsub : ∀ v w, yGk M F T al v w = true → yGm N fl v w = true := fun v w h => hFl.2.1 v w (by rw [hjN]; exact h)
  have hok : ∀ u, u < N → yOkl (yNd F T) (fun e => yLv M al e = true) u (yTn N M F T al u) := fun u hu => ⟨h1 u hu, fun x hx => (h2 u x hu).1 hx⟩
  have hrow : ∀ v, yTn N M F T al v = yNbl M F T al (yNu N (yGm N fl)) (yLst (yGm N fl) v) v (yNb 32 (yGm N fl v)) ++ yLps F T al v M := by
    intro v; unfold yTn; rw [hG]; rfl
  have key : ∀ d v st en, N - v = d → v ≤ N → yRw v (fun v => (yTn N M F T al v).length) (fun v i => (yTn N M F T al v).getD i 0) st en →
      wLX8_makeTurns_17 i0 i1 i2 i3 i4 (Int32.ofNat N) (Int32.ofNat M) i8 f9 f12 i13 f14 f15 i16 fl jm o there at' K (d+1) st en (Int32.ofNat v) (Int32.ofNat v) := by
    intro d
    induction d with
    | zero =>
      intro v st en hd hv hr
      have : v = N := by omega
      subst this
      unfold wLX8_makeTurns_17
      refine ⟨fun _ => ?_, fun hh => ?_⟩
      · refine w1_trace hr hE (fun e he => yLv_pt he) ?_ f9 f12 i13 f14 f15 h14 _ (fun b fo' st' en' a1 a2 => hK b st en fo' st' en' hr a1 a2)
        have : ∀ m, yNb m (fun v_1 => decide ((yTn v M F T al v_1).length = 0)) ≤ m := by
          intro m
          induction m with
          | zero => exact Nat.le_refl _
          | succ m ih => simp only [yNb]; split <;> omega
        exact Nat.le_trans (this v) hN
      · exfalso; apply hh; rw [yn_le (by omega) (by omega)]; omega
    | succ d ih =>
      intro v st en hd hv hr
      have ev : Int32.ofNat v + 1 = Int32.ofNat (v+1) := yn_add v 1
      unfold wLX8_makeTurns_17
      rw [ev]
      refine ⟨fun hh => ?_, fun _ => ?_⟩
      · exfalso; rw [yn_le (by omega) (by omega)] at hh; omega
      refine w7_open hr (by omega) _ (fun st1 hr1 => ?_)
      have hp0 : yRp (yTn N M F T al) v [] st1 en := by
        refine yRw_congr hr1 (fun u hu => ?_) (fun u i hu hi => ?_)
        · by_cases c : u = v
          · simp [c]
          · simp [c]
        · by_cases c : u = v
          · rw [if_pos c] at hi; omega
          · simp [c]
      refine w8_layNeighbours hM hN hA hB hF rfl hSg hsub hj ho (by omega) (hC v (by omega)) (fun u hu => hok u (by omega)) hp0 _ _ _ _ _ _ _ _ _ (fun st2 en2 hr2 => ?_)
      refine w8_layLoops hM hA hB hF20 (by omega) (fun u hu => hok u (by omega)) (by rw [← hrow v]; exact hok v (by omega)) hr2 _ _ _ _ _ _ _ _ (fun st3 en3 hr3 => ?_)
      rw [← hrow v] at hr3
      refine ih (v+1) st3 en3 (by omega) (by omega) (yRw_congr hr3 (fun u hu => ?_) (fun u i hu hi => ?_))
      · by_cases c : u = v
        · simp [c]
        · simp [c]
      · by_cases c : u = v
        · simp [c]
        · simp [c]
  unfold wX8_makeTurns wX7_empty
  refine ⟨fun _ => ⟨N - 0 + 1, key (N-0) 0 f10 f11 rfl (by omega) ⟨by omega, by simp [yS], fun v hv => ?_, fun v i hv hi => absurd hv (Nat.not_lt_zero _), fun v i hv hi => absurd hv (Nat.not_lt_zero _)⟩⟩, hK0⟩
  rw [Nat.le_zero.1 hv, h10]; rfl
end


-- the reference's turnings while row v is laid
def yRt (R : Nat → List Nat) (v : Nat) (p : List Nat) (tn : Nat → Int32) : Prop :=
  (∀ u i, u < v → i < (R u).length → tn (160*u+i) = Int32.ofNat ((R u).getD i 0)) ∧ (∀ i, i < p.length → tn (160*v+i) = Int32.ofNat (p.getD i 0))

theorem yRt_put {R : Nat → List Nat} {v e : Nat} {p : List Nat} {tn : Nat → Int32} (h : yRt R v p tn) (hR : ∀ u, u < v → (R u).length ≤ 160) : yRt R v (p ++ [e]) (upd tn (160*v+p.length) (Int32.ofNat e)) := by
  refine ⟨fun u i hu hi => ?_, fun i hi => ?_⟩
  · have := hR u hu
    rw [yupd_ne _ _ _ _ (by omega)]; exact h.1 u i hu hi
  · rw [List.length_append, List.length_singleton] at hi
    by_cases c : i = p.length
    · rw [c, yupd_same]; simp [List.getD_eq_getElem?_getD]
    · have hi' : i < p.length := by omega
      rw [yupd_ne _ _ _ _ (by omega), h.2 i hi']
      simp [List.getD_eq_getElem?_getD, List.getElem?_append_left hi']

theorem yOkl_len {nd : Nat → Nat} {L : Nat → Prop} {v : Nat} {p : List Nat} (h : yOkl nd L v p) (hB : ∀ e, L e → e < 160) : p.length ≤ 160 := by
  have := yEi_sum (N := 1) (nd := fun _ => 0) (L := L) (ls := fun _ => p) (fun u hu => ⟨h.1, fun x hx => ⟨(h.2 x hx).1, by show (0:Nat) = u; omega⟩⟩) hB
  simpa [yS] using this

section
variable {N M : Nat} {F T : Nat → Nat} {al : Nat → Bool} {alv frm too : Nat → Int32}

theorem w9_turns40 (hM : M ≤ 80) (hfr : ∀ k, k < M → frm k = Int32.ofNat (F k)) (hto : ∀ k, k < M → too k = Int32.ofNat (T k)) (hB : yBo M al alv) (hF : ∀ k, k < M → F k < 20 ∧ T k < 20) {R : Nat → List Nat} {v x : Nat} (hv : v < 20) (hx : x < 20) (hvx : v ≠ x) {q : List Nat}
    (hR : ∀ u, u < v → yOkl (yNd F T) (fun e => yLv M al e = true) u (R u)) (hq : yOkl (yNd F T) (fun e => yLv M al e = true) v (q ++ yAlk M F T al v x M)) {tn : Nat → Int32} (h : yRt R v q tn) (i14 : Nat)
    (K : ((Nat → Int32) × (Nat → Int32)) → Prop) (B : (Nat → Int32) → Int32 → Int32 → Prop) (hK : ∀ tn', yRt R v (q ++ yAlk M F T al v x M) tn' → B tn' (Int32.ofNat (q ++ yAlk M F T al v x M).length) (Int32.ofNat (i14+1))) :
    ∃ n, wLX9_findTurns_40 (Int32.ofNat M) alv frm too (Int32.ofNat v) (Int32.ofNat i14) (Int32.ofNat x) K B n tn (Int32.ofNat q.length) 0 := by
  have hB160 : ∀ e, yLv M al e = true → e < 160 := fun e he => by have := (yLv_iff.1 he).1; omega
  have hRl : ∀ u, u < v → (R u).length ≤ 160 := fun u hu => yOkl_len (hR u hu) hB160
  have e14 : Int32.ofNat i14 + 1 = Int32.ofNat (i14+1) := yn_add i14 1
  have hpre : ∀ d i, i + d = M → ∃ t, yAlk M F T al v x M = yAlk M F T al v x i ++ t := by
    intro d
    induction d with
    | zero => intro i hi; exact ⟨[], by rw [List.append_nil, show i = M by omega]⟩
    | succ d ih =>
      intro i hi
      obtain ⟨t, ht⟩ := ih (i+1) (by omega)
      exact ⟨yEnl F T al v x (if v < x then i else M-1-i) ++ t, by rw [ht, ← List.append_assoc]; rfl⟩
  have key : ∀ d j tn, M - j = d → j ≤ M → yRt R v (q ++ yAlk M F T al v x j) tn → wLX9_findTurns_40 (Int32.ofNat M) alv frm too (Int32.ofNat v) (Int32.ofNat i14) (Int32.ofNat x) K B (d+1) tn (Int32.ofNat (q ++ yAlk M F T al v x j).length) (Int32.ofNat j) := by
    intro d
    induction d with
    | zero =>
      intro j tn hd hj ht
      have : j = M := by omega
      subst this
      unfold wLX9_findTurns_40
      rw [e14]
      refine ⟨fun _ => hK tn ht, fun hh => ?_⟩
      exfalso; apply hh; rw [yn_le (by omega) (by omega)]; omega
    | succ d ih =>
      intro j tn hd hj ht
      have ej : Int32.ofNat j + 1 = Int32.ofNat (j+1) := yn_add j 1
      have el : Int32.ofNat (q ++ yAlk M F T al v x j).length + 1 = Int32.ofNat ((q ++ yAlk M F T al v x j).length + 1) := yn_add _ 1
      have em : Int32.ofNat M - 1 - Int32.ofNat j = Int32.ofNat (M-1-j) := by
        have h1eq : (1 : Int32) = Int32.ofNat 1 := rfl
        rw [h1eq, yn_sub (by omega), yn_sub (by omega)]
      have hlen : (q ++ yAlk M F T al v x j).length ≤ 160 := by
        obtain ⟨t, ht⟩ := hpre (d+1) j (by omega)
        exact yOkl_len (yOkl_pre hq ⟨t, by rw [ht]; simp⟩) hB160
      have skip : yEnl F T al v x (if v < x then j else M-1-j) = [] → wLX9_findTurns_40 (Int32.ofNat M) alv frm too (Int32.ofNat v) (Int32.ofNat i14) (Int32.ofNat x) K B (d+1) tn (Int32.ofNat (q ++ yAlk M F T al v x j).length) (Int32.ofNat (j+1)) := by
        intro he
        have hsucc : yAlk M F T al v x (j+1) = yAlk M F T al v x j := by
          show _ ++ yEnl F T al v x (if v < x then j else M-1-j) = _
          rw [he, List.append_nil]
        have := ih (j+1) tn (by omega) (by omega) (by rw [hsucc]; exact ht)
        rw [hsucc] at this; exact this
      have put : ∀ e, yEnl F T al v x (if v < x then j else M-1-j) = [e] → vp_in (Int32.ofNat (160*v+(q ++ yAlk M F T al v x j).length)) 3200 ∧ ∀ g, g = upd tn (160*v+(q ++ yAlk M F T al v x j).length) (Int32.ofNat e) → wLX9_findTurns_40 (Int32.ofNat M) alv frm too (Int32.ofNat v) (Int32.ofNat i14) (Int32.ofNat x) K B (d+1) g (Int32.ofNat ((q ++ yAlk M F T al v x j).length + 1)) (Int32.ofNat (j+1)) := by
        intro e he
        have hsucc : yAlk M F T al v x (j+1) = yAlk M F T al v x j ++ [e] := by
          show _ ++ yEnl F T al v x (if v < x then j else M-1-j) = _
          rw [he]
        have hlen2 : (q ++ yAlk M F T al v x (j+1)).length ≤ 160 := by
          obtain ⟨t, ht⟩ := hpre d (j+1) (by omega)
          exact yOkl_len (yOkl_pre hq ⟨t, by rw [ht]; simp⟩) hB160
        have hl2 : (q ++ yAlk M F T al v x (j+1)).length = (q ++ yAlk M F T al v x j).length + 1 := by rw [hsucc]; simp; omega
        refine ⟨yn_in (by omega) (by omega), fun g hg => ?_⟩
        have := ih (j+1) g (by omega) (by omega) (by rw [hsucc, ← List.append_assoc, hg]; exact yRt_put ht hRl)
        rw [hl2] at this; exact this
      unfold wLX9_findTurns_40
      refine ⟨fun hh => ?_, fun _ => ⟨fun hle v69 h69 => ?_, fun hgt => ?_⟩⟩
      · exfalso; rw [yn_le (by omega) (by omega)] at hh; omega
      · rw [yn_le (by omega) (by omega)] at hle
        rw [h69, em]
        have hk : M-1-j < M := by omega
        have hb := hF (M-1-j) hk
        have hidx : (if v < x then j else M-1-j) = M-1-j := by rw [if_neg (by omega)]
        rw [hidx] at skip put
        have a1 : (Int32.ofNat (F (M-1-j)) = Int32.ofNat v) ↔ F (M-1-j) = v := yn_inj (by omega) (by omega)
        have a2 : (Int32.ofNat (F (M-1-j)) = Int32.ofNat x) ↔ F (M-1-j) = x := yn_inj (by omega) (by omega)
        have a3 : (Int32.ofNat (T (M-1-j)) = Int32.ofNat v) ↔ T (M-1-j) = v := yn_inj (by omega) (by omega)
        have a4 : (Int32.ofNat (T (M-1-j)) = Int32.ofNat x) ↔ T (M-1-j) = x := yn_inj (by omega) (by omega)
        have hp80 : vp_in (Int32.ofNat (M-1-j)) 80 := yn_in (by omega) (by omega)
        rw [ej, el, yn_21', yn_2, yn_160, yn_nat (by omega : M-1-j < 2147483648), yn_nat (by omega : 160*v+(q ++ yAlk M F T al v x j).length < 2147483648), hfr (M-1-j) hk, hto (M-1-j) hk, a1, a2, a3, a4]
        have hal : ¬ alv (M-1-j) = 0 → al (M-1-j) = true := by
          intro h
          cases e : al (M-1-j) with
          | true => rfl
          | false => exact absurd ((yBo_iff hB hk).2 e) h
        have s0 : alv (M-1-j) = 0 → yEnl F T al v x (M-1-j) = [] := by
          intro h
          have := (yBo_iff hB hk).1 h
          unfold yEnl; rw [if_neg (by rintro ⟨q, _⟩; rw [this] at q; cases q), if_neg (by rintro ⟨q, _⟩; rw [this] at q; cases q)]
        have s1 : ¬ (F (M-1-j) = v ∧ T (M-1-j) = x) → ¬ (F (M-1-j) = x ∧ T (M-1-j) = v) → yEnl F T al v x (M-1-j) = [] := by
          intro h1 h2
          unfold yEnl; rw [if_neg (fun hh => h1 hh.2), if_neg (fun hh => h2 hh.2)]
        have s2 : ¬ alv (M-1-j) = 0 → F (M-1-j) = v → T (M-1-j) = x → yEnl F T al v x (M-1-j) = [2*(M-1-j)] := by
          intro h h1 h2
          unfold yEnl; rw [if_pos ⟨hal h, h1, h2⟩]
        have s3 : ¬ alv (M-1-j) = 0 → F (M-1-j) = x → T (M-1-j) = v → yEnl F T al v x (M-1-j) = [2*(M-1-j)+1] := by
          intro h h1 h2
          unfold yEnl; rw [if_neg (by rintro ⟨_, q, _⟩; exact hvx (by rw [← q, h1])), if_pos ⟨hal h, h1, h2⟩]
        refine ⟨hp80, fun h => skip (s0 h), fun h => ⟨hp80, fun h1 => ⟨hp80, fun h2 => skip (s1 (fun hh => h1 hh.1) (fun hh => h2 hh.1)), fun h2 => ⟨hp80, fun h3 => skip (s1 (fun hh => h1 hh.1) (fun hh => h3 hh.2)), fun h3 => ⟨hp80, fun h4 => put _ (s3 h h2 h3), fun h4 => absurd h4 h1⟩⟩⟩, fun h1 => ⟨hp80, fun h2 => ⟨hp80, fun h4 => absurd h1 h4, fun h4 => put _ (s2 h h1 h2)⟩, fun h2 => ⟨hp80, fun h3 => skip (s1 (fun hh => h2 hh.2) (fun hh => h3 hh.1)), fun h3 => absurd (h1.symm.trans h3) hvx⟩⟩⟩⟩
      · rw [yn_le (by omega) (by omega)] at hgt
        have hz : True := trivial
        have hk : j < M := by omega
        have hb := hF (j) hk
        have hidx : (if v < x then j else M-1-j) = j := by rw [if_pos (by omega)]
        rw [hidx] at skip put
        have a1 : (Int32.ofNat (F (j)) = Int32.ofNat v) ↔ F (j) = v := yn_inj (by omega) (by omega)
        have a2 : (Int32.ofNat (F (j)) = Int32.ofNat x) ↔ F (j) = x := yn_inj (by omega) (by omega)
        have a3 : (Int32.ofNat (T (j)) = Int32.ofNat v) ↔ T (j) = v := yn_inj (by omega) (by omega)
        have a4 : (Int32.ofNat (T (j)) = Int32.ofNat x) ↔ T (j) = x := yn_inj (by omega) (by omega)
        have hp80 : vp_in (Int32.ofNat (j)) 80 := yn_in (by omega) (by omega)
        rw [ej, el, yn_21', yn_2, yn_160, yn_nat (by omega : j < 2147483648), yn_nat (by omega : 160*v+(q ++ yAlk M F T al v x j).length < 2147483648), hfr (j) hk, hto (j) hk, a1, a2, a3, a4]
        have hal : ¬ alv (j) = 0 → al (j) = true := by
          intro h
          cases e : al (j) with
          | true => rfl
          | false => exact absurd ((yBo_iff hB hk).2 e) h
        have s0 : alv (j) = 0 → yEnl F T al v x (j) = [] := by
          intro h
          have := (yBo_iff hB hk).1 h
          unfold yEnl; rw [if_neg (by rintro ⟨q, _⟩; rw [this] at q; cases q), if_neg (by rintro ⟨q, _⟩; rw [this] at q; cases q)]
        have s1 : ¬ (F (j) = v ∧ T (j) = x) → ¬ (F (j) = x ∧ T (j) = v) → yEnl F T al v x (j) = [] := by
          intro h1 h2
          unfold yEnl; rw [if_neg (fun hh => h1 hh.2), if_neg (fun hh => h2 hh.2)]
        have s2 : ¬ alv (j) = 0 → F (j) = v → T (j) = x → yEnl F T al v x (j) = [2*j] := by
          intro h h1 h2
          unfold yEnl; rw [if_pos ⟨hal h, h1, h2⟩]
        have s3 : ¬ alv (j) = 0 → F (j) = x → T (j) = v → yEnl F T al v x (j) = [2*j+1] := by
          intro h h1 h2
          unfold yEnl; rw [if_neg (by rintro ⟨_, q, _⟩; exact hvx (by rw [← q, h1])), if_pos ⟨hal h, h1, h2⟩]
        refine ⟨hp80, fun h => skip (s0 h), fun h => ⟨hp80, fun h1 => ⟨hp80, fun h2 => skip (s1 (fun hh => h1 hh.1) (fun hh => h2 hh.1)), fun h2 => ⟨hp80, fun h3 => skip (s1 (fun hh => h1 hh.1) (fun hh => h3 hh.2)), fun h3 => ⟨hp80, fun h4 => put _ (s3 h h2 h3), fun h4 => absurd h4 h1⟩⟩⟩, fun h1 => ⟨hp80, fun h2 => ⟨hp80, fun h4 => absurd h1 h4, fun h4 => put _ (s2 h h1 h2)⟩, fun h2 => ⟨hp80, fun h3 => skip (s1 (fun hh => h2 hh.2) (fun hh => h3 hh.1)), fun h3 => absurd (h1.symm.trans h3) hvx⟩⟩⟩⟩
  have := key (M-0) 0 tn rfl (by omega) (by show yRt R v (q ++ []) tn; rw [List.append_nil]; exact h)
  rw [show (q ++ yAlk M F T al v x 0).length = q.length by show (q ++ []).length = _; rw [List.append_nil]] at this
  exact ⟨_, this⟩

theorem w9_turns180 (hM : M ≤ 80) (hfr : ∀ k, k < M → frm k = Int32.ofNat (F k)) (hto : ∀ k, k < M → too k = Int32.ofNat (T k)) (hB : yBo M al alv) (hF : ∀ k, k < M → F k < 20 ∧ T k < 20) {R : Nat → List Nat} {v : Nat} (hv : v < 20) {q : List Nat}
    (hR : ∀ u, u < v → yOkl (yNd F T) (fun e => yLv M al e = true) u (R u)) (hq : yOkl (yNd F T) (fun e => yLv M al e = true) v (q ++ yLps F T al v M)) {tn tz : Nat → Int32} (h : yRt R v q tn)
    (K : ((Nat → Int32) × (Nat → Int32)) → Prop) (B : (Nat → Int32) → (Nat → Int32) → Int32 → Prop) (hK : ∀ tn', yRt R v (q ++ yLps F T al v M) tn' → B (upd tz v (Int32.ofNat (q ++ yLps F T al v M).length)) tn' (Int32.ofNat (v+1))) :
    ∃ n, wLX9_findTurns_180 (Int32.ofNat M) alv frm too tz (Int32.ofNat v) K B n tn (Int32.ofNat q.length) 0 := by
  have hB160 : ∀ e, yLv M al e = true → e < 160 := fun e he => by have := (yLv_iff.1 he).1; omega
  have hRl : ∀ u, u < v → (R u).length ≤ 160 := fun u hu => yOkl_len (hR u hu) hB160
  have ev : Int32.ofNat v + 1 = Int32.ofNat (v+1) := yn_add v 1
  have hpre : ∀ d i, i + d = M → ∃ t, yLps F T al v M = yLps F T al v i ++ t := by
    intro d
    induction d with
    | zero => intro i hi; exact ⟨[], by rw [List.append_nil, show i = M by omega]⟩
    | succ d ih =>
      intro i hi
      obtain ⟨t, ht⟩ := ih (i+1) (by omega)
      exact ⟨yLp F T al v i ++ t, by rw [ht, ← List.append_assoc]; rfl⟩
  have key : ∀ d j tn, M - j = d → j ≤ M → yRt R v (q ++ yLps F T al v j) tn → wLX9_findTurns_180 (Int32.ofNat M) alv frm too tz (Int32.ofNat v) K B (d+1) tn (Int32.ofNat (q ++ yLps F T al v j).length) (Int32.ofNat j) := by
    intro d
    induction d with
    | zero =>
      intro j tn hd hj ht
      have : j = M := by omega
      subst this
      unfold wLX9_findTurns_180
      rw [ev, yn_nat (by omega)]
      refine ⟨fun _ => ⟨yn_in (by omega) (by omega), fun g hg => by rw [hg]; exact hK tn ht⟩, fun hh => ?_⟩
      exfalso; apply hh; rw [yn_le (by omega) (by omega)]; omega
    | succ d ih =>
      intro j tn hd hj ht
      have ej : Int32.ofNat j + 1 = Int32.ofNat (j+1) := yn_add j 1
      have hk : j < M := by omega
      have hb := hF j hk
      have hsucc0 : yLps F T al v (j+1) = yLps F T al v j ++ yLp F T al v j := rfl
      have el : Int32.ofNat (q ++ yLps F T al v j).length + 2 = Int32.ofNat ((q ++ yLps F T al v j).length + 2) := yn_add _ 2
      have el1 : Int32.ofNat (160*v+(q ++ yLps F T al v j).length) + 1 = Int32.ofNat (160*v+(q ++ yLps F T al v j).length + 1) := yn_add _ 1
      have hlen2 : (q ++ yLps F T al v (j+1)).length ≤ 160 := by
        obtain ⟨t, ht⟩ := hpre d (j+1) (by omega)
        exact yOkl_len (yOkl_pre hq ⟨t, by rw [ht]; simp⟩) hB160
      have hlen1 : (q ++ yLps F T al v j).length ≤ 160 := by
        rw [hsucc0] at hlen2; simp only [List.length_append] at hlen2 ⊢; omega
      have skip : yLp F T al v j = [] → wLX9_findTurns_180 (Int32.ofNat M) alv frm too tz (Int32.ofNat v) K B (d+1) tn (Int32.ofNat (q ++ yLps F T al v j).length) (Int32.ofNat (j+1)) := by
        intro he
        have hsucc : yLps F T al v (j+1) = yLps F T al v j := by rw [hsucc0, he, List.append_nil]
        have := ih (j+1) tn (by omega) (by omega) (by rw [hsucc]; exact ht)
        rw [hsucc] at this; exact this
      have a1 : (Int32.ofNat (F j) = Int32.ofNat v) ↔ F j = v := yn_inj (by omega) (by omega)
      have a3 : (Int32.ofNat (T j) = Int32.ofNat v) ↔ T j = v := yn_inj (by omega) (by omega)
      have hp80 : vp_in (Int32.ofNat j) 80 := yn_in (by omega) (by omega)
      unfold wLX9_findTurns_180
      rw [ej, el, yn_21', yn_2, yn_160, el1, yn_nat (by omega : j < 2147483648), yn_nat (by omega : 160*v+(q ++ yLps F T al v j).length < 2147483648), yn_nat (by omega : 160*v+(q ++ yLps F T al v j).length + 1 < 2147483648), hfr j hk, hto j hk, a1, a3]
      refine ⟨fun hh => ?_, fun _ => ⟨hp80, fun h0 => skip ?_, fun h0 => ⟨hp80, fun h1 => skip ?_, fun h1 => ⟨hp80, fun h2 => skip ?_, fun h2 => ?_⟩⟩⟩⟩
      · exfalso; rw [yn_le (by omega) (by omega)] at hh; omega
      · have := (yBo_iff hB hk).1 h0
        unfold yLp; rw [if_neg (by rintro ⟨q, _⟩; rw [this] at q; cases q)]
      · unfold yLp; rw [if_neg (by rintro ⟨_, q, _⟩; exact h1 q)]
      · unfold yLp; rw [if_neg (by rintro ⟨_, _, q⟩; exact h2 q)]
      · have hal : al j = true := by
          cases e : al j with
          | true => rfl
          | false => exact absurd ((yBo_iff hB hk).2 e) h0
        have hlp : yLp F T al v j = [2*j, 2*j+1] := by unfold yLp; rw [if_pos ⟨hal, h1, h2⟩]
        have hsucc : q ++ yLps F T al v (j+1) = q ++ yLps F T al v j ++ [2*j] ++ [2*j+1] := by rw [hsucc0, hlp]; simp
        have hl2 : (q ++ yLps F T al v (j+1)).length = (q ++ yLps F T al v j).length + 2 := by rw [hsucc]; simp only [List.length_append, List.length_singleton]
        refine ⟨yn_in (by omega) (by omega), fun g hg => ⟨yn_in (by omega) (by omega), fun g2 hg2 => ?_⟩⟩
        have p1 := yRt_put (e := 2*j) ht hRl
        rw [← hg] at p1
        have p2 := yRt_put (e := 2*j+1) p1 hRl
        have e5 : 160*v + (q ++ yLps F T al v j ++ [2*j]).length = 160*v + (q ++ yLps F T al v j).length + 1 := by simp only [List.length_append, List.length_singleton]; omega
        rw [e5, ← hg2, ← hsucc] at p2
        have := ih (j+1) g2 (by omega) (by omega) p2
        rw [hl2] at this; exact this
  have := key (M-0) 0 tn rfl (by omega) (by show yRt R v (q ++ []) tn; rw [List.append_nil]; exact h)
  rw [show (q ++ yLps F T al v 0).length = q.length by show (q ++ []).length = _; rw [List.append_nil]] at this
  exact ⟨_, this⟩

theorem w9_findTurns (hN : N ≤ 20) (hM : M ≤ 80) (hF : ∀ k, k < M → F k < N ∧ T k < N) (hfr : ∀ k, k < M → frm k = Int32.ofNat (F k)) (hto : ∀ k, k < M → too k = Int32.ofNat (T k)) (hB : yBo M al alv) {sm fl ar as : Nat → Int32} (hsm : yGm N sm = yGk M F T al) (hp : yPln N (yGk M F T al)) (hFl : yFl N (yGm N sm) (yGm N fl)) (hR : yRnds N (yGm N fl) (yNu N (yGm N fl)) ar as)
    (i2 i3 i4 i5 i6 i7 i8 i9 i10 i11 i12 i13 i14 i15 i16 i17 : Int32) (f19 f23 : Nat → Int32)
    (K : ((Nat → Int32) × (Nat → Int32)) → Prop) (hK : ∀ tz tn, yRr N (fun v => (yTn N M F T al v).length) (fun v i => (yTn N M F T al v).getD i 0) tz tn → K (tz, tn)) :
    wX9_findTurns (Int32.ofNat N) (Int32.ofNat M) i2 i3 i4 i5 i6 i7 i8 i9 i10 i11 i12 i13 i14 i15 i16 i17 as f19 alv frm too f23 ar K := by
  have hF20 : ∀ k, k < M → F k < 20 ∧ T k < 20 := fun k hk => by have := hF k hk; omega
  have hB160 : ∀ e, yLv M al e = true → e < 160 := fun e he => by have := (yLv_iff.1 he).1; omega
  obtain ⟨hC, hG, h1, h2, hE⟩ := yTn_ok hN hM hF hsm hp hFl
  have hSg := hFl.1
  have hok : ∀ u, u < N → yOkl (yNd F T) (fun e => yLv M al e = true) u (yTn N M F T al u) := fun u hu => ⟨h1 u hu, fun x hx => (h2 u x hu).1 hx⟩
  have hrow : ∀ v, yTn N M F T al v = yNbl M F T al (yNu N (yGm N fl)) (yLst (yGm N fl) v) v (yNb 32 (yGm N fl v)) ++ yLps F T al v M := by
    intro v; unfold yTn; rw [hG]; rfl
  have hd32 : ∀ v, yNb 32 (yGm N fl v) ≤ 32 := by
    intro v
    have : ∀ m, yNb m (yGm N fl v) ≤ m := by
      intro m
      induction m with
      | zero => exact Nat.le_refl _
      | succ m ih => simp only [yNb]; split <;> omega
    exact this 32
  -- a node has fewer neighbours than there are nodes
  have hd20 : ∀ v, v < N → yNb 32 (yGm N fl v) ≤ 20 := by
    intro v hv
    apply yPig (yNb 32 (yGm N fl v)) 20 (fun i => yIt (yNu N (yGm N fl)) v (yLst (yGm N fl) v) i)
    · intro i hi
      have := (hSg.1 _ _ ((hC v hv).1 i hi)).2.1
      show yIt (yNu N (yGm N fl)) v (yLst (yGm N fl) v) i < 20
      omega
    · intro i j hi hj e
      exact (hC v hv).2.1 i j hi hj e
  have h14 : ∀ v, v < N → ∀ tz (B : (Nat → Int32) → (Nat → Int32) → Int32 → Prop), (∀ tn', yRt (yTn N M F T al) v (yTn N M F T al v) tn' → B (upd tz v (Int32.ofNat (yTn N M F T al v).length)) tn' (Int32.ofNat (v+1))) →
      ∀ d i tn, yNb 32 (yGm N fl v) - i = d → i ≤ yNb 32 (yGm N fl v) → yRt (yTn N M F T al) v (yNbl M F T al (yNu N (yGm N fl)) (yLst (yGm N fl) v) v i) tn →
      wLX9_findTurns_14 (Int32.ofNat M) as alv frm too ar tz (Int32.ofNat v) K B (d+1) tn (Int32.ofNat (yNbl M F T al (yNu N (yGm N fl)) (yLst (yGm N fl) v) v i).length) (Int32.ofNat i) := by
    intro v hv tz B hB' d
    have hpre : ∀ d i, i + d = yNb 32 (yGm N fl v) → ∃ t, yTn N M F T al v = yNbl M F T al (yNu N (yGm N fl)) (yLst (yGm N fl) v) v i ++ t := by
      intro d
      induction d with
      | zero => intro i hi; exact ⟨yLps F T al v M, by rw [hrow v, show i = yNb 32 (yGm N fl v) by omega]⟩
      | succ d ih =>
        intro i hi
        obtain ⟨t, ht⟩ := ih (i+1) (by omega)
        exact ⟨yAlk M F T al v (yIt (yNu N (yGm N fl)) v (yLst (yGm N fl) v) i) M ++ t, by rw [ht, ← List.append_assoc]; rfl⟩
    have hd := hd32 v
    have hdd := hd20 v hv
    induction d with
    | zero =>
      intro i tn hdi hi ht
      have : i = yNb 32 (yGm N fl v) := by omega
      subst this
      unfold wLX9_findTurns_14
      rw [yn_nat (by omega), (hR v hv).1]
      refine ⟨yn_in (by omega) (by omega), fun _ => ?_, fun hh => ?_⟩
      · exact w9_turns180 hM hfr hto hB hF20 (by omega) (fun u hu => hok u (by omega)) (by rw [← hrow v]; exact hok v hv) ht K _ (by rw [← hrow v]; exact hB')
      · exfalso; apply hh; rw [yn_le (by omega) (by omega)]; omega
    | succ d ih =>
      intro i tn hdi hi ht
      have hi' : i < yNb 32 (yGm N fl v) := by omega
      have hgw := (hC v hv).1 i hi'
      have hlt := hSg.1 _ _ hgw
      obtain ⟨w, w1, w2⟩ := yNb_ex 32 (show 0 < yNb 32 (yGm N fl v) by omega)
      obtain ⟨m, m1, m2, m3⟩ := yLw_ex w2
      have hlw : yLw (yGm N fl) v m := ⟨m2, m3⟩
      have har := (hR v hv).2 m hlw i hi'
      rw [← yLst_eq hlw] at har
      unfold wLX9_findTurns_14
      rw [yn_nat (by omega), (hR v hv).1, yn_20, yn_nat (by omega), har]
      refine ⟨yn_in (by omega) (by omega), fun hh => ?_, fun _ => ⟨yn_in (by omega) (by omega), fun v35 h35 => ?_⟩⟩
      · exfalso; rw [yn_le (by omega) (by omega)] at hh; omega
      · rw [h35]
        obtain ⟨t, ht'⟩ := hpre d (i+1) (by omega)
        exact w9_turns40 hM hfr hto hB hF20 (by omega) (by omega) hlt.2.2 (fun u hu => hok u (by omega)) (yOkl_pre (hok v hv) ⟨t, ht'⟩) ht i K _ (fun tn' h' => ih (i+1) tn' (by omega) (by omega) h')
  have key : ∀ d v tz tn, N - v = d → v ≤ N → (∀ u, u < v → tz u = Int32.ofNat (yTn N M F T al u).length) → yRt (yTn N M F T al) v [] tn → wLX9_findTurns_2 (Int32.ofNat N) (Int32.ofNat M) as alv frm too ar K (d+1) tz tn (Int32.ofNat v) := by
    intro d
    induction d with
    | zero =>
      intro v tz tn hd hv htz htn
      have : v = N := by omega
      subst this
      unfold wLX9_findTurns_2
      refine ⟨fun _ => hK tz tn ⟨htz, htn.1, fun u hu => yOkl_len (hok u hu) hB160, fun u i hu hi => (hE.2.2 _ (hE.1 u i hu hi).1).1⟩, fun hh => ?_⟩
      exfalso; apply hh; rw [yn_le (by omega) (by omega)]; omega
    | succ d ih =>
      intro v tz tn hd hv htz htn
      unfold wLX9_findTurns_2
      refine ⟨fun hh => ?_, fun _ => ⟨_, h14 v (by omega) tz _ (fun tn' h' => ?_) (yNb 32 (yGm N fl v) - 0) 0 tn rfl (by omega) htn⟩⟩
      · exfalso; rw [yn_le (by omega) (by omega)] at hh; omega
      · refine ih (v+1) _ tn' (by omega) (by omega) (fun u hu => ?_) ⟨fun u i hu hi => ?_, fun i hi => absurd hi (Nat.not_lt_zero _)⟩
        · by_cases c : u = v
          · rw [c, yupd_same]
          · rw [yupd_ne _ _ _ _ c]; exact htz u (by omega)
        · by_cases c : u = v
          · subst c; exact h'.2 i hi
          · exact h'.1 u i (by omega) hi
  unfold wX9_findTurns
  exact ⟨_, key (N-0) 0 f19 f23 rfl (by omega) (fun u hu => absurd hu (Nat.not_lt_zero _)) ⟨fun u i hu => absurd hu (Nat.not_lt_zero _), fun i hi => absurd hi (Nat.not_lt_zero _)⟩⟩
end



theorem yNb_t {m : Nat} {p : Nat → Bool} (h : p m = true) : yNb (m+1) p = yNb m p + 1 := by simp [yNb, h]
theorem yNb_f {m : Nat} {p : Nat → Bool} (h : p m = false) : yNb (m+1) p = yNb m p := by simp [yNb, h]

-- what can be reached
def yRcg (g : Nat → Nat → Bool) (s x : Nat) : Prop := ∀ U : Nat → Prop, U s → (∀ p q, U p → g p q = true → U q) → U x

theorem yRcg_refl (g : Nat → Nat → Bool) (s : Nat) : yRcg g s s := fun _ h _ => h
theorem yRcg_trans {g : Nat → Nat → Bool} {s t x : Nat} (h1 : yRcg g s t) (h2 : yRcg g t x) : yRcg g s x := fun U hs hc => h2 U (h1 U hs hc) hc

noncomputable def yParts (n : Nat) (g : Nat → Nat → Bool) : Nat := yNb n (fun v => yD (¬ ∃ u, u < v ∧ yRcg g u v))

section
variable {N M : Nat} {F T : Nat → Nat} {al : Nat → Bool}

-- one turn of the count
theorem yParts_seen {g : Nat → Nat → Bool} {v : Nat} (h : ∃ u, u < v ∧ yRcg g u v) (x : Nat) : (∃ u, u < v + 1 ∧ yRcg g u x) ↔ ∃ u, u < v ∧ yRcg g u x := by
  constructor
  · rintro ⟨u, a1, a2⟩
    by_cases c : u = v
    · obtain ⟨w, b1, b2⟩ := h
      rw [c] at a2
      exact ⟨w, b1, yRcg_trans b2 a2⟩
    · exact ⟨u, by omega, a2⟩
  · rintro ⟨u, a1, a2⟩; exact ⟨u, by omega, a2⟩

theorem w8_countParts (hN : N ≤ 20) {g : Nat → Nat → Bool} (hg : ySg N g) {jm : Nat → Int32} (hj : yGm 20 jm = g) (i0 i1 i2 i3 i4 i6 i7 : Int32) (K : Int32 → Unit → Prop) (hK : K (Int32.ofNat (yParts N g)) ()) : wX8_countParts i0 i1 i2 i3 i4 (Int32.ofNat N) i6 i7 jm K := by
  have hgv : ∀ p q, p < 20 → g p q = yM (jm p) q := fun p q hp => by rw [← hj]; unfold yGm; rw [decide_eq_true hp, Bool.true_and]
  have hall : ∀ x, x < 32 → yM (((1 : Int32) <<< (Int32.ofNat N &&& 31)) - 1) x = decide (x < N) := fun x hx => yM_all hN x hx
  have hr : ∀ s, s < N → ∀ x, (yRch jm (((1 : Int32) <<< (Int32.ofNat N &&& 31)) - 1) s x ↔ yRcg g s x) := by
    intro s hs x
    constructor
    · intro h U hU hc
      refine h U hU (fun p q hp h20 h1 h2 => hc p q hp (by rw [hgv p q h20]; exact h1))
    · intro h U hU hc
      refine h U hU (fun p q hp hpq => ?_)
      have hb := hg.1 p q hpq
      refine hc p q hp (by omega) (by rw [← hgv p q (by omega)]; exact hpq) ?_
      rw [hall q (by omega)]; exact decide_eq_true hb.2.1
  have hle : ∀ v, yNb v (fun v => yD (¬ ∃ u, u < v ∧ yRcg g u v)) ≤ v := fun v => yEcnt_le v _
  have key : ∀ d v seen, N - v = d → v ≤ N → (∀ x, x < 32 → (yM seen x = true ↔ ∃ u, u < v ∧ yRcg g u x)) → wLX8_countParts_19 (Int32.ofNat N) jm (((1 : Int32) <<< (Int32.ofNat N &&& 31)) - 1) K (d+1) seen (Int32.ofNat (yNb v (fun v => yD (¬ ∃ u, u < v ∧ yRcg g u v)))) (Int32.ofNat v) := by
    intro d
    induction d with
    | zero =>
      intro v seen hd hv hs
      have : v = N := by omega
      subst this
      unfold wLX8_countParts_19
      refine ⟨fun _ => hK, fun hh => ?_⟩
      exfalso; apply hh; rw [yn_le (by omega) (by omega)]; omega
    | succ d ih =>
      intro v seen hd hv hs
      have ev : Int32.ofNat v + 1 = Int32.ofNat (v+1) := yn_add v 1
      have en : Int32.ofNat (yNb v (fun v => yD (¬ ∃ u, u < v ∧ yRcg g u v))) + 1 = Int32.ofNat (yNb v (fun v => yD (¬ ∃ u, u < v ∧ yRcg g u v)) + 1) := yn_add _ 1
      unfold wLX8_countParts_19
      rw [ev, en]
      refine ⟨fun hh => ?_, fun _ => ?_⟩
      · exfalso; rw [yn_le (by omega) (by omega)] at hh; omega
      refine w_hasBit (by omega) _ (fun h1 => ⟨fun _ => ?_, fun z => absurd z (by decide)⟩) (fun h0 => ⟨fun z => absurd rfl z, fun _ => ?_⟩)
      · have hse := (hs v (by omega)).1 h1
        have := ih (v+1) seen (by omega) (by omega) (fun x hx => by rw [hs x hx, yParts_seen hse])
        rw [yNb_f (yD_neg (fun hh => hh hse))] at this
        exact this
      · have hse : ¬ ∃ u, u < v ∧ yRcg g u v := fun hh => by rw [(hs v (by omega)).2 hh] at h0; cases h0
        refine w_reached (by omega) (fun q hq => ?_) _ (fun R hR v55 h55 => ?_)
        · by_cases c : q < 32
          · rw [hall q c, decide_eq_true_eq] at hq; omega
          · rw [yM_big _ _ (by omega)] at hq; cases hq
        · have := ih (v+1) v55 (by omega) (by omega) (fun x hx => by
            rw [h55, yM_or, Bool.or_eq_true, hs x hx, hR x hx, hr v (by omega)]
            constructor
            · rintro (⟨u, a1, a2⟩ | a)
              · exact ⟨u, by omega, a2⟩
              · exact ⟨v, by omega, a⟩
            · rintro ⟨u, a1, a2⟩
              by_cases c : u = v
              · right; rw [← c]; exact a2
              · left; exact ⟨u, by omega, a2⟩)
          rw [yNb_t (yD_pos hse)] at this
          exact this
  unfold wX8_countParts
  intro v11 h11
  rw [h11]
  exact ⟨_, key (N-0) 0 0 rfl (by omega) (fun x hx => ⟨fun h => (by rw [yM_zero] at h; cases h), fun ⟨u, hu, _⟩ => absurd hu (Nat.not_lt_zero _)⟩)⟩

theorem w9_arcs (hM : M ≤ 80) {alv : Nat → Int32} (hB : yBo M al alv) (i0 i2 i3 i4 i5 i6 i7 i8 i9 i10 i11 i12 i13 i14 i15 i16 i17 : Int32) (K : Int32 → Unit → Prop) (hK : K (Int32.ofNat (yNb M al)) ()) : wX9_arcs i0 (Int32.ofNat M) i2 i3 i4 i5 i6 i7 i8 i9 i10 i11 i12 i13 i14 i15 i16 i17 alv K := by
  have key : ∀ d k, M - k = d → k ≤ M → wLX9_arcs_4 (Int32.ofNat M) alv K (d+1) (Int32.ofNat (yNb k al)) (Int32.ofNat k) := by
    intro d
    induction d with
    | zero =>
      intro k hd hk
      have : k = M := by omega
      subst this
      unfold wLX9_arcs_4
      refine ⟨fun _ => hK, fun hh => ?_⟩
      exfalso; apply hh; rw [yn_le (by omega) (by omega)]; omega
    | succ d ih =>
      intro k hd hk
      have ek : Int32.ofNat k + 1 = Int32.ofNat (k+1) := yn_add k 1
      have e1 : Int32.ofNat (yNb k al) + 1 = Int32.ofNat (yNb k al + 1) := yn_add _ 1
      have e0 : Int32.ofNat (yNb k al) + 0 = Int32.ofNat (yNb k al) := yn_add _ 0
      have hi := ih (k+1) (by omega) (by omega)
      unfold wLX9_arcs_4
      rw [ek, e1, e0, yn_nat (by omega)]
      refine ⟨fun hh => ?_, fun _ => ⟨yn_in (by omega) (by omega), fun hz v h => ?_, fun hnz v h => ?_⟩⟩
      · exfalso; rw [yn_le (by omega) (by omega)] at hh; omega
      · rw [yNb_f ((yBo_iff hB (by omega)).1 hz)] at hi; rw [h]; exact hi
      · have hc : al k = true := by
          cases q : al k with
          | true => rfl
          | false => exact absurd ((yBo_iff hB (by omega)).2 q) hnz
        rw [yNb_t hc] at hi; rw [h]; exact hi
  unfold wX9_arcs
  exact ⟨_, key (M-0) 0 rfl (by omega)⟩

theorem w9_bare (hN : N ≤ 20) {rs : Nat → Nat} {rz : Nat → Int32} (hz : ∀ v, v < N → rz v = Int32.ofNat (rs v) ∧ rs v ≤ 160) (i1 i2 i3 i4 i5 i6 i7 i8 i9 i10 i11 i12 i13 i14 i15 i16 i17 : Int32) (K : Int32 → Unit → Prop) (hK : K (Int32.ofNat (yNb N (fun v => decide (rs v = 0)))) ()) : wX9_bare (Int32.ofNat N) i1 i2 i3 i4 i5 i6 i7 i8 i9 i10 i11 i12 i13 i14 i15 i16 i17 rz K := by
  have h0 : (0 : Int32) = Int32.ofNat 0 := rfl
  have key : ∀ d k, N - k = d → k ≤ N → wLX9_bare_4 (Int32.ofNat N) rz K (d+1) (Int32.ofNat (yNb k (fun v => decide (rs v = 0)))) (Int32.ofNat k) := by
    intro d
    induction d with
    | zero =>
      intro k hd hk
      have : k = N := by omega
      subst this
      unfold wLX9_bare_4
      refine ⟨fun _ => hK, fun hh => ?_⟩
      exfalso; apply hh; rw [yn_le (by omega) (by omega)]; omega
    | succ d ih =>
      intro k hd hk
      have ek : Int32.ofNat k + 1 = Int32.ofNat (k+1) := yn_add k 1
      have e1 : Int32.ofNat (yNb k (fun v => decide (rs v = 0))) + 1 = Int32.ofNat (yNb k (fun v => decide (rs v = 0)) + 1) := yn_add _ 1
      have e0 : Int32.ofNat (yNb k (fun v => decide (rs v = 0))) + 0 = Int32.ofNat (yNb k (fun v => decide (rs v = 0))) := yn_add _ 0
      have hi := ih (k+1) (by omega) (by omega)
      have hk' := hz k (by omega)
      have hiff : (Int32.ofNat (rs k) = 0) ↔ rs k = 0 := by rw [h0]; exact yn_inj (by omega) (by omega)
      unfold wLX9_bare_4
      rw [ek, e1, e0, yn_nat (by omega), hk'.1, hiff]
      refine ⟨fun hh => ?_, fun _ => ⟨yn_in (by omega) (by omega), fun q v h => ?_, fun q v h => ?_⟩⟩
      · exfalso; rw [yn_le (by omega) (by omega)] at hh; omega
      · rw [yNb_f (decide_eq_false q)] at hi; rw [h]; exact hi
      · rw [yNb_t (decide_eq_true q)] at hi; rw [h]; exact hi
  unfold wX9_bare
  exact ⟨_, key (N-0) 0 rfl (by omega)⟩

theorem w9_parts (hN : N ≤ 20) (hM : M ≤ 80) (hF : ∀ k, k < M → F k < N ∧ T k < N) {alv frm too : Nat → Int32} (hfr : ∀ k, k < M → frm k = Int32.ofNat (F k)) (hto : ∀ k, k < M → too k = Int32.ofNat (T k)) (hB : yBo M al alv) (i2 i3 i4 i5 i6 i7 i8 i9 i10 i11 i12 i13 i14 i15 i16 i17 : Int32) (f18 f22 : Nat → Int32)
    (K : Int32 → (Int32 × (Nat → Int32)) → Prop) (hK : ∀ u, K (Int32.ofNat (yParts N (yGk M F T al))) u) : wX9_parts (Int32.ofNat N) (Int32.ofNat M) i2 i3 i4 i5 i6 i7 i8 i9 i10 i11 i12 i13 i14 i15 i16 i17 f18 alv frm too f22 K := by
  unfold wX9_parts
  refine w9_takeSimple (c := al) (ip := al) hM hN hF hfr hto hB 0 (-1) (fun hh => absurd rfl hh) (fun k hk => ?_) _ _ _ _ _ _ _ _ _ _ _ _ _ _ _ _ _ _ (fun t ht => ?_)
  · have : (¬ Int32.ofNat k = -1) := by
      intro q
      have := yn_neg (n := k) (by omega)
      rw [q] at this; exact this yn_m1
    rw [decide_eq_true this]; simp
  · have hg : ySg N (yGk M F T al) := yGk_sg hF
    have hgv : ∀ p q, p < 21 → yGk M F T al p q = yM (t p) q := fun p q hp => by rw [← ht]; unfold yGm; rw [decide_eq_true hp, Bool.true_and]
    have hr : ∀ s, s < N → ∀ x, (yRe N t 0 s x ↔ yRcg (yGk M F T al) s x) := by
      intro s hs x
      constructor
      · intro h U hU hc
        refine h U hU (fun p q hp hq hUp h1 h2 => hc p q hUp (by rw [hgv p q (by omega)]; exact h1))
      · intro h U hU hc
        refine h U hU (fun p q hp hpq => ?_)
        have hb := hg.1 p q hpq
        exact hc p q hb.1 (by omega) hp (by rw [← hgv p q (by omega)]; exact hpq) (yM_zero q)
    have key : ∀ d v seen, N - v = d → v ≤ N → (∀ x, x < 32 → (yM seen x = true ↔ ∃ u, u < v ∧ yRcg (yGk M F T al) u x)) → wLX9_parts_12 (Int32.ofNat N) (Int32.ofNat M) i2 i4 i5 i6 i7 i8 i9 i10 i11 i12 i13 i14 i15 i16 i17 (Int32.ofNat N, t) K (d+1) seen (Int32.ofNat (yNb v (fun v => yD (¬ ∃ u, u < v ∧ yRcg (yGk M F T al) u v)))) (Int32.ofNat v) := by
      intro d
      induction d with
      | zero =>
        intro v seen hd hv hs
        have : v = N := by omega
        subst this
        unfold wLX9_parts_12
        refine ⟨fun _ => hK _, fun hh => ?_⟩
        exfalso; apply hh; rw [yn_le (by omega) (by omega)]; omega
      | succ d ih =>
        intro v seen hd hv hs
        have ev : Int32.ofNat v + 1 = Int32.ofNat (v+1) := yn_add v 1
        have en : Int32.ofNat (yNb v (fun v => yD (¬ ∃ u, u < v ∧ yRcg (yGk M F T al) u v))) + 1 = Int32.ofNat (yNb v (fun v => yD (¬ ∃ u, u < v ∧ yRcg (yGk M F T al) u v)) + 1) := yn_add _ 1
        unfold wLX9_parts_12
        rw [ev, en, yM_test (by omega)]
        refine ⟨fun hh => ?_, fun _ => ⟨fun h1 => ?_, fun h0 => ?_⟩⟩
        · exfalso; rw [yn_le (by omega) (by omega)] at hh; omega
        · have h1' : yM seen v = true := by
            cases q : yM seen v with
            | true => rfl
            | false => rw [q] at h1; exact absurd rfl h1
          have hse := (hs v (by omega)).1 h1'
          have := ih (v+1) seen (by omega) (by omega) (fun x hx => by rw [hs x hx, yParts_seen hse])
          rw [yNb_f (yD_neg (fun hh => hh hse))] at this
          exact this
        · have h0' : yM seen v = false := by
            cases q : yM seen v with
            | false => rfl
            | true => rw [q] at h0; exact absurd h0 (by decide)
          have hse : ¬ ∃ u, u < v ∧ yRcg (yGk M F T al) u v := fun hh => by rw [(hs v (by omega)).2 hh] at h0'; cases h0'
          refine w9_reached (by omega) t 0 v (by omega) _ _ _ _ _ _ _ _ _ _ _ _ _ _ _ _ _ _ (fun R hR v55 h55 => ?_)
          have := ih (v+1) v55 (by omega) (by omega) (fun x hx => by
            rw [h55, yM_or, Bool.or_eq_true, hs x hx, hR x hx, hr v (by omega)]
            constructor
            · rintro (⟨u, a1, a2⟩ | a)
              · exact ⟨u, by omega, a2⟩
              · exact ⟨v, by omega, a⟩
            · rintro ⟨u, a1, a2⟩
              by_cases c : u = v
              · right; rw [← c]; exact a2
              · left; exact ⟨u, by omega, a2⟩)
          rw [yNb_t (yD_pos hse)] at this
          exact this
    exact ⟨_, key (N-0) 0 0 rfl (by omega) (fun x hx => ⟨fun h => (by rw [yM_zero] at h; cases h), fun ⟨u, hu, _⟩ => absurd hu (Nat.not_lt_zero _)⟩)⟩
end


-- ends of one node, all of them
def yRok (nd rs fs : Nat → Nat) (fe : Nat → Nat → Nat) (r : Nat) : Prop := (∀ i, i < fs r → nd (fe r i) = nd (fe r 0)) ∧ fs r = rs (nd (fe r 0))

section
variable {N M R : Nat} {F T : Nat → Nat} {al : Nat → Bool} {rs : Nat → Nat} {rw' : Nat → Nat → Nat} {fs : Nat → Nat} {fe : Nat → Nat → Nat}

theorem w8_ends (hN : N ≤ 20) (hM : M ≤ 80) (hF : ∀ k, k < M → F k < N ∧ T k < N) {at' : Nat → Int32} (hA : yAt M F T at') {tst ten st en : Nat → Int32} (ht : yRw N rs rw' tst ten) (h : yRw R fs fe st en) (hl : ∀ r i, r < R → i < fs r → fe r i < 2*M) {r : Nat} (hr : r < R) (h1 : 1 ≤ fs r)
    (i2 i3 i4 i5 i6 i7 i8 i9 : Int32) (K : Int32 → Unit → Prop) (hK1 : yRok (yNd F T) rs fs fe r → K 1 ()) (hK0 : ¬ yRok (yNd F T) rs fs fe r → K 0 ()) :
    wX8_hasEndsOfOneNode (Int32.ofNat R) st i2 i3 i4 i5 i6 i7 i8 i9 en at' (Int32.ofNat N) tst (Int32.ofNat r) K := by
  have h160 := h.2.1
  have hsz := yS_at fs hr
  have h0 : (0 : Int32) = Int32.ofNat 0 := rfl
  have ndl : ∀ e, e < 2*M → yNd F T e < N := fun e he => by have := hF (e/2) (by omega); unfold yNd; split <;> omega
  have h00 := hl r 0 hr (by omega)
  have n0 := ndl _ h00
  have tsz := yS_at rs n0
  have tT := ht.2.1
  have key : ∀ d i, fs r - i = d → i ≤ fs r → (∀ j, j < i → yNd F T (fe r j) = yNd F T (fe r 0)) → wLX8_hasEndsOfOneNode_31 (Int32.ofNat R) st en at' (Int32.ofNat N) tst (Int32.ofNat r) (Int32.ofNat (fs r)) (Int32.ofNat (yNd F T (fe r 0))) K (d+1) (Int32.ofNat i) := by
    intro d
    induction d with
    | zero =>
      intro i hd hi hall
      have : i = fs r := by omega
      subst this
      unfold wLX8_hasEndsOfOneNode_31
      refine ⟨fun _ => w7_size ht n0 _ _ ?_, fun hh => ?_⟩
      · rw [yn_inj (by omega) (by omega)]
        exact ⟨fun q => hK0 (fun hh => q hh.2), fun q => hK1 ⟨hall, q⟩⟩
      · exfalso; apply hh; rw [yn_le (by omega) (by omega)]; omega
    | succ d ih =>
      intro i hd hi hall
      have ei : Int32.ofNat i + 1 = Int32.ofNat (i+1) := yn_add i 1
      have hli := hl r i hr (by omega)
      have nli := ndl _ hli
      unfold wLX8_hasEndsOfOneNode_31
      rw [ei]
      refine ⟨fun hh => ?_, fun _ => w7_get h hr (by omega) _ _ ?_⟩
      · exfalso; rw [yn_le (by omega) (by omega)] at hh; omega
      · rw [yn_nat (by omega), yAt_nd hA hli, yn_inj (by omega) (by omega)]
        refine ⟨yn_in (by omega) (by omega), fun q => ih (i+1) (by omega) (by omega) (fun j hj => ?_), fun q => hK0 (fun hh => q (hh.1 i (by omega)))⟩
        by_cases c : j = i
        · rw [c]; exact q
        · exact hall j (by omega)
  unfold wX8_hasEndsOfOneNode
  refine w7_size h hr _ _ ?_
  rw [h0, yn_inj (by omega) (by omega)]
  refine ⟨fun _ => w7_get h hr (by omega) _ _ ?_, fun q => by omega⟩
  rw [yn_nat (by omega), yAt_nd hA h00]
  refine ⟨yn_in (by omega) (by omega), fun v26 h26 => ?_⟩
  rw [h26]
  exact ⟨_, key (fs r - 1) 1 rfl h1 (fun j hj => by rw [show j = 0 by omega])⟩

theorem w8_dual58 (hN : N ≤ 20) (hM : M ≤ 80) (hF : ∀ k, k < M → F k < N ∧ T k < N) {at' : Nat → Int32} (hA : yAt M F T at') {tst ten : Nat → Int32} (ht : yRw N rs rw' tst ten) (u1 : Int32 × Int32 × Int32 × Int32 × (Nat → Int64) × (Nat → Int32) × (Nat → Int32) × (Nat → Int64) × (Nat → Int64) × (Nat → Int32) × (Nat → Int64) × (Nat → Int32) × (Nat → Int64) × (Nat → Int64)) (u11 : Int32 × (Nat → Int32) × (Nat → Int32) × Int32 × Int32 × (Nat → Int64) × (Nat → Int32) × (Nat → Int32) × (Nat → Int64) × (Nat → Int64) × (Nat → Int32) × (Nat → Int64) × (Nat → Int32) × (Nat → Int64) × (Nat → Int64) × (Nat → Int32) × (Nat → Int32)) (u15 : Int32 × Int32 × (Nat → Int32) × (Nat → Int32) × (Nat → Int32) × (Nat → Int32) × Int32 × (Nat → Int32) × (Nat → Int32)) (u29 : (Nat → Int32) × (Nat → Int32) × Int32 × (Nat → Int32) × (Nat → Int32)) (K : Int32 → (Int32 × Int32 × Int32 × Int32 × (Nat → Int32) × (Nat → Int32) × Int32 × Int32 × (Nat → Int64) × (Nat → Int32) × (Nat → Int32) × (Nat → Int64) × (Nat → Int64) × (Nat → Int32) × (Nat → Int64) × (Nat → Int32) × (Nat → Int64) × (Nat → Int64) × (Nat → Int32) × (Nat → Int32) × Int32 × (Nat → Int32) × (Nat → Int32) × (Nat → Int32) × (Nat → Int32) × Int32 × (Nat → Int32) × (Nat → Int32) × (Nat → Int32) × (Nat → Int32) × Int32 × (Nat → Int32) × (Nat → Int32)) → Prop)
    (h : yRw R fs fe (u29.2.2.2.1) (u29.2.2.2.2)) (hc : u29.2.2.1 = Int32.ofNat R) (hl : ∀ r i, r < R → i < fs r → fe r i < 2*M) (h1 : ∀ r, r < R → 1 ≤ fs r) (i3 i4 i5 i6 i7 : Int32)
    (hK1 : (∀ r, r < R → yRok (yNd F T) rs fs fe r) → K 1 (u1.1, u1.2.1, u15.1, u11.1, u11.2.1, u11.2.2.1, u11.2.2.2.1, u11.2.2.2.2.1, u11.2.2.2.2.2.1, u11.2.2.2.2.2.2.1, u11.2.2.2.2.2.2.2.1, u11.2.2.2.2.2.2.2.2.1, u11.2.2.2.2.2.2.2.2.2.1, u11.2.2.2.2.2.2.2.2.2.2.1, u11.2.2.2.2.2.2.2.2.2.2.2.1, u11.2.2.2.2.2.2.2.2.2.2.2.2.1, u11.2.2.2.2.2.2.2.2.2.2.2.2.2.1, u11.2.2.2.2.2.2.2.2.2.2.2.2.2.2.1, u11.2.2.2.2.2.2.2.2.2.2.2.2.2.2.2.1, u11.2.2.2.2.2.2.2.2.2.2.2.2.2.2.2.2, u15.2.1, u15.2.2.1, u15.2.2.2.1, u15.2.2.2.2.1, u15.2.2.2.2.2.1, u15.2.2.2.2.2.2.1, u15.2.2.2.2.2.2.2.1, u15.2.2.2.2.2.2.2.2, u29.1, u29.2.1, u29.2.2.1, u29.2.2.2.1, u29.2.2.2.2)) (hK0 : ¬ (∀ r, r < R → yRok (yNd F T) rs fs fe r) → K 0 (u1.1, u1.2.1, u15.1, u11.1, u11.2.1, u11.2.2.1, u11.2.2.2.1, u11.2.2.2.2.1, u11.2.2.2.2.2.1, u11.2.2.2.2.2.2.1, u11.2.2.2.2.2.2.2.1, u11.2.2.2.2.2.2.2.2.1, u11.2.2.2.2.2.2.2.2.2.1, u11.2.2.2.2.2.2.2.2.2.2.1, u11.2.2.2.2.2.2.2.2.2.2.2.1, u11.2.2.2.2.2.2.2.2.2.2.2.2.1, u11.2.2.2.2.2.2.2.2.2.2.2.2.2.1, u11.2.2.2.2.2.2.2.2.2.2.2.2.2.2.1, u11.2.2.2.2.2.2.2.2.2.2.2.2.2.2.2.1, u11.2.2.2.2.2.2.2.2.2.2.2.2.2.2.2.2, u15.2.1, u15.2.2.1, u15.2.2.2.1, u15.2.2.2.2.1, u15.2.2.2.2.2.1, u15.2.2.2.2.2.2.1, u15.2.2.2.2.2.2.2.1, u15.2.2.2.2.2.2.2.2, u29.1, u29.2.1, u29.2.2.1, u29.2.2.2.1, u29.2.2.2.2)) :
    ∃ n, wLX8_dualBack_58 i3 i4 i5 i6 i7 at' (Int32.ofNat N) tst u1 u11 u15 u29 K n 0 := by
  have h180 := h.1
  have key : ∀ d r, R - r = d → r ≤ R → (∀ q, q < r → yRok (yNd F T) rs fs fe q) → wLX8_dualBack_58 i3 i4 i5 i6 i7 at' (Int32.ofNat N) tst u1 u11 u15 u29 K (d+1) (Int32.ofNat r) := by
    intro d
    induction d with
    | zero =>
      intro r hd hr hall
      unfold wLX8_dualBack_58
      refine ⟨fun _ => hK1 (fun q hq => hall q (by omega)), fun hh => ?_⟩
      exfalso; apply hh; rw [hc, yn_le (by omega) (by omega)]; omega
    | succ d ih =>
      intro r hd hr hall
      have er : Int32.ofNat r + 1 = Int32.ofNat (r+1) := yn_add r 1
      unfold wLX8_dualBack_58
      rw [er]
      refine ⟨fun hh => ?_, fun _ => ?_⟩
      · exfalso; rw [hc, yn_le (by omega) (by omega)] at hh; omega
      rw [hc]
      refine w8_ends hN hM hF hA ht h hl (by omega) (h1 r (by omega)) _ _ _ _ _ _ _ _ _ (fun q => ⟨fun _ => ih (r+1) (by omega) (by omega) (fun q' hq' => ?_), fun z => absurd z (by decide)⟩) (fun q => ⟨fun z => absurd rfl z, fun _ => ?_⟩)
      · by_cases c : q' = r
        · rw [c]; exact q
        · exact hall q' (by omega)
      · have := hK0 (fun hh => q (hh r (by omega)))
        rw [hc] at this
        exact this
  exact ⟨_, key (R-0) 0 rfl (by omega) (fun q hq => absurd hq (Nat.not_lt_zero _))⟩

-- the reference: the end behind in a round
theorem w9_nextInRound {L : Nat → Bool} {fo : Nat → Nat} {ro st en : Nat → Int32} (h : yRw R fs fe st en) (hR : R ≤ 160) (hE : yEr R (fun e => fo e - 1) (fun e => L e = true) fs fe) (hfo : yFq fo ro) {e : Nat} (he : L e = true) (he0 : fo e ≠ 0)
    (i0 i1 i2 i3 i4 i5 i6 i7 i8 i9 i10 i11 i12 i13 i14 i15 i16 i17 : Int32) (K : Int32 → Unit → Prop) (hK : K (Int32.ofNat (yBt R fs fe e)) ()) :
    wX9_nextInRound i0 i1 i2 i3 i4 i5 i6 i7 i8 i9 i10 i11 i12 i13 i14 i15 i16 i17 ro st en (Int32.ofNat e) K := by
  obtain ⟨a1, b2, i, b3, b4⟩ := hE.2.2 e he
  unfold wX9_nextInRound
  rw [yn_nat (by omega), hfo e a1, if_neg he0]
  obtain ⟨r, hr⟩ : ∃ r, r = fo e - 1 := ⟨_, rfl⟩
  have a2 : r < R := by rw [hr]; exact b2
  have a3 : i < fs r := by rw [hr]; exact b3
  have a4 : fe r i = e := by rw [hr]; exact b4
  have hb := yBt_eq hE a2 a3
  rw [a4] at hb
  rw [hb] at hK
  rw [← hr]
  have hsz := yS_at fs a2
  have hT := h.2.1
  have er : Int32.ofNat r + 1 = Int32.ofNat (r+1) := yn_add r 1
  have hS1 : yS (r+1) fs = yS r fs + fs r := rfl
  have key : ∀ d j, i - j = d → j ≤ i → wLX9_nextInRound_14 st en (Int32.ofNat e) (Int32.ofNat r) K (d+1) (Int32.ofNat (yS r fs + j)) := by
    intro d
    induction d with
    | zero =>
      intro j hd hj
      have : j = i := by omega
      subst this
      have ek : Int32.ofNat (yS r fs + j) + 1 = Int32.ofNat (yS r fs + j + 1) := yn_add _ 1
      unfold wLX9_nextInRound_14
      rw [er, ek, yn_nat (by omega), yn_nat (by omega), yn_nat (by omega), h.2.2.2.1 r j a2 a3, a4, h.2.2.1 (r+1) (by omega), h.2.2.1 r (by omega), yn_nat (by omega), yn_nat (by omega), hS1, yn_le (by omega) (by omega)]
      refine ⟨yn_in (by omega) (by omega), fun _ => ⟨yn_in (by omega) (by omega), fun q => ⟨yn_in (by omega) (by omega), yn_in (by omega) (by omega), ?_⟩, fun q => ⟨yn_in (by omega) (by omega), ?_⟩⟩, fun q => absurd rfl q⟩
      · have := h.2.2.2.1 r 0 a2 (by omega)
        rw [Nat.add_zero] at this
        rw [this]
        rw [if_neg (by omega)] at hK; exact hK
      · have := h.2.2.2.1 r (j+1) a2 (by omega)
        rw [← Nat.add_assoc] at this
        rw [this]
        rw [if_pos (by omega)] at hK; exact hK
    | succ d ih =>
      intro j hd hj
      have ek : Int32.ofNat (yS r fs + j) + 1 = Int32.ofNat (yS r fs + (j + 1)) := yn_add _ 1
      have hgo := ih (j+1) (by omega) (by omega)
      have hne : ¬ Int32.ofNat (fe r j) = Int32.ofNat e := by
        have b1 := h.2.2.2.2 r j a2 (by omega)
        rw [yn_inj (by omega) (by omega)]
        intro q
        have := hE.2.1 r j i a2 (by omega) a3 (by rw [q, a4])
        omega
      unfold wLX9_nextInRound_14
      rw [ek, yn_nat (n := yS r fs + j) (by omega), h.2.2.2.1 r j a2 (by omega)]
      exact ⟨yn_in (by omega) (by omega), fun q => absurd q hne, fun _ => hgo⟩
  refine ⟨yn_in (by omega) (by omega), fun v6 h6 => ?_⟩
  rw [h6, yn_nat (by omega), h.2.2.1 r (by omega)]
  refine ⟨yn_in (by omega) (by omega), fun v13 h13 => ⟨i - 0 + 1, ?_⟩⟩
  rw [h13]
  exact key (i-0) 0 rfl (by omega)

-- what a walk leaves as it was
theorem yWk_rows (β : Nat → Nat) (r : Nat) : ∀ n x s, (∀ u, u ≠ r → (yWk β r n x s).2.1 u = s.2.1 u ∧ ∀ i, (yWk β r n x s).2.2.1 u i = s.2.2.1 u i) ∧ (∀ i, i < s.2.1 r → (yWk β r n x s).2.2.1 r i = s.2.2.1 r i) := by
  intro n
  induction n with
  | zero => intro x s; exact ⟨fun u _ => ⟨rfl, fun _ => rfl⟩, fun _ _ => rfl⟩
  | succ n ih =>
    intro x s
    unfold yWk
    by_cases c : s.2.2.2 x = 0
    · rw [if_pos c]
      obtain ⟨b1, b2⟩ := ih (β (yPt x)) (yPut r x s)
      refine ⟨fun u hu => ?_, fun i hi => ?_⟩
      · obtain ⟨d1, d2⟩ := b1 u hu
        refine ⟨?_, fun i => ?_⟩
        · rw [d1]; show (if u = r then _ else s.2.1 u) = _; rw [if_neg hu]
        · rw [d2]; show (if u = r ∧ i = s.2.1 r then x else s.2.2.1 u i) = _; rw [if_neg (fun hh => hu hh.1)]
      · have hlt : i < (yPut r x s).2.1 r := by show i < (if r = r then s.2.1 r + 1 else _); rw [if_pos rfl]; omega
        rw [b2 i hlt]
        show (if r = r ∧ i = s.2.1 r then x else s.2.2.1 r i) = _
        rw [if_neg (by omega)]
    · rw [if_neg c]; exact ⟨fun u _ => ⟨rfl, fun _ => rfl⟩, fun _ _ => rfl⟩

def yFlg (P : Prop) (x : Int32) : Prop := (P → x = 1) ∧ (¬ P → x = 0)
def ySn (fo : Nat → Nat) (f : Nat → Int32) : Prop := ∀ e, e < 160 → f e = if fo e = 0 then 0 else 1

theorem yFlg_congr {P Q : Prop} {x : Int32} (h : yFlg P x) (hPQ : P ↔ Q) : yFlg Q x := ⟨fun q => h.1 (hPQ.2 q), fun q => h.2 (fun p => q (hPQ.1 p))⟩

theorem ySn_put {fo : Nat → Nat} {f : Nat → Int32} (h : ySn fo f) {x r : Nat} : ySn (fun e => if e = x then r + 1 else fo e) (upd f x 1) := by
  intro e he
  by_cases c : e = x
  · rw [c, yupd_same]; simp
  · rw [yupd_ne _ _ _ _ c]; simp only [if_neg c]; exact h e he

theorem w9_dual85 {L : Nat → Bool} {fo : Nat → Nat} (hN : N ≤ 20) (hM : M ≤ 80) (hF : ∀ k, k < M → F k < N ∧ T k < N) {frm too : Nat → Int32} (hfr : ∀ k, k < M → frm k = Int32.ofNat (F k)) (hto : ∀ k, k < M → too k = Int32.ofNat (T k)) (hLM : ∀ e, L e = true → e < 2*M) (hP : ∀ e, L e = true → L (yPt e) = true) {rz : Nat → Int32} (hz : ∀ v, v < N → rz v = Int32.ofNat (rs v) ∧ rs v ≤ 160) (u1 : Int32 × Int32 × Int32 × Int32 × Int32 × Int32 × Int32 × Int32 × Int32 × Int32 × Int32 × Int32 × Int32 × Int32 × Int32 × (Nat → Int32) × (Nat → Int32) × (Nat → Int32) × (Nat → Int32) × (Nat → Int32) × (Nat → Int32) × (Nat → Int32) × (Nat → Int32) × (Nat → Int32) × (Nat → Int32) × (Nat → Int32) × (Nat → Int32) × (Nat → Int32) × (Nat → Int32) × (Nat → Int32) × (Nat → Int32) × (Nat → Int32) × (Nat → Int32) × (Nat → Int32) × (Nat → Int32) × (Nat → Int32) × (Nat → Int32) × (Nat → Int32) × (Nat → Int32) × (Nat → Int32) × (Nat → Int32) × (Nat → Int32) × (Nat → Int32) × (Nat → Int32) × (Nat → Int32) × (Nat → Int32)) (u12 : Int32 × (Nat → Int32) × (Nat → Int32) × (Nat → Int32)) (K : Int32 → (Int32 × Int32 × Int32 × Int32 × Int32 × Int32 × Int32 × Int32 × Int32 × Int32 × Int32 × Int32 × Int32 × Int32 × Int32 × Int32 × (Nat → Int32) × (Nat → Int32) × (Nat → Int32) × (Nat → Int32) × (Nat → Int32) × (Nat → Int32) × (Nat → Int32) × (Nat → Int32) × (Nat → Int32) × (Nat → Int32) × (Nat → Int32) × (Nat → Int32) × (Nat → Int32) × (Nat → Int32) × (Nat → Int32) × (Nat → Int32) × (Nat → Int32) × (Nat → Int32) × (Nat → Int32) × (Nat → Int32) × (Nat → Int32) × (Nat → Int32) × (Nat → Int32) × (Nat → Int32) × (Nat → Int32) × (Nat → Int32) × (Nat → Int32) × (Nat → Int32) × (Nat → Int32) × (Nat → Int32) × (Nat → Int32) × (Nat → Int32) × (Nat → Int32) × (Nat → Int32) × (Nat → Int32)) → Prop)
    (h : yRw R fs fe (u12.2.2.1) (u12.2.2.2)) (hR : R ≤ 160) (hE : yEr R (fun e => fo e - 1) (fun e => L e = true) fs fe) (hfo : yFq fo (u12.2.1)) (hfo0 : ∀ e, L e = true → fo e ≠ 0) (i0 i1 : Int32) {r e : Nat} (he : L e = true) (hr : r < 160) (P0 : Prop) (B : (Nat → Int32) → Int32 → Int32 → Int32 → Prop) :
    ∀ n x s sn fl, yTI s → s.1 = r + 1 → L x = true → (∀ e, s.2.2.2 e ≠ 0 → L e = true) → 160 ≤ n + yS s.1 s.2.1 → ySn s.2.2.2 sn → yFlg (P0 ∧ ∀ i, i < s.2.1 r → yNd F T (s.2.2.1 r i) = yNd F T e) fl →
    (∀ sn' fl', ySn (yWk (yBt R fs fe) r n x s).2.2.2 sn' → yFlg (P0 ∧ (∀ i, i < (yWk (yBt R fs fe) r n x s).2.1 r → yNd F T ((yWk (yBt R fs fe) r n x s).2.2.1 r i) = yNd F T e) ∧ (yWk (yBt R fs fe) r n x s).2.1 r = rs (yNd F T e)) fl' → B sn' (Int32.ofNat (r+1)) fl' (Int32.ofNat (e+1))) →
    wLX9_dualBack_85 i0 i1 frm too rz u1 u12 (Int32.ofNat r) (Int32.ofNat e) K B (n+1) sn fl (Int32.ofNat (s.2.1 r)) (Int32.ofNat x) := by
  have hL := yBt_closed hE hP
  have er : Int32.ofNat r + 1 = Int32.ofNat (r+1) := yn_add r 1
  have ee : Int32.ofNat e + 1 = Int32.ofNat (e+1) := yn_add e 1
  have ndl : ∀ e, L e = true → yNd F T e < N := fun e he => by have := hLM e he; have := hF (e/2) (by omega); unfold yNd; split <;> omega
  have hne := ndl e he
  -- the end of a walk
  have fin : ∀ n x s sn fl, yTI s → s.1 = r + 1 → L x = true → s.2.2.2 x ≠ 0 → ySn s.2.2.2 sn → yFlg (P0 ∧ ∀ i, i < s.2.1 r → yNd F T (s.2.2.1 r i) = yNd F T e) fl →
      (∀ sn' fl', ySn s.2.2.2 sn' → yFlg (P0 ∧ (∀ i, i < s.2.1 r → yNd F T (s.2.2.1 r i) = yNd F T e) ∧ s.2.1 r = rs (yNd F T e)) fl' → B sn' (Int32.ofNat (r+1)) fl' (Int32.ofNat (e+1))) →
      wLX9_dualBack_85 i0 i1 frm too rz u1 u12 (Int32.ofNat r) (Int32.ofNat e) K B (n+1) sn fl (Int32.ofNat (s.2.1 r)) (Int32.ofNat x) := by
    intro n x s sn fl hI hs hx hxm hsn hfl hK'
    have hlx := hL x hx
    have hsz := yS_at s.2.1 (show r < s.1 by omega)
    have hT := yEr_sum hI (B := 160) (fun e he => (hI.2.2 e he).1)
    have hzz := hz _ hne
    unfold wLX9_dualBack_85
    rw [er, ee, yn_nat (by omega), hsn x hlx.1, if_neg hxm]
    refine ⟨yn_in (by omega) (by omega), fun _ => ⟨fun q => hK' sn 0 hsn ⟨fun p => ?_, fun _ => rfl⟩, fun q => ?_⟩, fun q => absurd q (by decide)⟩
    · have := hfl.1 ⟨p.1, p.2.1⟩
      rw [this] at q; exact absurd q (by decide)
    · have hp : P0 ∧ ∀ i, i < s.2.1 r → yNd F T (s.2.2.1 r i) = yNd F T e := by
        apply Classical.byContradiction
        intro hn; exact q (hfl.2 hn)
      refine w9_nodeOf hM hfr hto (hLM e he) _ _ _ _ _ _ _ _ _ _ _ _ _ _ _ _ _ _ _ ?_
      rw [yn_nat (by omega), hzz.1, yn_inj (by omega) (by omega)]
      refine ⟨yn_in (by omega) (by omega), fun z => hK' sn 0 hsn ⟨fun p => absurd p.2.2 z, fun _ => rfl⟩, fun z => hK' sn 1 hsn ⟨fun _ => rfl, fun p => absurd ⟨hp.1, hp.2, z⟩ p⟩⟩
  intro n
  induction n with
  | zero =>
    intro x s sn fl hI hs hx hm hn hsn hfl hK'
    have hlx := hL x hx
    have hxm : s.2.2.2 x ≠ 0 := by
      intro c
      have := yTI_room hI (r := r) (by omega) hlx.1 c
      omega
    exact fin 0 x s sn fl hI hs hx hxm hsn hfl hK'
  | succ n ih =>
    intro x s sn fl hI hs hx hm hn hsn hfl hK'
    by_cases c : s.2.2.2 x = 0
    · have hlx := hL x hx
      have hlp := hL _ hlx.2.1
      have hroom := yTI_room hI (r := r) (by omega) hlx.1 c
      have hw : yWk (yBt R fs fe) r (n+1) x s = yWk (yBt R fs fe) r n (yBt R fs fe (yPt x)) (yPut r x s) := by
        show (if s.2.2.2 x = 0 then _ else s) = _
        rw [if_pos c]
      rw [hw] at hK'
      have hn1 : Int32.ofNat (s.2.1 r) + 1 = Int32.ofNat (s.2.1 r + 1) := yn_add _ 1
      have hfr' : (yPut r x s).2.1 r = s.2.1 r + 1 := by show (if r = r then s.2.1 r + 1 else _) = _; rw [if_pos rfl]
      have hput : ∀ i, i < s.2.1 r + 1 → ((yPut r x s).2.2.1 r i = if i = s.2.1 r then x else s.2.2.1 r i) := by
        intro i hi
        show (if r = r ∧ i = s.2.1 r then x else s.2.2.1 r i) = _
        by_cases q : i = s.2.1 r
        · rw [if_pos ⟨rfl, q⟩, if_pos q]
        · rw [if_neg (fun hh => q hh.2), if_neg q]
      have hP' : (P0 ∧ ∀ i, i < (yPut r x s).2.1 r → yNd F T ((yPut r x s).2.2.1 r i) = yNd F T e) ↔ ((P0 ∧ ∀ i, i < s.2.1 r → yNd F T (s.2.2.1 r i) = yNd F T e) ∧ yNd F T x = yNd F T e) := by
        rw [hfr']
        constructor
        · rintro ⟨p0, p1⟩
          refine ⟨⟨p0, fun i hi => ?_⟩, ?_⟩
          · have := p1 i (by omega)
            rw [hput i (by omega), if_neg (by omega)] at this; exact this
          · have := p1 (s.2.1 r) (by omega)
            rw [hput _ (by omega), if_pos rfl] at this; exact this
        · rintro ⟨⟨p0, p1⟩, p2⟩
          refine ⟨p0, fun i hi => ?_⟩
          rw [hput i hi]
          by_cases q : i = s.2.1 r
          · rw [if_pos q]; exact p2
          · rw [if_neg q]; exact p1 i (by omega)
      have hinc : yS (yPut r x s).1 (yPut r x s).2.1 = yS s.1 s.2.1 + 1 := yS_inc s.1 r s.2.1 (by omega)
      have hmm : ∀ e', (yPut r x s).2.2.2 e' ≠ 0 → L e' = true := by
        intro e' he'
        have he2 : (if e' = x then r + 1 else s.2.2.2 e') ≠ 0 := he'
        by_cases d : e' = x
        · rw [d]; exact hx
        · rw [if_neg d] at he2; exact hm e' he2
      have hpf0 := hfo0 _ hlx.2.1
      have go : ∀ sn' fl', sn' = upd sn x 1 → yFlg (P0 ∧ ∀ i, i < (yPut r x s).2.1 r → yNd F T ((yPut r x s).2.2.1 r i) = yNd F T e) fl' →
          wX9_nextInRound i0 i1 (u1.1) (u1.2.1) (u1.2.2.1) (u1.2.2.2.1) (u1.2.2.2.2.1) (u1.2.2.2.2.2.1) (u1.2.2.2.2.2.2.1) (u1.2.2.2.2.2.2.2.1) (u1.2.2.2.2.2.2.2.2.1) (u1.2.2.2.2.2.2.2.2.2.1) (u1.2.2.2.2.2.2.2.2.2.2.1) (u1.2.2.2.2.2.2.2.2.2.2.2.1) (u1.2.2.2.2.2.2.2.2.2.2.2.2.1) (u1.2.2.2.2.2.2.2.2.2.2.2.2.2.1) (u1.2.2.2.2.2.2.2.2.2.2.2.2.2.2.1) (u12.1) (u12.2.1) (u12.2.2.1) (u12.2.2.2) (Int32.ofNat (yPt x)) (fun r135 _ => (wLX9_dualBack_85 i0 i1 frm too rz u1 u12 (Int32.ofNat r) (Int32.ofNat e) K B (n+1)) sn' fl' (Int32.ofNat (s.2.1 r + 1)) r135) := by
        intro sn' fl' hsn' hfl'
        refine w9_nextInRound h hR hE hfo hlx.2.1 hpf0 _ _ _ _ _ _ _ _ _ _ _ _ _ _ _ _ _ _ _ ?_
        rw [← hfr']
        refine ih (yBt R fs fe (yPt x)) (yPut r x s) sn' fl' (yTI_put hI (by omega) hlx.1 c) hs hlp.2.2 hmm (by rw [hinc]; omega) (by rw [hsn']; exact ySn_put hsn) hfl' hK'
      unfold wLX9_dualBack_85
      rw [hn1, yn_xor hlx.1, yn_nat (by omega), hsn x hlx.1, if_pos c, ynar1]
      refine ⟨yn_in (by omega) (by omega), fun q => absurd rfl q, fun _ => ⟨yn_in (by omega) (by omega), fun g102 h102 => ⟨fun q => ?_, fun q => ?_⟩⟩⟩
      · refine go g102 0 h102 ⟨fun p => ?_, fun _ => rfl⟩
        have := hfl.1 (hP'.1 p).1
        rw [this] at q; exact absurd q (by decide)
      · have hp : P0 ∧ ∀ i, i < s.2.1 r → yNd F T (s.2.2.1 r i) = yNd F T e := by
          apply Classical.byContradiction
          intro hn'; exact q (hfl.2 hn')
        have hnx := ndl x hx
        refine w9_nodeOf hM hfr hto (hLM x hx) _ _ _ _ _ _ _ _ _ _ _ _ _ _ _ _ _ _ _ (w9_nodeOf hM hfr hto (hLM e he) _ _ _ _ _ _ _ _ _ _ _ _ _ _ _ _ _ _ _ ?_)
        rw [yn_inj (by omega) (by omega)]
        exact ⟨fun z => go g102 0 h102 ⟨fun p => absurd (hP'.1 p).2 z, fun _ => rfl⟩, fun z => go g102 1 h102 ⟨fun _ => rfl, fun p => absurd (hP'.2 ⟨hp, z⟩) p⟩⟩
    · have hw : yWk (yBt R fs fe) r (n+1) x s = s := by
        show (if s.2.2.2 x = 0 then _ else s) = s
        rw [if_neg c]
      rw [hw] at hK'
      exact fin (n+1) x s sn fl hI hs hx c hsn hfl hK'

theorem w9_dual17 {fo : Nat → Nat} (hN : N ≤ 20) (hM : M ≤ 80) (hF : ∀ k, k < M → F k < N ∧ T k < N) {alv frm too : Nat → Int32} (hB : yBo M al alv) (hfr : ∀ k, k < M → frm k = Int32.ofNat (F k)) (hto : ∀ k, k < M → too k = Int32.ofNat (T k)) {rz : Nat → Int32} (hz : ∀ v, v < N → rz v = Int32.ofNat (rs v) ∧ rs v ≤ 160) (u1 : Int32 × Int32 × Int32 × Int32 × Int32 × Int32 × Int32 × Int32 × Int32 × Int32 × Int32 × Int32 × Int32 × Int32 × Int32 × (Nat → Int32) × (Nat → Int32) × (Nat → Int32) × (Nat → Int32) × (Nat → Int32) × (Nat → Int32) × (Nat → Int32) × (Nat → Int32) × (Nat → Int32) × (Nat → Int32) × (Nat → Int32) × (Nat → Int32) × (Nat → Int32) × (Nat → Int32) × (Nat → Int32) × (Nat → Int32) × (Nat → Int32) × (Nat → Int32) × (Nat → Int32) × (Nat → Int32) × (Nat → Int32) × (Nat → Int32) × (Nat → Int32) × (Nat → Int32) × (Nat → Int32) × (Nat → Int32) × (Nat → Int32) × (Nat → Int32) × (Nat → Int32) × (Nat → Int32) × (Nat → Int32)) (u12 : Int32 × (Nat → Int32) × (Nat → Int32) × (Nat → Int32)) (K : Int32 → (Int32 × Int32 × Int32 × Int32 × Int32 × Int32 × Int32 × Int32 × Int32 × Int32 × Int32 × Int32 × Int32 × Int32 × Int32 × Int32 × (Nat → Int32) × (Nat → Int32) × (Nat → Int32) × (Nat → Int32) × (Nat → Int32) × (Nat → Int32) × (Nat → Int32) × (Nat → Int32) × (Nat → Int32) × (Nat → Int32) × (Nat → Int32) × (Nat → Int32) × (Nat → Int32) × (Nat → Int32) × (Nat → Int32) × (Nat → Int32) × (Nat → Int32) × (Nat → Int32) × (Nat → Int32) × (Nat → Int32) × (Nat → Int32) × (Nat → Int32) × (Nat → Int32) × (Nat → Int32) × (Nat → Int32) × (Nat → Int32) × (Nat → Int32) × (Nat → Int32) × (Nat → Int32) × (Nat → Int32) × (Nat → Int32) × (Nat → Int32) × (Nat → Int32) × (Nat → Int32) × (Nat → Int32)) → Prop)
    (h : yRw R fs fe (u12.2.2.1) (u12.2.2.2)) (hR : R ≤ 160) (hE : yEr R (fun e => fo e - 1) (fun e => yLv M al e = true) fs fe) (hfo : yFq fo (u12.2.1)) (hfo0 : ∀ e, yLv M al e = true → fo e ≠ 0) (f57 : Nat → Int32)
    (hK1 : ((yTc (yBt R fs fe) (yLv M al) 160).1 = N ∧ ∀ r, r < (yTc (yBt R fs fe) (yLv M al) 160).1 → yRok (yNd F T) rs (yTc (yBt R fs fe) (yLv M al) 160).2.1 (yTc (yBt R fs fe) (yLv M al) 160).2.2.1 r) → ∀ sn, K 1 (u1.1, u1.2.1, u1.2.2.1, u1.2.2.2.1, u1.2.2.2.2.1, u1.2.2.2.2.2.1, u1.2.2.2.2.2.2.1, u1.2.2.2.2.2.2.2.1, u1.2.2.2.2.2.2.2.2.1, u1.2.2.2.2.2.2.2.2.2.1, u1.2.2.2.2.2.2.2.2.2.2.1, u1.2.2.2.2.2.2.2.2.2.2.2.1, u1.2.2.2.2.2.2.2.2.2.2.2.2.1, u1.2.2.2.2.2.2.2.2.2.2.2.2.2.1, u1.2.2.2.2.2.2.2.2.2.2.2.2.2.2.1, u12.1, u1.2.2.2.2.2.2.2.2.2.2.2.2.2.2.2.1, u1.2.2.2.2.2.2.2.2.2.2.2.2.2.2.2.2.1, u1.2.2.2.2.2.2.2.2.2.2.2.2.2.2.2.2.2.1, u1.2.2.2.2.2.2.2.2.2.2.2.2.2.2.2.2.2.2.1, u1.2.2.2.2.2.2.2.2.2.2.2.2.2.2.2.2.2.2.2.1, u1.2.2.2.2.2.2.2.2.2.2.2.2.2.2.2.2.2.2.2.2.1, u1.2.2.2.2.2.2.2.2.2.2.2.2.2.2.2.2.2.2.2.2.2.1, u1.2.2.2.2.2.2.2.2.2.2.2.2.2.2.2.2.2.2.2.2.2.2.1, u1.2.2.2.2.2.2.2.2.2.2.2.2.2.2.2.2.2.2.2.2.2.2.2.1, u1.2.2.2.2.2.2.2.2.2.2.2.2.2.2.2.2.2.2.2.2.2.2.2.2.1, u1.2.2.2.2.2.2.2.2.2.2.2.2.2.2.2.2.2.2.2.2.2.2.2.2.2.1, u1.2.2.2.2.2.2.2.2.2.2.2.2.2.2.2.2.2.2.2.2.2.2.2.2.2.2.1, u1.2.2.2.2.2.2.2.2.2.2.2.2.2.2.2.2.2.2.2.2.2.2.2.2.2.2.2.1, u1.2.2.2.2.2.2.2.2.2.2.2.2.2.2.2.2.2.2.2.2.2.2.2.2.2.2.2.2.1, u1.2.2.2.2.2.2.2.2.2.2.2.2.2.2.2.2.2.2.2.2.2.2.2.2.2.2.2.2.2.1, u1.2.2.2.2.2.2.2.2.2.2.2.2.2.2.2.2.2.2.2.2.2.2.2.2.2.2.2.2.2.2.1, u1.2.2.2.2.2.2.2.2.2.2.2.2.2.2.2.2.2.2.2.2.2.2.2.2.2.2.2.2.2.2.2.1, u1.2.2.2.2.2.2.2.2.2.2.2.2.2.2.2.2.2.2.2.2.2.2.2.2.2.2.2.2.2.2.2.2.1, u1.2.2.2.2.2.2.2.2.2.2.2.2.2.2.2.2.2.2.2.2.2.2.2.2.2.2.2.2.2.2.2.2.2.1, u1.2.2.2.2.2.2.2.2.2.2.2.2.2.2.2.2.2.2.2.2.2.2.2.2.2.2.2.2.2.2.2.2.2.2.1, u1.2.2.2.2.2.2.2.2.2.2.2.2.2.2.2.2.2.2.2.2.2.2.2.2.2.2.2.2.2.2.2.2.2.2.2.1, u1.2.2.2.2.2.2.2.2.2.2.2.2.2.2.2.2.2.2.2.2.2.2.2.2.2.2.2.2.2.2.2.2.2.2.2.2.1, u1.2.2.2.2.2.2.2.2.2.2.2.2.2.2.2.2.2.2.2.2.2.2.2.2.2.2.2.2.2.2.2.2.2.2.2.2.2.1, u1.2.2.2.2.2.2.2.2.2.2.2.2.2.2.2.2.2.2.2.2.2.2.2.2.2.2.2.2.2.2.2.2.2.2.2.2.2.2.1, u1.2.2.2.2.2.2.2.2.2.2.2.2.2.2.2.2.2.2.2.2.2.2.2.2.2.2.2.2.2.2.2.2.2.2.2.2.2.2.2.1, u1.2.2.2.2.2.2.2.2.2.2.2.2.2.2.2.2.2.2.2.2.2.2.2.2.2.2.2.2.2.2.2.2.2.2.2.2.2.2.2.2.1, u1.2.2.2.2.2.2.2.2.2.2.2.2.2.2.2.2.2.2.2.2.2.2.2.2.2.2.2.2.2.2.2.2.2.2.2.2.2.2.2.2.2.1, u1.2.2.2.2.2.2.2.2.2.2.2.2.2.2.2.2.2.2.2.2.2.2.2.2.2.2.2.2.2.2.2.2.2.2.2.2.2.2.2.2.2.2.1, u1.2.2.2.2.2.2.2.2.2.2.2.2.2.2.2.2.2.2.2.2.2.2.2.2.2.2.2.2.2.2.2.2.2.2.2.2.2.2.2.2.2.2.2.1, u1.2.2.2.2.2.2.2.2.2.2.2.2.2.2.2.2.2.2.2.2.2.2.2.2.2.2.2.2.2.2.2.2.2.2.2.2.2.2.2.2.2.2.2.2.1, u1.2.2.2.2.2.2.2.2.2.2.2.2.2.2.2.2.2.2.2.2.2.2.2.2.2.2.2.2.2.2.2.2.2.2.2.2.2.2.2.2.2.2.2.2.2, u12.2.1, u12.2.2.1, u12.2.2.2, sn))
    (hK0 : ¬ ((yTc (yBt R fs fe) (yLv M al) 160).1 = N ∧ ∀ r, r < (yTc (yBt R fs fe) (yLv M al) 160).1 → yRok (yNd F T) rs (yTc (yBt R fs fe) (yLv M al) 160).2.1 (yTc (yBt R fs fe) (yLv M al) 160).2.2.1 r) → ∀ sn, K 0 (u1.1, u1.2.1, u1.2.2.1, u1.2.2.2.1, u1.2.2.2.2.1, u1.2.2.2.2.2.1, u1.2.2.2.2.2.2.1, u1.2.2.2.2.2.2.2.1, u1.2.2.2.2.2.2.2.2.1, u1.2.2.2.2.2.2.2.2.2.1, u1.2.2.2.2.2.2.2.2.2.2.1, u1.2.2.2.2.2.2.2.2.2.2.2.1, u1.2.2.2.2.2.2.2.2.2.2.2.2.1, u1.2.2.2.2.2.2.2.2.2.2.2.2.2.1, u1.2.2.2.2.2.2.2.2.2.2.2.2.2.2.1, u12.1, u1.2.2.2.2.2.2.2.2.2.2.2.2.2.2.2.1, u1.2.2.2.2.2.2.2.2.2.2.2.2.2.2.2.2.1, u1.2.2.2.2.2.2.2.2.2.2.2.2.2.2.2.2.2.1, u1.2.2.2.2.2.2.2.2.2.2.2.2.2.2.2.2.2.2.1, u1.2.2.2.2.2.2.2.2.2.2.2.2.2.2.2.2.2.2.2.1, u1.2.2.2.2.2.2.2.2.2.2.2.2.2.2.2.2.2.2.2.2.1, u1.2.2.2.2.2.2.2.2.2.2.2.2.2.2.2.2.2.2.2.2.2.1, u1.2.2.2.2.2.2.2.2.2.2.2.2.2.2.2.2.2.2.2.2.2.2.1, u1.2.2.2.2.2.2.2.2.2.2.2.2.2.2.2.2.2.2.2.2.2.2.2.1, u1.2.2.2.2.2.2.2.2.2.2.2.2.2.2.2.2.2.2.2.2.2.2.2.2.1, u1.2.2.2.2.2.2.2.2.2.2.2.2.2.2.2.2.2.2.2.2.2.2.2.2.2.1, u1.2.2.2.2.2.2.2.2.2.2.2.2.2.2.2.2.2.2.2.2.2.2.2.2.2.2.1, u1.2.2.2.2.2.2.2.2.2.2.2.2.2.2.2.2.2.2.2.2.2.2.2.2.2.2.2.1, u1.2.2.2.2.2.2.2.2.2.2.2.2.2.2.2.2.2.2.2.2.2.2.2.2.2.2.2.2.1, u1.2.2.2.2.2.2.2.2.2.2.2.2.2.2.2.2.2.2.2.2.2.2.2.2.2.2.2.2.2.1, u1.2.2.2.2.2.2.2.2.2.2.2.2.2.2.2.2.2.2.2.2.2.2.2.2.2.2.2.2.2.2.1, u1.2.2.2.2.2.2.2.2.2.2.2.2.2.2.2.2.2.2.2.2.2.2.2.2.2.2.2.2.2.2.2.1, u1.2.2.2.2.2.2.2.2.2.2.2.2.2.2.2.2.2.2.2.2.2.2.2.2.2.2.2.2.2.2.2.2.1, u1.2.2.2.2.2.2.2.2.2.2.2.2.2.2.2.2.2.2.2.2.2.2.2.2.2.2.2.2.2.2.2.2.2.1, u1.2.2.2.2.2.2.2.2.2.2.2.2.2.2.2.2.2.2.2.2.2.2.2.2.2.2.2.2.2.2.2.2.2.2.1, u1.2.2.2.2.2.2.2.2.2.2.2.2.2.2.2.2.2.2.2.2.2.2.2.2.2.2.2.2.2.2.2.2.2.2.2.1, u1.2.2.2.2.2.2.2.2.2.2.2.2.2.2.2.2.2.2.2.2.2.2.2.2.2.2.2.2.2.2.2.2.2.2.2.2.1, u1.2.2.2.2.2.2.2.2.2.2.2.2.2.2.2.2.2.2.2.2.2.2.2.2.2.2.2.2.2.2.2.2.2.2.2.2.2.1, u1.2.2.2.2.2.2.2.2.2.2.2.2.2.2.2.2.2.2.2.2.2.2.2.2.2.2.2.2.2.2.2.2.2.2.2.2.2.2.1, u1.2.2.2.2.2.2.2.2.2.2.2.2.2.2.2.2.2.2.2.2.2.2.2.2.2.2.2.2.2.2.2.2.2.2.2.2.2.2.2.1, u1.2.2.2.2.2.2.2.2.2.2.2.2.2.2.2.2.2.2.2.2.2.2.2.2.2.2.2.2.2.2.2.2.2.2.2.2.2.2.2.2.1, u1.2.2.2.2.2.2.2.2.2.2.2.2.2.2.2.2.2.2.2.2.2.2.2.2.2.2.2.2.2.2.2.2.2.2.2.2.2.2.2.2.2.1, u1.2.2.2.2.2.2.2.2.2.2.2.2.2.2.2.2.2.2.2.2.2.2.2.2.2.2.2.2.2.2.2.2.2.2.2.2.2.2.2.2.2.2.1, u1.2.2.2.2.2.2.2.2.2.2.2.2.2.2.2.2.2.2.2.2.2.2.2.2.2.2.2.2.2.2.2.2.2.2.2.2.2.2.2.2.2.2.2.1, u1.2.2.2.2.2.2.2.2.2.2.2.2.2.2.2.2.2.2.2.2.2.2.2.2.2.2.2.2.2.2.2.2.2.2.2.2.2.2.2.2.2.2.2.2.1, u1.2.2.2.2.2.2.2.2.2.2.2.2.2.2.2.2.2.2.2.2.2.2.2.2.2.2.2.2.2.2.2.2.2.2.2.2.2.2.2.2.2.2.2.2.2, u12.2.1, u12.2.2.1, u12.2.2.2, sn)) :
    ∃ n, wLX9_dualBack_17 (Int32.ofNat N) (Int32.ofNat M) alv frm too rz u1 u12 K n f57 0 := by
  have hP : ∀ e, yLv M al e = true → yLv M al (yPt e) = true := fun e he => yLv_pt he
  have hLM : ∀ e, yLv M al e = true → e < 2*M := fun e he => (yLv_iff.1 he).1
  have hL := yBt_closed hE hP
  have keep := yTc_keeps hL
  have e160 : (160 : Int32) = Int32.ofNat 160 := rfl
  have e2 : (2 : Int32) = Int32.ofNat 2 := rfl
  have hstop : yTc (yBt R fs fe) (yLv M al) 160 = yTc (yBt R fs fe) (yLv M al) (2*M) := by
    have := yTc_stop (β := yBt R fs fe) (L := yLv M al) (m := 2*M) (fun e he => by unfold yLv; rw [decide_eq_false (by omega)]; rfl) (160-2*M)
    rw [show 2*M + (160-2*M) = 160 by omega] at this; exact this
  rw [hstop] at hK1 hK0
  have h43 : ∀ d e sn fl, 2*M - e = d → e ≤ 2*M → ySn (yTc (yBt R fs fe) (yLv M al) e).2.2.2 sn → yFlg (∀ r, r < (yTc (yBt R fs fe) (yLv M al) e).1 → yRok (yNd F T) rs (yTc (yBt R fs fe) (yLv M al) e).2.1 (yTc (yBt R fs fe) (yLv M al) e).2.2.1 r) fl →
      wLX9_dualBack_43 (Int32.ofNat N) (Int32.ofNat M) alv frm too rz u1 u12 K (d+1) sn (Int32.ofNat (yTc (yBt R fs fe) (yLv M al) e).1) fl (Int32.ofNat e) := by
    intro d
    induction d with
    | zero =>
      intro e sn fl hd he hsn hfl
      have : e = 2*M := by omega
      subst this
      have c160 := yTI_few (keep (2*M)).1 (keep (2*M)).2.1
      unfold wLX9_dualBack_43
      rw [yn_2, yn_inj (a := (yTc (yBt R fs fe) (yLv M al) (2*M)).1) (b := N) (by omega) (by omega)]
      refine ⟨fun _ => ⟨fun q => hK0 (fun hh => ?_) sn, fun q => ⟨fun z => hK0 (fun hh => z hh.1) sn, fun z => hK1 ⟨z, ?_⟩ sn⟩⟩, fun hh => ?_⟩
      · rw [hfl.1 hh.2] at q; exact absurd q (by decide)
      · apply Classical.byContradiction
        intro hn; exact q (hfl.2 hn)
      · exfalso; apply hh; rw [yn_le (by omega) (by omega)]; omega
    | succ d ih =>
      intro e sn fl hd he hsn hfl
      have ee : Int32.ofNat e + 1 = Int32.ofNat (e+1) := yn_add e 1
      obtain ⟨cI, cR, cL, cA⟩ := keep e
      have c160 := yTI_few cI cR
      have skip : ¬ (yLv M al e = true ∧ (yTc (yBt R fs fe) (yLv M al) e).2.2.2 e = 0) → yTc (yBt R fs fe) (yLv M al) (e+1) = yTc (yBt R fs fe) (yLv M al) e := by
        intro hc
        show (if _ ∧ _ then _ else _) = _
        rw [if_neg hc]
      have goon : yTc (yBt R fs fe) (yLv M al) (e+1) = yTc (yBt R fs fe) (yLv M al) e → wLX9_dualBack_43 (Int32.ofNat N) (Int32.ofNat M) alv frm too rz u1 u12 K (d+1) sn (Int32.ofNat (yTc (yBt R fs fe) (yLv M al) e).1) fl (Int32.ofNat (e+1)) := by
        intro e1
        have := ih (e+1) sn fl (by omega) (by omega) (by rw [e1]; exact hsn) (by rw [e1]; exact hfl)
        rw [e1] at this; exact this
      unfold wLX9_dualBack_43
      rw [ee, yn_2, e2, yn_div (by omega) (by omega), yn_nat (by omega : e/2 < 2147483648), yn_nat (by omega : e < 2147483648), hsn e (by omega)]
      refine ⟨fun hh => ?_, fun _ => ⟨yn_in (by omega) (by omega), fun hz' => goon (skip (fun hh => ?_)), fun hnz => ⟨yn_in (by omega) (by omega), fun h0' => ?_, fun h1' => goon (skip (fun hh => ?_))⟩⟩⟩
      · exfalso; rw [yn_le (by omega) (by omega)] at hh; omega
      · have h3 := (yLv_iff.1 hh.1).2
        rw [(yBo_iff hB (by omega)).1 hz'] at h3; exact absurd h3 (by decide)
      · have hLe : yLv M al e = true := by
          rw [yLv_iff]
          refine ⟨by omega, ?_⟩
          cases c : al (e/2) with
          | true => rfl
          | false => exact absurd ((yBo_iff hB (by omega)).2 c) hnz
        have h00 : (yTc (yBt R fs fe) (yLv M al) e).2.2.2 e = 0 := by
          apply Classical.byContradiction
          intro c
          rw [if_neg c] at h0'; exact absurd h0' (by decide)
        have e1 : yTc (yBt R fs fe) (yLv M al) (e+1) = yWk (yBt R fs fe) (yTc (yBt R fs fe) (yLv M al) e).1 160 e (yTo (yTc (yBt R fs fe) (yLv M al) e)) := by
          show (if _ ∧ _ then _ else _) = _
          rw [if_pos ⟨hLe, h00⟩]
        have ek := yWk_keeps hL (yTc (yBt R fs fe) (yLv M al) e).1 160 e (yTo (yTc (yBt R fs fe) (yLv M al) e)) (yTI_opn cI) (Nat.lt_succ_self _) hLe cL
        have e3 : (yTc (yBt R fs fe) (yLv M al) (e+1)).1 = (yTc (yBt R fs fe) (yLv M al) e).1 + 1 := by
          rw [e1]; exact ek.2.1
        obtain ⟨dI, dR, dL, dA⟩ := keep (e+1)
        have d160 := yTI_few dI dR
        -- the first end of the new round
        have hfirst : (yTc (yBt R fs fe) (yLv M al) (e+1)).2.2.1 (yTc (yBt R fs fe) (yLv M al) e).1 0 = e := by
          rw [e1]
          have hto0 : (yTo (yTc (yBt R fs fe) (yLv M al) e)).2.1 (yTc (yBt R fs fe) (yLv M al) e).1 = 0 := by
            show (if (yTc (yBt R fs fe) (yLv M al) e).1 = (yTc (yBt R fs fe) (yLv M al) e).1 then 0 else _) = 0
            rw [if_pos rfl]
          have hstep : yWk (yBt R fs fe) (yTc (yBt R fs fe) (yLv M al) e).1 160 e (yTo (yTc (yBt R fs fe) (yLv M al) e)) = yWk (yBt R fs fe) (yTc (yBt R fs fe) (yLv M al) e).1 159 (yBt R fs fe (yPt e)) (yPut (yTc (yBt R fs fe) (yLv M al) e).1 e (yTo (yTc (yBt R fs fe) (yLv M al) e))) := by
            show (if (yTo (yTc (yBt R fs fe) (yLv M al) e)).2.2.2 e = 0 then _ else _) = _
            rw [if_pos (show (yTo (yTc (yBt R fs fe) (yLv M al) e)).2.2.2 e = 0 from h00)]
          rw [hstep]
          have hlt : 0 < (yPut (yTc (yBt R fs fe) (yLv M al) e).1 e (yTo (yTc (yBt R fs fe) (yLv M al) e))).2.1 (yTc (yBt R fs fe) (yLv M al) e).1 := by
            show 0 < (if (yTc (yBt R fs fe) (yLv M al) e).1 = (yTc (yBt R fs fe) (yLv M al) e).1 then _ + 1 else _)
            rw [if_pos rfl]; omega
          rw [(yWk_rows (yBt R fs fe) (yTc (yBt R fs fe) (yLv M al) e).1 159 (yBt R fs fe (yPt e)) (yPut (yTc (yBt R fs fe) (yLv M al) e).1 e (yTo (yTc (yBt R fs fe) (yLv M al) e)))).2 0 hlt]
          show (if (yTc (yBt R fs fe) (yLv M al) e).1 = (yTc (yBt R fs fe) (yLv M al) e).1 ∧ 0 = (yTo (yTc (yBt R fs fe) (yLv M al) e)).2.1 (yTc (yBt R fs fe) (yLv M al) e).1 then e else _) = e
          rw [if_pos ⟨rfl, hto0.symm⟩]
        have hsame : ∀ r, r < (yTc (yBt R fs fe) (yLv M al) e).1 → (yTc (yBt R fs fe) (yLv M al) (e+1)).2.1 r = (yTc (yBt R fs fe) (yLv M al) e).2.1 r ∧ ∀ i, (yTc (yBt R fs fe) (yLv M al) (e+1)).2.2.1 r i = (yTc (yBt R fs fe) (yLv M al) e).2.2.1 r i := by
          intro r hr
          rw [e1]
          have := (yWk_rows (yBt R fs fe) (yTc (yBt R fs fe) (yLv M al) e).1 160 e (yTo (yTc (yBt R fs fe) (yLv M al) e))).1 r (by omega)
          refine ⟨?_, this.2⟩
          rw [this.1]
          show (if r = (yTc (yBt R fs fe) (yLv M al) e).1 then 0 else _) = _
          rw [if_neg (by omega)]
        have hzo : yS (yTo (yTc (yBt R fs fe) (yLv M al) e)).1 (yTo (yTc (yBt R fs fe) (yLv M al) e)).2.1 = yS (yTc (yBt R fs fe) (yLv M al) e).1 (yTc (yBt R fs fe) (yLv M al) e).2.1 := by
          show yS (yTc (yBt R fs fe) (yLv M al) e).1 _ + (if (yTc (yBt R fs fe) (yLv M al) e).1 = (yTc (yBt R fs fe) (yLv M al) e).1 then 0 else _) = _
          rw [if_pos rfl, Nat.add_zero]
          apply yS_congr; intro i hi; exact if_neg (by omega)
        have hto0 : (yTo (yTc (yBt R fs fe) (yLv M al) e)).2.1 (yTc (yBt R fs fe) (yLv M al) e).1 = 0 := by
          show (if (yTc (yBt R fs fe) (yLv M al) e).1 = (yTc (yBt R fs fe) (yLv M al) e).1 then 0 else _) = 0
          rw [if_pos rfl]
        have hgo := w9_dual85 hN hM hF hfr hto hLM hP hz u1 u12 K h hR hE hfo hfo0 (Int32.ofNat N) (Int32.ofNat M) hLe (by omega : (yTc (yBt R fs fe) (yLv M al) e).1 < 160) (∀ r, r < (yTc (yBt R fs fe) (yLv M al) e).1 → yRok (yNd F T) rs (yTc (yBt R fs fe) (yLv M al) e).2.1 (yTc (yBt R fs fe) (yLv M al) e).2.2.1 r)
          (fun z0 z1 z2 z3 => (wLX9_dualBack_43 (Int32.ofNat N) (Int32.ofNat M) alv frm too rz u1 u12 K (d+1)) z0 z1 z2 z3) 160 e (yTo (yTc (yBt R fs fe) (yLv M al) e)) sn fl (yTI_opn cI) rfl hLe cL (by omega) hsn (yFlg_congr hfl (by
            rw [hto0]
            exact ⟨fun p => ⟨p, fun i hi => absurd hi (Nat.not_lt_zero _)⟩, fun p => p.1⟩)) (by
            intro sn' fl' a1 a2
            rw [← e1] at a1 a2
            have := ih (e+1) sn' fl' (by omega) (by omega) a1 (yFlg_congr a2 (by
              rw [e3]
              constructor
              · rintro ⟨p0, p1, p2⟩ r hr
                by_cases q : r = (yTc (yBt R fs fe) (yLv M al) e).1
                · rw [q]; unfold yRok; rw [hfirst]; exact ⟨p1, p2⟩
                · have := p0 r (by omega)
                  have hs' := hsame r (by omega)
                  unfold yRok at this ⊢
                  rw [hs'.1, hs'.2 0]
                  exact ⟨fun i hi => by rw [hs'.2 i]; exact this.1 i hi, this.2⟩
              · intro p
                have hlast := p _ (Nat.lt_succ_self _)
                unfold yRok at hlast
                rw [hfirst] at hlast
                refine ⟨fun r hr => ?_, hlast.1, hlast.2⟩
                have := p r (by omega)
                have hs' := hsame r hr
                unfold yRok at this ⊢
                rw [hs'.1, hs'.2 0] at this
                exact ⟨fun i hi => by rw [← hs'.2 i]; exact this.1 i hi, this.2⟩))
            rw [e3] at this
            exact this)
        rw [hto0] at hgo
        exact ⟨_, hgo⟩
      · rw [if_pos hh.2] at h1'; exact absurd rfl h1'
  have h17 : ∀ d i t, 160 - i = d → i ≤ 160 → (∀ j, j < i → t j = 0) → wLX9_dualBack_17 (Int32.ofNat N) (Int32.ofNat M) alv frm too rz u1 u12 K (d+1) t (Int32.ofNat i) := by
    intro d
    induction d with
    | zero =>
      intro i t hd hi ht
      unfold wLX9_dualBack_17
      refine ⟨fun _ => ⟨_, h43 (2*M-0) 0 t 1 rfl (by omega) (fun e he => by rw [ht e (by omega)]; rfl) ⟨fun _ => rfl, fun hn => absurd (fun r hr => absurd hr (Nat.not_lt_zero _)) hn⟩⟩, fun hh => ?_⟩
      exfalso; apply hh; rw [e160, yn_le (by omega) (by omega)]; omega
    | succ d ih =>
      intro i t hd hi ht
      have ei : Int32.ofNat i + 1 = Int32.ofNat (i+1) := yn_add i 1
      unfold wLX9_dualBack_17
      rw [ei, yn_nat (by omega), ynar0]
      refine ⟨fun hh => ?_, fun _ => ⟨yn_in (by omega) (by omega), fun g hg => ih (i+1) g (by omega) (by omega) ?_⟩⟩
      · exfalso; rw [e160, yn_le (by omega) (by omega)] at hh; omega
      · intro j hj
        rw [hg]
        by_cases c : j = i
        · rw [c, yupd_same]
        · rw [yupd_ne _ _ _ _ c]; exact ht j (by omega)
  exact ⟨161, h17 160 0 f57 rfl (by omega) (fun j hj => by omega)⟩
end


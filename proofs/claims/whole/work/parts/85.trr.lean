
-- the node of an end
def yNd (F T : Nat → Nat) (e : Nat) : Nat := if e % 2 = 0 then F (e/2) else T (e/2)
-- the living ends
def yLv (M : Nat) (al : Nat → Bool) (e : Nat) : Bool := decide (e < 2*M) && al (e/2)

theorem yLv_iff {M : Nat} {al : Nat → Bool} {e : Nat} : yLv M al e = true ↔ e < 2*M ∧ al (e/2) = true := by
  unfold yLv; rw [Bool.and_eq_true, decide_eq_true_eq]

theorem yLv_pt {M : Nat} {al : Nat → Bool} {e : Nat} (h : yLv M al e = true) : yLv M al (yPt e) = true := by
  rw [yLv_iff] at h ⊢
  refine ⟨?_, by rw [yPt_half]; exact h.2⟩
  have := yPt_half e
  have h1 := h.1
  clear h
  unfold yPt at *
  split at this <;> split <;> omega

theorem w9_nodeOf {M : Nat} {F T : Nat → Nat} {frm too : Nat → Int32} (hM : M ≤ 80) (hfr : ∀ k, k < M → frm k = Int32.ofNat (F k)) (hto : ∀ k, k < M → too k = Int32.ofNat (T k)) {e : Nat} (he : e < 2*M) (i0 i1 i2 i3 i4 i5 i6 i7 i8 i9 i10 i11 i12 i13 i14 i15 i16 i17 : Int32) (K : Int32 → Unit → Prop) (hK : K (Int32.ofNat (yNd F T e)) ()) :
    wX9_nodeOf i0 i1 i2 i3 i4 i5 i6 i7 i8 i9 i10 i11 i12 i13 i14 i15 i16 i17 too frm (Int32.ofNat e) K := by
  have e2 : (2 : Int32) = Int32.ofNat 2 := rfl
  have h0 : (0 : Int32) = Int32.ofNat 0 := rfl
  unfold wX9_nodeOf
  rw [e2, yn_jmod (by omega) (by omega), yn_div (by omega) (by omega), yn_nat (by omega), hfr (e/2) (by omega), hto (e/2) (by omega)]
  refine ⟨fun hne => ⟨yn_in (by omega) (by omega), ?_⟩, fun he' => ⟨yn_in (by omega) (by omega), ?_⟩⟩
  · unfold yNd at hK
    rw [if_neg] at hK
    · exact hK
    · intro c; apply hne; rw [c, h0]
  · unfold yNd at hK
    rw [if_pos] at hK
    · exact hK
    · rw [h0] at he'; exact (yn_inj (by omega) (by omega)).1 he'

section
variable {N M : Nat} {F T : Nat → Nat} {L : Nat → Bool} {rs : Nat → Nat} {rw' : Nat → Nat → Nat} {frm too : Nat → Int32}

theorem w9_behind30 (hN : N ≤ 20) {f21 f22 : Nat → Int32} {p0 : Int32} {rz : Nat → Int32} (h : yRr N rs rw' rz f21) (hp : ¬ p0 = 0) {v i : Nat} (hv : v < N) (hi : i < rs v) (hu : ∀ j, j < rs v → rw' v j = rw' v i → j = i) (K : Int32 → Unit → Prop) (hK : K (Int32.ofNat (rw' v (if i + 1 < rs v then i + 1 else 0))) ()) :
    ∀ d k, i - k = d → k ≤ i → wLX9_behind_30 f21 f22 p0 (Int32.ofNat (rw' v i)) (Int32.ofNat v) (Int32.ofNat (rs v)) K (d+1) (Int32.ofNat k) := by
  obtain ⟨h1, h2, h3, h4⟩ := h
  have h160 := h3 v hv
  have hb := h4 v i hv hi
  have h0 : (0 : Int32) = Int32.ofNat 0 := rfl
  intro d
  induction d with
  | zero =>
    intro k hd hk
    have : k = i := by omega
    subst this
    have ek : Int32.ofNat k + 1 = Int32.ofNat (k+1) := yn_add k 1
    have hm : (if k + 1 < rs v then k + 1 else 0) = (k+1) % rs v := by
      split
      · rw [Nat.mod_eq_of_lt (by omega)]
      · rw [show k + 1 = rs v by omega, Nat.mod_self]
    have hml : (k+1) % rs v < rs v := Nat.mod_lt _ (by omega)
    rw [hm] at hK
    unfold wLX9_behind_30
    rw [ek, yn_160, yn_nat (by omega), yn_jmod (by omega) (by omega)]
    refine ⟨fun c => ⟨yn_in (by omega) (by omega), fun _ => ⟨(by rw [h0, yn_inj (by omega) (by omega)]; omega), fun v80 h80 => ⟨fun c2 => ⟨by rw [h80, yn_160]; exact yn_in (by omega) (by omega), by rw [h80, yn_160, yn_nat (by omega), h2 v _ hv hml]; exact hK⟩, fun c2 => absurd c2 hp⟩⟩, fun hne => absurd (h2 v k hv (by omega)) hne⟩, fun c => absurd c hp⟩
  | succ d ih =>
    intro k hd hk
    have ek : Int32.ofNat k + 1 = Int32.ofNat (k+1) := yn_add k 1
    have hk4 := h4 v k hv (by omega)
    unfold wLX9_behind_30
    rw [ek, yn_160, yn_nat (by omega)]
    refine ⟨fun c => ⟨yn_in (by omega) (by omega), fun he => (by rw [h2 v k hv (by omega)] at he; have := hu k (by omega) ((yn_inj (by omega) (by omega)).1 he); omega), fun _ => ih (k+1) (by omega) (by omega)⟩, fun c => absurd c hp⟩

theorem w9_behind30_1 (hN : N ≤ 20) {f21 f22 : Nat → Int32} {p0 : Int32} {rz : Nat → Int32} (h : yRr N rs rw' rz f22) (hp : p0 = 0) {v i : Nat} (hv : v < N) (hi : i < rs v) (hu : ∀ j, j < rs v → rw' v j = rw' v i → j = i) (K : Int32 → Unit → Prop) (hK : K (Int32.ofNat (rw' v (if i + 1 < rs v then i + 1 else 0))) ()) :
    ∀ d k, i - k = d → k ≤ i → wLX9_behind_30_1 f21 f22 p0 (Int32.ofNat (rw' v i)) (Int32.ofNat v) (Int32.ofNat (rs v)) K (d+1) (Int32.ofNat k) := by
  obtain ⟨h1, h2, h3, h4⟩ := h
  have h160 := h3 v hv
  have hb := h4 v i hv hi
  have h0 : (0 : Int32) = Int32.ofNat 0 := rfl
  intro d
  induction d with
  | zero =>
    intro k hd hk
    have : k = i := by omega
    subst this
    have ek : Int32.ofNat k + 1 = Int32.ofNat (k+1) := yn_add k 1
    have hm : (if k + 1 < rs v then k + 1 else 0) = (k+1) % rs v := by
      split
      · rw [Nat.mod_eq_of_lt (by omega)]
      · rw [show k + 1 = rs v by omega, Nat.mod_self]
    have hml : (k+1) % rs v < rs v := Nat.mod_lt _ (by omega)
    rw [hm] at hK
    unfold wLX9_behind_30_1
    rw [ek, yn_160, yn_nat (by omega), yn_jmod (by omega) (by omega)]
    refine ⟨fun c => absurd hp c, fun c => ⟨yn_in (by omega) (by omega), fun _ => ⟨(by rw [h0, yn_inj (by omega) (by omega)]; omega), fun v80 h80 => ⟨fun c2 => absurd hp c2, fun c2 => ⟨by rw [h80, yn_160]; exact yn_in (by omega) (by omega), by rw [h80, yn_160, yn_nat (by omega), h2 v _ hv hml]; exact hK⟩⟩⟩, fun hne => absurd (h2 v k hv (by omega)) hne⟩⟩
  | succ d ih =>
    intro k hd hk
    have ek : Int32.ofNat k + 1 = Int32.ofNat (k+1) := yn_add k 1
    have hk4 := h4 v k hv (by omega)
    unfold wLX9_behind_30_1
    rw [ek, yn_160, yn_nat (by omega)]
    refine ⟨fun c => absurd hp c, fun c => ⟨yn_in (by omega) (by omega), fun he => (by rw [h2 v k hv (by omega)] at he; have := hu k (by omega) ((yn_inj (by omega) (by omega)).1 he); omega), fun _ => ih (k+1) (by omega) (by omega)⟩⟩

theorem w9_behind (hM : M ≤ 80) (hN : N ≤ 20) (hfr : ∀ k, k < M → frm k = Int32.ofNat (F k)) (hto : ∀ k, k < M → too k = Int32.ofNat (T k)) (hE : yEr N (yNd F T) (fun e => L e = true) rs rw') (hLM : ∀ e, L e = true → e < 2*M) {rz ro tn tz : Nat → Int32} {p0 : Int32} (h0 : p0 = 0 → yRr N rs rw' tz tn) (h1 : ¬ p0 = 0 → yRr N rs rw' rz ro) {e : Nat} (he : L e = true)
    (i0 i1 i2 i3 i4 i5 i6 i7 i8 i9 i10 i11 i12 i13 i14 i15 i16 i17 : Int32) (K : Int32 → Unit → Prop) (hK : K (Int32.ofNat (yBt N rs rw' e)) ()) :
    wX9_behind i0 i1 i2 i3 i4 i5 i6 i7 i8 i9 i10 i11 i12 i13 i14 i15 i16 i17 too frm rz ro tn tz p0 (Int32.ofNat e) K := by
  unfold wX9_behind
  refine w9_nodeOf hM hfr hto (hLM e he) _ _ _ _ _ _ _ _ _ _ _ _ _ _ _ _ _ _ _ ?_
  obtain ⟨a1, a2, i, a3, a4⟩ := hE.2.2 e he
  have hb := yBt_eq hE a2 a3
  rw [a4] at hb
  rw [hb] at hK
  refine ⟨fun c => ⟨yn_in (by omega) (by omega), fun v25 h25 => ?_⟩, fun c => ⟨yn_in (by omega) (by omega), fun v25 h25 => ?_⟩⟩
  · rw [yn_nat (by omega), (h1 c).1 _ a2] at h25
    rw [h25]
    have := w9_behind30 hN (f22 := tn) (h1 c) c a2 a3 (fun j hj ej => hE.2.1 _ j i a2 hj a3 ej) K hK (i-0) 0 rfl (by omega)
    rw [a4] at this
    exact ⟨_, this⟩
  · rw [yn_nat (by omega), (h0 c).1 _ a2] at h25
    rw [h25]
    have := w9_behind30_1 hN (f21 := ro) (h0 c) c a2 a3 (fun j hj ej => hE.2.1 _ j i a2 hj a3 ej) K hK (i-0) 0 rfl (by omega)
    rw [a4] at this
    exact ⟨_, this⟩
end

-- rounds as the reference holds them
def yRv (R : Nat) (fs : Nat → Nat) (fe : Nat → Nat → Nat) (st en : Nat → Int32) : Prop :=
  (∀ v, v < R → st v = Int32.ofNat (yS v fs)) ∧ (∀ v i, v < R → i < fs v → en (yS v fs + i) = Int32.ofNat (fe v i))

theorem yRv_put {r : Nat} {fs : Nat → Nat} {fe : Nat → Nat → Nat} {st en : Nat → Int32} (h : yRv (r+1) fs fe st en) (x : Nat) :
    yRv (r+1) (fun u => if u = r then fs r + 1 else fs u) (fun u i => if u = r ∧ i = fs r then x else fe u i) st (upd en (yS (r+1) fs) (Int32.ofNat x)) := by
  have hlow : ∀ u, u ≤ r → yS u (fun u => if u = r then fs r + 1 else fs u) = yS u fs := by
    intro u hu; apply yS_congr; intro i hi; rw [if_neg (by omega)]
  have hS : yS (r+1) fs = yS r fs + fs r := rfl
  refine ⟨fun v hv => by rw [hlow v (by omega)]; exact h.1 v hv, fun v i hv hi => ?_⟩
  dsimp only at hi ⊢
  rw [hlow v (by omega)]
  by_cases c : v = r
  · rw [if_pos c] at hi
    subst c
    by_cases c2 : i = fs v
    · rw [if_pos ⟨rfl, c2⟩, c2, ← hS, yupd_same]
    · rw [if_neg (by omega), yupd_ne _ _ _ _ (by omega)]; exact h.2 v i hv (by omega)
  · rw [if_neg c] at hi
    have := yS_at fs (show v < r by omega)
    rw [if_neg (by omega), yupd_ne _ _ _ _ (by omega)]; exact h.2 v i hv hi

theorem yRv_opn {R : Nat} {fs : Nat → Nat} {fe : Nat → Nat → Nat} {st en : Nat → Int32} (h : yRv R fs fe st en) :
    yRv (R+1) (fun v => if v = R then 0 else fs v) fe (upd st R (Int32.ofNat (yS R fs))) en := by
  have hs : ∀ v, v ≤ R → yS v (fun v => if v = R then 0 else fs v) = yS v fs := by
    intro v hv; apply yS_congr; intro i hi; rw [if_neg (by omega)]
  refine ⟨fun v hv => ?_, fun v i hv hi => ?_⟩
  · rw [hs v (by omega)]
    by_cases c : v = R
    · rw [c, yupd_same]
    · rw [yupd_ne _ _ _ _ c]; exact h.1 v (by omega)
  · dsimp only at hi
    by_cases c : v = R
    · rw [if_pos c] at hi; omega
    · rw [if_neg c] at hi
      rw [hs v (by omega)]; exact h.2 v i (by omega) hi

section
variable {N M : Nat} {F T : Nat → Nat} {L : Nat → Bool} {rs : Nat → Nat} {rw' : Nat → Nat → Nat} {frm too : Nat → Int32}

theorem w9_trace77 (hM : M ≤ 80) (hN : N ≤ 20) (hfr : ∀ k, k < M → frm k = Int32.ofNat (F k)) (hto : ∀ k, k < M → too k = Int32.ofNat (T k)) (hE : yEr N (yNd F T) (fun e => L e = true) rs rw') (hLM : ∀ e, L e = true → e < 2*M) (hP : ∀ e, L e = true → L (yPt e) = true) {rz ro tn tz : Nat → Int32} {p0 : Int32} (h0 : p0 = 0 → yRr N rs rw' tz tn) (h1 : ¬ p0 = 0 → yRr N rs rw' rz ro)
    (i0 i1 i2 i3 i4 i5 i6 i7 i8 i9 i10 i11 i12 i13 i14 i15 i16 : Int32) {r e : Nat} (g73 : Nat → Int32) (K : (Int32 × (Nat → Int32) × (Nat → Int32) × (Nat → Int32)) → Prop) (B : (Nat → Int32) → (Nat → Int32) → (Nat → Int32) → Int32 → Int32 → Int32 → Prop) (hr : r < 160) :
    ∀ n x s fo re, yTI s → s.1 = r + 1 → L x = true → (∀ e, s.2.2.2 e ≠ 0 → L e = true) → 160 ≤ n + yS s.1 s.2.1 → yRv (r+1) s.2.1 s.2.2.1 g73 re → yFq s.2.2.2 fo →
    (∀ fo' re', yRv (r+1) (yWk (yBt N rs rw') r n x s).2.1 (yWk (yBt N rs rw') r n x s).2.2.1 g73 re' → yFq (yWk (yBt N rs rw') r n x s).2.2.2 fo' → B fo' g73 re' (Int32.ofNat (r+1)) (Int32.ofNat (yS (r+1) (yWk (yBt N rs rw') r n x s).2.1)) (Int32.ofNat (e+1))) →
    wLX9_trace_77 i0 i1 i2 i3 i4 i5 i6 i7 i8 i9 i10 i11 i12 i13 i14 i15 i16 too frm rz ro tn tz p0 (Int32.ofNat r) (Int32.ofNat e) g73 K B (n+1) fo re (Int32.ofNat (yS s.1 s.2.1)) (Int32.ofNat x) := by
  have hL := yBt_closed hE hP
  have er : Int32.ofNat r + 1 = Int32.ofNat (r+1) := yn_add r 1
  have ee : Int32.ofNat e + 1 = Int32.ofNat (e+1) := yn_add e 1
  intro n
  induction n with
  | zero =>
    intro x s fo re hI hs hx hm hn hv hf hK
    have hlx := hL x hx
    have hne : s.2.2.2 x ≠ 0 := by
      intro c
      have := yTI_room hI (r := r) (by omega) hlx.1 c
      omega
    unfold wLX9_trace_77
    rw [er, ee, yn_nat (by omega), hf x hlx.1, if_neg hne]
    have hr2 : s.2.2.2 x - 1 < s.1 := (hI.2.2 x hne).2.1
    refine ⟨yn_in (by omega) (by omega), fun _ v h => ?_, fun hh => absurd (yn_ge (by omega)) hh⟩
    rw [h, hs]; exact hK fo re hv hf
  | succ n ih =>
    intro x s fo re hI hs hx hm hn hv hf hK
    have hlx := hL x hx
    have hlp := hL _ hlx.2.1
    have hlt := yPt_lt hlx.1
    unfold wLX9_trace_77
    by_cases c : s.2.2.2 x = 0
    · have hroom := yTI_room hI (r := r) (by omega) hlx.1 c
      have hw : yWk (yBt N rs rw') r (n+1) x s = yWk (yBt N rs rw') r n (yBt N rs rw' (yPt x)) (yPut r x s) := by
        show (if s.2.2.2 x = 0 then _ else s) = _
        rw [if_pos c]
      have hn1 : Int32.ofNat (yS s.1 s.2.1) + 1 = Int32.ofNat (yS s.1 s.2.1 + 1) := yn_add _ 1
      have hinc : yS (yPut r x s).1 (yPut r x s).2.1 = yS s.1 s.2.1 + 1 := yS_inc s.1 r s.2.1 (by omega)
      rw [er, ee, yn_xor hlx.1, yn_nat (by omega), yn_nat (by omega), hf x hlx.1, if_pos c]
      refine ⟨yn_in (by omega) (by omega), fun hh => absurd hh yn_ge1, fun _ => ⟨yn_in (by omega) (by omega), fun g97 h97 => ⟨yn_in (by omega) (by omega), fun g105 h105 => ?_⟩⟩⟩
      refine w9_behind hM hN hfr hto hE hLM h0 h1 hlx.2.1 _ _ _ _ _ _ _ _ _ _ _ _ _ _ _ _ _ _ _ ?_
      rw [hn1, ← hinc, h97, h105]
      refine ih (yBt N rs rw' (yPt x)) (yPut r x s) _ _ (yTI_put hI (by omega) hlx.1 c) hs hlp.2.2 ?_ ?_ ?_ (yFq_put hf) ?_
      · intro e' he'
        have he2 : (if e' = x then r + 1 else s.2.2.2 e') ≠ 0 := he'
        by_cases d : e' = x
        · rw [d]; exact hx
        · rw [if_neg d] at he2; exact hm e' he2
      · rw [hinc]; omega
      · rw [hs]; exact yRv_put hv x
      · intro fo2 re2 a1 a2
        rw [← hw] at a1 a2 ⊢
        exact hK fo2 re2 a1 a2
    · have hw : yWk (yBt N rs rw') r (n+1) x s = s := by
        show (if s.2.2.2 x = 0 then _ else s) = s
        rw [if_neg c]
      have hr2 : s.2.2.2 x - 1 < s.1 := (hI.2.2 x c).2.1
      rw [hw] at hK
      rw [er, ee, yn_nat (by omega), hf x hlx.1, if_neg c]
      refine ⟨yn_in (by omega) (by omega), fun _ v h => ?_, fun hh => absurd (yn_ge (by omega)) hh⟩
      rw [h, hs]; exact hK fo re hv hf

theorem w9_trace {al : Nat → Bool} {alv : Nat → Int32} (hal : yBo M al alv) (hM : M ≤ 80) (hN : N ≤ 20) (hfr : ∀ k, k < M → frm k = Int32.ofNat (F k)) (hto : ∀ k, k < M → too k = Int32.ofNat (T k)) (hE : yEr N (yNd F T) (fun e => yLv M al e = true) rs rw') {rz ro tn tz : Nat → Int32} {p0 : Int32} (h0 : p0 = 0 → yRr N rs rw' tz tn) (h1 : ¬ p0 = 0 → yRr N rs rw' rz ro)
    (i0 i1 i2 i3 i4 i5 i6 i7 i8 i9 i10 i11 i12 i13 i14 i15 i16 i17 : Int32) (f18 f19 f21 : Nat → Int32) (K : (Int32 × (Nat → Int32) × (Nat → Int32) × (Nat → Int32)) → Prop) (hi1 : i1 = Int32.ofNat M)
    (hK : ∀ fo' st' en', yFq (yTc (yBt N rs rw') (yLv M al) 160).2.2.2 fo' → yRw (yTc (yBt N rs rw') (yLv M al) 160).1 (yTc (yBt N rs rw') (yLv M al) 160).2.1 (yTc (yBt N rs rw') (yLv M al) 160).2.2.1 st' en' → K (Int32.ofNat (yTc (yBt N rs rw') (yLv M al) 160).1, fo', st', en')) :
    wX9_trace i0 i1 i2 i3 i4 i5 i6 i7 i8 i9 i10 i11 i12 i13 i14 i15 i16 i17 f18 f19 alv f21 too frm rz ro tn tz p0 K := by
  have hP : ∀ e, yLv M al e = true → yLv M al (yPt e) = true := fun e he => yLv_pt he
  have hLM : ∀ e, yLv M al e = true → e < 2*M := fun e he => (yLv_iff.1 he).1
  have hL := yBt_closed hE hP
  have keep := yTc_keeps hL
  have e160 : (160 : Int32) = Int32.ofNat 160 := rfl
  have e2 : (2 : Int32) = Int32.ofNat 2 := rfl
  have hstop : yTc (yBt N rs rw') (yLv M al) 160 = yTc (yBt N rs rw') (yLv M al) (2*M) := by
    have := yTc_stop (β := yBt N rs rw') (L := yLv M al) (m := 2*M) (fun e he => by unfold yLv; rw [decide_eq_false (by omega)]; rfl) (160-2*M)
    rw [show 2*M + (160-2*M) = 160 by omega] at this; exact this
  rw [hstop] at hK
  subst hi1
  have h31 : ∀ d e fo st en, 2*M - e = d → e ≤ 2*M → yRv (yTc (yBt N rs rw') (yLv M al) e).1 (yTc (yBt N rs rw') (yLv M al) e).2.1 (yTc (yBt N rs rw') (yLv M al) e).2.2.1 st en → yFq (yTc (yBt N rs rw') (yLv M al) e).2.2.2 fo →
      wLX9_trace_31 i0 (Int32.ofNat M) i2 i3 i4 i5 i6 i7 i8 i9 i10 i11 i12 i13 i14 i15 i16 alv too frm rz ro tn tz p0 K (d+1) fo st en (Int32.ofNat (yTc (yBt N rs rw') (yLv M al) e).1) (Int32.ofNat (yS (yTc (yBt N rs rw') (yLv M al) e).1 (yTc (yBt N rs rw') (yLv M al) e).2.1)) (Int32.ofNat e) := by
    intro d
    induction d with
    | zero =>
      intro e fo st en hd he hv hf
      have : e = 2*M := by omega
      subst this
      obtain ⟨cI, cR, cL, cA⟩ := keep (2*M)
      have c160 := yTI_few cI cR
      have cS := yEr_sum cI (B := 160) (fun e he => (cI.2.2 e he).1)
      unfold wLX9_trace_31
      rw [yn_2, yn_nat (by omega)]
      refine ⟨fun _ => ⟨yn_in (by omega) (by omega), fun g hg => hK fo g en hf ⟨by omega, cS, fun v hv' => ?_, hv.2, fun v i hv' hi => (cI.2.2 _ (cI.1 v i hv' hi).1).1⟩⟩, fun hh => ?_⟩
      · rw [hg]
        by_cases c : v = (yTc (yBt N rs rw') (yLv M al) (2*M)).1
        · rw [c, yupd_same]
        · rw [yupd_ne _ _ _ _ c]; exact hv.1 v (by omega)
      · exfalso; apply hh; rw [yn_le (by omega) (by omega)]; omega
    | succ d ih =>
      intro e fo st en hd he hv hf
      have ee : Int32.ofNat e + 1 = Int32.ofNat (e+1) := yn_add e 1
      obtain ⟨cI, cR, cL, cA⟩ := keep e
      have c160 := yTI_few cI cR
      have skip : ¬ (yLv M al e = true ∧ (yTc (yBt N rs rw') (yLv M al) e).2.2.2 e = 0) → yTc (yBt N rs rw') (yLv M al) (e+1) = yTc (yBt N rs rw') (yLv M al) e := by
        intro hc
        show (if _ ∧ _ then _ else _) = _
        rw [if_neg hc]
      have goon : yTc (yBt N rs rw') (yLv M al) (e+1) = yTc (yBt N rs rw') (yLv M al) e → wLX9_trace_31 i0 (Int32.ofNat M) i2 i3 i4 i5 i6 i7 i8 i9 i10 i11 i12 i13 i14 i15 i16 alv too frm rz ro tn tz p0 K (d+1) fo st en (Int32.ofNat (yTc (yBt N rs rw') (yLv M al) e).1) (Int32.ofNat (yS (yTc (yBt N rs rw') (yLv M al) e).1 (yTc (yBt N rs rw') (yLv M al) e).2.1)) (Int32.ofNat (e+1)) := by
        intro e1
        have := ih (e+1) fo st en (by omega) (by omega) (by rw [e1]; exact hv) (by rw [e1]; exact hf)
        rw [e1] at this; exact this
      unfold wLX9_trace_31
      rw [ee, yn_2, e2, yn_div (by omega) (by omega), yn_nat (by omega : e/2 < 2147483648), yn_nat (by omega : e < 2147483648), yn_nat (by omega : (yTc (yBt N rs rw') (yLv M al) e).1 < 2147483648), hf e (by omega)]
      refine ⟨fun hh => ?_, fun _ => ⟨yn_in (by omega) (by omega), fun hz => goon (skip (fun hh => ?_)), fun hnz => ⟨yn_in (by omega) (by omega), fun hneg => ?_, fun hpos => goon (skip (fun hh => ?_))⟩⟩⟩
      · exfalso; rw [yn_le (by omega) (by omega)] at hh; omega
      · have h3 := (yLv_iff.1 hh.1).2
        rw [(yBo_iff hal (by omega)).1 hz] at h3; exact absurd h3 (by decide)
      · have hLe : yLv M al e = true := by
          rw [yLv_iff]
          refine ⟨by omega, ?_⟩
          cases c : al (e/2) with
          | true => rfl
          | false => exact absurd ((yBo_iff hal (by omega)).2 c) hnz
        have h00 : (yTc (yBt N rs rw') (yLv M al) e).2.2.2 e = 0 := by
          apply Classical.byContradiction
          intro c
          rw [if_neg c] at hneg
          have hr2 : (yTc (yBt N rs rw') (yLv M al) e).2.2.2 e - 1 < (yTc (yBt N rs rw') (yLv M al) e).1 := (cI.2.2 e c).2.1
          exact yn_neg (by omega) hneg
        have e1 : yTc (yBt N rs rw') (yLv M al) (e+1) = yWk (yBt N rs rw') (yTc (yBt N rs rw') (yLv M al) e).1 160 e (yTo (yTc (yBt N rs rw') (yLv M al) e)) := by
          show (if _ ∧ _ then _ else _) = _
          rw [if_pos ⟨hLe, h00⟩]
        have ek := yWk_keeps hL (yTc (yBt N rs rw') (yLv M al) e).1 160 e (yTo (yTc (yBt N rs rw') (yLv M al) e)) (yTI_opn cI) (Nat.lt_succ_self _) hLe cL
        have e3 : (yTc (yBt N rs rw') (yLv M al) (e+1)).1 = (yTc (yBt N rs rw') (yLv M al) e).1 + 1 := by
          rw [e1]; exact ek.2.1
        obtain ⟨dI, dR, dL, dA⟩ := keep (e+1)
        have d160 := yTI_few dI dR
        refine ⟨yn_in (by omega) (by omega), fun g73 h73 => ⟨161, ?_⟩⟩
        have hvo := yRv_opn hv
        rw [← h73] at hvo
        have hz : yS (yTo (yTc (yBt N rs rw') (yLv M al) e)).1 (yTo (yTc (yBt N rs rw') (yLv M al) e)).2.1 = yS (yTc (yBt N rs rw') (yLv M al) e).1 (yTc (yBt N rs rw') (yLv M al) e).2.1 := by
          show yS (yTc (yBt N rs rw') (yLv M al) e).1 _ + (if (yTc (yBt N rs rw') (yLv M al) e).1 = (yTc (yBt N rs rw') (yLv M al) e).1 then 0 else _) = _
          rw [if_pos rfl, Nat.add_zero]
          apply yS_congr; intro i hi; exact if_neg (by omega)
        have := w9_trace77 hM hN hfr hto hE hLM hP h0 h1 i0 (Int32.ofNat M) i2 i3 i4 i5 i6 i7 i8 i9 i10 i11 i12 i13 i14 i15 i16 (e := e) g73 K
          (fun z0 z1 z2 z3 z4 z5 => (wLX9_trace_31 i0 (Int32.ofNat M) i2 i3 i4 i5 i6 i7 i8 i9 i10 i11 i12 i13 i14 i15 i16 alv too frm rz ro tn tz p0 K (d+1)) z0 z1 z2 z3 z4 z5) (by omega) 160 e (yTo (yTc (yBt N rs rw') (yLv M al) e)) fo en (yTI_opn cI) rfl hLe cL (by omega) hvo hf (by
            intro fo' re' a1 a2
            have := ih (e+1) fo' g73 re' (by omega) (by omega) (by rw [e3, e1]; exact a1) (by rw [e1]; exact a2)
            rw [e3, e1] at this
            exact this)
        rw [hz] at this
        exact this
      · rw [if_pos hh.2] at hpos; exact hpos yn_m1
  have h9 : ∀ d i t, 160 - i = d → i ≤ 160 → (∀ j, j < i → t j = -1) → wLX9_trace_9 i0 (Int32.ofNat M) i2 i3 i4 i5 i6 i7 i8 i9 i10 i11 i12 i13 i14 i15 i16 f19 alv f21 too frm rz ro tn tz p0 K (d+1) t (Int32.ofNat i) := by
    intro d
    induction d with
    | zero =>
      intro i t hd hi ht
      unfold wLX9_trace_9
      refine ⟨fun _ => ⟨_, h31 (2*M-0) 0 t f19 f21 rfl (by omega) ⟨fun v hv => absurd hv (Nat.not_lt_zero _), fun v i hv hi => absurd hv (Nat.not_lt_zero _)⟩ (fun e he => by rw [ht e (by omega)]; rfl)⟩, fun hh => ?_⟩
      exfalso; apply hh; rw [e160, yn_le (by omega) (by omega)]; omega
    | succ d ih =>
      intro i t hd hi ht
      have ei : Int32.ofNat i + 1 = Int32.ofNat (i+1) := yn_add i 1
      unfold wLX9_trace_9
      rw [ei, yn_nat (by omega)]
      refine ⟨fun hh => ?_, fun _ => ⟨yn_in (by omega) (by omega), fun g hg => ih (i+1) g (by omega) (by omega) ?_⟩⟩
      · exfalso; rw [e160, yn_le (by omega) (by omega)] at hh; omega
      · intro j hj
        rw [hg]
        by_cases c : j = i
        · rw [c, yupd_same]
        · rw [yupd_ne _ _ _ _ c]; exact ht j (by omega)
  unfold wX9_trace
  exact ⟨161, h9 160 0 f18 rfl (by omega) (fun j hj => by omega)⟩
end


-- the end at v of an arc to w
def yEnl (F T : Nat → Nat) (al : Nat → Bool) (v w k : Nat) : List Nat :=
  if al k = true ∧ F k = v ∧ T k = w then [2*k] else if al k = true ∧ F k = w ∧ T k = v then [2*k+1] else []
def yAlk (M : Nat) (F T : Nat → Nat) (al : Nat → Bool) (v w : Nat) : Nat → List Nat
  | 0 => []
  | i+1 => yAlk M F T al v w i ++ yEnl F T al v w (if v < w then i else M - 1 - i)
def yNbl (M : Nat) (F T : Nat → Nat) (al : Nat → Bool) (ν : Nat → Nat → Nat) (m v : Nat) : Nat → List Nat
  | 0 => []
  | i+1 => yNbl M F T al ν m v i ++ yAlk M F T al v (yIt ν v m i) M
def yLp (F T : Nat → Nat) (al : Nat → Bool) (v k : Nat) : List Nat := if al k = true ∧ F k = v ∧ T k = v then [2*k, 2*k+1] else []
def yLps (F T : Nat → Nat) (al : Nat → Bool) (v : Nat) : Nat → List Nat
  | 0 => []
  | k+1 => yLps F T al v k ++ yLp F T al v k
-- the least neighbour
noncomputable def yLst (G : Nat → Nat → Bool) (v : Nat) : Nat := Classical.epsilon (fun m => yLw G v m)
noncomputable def yTrw (M : Nat) (F T : Nat → Nat) (al : Nat → Bool) (G : Nat → Nat → Bool) (ν : Nat → Nat → Nat) (v : Nat) : List Nat :=
  yNbl M F T al ν (yLst G v) v (yNb 32 (G v)) ++ yLps F T al v M

theorem yLst_eq {G : Nat → Nat → Bool} {v m : Nat} (h : yLw G v m) : yLst G v = m :=
  yLw_uniq (Classical.epsilon_spec (p := fun m => yLw G v m) ⟨m, h⟩) h

-- ROUND leads once to each neighbour
def yCyc (G : Nat → Nat → Bool) (ν : Nat → Nat → Nat) (v : Nat) : Prop :=
  (∀ i, i < yNb 32 (G v) → G v (yIt ν v (yLst G v) i) = true) ∧ (∀ i j, i < yNb 32 (G v) → j < yNb 32 (G v) → yIt ν v (yLst G v) i = yIt ν v (yLst G v) j → i = j) ∧
  (∀ w, G v w = true → ∃ i, i < yNb 32 (G v) ∧ w = yIt ν v (yLst G v) i)

section
variable {M : Nat} {F T : Nat → Nat} {al : Nat → Bool}

theorem yEnl_mem {v w k e : Nat} (hvw : v ≠ w) : e ∈ yEnl F T al v w k ↔ (al k = true ∧ e/2 = k ∧ yNd F T e = v ∧ yNd F T (yPt e) = w) := by
  have hA : ∀ j, yNd F T (2*j) = F j := fun j => by unfold yNd; rw [if_pos (by omega), show 2*j/2 = j by omega]
  have hB : ∀ j, yNd F T (2*j+1) = T j := fun j => by unfold yNd; rw [if_neg (by omega), show (2*j+1)/2 = j by omega]
  have pA : ∀ j, yPt (2*j) = 2*j+1 := fun j => by unfold yPt; rw [if_pos (by omega)]
  have pB : ∀ j, yPt (2*j+1) = 2*j := fun j => by unfold yPt; rw [if_neg (by omega)]; omega
  have hcase : ∀ e, e = 2*(e/2) ∨ e = 2*(e/2)+1 := fun e => by omega
  unfold yEnl
  constructor
  · intro h
    split at h
    · rename_i c
      rw [List.mem_singleton] at h
      subst h
      rw [pA, hA, hB]
      exact ⟨c.1, by omega, c.2.1, c.2.2⟩
    · split at h
      · rename_i c
        rw [List.mem_singleton] at h
        subst h
        rw [pB, hA, hB]
        exact ⟨c.1, by omega, c.2.2, c.2.1⟩
      · exact absurd h (List.not_mem_nil)
  · rintro ⟨a1, a2, a3, a4⟩
    rcases hcase e with c | c
    · rw [a2] at c
      rw [c, hA] at a3
      rw [c, pA, hB] at a4
      rw [if_pos ⟨a1, a3, a4⟩, c]; exact List.mem_singleton.2 rfl
    · rw [a2] at c
      rw [c, hB] at a3
      rw [c, pB, hA] at a4
      rw [if_neg (by rintro ⟨_, h1, h2⟩; exact hvw (by rw [← h1, a4])), if_pos ⟨a1, a4, a3⟩, c]; exact List.mem_singleton.2 rfl

theorem yEnl_cases (v w k : Nat) : yEnl F T al v w k = [] ∨ ∃ e, yEnl F T al v w k = [e] ∧ e/2 = k := by
  unfold yEnl
  split
  · exact Or.inr ⟨2*k, rfl, by omega⟩
  · split
    · exact Or.inr ⟨2*k+1, rfl, by omega⟩
    · exact Or.inl rfl

theorem yAlk_mem {v w : Nat} (hvw : v ≠ w) {e : Nat} : ∀ i, i ≤ M → (e ∈ yAlk M F T al v w i ↔ ∃ j, j < i ∧ al (e/2) = true ∧ e/2 = (if v < w then j else M-1-j) ∧ yNd F T e = v ∧ yNd F T (yPt e) = w) := by
  intro i
  induction i with
  | zero => intro _; unfold yAlk; constructor
            · intro h; exact absurd h List.not_mem_nil
            · rintro ⟨j, hj, _⟩; omega
  | succ i ih =>
    intro hi
    unfold yAlk
    rw [List.mem_append, ih (by omega), yEnl_mem hvw]
    constructor
    · rintro (⟨j, a1, a2⟩ | ⟨a1, a2, a3⟩)
      · exact ⟨j, by omega, a2⟩
      · exact ⟨i, by omega, by rw [a2]; exact a1, a2, a3⟩
    · rintro ⟨j, a1, a2, a3, a4⟩
      by_cases c : j = i
      · right; subst c; rw [a3] at a2; exact ⟨a2, a3, a4⟩
      · left; exact ⟨j, by omega, a2, a3, a4⟩

theorem yAlk_all {v w : Nat} (hvw : v ≠ w) {e : Nat} : e ∈ yAlk M F T al v w M ↔ (yLv M al e = true ∧ yNd F T e = v ∧ yNd F T (yPt e) = w) := by
  rw [yAlk_mem hvw M (Nat.le_refl _), yLv_iff]
  constructor
  · rintro ⟨j, a1, a2, a3, a4⟩
    refine ⟨⟨?_, a2⟩, a4⟩
    split at a3 <;> omega
  · rintro ⟨⟨a1, a2⟩, a3⟩
    by_cases c : v < w
    · exact ⟨e/2, by omega, a2, by rw [if_pos c], a3⟩
    · exact ⟨M-1-e/2, by omega, a2, by rw [if_neg c]; omega, a3⟩

theorem yAlk_nodup {v w : Nat} (hvw : v ≠ w) : ∀ i, i ≤ M → (yAlk M F T al v w i).Nodup := by
  intro i
  induction i with
  | zero => intro _; exact List.nodup_nil
  | succ i ih =>
    intro hi
    unfold yAlk
    rw [List.nodup_append]
    refine ⟨ih (by omega), ?_, ?_⟩
    · rcases yEnl_cases (F := F) (T := T) (al := al) v w (if v < w then i else M-1-i) with c | ⟨e, c, _⟩
      · rw [c]; exact List.nodup_nil
      · rw [c]; exact List.nodup_cons.2 ⟨List.not_mem_nil, List.nodup_nil⟩
    · intro a ha b hb hab
      subst hab
      obtain ⟨j, a1, a2, a3, a4⟩ := (yAlk_mem hvw i (by omega)).1 ha
      have h2 := ((yEnl_mem hvw).1 hb).2.1
      rw [a3] at h2
      split at h2 <;> omega

theorem yLp_mem {v k e : Nat} : e ∈ yLp F T al v k ↔ (al k = true ∧ e/2 = k ∧ yNd F T e = v ∧ yNd F T (yPt e) = v) := by
  have hA : ∀ j, yNd F T (2*j) = F j := fun j => by unfold yNd; rw [if_pos (by omega), show 2*j/2 = j by omega]
  have hB : ∀ j, yNd F T (2*j+1) = T j := fun j => by unfold yNd; rw [if_neg (by omega), show (2*j+1)/2 = j by omega]
  have pA : ∀ j, yPt (2*j) = 2*j+1 := fun j => by unfold yPt; rw [if_pos (by omega)]
  have pB : ∀ j, yPt (2*j+1) = 2*j := fun j => by unfold yPt; rw [if_neg (by omega)]; omega
  unfold yLp
  constructor
  · intro h
    split at h
    · rename_i c
      have h' : e = 2*k ∨ e = 2*k+1 := by simpa using h
      rcases h' with h' | h'
      · subst h'; rw [pA, hA, hB]; exact ⟨c.1, by omega, c.2.1, c.2.2⟩
      · subst h'; rw [pB, hA, hB]; exact ⟨c.1, by omega, c.2.2, c.2.1⟩
    · exact absurd h List.not_mem_nil
  · rintro ⟨a1, a2, a3, a4⟩
    have hcase : e = 2*k ∨ e = 2*k+1 := by omega
    rcases hcase with c | c
    · rw [c, hA] at a3
      rw [c, pA, hB] at a4
      rw [if_pos ⟨a1, a3, a4⟩, c]; simp
    · rw [c, hB] at a3
      rw [c, pB, hA] at a4
      rw [if_pos ⟨a1, a4, a3⟩, c]; simp

theorem yLps_mem {v e : Nat} : ∀ m, e ∈ yLps F T al v m ↔ (e/2 < m ∧ al (e/2) = true ∧ yNd F T e = v ∧ yNd F T (yPt e) = v) := by
  intro m
  induction m with
  | zero => unfold yLps; constructor
            · intro h; exact absurd h List.not_mem_nil
            · rintro ⟨h, _⟩; omega
  | succ m ih =>
    unfold yLps
    rw [List.mem_append, ih, yLp_mem]
    constructor
    · rintro (⟨a1, a2⟩ | ⟨a1, a2, a3⟩)
      · exact ⟨by omega, a2⟩
      · exact ⟨by omega, by rw [a2]; exact a1, a3⟩
    · rintro ⟨a1, a2, a3⟩
      by_cases c : e/2 = m
      · right; exact ⟨by rw [← c]; exact a2, c, a3⟩
      · left; exact ⟨by omega, a2, a3⟩

theorem yLps_nodup {v : Nat} : ∀ m, (yLps F T al v m).Nodup := by
  intro m
  induction m with
  | zero => exact List.nodup_nil
  | succ m ih =>
    unfold yLps
    rw [List.nodup_append]
    refine ⟨ih, ?_, ?_⟩
    · unfold yLp
      split
      · refine List.nodup_cons.2 ⟨?_, List.nodup_cons.2 ⟨List.not_mem_nil, List.nodup_nil⟩⟩
        rw [List.mem_singleton]; omega
      · exact List.nodup_nil
    · intro a ha b hb hab
      subst hab
      have h1 := ((yLps_mem m).1 ha).1
      have h2 := (yLp_mem.1 hb).2.1
      omega

section
variable {G : Nat → Nat → Bool} {ν : Nat → Nat → Nat} {v : Nat}

theorem yNbl_mem (hC : yCyc G ν v) (hG : ∀ w, G v w = true → v ≠ w) {e : Nat} : ∀ i, i ≤ yNb 32 (G v) → (e ∈ yNbl M F T al ν (yLst G v) v i ↔ ∃ j, j < i ∧ yLv M al e = true ∧ yNd F T e = v ∧ yNd F T (yPt e) = yIt ν v (yLst G v) j) := by
  intro i
  induction i with
  | zero => intro _; unfold yNbl; constructor
            · intro h; exact absurd h List.not_mem_nil
            · rintro ⟨j, hj, _⟩; omega
  | succ i ih =>
    intro hi
    unfold yNbl
    rw [List.mem_append, ih (by omega), yAlk_all (hG _ (hC.1 i (by omega)))]
    constructor
    · rintro (⟨j, a1, a2⟩ | a1)
      · exact ⟨j, by omega, a2⟩
      · exact ⟨i, by omega, a1⟩
    · rintro ⟨j, a1, a2⟩
      by_cases c : j = i
      · right; subst c; exact a2
      · left; exact ⟨j, by omega, a2⟩

theorem yNbl_nodup (hC : yCyc G ν v) (hG : ∀ w, G v w = true → v ≠ w) : ∀ i, i ≤ yNb 32 (G v) → (yNbl M F T al ν (yLst G v) v i).Nodup := by
  intro i
  induction i with
  | zero => intro _; exact List.nodup_nil
  | succ i ih =>
    intro hi
    unfold yNbl
    have hvw := hG _ (hC.1 i (by omega))
    rw [List.nodup_append]
    refine ⟨ih (by omega), yAlk_nodup hvw M (Nat.le_refl _), ?_⟩
    intro a ha b hb hab
    subst hab
    obtain ⟨j, a1, a2, a3, a4⟩ := (yNbl_mem hC hG i (by omega)).1 ha
    have h2 := ((yAlk_all hvw).1 hb).2.2
    rw [a4] at h2
    have := hC.2.1 j i (by omega) (by omega) h2
    omega

theorem yTrw_mem (hC : yCyc G ν v) (hG : ∀ w, G v w = true → v ≠ w) (hg : ∀ w, yGk M F T al v w = true → G v w = true) {e : Nat} : e ∈ yTrw M F T al G ν v ↔ (yLv M al e = true ∧ yNd F T e = v) := by
  unfold yTrw
  rw [List.mem_append, yNbl_mem hC hG _ (Nat.le_refl _), yLps_mem]
  constructor
  · rintro (⟨j, a1, a2, a3, a4⟩ | ⟨a1, a2, a3, a4⟩)
    · exact ⟨a2, a3⟩
    · exact ⟨yLv_iff.2 ⟨by omega, a2⟩, a3⟩
  · rintro ⟨a1, a2⟩
    by_cases c : yNd F T (yPt e) = v
    · right
      have := yLv_iff.1 a1
      exact ⟨by omega, this.2, a2, c⟩
    · left
      have hl := yLv_iff.1 a1
      have hgk : yGk M F T al v (yNd F T (yPt e)) = true := by
        rw [yGk_iff]
        refine ⟨e/2, by omega, hl.2, ?_⟩
        have hh := yPt_half e
        by_cases p : e % 2 = 0
        · have e1 : yNd F T e = F (e/2) := by unfold yNd; rw [if_pos p]
          have e2 : yNd F T (yPt e) = T (e/2) := by
            have : yPt e % 2 ≠ 0 := by unfold yPt; rw [if_pos p]; omega
            rw [← hh]
            unfold yNd; rw [if_neg this]
          rw [e2] at c ⊢
          rw [e1] at a2
          exact ⟨by rw [a2]; exact Ne.symm c, Or.inl ⟨a2, rfl⟩⟩
        · have e1 : yNd F T e = T (e/2) := by unfold yNd; rw [if_neg p]
          have e2 : yNd F T (yPt e) = F (e/2) := by
            have : yPt e % 2 = 0 := by unfold yPt; rw [if_neg p]; omega
            rw [← hh]
            unfold yNd; rw [if_pos this]
          rw [e2] at c ⊢
          rw [e1] at a2
          exact ⟨by rw [a2]; exact c, Or.inr ⟨rfl, a2⟩⟩
      obtain ⟨i, b1, b2⟩ := hC.2.2 _ (hg _ hgk)
      exact ⟨i, b1, a1, a2, b2⟩

theorem yTrw_nodup (hC : yCyc G ν v) (hG : ∀ w, G v w = true → v ≠ w) : (yTrw M F T al G ν v).Nodup := by
  unfold yTrw
  rw [List.nodup_append]
  refine ⟨yNbl_nodup hC hG _ (Nat.le_refl _), yLps_nodup M, ?_⟩
  intro a ha b hb hab
  subst hab
  obtain ⟨j, a1, a2, a3, a4⟩ := (yNbl_mem hC hG _ (Nat.le_refl _)).1 ha
  have h2 := ((yLps_mem M).1 hb).2.2.2
  rw [h2] at a4
  exact hG _ (hC.1 j a1) a4
end

-- rows as lists
theorem yEr_lists {N : Nat} {nd : Nat → Nat} {L : Nat → Prop} {ls : Nat → List Nat} (h1 : ∀ v, v < N → (ls v).Nodup) (h2 : ∀ v e, v < N → (e ∈ ls v ↔ L e ∧ nd e = v)) (h3 : ∀ e, L e → e < 160 ∧ nd e < N) :
    yEr N nd L (fun v => (ls v).length) (fun v i => (ls v).getD i 0) := by
  have hget : ∀ v i, i < (ls v).length → (ls v).getD i 0 ∈ ls v := by
    intro v i hi
    rw [List.getD_eq_getElem?_getD, List.getElem?_eq_getElem hi]
    exact List.getElem_mem hi
  refine ⟨fun v i hv hi => (h2 v _ hv).1 (hget v i hi), fun v i j hv hi hj e => ?_, fun e he => ?_⟩
  · dsimp only at e hi hj
    rw [List.getD_eq_getElem?_getD, List.getElem?_eq_getElem hi, List.getD_eq_getElem?_getD, List.getElem?_eq_getElem hj] at e
    exact (List.getElem_inj (h1 v hv)).1 e
  · obtain ⟨a1, a2⟩ := h3 e he
    have hm : e ∈ ls (nd e) := (h2 _ e a2).2 ⟨he, rfl⟩
    obtain ⟨i, b1, b2⟩ := List.mem_iff_getElem.1 hm
    refine ⟨a1, a2, i, b1, ?_⟩
    dsimp only
    rw [List.getD_eq_getElem?_getD, List.getElem?_eq_getElem b1]
    exact b2
end


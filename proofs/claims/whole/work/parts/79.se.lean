
-- how often a node lies on a way
def yLm (nx : Nat → Nat) (e : Nat → Bool) : Nat → Nat → Nat → Nat
  | 0, _, _ => 0
  | d+1, u, x => (if u = x then 1 else 0) + (if e u then 0 else yLm nx e d (nx u) x)

theorem yLm_le (nx : Nat → Nat) (e : Nat → Bool) (d u x : Nat) : yLm nx e d u x ≤ d := by
  induction d generalizing u with
  | zero => exact Nat.le_refl _
  | succ d ih =>
    simp only [yLm]
    have := ih (nx u)
    split <;> split <;> omega

theorem yLm_t {nx : Nat → Nat} {e : Nat → Bool} {d u x : Nat} (h : e u = true) : yLm nx e (d+1) u x = if u = x then 1 else 0 := by
  simp [yLm, h]
theorem yLm_f {nx : Nat → Nat} {e : Nat → Bool} {d u x : Nat} (h : e u = false) : yLm nx e (d+1) u x = (if u = x then 1 else 0) + yLm nx e d (nx u) x := by
  simp [yLm, h]

theorem yLm_run {n F : Nat} {g : Nat → Nat → Bool} {fo ρ : Nat → Nat → Nat} {a b c T : Nat} {s : Nat → Nat} {rm : Nat → Nat → Nat} {kk pp : Nat → Nat} (h : yTg n g F fo ρ) (hab : g a b = true) (hc : ρ a b = c)
    (hr : yRun g ρ a b c T s rm kk pp) (hT : s T = 2) {nx : Nat → Nat} (hnx : ∀ t, t < T → nx (rm t (kk t)) = rm t (kk t - 1)) :
    (∀ t, t < T → ∀ w, yLm nx (fun u => decide (u = a ∨ u = b)) 20 (rm t (kk t)) w = (if rm t (kk t) = w then 1 else 0) + yLm nx (fun u => decide (u = a ∨ u = b)) 20 (rm t (kk t - 1)) w) ∧
    (∀ w, yLm nx (fun u => decide (u = a ∨ u = b)) 20 a w = if a = w then 1 else 0) ∧ (∀ w, yLm nx (fun u => decide (u = a ∨ u = b)) 20 b w = if b = w then 1 else 0) := by
  have hn := h.2.1
  have hTn := (yRun_all h hab hc hr (Nat.le_refl T) hT).2
  have hva : ∀ t, t < T → rm t (kk t) ≠ a ∧ rm t (kk t) ≠ b := by
    intro t ht
    have e := yRun_ends hr t (by omega)
    have hk := (hr.2.2.2.2 t ht).1
    have hk1 := hk.1; have hk2 := hk.2.1
    have hR := yRun_rim h hab hc hr t (by omega)
    constructor
    · intro hh
      rw [← e.1] at hh
      have := hR.2.2.1 _ _ (by omega) (by omega) hh; omega
    · intro hh
      rw [← e.2.1] at hh
      have := hR.2.2.1 _ _ (by omega) (by omega) hh; omega
  have hst : ∀ D t, T - t = D → t ≤ T → ∀ i, i < s t → ∀ d, T - t + 1 ≤ d → ∀ w, yLm nx (fun u => decide (u = a ∨ u = b)) (d+1) (rm t i) w = yLm nx (fun u => decide (u = a ∨ u = b)) d (rm t i) w := by
    intro D
    induction D with
    | zero =>
      intro t hD ht i hi d hd w
      have : t = T := by omega
      subst this
      have e := yRun_ends hr t (Nat.le_refl _)
      rw [hT] at hi e
      have hb1 : rm t 1 = b := e.2.1
      obtain ⟨d', rfl⟩ : ∃ d', d = d' + 1 := ⟨d-1, by omega⟩
      have hend : decide (rm t i = a ∨ rm t i = b) = true := by
        rcases (by omega : i = 0 ∨ i = 1) with q | q <;> subst q
        · rw [e.1]; simp
        · rw [hb1]; simp
      simp only [yLm, hend, if_true]
    | succ D ih =>
      intro t hD ht i hi d hd w
      obtain ⟨hk1, hk2, hp, ha, hb, _⟩ := (hr.2.2.2.2 t (by omega)).1
      rcases Nat.lt_trichotomy i (kk t) with q | q | q
      · rw [← ha i q]; exact ih (t+1) (by omega) (by omega) i (by omega) d (by omega) w
      · subst q
        obtain ⟨d', rfl⟩ : ∃ d', d = d' + 1 := ⟨d-1, by omega⟩
        have hend : decide (rm t (kk t) = a ∨ rm t (kk t) = b) = false := by
          rw [decide_eq_false_iff_not]
          have := hva t (by omega)
          rintro (q | q)
          · exact this.1 q
          · exact this.2 q
        have := ih (t+1) (by omega) (by omega) (kk t - 1) (by omega) d' (by omega) w
        rw [ha (kk t - 1) (by omega)] at this
        rw [show yLm nx (fun u => decide (u = a ∨ u = b)) (d'+1+1) (rm t (kk t)) w = (if rm t (kk t) = w then 1 else 0) + (if decide (rm t (kk t) = a ∨ rm t (kk t) = b) then 0 else yLm nx (fun u => decide (u = a ∨ u = b)) (d'+1) (nx (rm t (kk t))) w) from rfl,
          show yLm nx (fun u => decide (u = a ∨ u = b)) (d'+1) (rm t (kk t)) w = (if rm t (kk t) = w then 1 else 0) + (if decide (rm t (kk t) = a ∨ rm t (kk t) = b) then 0 else yLm nx (fun u => decide (u = a ∨ u = b)) d' (nx (rm t (kk t))) w) from rfl, hend, hnx t (by omega)]
        simp only [Bool.false_eq_true, if_false]
        rw [this]
      · rw [← hb i q hi]; exact ih (t+1) (by omega) (by omega) (i + pp t - 1) (by omega) d (by omega) w
  refine ⟨?_, ?_, ?_⟩
  · intro t ht w
    have hk := (hr.2.2.2.2 t ht).1
    have hk1 := hk.1; have hk2 := hk.2.1
    have hend : decide (rm t (kk t) = a ∨ rm t (kk t) = b) = false := by
      rw [decide_eq_false_iff_not]
      have := hva t (by omega)
      rintro (q | q)
      · exact this.1 q
      · exact this.2 q
    rw [show yLm nx (fun u => decide (u = a ∨ u = b)) 20 (rm t (kk t)) w = (if rm t (kk t) = w then 1 else 0) + (if decide (rm t (kk t) = a ∨ rm t (kk t) = b) then 0 else yLm nx (fun u => decide (u = a ∨ u = b)) 19 (nx (rm t (kk t))) w) from rfl, hend, hnx t ht]
    simp only [Bool.false_eq_true, if_false]
    rw [← hst (T-t) t rfl (by omega) (kk t - 1) (by omega) 19 (by omega) w]
  · intro w
    simp [yLm]
  · intro w
    simp [yLm]

section
theorem w0_countOver {n : Nat} (hn : n ≤ 20) {wy : Nat → Int32} {nx : Nat → Nat} {e : Nat → Bool} (hw : ∀ u, u < n → (e u = true → wy u = -1) ∧ (e u = false → wy u = Int32.ofNat (nx u) ∧ nx u < n))
    (f0 : Nat → Int32) (i1 i2 i3 i4 : Int32) (K : (Nat → Int32) → Prop) (hK : ∀ ov, (∀ x, x < 20 → ov x = Int32.ofNat (yS n (fun u => yLm nx e 20 u x))) → K ov) :
    wX0_countOver f0 i1 i2 i3 i4 (Int32.ofNat n) wy K := by
  have h20 : (20 : Int32) = Int32.ofNat 20 := rfl
  have h0eq : (0 : Int32) = Int32.ofNat 0 := rfl
  have h24 : ∀ (v : Nat) (B : (Nat → Int32) → Int32 → Prop) (c0 : Nat → Nat) (_ : ∀ ov, (∀ x, x < 20 → ov x = Int32.ofNat (c0 x + yLm nx e 20 v x)) → B ov (Int32.ofNat (v+1))),
      ∀ (d w i : Nat) (cc : Nat → Nat) (ov : Nat → Int32), 20 - i = d → i ≤ 20 → w < n → (∀ x, x < 20 → ov x = Int32.ofNat (cc x)) → (∀ x, x < 20 → cc x + yLm nx e d w x = c0 x + yLm nx e 20 v x) → wLX0_countOver_24 wy (Int32.ofNat v) K B (d+2) ov (Int32.ofNat w) (Int32.ofNat i) := by
    intro v B c0 hB d
    have ev : Int32.ofNat v + 1 = Int32.ofNat (v+1) := yn_add v 1
    have fin : ∀ (cc : Nat → Nat) (ov : Nat → Int32) (N : Nat) (w i : Int32), (∀ x, x < 20 → ov x = Int32.ofNat (cc x)) → (∀ x, x < 20 → cc x = c0 x + yLm nx e 20 v x) → (20 ≤ i ∨ w < 0) → wLX0_countOver_24 wy (Int32.ofNat v) K B (N+1) ov w i := by
      intro cc ov N w i h1 h2 h3
      have hb := hB ov (fun x hx => by rw [h1 x hx, h2 x hx])
      unfold wLX0_countOver_24
      rw [ev]
      refine ⟨fun _ => hb, fun hh => ⟨fun _ => hb, fun hh2 => ?_⟩⟩
      rcases h3 with q | q
      · exact absurd q hh
      · exact absurd q hh2
    induction d with
    | zero =>
      intro w i cc ov hd hi hwn h1 h2
      refine fin cc ov 1 _ _ h1 (fun x hx => by have := h2 x hx; simp only [yLm, Nat.add_zero] at this; exact this) (Or.inl ?_)
      rw [h20, yn_le (by omega) (by omega)]; omega
    | succ d ih =>
      intro w i cc ov hd hi hwn h1 h2
      have ei : Int32.ofNat i + 1 = Int32.ofNat (i+1) := yn_add i 1
      have e1 : Int32.ofNat (cc w) + 1 = Int32.ofNat (cc w + 1) := yn_add (cc w) 1
      unfold wLX0_countOver_24
      rw [ei, yn_nat (by omega), h1 w (by omega), e1]
      refine ⟨fun hh => ?_, fun _ => ⟨fun hh => absurd hh (yn_neg (by omega)), fun _ => ⟨yn_in (by omega) (by omega), yn_in (by omega) (by omega), fun ov' hov => ⟨yn_in (by omega) (by omega), fun v48 h48 => ?_⟩⟩⟩⟩
      · exfalso; rw [h20, yn_le (by omega) (by omega)] at hh; omega
      have hov' : ∀ x, x < 20 → ov' x = Int32.ofNat (cc x + if w = x then 1 else 0) := by
        intro x hx
        rw [hov]
        by_cases q : x = w
        · rw [q, yupd_same, if_pos rfl]
        · rw [yupd_ne _ _ _ _ q, if_neg (Ne.symm q), Nat.add_zero]; exact h1 x hx
      obtain ⟨w1, w2⟩ := hw w hwn
      cases hend : e w with
      | true =>
        rw [h48, w1 hend]
        refine fin (fun x => cc x + if w = x then 1 else 0) ov' (d+1) _ _ hov' ?_ (Or.inr (by decide))
        intro x hx
        have := h2 x hx
        rw [yLm_t hend] at this
        exact this
      | false =>
        obtain ⟨q1, q2⟩ := w2 hend
        rw [h48, q1]
        refine ih (nx w) (i+1) (fun x => cc x + if w = x then 1 else 0) ov' (by omega) (by omega) q2 hov' ?_
        intro x hx
        have := h2 x hx
        rw [yLm_f hend] at this
        omega
  have h7 : ∀ d v ov, n - v = d → v ≤ n → (∀ x, x < 20 → ov x = Int32.ofNat (yS v (fun u => yLm nx e 20 u x))) → wLX0_countOver_7 (Int32.ofNat n) wy K (d+1) ov (Int32.ofNat v) := by
    intro d
    induction d with
    | zero =>
      intro v ov hd hv h1
      have : v = n := by omega
      subst this
      unfold wLX0_countOver_7
      refine ⟨fun _ => hK ov h1, fun hh => ?_⟩
      exfalso; apply hh; rw [yn_le (by omega) (by omega)]; omega
    | succ d ih =>
      intro v ov hd hv h1
      unfold wLX0_countOver_7
      refine ⟨fun hh => ?_, fun _ => ?_⟩
      · exfalso; rw [yn_le (by omega) (by omega)] at hh; omega
      · rw [h0eq]
        refine ⟨_, h24 v _ (fun x => yS v (fun u => yLm nx e 20 u x)) ?_ 20 v 0 (fun x => yS v (fun u => yLm nx e 20 u x)) ov (by omega) (by omega) (by omega) h1 (fun x _ => rfl)⟩
        intro ov' hov'
        exact ih (v+1) ov' (by omega) (by omega) hov'
  unfold wX0_countOver
  refine w_fill20 0 f0 _ ?_
  intro f hf
  rw [h0eq]
  exact ⟨_, h7 (n-0) 0 f rfl (by omega) (fun x hx => by rw [hf x hx]; rfl)⟩

theorem w0_facesBetween {way up ov : Nat → Int32} {L M v : Nat} {x z o : Nat → Nat} (hx : yPw way L x) (hz : yPw up M z) (x0 : x 0 = v) (z0 : z 0 = v) (hL : L ≤ 18) (hM : M ≤ 18) (hwe : way (x L) = -1) (hue : up (z M) = -1)
    (hov : ∀ x, x < 20 → ov x = Int32.ofNat (o x)) {W val : Nat} (hS : yS (L+1) (fun i => o (x i)) + yS (M+1) (fun i => o (z i)) = o v + W) (hval : val + (L+M+3) = 2 * W)
    (i1 i2 i3 i4 : Int32) (K : Int32 → Unit → Prop) (hK : K (Int32.ofNat val) ()) :
    wX0_facesBetween ov i1 i2 i3 i4 up way (Int32.ofNat v) K := by
  have h20 : (20 : Int32) = Int32.ofNat 20 := rfl
  have h0eq : (0 : Int32) = Int32.ofNat 0 := rfl
  have h1eq : (1 : Int32) = Int32.ofNat 1 := rfl
  have h2eq : (2 : Int32) = Int32.ofNat 2 := rfl
  have hv20 : v < 20 := by rw [← x0]; exact hx.1 0 (by omega)
  have hWle : ∀ S k, Int32.ofNat S + -Int32.ofNat (o v) + Int32.ofNat k = Int32.ofNat (S + k) + -Int32.ofNat (o v) := by
    intro S k
    rw [Int32.add_assoc, Int32.add_comm (-Int32.ofNat (o v)), ← Int32.add_assoc, yn_add]
  have hedge : ∀ k : Nat, Int32.ofNat k + (-1) + 1 = Int32.ofNat (k+1) + (-1) := by
    intro k
    rw [Int32.add_assoc, Int32.add_comm (-1) 1, ← Int32.add_assoc, h1eq, yn_add]
  -- the answer
  have hend : K ((((2 : Int32) * (Int32.ofNat (yS (L+1) (fun i => o (x i)) + yS (M+1) (fun i => o (z i))) + -Int32.ofNat (o v))) - (Int32.ofNat (L+1+(M+1)) + (-1))) - 2) () := by
    have e1 : Int32.ofNat (yS (L+1) (fun i => o (x i)) + yS (M+1) (fun i => o (z i))) + -Int32.ofNat (o v) = Int32.ofNat W := by
      rw [hS, ← Int32.sub_eq_add_neg, yn_sub (by omega)]; congr 1; omega
    have e2 : Int32.ofNat (L+1+(M+1)) + (-1) = Int32.ofNat (L+M+1) := by
      have : Int32.ofNat (L+M+1) = Int32.ofNat (L+1+(M+1)) - Int32.ofNat 1 := by rw [yn_sub (by omega)]; congr 1; omega
      rw [this, Int32.sub_eq_add_neg]; rfl
    rw [e1, e2, h2eq, yn_mul, yn_sub (by omega), yn_sub (by omega)]
    rw [show 2 * W - (L+M+1) - 2 = val by omega]
    exact hK
  -- the second way
  have h57 : ∀ d i, M + 1 - i = d → i ≤ M + 1 → wLX0_facesBetween_57_1 ov up K (d+1) (Int32.ofNat (yS (L+1) (fun i => o (x i)) + yS i (fun i => o (z i))) + -Int32.ofNat (o v)) (Int32.ofNat (L+1+i) + (-1)) (if i ≤ M then Int32.ofNat (z i) else -1) (Int32.ofNat i) := by
    intro d
    induction d with
    | zero =>
      intro i hd hi
      have : i = M + 1 := by omega
      subst this
      rw [if_neg (by omega)]
      unfold wLX0_facesBetween_57_1
      exact ⟨fun _ => hend, fun _ => ⟨fun _ => hend, fun hh => absurd (by decide) hh⟩⟩
    | succ d ih =>
      intro i hd hi
      have b1 := hz.1 i (by omega)
      have ei : Int32.ofNat i + 1 = Int32.ofNat (i+1) := yn_add i 1
      rw [if_pos (by omega)]
      unfold wLX0_facesBetween_57_1
      rw [ei, hedge, yn_nat (by omega), hov _ b1, hWle]
      refine ⟨fun hh => ?_, fun _ => ⟨fun hh => absurd hh (yn_neg (by omega)), fun _ => ⟨yn_in (by omega) (by omega), fun v76 h76 => ⟨yn_in (by omega) (by omega), fun v88 h88 => ?_⟩⟩⟩⟩
      · exfalso; rw [h20, yn_le (by omega) (by omega)] at hh; omega
      rw [h76, h88]
      have hg := ih (i+1) (by omega) (by omega)
      have en : (if i + 1 ≤ M then Int32.ofNat (z (i+1)) else -1) = up (z i) := by
        by_cases q : i + 1 ≤ M
        · rw [if_pos q, (hz.2 i (by omega)).2]
        · rw [if_neg q, show i = M by omega, hue]
      rw [en] at hg
      have hsum : yS (L+1) (fun i => o (x i)) + yS (i+1) (fun i => o (z i)) = yS (L+1) (fun i => o (x i)) + yS i (fun i => o (z i)) + o (z i) := by simp only [yS]; omega
      rw [hsum] at hg
      exact hg
  -- the first way
  have h15 : ∀ d i, L + 1 - i = d → i ≤ L + 1 → wLX0_facesBetween_15 ov up way (Int32.ofNat v) K (d+1) (Int32.ofNat (yS i (fun i => o (x i))) + -Int32.ofNat (o v)) (Int32.ofNat i + (-1)) (if i ≤ L then Int32.ofNat (x i) else -1) (Int32.ofNat i) := by
    intro d
    induction d with
    | zero =>
      intro i hd hi
      have : i = L + 1 := by omega
      subst this
      rw [if_neg (by omega)]
      unfold wLX0_facesBetween_15
      refine ⟨fun hh => ?_, fun _ => ⟨fun _ => ?_, fun hh => absurd (by decide) hh⟩⟩
      · exfalso; rw [h20, yn_le (by omega) (by omega)] at hh; omega
      · have := h57 (M+1-0) 0 rfl (by omega)
        rw [if_pos (by omega), z0] at this
        exact ⟨_, this⟩
    | succ d ih =>
      intro i hd hi
      have b1 := hx.1 i (by omega)
      have ei : Int32.ofNat i + 1 = Int32.ofNat (i+1) := yn_add i 1
      rw [if_pos (by omega)]
      unfold wLX0_facesBetween_15
      rw [ei, hedge, yn_nat (by omega), hov _ b1, hWle]
      refine ⟨fun hh => ?_, fun _ => ⟨fun hh => absurd hh (yn_neg (by omega)), fun _ => ⟨yn_in (by omega) (by omega), fun v34 h34 => ⟨yn_in (by omega) (by omega), fun v43 h43 => ?_⟩⟩⟩⟩
      · exfalso; rw [h20, yn_le (by omega) (by omega)] at hh; omega
      rw [h34, h43]
      have hg := ih (i+1) (by omega) (by omega)
      have en : (if i + 1 ≤ L then Int32.ofNat (x (i+1)) else -1) = way (x i) := by
        by_cases q : i + 1 ≤ L
        · rw [if_pos q, (hx.2 i (by omega)).2]
        · rw [if_neg q, show i = L by omega, hwe]
      rw [en] at hg
      exact hg
  unfold wX0_facesBetween
  rw [yn_nat (by omega), hov v hv20]
  refine ⟨yn_in (by omega) (by omega), fun v4 h4 => ?_⟩
  have := h15 (L+1-0) 0 rfl (by omega)
  rw [if_pos (by omega), x0] at this
  have e0 : Int32.ofNat (yS 0 (fun i => o (x i))) + -Int32.ofNat (o v) = v4 := by
    rw [h4]; show Int32.ofNat 0 + -Int32.ofNat (o v) = -Int32.ofNat (o v)
    rw [← h0eq, Int32.zero_add]
  have e1 : Int32.ofNat 0 + (-1) = (-1 : Int32) := by decide
  rw [e0, e1] at this
  exact ⟨_, this⟩

theorem w0_countOver_1 {n : Nat} (hn : n ≤ 20) {wy : Nat → Int32} {nx : Nat → Nat} {e : Nat → Bool} (hw : ∀ u, u < n → (e u = true → wy u = -1) ∧ (e u = false → wy u = Int32.ofNat (nx u) ∧ nx u < n))
    (f0 : Nat → Int32) (i1 i2 i3 i4 : Int32) (K : (Nat → Int32) → Prop) (hK : ∀ ov, (∀ x, x < 20 → ov x = Int32.ofNat (yS n (fun u => yLm nx e 20 u x))) → K ov) :
    wX0_countOver_1 f0 i1 i2 i3 i4 (Int32.ofNat n) wy K := by
  have h20 : (20 : Int32) = Int32.ofNat 20 := rfl
  have h0eq : (0 : Int32) = Int32.ofNat 0 := rfl
  have h24 : ∀ (v : Nat) (B : (Nat → Int32) → Int32 → Prop) (c0 : Nat → Nat) (_ : ∀ ov, (∀ x, x < 20 → ov x = Int32.ofNat (c0 x + yLm nx e 20 v x)) → B ov (Int32.ofNat (v+1))),
      ∀ (d w i : Nat) (cc : Nat → Nat) (ov : Nat → Int32), 20 - i = d → i ≤ 20 → w < n → (∀ x, x < 20 → ov x = Int32.ofNat (cc x)) → (∀ x, x < 20 → cc x + yLm nx e d w x = c0 x + yLm nx e 20 v x) → wLX0_countOver_1_24 wy (Int32.ofNat v) K B (d+2) ov (Int32.ofNat w) (Int32.ofNat i) := by
    intro v B c0 hB d
    have ev : Int32.ofNat v + 1 = Int32.ofNat (v+1) := yn_add v 1
    have fin : ∀ (cc : Nat → Nat) (ov : Nat → Int32) (N : Nat) (w i : Int32), (∀ x, x < 20 → ov x = Int32.ofNat (cc x)) → (∀ x, x < 20 → cc x = c0 x + yLm nx e 20 v x) → (20 ≤ i ∨ w < 0) → wLX0_countOver_1_24 wy (Int32.ofNat v) K B (N+1) ov w i := by
      intro cc ov N w i h1 h2 h3
      have hb := hB ov (fun x hx => by rw [h1 x hx, h2 x hx])
      unfold wLX0_countOver_1_24
      rw [ev]
      refine ⟨fun _ => hb, fun hh => ⟨fun _ => hb, fun hh2 => ?_⟩⟩
      rcases h3 with q | q
      · exact absurd q hh
      · exact absurd q hh2
    induction d with
    | zero =>
      intro w i cc ov hd hi hwn h1 h2
      refine fin cc ov 1 _ _ h1 (fun x hx => by have := h2 x hx; simp only [yLm, Nat.add_zero] at this; exact this) (Or.inl ?_)
      rw [h20, yn_le (by omega) (by omega)]; omega
    | succ d ih =>
      intro w i cc ov hd hi hwn h1 h2
      have ei : Int32.ofNat i + 1 = Int32.ofNat (i+1) := yn_add i 1
      have e1 : Int32.ofNat (cc w) + 1 = Int32.ofNat (cc w + 1) := yn_add (cc w) 1
      unfold wLX0_countOver_1_24
      rw [ei, yn_nat (by omega), h1 w (by omega), e1]
      refine ⟨fun hh => ?_, fun _ => ⟨fun hh => absurd hh (yn_neg (by omega)), fun _ => ⟨yn_in (by omega) (by omega), yn_in (by omega) (by omega), fun ov' hov => ⟨yn_in (by omega) (by omega), fun v48 h48 => ?_⟩⟩⟩⟩
      · exfalso; rw [h20, yn_le (by omega) (by omega)] at hh; omega
      have hov' : ∀ x, x < 20 → ov' x = Int32.ofNat (cc x + if w = x then 1 else 0) := by
        intro x hx
        rw [hov]
        by_cases q : x = w
        · rw [q, yupd_same, if_pos rfl]
        · rw [yupd_ne _ _ _ _ q, if_neg (Ne.symm q), Nat.add_zero]; exact h1 x hx
      obtain ⟨w1, w2⟩ := hw w hwn
      cases hend : e w with
      | true =>
        rw [h48, w1 hend]
        refine fin (fun x => cc x + if w = x then 1 else 0) ov' (d+1) _ _ hov' ?_ (Or.inr (by decide))
        intro x hx
        have := h2 x hx
        rw [yLm_t hend] at this
        exact this
      | false =>
        obtain ⟨q1, q2⟩ := w2 hend
        rw [h48, q1]
        refine ih (nx w) (i+1) (fun x => cc x + if w = x then 1 else 0) ov' (by omega) (by omega) q2 hov' ?_
        intro x hx
        have := h2 x hx
        rw [yLm_f hend] at this
        omega
  have h7 : ∀ d v ov, n - v = d → v ≤ n → (∀ x, x < 20 → ov x = Int32.ofNat (yS v (fun u => yLm nx e 20 u x))) → wLX0_countOver_1_7 (Int32.ofNat n) wy K (d+1) ov (Int32.ofNat v) := by
    intro d
    induction d with
    | zero =>
      intro v ov hd hv h1
      have : v = n := by omega
      subst this
      unfold wLX0_countOver_1_7
      refine ⟨fun _ => hK ov h1, fun hh => ?_⟩
      exfalso; apply hh; rw [yn_le (by omega) (by omega)]; omega
    | succ d ih =>
      intro v ov hd hv h1
      unfold wLX0_countOver_1_7
      refine ⟨fun hh => ?_, fun _ => ?_⟩
      · exfalso; rw [yn_le (by omega) (by omega)] at hh; omega
      · rw [h0eq]
        refine ⟨_, h24 v _ (fun x => yS v (fun u => yLm nx e 20 u x)) ?_ 20 v 0 (fun x => yS v (fun u => yLm nx e 20 u x)) ov (by omega) (by omega) (by omega) h1 (fun x _ => rfl)⟩
        intro ov' hov'
        exact ih (v+1) ov' (by omega) (by omega) hov'
  unfold wX0_countOver_1
  refine w_fill20 0 f0 _ ?_
  intro f hf
  rw [h0eq]
  exact ⟨_, h7 (n-0) 0 f rfl (by omega) (fun x hx => by rw [hf x hx]; rfl)⟩

theorem w0_facesBetween_1 {way up ov : Nat → Int32} {L M v : Nat} {x z o : Nat → Nat} (hx : yPw way L x) (hz : yPw up M z) (x0 : x 0 = v) (z0 : z 0 = v) (hL : L ≤ 18) (hM : M ≤ 18) (hwe : way (x L) = -1) (hue : up (z M) = -1)
    (hov : ∀ x, x < 20 → ov x = Int32.ofNat (o x)) {W val : Nat} (hS : yS (L+1) (fun i => o (x i)) + yS (M+1) (fun i => o (z i)) = o v + W) (hval : val + (L+M+3) = 2 * W)
    (i1 i2 i3 i4 : Int32) (K : Int32 → Unit → Prop) (hK : K (Int32.ofNat val) ()) :
    wX0_facesBetween_1 ov i1 i2 i3 i4 up way (Int32.ofNat v) K := by
  have h20 : (20 : Int32) = Int32.ofNat 20 := rfl
  have h0eq : (0 : Int32) = Int32.ofNat 0 := rfl
  have h1eq : (1 : Int32) = Int32.ofNat 1 := rfl
  have h2eq : (2 : Int32) = Int32.ofNat 2 := rfl
  have hv20 : v < 20 := by rw [← x0]; exact hx.1 0 (by omega)
  have hWle : ∀ S k, Int32.ofNat S + -Int32.ofNat (o v) + Int32.ofNat k = Int32.ofNat (S + k) + -Int32.ofNat (o v) := by
    intro S k
    rw [Int32.add_assoc, Int32.add_comm (-Int32.ofNat (o v)), ← Int32.add_assoc, yn_add]
  have hedge : ∀ k : Nat, Int32.ofNat k + (-1) + 1 = Int32.ofNat (k+1) + (-1) := by
    intro k
    rw [Int32.add_assoc, Int32.add_comm (-1) 1, ← Int32.add_assoc, h1eq, yn_add]
  -- the answer
  have hend : K ((((2 : Int32) * (Int32.ofNat (yS (L+1) (fun i => o (x i)) + yS (M+1) (fun i => o (z i))) + -Int32.ofNat (o v))) - (Int32.ofNat (L+1+(M+1)) + (-1))) - 2) () := by
    have e1 : Int32.ofNat (yS (L+1) (fun i => o (x i)) + yS (M+1) (fun i => o (z i))) + -Int32.ofNat (o v) = Int32.ofNat W := by
      rw [hS, ← Int32.sub_eq_add_neg, yn_sub (by omega)]; congr 1; omega
    have e2 : Int32.ofNat (L+1+(M+1)) + (-1) = Int32.ofNat (L+M+1) := by
      have : Int32.ofNat (L+M+1) = Int32.ofNat (L+1+(M+1)) - Int32.ofNat 1 := by rw [yn_sub (by omega)]; congr 1; omega
      rw [this, Int32.sub_eq_add_neg]; rfl
    rw [e1, e2, h2eq, yn_mul, yn_sub (by omega), yn_sub (by omega)]
    rw [show 2 * W - (L+M+1) - 2 = val by omega]
    exact hK
  -- the second way
  have h57 : ∀ d i, M + 1 - i = d → i ≤ M + 1 → wLX0_facesBetween_1_57_1 ov up K (d+1) (Int32.ofNat (yS (L+1) (fun i => o (x i)) + yS i (fun i => o (z i))) + -Int32.ofNat (o v)) (Int32.ofNat (L+1+i) + (-1)) (if i ≤ M then Int32.ofNat (z i) else -1) (Int32.ofNat i) := by
    intro d
    induction d with
    | zero =>
      intro i hd hi
      have : i = M + 1 := by omega
      subst this
      rw [if_neg (by omega)]
      unfold wLX0_facesBetween_1_57_1
      exact ⟨fun _ => hend, fun _ => ⟨fun _ => hend, fun hh => absurd (by decide) hh⟩⟩
    | succ d ih =>
      intro i hd hi
      have b1 := hz.1 i (by omega)
      have ei : Int32.ofNat i + 1 = Int32.ofNat (i+1) := yn_add i 1
      rw [if_pos (by omega)]
      unfold wLX0_facesBetween_1_57_1
      rw [ei, hedge, yn_nat (by omega), hov _ b1, hWle]
      refine ⟨fun hh => ?_, fun _ => ⟨fun hh => absurd hh (yn_neg (by omega)), fun _ => ⟨yn_in (by omega) (by omega), fun v76 h76 => ⟨yn_in (by omega) (by omega), fun v88 h88 => ?_⟩⟩⟩⟩
      · exfalso; rw [h20, yn_le (by omega) (by omega)] at hh; omega
      rw [h76, h88]
      have hg := ih (i+1) (by omega) (by omega)
      have en : (if i + 1 ≤ M then Int32.ofNat (z (i+1)) else -1) = up (z i) := by
        by_cases q : i + 1 ≤ M
        · rw [if_pos q, (hz.2 i (by omega)).2]
        · rw [if_neg q, show i = M by omega, hue]
      rw [en] at hg
      have hsum : yS (L+1) (fun i => o (x i)) + yS (i+1) (fun i => o (z i)) = yS (L+1) (fun i => o (x i)) + yS i (fun i => o (z i)) + o (z i) := by simp only [yS]; omega
      rw [hsum] at hg
      exact hg
  -- the first way
  have h15 : ∀ d i, L + 1 - i = d → i ≤ L + 1 → wLX0_facesBetween_1_15 ov up way (Int32.ofNat v) K (d+1) (Int32.ofNat (yS i (fun i => o (x i))) + -Int32.ofNat (o v)) (Int32.ofNat i + (-1)) (if i ≤ L then Int32.ofNat (x i) else -1) (Int32.ofNat i) := by
    intro d
    induction d with
    | zero =>
      intro i hd hi
      have : i = L + 1 := by omega
      subst this
      rw [if_neg (by omega)]
      unfold wLX0_facesBetween_1_15
      refine ⟨fun hh => ?_, fun _ => ⟨fun _ => ?_, fun hh => absurd (by decide) hh⟩⟩
      · exfalso; rw [h20, yn_le (by omega) (by omega)] at hh; omega
      · have := h57 (M+1-0) 0 rfl (by omega)
        rw [if_pos (by omega), z0] at this
        exact ⟨_, this⟩
    | succ d ih =>
      intro i hd hi
      have b1 := hx.1 i (by omega)
      have ei : Int32.ofNat i + 1 = Int32.ofNat (i+1) := yn_add i 1
      rw [if_pos (by omega)]
      unfold wLX0_facesBetween_1_15
      rw [ei, hedge, yn_nat (by omega), hov _ b1, hWle]
      refine ⟨fun hh => ?_, fun _ => ⟨fun hh => absurd hh (yn_neg (by omega)), fun _ => ⟨yn_in (by omega) (by omega), fun v34 h34 => ⟨yn_in (by omega) (by omega), fun v43 h43 => ?_⟩⟩⟩⟩
      · exfalso; rw [h20, yn_le (by omega) (by omega)] at hh; omega
      rw [h34, h43]
      have hg := ih (i+1) (by omega) (by omega)
      have en : (if i + 1 ≤ L then Int32.ofNat (x (i+1)) else -1) = way (x i) := by
        by_cases q : i + 1 ≤ L
        · rw [if_pos q, (hx.2 i (by omega)).2]
        · rw [if_neg q, show i = L by omega, hwe]
      rw [en] at hg
      exact hg
  unfold wX0_facesBetween_1
  rw [yn_nat (by omega), hov v hv20]
  refine ⟨yn_in (by omega) (by omega), fun v4 h4 => ?_⟩
  have := h15 (L+1-0) 0 rfl (by omega)
  rw [if_pos (by omega), x0] at this
  have e0 : Int32.ofNat (yS 0 (fun i => o (x i))) + -Int32.ofNat (o v) = v4 := by
    rw [h4]; show Int32.ofNat 0 + -Int32.ofNat (o v) = -Int32.ofNat (o v)
    rw [← h0eq, Int32.zero_add]
  have e1 : Int32.ofNat 0 + (-1) = (-1 : Int32) := by decide
  rw [e0, e1] at this
  exact ⟨_, this⟩

end


section
variable {n F : Nat} {fl : Nat → Int32} {fo ρ : Nat → Nat → Nat} {a b c : Nat}

-- the class's count for one node
theorem yDw_cls {g : Nat → Nat → Bool} (h : yTg n g F fo ρ) (hab : g a b = true) (hc : ρ a b = c) {T : Nat} {s : Nat → Nat} {rm : Nat → Nat → Nat} {kk pp : Nat → Nat} {lf rt up : Nat → Int32} (hD : yDw g ρ a b c T s rm kk pp lf rt up) (hT : s T = 2)
    {nx : Nat → Nat} (hnx : ∀ t, t < T → nx (rm t (kk t)) = rm t (kk t - 1)) {v : Nat} (hv : v < n) (hva : v ≠ a) (hvb : v ≠ b) :
    ∃ val L x M z W, yXr g ρ a b c v val ∧ yPw rt L x ∧ x 0 = v ∧ x L = b ∧ yPw up M z ∧ z 0 = v ∧ z M = c ∧ L ≤ 18 ∧ M ≤ 18 ∧
      yS (L+1) (fun i => yS n (fun u => yLm nx (fun u => decide (u = a ∨ u = b)) 20 u (x i))) + yS (M+1) (fun i => yS n (fun u => yLm nx (fun u => decide (u = a ∨ u = b)) 20 u (z i))) =
        yS n (fun u => yLm nx (fun u => decide (u = a ∨ u = b)) 20 u v) + W ∧ val + (L+M+3) = 2 * W := by
  obtain ⟨val, pos, L, x, M, z, k1, k2, ⟨ts, k3⟩, k4, k5, k6, k7, k8, k9, _, k11, k12, k13, k14⟩ := yDw_val h hab hc hD hT hv hva hvb
  obtain ⟨l1, la, lb⟩ := yLm_run h hab hc hD.1 hT hnx
  have hsum := yOver_sum h hab hc hD.1 hT k3 l1 la lb
  have hf := k14 (fun w => yS n (fun u => yLm nx (fun u => decide (u = a ∨ u = b)) 20 u w))
  refine ⟨val, L, x, M, z, yNb T (fun t => decide (pos t < kk t)) + yNb T (fun t => decide (kk t = pos t)) + 1, k1, k4, k5, k6, k7, k8, k9, k12, k13, ?_, by omega⟩
  rw [hf, hsum]

theorem w0_countAll (h : yTg n (yGm n fl) F fo ρ) (hab : yGm n fl a b = true) (hc : ρ a b = c) {T : Nat} {s : Nat → Nat} {rm : Nat → Nat → Nat} {kk pp : Nat → Nat} {tA tB tC : Nat → Int32} (hD : yDw (yGm n fl) ρ a b c T s rm kk pp tA tB tC) (hT : s T = 2)
    (a1 : tA a = -1) (a2 : tA b = -1) (a3 : tB a = -1) (a4 : tB b = -1) (a5 : tC c = -1) (i3 : Int32) (f4 f7 f9 f10 : Nat → Int32) (h9 : ∀ i, i < 20 → f9 i = 0) (h10 : ∀ i, i < 20 → f10 i = 0)
    (K : ((Nat → Int32) × (Nat → Int32) × (Nat → Int32) × (Nat → Int32)) → Prop)
    (hK : ∀ oA oB xs ys, (∀ v, v < n → ∃ x y, yXY n (yGm n fl) ρ a b c v x y ∧ xs v = Int32.ofNat x ∧ ys v = Int32.ofNat y) → K (oA, oB, xs, ys)) :
    wX0_countAll (Int32.ofNat a) (Int32.ofNat b) (Int32.ofNat c) i3 f4 (Int32.ofNat n) tA f7 tB f9 f10 tC K := by
  have hn := h.2.1
  have hn3 := h.1
  have hgs := h.2.2.1.2
  have hba : yGm n fl b a = true := by rw [hgs]; exact hab
  have th := yTg_th h hab
  rw [hc] at th
  have gab := yTg_gr h hab; have gca := yTg_gr h th.2.2.1; have gbc := yTg_gr h th.2.1
  have h' := yTg_rev h
  have hD' := yDw_mir h hab hc hD
  have hTn := yRun_all h hab hc hD.1 (Nat.le_refl T) hT
  have heT := yRun_ends hD.1 T (Nat.le_refl _)
  rw [hT] at heT
  have hb1 : rm T 1 = b := heT.2.1
  have e5 : (2 : Int32) * Int32.ofNat n - 5 = Int32.ofNat (2*n-5) := by
    have a2 : (2 : Int32) = Int32.ofNat 2 := rfl
    have a5 : (5 : Int32) = Int32.ofNat 5 := rfl
    rw [a2, a5, yn_mul, yn_sub (by omega)]
  have h0eq : (0 : Int32) = Int32.ofNat 0 := rfl
  have hlt : ∀ t i, t ≤ T → i < s t → rm t i < n := fun t i ht hi => ((yRun_rim h hab hc hD.1 t ht).2.1 i hi).1
  have hks : ∀ t, t < T → 1 ≤ kk t ∧ kk t + 2 ≤ s t := fun t ht => by
    have := (hD.1.2.2.2.2 t ht).1
    exact ⟨this.1, this.2.1⟩
  -- the ways as functions of nodes
  have hnA : ∀ t, t < T → (fun u => (tA u).toNatClampNeg) (rm t (kk t)) = rm t (kk t - 1) := by
    intro t ht
    show (tA (rm t (kk t))).toNatClampNeg = _
    have hk := hks t ht
    have := hlt t (kk t - 1) (by omega) (by omega)
    rw [(hD.2 t ht).1, yn_nat (by omega)]
  have hnB : ∀ t, t < T → (fun u => (tB u).toNatClampNeg) (rm t (s t - 1 - (s t - 1 - kk t))) = rm t (s t - 1 - (s t - 1 - kk t - 1)) := by
    intro t ht
    have hk := hks t ht
    rw [show s t - 1 - (s t - 1 - kk t) = kk t by omega, show s t - 1 - (s t - 1 - kk t - 1) = kk t + 1 by omega]
    show (tB (rm t (kk t))).toNatClampNeg = _
    have := hlt t (kk t + 1) (by omega) (by omega)
    rw [(hD.2 t ht).2.1, yn_nat (by omega)]
  have hwA : ∀ u, u < n → (decide (u = a ∨ u = b) = true → tA u = -1) ∧ (decide (u = a ∨ u = b) = false → tA u = Int32.ofNat ((tA u).toNatClampNeg) ∧ (tA u).toNatClampNeg < n) := by
    intro u hu
    constructor
    · intro hh
      rcases of_decide_eq_true hh with q | q
      · rw [q]; exact a1
      · rw [q]; exact a2
    · intro hh
      rw [decide_eq_false_iff_not] at hh
      rcases hTn.1 u hu with ⟨t, ht, e⟩ | e | e
      · have hk := hks t ht
        have hb := hlt t (kk t - 1) (by omega) (by omega)
        rw [e, (hD.2 t ht).1, yn_nat (by omega)]
        exact ⟨rfl, hb⟩
      · rw [heT.1] at e; exact absurd (Or.inl e) hh
      · rw [hb1] at e; exact absurd (Or.inr e) hh
  have hwB : ∀ u, u < n → (decide (u = b ∨ u = a) = true → tB u = -1) ∧ (decide (u = b ∨ u = a) = false → tB u = Int32.ofNat ((tB u).toNatClampNeg) ∧ (tB u).toNatClampNeg < n) := by
    intro u hu
    constructor
    · intro hh
      rcases of_decide_eq_true hh with q | q
      · rw [q]; exact a4
      · rw [q]; exact a3
    · intro hh
      rw [decide_eq_false_iff_not] at hh
      rcases hTn.1 u hu with ⟨t, ht, e⟩ | e | e
      · have hk := hks t ht
        have hb := hlt t (kk t + 1) (by omega) (by omega)
        rw [e, (hD.2 t ht).2.1, yn_nat (by omega)]
        exact ⟨rfl, hb⟩
      · rw [heT.1] at e; exact absurd (Or.inr e) hh
      · rw [hb1] at e; exact absurd (Or.inl e) hh
  unfold wX0_countAll
  refine w0_countOver (by omega) hwA f4 _ _ _ _ _ ?_
  intro oA hoA
  refine w0_countOver_1 (by omega) hwB f7 _ _ _ _ _ ?_
  intro oB hoB
  have inv : ∀ {x y : Nat}, x < 100 → y < 100 → (Int32.ofNat x = Int32.ofNat y ↔ x = y) := fun hx hy => yn_inj (by omega) (by omega)
  -- the loop: corners keep their nought
  have h26 : ∀ d v xs ys, n - v = d → v ≤ n → (∀ u, u < n → (u = a ∨ u = b ∨ u = c ∨ v ≤ u) → xs u = 0 ∧ ys u = 0) → (∀ u, u < v → u ≠ a → u ≠ b → u ≠ c → ∃ x y, yXr (yGm n fl) ρ a b c u x ∧ yXr (yGm n fl) (fun x y => ρ y x) b a c u y ∧ xs u = Int32.ofNat x ∧ ys u = Int32.ofNat y) →
      wLX0_countAll_26 (Int32.ofNat a) (Int32.ofNat b) (Int32.ofNat c) i3 (Int32.ofNat n) tA tB tC oA oB K (d+1) xs ys (Int32.ofNat v) := by
    intro d
    induction d with
    | zero =>
      intro v xs ys hd hv h1 h2
      have : v = n := by omega
      subst this
      unfold wLX0_countAll_26
      rw [e5, yn_nat (by omega), yn_nat (by omega)]
      refine ⟨fun _ => ⟨yn_in (by omega) (by omega), fun xs' hxs => ⟨yn_in (by omega) (by omega), fun ys' hys => hK oA oB xs' ys' ?_⟩⟩, fun hh => ?_⟩
      · intro u hu
        rw [hxs, hys]
        by_cases qa : u = a
        · refine ⟨2*v-5, 0, Or.inl ⟨qa, rfl, rfl⟩, by rw [qa, yupd_same], ?_⟩
          rw [yupd_ne _ _ _ _ (by omega)]; exact (h1 u hu (Or.inl qa)).2
        · by_cases qb : u = b
          · refine ⟨0, 2*v-5, Or.inr (Or.inl ⟨qa, qb, rfl, rfl⟩), ?_, by rw [qb, yupd_same]⟩
            rw [yupd_ne _ _ _ _ qa]; exact (h1 u hu (Or.inr (Or.inl qb))).1
          · rw [yupd_ne _ _ _ _ qa, yupd_ne _ _ _ _ qb]
            by_cases qc : u = c
            · exact ⟨0, 0, Or.inr (Or.inr (Or.inl ⟨qa, qb, qc, rfl, rfl⟩)), (h1 u hu (Or.inr (Or.inr (Or.inl qc)))).1, (h1 u hu (Or.inr (Or.inr (Or.inl qc)))).2⟩
            · obtain ⟨x, y, k1, k2, k3, k4⟩ := h2 u hu qa qb qc
              exact ⟨x, y, Or.inr (Or.inr (Or.inr ⟨qa, qb, qc, k1, k2⟩)), k3, k4⟩
      · exfalso; apply hh; rw [yn_le (by omega) (by omega)]; omega
    | succ d ih =>
      intro v xs ys hd hv h1 h2
      have e1 : Int32.ofNat v + 1 = Int32.ofNat (v+1) := yn_add v 1
      have skip : (v = a ∨ v = b ∨ v = c) → wLX0_countAll_26 (Int32.ofNat a) (Int32.ofNat b) (Int32.ofNat c) i3 (Int32.ofNat n) tA tB tC oA oB K (d+1) xs ys (Int32.ofNat (v+1)) := by
        intro hq
        refine ih (v+1) xs ys (by omega) (by omega) (fun u hu hh => h1 u hu (by omega)) ?_
        intro u hu q1 q2 q3
        exact h2 u (by omega) q1 q2 q3
      unfold wLX0_countAll_26
      rw [e1, yn_nat (by omega : v < 2147483648), inv (by omega) (by omega), inv (by omega) (by omega), inv (by omega) (by omega)]
      refine ⟨fun hh => ?_, fun _ => ⟨fun q => skip (Or.inl q), fun qa => ⟨fun q => skip (Or.inr (Or.inl q)), fun qb => ⟨fun q => skip (Or.inr (Or.inr q)), fun qc => ?_⟩⟩⟩⟩
      · exfalso; rw [yn_le (by omega) (by omega)] at hh; omega
      obtain ⟨x, L, p, M, z, W, k1, k2, k3, k4, k5, k6, k7, k8, k9, k10, k11⟩ := yDw_cls (nx := fun u => (tA u).toNatClampNeg) h hab hc hD hT hnA (show v < n by omega) qa qb
      refine w0_facesBetween k2 k5 k3 k6 k8 k9 (by rw [k4]; exact a4) (by rw [k7]; exact a5) hoA k10 k11 _ _ _ _ _ ?_
      refine ⟨yn_in (by omega) (by omega), fun xs' hxs => ?_⟩
      obtain ⟨y, L', p', M', z', W', j1, j2, j3, j4, j5, j6, j7, j8, j9, j10, j11⟩ := yDw_cls (nx := fun u => (tB u).toNatClampNeg) h' hba hc hD' hT hnB (show v < n by omega) qb qa
      refine w0_facesBetween_1 j2 j5 j3 j6 j8 j9 (by rw [j4]; exact a1) (by rw [j7]; exact a5) hoB j10 j11 _ _ _ _ _ ?_
      refine ⟨yn_in (by omega) (by omega), fun ys' hys => ?_⟩
      refine ih (v+1) xs' ys' (by omega) (by omega) ?_ ?_
      · intro u hu hq
        rw [hxs, hys, yupd_ne _ _ _ _ (by omega), yupd_ne _ _ _ _ (by omega)]
        exact h1 u hu (by omega)
      · intro u hu q1 q2 q3
        rw [hxs, hys]
        by_cases q : u = v
        · rw [q, yupd_same, yupd_same]; exact ⟨x, y, k1, j1, rfl, rfl⟩
        · rw [yupd_ne _ _ _ _ q, yupd_ne _ _ _ _ q]; exact h2 u (by omega) q1 q2 q3
  rw [h0eq]
  exact ⟨_, h26 (n-0) 0 f9 f10 rfl (by omega) (fun u hu _ => ⟨h9 u (by omega), h10 u (by omega)⟩) (fun u hu => by omega)⟩

-- the class's drawing
theorem w0_lay3 (h : yTg n (yGm n fl) F fo ρ) {m : Nat} (hm : yLw (yGm n fl) 0 m) {o : Nat → Int32} (ho : ∀ v w, yGm n fl v w = true → o (20*v+w) = Int32.ofNat (ρ v w))
    (i0 i1 i2 i3 : Int32) (f4 f5 f9 f10 f11 f12 f13 f14 f15 : Nat → Int32)
    (K : (Int32 × Int32 × Int32 × Int32 × (Nat → Int32) × (Nat → Int32) × (Nat → Int32) × (Nat → Int32) × (Nat → Int32) × (Nat → Int32) × (Nat → Int32) × (Nat → Int32) × (Nat → Int32)) → Prop)
    (hK : ∀ xs ys, (∀ v, v < n → ∃ x y, yXY n (yGm n fl) ρ 0 m (ρ 0 m) v x y ∧ xs v = Int32.ofNat x ∧ ys v = Int32.ofNat y) → ∀ x0 x1 x2 x3 x6 x7 x8 x9 x10 x11 x12, K (x0, x1, x2, x3, xs, ys, x6, x7, x8, x9, x10, x11, x12)) :
    wX0_lay i0 i1 i2 i3 f4 f5 (Int32.ofNat n) fl o f9 f10 f11 f12 f13 f14 f15 K := by
  have hn := h.2.1
  have hn3 := h.1
  have h2eq : (2 : Int32) = Int32.ofNat 2 := rfl
  have h3eq : (3 : Int32) = Int32.ofNat 3 := rfl
  have h0eq : (0 : Int32) = Int32.ofNat 0 := rfl
  have n0 : Int32.toNatClampNeg (0 : Int32) = 0 := yn_nat (by omega : (0 : Nat) < 2147483648)
  have gm := yTg_gr h hm.1
  have th := yTg_th h hm.1
  have gr := yTg_gr h th.2.1
  have hmask := yLw_mask (by omega) hm (by omega)
  unfold wX0_lay
  refine w_fill20 0 f4 _ ?_
  intro xs0 hxs0
  refine w_fill20 0 f5 _ ?_
  intro ys0 hys0
  refine ⟨fun _ => ⟨fun hh => ?_, fun _ => ?_⟩, fun hh => ?_⟩
  · exfalso; rw [h3eq, yn_lt (by omega) (by omega)] at hh; omega
  · unfold wX0_findOuter
    rw [n0]
    refine w_lowest (by omega) hmask.1 hmask.2 _ ?_
    rw [h0eq]
    refine w_behind (by omega) (by omega) o _ ?_
    rw [ho _ _ hm.1]
    refine ⟨fun hh => absurd hh (yn_neg (by omega)), fun _ => ⟨fun hh => absurd hh (by decide), fun _ => ?_⟩⟩
    refine w0_findWays h hm.1 rfl ho _ _ _ _ _ _ _ ?_
    intro T s rm kk pp rim tA tB tC rA rB hD hT a1 a2 a3 a4 a5
    refine w0_countAll h hm.1 rfl hD hT a1 a2 a3 a4 a5 _ _ _ xs0 ys0 hxs0 hys0 _ ?_
    intro oA oB xs ys hxy
    exact hK xs ys hxy _ _ _ _ _ _ _ _ _ _ _
  · exfalso; rw [h2eq, yn_inj (by omega) (by omega)] at hh; omega
end



-- the row of nodes to look at
def yQu (a : Nat) (vis : Nat → Bool) (tail : Nat) (qu : Nat → Nat) (queue : Nat → Int32) : Prop :=
  (∀ i, i < tail → queue i = Int32.ofNat (qu i) ∧ vis (qu i) = true ∧ qu i ≠ a) ∧ (∀ i j, i < tail → j < tail → qu i = qu j → i = j) ∧
  (∀ x, vis x = true → x ≠ a → ∃ i, i < tail ∧ qu i = x)

theorem yQu_add {a : Nat} {vis : Nat → Bool} {tail : Nat} {qu : Nat → Nat} {queue : Nat → Int32} (h : yQu a vis tail qu queue) (x : Nat) (hx : vis x = false) (hxa : x ≠ a) :
    yQu a (yUpd vis x true) (tail+1) (yUpd qu tail x) (upd queue tail (Int32.ofNat x)) := by
  obtain ⟨h1, h2, h3⟩ := h
  have q1 : ∀ {A : Type} (f : Nat → A) (y : A) (k : Nat), yUpd f k y k = y := by intro A f y k; unfold yUpd; rw [if_pos rfl]
  have q2 : ∀ {A : Type} (f : Nat → A) (y : A) (k z : Nat), z ≠ k → yUpd f k y z = f z := by intro A f y k z hz; unfold yUpd; rw [if_neg hz]
  have hne : ∀ y, vis y = true → y ≠ x := fun y hy e => by rw [e, hx] at hy; cases hy
  refine ⟨?_, ?_, ?_⟩
  · intro i hi
    by_cases e : i = tail
    · rw [e, yupd_same, q1, q1]; exact ⟨rfl, rfl, hxa⟩
    · rw [yupd_ne _ _ _ _ e, q2 qu _ _ _ e]
      have := h1 i (by omega)
      exact ⟨this.1, by rw [q2 _ _ _ _ (hne _ this.2.1)]; exact this.2.1, this.2.2⟩
  · intro i j hi hj he
    by_cases e : i = tail
    · by_cases e' : j = tail
      · omega
      · exfalso
        rw [e, q1, q2 qu _ _ _ e'] at he
        exact hne _ (h1 j (by omega)).2.1 he.symm
    · by_cases e' : j = tail
      · exfalso
        rw [e', q1, q2 qu _ _ _ e] at he
        exact hne _ (h1 i (by omega)).2.1 he
      · rw [q2 qu _ _ _ e, q2 qu _ _ _ e'] at he
        exact h2 i j (by omega) (by omega) he
  · intro y hy hya
    by_cases e : y = x
    · exact ⟨tail, by omega, by rw [q1, e]⟩
    · rw [q2 _ _ _ _ e] at hy
      obtain ⟨i, hi, hq⟩ := h3 y hy hya
      exact ⟨i, by omega, by rw [q2 qu _ _ _ (by omega)]; exact hq⟩

theorem w9_overPart {n : Nat} (hn : n ≤ 21) (bk : Nat → Int32) (a : Nat) (ha : a < n) (over ends : Int32) (hdis : ∀ x, x < 32 → yM over x = true → yM ends x = false)
    (hao : yM over a = false)
    (f18 f20 f21 : Nat → Int32) (i7 : Int32)
    (K : Int32 → (Int32 × (Nat → Int32) × (Nat → Int32) × (Nat → Int32)) → Prop)
    (hK1 : ∀ (L : Nat) (pn : Nat → Nat) (pt bf qu : Nat → Int32), yWy n bk a over ends 100 L pn → 3 ≤ L → (∀ k, k < L → pt k = Int32.ofNat (pn k)) → K 1 (Int32.ofNat L, bf, qu, pt))
    (hK0 : ∀ (vis : Nat → Bool) (bf qu : Nat → Int32), (∀ x, vis x = true → x < n) → (∀ x, x < n → yM (bk a) x = true → yM over x = true → vis x = true) →
      (∀ v x, vis v = true → v ≠ a → x < n → yM (bk v) x = true → vis x = true ∨ (yM ends x = false ∧ yM over x = false)) →
      (∀ x, vis x = true → x ≠ a → yM over x = true) → K 0 (i7, bf, qu, f21))
    (i0 i1 i2 i4 i5 i6 i8 i10 i11 i12 i13 i14 i15 i16 i17 : Int32) :
    wX9_overPart i0 i1 i2 (Int32.ofNat n) i4 i5 i6 i7 i8 over i10 i11 i12 i13 i14 i15 i16 i17 f18 bk f20 f21 (Int32.ofNat a) ends K := by
  have h0eq : (0 : Int32) = Int32.ofNat 0 := rfl
  have hm1 : ∀ (vis : Nat → Bool) x y, vis y = true → yUpd vis x true y = true := by
    intro vis x y hy; unfold yUpd; by_cases e : y = x
    · rw [if_pos e]
    · rw [if_neg e]; exact hy
  have hqn : ∀ (vis : Nat → Bool) tail qu queue, yQu a vis tail qu queue → (∀ x, vis x = true → x < n) → tail + 1 ≤ n := by
    intro vis tail qu queue hQ hb
    have := yPig (tail+1) n (fun i => if i = tail then a else qu i) (by
      intro i hi
      by_cases e : i = tail
      · simp only [e, if_true]; exact ha
      · simp only [e, if_false]; exact hb _ (hQ.1 i (by omega)).2.1) (by
      intro i j hi hj he
      by_cases e : i = tail
      · by_cases e' : j = tail
        · omega
        · exfalso
          simp only [e, e', if_true, if_false] at he
          exact (hQ.1 j (by omega)).2.2 he.symm
      · by_cases e' : j = tail
        · exfalso
          simp only [e, e', if_true, if_false] at he
          exact (hQ.1 i (by omega)).2.2 he
        · simp only [e, e', if_false] at he
          exact hQ.2.1 i j (by omega) (by omega) he)
    exact this
  -- the inner loop
  have h113 : ∀ (head v : Nat) (B : (Nat → Int32) → (Nat → Int32) → Int32 → Int32 → Prop) (vis0 : Nat → Bool) (tail0 : Nat) (qu0 : Nat → Nat), v ≠ a → vis0 v = true →
      (∀ vis bf rk T Q QA before tail qu queue, yBf n bk a over ends 100 vis bf rk T Q QA before → yQu a vis tail qu queue → (∀ y, vis0 y = true → vis y = true) → (tail0 ≤ tail ∧ ∀ i, i < tail0 → qu i = qu0 i) →
        (∀ x, x < n → yM (bk v) x = true → vis x = true ∨ (yM ends x = false ∧ yM over x = false)) → B before queue (Int32.ofNat (head+1)) (Int32.ofNat tail)) →
      ∀ d x vis bf rk T Q QA before tail qu queue, n - x = d → x ≤ n → yBf n bk a over ends 100 vis bf rk T Q QA before → yQu a vis tail qu queue → (∀ y, vis0 y = true → vis y = true) → (tail0 ≤ tail ∧ ∀ i, i < tail0 → qu i = qu0 i) →
        (∀ x', x' < x → yM (bk v) x' = true → vis x' = true ∨ (yM ends x' = false ∧ yM over x' = false)) →
        wLX9_overPart_113 i0 i1 i2 (Int32.ofNat n) i4 i5 i6 i7 i8 over i10 i11 i12 i13 i14 i15 i16 i17 bk f21 (Int32.ofNat a) ends (Int32.ofNat head) (Int32.ofNat v) K B (d+1) before queue (Int32.ofNat tail) (Int32.ofNat x) := by
    intro head v B vis0 tail0 qu0 hva0 hv0 hB d
    induction d with
    | zero =>
      intro x vis bf rk T Q QA before tail qu queue hd hx hF hQ hmon hqu hproc
      have e1 : Int32.ofNat head + 1 = Int32.ofNat (head+1) := yn_add head 1
      unfold wLX9_overPart_113
      rw [e1]
      refine ⟨fun _ => hB vis bf rk T Q QA before tail qu queue hF hQ hmon hqu (fun x' hx' => hproc x' (by omega)), fun hh => ?_⟩
      exfalso; apply hh; rw [yn_le (by omega) (by omega)]; omega
    | succ d ih =>
      intro x vis bf rk T Q QA before tail qu queue hd hx hF hQ hmon hqu hproc
      have hxn : x < n := by omega
      have hv := hmon v hv0
      have hvn := hF.2.2.2.1 v hv
      have htail := hqn vis tail qu queue hQ hF.2.2.2.1
      have e1 : Int32.ofNat x + 1 = Int32.ofNat (x+1) := yn_add x 1
      have hskip : (yM (bk v) x = true → vis x = true ∨ (yM ends x = false ∧ yM over x = false)) →
          wLX9_overPart_113 i0 i1 i2 (Int32.ofNat n) i4 i5 i6 i7 i8 over i10 i11 i12 i13 i14 i15 i16 i17 bk f21 (Int32.ofNat a) ends (Int32.ofNat head) (Int32.ofNat v) K B (d+1) before queue (Int32.ofNat tail) (Int32.ofNat (x+1)) := by
        intro hs
        refine ih (x+1) vis bf rk T Q QA before tail qu queue (by omega) (by omega) hF hQ hmon hqu ?_
        intro x' hx' hadj
        by_cases e : x' = x
        · rw [e] at hadj ⊢; exact hs hadj
        · exact hproc x' (by omega) hadj
      unfold wLX9_overPart_113
      rw [e1, yn_nat (by omega : v < 2147483648), yn_nat (by omega : x < 2147483648), yM_test (by omega : x < 32), yM_test (by omega : x < 32), yM_test (by omega : x < 32)]
      refine ⟨fun hh => ?_, fun _ => ⟨yn_in (by omega) (by omega), fun hz => ?_, fun hnz => ⟨yn_in (by omega) (by omega), fun hlt => ?_, fun hge => ?_⟩⟩⟩
      · exfalso; rw [yn_le (by omega) (by omega)] at hh; omega
      · apply hskip
        intro hadj
        rw [hadj] at hz; exact absurd hz (by decide)
      · have hadj : yM (bk v) x = true := by
          cases hh : yM (bk v) x with
          | true => rfl
          | false => rw [hh] at hnz; exact absurd rfl hnz
        have hvx : vis x = false := by
          cases hh : vis x with
          | false => rfl
          | true =>
            exfalso
            rw [hF.2.2.2.2.1 x hxn hh] at hlt
            refine yn_neg ?_ hlt
            by_cases exa : x = a
            · rw [exa, hF.2.1]; omega
            · have := (hF.2.2.2.2.2.2.1 x hh exa).1
              have := hF.2.2.2.1 _ this
              omega
        have hxa : x ≠ a := fun e => by rw [e, hF.1] at hvx; cases hvx
        have hb : ¬ (v = a ∧ x = 100) := fun hh => by omega
        refine ⟨fun hne => ⟨fun hov => ?_, fun hov => ⟨yn_in (by omega) (by omega), fun g198 h198 => ⟨yn_in (by omega) (by omega), fun g207 h207 => ?_⟩⟩⟩, fun he => ⟨yn_in (by omega) (by omega), fun g168 h168 => ?_⟩⟩
        · have hen : yM ends x = false := by
            cases hh : yM ends x with
            | false => rfl
            | true => rw [hh] at hne; exact absurd rfl hne
          have hov' : yM over x = false := by
            cases hh : yM over x with
            | false => rfl
            | true => rw [hh] at hov; exact absurd rfl hov
          exact hskip (fun _ => Or.inr ⟨hen, hov'⟩)
        · have hov' : yM over x = true := by
            cases hh : yM over x with
            | true => rfl
            | false => rw [hh] at hov; exact absurd hov (by decide)
          have hF' := yBf_add hF v x hv hvx hxn hadj hov' (hdis x (by omega) hov') hb
          have hQ' := yQu_add hQ x hvx hxa
          rw [yn_nat (by omega)] at h207
          have e2 : Int32.ofNat tail + 1 = Int32.ofNat (tail+1) := yn_add tail 1
          rw [e2, h207, h198]
          refine ih (x+1) _ _ _ _ _ _ _ (tail+1) _ _ (by omega) (by omega) hF' hQ' (fun y hy => hm1 vis x y (hmon y hy)) ⟨by omega, fun i hi => by unfold yUpd; rw [if_neg (by omega)]; exact hqu.2 i hi⟩ ?_
          intro x' hx' hadj'
          by_cases e : x' = x
          · left; rw [e]; unfold yUpd; rw [if_pos rfl]
          · rcases hproc x' (by omega) hadj' with h | h
            · exact Or.inl (hm1 vis x x' h)
            · exact Or.inr h
        · have hen : yM ends x = true := by
            cases hh : yM ends x with
            | true => rfl
            | false => rw [hh] at he; exact absurd he (by decide)
          refine w9_reach hn hF v x hv hvx hxn hadj hen hb f21 g168 h168 _ ?_ i0 i1 i2 _ i4 i5 i6 i7 i8 over i10 i11 i12 i13 i14 i15 i16 i17
          intro L pn pt hW hpt hlast
          refine ⟨by rfl, hK1 L pn pt g168 queue hW ?_ hpt⟩
          by_cases hL : L = 2
          · exfalso; rw [hL] at hlast; exact hva0 (hlast.symm.trans hW.2.2.1)
          · have := hW.1; omega
      · apply hskip
        intro _
        left
        cases hh : vis x with
        | true => rfl
        | false => exfalso; apply hge; rw [hF.2.2.2.2.2.1 x hxn hh]; decide
  -- the outer loop
  have h93 : ∀ d head vis bf rk T Q QA before tail qu queue, n - head = d → yBf n bk a over ends 100 vis bf rk T Q QA before → yQu a vis tail qu queue → head ≤ tail →
      (∀ x, x < n → yM (bk a) x = true → yM over x = true → vis x = true) →
      (∀ i x, i < head → x < n → yM (bk (qu i)) x = true → vis x = true ∨ (yM ends x = false ∧ yM over x = false)) →
      wLX9_overPart_93 i0 i1 i2 (Int32.ofNat n) i4 i5 i6 i7 i8 over i10 i11 i12 i13 i14 i15 i16 i17 bk f21 (Int32.ofNat a) ends K (d+1) before queue (Int32.ofNat head) (Int32.ofNat tail) := by
    intro d
    have hfail : ∀ head vis bf rk T Q QA before tail qu queue, tail ≤ head → yBf n bk a over ends 100 vis bf rk T Q QA before → yQu a vis tail qu queue →
        (∀ x, x < n → yM (bk a) x = true → yM over x = true → vis x = true) →
        (∀ i x, i < head → x < n → yM (bk (qu i)) x = true → vis x = true ∨ (yM ends x = false ∧ yM over x = false)) → K 0 (i7, before, queue, f21) := by
      intro head vis bf rk T Q QA before tail qu queue hle hF hQ ha0 hproc
      refine hK0 vis before queue hF.2.2.2.1 ha0 ?_ (fun x hx hxa => (hF.2.2.2.2.2.2.1 x hx hxa).2.2.2.1)
      intro v x hv hva hx hadj
      obtain ⟨i, hi, hq⟩ := hQ.2.2 v hv hva
      have := hproc i x (by omega) hx
      rw [hq] at this
      exact this hadj
    induction d with
    | zero =>
      intro head vis bf rk T Q QA before tail qu queue hd hF hQ hht ha0 hproc
      have htail := hqn vis tail qu queue hQ hF.2.2.2.1
      unfold wLX9_overPart_93
      refine ⟨fun _ => hfail head vis bf rk T Q QA before tail qu queue (by omega) hF hQ ha0 hproc, fun hh => ?_⟩
      exfalso; apply hh; rw [yn_le (by omega) (by omega)]; omega
    | succ d ih =>
      intro head vis bf rk T Q QA before tail qu queue hd hF hQ hht ha0 hproc
      have htail := hqn vis tail qu queue hQ hF.2.2.2.1
      unfold wLX9_overPart_93
      rw [yn_nat (by omega : head < 2147483648)]
      refine ⟨fun hh => ?_, fun hh => ⟨yn_in (by omega) (by omega), fun v105 h105 => ?_⟩⟩
      · rw [yn_le (by omega) (by omega)] at hh
        exact hfail head vis bf rk T Q QA before tail qu queue hh hF hQ ha0 hproc
      · rw [yn_le (by omega) (by omega)] at hh
        have hq := hQ.1 head (by omega)
        rw [h105, hq.1]
        refine ⟨n + 1, ?_⟩
        rw [h0eq]
        refine h113 head (qu head) _ vis tail qu hq.2.2 hq.2.1 ?_ n 0 vis bf rk T Q QA before tail qu queue (by omega) (by omega) hF hQ (fun y hy => hy) ⟨Nat.le_refl _, fun i _ => rfl⟩ (fun x' hx' => by omega)
        intro vis' bf' rk' T' Q' QA' before' tail' qu' queue' hF' hQ' hmon' hqu' hproc'
        refine ih (head+1) vis' bf' rk' T' Q' QA' before' tail' qu' queue' (by omega) hF' hQ' (by omega) (fun x h1 h2 h3 => hmon' x (ha0 x h1 h2 h3)) ?_
        intro i x hi hx hadj
        by_cases e : i = head
        · rw [e, hqu'.2 head (by omega)] at hadj
          exact hproc' x hx hadj
        · rw [hqu'.2 i (by omega)] at hadj
          rcases hproc i x (by omega) hx hadj with h | h
          · exact Or.inl (hmon' x h)
          · exact Or.inr h
  -- the first step
  have h38 : ∀ d x vis bf rk T Q QA before tail qu queue, n - x = d → x ≤ n → yBf n bk a over ends 100 vis bf rk T Q QA before → yQu a vis tail qu queue →
      (∀ y, y < x → yM (bk a) y = true → yM over y = true → vis y = true) → (∀ y, vis y = true → y = a ∨ y < x) →
      wLX9_overPart_38 i0 i1 i2 (Int32.ofNat n) i4 i5 i6 i7 i8 over i10 i11 i12 i13 i14 i15 i16 i17 bk f21 (Int32.ofNat a) ends K (d+1) before queue (Int32.ofNat tail) (Int32.ofNat x) := by
    intro d
    induction d with
    | zero =>
      intro x vis bf rk T Q QA before tail qu queue hd hx hF hQ hdone hlow
      unfold wLX9_overPart_38
      refine ⟨fun _ => ⟨n + 1, ?_⟩, fun hh => ?_⟩
      · rw [h0eq]
        exact h93 n 0 vis bf rk T Q QA before tail qu queue (by omega) hF hQ (by omega) (fun y hy => hdone y (by omega)) (fun i x hi => by omega)
      · exfalso; apply hh; rw [yn_le (by omega) (by omega)]; omega
    | succ d ih =>
      intro x vis bf rk T Q QA before tail qu queue hd hx hF hQ hdone hlow
      have hxn : x < n := by omega
      have htail := hqn vis tail qu queue hQ hF.2.2.2.1
      have e1 : Int32.ofNat x + 1 = Int32.ofNat (x+1) := yn_add x 1
      unfold wLX9_overPart_38
      rw [e1, yn_nat (by omega : a < 2147483648), yM_test (by omega : x < 32), yM_and, yn_nat (by omega : x < 2147483648)]
      refine ⟨fun hh => ?_, fun _ => ⟨yn_in (by omega) (by omega), fun hno => ?_, fun hyes => ⟨yn_in (by omega) (by omega), fun g74 h74 => ⟨yn_in (by omega) (by omega), fun g83 h83 => ?_⟩⟩⟩⟩
      · exfalso; rw [yn_le (by omega) (by omega)] at hh; omega
      · refine ih (x+1) vis bf rk T Q QA before tail qu queue (by omega) (by omega) hF hQ ?_ (fun y hy => by rcases hlow y hy with h | h; exact Or.inl h; exact Or.inr (by omega))
        intro y hy h1 h2
        by_cases e : y = x
        · exfalso; apply hno; rw [e] at h1 h2; rw [h1, h2]; rfl
        · exact hdone y (by omega) h1 h2
      · have hboth : yM (bk a) x = true ∧ yM over x = true := by
          cases hb1 : yM (bk a) x <;> cases hb2 : yM over x <;> rw [hb1, hb2] at hyes
          · exact absurd hyes (by decide)
          · exact absurd hyes (by decide)
          · exact absurd hyes (by decide)
          · exact ⟨rfl, rfl⟩
        have hxa : x ≠ a := fun e => by rw [e, hao] at hboth; cases hboth.2
        have hvx : vis x = false := by
          cases hh : vis x with
          | false => rfl
          | true => rcases hlow x hh with h | h
                    · exact absurd h hxa
                    · omega
        have hF' := yBf_add hF a x hF.1 hvx hxn hboth.1 hboth.2 (hdis x (by omega) hboth.2) (fun hh => by omega)
        have hQ' := yQu_add hQ x hvx hxa
        rw [yn_nat (by omega)] at h83
        have e2 : Int32.ofNat tail + 1 = Int32.ofNat (tail+1) := yn_add tail 1
        rw [e2, h83, h74]
        refine ih (x+1) _ _ _ _ _ _ _ (tail+1) _ _ (by omega) (by omega) hF' hQ' ?_ ?_
        · intro y hy h1 h2
          by_cases e : y = x
          · rw [e]; unfold yUpd; rw [if_pos rfl]
          · exact hm1 vis x y (hdone y (by omega) h1 h2)
        · intro y hy
          by_cases e : y = x
          · exact Or.inr (by omega)
          · unfold yUpd at hy; rw [if_neg e] at hy
            rcases hlow y hy with h | h
            · exact Or.inl h
            · exact Or.inr (by omega)
  -- nothing is seen at first
  have h2 : ∀ d x bf, n - x = d → x ≤ n → (∀ y, y < x → bf y = -1) →
      wLX9_overPart_2 i0 i1 i2 (Int32.ofNat n) i4 i5 i6 i7 i8 over i10 i11 i12 i13 i14 i15 i16 i17 bk f20 f21 (Int32.ofNat a) ends K (d+1) bf (Int32.ofNat x) := by
    intro d
    induction d with
    | zero =>
      intro x bf hd hx hbf
      unfold wLX9_overPart_2
      refine ⟨fun _ => ⟨yn_in (by omega) (by omega), fun g34 h34 => ⟨n + 1, ?_⟩⟩, fun hh => ?_⟩
      · rw [yn_nat (by omega)] at h34
        rw [h0eq]
        refine h38 n 0 (fun y => decide (y = a)) (fun y => y) (fun _ => 0) 1 (fun _ => a) (fun _ => Int32.ofNat a) g34 0 (fun _ => 0) f20 (by omega) (by omega) ?_ ?_ (fun y hy => by omega) (fun y hy => Or.inl (of_decide_eq_true hy))
        · refine ⟨by simp, rfl, rfl, ?_, ?_, ?_, ?_, ?_, ?_, ?_⟩
          · intro y hy; rw [of_decide_eq_true hy]; exact ha
          · intro y _ hy; rw [of_decide_eq_true hy, h34, yupd_same]
          · intro y hy hv
            have hne : y ≠ a := of_decide_eq_false hv
            rw [h34, yupd_ne _ _ _ _ hne]; exact hbf y (by omega)
          · intro y hy hya; exact absurd (of_decide_eq_true hy) hya
          · intro i hi; exact ⟨rfl, by simp⟩
          · intro i j hi hj _; omega
          · intro y hy; exact ⟨0, by omega, (of_decide_eq_true hy).symm⟩
        · refine ⟨fun i hi => by omega, fun i j hi => by omega, fun x hx hxa => absurd (of_decide_eq_true hx) hxa⟩
      · exfalso; apply hh; rw [yn_le (by omega) (by omega)]; omega
    | succ d ih =>
      intro x bf hd hx hbf
      have e1 : Int32.ofNat x + 1 = Int32.ofNat (x+1) := yn_add x 1
      unfold wLX9_overPart_2
      refine ⟨fun hh => ?_, fun _ => ⟨yn_in (by omega) (by omega), fun g16 h16 => ?_⟩⟩
      · exfalso; rw [yn_le (by omega) (by omega)] at hh; omega
      · rw [e1]
        rw [yn_nat (by omega)] at h16
        refine ih (x+1) g16 (by omega) (by omega) ?_
        intro y hy
        by_cases e : y = x
        · rw [e, h16, yupd_same]
        · rw [h16, yupd_ne _ _ _ _ e]; exact hbf y (by omega)
  unfold wX9_overPart
  refine ⟨n + 1, ?_⟩
  rw [h0eq]
  exact h2 n 0 f18 (by omega) (by omega) (fun y hy => by omega)

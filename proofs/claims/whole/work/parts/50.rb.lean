
theorem yn_dec {k : Nat} (h : 0 < k) : Int32.ofNat k + (-1) = Int32.ofNat (k-1) := by
  have e : Int32.ofNat k = Int32.ofNat (k-1) + Int32.ofNat 1 := by rw [yn_add]; congr 1; omega
  rw [e]
  have : Int32.ofNat 1 + (-1 : Int32) = 0 := by decide
  rw [Int32.add_assoc, this, Int32.add_zero]

-- the way back
theorem w9_back (f18 bf' : Nat → Int32) (bf : Nat → Nat) (a x m : Nat) (hm : m < 23)
    (hbf : ∀ k, k ≤ m → bf' (yPar bf k x) = Int32.ofNat (bf (yPar bf k x)) ∧ yPar bf k x < 21)
    (hend : yPar bf m x = a) (hne : ∀ k, k < m → yPar bf k x ≠ a)
    (K : Int32 → (Int32 × (Nat → Int32)) → Prop)
    (hK : ∀ pt, (∀ k, k ≤ m → pt k = Int32.ofNat (yPar bf (m - k) x)) → K 1 (Int32.ofNat (m+1), pt))
    (i0 i1 i2 i3 i4 i5 i6 i7 i8 i9 i10 i11 i12 i13 i14 i15 i16 i17 : Int32) :
    wX9_back i0 i1 i2 i3 i4 i5 i6 i7 i8 i9 i10 i11 i12 i13 i14 i15 i16 i17 f18 bf' (Int32.ofNat x) (Int32.ofNat a) K := by
  have ha : a < 21 := by rw [← hend]; exact (hbf m (Nat.le_refl m)).2
  -- filling
  have hfill : ∀ k pt, k ≤ m → (∀ j, k < j → j ≤ m → pt j = Int32.ofNat (yPar bf (m - j) x)) →
      wLX9_back_39 bf' (Int32.ofNat (m+1)) K (k+2) pt (Int32.ofNat (yPar bf (m - k) x)) (Int32.ofNat k) := by
    intro k
    induction k with
    | zero =>
      intro pt _ hpt
      have h1 := hbf (m - 0) (by omega)
      unfold wLX9_back_39
      refine ⟨fun hh => absurd hh (yn_neg (by omega)), fun _ => ⟨yn_in (by omega) (by omega), fun g52 h52 => ⟨yn_in (by omega) h1.2, fun v60 h60 => ?_⟩⟩⟩
      rw [yn_nat (by omega)] at h52
      have e0 : Int32.ofNat 0 + (-1) = (-1 : Int32) := by decide
      rw [e0]
      have hfin : K 1 (Int32.ofNat (m+1), g52) := by
        apply hK
        intro j hj
        by_cases e : j = 0
        · rw [e, h52, yupd_same]
        · rw [h52, yupd_ne _ _ _ _ e]; exact hpt j (by omega) hj
      unfold wLX9_back_39
      exact ⟨fun _ => hfin, fun hh => absurd (by decide) hh⟩
    | succ k ih =>
      intro pt hk hpt
      have h1 := hbf (m - (k+1)) (by omega)
      unfold wLX9_back_39
      refine ⟨fun hh => absurd hh (yn_neg (by omega)), fun _ => ⟨yn_in (by omega) (by omega), fun g52 h52 => ⟨yn_in (by omega) h1.2, fun v60 h60 => ?_⟩⟩⟩
      rw [yn_nat (by omega)] at h52
      rw [yn_nat (by omega), h1.1] at h60
      rw [yn_dec (by omega), h60]
      have e1 : bf (yPar bf (m - (k+1)) x) = yPar bf (m - k) x := by
        rw [← yPar_succ bf]; congr 1; omega
      rw [e1]
      refine ih g52 (by omega) ?_
      intro j hj hjm
      by_cases e : j = k + 1
      · rw [e, h52, yupd_same]
      · rw [h52, yupd_ne _ _ _ _ e]; exact hpt j (by omega) hjm
  -- counting
  have hcount : ∀ d k, m - k = d → k ≤ m → wLX9_back_5 f18 bf' (Int32.ofNat x) (Int32.ofNat a) K (d+1) (Int32.ofNat (k+1)) (Int32.ofNat (yPar bf k x)) := by
    intro d
    induction d with
    | zero =>
      intro k hd hk
      have hkm : k = m := by omega
      subst hkm
      unfold wLX9_back_5
      refine ⟨fun _ v37 h37 => ?_, fun hh => absurd (by rw [hend]) hh⟩
      have e1 : Int32.ofNat (k+1) - 1 = Int32.ofNat k := by
        have := yn_sub (a := k+1) (b := 1) (by omega)
        exact this
      rw [h37, e1]
      have := hfill k f18 (Nat.le_refl k) (fun j h1 h2 => by omega)
      rw [Nat.sub_self] at this
      exact ⟨_, this⟩
    | succ d ih =>
      intro k hd hk
      have h1 := hbf k hk
      unfold wLX9_back_5
      refine ⟨fun hh => ?_, fun _ => ⟨yn_in (by omega) h1.2, fun v21 h21 => ?_⟩⟩
      · exfalso
        exact hne k (by omega) ((yn_inj (by omega) (by omega)).1 hh)
      · have e1 : Int32.ofNat (k+1) + 1 = Int32.ofNat (k+1+1) := yn_add (k+1) 1
        rw [yn_nat (by omega), h1.1] at h21
        rw [e1, h21, ← yPar_succ bf]
        exact ih (k+1) (by omega) (by omega)
  unfold wX9_back
  have h1eq : (1 : Int32) = Int32.ofNat (0+1) := rfl
  rw [h1eq]
  exact ⟨_, hcount m 0 (by omega) (by omega)⟩

-- the search for a way: what is known of it
def yBf (n : Nat) (bk : Nat → Int32) (a : Nat) (over ends : Int32) (ba : Nat) (vis : Nat → Bool) (bf rk : Nat → Nat) (tail : Nat) (qu : Nat → Nat) (queue before : Nat → Int32) : Prop :=
  vis a = true ∧ bf a = a ∧ rk a = 0 ∧
  (∀ x, vis x = true → x < n) ∧
  (∀ x, x < n → vis x = true → before x = Int32.ofNat (bf x)) ∧ (∀ x, x < n → vis x = false → before x = -1) ∧
  (∀ x, vis x = true → x ≠ a → vis (bf x) = true ∧ rk x = rk (bf x) + 1 ∧ yM (bk (bf x)) x = true ∧ yM over x = true ∧ yM ends x = false ∧ ¬ (bf x = a ∧ x = ba)) ∧
  (∀ i, i < tail → queue i = Int32.ofNat (qu i) ∧ vis (qu i) = true) ∧
  (∀ i j, i < tail → j < tail → qu i = qu j → i = j) ∧
  (∀ x, vis x = true → ∃ i, i < tail ∧ qu i = x)

theorem yBf_rk {n : Nat} {bk : Nat → Int32} {a : Nat} {over ends : Int32} {ba : Nat} {vis : Nat → Bool} {bf rk : Nat → Nat} {tail : Nat} {qu : Nat → Nat} {queue before : Nat → Int32}
    (h : yBf n bk a over ends ba vis bf rk tail qu queue before) : ∀ k x, vis x = true → k ≤ rk x → vis (yPar bf k x) = true ∧ rk (yPar bf k x) = rk x - k ∧ (k < rk x → yPar bf k x ≠ a) := by
  obtain ⟨h1, h2, h3, h4, h5, h6, h7, h8, h9, h10⟩ := h
  intro k
  induction k with
  | zero =>
    intro x hx _
    refine ⟨hx, rfl, fun hlt e => ?_⟩
    have e' : x = a := e
    rw [e', h3] at hlt; omega
  | succ k ih =>
    intro x hx hk
    have hxa : x ≠ a := by intro e; rw [e, h3] at hk; omega
    have h := h7 x hx hxa
    have := ih (bf x) h.1 (by omega)
    refine ⟨this.1, ?_, fun hlt => this.2.2 (by omega)⟩
    show rk (yPar bf k (bf x)) = rk x - (k+1)
    rw [this.2.1]; omega

theorem yBf_few {n : Nat} {bk : Nat → Int32} {a : Nat} {over ends : Int32} {ba : Nat} {vis : Nat → Bool} {bf rk : Nat → Nat} {tail : Nat} {qu : Nat → Nat} {queue before : Nat → Int32}
    (h : yBf n bk a over ends ba vis bf rk tail qu queue before) : tail ≤ n := by
  obtain ⟨h1, h2, h3, h4, h5, h6, h7, h8, h9, h10⟩ := h
  exact yPig tail n qu (fun i hi => h4 _ (h8 i hi).2) h9

theorem yBf_rkn {n : Nat} {bk : Nat → Int32} {a : Nat} {over ends : Int32} {ba : Nat} {vis : Nat → Bool} {bf rk : Nat → Nat} {tail : Nat} {qu : Nat → Nat} {queue before : Nat → Int32}
    (h : yBf n bk a over ends ba vis bf rk tail qu queue before) (x : Nat) (hx : vis x = true) : rk x < n := by
  have hk := fun k hk => yBf_rk h k x hx hk
  have := yPig (rk x + 1) n (fun k => yPar bf k x) (fun k hk' => h.2.2.2.1 _ (hk k (by omega)).1) (by
    intro i j hi hj he
    have a1 := (hk i (by omega)).2.1
    have a2 := (hk j (by omega)).2.1
    have he' : yPar bf i x = yPar bf j x := he
    rw [he'] at a1
    omega)
  omega

-- one node more
theorem yBf_add {n : Nat} {bk : Nat → Int32} {a : Nat} {over ends : Int32} {ba : Nat} {vis : Nat → Bool} {bf rk : Nat → Nat} {tail : Nat} {qu : Nat → Nat} {queue before : Nat → Int32}
    (h : yBf n bk a over ends ba vis bf rk tail qu queue before) (v x : Nat) (hv : vis v = true) (hx : vis x = false) (hxn : x < n) (hadj : yM (bk v) x = true)
    (hov : yM over x = true) (hen : yM ends x = false) (hba : ¬ (v = a ∧ x = ba)) :
    yBf n bk a over ends ba (yUpd vis x true) (yUpd bf x v) (yUpd rk x (rk v + 1)) (tail+1) (yUpd qu tail x) (upd queue tail (Int32.ofNat x)) (upd before x (Int32.ofNat v)) := by
  obtain ⟨h1, h2, h3, h4, h5, h6, h7, h8, h9, h10⟩ := h
  have hne : ∀ y, vis y = true → y ≠ x := fun y hy e => by rw [e, hx] at hy; cases hy
  have q1 : ∀ {A : Type} (f : Nat → A) (y : A) (k : Nat), yUpd f k y k = y := by intro A f y k; unfold yUpd; rw [if_pos rfl]
  have q2 : ∀ {A : Type} (f : Nat → A) (y : A) (k z : Nat), z ≠ k → yUpd f k y z = f z := by intro A f y k z hz; unfold yUpd; rw [if_neg hz]
  have hax := hne a h1
  have hvv : ∀ y, yUpd vis x true y = true → y = x ∨ vis y = true := by
    intro y hy; by_cases e : y = x
    · exact Or.inl e
    · rw [q2 _ _ _ _ e] at hy; exact Or.inr hy
  refine ⟨by rw [q2 _ _ _ _ hax]; exact h1, by rw [q2 _ _ _ _ hax]; exact h2, by rw [q2 _ _ _ _ hax]; exact h3, ?_, ?_, ?_, ?_, ?_, ?_, ?_⟩
  · intro y hy; rcases hvv y hy with e | e
    · rw [e]; exact hxn
    · exact h4 y e
  · intro y hy hvy
    by_cases e : y = x
    · rw [e, yupd_same, q1]
    · rw [yupd_ne _ _ _ _ e, q2 _ _ _ _ e]
      rw [q2 _ _ _ _ e] at hvy
      exact h5 y hy hvy
  · intro y hy hvy
    by_cases e : y = x
    · rw [e, q1] at hvy; cases hvy
    · rw [yupd_ne _ _ _ _ e]
      rw [q2 _ _ _ _ e] at hvy
      exact h6 y hy hvy
  · intro y hy hya
    rcases hvv y hy with e | e
    · rw [e, q1, q1]
      have hvx := hne v hv
      rw [q2 _ _ _ _ hvx, q2 _ _ _ _ hvx]
      exact ⟨hv, rfl, hadj, hov, hen, hba⟩
    · have hyx := hne y e
      have := h7 y e hya
      have hbx := hne _ this.1
      rw [q2 bf _ _ _ hyx, q2 rk _ _ _ hyx, q2 vis _ _ _ hbx, q2 rk _ _ _ hbx]
      exact this
  · intro i hi
    by_cases e : i = tail
    · rw [e, yupd_same, q1, q1]; exact ⟨rfl, rfl⟩
    · rw [yupd_ne _ _ _ _ e, q2 qu _ _ _ e]
      have := h8 i (by omega)
      exact ⟨this.1, by rw [q2 _ _ _ _ (hne _ this.2)]; exact this.2⟩
  · intro i j hi hj he
    by_cases e : i = tail
    · by_cases e' : j = tail
      · omega
      · exfalso
        rw [e, q1, q2 qu _ _ _ e'] at he
        exact hne _ (h8 j (by omega)).2 he.symm
    · by_cases e' : j = tail
      · exfalso
        rw [e', q1, q2 qu _ _ _ e] at he
        exact hne _ (h8 i (by omega)).2 he
      · rw [q2 qu _ _ _ e, q2 qu _ _ _ e'] at he
        exact h9 i j (by omega) (by omega) he
  · intro y hy
    rcases hvv y hy with e | e
    · exact ⟨tail, by omega, by rw [q1, e]⟩
    · obtain ⟨i, hi, hq⟩ := h10 y e
      exact ⟨i, by omega, by rw [q2 qu _ _ _ (by omega)]; exact hq⟩

-- a way that was found
def yWy (n : Nat) (bk : Nat → Int32) (a : Nat) (over ends : Int32) (ba : Nat) (L : Nat) (pn : Nat → Nat) : Prop :=
  2 ≤ L ∧ L ≤ n + 1 ∧ pn 0 = a ∧ yM ends (pn (L-1)) = true ∧ (∀ k, k < L → pn k < n) ∧
  (∀ k, k + 1 < L → yM (bk (pn k)) (pn (k+1)) = true ∧ ¬ (pn k = a ∧ pn (k+1) = ba)) ∧
  (∀ i j, i < L → j < L → pn i = pn j → i = j) ∧ (∀ k, 0 < k → k + 1 < L → yM over (pn k) = true ∧ yM ends (pn k) = false)

-- an end is reached
theorem w9_reach {n : Nat} (hn : n ≤ 21) {bk : Nat → Int32} {a : Nat} {over ends : Int32} {ba : Nat} {vis : Nat → Bool} {bf rk : Nat → Nat} {tail : Nat} {qu : Nat → Nat} {queue before : Nat → Int32}
    (h : yBf n bk a over ends ba vis bf rk tail qu queue before) (v x : Nat) (hv : vis v = true) (hx : vis x = false) (hxn : x < n) (hadj : yM (bk v) x = true)
    (hen : yM ends x = true) (hba : ¬ (v = a ∧ x = ba)) (f21 g160 : Nat → Int32) (h160 : g160 = upd before x (Int32.ofNat v))
    (K : Int32 → (Int32 × (Nat → Int32)) → Prop)
    (hK : ∀ L pn pt, yWy n bk a over ends ba L pn → (∀ k, k < L → pt k = Int32.ofNat (pn k)) → pn (L-2) = v → K 1 (Int32.ofNat L, pt))
    (i0 i1 i2 i3 i4 i5 i6 i7 i8 i9 i10 i11 i12 i13 i14 i15 i16 i17 : Int32) :
    wX9_back i0 i1 i2 i3 i4 i5 i6 i7 i8 i9 i10 i11 i12 i13 i14 i15 i16 i17 f21 g160 (Int32.ofNat x) (Int32.ofNat a) K := by
  have hrv := yBf_rkn h v hv
  have hk := fun k hk => yBf_rk h k v hv hk
  have h' := h
  obtain ⟨h1, h2, h3, h4, h5, h6, h7, h8, h9, h10⟩ := h'
  have hne : ∀ y, vis y = true → y ≠ x := fun y hy e => by rw [e, hx] at hy; cases hy
  -- the way back from x: x, v, ..
  have hp : ∀ k, k ≤ rk v → yPar (yUpd bf x v) (k+1) x = yPar bf k v := by
    intro k
    induction k with
    | zero => intro _; show yUpd bf x v x = v; unfold yUpd; rw [if_pos rfl]
    | succ k ih =>
      intro hk'
      rw [yPar_succ, ih (by omega), yPar_succ]
      unfold yUpd
      rw [if_neg (hne _ (hk k (by omega)).1)]
  have hend0 : yPar bf (rk v) v = a := by
    have := hk (rk v) (Nat.le_refl _)
    by_cases e : yPar bf (rk v) v = a
    · exact e
    · exfalso
      have h11 := (h7 _ this.1 e).2.1
      rw [this.2.1] at h11; omega
  have hbv : ∀ k, k ≤ rk v + 1 → yPar (yUpd bf x v) k x < n ∧ g160 (yPar (yUpd bf x v) k x) = Int32.ofNat (yUpd bf x v (yPar (yUpd bf x v) k x)) := by
    intro k hk'
    cases k with
    | zero =>
      refine ⟨hxn, ?_⟩
      show g160 x = Int32.ofNat (yUpd bf x v x)
      rw [h160, yupd_same]; unfold yUpd; rw [if_pos rfl]
    | succ k =>
      rw [hp k (by omega)]
      have := hk k (by omega)
      have hnx := hne _ this.1
      refine ⟨h4 _ this.1, ?_⟩
      rw [h160, yupd_ne _ _ _ _ hnx, h5 _ (h4 _ this.1) this.1]
      unfold yUpd; rw [if_neg hnx]
  refine w9_back f21 g160 (yUpd bf x v) a x (rk v + 1) (by omega) (fun k hk' => ⟨(hbv k hk').2, by have := (hbv k hk').1; omega⟩) (by rw [hp (rk v) (Nat.le_refl _)]; exact hend0) ?_ K ?_
    i0 i1 i2 i3 i4 i5 i6 i7 i8 i9 i10 i11 i12 i13 i14 i15 i16 i17
  · intro k hk'
    cases k with
    | zero => intro e; exact hne a h1 e.symm
    | succ k => rw [hp k (by omega)]; exact (hk k (by omega)).2.2 (by omega)
  · intro pt hpt
    refine hK (rk v + 1 + 1) (fun k => yPar (yUpd bf x v) (rk v + 1 - k) x) pt ?_ (fun k hk' => hpt k (by omega)) (by
      show yPar (yUpd bf x v) (rk v + 1 - (rk v + 1 + 1 - 2)) x = v
      rw [show rk v + 1 - (rk v + 1 + 1 - 2) = 0 + 1 by omega, hp 0 (by omega)]; rfl)
    have hlast : yPar (yUpd bf x v) (rk v + 1 - (rk v + 1 + 1 - 1)) x = x := by
      have : rk v + 1 - (rk v + 1 + 1 - 1) = 0 := by omega
      rw [this]; rfl
    have hin : ∀ k, k < rk v + 1 → yPar (yUpd bf x v) (rk v + 1 - k) x = yPar bf (rk v - k) v := by
      intro k hk'
      have : rk v + 1 - k = (rk v - k) + 1 := by omega
      rw [this, hp _ (by omega)]
    have hrk : ∀ k, k < rk v + 1 → rk (yPar bf (rk v - k) v) = k ∧ vis (yPar bf (rk v - k) v) = true := by
      intro k hk'
      have := hk (rk v - k) (by omega)
      exact ⟨by rw [this.2.1]; omega, this.1⟩
    refine ⟨by omega, by omega, ?_, ?_, ?_, ?_, ?_, ?_⟩
    · dsimp only; rw [hin 0 (by omega), Nat.sub_zero]; exact hend0
    · dsimp only; rw [hlast]; exact hen
    · intro k hk'; exact (hbv _ (by omega)).1
    · intro k hk'
      dsimp only
      rw [hin k (by omega)]
      by_cases e : k = rk v
      · have h11 : rk v + 1 - (k+1) = 0 := by omega
        rw [h11, e, Nat.sub_self]
        exact ⟨hadj, hba⟩
      · rw [hin (k+1) (by omega)]
        have h12 := hrk (k+1) (by omega)
        have hna : yPar bf (rk v - (k+1)) v ≠ a := by intro e2; rw [e2, h3] at h12; omega
        have h13 := h7 _ h12.2 hna
        have h14 : bf (yPar bf (rk v - (k+1)) v) = yPar bf (rk v - k) v := by
          rw [← yPar_succ bf]; congr 1; omega
        rw [h14] at h13
        exact ⟨h13.2.2.1, h13.2.2.2.2.2⟩
    · intro i j hi hj he
      dsimp only at he
      by_cases ei : i = rk v + 1
      · by_cases ej : j = rk v + 1
        · omega
        · exfalso
          have h11 : rk v + 1 - i = 0 := by omega
          rw [h11, hin j (by omega)] at he
          exact hne _ (hrk j (by omega)).2 he.symm
      · by_cases ej : j = rk v + 1
        · exfalso
          have h11 : rk v + 1 - j = 0 := by omega
          rw [h11, hin i (by omega)] at he
          exact hne _ (hrk i (by omega)).2 he
        · rw [hin i (by omega), hin j (by omega)] at he
          have a1 := (hrk i (by omega)).1
          have a2 := (hrk j (by omega)).1
          rw [he] at a1; omega
    · intro k hk0 hk'
      dsimp only
      rw [hin k (by omega)]
      have h12 := hrk k (by omega)
      have hna : yPar bf (rk v - k) v ≠ a := by intro e2; rw [e2, h3] at h12; omega
      have h13 := h7 _ h12.2 hna
      exact ⟨h13.2.2.2.1, h13.2.2.2.2.1⟩

theorem w9_findPath {n : Nat} (hn : n ≤ 21) (bk : Nat → Int32) (a ba : Nat) (ha : a < n) (hba : ba < 32) (over ends : Int32)
    (f18 f19 f21 : Nat → Int32) (i7 : Int32)
    (K : Int32 → (Int32 × (Nat → Int32) × (Nat → Int32) × (Nat → Int32)) → Prop)
    (hK1 : ∀ (L : Nat) (pn : Nat → Nat) (pt qu bf : Nat → Int32), yWy n bk a over ends ba L pn → (∀ k, k < L → pt k = Int32.ofNat (pn k)) → K 1 (Int32.ofNat L, qu, bf, pt))
    (hK0 : ∀ (vis : Nat → Bool) (qu bf : Nat → Int32), vis a = true → (∀ x, vis x = true → x < n) → (∀ x, vis x = true → x ≠ a → yM over x = true ∧ yM ends x = false) →
      (∀ v x, vis v = true → x < n → yM (bk v) x = true → ¬ (v = a ∧ x = ba) → vis x = true ∨ (yM ends x = false ∧ yM over x = false)) → K 0 (i7, qu, bf, f21))
    (i0 i1 i2 i4 i5 i6 i8 i9 i10 i11 i12 i13 i14 i15 i16 i17 : Int32) :
    wX9_findPath i0 i1 i2 (Int32.ofNat n) i4 i5 i6 i7 i8 i9 i10 i11 i12 i13 i14 i15 i16 i17 f18 f19 bk f21 (Int32.ofNat a) over ends (Int32.ofNat ba) K := by
  have h0eq : (0 : Int32) = Int32.ofNat 0 := rfl
  have h1eq : (1 : Int32) = Int32.ofNat 1 := rfl
  -- the inner loop
  have h68 : ∀ (head v : Nat) (B : (Nat → Int32) → (Nat → Int32) → Int32 → Int32 → Prop) (vis0 : Nat → Bool) (tail0 : Nat) (qu0 : Nat → Nat), vis0 v = true →
      (∀ vis bf rk tail qu queue before, yBf n bk a over ends ba vis bf rk tail qu queue before → (∀ y, vis0 y = true → vis y = true) → (tail0 ≤ tail ∧ ∀ i, i < tail0 → qu i = qu0 i) →
        (∀ x, x < n → yM (bk v) x = true → ¬ (v = a ∧ x = ba) → vis x = true ∨ (yM ends x = false ∧ yM over x = false)) → B queue before (Int32.ofNat (head+1)) (Int32.ofNat tail)) →
      ∀ d x vis bf rk tail qu queue before, n - x = d → x ≤ n → yBf n bk a over ends ba vis bf rk tail qu queue before → (∀ y, vis0 y = true → vis y = true) → (tail0 ≤ tail ∧ ∀ i, i < tail0 → qu i = qu0 i) →
        (∀ x', x' < x → yM (bk v) x' = true → ¬ (v = a ∧ x' = ba) → vis x' = true ∨ (yM ends x' = false ∧ yM over x' = false)) →
        wLX9_findPath_68 i0 i1 i2 (Int32.ofNat n) i4 i5 i6 i7 i8 i9 i10 i11 i12 i13 i14 i15 i16 i17 bk f21 (Int32.ofNat a) over ends (Int32.ofNat ba) (Int32.ofNat head) (Int32.ofNat v) K B (d+1) queue before (Int32.ofNat tail) (Int32.ofNat x) := by
    intro head v B vis0 tail0 qu0 hv0 hB d
    induction d with
    | zero =>
      intro x vis bf rk tail qu queue before hd hx hF hmon hqu hproc
      have e1 : Int32.ofNat head + 1 = Int32.ofNat (head+1) := yn_add head 1
      unfold wLX9_findPath_68
      rw [e1]
      refine ⟨fun _ => hB vis bf rk tail qu queue before hF hmon hqu (fun x' hx' => hproc x' (by omega)), fun hh => ?_⟩
      exfalso; apply hh; rw [yn_le (by omega) (by omega)]; omega
    | succ d ih =>
      intro x vis bf rk tail qu queue before hd hx hF hmon hqu hproc
      have hxn : x < n := by omega
      have hv := hmon v hv0
      have hvn := hF.2.2.2.1 v hv
      have htail := yBf_few hF
      have e1 : Int32.ofNat x + 1 = Int32.ofNat (x+1) := yn_add x 1
      have hskip : (yM (bk v) x = true → ¬ (v = a ∧ x = ba) → vis x = true ∨ (yM ends x = false ∧ yM over x = false)) →
          wLX9_findPath_68 i0 i1 i2 (Int32.ofNat n) i4 i5 i6 i7 i8 i9 i10 i11 i12 i13 i14 i15 i16 i17 bk f21 (Int32.ofNat a) over ends (Int32.ofNat ba) (Int32.ofNat head) (Int32.ofNat v) K B (d+1) queue before (Int32.ofNat tail) (Int32.ofNat (x+1)) := by
        intro hs
        refine ih (x+1) vis bf rk tail qu queue before (by omega) (by omega) hF hmon hqu ?_
        intro x' hx' hadj hb
        by_cases e : x' = x
        · rw [e] at hadj hb ⊢; exact hs hadj hb
        · exact hproc x' (by omega) hadj hb
      unfold wLX9_findPath_68
      rw [e1, yn_nat (by omega : v < 2147483648), yn_nat (by omega : x < 2147483648), yM_test (by omega : x < 32), yM_test (by omega : x < 32), yM_test (by omega : x < 32)]
      refine ⟨fun hh => ?_, fun _ => ⟨yn_in (by omega) (by omega), fun hz => ?_, fun hnz => ⟨yn_in (by omega) (by omega), fun hge => ?_, fun hlt => ?_⟩⟩⟩
      · exfalso; rw [yn_le (by omega) (by omega)] at hh; omega
      · apply hskip
        intro hadj
        rw [hadj] at hz; exact absurd hz (by decide)
      · apply hskip
        intro _ _
        left
        cases hh : vis x with
        | true => rfl
        | false => rw [hF.2.2.2.2.2.1 x hxn hh] at hge; exact absurd hge (by decide)
      · have hadj : yM (bk v) x = true := by
          cases hh : yM (bk v) x with
          | true => rfl
          | false => rw [hh] at hnz; exact absurd rfl hnz
        have hvx : vis x = false := by
          cases hh : vis x with
          | false => rfl
          | true =>
            exfalso; apply hlt
            rw [hF.2.2.2.2.1 x hxn hh, h0eq, yn_le (by omega) ?_]
            · omega
            · by_cases exa : x = a
              · rw [exa, hF.2.1]; omega
              · have := (hF.2.2.2.2.2.2.1 x hh exa).1
                have := hF.2.2.2.1 _ this
                omega
        -- what is done with a new node
        have hbody : ¬ (v = a ∧ x = ba) →
            ((¬ (if yM ends x = true then (1 : Int32) else 0) = 1 → ((¬ (if yM over x = true then (1 : Int32) else 0) = 0 → (vp_in (Int32.ofNat x) 21 ∧ (∀ g160 : Nat → Int32, g160 = upd before x (Int32.ofNat v) →
              (vp_in (Int32.ofNat tail) 21 ∧ (∀ g182 : Nat → Int32, g182 = upd queue (Int32.toNatClampNeg (Int32.ofNat tail)) (Int32.ofNat x) →
                (wLX9_findPath_68 i0 i1 i2 (Int32.ofNat n) i4 i5 i6 i7 i8 i9 i10 i11 i12 i13 i14 i15 i16 i17 bk f21 (Int32.ofNat a) over ends (Int32.ofNat ba) (Int32.ofNat head) (Int32.ofNat v) K B (d+1)) g182 g160 (Int32.ofNat tail + 1) (Int32.ofNat (x+1))))))) ∧
              ((if yM over x = true then (1 : Int32) else 0) = 0 → (wLX9_findPath_68 i0 i1 i2 (Int32.ofNat n) i4 i5 i6 i7 i8 i9 i10 i11 i12 i13 i14 i15 i16 i17 bk f21 (Int32.ofNat a) over ends (Int32.ofNat ba) (Int32.ofNat head) (Int32.ofNat v) K B (d+1)) queue before (Int32.ofNat tail) (Int32.ofNat (x+1))))) ∧
             ((if yM ends x = true then (1 : Int32) else 0) = 1 → (vp_in (Int32.ofNat x) 21 ∧ (∀ g160 : Nat → Int32, g160 = upd before x (Int32.ofNat v) →
               (wX9_back i0 i1 i2 (Int32.ofNat n) i4 i5 i6 i7 i8 i9 i10 i11 i12 i13 i14 i15 i16 i17 f21 g160 (Int32.ofNat x) (Int32.ofNat a) (fun r170 u170 => (narrow .boolean (.int r170) = .int r170 ∧ K r170 (u170.1, queue, g160, u170.2)))))))) := by
          intro hb
          refine ⟨fun hne => ⟨fun hov => ⟨yn_in (by omega) (by omega), fun g160 h160 => ?_⟩, fun hov => ?_⟩, fun he => ⟨yn_in (by omega) (by omega), fun g160 h160 => ?_⟩⟩
          · have hen : yM ends x = false := by
              cases hh : yM ends x with
              | false => rfl
              | true => rw [hh] at hne; exact absurd rfl hne
            have hov' : yM over x = true := by
              cases hh : yM over x with
              | true => rfl
              | false => rw [hh] at hov; exact absurd rfl hov
            have hF' := yBf_add hF v x hv hvx hxn hadj hov' hen hb
            have ht' := yBf_few hF'
            refine ⟨yn_in (by omega) (by omega), fun g182 h182 => ?_⟩
            rw [yn_nat (by omega)] at h182
            have e2 : Int32.ofNat tail + 1 = Int32.ofNat (tail+1) := yn_add tail 1
            rw [e2, h182, h160]
            have hm1 : ∀ y, vis y = true → yUpd vis x true y = true := by
              intro y hy; unfold yUpd; by_cases e : y = x
              · rw [if_pos e]
              · rw [if_neg e]; exact hy
            refine ih (x+1) _ _ _ (tail+1) _ _ _ (by omega) (by omega) hF' (fun y hy => hm1 y (hmon y hy)) ⟨by omega, fun i hi => by unfold yUpd; rw [if_neg (by omega)]; exact hqu.2 i hi⟩ ?_
            intro x' hx' hadj' hb'
            by_cases e : x' = x
            · left; rw [e]; unfold yUpd; rw [if_pos rfl]
            · rcases hproc x' (by omega) hadj' hb' with h | h
              · exact Or.inl (hm1 x' h)
              · exact Or.inr h
          · have hen : yM ends x = false := by
              cases hh : yM ends x with
              | false => rfl
              | true => rw [hh] at hne; exact absurd rfl hne
            have hov' : yM over x = false := by
              cases hh : yM over x with
              | false => rfl
              | true => rw [hh] at hov; exact absurd hov (by decide)
            exact hskip (fun _ _ => Or.inr ⟨hen, hov'⟩)
          · have hen : yM ends x = true := by
              cases hh : yM ends x with
              | true => rfl
              | false => rw [hh] at he; exact absurd he (by decide)
            refine w9_reach hn hF v x hv hvx hxn hadj hen hb f21 g160 h160 _ ?_ i0 i1 i2 _ i4 i5 i6 i7 i8 i9 i10 i11 i12 i13 i14 i15 i16 i17
            intro L pn pt hW hpt _
            exact ⟨by rfl, hK1 L pn pt queue g160 hW hpt⟩
        refine ⟨fun hva => hbody (fun hh => hva (by rw [hh.1])), fun hva => ⟨fun hxb => hbody (fun hh => hxb (by rw [hh.2])), fun hxb => hskip (fun _ hb => ?_)⟩⟩
        exfalso
        apply hb
        exact ⟨(yn_inj (by omega) (by omega)).1 hva, (yn_inj (by omega) (by omega)).1 hxb⟩
  -- the outer loop
  have h46 : ∀ d head vis bf rk tail qu queue before, n - head = d → yBf n bk a over ends ba vis bf rk tail qu queue before → head ≤ tail →
      (∀ i x, i < head → x < n → yM (bk (qu i)) x = true → ¬ (qu i = a ∧ x = ba) → vis x = true ∨ (yM ends x = false ∧ yM over x = false)) →
      wLX9_findPath_46 i0 i1 i2 (Int32.ofNat n) i4 i5 i6 i7 i8 i9 i10 i11 i12 i13 i14 i15 i16 i17 bk f21 (Int32.ofNat a) over ends (Int32.ofNat ba) K (d+1) queue before (Int32.ofNat head) (Int32.ofNat tail) := by
    intro d
    induction d with
    | zero =>
      intro head vis bf rk tail qu queue before hd hF hht hproc
      have htail := yBf_few hF
      unfold wLX9_findPath_46
      refine ⟨fun _ => hK0 vis queue before hF.1 hF.2.2.2.1 (fun x hx hxa => ⟨(hF.2.2.2.2.2.2.1 x hx hxa).2.2.2.1, (hF.2.2.2.2.2.2.1 x hx hxa).2.2.2.2.1⟩) ?_, fun hh => ?_⟩
      · intro v x hv hx hadj hb
        obtain ⟨i, hi, hq⟩ := hF.2.2.2.2.2.2.2.2.2 v hv
        have := hproc i x (by omega) hx
        rw [hq] at this
        exact this hadj hb
      · exfalso; apply hh; rw [yn_le (by omega) (by omega)]; omega
    | succ d ih =>
      intro head vis bf rk tail qu queue before hd hF hht hproc
      have htail := yBf_few hF
      unfold wLX9_findPath_46
      rw [yn_nat (by omega : head < 2147483648)]
      refine ⟨fun hh => ?_, fun hh => ⟨yn_in (by omega) (by omega), fun v60 h60 => ?_⟩⟩
      · rw [yn_le (by omega) (by omega)] at hh
        refine hK0 vis queue before hF.1 hF.2.2.2.1 (fun x hx hxa => ⟨(hF.2.2.2.2.2.2.1 x hx hxa).2.2.2.1, (hF.2.2.2.2.2.2.1 x hx hxa).2.2.2.2.1⟩) ?_
        intro v x hv hx hadj hb
        obtain ⟨i, hi, hq⟩ := hF.2.2.2.2.2.2.2.2.2 v hv
        have := hproc i x (by omega) hx
        rw [hq] at this
        exact this hadj hb
      · rw [yn_le (by omega) (by omega)] at hh
        have hq := hF.2.2.2.2.2.2.2.1 head (by omega)
        rw [h60, hq.1]
        refine ⟨n + 1, ?_⟩
        rw [h0eq]
        refine h68 head (qu head) _ vis tail qu hq.2 ?_ n 0 vis bf rk tail qu queue before (by omega) (by omega) hF (fun y hy => hy) ⟨Nat.le_refl _, fun i _ => rfl⟩ (fun x' hx' => by omega)
        intro vis' bf' rk' tail' qu' queue' before' hF' hmon' hqu' hproc'
        refine ih (head+1) vis' bf' rk' tail' qu' queue' before' (by omega) hF' (by omega) ?_
        intro i x hi hx hadj hb
        by_cases e : i = head
        · rw [e, hqu'.2 head (by omega)] at hadj hb
          exact hproc' x hx hadj hb
        · rw [hqu'.2 i (by omega)] at hadj hb
          rcases hproc i x (by omega) hx hadj hb with h | h
          · exact Or.inl (hmon' x h)
          · exact Or.inr h
  -- nothing is seen at first
  have h3 : ∀ d x bf, n - x = d → x ≤ n → (∀ y, y < x → bf y = -1) →
      wLX9_findPath_3 i0 i1 i2 (Int32.ofNat n) i4 i5 i6 i7 i8 i9 i10 i11 i12 i13 i14 i15 i16 i17 f18 bk f21 (Int32.ofNat a) over ends (Int32.ofNat ba) K (d+1) bf (Int32.ofNat x) := by
    intro d
    induction d with
    | zero =>
      intro x bf hd hx hbf
      unfold wLX9_findPath_3
      refine ⟨fun _ g38 h38 => ⟨yn_in (by omega) (by omega), fun g45 h45 => ?_⟩, fun hh => ?_⟩
      · refine ⟨n + 1, ?_⟩
        rw [yn_nat (by omega)] at h45
        have e0 : Int32.toNatClampNeg (0 : Int32) = 0 := rfl
        rw [e0] at h38
        rw [h0eq, h1eq]
        refine h46 n 0 (fun y => decide (y = a)) (fun y => y) (fun _ => 0) 1 (fun _ => a) g38 g45 (by omega) ?_ (by omega) (fun i x hi => by omega)
        refine ⟨by simp, rfl, rfl, ?_, ?_, ?_, ?_, ?_, ?_, ?_⟩
        · intro y hy; rw [of_decide_eq_true hy]; exact ha
        · intro y _ hy; rw [of_decide_eq_true hy, h45, yupd_same]
        · intro y hy hv
          have hne : y ≠ a := of_decide_eq_false hv
          rw [h45, yupd_ne _ _ _ _ hne]; exact hbf y (by omega)
        · intro y hy hya; exact absurd (of_decide_eq_true hy) hya
        · intro i hi
          have : i = 0 := by omega
          rw [this, h38, yupd_same]; simp
        · intro i j hi hj _; omega
        · intro y hy; exact ⟨0, by omega, (of_decide_eq_true hy).symm⟩
      · exfalso; apply hh; rw [yn_le (by omega) (by omega)]; omega
    | succ d ih =>
      intro x bf hd hx hbf
      have e1 : Int32.ofNat x + 1 = Int32.ofNat (x+1) := yn_add x 1
      unfold wLX9_findPath_3
      refine ⟨fun hh => ?_, fun _ => ⟨yn_in (by omega) (by omega), fun g19 h19 => ?_⟩⟩
      · exfalso; rw [yn_le (by omega) (by omega)] at hh; omega
      · rw [e1]
        rw [yn_nat (by omega)] at h19
        refine ih (x+1) g19 (by omega) (by omega) ?_
        intro y hy
        by_cases e : y = x
        · rw [e, h19, yupd_same]
        · rw [h19, yupd_ne _ _ _ _ e]; exact hbf y (by omega)
  unfold wX9_findPath
  refine ⟨n + 1, ?_⟩
  rw [h0eq]
  exact h3 n 0 f19 (by omega) (by omega) (fun y hy => by omega)

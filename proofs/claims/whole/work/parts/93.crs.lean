
def yCx (M : Nat) (F T : Nat → Nat) (al : Nat → Bool) (X Y : Nat → Nat) : Prop := ∃ m k, m < k ∧ k < M ∧ yApt F T al k m ∧ yMor X Y (F k) (T k) (F m) (T m)

section
variable {N M : Nat} {F T : Nat → Nat} {al : Nat → Bool} {X Y : Nat → Nat}

theorem w8_cross20 (hN : N ≤ 20) (hM : M ≤ 80) (hF : ∀ k, k < M → F k < N ∧ T k < N) {there at' : Nat → Int32} (hA : yAt M F T at') (hB : yBo M al there) (i2 i4 i5 i7 : Int32) (u1 : Int32 × Int32 × Int32 × Int32 × (Nat → Int64) × (Nat → Int32) × (Nat → Int32) × (Nat → Int64) × (Nat → Int64) × (Nat → Int32) × (Nat → Int64) × (Nat → Int32) × (Nat → Int64) × (Nat → Int64)) (u11 : Int32 × (Nat → Int32) × (Nat → Int32) × Int32 × Int32 × (Nat → Int64) × (Nat → Int32) × (Nat → Int32) × (Nat → Int64) × (Nat → Int64) × (Nat → Int32) × (Nat → Int64) × (Nat → Int32) × (Nat → Int64) × (Nat → Int64) × (Nat → Int32) × (Nat → Int32)) (u15 : Int32 × Int32 × Int32 × Int32 × Int32 × (Nat → Int32) × (Nat → Int32) × (Nat → Int32) × (Nat → Int32) × (Nat → Int32) × (Nat → Int32) × (Nat → Int32) × (Nat → Int32) × (Nat → Int32)) (K : Int32 → (Int32 × Int32 × Int32 × Int32 × (Nat → Int32) × (Nat → Int32) × Int32 × Int32 × (Nat → Int64) × (Nat → Int32) × (Nat → Int32) × (Nat → Int64) × (Nat → Int64) × (Nat → Int32) × (Nat → Int64) × (Nat → Int32) × (Nat → Int64) × (Nat → Int64) × (Nat → Int32) × (Nat → Int32) × Int32 × Int32 × Int32 × Int32 × (Nat → Int32) × (Nat → Int32) × (Nat → Int32) × (Nat → Int32) × (Nat → Int32) × (Nat → Int32) × (Nat → Int32) × (Nat → Int32) × (Nat → Int32)) → Prop)
    (h : yXs N X Y (u15.2.2.2.2.2.1) (u15.2.2.2.2.2.2.1)) (hK1 : yCx M F T al X Y → K 1 (u1.1, u1.2.1, u15.1, u11.1, u11.2.1, u11.2.2.1, u11.2.2.2.1, u11.2.2.2.2.1, u11.2.2.2.2.2.1, u11.2.2.2.2.2.2.1, u11.2.2.2.2.2.2.2.1, u11.2.2.2.2.2.2.2.2.1, u11.2.2.2.2.2.2.2.2.2.1, u11.2.2.2.2.2.2.2.2.2.2.1, u11.2.2.2.2.2.2.2.2.2.2.2.1, u11.2.2.2.2.2.2.2.2.2.2.2.2.1, u11.2.2.2.2.2.2.2.2.2.2.2.2.2.1, u11.2.2.2.2.2.2.2.2.2.2.2.2.2.2.1, u11.2.2.2.2.2.2.2.2.2.2.2.2.2.2.2.1, u11.2.2.2.2.2.2.2.2.2.2.2.2.2.2.2.2, u15.2.1, u15.2.2.1, u15.2.2.2.1, u15.2.2.2.2.1, u15.2.2.2.2.2.1, u15.2.2.2.2.2.2.1, u15.2.2.2.2.2.2.2.1, u15.2.2.2.2.2.2.2.2.1, u15.2.2.2.2.2.2.2.2.2.1, u15.2.2.2.2.2.2.2.2.2.2.1, u15.2.2.2.2.2.2.2.2.2.2.2.1, u15.2.2.2.2.2.2.2.2.2.2.2.2.1, u15.2.2.2.2.2.2.2.2.2.2.2.2.2)) (hK0 : ¬ yCx M F T al X Y → K 0 (u1.1, u1.2.1, u15.1, u11.1, u11.2.1, u11.2.2.1, u11.2.2.2.1, u11.2.2.2.2.1, u11.2.2.2.2.2.1, u11.2.2.2.2.2.2.1, u11.2.2.2.2.2.2.2.1, u11.2.2.2.2.2.2.2.2.1, u11.2.2.2.2.2.2.2.2.2.1, u11.2.2.2.2.2.2.2.2.2.2.1, u11.2.2.2.2.2.2.2.2.2.2.2.1, u11.2.2.2.2.2.2.2.2.2.2.2.2.1, u11.2.2.2.2.2.2.2.2.2.2.2.2.2.1, u11.2.2.2.2.2.2.2.2.2.2.2.2.2.2.1, u11.2.2.2.2.2.2.2.2.2.2.2.2.2.2.2.1, u11.2.2.2.2.2.2.2.2.2.2.2.2.2.2.2.2, u15.2.1, u15.2.2.1, u15.2.2.2.1, u15.2.2.2.2.1, u15.2.2.2.2.2.1, u15.2.2.2.2.2.2.1, u15.2.2.2.2.2.2.2.1, u15.2.2.2.2.2.2.2.2.1, u15.2.2.2.2.2.2.2.2.2.1, u15.2.2.2.2.2.2.2.2.2.2.1, u15.2.2.2.2.2.2.2.2.2.2.2.1, u15.2.2.2.2.2.2.2.2.2.2.2.2.1, u15.2.2.2.2.2.2.2.2.2.2.2.2.2)) :
    ∃ n, wLX8_crossing_20 i2 i4 i5 (Int32.ofNat M) i7 there at' u1 u11 u15 K n 0 := by
  have h33 : ∀ k, k < M → ∀ (B : Int32 → Prop), ((∀ m, m < k → ¬ (yApt F T al k m ∧ yMor X Y (F k) (T k) (F m) (T m))) → B (Int32.ofNat (k+1))) → ∀ d m, k - m = d → m ≤ k → (∀ m', m' < m → ¬ (yApt F T al k m' ∧ yMor X Y (F k) (T k) (F m') (T m'))) →
      wLX8_crossing_33 i2 i4 i5 (Int32.ofNat M) i7 there at' u1 u11 u15 (Int32.ofNat k) K B (d+1) (Int32.ofNat m) := by
    intro k hk B hB' d
    have ek : Int32.ofNat k + 1 = Int32.ofNat (k+1) := yn_add k 1
    induction d with
    | zero =>
      intro m hd hm hno
      unfold wLX8_crossing_33
      rw [ek]
      refine ⟨fun _ => hB' (fun m' hm' => hno m' (by omega)), fun hh => ?_⟩
      exfalso; apply hh; rw [yn_le (by omega) (by omega)]; omega
    | succ d ih =>
      intro m hd hm hno
      have em : Int32.ofNat m + 1 = Int32.ofNat (m+1) := yn_add m 1
      have next : ¬ (yApt F T al k m ∧ yMor X Y (F k) (T k) (F m) (T m)) → wLX8_crossing_33 i2 i4 i5 (Int32.ofNat M) i7 there at' u1 u11 u15 (Int32.ofNat k) K B (d+1) (Int32.ofNat (m+1)) := by
        intro hn
        refine ih (m+1) (by omega) (by omega) (fun m' hm' => ?_)
        by_cases q : m' = m
        · rw [q]; exact hn
        · exact hno m' (by omega)
      unfold wLX8_crossing_33
      rw [ek, em]
      refine ⟨fun hh => ?_, fun _ => ?_⟩
      · exfalso; rw [yn_le (by omega) (by omega)] at hh; omega
      refine w8_areApart hN hM hF hA hB hk (by omega) _ _ _ _ _ _ _ _ (fun p => ⟨fun z => absurd z (by decide), fun _ => ?_⟩) (fun p => ⟨fun _ => next (fun hh => p hh.1), fun z => absurd rfl z⟩)
      exact w8_more hN hM hF hA h hk (by omega) _ _ _ _ _ _ _ _ _ _ _ _ _ (fun q => ⟨fun z => absurd z (by decide), fun _ => hK1 ⟨m, k, by omega, hk, p, q⟩⟩) (fun q => ⟨fun _ => next (fun hh => q hh.2), fun z => absurd rfl z⟩)
  have key : ∀ d k, M - k = d → k ≤ M → (∀ k' m, k' < k → m < k' → ¬ (yApt F T al k' m ∧ yMor X Y (F k') (T k') (F m) (T m))) → wLX8_crossing_20 i2 i4 i5 (Int32.ofNat M) i7 there at' u1 u11 u15 K (d+1) (Int32.ofNat k) := by
    intro d
    induction d with
    | zero =>
      intro k hd hk hno
      unfold wLX8_crossing_20
      refine ⟨fun _ => hK0 ?_, fun hh => ?_⟩
      · rintro ⟨m, k', a1, a2, a3, a4⟩
        exact hno k' m (by omega) a1 ⟨a3, a4⟩
      · exfalso; apply hh; rw [yn_le (by omega) (by omega)]; omega
    | succ d ih =>
      intro k hd hk hno
      unfold wLX8_crossing_20
      refine ⟨fun hh => ?_, fun _ => ⟨_, h33 k (by omega) _ (fun hn => ih (k+1) (by omega) (by omega) (fun k' m hk' hm => ?_)) (k-0) 0 rfl (by omega) (fun m' hm' => absurd hm' (Nat.not_lt_zero _))⟩⟩
      · exfalso; rw [yn_le (by omega) (by omega)] at hh; omega
      · by_cases q : k' = k
        · rw [q] at hm ⊢; exact hn m hm
        · exact hno k' m (by omega) hm
  exact ⟨_, key (M-0) 0 rfl (by omega) (fun k' m hk' => absurd hk' (Nat.not_lt_zero _))⟩

set_option maxHeartbeats 4000000 in
theorem w9_cross12 (hN : N ≤ 20) (hM : M ≤ 80) (hF : ∀ k, k < M → F k < N ∧ T k < N) {alv frm too : Nat → Int32} (hfr : ∀ k, k < M → frm k = Int32.ofNat (F k)) (hto : ∀ k, k < M → too k = Int32.ofNat (T k)) (hB : yBo M al alv) (i0 i17 : Int32) (u1 : Int32 × Int32 × Int32 × Int32 × Int32 × Int32 × Int32 × Int32 × Int32 × Int32 × Int32 × Int32 × Int32 × Int32 × Int32 × (Nat → Int32) × (Nat → Int32) × (Nat → Int32) × (Nat → Int32) × (Nat → Int32) × (Nat → Int32) × (Nat → Int32) × (Nat → Int32) × (Nat → Int32) × (Nat → Int32) × (Nat → Int32) × (Nat → Int32) × (Nat → Int32) × (Nat → Int32) × (Nat → Int32) × (Nat → Int32) × (Nat → Int32) × (Nat → Int32) × (Nat → Int32) × (Nat → Int32) × (Nat → Int32) × (Nat → Int32) × (Nat → Int32) × (Nat → Int32) × (Nat → Int32) × (Nat → Int32) × (Nat → Int32) × (Nat → Int32) × (Nat → Int32) × (Nat → Int32) × (Nat → Int32)) (K : Int32 → (Int32 × Int32 × Int32 × Int32 × Int32 × Int32 × Int32 × Int32 × Int32 × Int32 × Int32 × Int32 × Int32 × Int32 × Int32 × (Nat → Int32) × (Nat → Int32) × (Nat → Int32) × (Nat → Int32) × (Nat → Int32) × (Nat → Int32) × (Nat → Int32) × (Nat → Int32) × (Nat → Int32) × (Nat → Int32) × (Nat → Int32) × (Nat → Int32) × (Nat → Int32) × (Nat → Int32) × (Nat → Int32) × (Nat → Int32) × (Nat → Int32) × (Nat → Int32) × (Nat → Int32) × (Nat → Int32) × (Nat → Int32) × (Nat → Int32) × (Nat → Int32) × (Nat → Int32) × (Nat → Int32) × (Nat → Int32) × (Nat → Int32) × (Nat → Int32) × (Nat → Int32) × (Nat → Int32) × (Nat → Int32)) → Prop)
    (h : yXs N X Y (u1.2.2.2.2.2.2.2.2.2.2.2.2.2.2.2.2.2.2.2.2.2.2.2.2.2.2.2.2.2.2.2.2.2.2.2.2.2.2.2.2.2.2.1) (u1.2.2.2.2.2.2.2.2.2.2.2.2.2.2.2.2.2.2.2.2.2.2.2.2.2.2.2.2.2.2.2.2.2.2.2.2.2.2.2.2.2.2.2.1)) (hK1 : yCx M F T al X Y → K 1 (u1.1, u1.2.1, u1.2.2.1, u1.2.2.2.1, u1.2.2.2.2.1, u1.2.2.2.2.2.1, u1.2.2.2.2.2.2.1, u1.2.2.2.2.2.2.2.1, u1.2.2.2.2.2.2.2.2.1, u1.2.2.2.2.2.2.2.2.2.1, u1.2.2.2.2.2.2.2.2.2.2.1, u1.2.2.2.2.2.2.2.2.2.2.2.1, u1.2.2.2.2.2.2.2.2.2.2.2.2.1, u1.2.2.2.2.2.2.2.2.2.2.2.2.2.1, u1.2.2.2.2.2.2.2.2.2.2.2.2.2.2.1, u1.2.2.2.2.2.2.2.2.2.2.2.2.2.2.2.1, u1.2.2.2.2.2.2.2.2.2.2.2.2.2.2.2.2.1, u1.2.2.2.2.2.2.2.2.2.2.2.2.2.2.2.2.2.1, u1.2.2.2.2.2.2.2.2.2.2.2.2.2.2.2.2.2.2.1, u1.2.2.2.2.2.2.2.2.2.2.2.2.2.2.2.2.2.2.2.1, u1.2.2.2.2.2.2.2.2.2.2.2.2.2.2.2.2.2.2.2.2.1, u1.2.2.2.2.2.2.2.2.2.2.2.2.2.2.2.2.2.2.2.2.2.1, u1.2.2.2.2.2.2.2.2.2.2.2.2.2.2.2.2.2.2.2.2.2.2.1, u1.2.2.2.2.2.2.2.2.2.2.2.2.2.2.2.2.2.2.2.2.2.2.2.1, u1.2.2.2.2.2.2.2.2.2.2.2.2.2.2.2.2.2.2.2.2.2.2.2.2.1, u1.2.2.2.2.2.2.2.2.2.2.2.2.2.2.2.2.2.2.2.2.2.2.2.2.2.1, u1.2.2.2.2.2.2.2.2.2.2.2.2.2.2.2.2.2.2.2.2.2.2.2.2.2.2.1, u1.2.2.2.2.2.2.2.2.2.2.2.2.2.2.2.2.2.2.2.2.2.2.2.2.2.2.2.1, u1.2.2.2.2.2.2.2.2.2.2.2.2.2.2.2.2.2.2.2.2.2.2.2.2.2.2.2.2.1, u1.2.2.2.2.2.2.2.2.2.2.2.2.2.2.2.2.2.2.2.2.2.2.2.2.2.2.2.2.2.1, u1.2.2.2.2.2.2.2.2.2.2.2.2.2.2.2.2.2.2.2.2.2.2.2.2.2.2.2.2.2.2.1, u1.2.2.2.2.2.2.2.2.2.2.2.2.2.2.2.2.2.2.2.2.2.2.2.2.2.2.2.2.2.2.2.1, u1.2.2.2.2.2.2.2.2.2.2.2.2.2.2.2.2.2.2.2.2.2.2.2.2.2.2.2.2.2.2.2.2.1, u1.2.2.2.2.2.2.2.2.2.2.2.2.2.2.2.2.2.2.2.2.2.2.2.2.2.2.2.2.2.2.2.2.2.1, u1.2.2.2.2.2.2.2.2.2.2.2.2.2.2.2.2.2.2.2.2.2.2.2.2.2.2.2.2.2.2.2.2.2.2.1, u1.2.2.2.2.2.2.2.2.2.2.2.2.2.2.2.2.2.2.2.2.2.2.2.2.2.2.2.2.2.2.2.2.2.2.2.1, u1.2.2.2.2.2.2.2.2.2.2.2.2.2.2.2.2.2.2.2.2.2.2.2.2.2.2.2.2.2.2.2.2.2.2.2.2.1, u1.2.2.2.2.2.2.2.2.2.2.2.2.2.2.2.2.2.2.2.2.2.2.2.2.2.2.2.2.2.2.2.2.2.2.2.2.2.1, u1.2.2.2.2.2.2.2.2.2.2.2.2.2.2.2.2.2.2.2.2.2.2.2.2.2.2.2.2.2.2.2.2.2.2.2.2.2.2.1, u1.2.2.2.2.2.2.2.2.2.2.2.2.2.2.2.2.2.2.2.2.2.2.2.2.2.2.2.2.2.2.2.2.2.2.2.2.2.2.2.1, u1.2.2.2.2.2.2.2.2.2.2.2.2.2.2.2.2.2.2.2.2.2.2.2.2.2.2.2.2.2.2.2.2.2.2.2.2.2.2.2.2.1, u1.2.2.2.2.2.2.2.2.2.2.2.2.2.2.2.2.2.2.2.2.2.2.2.2.2.2.2.2.2.2.2.2.2.2.2.2.2.2.2.2.2.1, u1.2.2.2.2.2.2.2.2.2.2.2.2.2.2.2.2.2.2.2.2.2.2.2.2.2.2.2.2.2.2.2.2.2.2.2.2.2.2.2.2.2.2.1, u1.2.2.2.2.2.2.2.2.2.2.2.2.2.2.2.2.2.2.2.2.2.2.2.2.2.2.2.2.2.2.2.2.2.2.2.2.2.2.2.2.2.2.2.1, u1.2.2.2.2.2.2.2.2.2.2.2.2.2.2.2.2.2.2.2.2.2.2.2.2.2.2.2.2.2.2.2.2.2.2.2.2.2.2.2.2.2.2.2.2.1, u1.2.2.2.2.2.2.2.2.2.2.2.2.2.2.2.2.2.2.2.2.2.2.2.2.2.2.2.2.2.2.2.2.2.2.2.2.2.2.2.2.2.2.2.2.2)) (hK0 : ¬ yCx M F T al X Y → K 0 (u1.1, u1.2.1, u1.2.2.1, u1.2.2.2.1, u1.2.2.2.2.1, u1.2.2.2.2.2.1, u1.2.2.2.2.2.2.1, u1.2.2.2.2.2.2.2.1, u1.2.2.2.2.2.2.2.2.1, u1.2.2.2.2.2.2.2.2.2.1, u1.2.2.2.2.2.2.2.2.2.2.1, u1.2.2.2.2.2.2.2.2.2.2.2.1, u1.2.2.2.2.2.2.2.2.2.2.2.2.1, u1.2.2.2.2.2.2.2.2.2.2.2.2.2.1, u1.2.2.2.2.2.2.2.2.2.2.2.2.2.2.1, u1.2.2.2.2.2.2.2.2.2.2.2.2.2.2.2.1, u1.2.2.2.2.2.2.2.2.2.2.2.2.2.2.2.2.1, u1.2.2.2.2.2.2.2.2.2.2.2.2.2.2.2.2.2.1, u1.2.2.2.2.2.2.2.2.2.2.2.2.2.2.2.2.2.2.1, u1.2.2.2.2.2.2.2.2.2.2.2.2.2.2.2.2.2.2.2.1, u1.2.2.2.2.2.2.2.2.2.2.2.2.2.2.2.2.2.2.2.2.1, u1.2.2.2.2.2.2.2.2.2.2.2.2.2.2.2.2.2.2.2.2.2.1, u1.2.2.2.2.2.2.2.2.2.2.2.2.2.2.2.2.2.2.2.2.2.2.1, u1.2.2.2.2.2.2.2.2.2.2.2.2.2.2.2.2.2.2.2.2.2.2.2.1, u1.2.2.2.2.2.2.2.2.2.2.2.2.2.2.2.2.2.2.2.2.2.2.2.2.1, u1.2.2.2.2.2.2.2.2.2.2.2.2.2.2.2.2.2.2.2.2.2.2.2.2.2.1, u1.2.2.2.2.2.2.2.2.2.2.2.2.2.2.2.2.2.2.2.2.2.2.2.2.2.2.1, u1.2.2.2.2.2.2.2.2.2.2.2.2.2.2.2.2.2.2.2.2.2.2.2.2.2.2.2.1, u1.2.2.2.2.2.2.2.2.2.2.2.2.2.2.2.2.2.2.2.2.2.2.2.2.2.2.2.2.1, u1.2.2.2.2.2.2.2.2.2.2.2.2.2.2.2.2.2.2.2.2.2.2.2.2.2.2.2.2.2.1, u1.2.2.2.2.2.2.2.2.2.2.2.2.2.2.2.2.2.2.2.2.2.2.2.2.2.2.2.2.2.2.1, u1.2.2.2.2.2.2.2.2.2.2.2.2.2.2.2.2.2.2.2.2.2.2.2.2.2.2.2.2.2.2.2.1, u1.2.2.2.2.2.2.2.2.2.2.2.2.2.2.2.2.2.2.2.2.2.2.2.2.2.2.2.2.2.2.2.2.1, u1.2.2.2.2.2.2.2.2.2.2.2.2.2.2.2.2.2.2.2.2.2.2.2.2.2.2.2.2.2.2.2.2.2.1, u1.2.2.2.2.2.2.2.2.2.2.2.2.2.2.2.2.2.2.2.2.2.2.2.2.2.2.2.2.2.2.2.2.2.2.1, u1.2.2.2.2.2.2.2.2.2.2.2.2.2.2.2.2.2.2.2.2.2.2.2.2.2.2.2.2.2.2.2.2.2.2.2.1, u1.2.2.2.2.2.2.2.2.2.2.2.2.2.2.2.2.2.2.2.2.2.2.2.2.2.2.2.2.2.2.2.2.2.2.2.2.1, u1.2.2.2.2.2.2.2.2.2.2.2.2.2.2.2.2.2.2.2.2.2.2.2.2.2.2.2.2.2.2.2.2.2.2.2.2.2.1, u1.2.2.2.2.2.2.2.2.2.2.2.2.2.2.2.2.2.2.2.2.2.2.2.2.2.2.2.2.2.2.2.2.2.2.2.2.2.2.1, u1.2.2.2.2.2.2.2.2.2.2.2.2.2.2.2.2.2.2.2.2.2.2.2.2.2.2.2.2.2.2.2.2.2.2.2.2.2.2.2.1, u1.2.2.2.2.2.2.2.2.2.2.2.2.2.2.2.2.2.2.2.2.2.2.2.2.2.2.2.2.2.2.2.2.2.2.2.2.2.2.2.2.1, u1.2.2.2.2.2.2.2.2.2.2.2.2.2.2.2.2.2.2.2.2.2.2.2.2.2.2.2.2.2.2.2.2.2.2.2.2.2.2.2.2.2.1, u1.2.2.2.2.2.2.2.2.2.2.2.2.2.2.2.2.2.2.2.2.2.2.2.2.2.2.2.2.2.2.2.2.2.2.2.2.2.2.2.2.2.2.1, u1.2.2.2.2.2.2.2.2.2.2.2.2.2.2.2.2.2.2.2.2.2.2.2.2.2.2.2.2.2.2.2.2.2.2.2.2.2.2.2.2.2.2.2.1, u1.2.2.2.2.2.2.2.2.2.2.2.2.2.2.2.2.2.2.2.2.2.2.2.2.2.2.2.2.2.2.2.2.2.2.2.2.2.2.2.2.2.2.2.2.1, u1.2.2.2.2.2.2.2.2.2.2.2.2.2.2.2.2.2.2.2.2.2.2.2.2.2.2.2.2.2.2.2.2.2.2.2.2.2.2.2.2.2.2.2.2.2)) :
    ∃ n, wLX9_crossing_12 i0 (Int32.ofNat M) i17 alv frm too u1 K n 0 := by
  have h24 : ∀ j, j < M → ∀ (B : Int32 → Prop), ((∀ k, j < k → k < M → ¬ (yApt F T al j k ∧ yMor X Y (F j) (T j) (F k) (T k))) → B (Int32.ofNat (j+1))) → ∀ d k, M - k = d → j < k → k ≤ M → (∀ k', j < k' → k' < k → ¬ (yApt F T al j k' ∧ yMor X Y (F j) (T j) (F k') (T k'))) →
      wLX9_crossing_24 i0 (Int32.ofNat M) i17 alv frm too u1 (Int32.ofNat j) K B (d+1) (Int32.ofNat k) := by
    intro j hj B hB' d
    have ej : Int32.ofNat j + 1 = Int32.ofNat (j+1) := yn_add j 1
    induction d with
    | zero =>
      intro k hd hjk hk hno
      unfold wLX9_crossing_24
      rw [ej]
      refine ⟨fun _ => hB' (fun k' h1 h2 => hno k' h1 (by omega)), fun hh => ?_⟩
      exfalso; apply hh; rw [yn_le (by omega) (by omega)]; omega
    | succ d ih =>
      intro k hd hjk hk hno
      have ek : Int32.ofNat k + 1 = Int32.ofNat (k+1) := yn_add k 1
      have hkM : k < M := by omega
      have a := hF j hj; have b := hF k hkM
      have v1 := yn_in (n := j) (N := 80) (by omega) (by omega)
      have v2 := yn_in (n := k) (N := 80) (by omega) (by omega)
      have next : ¬ (yApt F T al j k ∧ yMor X Y (F j) (T j) (F k) (T k)) → wLX9_crossing_24 i0 (Int32.ofNat M) i17 alv frm too u1 (Int32.ofNat j) K B (d+1) (Int32.ofNat (k+1)) := by
        intro hn
        refine ih (k+1) (by omega) (by omega) (by omega) (fun k' h1 h2 => ?_)
        by_cases q : k' = k
        · rw [q]; exact hn
        · exact hno k' h1 (by omega)
      have skip : (al j = false ∨ al k = false ∨ F j = T j ∨ F k = T k ∨ (F j = F k ∧ T j = T k) ∨ (F j = T k ∧ T j = F k)) → wLX9_crossing_24 i0 (Int32.ofNat M) i17 alv frm too u1 (Int32.ofNat j) K B (d+1) (Int32.ofNat (k+1)) := by
        intro hh
        apply next
        rintro ⟨⟨p1, p2, p3, p4, p5⟩, _⟩
        rcases hh with q | q | q | q | q
        · rw [q] at p1; cases p1
        · rw [q] at p2; cases p2
        · exact p3 q
        · exact p4 q
        · exact p5 q
      have leaf : (¬ al j = false ∧ ¬ al k = false ∧ ¬ F j = T j ∧ ¬ F k = T k ∧ ¬ (F j = F k ∧ T j = T k) ∧ ¬ (F j = T k ∧ T j = F k)) → (wX9_meet i0 (Int32.ofNat M) (u1.1) (u1.2.1) (u1.2.2.1) (u1.2.2.2.1) (u1.2.2.2.2.1) (u1.2.2.2.2.2.1) (u1.2.2.2.2.2.2.1) (u1.2.2.2.2.2.2.2.1) (u1.2.2.2.2.2.2.2.2.1) (u1.2.2.2.2.2.2.2.2.2.1) (u1.2.2.2.2.2.2.2.2.2.2.1) (u1.2.2.2.2.2.2.2.2.2.2.2.1) (u1.2.2.2.2.2.2.2.2.2.2.2.2.1) (u1.2.2.2.2.2.2.2.2.2.2.2.2.2.1) (u1.2.2.2.2.2.2.2.2.2.2.2.2.2.2.1) i17 frm too (u1.2.2.2.2.2.2.2.2.2.2.2.2.2.2.2.2.2.2.2.2.2.2.2.2.2.2.2.2.2.2.2.2.2.2.2.2.2.2.2.2.2.2.1) (u1.2.2.2.2.2.2.2.2.2.2.2.2.2.2.2.2.2.2.2.2.2.2.2.2.2.2.2.2.2.2.2.2.2.2.2.2.2.2.2.2.2.2.2.1) (Int32.ofNat j) (Int32.ofNat k) (fun r165 _ => ((r165 = 0 → (wLX9_crossing_24 i0 (Int32.ofNat M) i17 alv frm too u1 (Int32.ofNat j) K B (d+1)) (Int32.ofNat (k+1))) ∧ (¬ r165 = 0 → K (1 : Int32) (u1.1, u1.2.1, u1.2.2.1, u1.2.2.2.1, u1.2.2.2.2.1, u1.2.2.2.2.2.1, u1.2.2.2.2.2.2.1, u1.2.2.2.2.2.2.2.1, u1.2.2.2.2.2.2.2.2.1, u1.2.2.2.2.2.2.2.2.2.1, u1.2.2.2.2.2.2.2.2.2.2.1, u1.2.2.2.2.2.2.2.2.2.2.2.1, u1.2.2.2.2.2.2.2.2.2.2.2.2.1, u1.2.2.2.2.2.2.2.2.2.2.2.2.2.1, u1.2.2.2.2.2.2.2.2.2.2.2.2.2.2.1, u1.2.2.2.2.2.2.2.2.2.2.2.2.2.2.2.1, u1.2.2.2.2.2.2.2.2.2.2.2.2.2.2.2.2.1, u1.2.2.2.2.2.2.2.2.2.2.2.2.2.2.2.2.2.1, u1.2.2.2.2.2.2.2.2.2.2.2.2.2.2.2.2.2.2.1, u1.2.2.2.2.2.2.2.2.2.2.2.2.2.2.2.2.2.2.2.1, u1.2.2.2.2.2.2.2.2.2.2.2.2.2.2.2.2.2.2.2.2.1, u1.2.2.2.2.2.2.2.2.2.2.2.2.2.2.2.2.2.2.2.2.2.1, u1.2.2.2.2.2.2.2.2.2.2.2.2.2.2.2.2.2.2.2.2.2.2.1, u1.2.2.2.2.2.2.2.2.2.2.2.2.2.2.2.2.2.2.2.2.2.2.2.1, u1.2.2.2.2.2.2.2.2.2.2.2.2.2.2.2.2.2.2.2.2.2.2.2.2.1, u1.2.2.2.2.2.2.2.2.2.2.2.2.2.2.2.2.2.2.2.2.2.2.2.2.2.1, u1.2.2.2.2.2.2.2.2.2.2.2.2.2.2.2.2.2.2.2.2.2.2.2.2.2.2.1, u1.2.2.2.2.2.2.2.2.2.2.2.2.2.2.2.2.2.2.2.2.2.2.2.2.2.2.2.1, u1.2.2.2.2.2.2.2.2.2.2.2.2.2.2.2.2.2.2.2.2.2.2.2.2.2.2.2.2.1, u1.2.2.2.2.2.2.2.2.2.2.2.2.2.2.2.2.2.2.2.2.2.2.2.2.2.2.2.2.2.1, u1.2.2.2.2.2.2.2.2.2.2.2.2.2.2.2.2.2.2.2.2.2.2.2.2.2.2.2.2.2.2.1, u1.2.2.2.2.2.2.2.2.2.2.2.2.2.2.2.2.2.2.2.2.2.2.2.2.2.2.2.2.2.2.2.1, u1.2.2.2.2.2.2.2.2.2.2.2.2.2.2.2.2.2.2.2.2.2.2.2.2.2.2.2.2.2.2.2.2.1, u1.2.2.2.2.2.2.2.2.2.2.2.2.2.2.2.2.2.2.2.2.2.2.2.2.2.2.2.2.2.2.2.2.2.1, u1.2.2.2.2.2.2.2.2.2.2.2.2.2.2.2.2.2.2.2.2.2.2.2.2.2.2.2.2.2.2.2.2.2.2.1, u1.2.2.2.2.2.2.2.2.2.2.2.2.2.2.2.2.2.2.2.2.2.2.2.2.2.2.2.2.2.2.2.2.2.2.2.1, u1.2.2.2.2.2.2.2.2.2.2.2.2.2.2.2.2.2.2.2.2.2.2.2.2.2.2.2.2.2.2.2.2.2.2.2.2.1, u1.2.2.2.2.2.2.2.2.2.2.2.2.2.2.2.2.2.2.2.2.2.2.2.2.2.2.2.2.2.2.2.2.2.2.2.2.2.1, u1.2.2.2.2.2.2.2.2.2.2.2.2.2.2.2.2.2.2.2.2.2.2.2.2.2.2.2.2.2.2.2.2.2.2.2.2.2.2.1, u1.2.2.2.2.2.2.2.2.2.2.2.2.2.2.2.2.2.2.2.2.2.2.2.2.2.2.2.2.2.2.2.2.2.2.2.2.2.2.2.1, u1.2.2.2.2.2.2.2.2.2.2.2.2.2.2.2.2.2.2.2.2.2.2.2.2.2.2.2.2.2.2.2.2.2.2.2.2.2.2.2.2.1, u1.2.2.2.2.2.2.2.2.2.2.2.2.2.2.2.2.2.2.2.2.2.2.2.2.2.2.2.2.2.2.2.2.2.2.2.2.2.2.2.2.2.1, u1.2.2.2.2.2.2.2.2.2.2.2.2.2.2.2.2.2.2.2.2.2.2.2.2.2.2.2.2.2.2.2.2.2.2.2.2.2.2.2.2.2.2.1, u1.2.2.2.2.2.2.2.2.2.2.2.2.2.2.2.2.2.2.2.2.2.2.2.2.2.2.2.2.2.2.2.2.2.2.2.2.2.2.2.2.2.2.2.1, u1.2.2.2.2.2.2.2.2.2.2.2.2.2.2.2.2.2.2.2.2.2.2.2.2.2.2.2.2.2.2.2.2.2.2.2.2.2.2.2.2.2.2.2.2.1, u1.2.2.2.2.2.2.2.2.2.2.2.2.2.2.2.2.2.2.2.2.2.2.2.2.2.2.2.2.2.2.2.2.2.2.2.2.2.2.2.2.2.2.2.2.2))))) := by
        rintro ⟨p1, p2, p3, p4, p5, p6⟩
        have hap : yApt F T al j k := ⟨by revert p1; cases al j <;> simp, by revert p2; cases al k <;> simp, p3, p4, fun hh => by rcases hh with q | q; exact p5 q; exact p6 q⟩
        refine w9_meet hN hM hF hfr hto h hj hkM hap _ _ _ _ _ _ _ _ _ _ _ _ _ _ _ _ _ _ _ (fun q => ⟨fun z => absurd z (by decide), fun _ => hK1 ⟨j, k, hjk, hkM, ?_, ?_⟩⟩) (fun q => ⟨fun _ => next (fun hh => q hh.2), fun z => absurd rfl z⟩)
        · obtain ⟨q1, q2, q3, q4, q5⟩ := hap
          exact ⟨q2, q1, q4, q3, fun hh => hh.elim (fun e => q5 (Or.inl ⟨e.1.symm, e.2.symm⟩)) (fun e => q5 (Or.inr ⟨e.2.symm, e.1.symm⟩))⟩
        · exact (yMor_sym p3 p4 (fun hh => by rcases hh with q | q; exact p5 q; exact p6 q)).1 q
      have z1 : alv j = 0 ↔ al j = false := yBo_iff hB hj
      have z2 : alv k = 0 ↔ al k = false := yBo_iff hB hkM
      have w1 : (Int32.ofNat M ≤ Int32.ofNat k) ↔ False := by rw [yn_le (by omega) (by omega)]; exact ⟨fun hh => absurd hkM (by omega), False.elim⟩
      unfold wLX9_crossing_24
      rw [ej, ek, yn_nat (by omega : j < 2147483648), yn_nat (by omega : k < 2147483648), hfr j hj, hto j hj, hfr k hkM, hto k hkM, z1, z2, w1]
      rw [yn_inj (a := F j) (b := F k) (by omega) (by omega), yn_inj (a := F j) (b := T k) (by omega) (by omega), yn_inj (a := T j) (b := F k) (by omega) (by omega), yn_inj (a := T j) (b := T k) (by omega) (by omega), yn_inj (a := F j) (b := T j) (by omega) (by omega), yn_inj (a := F k) (b := T k) (by omega) (by omega)]
      clear hB' ih hno next z1 z2 w1 hK1 hK0
      refine ⟨fun f => f.elim, fun _ => ?_⟩
      repeat' (first | with_reducible exact v1 | with_reducible exact v2 | with_reducible refine And.intro ?_ ?_ | (with_reducible refine skip ?_; grind) | (with_reducible refine leaf ?_; grind) | intro _)
  have key : ∀ d j, M - j = d → j ≤ M → (∀ j' k, j' < j → j' < k → k < M → ¬ (yApt F T al j' k ∧ yMor X Y (F j') (T j') (F k) (T k))) → wLX9_crossing_12 i0 (Int32.ofNat M) i17 alv frm too u1 K (d+1) (Int32.ofNat j) := by
    intro d
    induction d with
    | zero =>
      intro j hd hj hno
      unfold wLX9_crossing_12
      refine ⟨fun _ => hK0 ?_, fun hh => ?_⟩
      · rintro ⟨m, k, a1, a2, a3, a4⟩
        obtain ⟨q1, q2, q3, q4, q5⟩ := a3
        exact hno m k (by omega) a1 a2 ⟨⟨q2, q1, q4, q3, fun hh => hh.elim (fun e => q5 (Or.inl ⟨e.1.symm, e.2.symm⟩)) (fun e => q5 (Or.inr ⟨e.2.symm, e.1.symm⟩))⟩, (yMor_sym q3 q4 q5).1 a4⟩
      · exfalso; apply hh; rw [yn_le (by omega) (by omega)]; omega
    | succ d ih =>
      intro j hd hj hno
      have ej : Int32.ofNat j + 1 = Int32.ofNat (j+1) := yn_add j 1
      unfold wLX9_crossing_12
      refine ⟨fun hh => ?_, fun _ v23 h23 => ⟨M - (j+1) + 1, ?_⟩⟩
      · exfalso; rw [yn_le (by omega) (by omega)] at hh; omega
      · rw [h23, ej]
        refine h24 j (by omega) _ (fun hn => ih (j+1) (by omega) (by omega) (fun j' k h1 h2 h3 => ?_)) (M-(j+1)) (j+1) rfl (by omega) (by omega) (fun k' h1 h2 => by omega)
        by_cases q : j' = j
        · rw [q] at h2 ⊢; exact hn k h2 h3
        · exact hno j' k (by omega) h2 h3
  exact ⟨_, key (M-0) 0 rfl (by omega) (fun j' k h1 => absurd h1 (Nat.not_lt_zero _))⟩
end


-- the one with so many before it
def yNth (q : Nat → Bool) (p : Int32) : Nat → Nat → Nat → Int32
  | 0, _, _ => -1
  | d+1, i, n => if q i = true then (if Int32.ofNat n = p then Int32.ofNat i else yNth q p d (i+1) (n+1)) else yNth q p d (i+1) n

section
variable {N M : Nat} {F T : Nat → Nat} {c : Nat → Bool}

theorem w4_arcAt (hM : M ≤ 80) {kp : Nat → Int32} (hB : yBo M c kp) (p i0 i2 : Int32) (K : Int32 → Unit → Prop) (hK : K (yNth c p M 0 0) ()) : wX4_arcAt i0 (Int32.ofNat M) i2 kp p K := by
  have key : ∀ d i n, M - i = d → i ≤ M → n ≤ i → K (yNth c p d i n) () → wLX4_arcAt_4 (Int32.ofNat M) kp p K (d+1) (Int32.ofNat n) (Int32.ofNat i) := by
    intro d
    induction d with
    | zero =>
      intro i n hd hi hn hk
      unfold wLX4_arcAt_4
      refine ⟨fun _ => hk, fun hh => ?_⟩
      exfalso; apply hh; rw [yn_le (by omega) (by omega)]; omega
    | succ d ih =>
      intro i n hd hi hn hk
      have ei : Int32.ofNat i + 1 = Int32.ofNat (i+1) := yn_add i 1
      have en : Int32.ofNat n + 1 = Int32.ofNat (n+1) := yn_add n 1
      unfold yNth at hk
      unfold wLX4_arcAt_4
      rw [ei, en, yn_nat (by omega)]
      refine ⟨fun hh => ?_, fun _ => ⟨yn_in (by omega) (by omega), fun hz => ?_, fun hnz => ⟨fun hp => ?_, fun hp => ?_⟩⟩⟩
      · exfalso; rw [yn_le (by omega) (by omega)] at hh; omega
      · rw [if_neg (by rw [(yBo_iff hB (by omega)).1 hz]; simp)] at hk
        exact ih (i+1) n (by omega) (by omega) (by omega) hk
      all_goals
        have hc : c i = true := by
          cases q : c i with
          | true => rfl
          | false => exact absurd ((yBo_iff hB (by omega)).2 q) hnz
        rw [if_pos hc] at hk
      · rw [if_neg hp] at hk
        exact ih (i+1) (n+1) (by omega) (by omega) (by omega) hk
      · rw [if_pos hp] at hk; exact hk
  unfold wX4_arcAt
  exact ⟨_, key (M-0) 0 0 rfl (by omega) (by omega) hK⟩

theorem yEc_lt (hM : M ≤ 80) (v : Nat) : yEc M F T c v ≤ 160 := by
  have := yEcnt_le (2*M) (fun e => c (e/2) && decide (yNd F T e = v))
  unfold yEc; omega

theorem w4_branchAt (hN : N ≤ 20) (hM : M ≤ 80) {ec : Nat → Int32} (hE : ∀ v, v < 20 → ec v = Int32.ofNat (yEc M F T c v)) (p i1 i2 : Int32) (K : Int32 → Unit → Prop) (hK : K (yNth (fun v => decide (3 ≤ yEc M F T c v)) p N 0 0) ()) : wX4_branchAt (Int32.ofNat N) i1 i2 ec p K := by
  have e3 : (3 : Int32) = Int32.ofNat 3 := rfl
  have key : ∀ d i n, N - i = d → i ≤ N → n ≤ i → K (yNth (fun v => decide (3 ≤ yEc M F T c v)) p d i n) () → wLX4_branchAt_4 (Int32.ofNat N) ec p K (d+1) (Int32.ofNat n) (Int32.ofNat i) := by
    intro d
    induction d with
    | zero =>
      intro i n hd hi hn hk
      unfold wLX4_branchAt_4
      refine ⟨fun _ => hk, fun hh => ?_⟩
      exfalso; apply hh; rw [yn_le (by omega) (by omega)]; omega
    | succ d ih =>
      intro i n hd hi hn hk
      have ei : Int32.ofNat i + 1 = Int32.ofNat (i+1) := yn_add i 1
      have en : Int32.ofNat n + 1 = Int32.ofNat (n+1) := yn_add n 1
      have hl := yEc_lt (F := F) (T := T) (c := c) hM i
      unfold yNth at hk
      unfold wLX4_branchAt_4
      rw [ei, en, yn_nat (by omega), hE i (by omega), e3, yn_lt (by omega) (by omega)]
      refine ⟨fun hh => ?_, fun _ => ⟨yn_in (by omega) (by omega), fun hz => ?_, fun hnz => ⟨fun hp => ?_, fun hp => ?_⟩⟩⟩
      · exfalso; rw [yn_le (by omega) (by omega)] at hh; omega
      · rw [if_neg (by rw [decide_eq_true_eq]; omega)] at hk
        exact ih (i+1) n (by omega) (by omega) (by omega) hk
      · rw [if_pos (by rw [decide_eq_true_eq]; omega), if_neg hp] at hk
        exact ih (i+1) (n+1) (by omega) (by omega) (by omega) hk
      · rw [if_pos (by rw [decide_eq_true_eq]; omega), if_pos hp] at hk; exact hk
  unfold wX4_branchAt
  exact ⟨_, key (N-0) 0 0 rfl (by omega) (by omega) hK⟩

theorem w4_kind (hN : N ≤ 20) (hM : M ≤ 80) {ec : Nat → Int32} (hE : ∀ v, v < 20 → ec v = Int32.ofNat (yEc M F T c v)) (i1 i2 : Int32) (K : Int32 → Unit → Prop) (hK : K (if yNb N (fun v => decide (yEc M F T c v = 4)) = 5 then 5 else 6) ()) : wX4_kind (Int32.ofNat N) i1 i2 ec K := by
  have e4 : (4 : Int32) = Int32.ofNat 4 := rfl
  have e5 : (5 : Int32) = Int32.ofNat 5 := rfl
  have key : ∀ d i, N - i = d → i ≤ N → wLX4_kind_4 (Int32.ofNat N) ec K (d+1) (Int32.ofNat (yNb i (fun v => decide (yEc M F T c v = 4)))) (Int32.ofNat i) := by
    intro d
    induction d with
    | zero =>
      intro i hd hi
      have : i = N := by omega
      subst this
      have hl := yEcnt_le i (fun v => decide (yEc M F T c v = 4))
      unfold wLX4_kind_4
      refine ⟨fun _ => ⟨fun q => ?_, fun q => ?_⟩, fun hh => ?_⟩
      · rw [e5, yn_inj (by omega) (by omega)] at q; rw [if_neg q] at hK; exact hK
      · rw [e5, yn_inj (by omega) (by omega)] at q; rw [if_pos q] at hK; exact hK
      · exfalso; apply hh; rw [yn_le (by omega) (by omega)]; omega
    | succ d ih =>
      intro i hd hi
      have ei : Int32.ofNat i + 1 = Int32.ofNat (i+1) := yn_add i 1
      have en : Int32.ofNat (yNb i (fun v => decide (yEc M F T c v = 4))) + 1 = Int32.ofNat (yNb i (fun v => decide (yEc M F T c v = 4)) + 1) := yn_add _ 1
      have hl := yEc_lt (F := F) (T := T) (c := c) hM i
      have hi1 := ih (i+1) (by omega) (by omega)
      simp only [yNb] at hi1
      unfold wLX4_kind_4
      rw [ei, en, yn_nat (by omega), hE i (by omega), e4, yn_inj (by omega) (by omega)]
      refine ⟨fun hh => ?_, fun _ => ⟨yn_in (by omega) (by omega), fun q => ?_, fun q => ?_⟩⟩
      · exfalso; rw [yn_le (by omega) (by omega)] at hh; omega
      · rw [if_neg (by rw [decide_eq_true_eq]; exact q), Nat.add_zero] at hi1; exact hi1
      · rw [if_pos (by rw [decide_eq_true_eq]; exact q)] at hi1; exact hi1
  unfold wX4_kind
  exact ⟨_, key (N-0) 0 rfl (by omega)⟩

theorem yAt_nd {at' : Nat → Int32} (hA : yAt M F T at') {e : Nat} (he : e < 2*M) : at' e = Int32.ofNat (yNd F T e) := by
  have := hA (e/2) (by omega)
  unfold yNd
  by_cases q : e % 2 = 0
  · rw [if_pos q, ← this.1]; congr 1; omega
  · rw [if_neg q, ← this.2]; congr 1; omega

theorem w4_otherEndAt (h : yBpc N M F T c) {kp at' : Nat → Int32} (hB : yBo M c kp) (hA : yAt M F T at') {e : Nat} (he : yLv M c e = true) (h2 : yEc M F T c (yNd F T e) = 2) (i0 i2 : Int32) (K : Int32 → Unit → Prop) (hK : K (Int32.ofNat (yOe M F T c e)) ()) :
    wX4_otherEndAt i0 (Int32.ofNat M) i2 kp at' (Int32.ofNat e) K := by
  have hM := h.2.1
  have hN := h.1
  have hl := yLv_iff.1 he
  obtain ⟨o1, o2, o3, o4⟩ := yOe_spec he h2
  have ol := yLv_iff.1 o1
  have e2 : (2 : Int32) = Int32.ofNat 2 := rfl
  have key : ∀ d x, yOe M F T c e - x = d → x ≤ yOe M F T c e → wLX4_otherEndAt_2 (Int32.ofNat M) kp at' (Int32.ofNat e) K (d+1) (Int32.ofNat x) := by
    intro d
    induction d with
    | zero =>
      intro x hd hx
      have : x = yOe M F T c e := by omega
      have hnz : ¬ kp (x/2) = 0 := by
        intro q
        have := (yBo_iff hB (by omega)).1 q
        rw [‹x = _›, ol.2] at this; cases this
      unfold wLX4_otherEndAt_2
      rw [yn_2, e2, yn_div (by omega) (by omega), yn_nat (by omega), yn_nat (by omega), yn_nat (by omega), yAt_nd hA (by omega), yAt_nd hA hl.1]
      refine ⟨fun hh => ?_, fun _ => ⟨fun q => ?_, fun _ => ⟨yn_in (by omega) (by omega), fun q => absurd q hnz, fun _ => ⟨yn_in (by omega) (by omega), yn_in (by omega) (by omega), fun q => ?_, fun _ => ?_⟩⟩⟩⟩
      · exfalso; rw [yn_le (by omega) (by omega)] at hh; omega
      · rw [yn_inj (by omega) (by omega)] at q; exact absurd (by rw [← this]; exact q) o3
      · exact absurd (by rw [this, o2]) q
      · rw [this]; exact hK
    | succ d ih =>
      intro x hd hx
      have ex : Int32.ofNat x + 1 = Int32.ofNat (x+1) := yn_add x 1
      have hx' : x < 2*M := by omega
      have hgo := ih (x+1) (by omega) (by omega)
      unfold wLX4_otherEndAt_2
      rw [ex, yn_2, e2, yn_div (by omega) (by omega), yn_nat (by omega), yn_nat (by omega), yn_nat (by omega), yAt_nd hA hx', yAt_nd hA hl.1]
      refine ⟨fun hh => ?_, fun _ => ⟨fun _ => hgo, fun q1 => ⟨yn_in (by omega) (by omega), fun _ => hgo, fun hnz => ⟨yn_in (by omega) (by omega), yn_in (by omega) (by omega), fun _ => hgo, fun q => ?_⟩⟩⟩⟩
      · exfalso; rw [yn_le (by omega) (by omega)] at hh; omega
      · exfalso
        have hc : c (x/2) = true := by
          cases q : c (x/2) with
          | true => rfl
          | false => exact absurd ((yBo_iff hB (by omega)).2 q) hnz
        have hxl : yLv M c x = true := yLv_iff.2 ⟨hx', hc⟩
        have n1 := yBpc_nd h hxl
        have n2 := yBpc_nd h he
        rw [yn_inj (by omega) (by omega)] at q
        rcases o4 x hxl q with r | r
        · exact q1 (by rw [r])
        · omega
  unfold wX4_otherEndAt
  exact ⟨_, key (yOe M F T c e - 0) 0 rfl (by omega)⟩

theorem w4_branchFrom (h : yBpc N M F T c) {kp at' ec : Nat → Int32} (hB : yBo M c kp) (hA : yAt M F T at') (hE : ∀ v, v < 20 → ec v = Int32.ofNat (yEc M F T c v)) {e t : Nat} (he : yLv M c e = true) (ht : t < 20) (h2 : ∀ i, i < t → yEc M F T c (yNd F T (yWlk M F T c e i)) = 2) (h3 : 3 ≤ yEc M F T c (yNd F T (yWlk M F T c e t)))
    (i0 i2 : Int32) (K : Int32 → Unit → Prop) (hK : K (Int32.ofNat (yNd F T (yWlk M F T c e t))) ()) : wX4_branchFrom i0 (Int32.ofNat M) i2 at' ec kp (Int32.ofNat e) K := by
  have hM := h.2.1
  have hN := h.1
  have e3 : (3 : Int32) = Int32.ofNat 3 := rfl
  have e20 : (20 : Int32) = Int32.ofNat 20 := rfl
  have hkept : ∀ i, i ≤ t → yLv M c (yWlk M F T c e i) = true := by
    intro i
    induction i with
    | zero => intro _; exact he
    | succ i ih => intro hi; exact yLv_pt (yOe_spec (ih (by omega)) (h2 i (by omega))).1
  have key : ∀ d i, t - i = d → i ≤ t → wLX4_branchFrom_4 i0 (Int32.ofNat M) i2 at' ec kp K (d+1) (Int32.ofNat (yWlk M F T c e i)) (Int32.ofNat i) := by
    intro d
    induction d with
    | zero =>
      intro i hd hi
      have : i = t := by omega
      subst this
      have hl := yLv_iff.1 (hkept i (Nat.le_refl _))
      have hnd := yBpc_nd h (hkept i (Nat.le_refl _))
      have hcl := yEc_lt (F := F) (T := T) (c := c) hM (yNd F T (yWlk M F T c e i))
      unfold wLX4_branchFrom_4
      rw [yn_nat (by omega), yAt_nd hA hl.1, yn_nat (by omega), hE _ (by omega), e3, yn_le (by omega) (by omega)]
      exact ⟨fun _ => ⟨yn_in (by omega) (by omega), hK⟩, fun _ => ⟨yn_in (by omega) (by omega), yn_in (by omega) (by omega), fun _ => ⟨yn_in (by omega) (by omega), hK⟩, fun q => absurd h3 q⟩⟩
    | succ d ih =>
      intro i hd hi
      have ei : Int32.ofNat i + 1 = Int32.ofNat (i+1) := yn_add i 1
      have hk := hkept i (by omega)
      have hl := yLv_iff.1 hk
      have hnd := yBpc_nd h hk
      have hcl := yEc_lt (F := F) (T := T) (c := c) hM (yNd F T (yWlk M F T c e i))
      have hc2 := h2 i (by omega)
      unfold wLX4_branchFrom_4
      rw [ei, yn_nat (by omega), yAt_nd hA hl.1, yn_nat (by omega), hE _ (by omega), e3, yn_le (by omega) (by omega), e20, yn_le (by omega) (by omega)]
      refine ⟨fun q => absurd q (by omega), fun _ => ⟨yn_in (by omega) (by omega), yn_in (by omega) (by omega), fun q => absurd q (by omega), fun _ => ?_⟩⟩
      refine w4_otherEndAt h hB hA hk hc2 _ _ _ (fun v35 h35 => ?_)
      have ol := yLv_iff.1 (yOe_spec hk hc2).1
      rw [h35, yn_xor (by omega)]
      exact ih (i+1) (by omega) (by omega)
  unfold wX4_branchFrom
  exact ⟨_, key (t-0) 0 rfl (by omega)⟩

-- the reference
theorem w9_branchBehind (h : yBpc N M F T c) {ip pe frm too : Nat → Int32} (hB : yBo M c ip) (hfr : ∀ k, k < M → frm k = Int32.ofNat (F k)) (hto : ∀ k, k < M → too k = Int32.ofNat (T k)) (hE : ∀ v, v < N → pe v = Int32.ofNat (yEc M F T c v)) {e t : Nat} (he : yLv M c e = true) (h2 : ∀ i, i < t → yEc M F T c (yNd F T (yWlk M F T c e i)) = 2) (h3 : 3 ≤ yEc M F T c (yNd F T (yWlk M F T c e t)))
    (i0 i1 i2 i3 i4 i5 i6 i7 i8 i9 i10 i11 i12 i13 i14 i15 i16 i17 : Int32) (K : Int32 → Unit → Prop) (hK : K (Int32.ofNat (yNd F T (yWlk M F T c e t))) ()) :
    wX9_branchBehind i0 i1 i2 i3 i4 i5 i6 i7 i8 i9 i10 i11 i12 i13 i14 i15 i16 i17 pe ip frm too (Int32.ofNat (e/2)) (Int32.ofNat (yNd F T e)) K := by
  have hM := h.2.1
  have hN := h.1
  have e2 : (2 : Int32) = Int32.ofNat 2 := rfl
  have hkept : ∀ i, i ≤ t → yLv M c (yWlk M F T c e i) = true := by
    intro i
    induction i with
    | zero => intro _; exact he
    | succ i ih => intro hi; exact yLv_pt (yOe_spec (ih (by omega)) (h2 i (by omega))).1
  have h18 : ∀ f, yLv M c f = true → yEc M F T c (yNd F T f) = 2 → ∀ (B : Int32 → Int32 → Prop), B (Int32.ofNat (yNd F T (yPt (yOe M F T c f)))) (Int32.ofNat (yOe M F T c f / 2)) →
      ∃ n, wLX9_branchBehind_18 ip frm too (Int32.ofNat (yNd F T f)) (Int32.ofNat (f/2)) K B n 0 := by
    intro f hf hf2 B hB'
    obtain ⟨o1, o2, o3, o4⟩ := yOe_spec hf hf2
    have fl := yLv_iff.1 hf
    have ol := yLv_iff.1 o1
    have fnd := yBpc_nd h hf
    have hob : yOe M F T c f / 2 ≠ f/2 := by
      intro q
      have : yOe M F T c f = yPt f := by unfold yPt; split <;> omega
      have hp := yBpc_pe h hf
      rw [this] at o2
      exact hp o2.symm
    have key : ∀ d b, yOe M F T c f / 2 - b = d → b ≤ yOe M F T c f / 2 → wLX9_branchBehind_18 ip frm too (Int32.ofNat (yNd F T f)) (Int32.ofNat (f/2)) K B (d+1) (Int32.ofNat b) := by
      intro d
      induction d with
      | zero =>
        intro b hd hb
        have hbo : b = yOe M F T c f / 2 := by omega
        have hbM : b < M := by omega
        have hFb := h.2.2.1 b hbM
        have hnz : ¬ ip b = 0 := by
          intro q
          have := (yBo_iff hB hbM).1 q
          rw [hbo, ol.2] at this; cases this
        have harc := yNd_arc (F := F) (T := T) (yOe M F T c f)
        rw [← hbo] at harc
        rw [o2] at harc
        have hvp := yn_in (n := b) (N := 80) (by omega) (by omega)
        have hbv : Int32.ofNat (F b) + Int32.ofNat (T b) - Int32.ofNat (yNd F T f) = Int32.ofNat (yNd F T (yPt (yOe M F T c f))) := by
          rw [yn_add, yn_sub (by omega)]; congr 1; omega
        unfold wLX9_branchBehind_18
        rw [yn_nat (by omega), hfr b hbM, hto b hbM, yn_inj (a := F b) (by omega) (by omega), yn_inj (a := T b) (by omega) (by omega), hbv]
        refine ⟨hvp, fun q => absurd q hnz, fun _ => ⟨fun q => ?_, fun _ => ⟨hvp, fun _ => ⟨hvp, hvp, fun v84 h84 => ?_⟩, fun q => ⟨hvp, fun _ => ⟨hvp, hvp, fun v84 h84 => ?_⟩, fun q' => ?_⟩⟩⟩⟩
        · rw [yn_inj (by omega) (by omega)] at q; exact absurd (by rw [← hbo]; exact q) hob
        · rw [h84, hbo]; exact hB'
        · rw [h84, hbo]; exact hB'
        · exfalso; omega
      | succ d ih =>
        intro b hd hb
        have eb : Int32.ofNat b + 1 = Int32.ofNat (b+1) := yn_add b 1
        have hbM : b < M := by omega
        have hFb := h.2.2.1 b hbM
        have hgo := ih (b+1) (by omega) (by omega)
        have hvp := yn_in (n := b) (N := 80) (by omega) (by omega)
        have hA : yNd F T (2*b) = F b := by unfold yNd; rw [if_pos (by omega), show 2*b/2 = b by omega]
        have hB2 : yNd F T (2*b+1) = T b := by unfold yNd; rw [if_neg (by omega), show (2*b+1)/2 = b by omega]
        have hcb : ¬ ip b = 0 → c b = true := by
          intro hnz
          cases q : c b with
          | true => rfl
          | false => exact absurd ((yBo_iff hB (by omega)).2 q) hnz
        unfold wLX9_branchBehind_18
        rw [eb, yn_nat (by omega), hfr b hbM, hto b hbM, yn_inj (a := F b) (by omega) (by omega), yn_inj (a := T b) (by omega) (by omega), yn_inj (a := b) (b := f/2) (by omega) (by omega)]
        refine ⟨hvp, fun _ => hgo, fun hnz => ⟨fun _ => hgo, fun q1 => ⟨hvp, fun q => ?_, fun _ => ⟨hvp, fun q => ?_, fun _ => hgo⟩⟩⟩⟩
        · exfalso
          have hx : yLv M c (2*b) = true := yLv_iff.2 ⟨by omega, by rw [show 2*b/2 = b by omega]; exact hcb hnz⟩
          rcases o4 (2*b) hx (by rw [hA]; exact q) with r | r <;> omega
        · exfalso
          have hx : yLv M c (2*b+1) = true := yLv_iff.2 ⟨by omega, by rw [show (2*b+1)/2 = b by omega]; exact hcb hnz⟩
          rcases o4 (2*b+1) hx (by rw [hB2]; exact q) with r | r <;> omega
    exact ⟨_, key (yOe M F T c f / 2 - 0) 0 rfl (by omega)⟩
  have key : ∀ d i, t - i = d → i ≤ t → wLX9_branchBehind_5 pe ip frm too K (d+1) (Int32.ofNat (yNd F T (yWlk M F T c e i))) (Int32.ofNat (yWlk M F T c e i / 2)) := by
    intro d
    induction d with
    | zero =>
      intro i hd hi
      have : i = t := by omega
      subst this
      have hnd := yBpc_nd h (hkept i (Nat.le_refl _))
      have hcl := yEc_lt (F := F) (T := T) (c := c) hM (yNd F T (yWlk M F T c e i))
      unfold wLX9_branchBehind_5
      rw [yn_nat (by omega), hE _ hnd, e2, yn_inj (by omega) (by omega)]
      exact ⟨yn_in (by omega) (by omega), fun _ => hK, fun q => absurd q (by omega)⟩
    | succ d ih =>
      intro i hd hi
      have hk := hkept i (by omega)
      have hnd := yBpc_nd h hk
      have hcl := yEc_lt (F := F) (T := T) (c := c) hM (yNd F T (yWlk M F T c e i))
      have hc2 := h2 i (by omega)
      unfold wLX9_branchBehind_5
      rw [yn_nat (by omega), hE _ hnd, e2, yn_inj (by omega) (by omega)]
      refine ⟨yn_in (by omega) (by omega), fun q => absurd hc2 q, fun _ => h18 _ hk hc2 _ ?_⟩
      have := ih (i+1) (by omega) (by omega)
      have e5 : yWlk M F T c e (i+1) = yPt (yOe M F T c (yWlk M F T c e i)) := rfl
      rw [e5, yPt_half] at this
      exact this
  unfold wX9_branchBehind
  exact ⟨_, key (t-0) 0 rfl (by omega)⟩
end


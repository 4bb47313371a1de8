
-- a round of a way r of d steps and back over pn
def yGc (d L : Nat) (r pn : Nat → Nat) (k : Nat) : Nat := if k < d then r k else pn (L-1-(k-d))

-- k nodes of c are laid into face g
def yLy (g k : Nat) (c : Nat → Nat) (fa fs fb fa0 fs0 fb0 : Nat → Int32) : Prop :=
  (∀ j, j < k → fa (21*g+j) = Int32.ofNat (c j)) ∧ (∀ h j, h ≠ g → j < 21 → fa (21*h+j) = fa0 (21*h+j)) ∧ (0 < k → fs g = Int32.ofNat k) ∧
  (∀ h, h ≠ g → fs h = fs0 h) ∧ (∀ w, w < 32 → (yM (fb g) w = true ↔ ∃ j, j < k ∧ w = c j)) ∧ (∀ h, h ≠ g → fb h = fb0 h)

theorem yLy_put {g k : Nat} {c : Nat → Nat} {fa fs fb fa0 fs0 fb0 : Nat → Int32} (h : yLy g k c fa fs fb fa0 fs0 fb0) (hk : k < 21) (hc : c k < 32) :
    yLy g (k+1) c (upd fa (21*g+k) (Int32.ofNat (c k))) (upd fs g (Int32.ofNat (k+1))) (upd fb g (fb g ||| ((1 : Int32) <<< (Int32.ofNat (c k) &&& 31)))) fa0 fs0 fb0 := by
  obtain ⟨h1, h2, h3, h4, h5, h6⟩ := h
  refine ⟨?_, ?_, fun _ => yupd_same _ _ _, ?_, ?_, ?_⟩
  · intro j hj
    by_cases e : j = k
    · rw [e, yupd_same]
    · rw [yupd_ne _ _ _ _ (by omega)]; exact h1 j (by omega)
  · intro h j hne hj
    rw [yupd_ne _ _ _ _ (by omega)]; exact h2 h j hne hj
  · intro h hne; rw [yupd_ne _ _ _ _ hne]; exact h4 h hne
  · intro w hw
    rw [yupd_same, yM_or, Bool.or_eq_true, h5 w hw, yM_shl hc w hw, decide_eq_true_iff]
    constructor
    · rintro (⟨j, hj, e⟩ | e)
      · exact ⟨j, by omega, e⟩
      · exact ⟨k, by omega, e⟩
    · rintro ⟨j, hj, e⟩
      by_cases e' : j = k
      · rw [e'] at e; exact Or.inr e
      · exact Or.inl ⟨j, by omega, e⟩
  · intro h hne; rw [yupd_ne _ _ _ _ hne]; exact h6 h hne

section
variable {sz p q L f F : Nat} {c pn : Nat → Nat} {old pt : Nat → Int32}
theorem w9_sp214 (hsz : sz ≤ 21) (hp : p < sz) (hq : q < sz) (hL2 : 2 ≤ L) (hL : L ≤ 22)
    (hc : ∀ k, k < sz → c k < 21) (hold : ∀ k, k < sz → old k = Int32.ofNat (c k))
    (hpn : ∀ k, k < L → pn k < 21) (hpt : ∀ k, k < L → pt k = Int32.ofNat (pn k)) (hF : F < 120)
    (hS2 : (p + sz - q) % sz + L - 1 ≤ 21) (fa1 fs1 fb1 : Nat → Int32) (K : (Int32 × (Nat → Int32) × (Nat → Int32) × (Nat → Int32) × (Nat → Int32)) → Prop)
    (i0 i1 i2 i3 i4 i5 i8 i9 i10 i11 i12 i13 i14 i15 i16 i17 : Int32)
    (hK : ∀ fa fs fb, yLy F ((p + sz - q) % sz + L - 1) (yGc ((p + sz - q) % sz) L (fun k => c ((q+k) % sz)) (fun j => pn (L-1-j))) fa fs fb fa1 fs1 fb1 → K (Int32.ofNat (F+1), fs, old, fb, fa)) :
    ∀ dd k fa fs fb, (p + sz - q) % sz - k = dd → k ≤ (p + sz - q) % sz → yLy F k (yGc ((p + sz - q) % sz) L (fun k => c ((q+k) % sz)) (fun j => pn (L-1-j))) fa fs fb fa1 fs1 fb1 →
      wLX9_split_214 i0 i1 i2 i3 i4 i5 (Int32.ofNat F) (Int32.ofNat L) i8 i9 i10 i11 i12 i13 i14 i15 i16 i17 pt (Int32.ofNat sz) old (Int32.ofNat p) (Int32.ofNat (F+1)) K (dd+1) fs fb fa (Int32.ofNat k) (Int32.ofNat ((q+k) % sz)) := by
  have h0eq : (0 : Int32) = Int32.ofNat 0 := rfl
  obtain ⟨d2, hd2⟩ : ∃ d2, d2 = (p + sz - q) % sz := ⟨_, rfl⟩
  have hqd : (q + d2) % sz = p := by
    rw [hd2]; by_cases h : q ≤ p
    · have : (p + sz - q) % sz = p - q := by rw [show p + sz - q = (p - q) + sz by omega, Nat.add_mod_right, Nat.mod_eq_of_lt (by omega)]
      rw [this, show q + (p - q) = p by omega, Nat.mod_eq_of_lt hp]
    · rw [Nat.mod_eq_of_lt (by omega : p + sz - q < sz), show q + (p + sz - q) = p + sz by omega, Nat.add_mod_right, Nat.mod_eq_of_lt hp]
  have hd2lt : d2 < sz := by rw [hd2]; exact Nat.mod_lt _ (by omega)
  have hqk : ∀ k, k < d2 → (q + k) % sz ≠ p := by
    intro k hk h
    rw [← hqd] at h
    have h1 := Nat.div_add_mod (q+k) sz
    have h2 := Nat.div_add_mod (q+d2) sz
    have h3 : (q+d2) / sz ≤ 1 := by
      have : (q + d2)/sz < 2 := Nat.div_lt_of_lt_mul (by omega)
      omega
    have h4 : (q+k) / sz ≤ (q+d2)/sz := Nat.div_le_div_right (by omega)
    rw [h] at h1
    rcases Nat.lt_or_ge ((q+k)/sz) ((q+d2)/sz) with h5 | h5
    · have h6 : (q+k)/sz = 0 := Nat.lt_one_iff.mp (Nat.lt_of_lt_of_le h5 h3)
      have h7 : (q+d2)/sz = 1 := Nat.le_antisymm h3 (Nat.lt_of_le_of_lt (Nat.zero_le _) h5)
      rw [h6] at h1; rw [h7] at h2; omega
    · have : (q+k)/sz = (q+d2)/sz := Nat.le_antisymm h4 h5
      rw [this] at h1; omega
  rw [← hd2] at hS2 hK ⊢
  -- the last loop
  have h253 : ∀ dd i fa fs fb, L - 1 - i = dd → i + 1 ≤ L → yLy F (d2 + i) (yGc d2 L (fun k => c ((q+k) % sz)) (fun j => pn (L-1-j))) fa fs fb fa1 fs1 fb1 →
      wLX9_split_253 i0 i1 i2 i3 i4 i5 (Int32.ofNat F) (Int32.ofNat L) i8 i9 i10 i11 i12 i13 i14 i15 i16 i17 pt old (Int32.ofNat (F+1)) K (dd+1) fs fb fa (Int32.ofNat (d2+i)) (Int32.ofNat i) := by
    intro dd
    induction dd with
    | zero =>
      intro i fa fs fb hd hi hY
      have e1 : Int32.ofNat i + 1 = Int32.ofNat (i+1) := yn_add i 1
      unfold wLX9_split_253
      rw [e1]
      refine ⟨fun _ => hK fa fs fb ?_, fun hh => ?_⟩
      · have : d2 + i = d2 + L - 1 := by omega
        rw [this] at hY; exact hY
      · exfalso; apply hh; rw [yn_le (by omega) (by omega)]; omega
    | succ dd ih =>
      intro i fa fs fb hd hi hY
      have e1 : Int32.ofNat i + 1 = Int32.ofNat (i+1) := yn_add i 1
      have e2 : Int32.ofNat (d2+i) + 1 = Int32.ofNat (d2+i+1) := yn_add (d2+i) 1
      have hci : yGc d2 L (fun k => c ((q+k) % sz)) (fun j => pn (L-1-j)) (d2+i) = pn i := by
        unfold yGc; rw [if_neg (by omega)]
        show pn (L-1-(L-1-(d2+i-d2))) = pn i
        congr 1; omega
      have hpi := hpn i (by omega)
      unfold wLX9_split_253
      rw [e1, e2, yn_nat (by omega)]
      refine ⟨fun hh => ?_, fun _ => ⟨yn_in (by omega) (by omega), ?_⟩⟩
      · exfalso; rw [yn_le (by omega) (by omega)] at hh; omega
      · rw [hpt i (by omega)]
        refine w9_putFace hF (by omega) fa fs fb _ ?_ _ _ _ _ _ _ _ _ _ _ _ _ _ _ _ _ _ _
        have := yLy_put hY (by omega) (by rw [hci]; omega)
        rw [hci] at this
        exact ih (i+1) _ _ _ (by omega) (by omega) this
  intro dd
  induction dd with
  | zero =>
    intro k fa fs fb hd hk hY
    have hkd : k = d2 := by omega
    unfold wLX9_split_214
    rw [hkd, hqd]
    refine ⟨fun _ => ⟨L - 1 - 0 + 1, ?_⟩, fun hh => absurd rfl hh⟩
    rw [h0eq]
    rw [hkd] at hY
    exact h253 (L-1-0) 0 fa fs fb rfl (by omega) hY
  | succ dd ih =>
    intro k fa fs fb hd hk hY
    have hkd : k < d2 := by omega
    have hm : (q+k) % sz < sz := Nat.mod_lt _ (by omega)
    have hcm := hc _ hm
    have e1 : Int32.ofNat ((q+k) % sz) + 1 = Int32.ofNat ((q+k) % sz+1) := yn_add _ 1
    have e2 : Int32.ofNat k + 1 = Int32.ofNat (k+1) := yn_add k 1
    have hci : yGc d2 L (fun k => c ((q+k) % sz)) (fun j => pn (L-1-j)) k = c ((q+k) % sz) := by
      unfold yGc; rw [if_pos hkd]
    unfold wLX9_split_214
    rw [e1, e2, yn_nat (by omega)]
    refine ⟨fun hh => ?_, fun _ => ⟨yn_in (by omega) (by omega), ?_⟩⟩
    · exfalso; exact hqk k hkd ((yn_inj (by omega) (by omega)).1 hh)
    · rw [hold _ hm]
      refine w9_putFace hF (by omega) fa fs fb _ ?_ _ _ _ _ _ _ _ _ _ _ _ _ _ _ _ _ _ _
      refine ⟨?_, fun v245 h245 => ?_⟩
      · intro h; have : sz = 0 := (yn_inj (by omega) (by omega)).1 h; omega
      · rw [yn_jmod (by omega) (by omega)] at h245
        have e3 : ((q+k) % sz + 1) % sz = (q + (k+1)) % sz := by
          rw [Nat.mod_add_mod]; congr 1
        rw [h245, e3]
        have := yLy_put hY (by omega) (by rw [hci]; omega)
        rw [hci] at this
        exact ih (k+1) _ _ _ (by omega) (by omega) this

theorem w9_sp112 (hsz : sz ≤ 21) (hp : p < sz) (hq : q < sz) (hL2 : 2 ≤ L) (hL : L ≤ 22)
    (hc : ∀ k, k < sz → c k < 21) (hold : ∀ k, k < sz → old k = Int32.ofNat (c k))
    (hpn : ∀ k, k < L → pn k < 21) (hpt : ∀ k, k < L → pt k = Int32.ofNat (pn k)) (hF : F < 120) (hf : f < F)
    (hS1 : (q + sz - p) % sz + L - 1 ≤ 21) (hS2 : (p + sz - q) % sz + L - 1 ≤ 21) (fa0 fs0 fb0 : Nat → Int32) (K : (Int32 × (Nat → Int32) × (Nat → Int32) × (Nat → Int32) × (Nat → Int32)) → Prop)
    (i0 i1 i2 i3 i4 i5 i8 i9 i10 i11 i12 i13 i14 i15 i16 i17 : Int32)
    (hK : ∀ fa1 fs1 fb1 fa fs fb, yLy f ((q + sz - p) % sz + L - 1) (yGc ((q + sz - p) % sz) L (fun k => c ((p+k) % sz)) pn) fa1 fs1 fb1 fa0 fs0 fb0 →
      yLy F ((p + sz - q) % sz + L - 1) (yGc ((p + sz - q) % sz) L (fun k => c ((q+k) % sz)) (fun j => pn (L-1-j))) fa fs fb fa1 fs1 (upd fb1 F 0) → K (Int32.ofNat (F+1), fs, old, fb, fa)) :
    ∀ dd k fa fs fb, (q + sz - p) % sz - k = dd → k ≤ (q + sz - p) % sz → yLy f k (yGc ((q + sz - p) % sz) L (fun k => c ((p+k) % sz)) pn) fa fs fb fa0 fs0 fb0 →
      wLX9_split_112 i0 i1 i2 i3 i4 i5 (Int32.ofNat F) (Int32.ofNat L) i8 i9 i10 i11 i12 i13 i14 i15 i16 i17 pt (Int32.ofNat f) (Int32.ofNat sz) old (Int32.ofNat p) (Int32.ofNat q) K (dd+1) fs fb fa (Int32.ofNat k) (Int32.ofNat ((p+k) % sz)) := by
  have h0eq : (0 : Int32) = Int32.ofNat 0 := rfl
  have h214 := fun fa1 fs1 fb1 hK' => w9_sp214 (F := F) hsz hp hq hL2 hL hc hold hpn hpt hF hS2 fa1 fs1 fb1 K i0 i1 i2 i3 i4 i5 i8 i9 i10 i11 i12 i13 i14 i15 i16 i17 hK'
  obtain ⟨d1, hd1⟩ : ∃ d1, d1 = (q + sz - p) % sz := ⟨_, rfl⟩
  have hqd : (p + d1) % sz = q := by
    rw [hd1]; by_cases h : p ≤ q
    · have : (q + sz - p) % sz = q - p := by rw [show q + sz - p = (q - p) + sz by omega, Nat.add_mod_right, Nat.mod_eq_of_lt (by omega)]
      rw [this, show p + (q - p) = q by omega, Nat.mod_eq_of_lt hq]
    · rw [Nat.mod_eq_of_lt (by omega : q + sz - p < sz), show p + (q + sz - p) = q + sz by omega, Nat.add_mod_right, Nat.mod_eq_of_lt hq]
  have hd1lt : d1 < sz := by rw [hd1]; exact Nat.mod_lt _ (by omega)
  have hqk : ∀ k, k < d1 → (p + k) % sz ≠ q := by
    intro k hk h
    rw [← hqd] at h
    have h1 := Nat.div_add_mod (p+k) sz
    have h2 := Nat.div_add_mod (p+d1) sz
    have h3 : (p+d1) / sz ≤ 1 := by
      have : (p + d1)/sz < 2 := Nat.div_lt_of_lt_mul (by omega)
      omega
    have h4 : (p+k) / sz ≤ (p+d1)/sz := Nat.div_le_div_right (by omega)
    rw [h] at h1
    rcases Nat.lt_or_ge ((p+k)/sz) ((p+d1)/sz) with h5 | h5
    · have h6 : (p+k)/sz = 0 := Nat.lt_one_iff.mp (Nat.lt_of_lt_of_le h5 h3)
      have h7 : (p+d1)/sz = 1 := Nat.le_antisymm h3 (Nat.lt_of_le_of_lt (Nat.zero_le _) h5)
      rw [h6] at h1; rw [h7] at h2; omega
    · have : (p+k)/sz = (p+d1)/sz := Nat.le_antisymm h4 h5
      rw [this] at h1; omega
  rw [← hd1] at hS1 hK ⊢
  have h155 : ∀ i fa fs fb, i + 1 ≤ L → yLy f (d1 + (L-1-i)) (yGc d1 L (fun k => c ((p+k) % sz)) pn) fa fs fb fa0 fs0 fb0 →
      wLX9_split_155 i0 i1 i2 i3 i4 i5 (Int32.ofNat F) (Int32.ofNat L) i8 i9 i10 i11 i12 i13 i14 i15 i16 i17 pt (Int32.ofNat f) (Int32.ofNat sz) old (Int32.ofNat p) (Int32.ofNat q) K (i+1) fs fb fa (Int32.ofNat (d1+(L-1-i))) (Int32.ofNat i) := by
    intro i
    induction i with
    | zero =>
      intro fa fs fb hi hY
      have e1 : Int32.ofNat F + 1 = Int32.ofNat (F+1) := yn_add F 1
      unfold wLX9_split_155
      rw [e1, yn_nat (by omega)]
      refine ⟨fun _ v196 h196 => ⟨yn_in (by omega) (by omega), fun g206 h206 => ⟨(p + sz - q) % sz - 0 + 1, ?_⟩⟩, fun hh => ?_⟩
      · rw [h196, h206, h0eq]
        have := h214 fa fs (upd fb F 0) (fun fa' fs' fb' hY' => hK fa fs fb fa' fs' fb' (by rw [show d1 + (L-1-0) = d1 + L - 1 by omega] at hY; exact hY) hY') ((p + sz - q) % sz - 0) 0 fa fs (upd fb F 0) rfl (by omega)
          ⟨fun j hj => by omega, fun _ _ _ _ => rfl, fun h => by omega, fun _ _ => rfl, fun w _ => by rw [yupd_same, yM_zero]; simp, fun _ _ => rfl⟩
        rw [show (q + 0) % sz = q by rw [Nat.add_zero, Nat.mod_eq_of_lt hq]] at this
        exact this
      · exfalso; apply hh; exact (by decide)
    | succ i ih =>
      intro fa fs fb hi hY
      have e2 : Int32.ofNat (d1+(L-1-(i+1))) + 1 = Int32.ofNat (d1+(L-1-i)) := by
        have := yn_add (d1+(L-1-(i+1))) 1
        rw [show d1+(L-1-(i+1)) + 1 = d1+(L-1-i) by omega] at this
        exact this
      have hci : yGc d1 L (fun k => c ((p+k) % sz)) pn (d1+(L-1-(i+1))) = pn (i+1) := by
        unfold yGc; rw [if_neg (by omega)]
        congr 1; omega
      have hpi := hpn (i+1) (by omega)
      unfold wLX9_split_155
      rw [e2, yn_nat (by omega : i + 1 < 2147483648), yn_dec (by omega)]
      refine ⟨fun hh => ?_, fun _ => ⟨yn_in (by omega) (by omega), ?_⟩⟩
      · exfalso; rw [h0eq, yn_le (by omega) (by omega)] at hh; omega
      · rw [hpt (i+1) (by omega)]
        refine w9_putFace (by omega) (by omega) fa fs fb _ ?_ _ _ _ _ _ _ _ _ _ _ _ _ _ _ _ _ _ _
        have := yLy_put hY (by omega) (by rw [hci]; omega)
        rw [hci, show d1 + (L-1-(i+1)) + 1 = d1 + (L-1-i) by omega] at this
        rw [show d1 + (L-1-(i+1)) + 1 = d1 + (L-1-i) by omega]
        exact ih _ _ _ (by omega) this
  intro dd
  induction dd with
  | zero =>
    intro k fa fs fb hd hk hY
    have hkd : k = d1 := by omega
    unfold wLX9_split_112
    rw [hkd, hqd]
    refine ⟨fun _ v153 h153 => ⟨(L - 1) + 1, ?_⟩, fun hh => absurd rfl hh⟩
    have h1eq : (1 : Int32) = Int32.ofNat 1 := rfl
    rw [h1eq, yn_sub (by omega)] at h153
    rw [h153]
    have := h155 (L-1) fa fs fb (by omega) (by rw [show d1 + (L-1-(L-1)) = k by omega]; exact hY)
    rw [show d1 + (L-1-(L-1)) = d1 by omega] at this
    exact this
  | succ dd ih =>
    intro k fa fs fb hd hk hY
    have hkd : k < d1 := by omega
    have hm : (p+k) % sz < sz := Nat.mod_lt _ (by omega)
    have hcm := hc _ hm
    have e1 : Int32.ofNat ((p+k) % sz) + 1 = Int32.ofNat ((p+k) % sz+1) := yn_add _ 1
    have e2 : Int32.ofNat k + 1 = Int32.ofNat (k+1) := yn_add k 1
    have hci : yGc d1 L (fun k => c ((p+k) % sz)) pn k = c ((p+k) % sz) := by
      unfold yGc; rw [if_pos hkd]
    unfold wLX9_split_112
    rw [e1, e2, yn_nat (by omega)]
    refine ⟨fun hh => ?_, fun _ => ⟨yn_in (by omega) (by omega), ?_⟩⟩
    · exfalso; exact hqk k hkd ((yn_inj (by omega) (by omega)).1 hh)
    · rw [hold _ hm]
      refine w9_putFace (by omega) (by omega) fa fs fb _ ?_ _ _ _ _ _ _ _ _ _ _ _ _ _ _ _ _ _ _
      refine ⟨?_, fun v245 h245 => ?_⟩
      · intro h; have : sz = 0 := (yn_inj (by omega) (by omega)).1 h; omega
      · rw [yn_jmod (by omega) (by omega)] at h245
        have e3 : ((p+k) % sz + 1) % sz = (p + (k+1)) % sz := by
          rw [Nat.mod_add_mod]; congr 1
        rw [h245, e3]
        have := yLy_put hY (by omega) (by rw [hci]; omega)
        rw [hci] at this
        exact ih (k+1) _ _ _ (by omega) (by omega) this
end

theorem w9_split {sz p q L f F : Nat} {c pn : Nat → Nat} {pt : Nat → Int32} (hsz : sz ≤ 21) (hp : p < sz) (hq : q < sz) (hL2 : 2 ≤ L) (hL : L ≤ 22)
    (hc : ∀ k, k < sz → c k < 21) (hci : ∀ i j, i < sz → j < sz → c i = c j → i = j)
    (hpn : ∀ k, k < L → pn k < 21) (hpt : ∀ k, k < L → pt k = Int32.ofNat (pn k))
    (hF : F < 120) (hf : f < F) (fa0 fs0 fb0 old0 : Nat → Int32) (hfa : ∀ k, k < sz → fa0 (21*f+k) = Int32.ofNat (c k)) (hfs : fs0 f = Int32.ofNat sz)
    (hcp : pn 0 = c p) (hcq : pn (L-1) = c q)
    (hS1 : (q + sz - p) % sz + L - 1 ≤ 21) (hS2 : (p + sz - q) % sz + L - 1 ≤ 21)
    (K : (Int32 × (Nat → Int32) × (Nat → Int32) × (Nat → Int32) × (Nat → Int32)) → Prop)
    (i0 i1 i2 i3 i4 i5 i8 i9 i10 i11 i12 i13 i14 i15 i16 i17 : Int32)
    (hK : ∀ old fa1 fs1 fb1 fa fs fb, yLy f ((q + sz - p) % sz + L - 1) (yGc ((q + sz - p) % sz) L (fun k => c ((p+k) % sz)) pn) fa1 fs1 fb1 fa0 fs0 (upd fb0 f 0) →
      yLy F ((p + sz - q) % sz + L - 1) (yGc ((p + sz - q) % sz) L (fun k => c ((q+k) % sz)) (fun j => pn (L-1-j))) fa fs fb fa1 fs1 (upd fb1 F 0) → K (Int32.ofNat (F+1), fs, old, fb, fa)) :
    wX9_split i0 i1 i2 i3 i4 i5 (Int32.ofNat F) (Int32.ofNat L) i8 i9 i10 i11 i12 i13 i14 i15 i16 i17 fs0 pt old0 fb0 fa0 (Int32.ofNat f) K := by
  have h0eq : (0 : Int32) = Int32.ofNat 0 := rfl
  have h1eq : (1 : Int32) = Int32.ofNat 1 := rfl
  have h80 : ∀ old, (∀ k, k < sz → old k = Int32.ofNat (c k)) → ∀ d j, q - j = d → j ≤ q →
      wLX9_split_80 i0 i1 i2 i3 i4 i5 (Int32.ofNat F) (Int32.ofNat L) i8 i9 i10 i11 i12 i13 i14 i15 i16 i17 fs0 pt fb0 fa0 (Int32.ofNat f) (Int32.ofNat sz) old (Int32.ofNat (c q)) (Int32.ofNat p) K (d+1) (Int32.ofNat j) := by
    intro old hold d
    have fin : wLX9_split_80 i0 i1 i2 i3 i4 i5 (Int32.ofNat F) (Int32.ofNat L) i8 i9 i10 i11 i12 i13 i14 i15 i16 i17 fs0 pt fb0 fa0 (Int32.ofNat f) (Int32.ofNat sz) old (Int32.ofNat (c q)) (Int32.ofNat p) K (0+1) (Int32.ofNat q) := by
      unfold wLX9_split_80
      rw [yn_nat (by omega), yn_nat (by omega), hold q hq]
      refine ⟨yn_in (by omega) (by omega), fun _ => ⟨yn_in (by omega) (by omega), fun g104 h104 => ⟨(q + sz - p) % sz - 0 + 1, ?_⟩⟩, fun hh => absurd rfl hh⟩
      rw [h104, h0eq]
      have := w9_sp112 (F := F) hsz hp hq hL2 hL hc hold hpn hpt hF hf hS1 hS2 fa0 fs0 (upd fb0 f 0) K i0 i1 i2 i3 i4 i5 i8 i9 i10 i11 i12 i13 i14 i15 i16 i17 (hK old) ((q + sz - p) % sz - 0) 0 fa0 fs0 (upd fb0 f 0) rfl (by omega)
        ⟨fun j hj => by omega, fun _ _ _ _ => rfl, fun h => by omega, fun _ _ => rfl, fun w _ => by rw [yupd_same, yM_zero]; simp, fun _ _ => rfl⟩
      rw [show (p + 0) % sz = p by rw [Nat.add_zero, Nat.mod_eq_of_lt hp]] at this
      exact this
    induction d with
    | zero =>
      intro j hd hj
      have : j = q := by omega
      rw [this]; exact fin
    | succ d ih =>
      intro j hd hj
      have e1 : Int32.ofNat j + 1 = Int32.ofNat (j+1) := yn_add j 1
      unfold wLX9_split_80
      rw [yn_nat (by omega), e1, hold j (by omega)]
      refine ⟨yn_in (by omega) (by omega), fun hh => ?_, fun _ => ih (j+1) (by omega) (by omega)⟩
      exfalso
      have h1 := hc j (by omega)
      have h2 := hc q hq
      have := hci j q (by omega) hq ((yn_inj (by omega) (by omega)).1 hh)
      omega
  have h60 : ∀ old, (∀ k, k < sz → old k = Int32.ofNat (c k)) → ∀ d j, p - j = d → j ≤ p →
      wLX9_split_60 i0 i1 i2 i3 i4 i5 (Int32.ofNat F) (Int32.ofNat L) i8 i9 i10 i11 i12 i13 i14 i15 i16 i17 fs0 pt fb0 fa0 (Int32.ofNat f) (Int32.ofNat sz) old (Int32.ofNat (c p)) (Int32.ofNat (c q)) K (d+1) (Int32.ofNat j) := by
    intro old hold d
    induction d with
    | zero =>
      intro j hd hj
      have : j = p := by omega
      rw [this]
      unfold wLX9_split_60
      rw [yn_nat (by omega), hold p hp]
      refine ⟨yn_in (by omega) (by omega), fun _ => ⟨q - 0 + 1, ?_⟩, fun hh => absurd rfl hh⟩
      rw [h0eq]
      exact h80 old hold (q - 0) 0 rfl (by omega)
    | succ d ih =>
      intro j hd hj
      have e1 : Int32.ofNat j + 1 = Int32.ofNat (j+1) := yn_add j 1
      unfold wLX9_split_60
      rw [yn_nat (by omega), e1, hold j (by omega)]
      refine ⟨yn_in (by omega) (by omega), fun hh => ?_, fun _ => ih (j+1) (by omega) (by omega)⟩
      exfalso
      have h1 := hc j (by omega)
      have h2 := hc p hp
      have := hci j p (by omega) hp ((yn_inj (by omega) (by omega)).1 hh)
      omega
  have h9 : ∀ d j old, sz - j = d → j ≤ sz → (∀ k, k < j → old k = Int32.ofNat (c k)) →
      wLX9_split_9 i0 i1 i2 i3 i4 i5 (Int32.ofNat F) (Int32.ofNat L) i8 i9 i10 i11 i12 i13 i14 i15 i16 i17 fs0 pt fb0 fa0 (Int32.ofNat f) (Int32.ofNat sz) K (d+1) old (Int32.ofNat j) := by
    intro d
    induction d with
    | zero =>
      intro j old hd hj hold
      have : j = sz := by omega
      subst this
      unfold wLX9_split_9
      refine ⟨fun _ v43 h43 => ⟨?_, fun v55 h55 => ⟨p - 0 + 1, ?_⟩⟩, fun hh => ?_⟩
      · rw [h1eq, yn_sub (by omega)]; exact yn_in (by omega) (by omega)
      · rw [h1eq, yn_sub (by omega), yn_nat (by omega), hpt _ (by omega), hcq] at h55
        rw [h0eq, yn_nat (by omega), hpt _ (by omega), hcp] at h43
        rw [h43, h55, h0eq]
        exact h60 old hold (p - 0) 0 rfl (by omega)
      · exfalso; apply hh; rw [yn_le (by omega) (by omega)]; omega
    | succ d ih =>
      intro j old hd hj hold
      have e1 : Int32.ofNat j + 1 = Int32.ofNat (j+1) := yn_add j 1
      have e2 : (21 : Int32) * Int32.ofNat f + Int32.ofNat j = Int32.ofNat (21 * f + j) := by
        have : (21 : Int32) = Int32.ofNat 21 := rfl
        rw [this, yn_mul, yn_add]
      unfold wLX9_split_9
      rw [e1, e2, yn_nat (by omega), yn_nat (by omega)]
      refine ⟨fun hh => ?_, fun _ => ⟨yn_in (by omega) (by omega), yn_in (by omega) (by omega), fun g30 h30 => ?_⟩⟩
      · exfalso; rw [yn_le (by omega) (by omega)] at hh; omega
      · refine ih (j+1) g30 (by omega) (by omega) ?_
        intro k hk
        rw [h30]
        by_cases e : k = j
        · rw [e, yupd_same]; exact hfa j (by omega)
        · rw [yupd_ne _ _ _ _ e]; exact hold k (by omega)
  unfold wX9_split
  rw [yn_nat (by omega)]
  refine ⟨yn_in (by omega) (by omega), fun v6 h6 => ⟨sz - 0 + 1, ?_⟩⟩
  rw [h6, hfs, h0eq]
  exact h9 (sz - 0) 0 old0 rfl (by omega) (fun k hk => by omega)

def yS1 (fo : Nat → Nat → Nat) (e : Nat) : Nat := fo (e/32) (e%32)
def yT1 (fo : Nat → Nat → Nat) (e : Nat) : Nat := fo (e%32) (e/32)

-- the faces as rounds of nodes; fo is the face of a step from node to node
def yFs (n F : Nat) (H : Nat → Bool) (sz : Nat → Nat) (fc : Nat → Nat → Nat) (fo : Nat → Nat → Nat) : Prop :=
  (∀ f, f < F → 3 ≤ sz f ∧ (∀ k, k < sz f → fc f k < n) ∧ (∀ i j, i < sz f → j < sz f → fc f i = fc f j → i = j)) ∧
  (∀ f k, f < F → k < sz f → H (yIx (fc f k) (fc f ((k+1) % sz f))) = true ∧ fo (fc f k) (fc f ((k+1) % sz f)) = f) ∧
  (∀ a b, a < 32 → b < 32 → a ≠ b → H (yIx a b) = true → fo a b < F ∧ ∃ k, k < sz (fo a b) ∧ fc (fo a b) k = a ∧ fc (fo a b) ((k+1) % sz (fo a b)) = b) ∧
  (∀ e, e < 1024 → H e = true → e/32 < e%32)

theorem yIx_de {e : Nat} (h : e / 32 < e % 32) : yIx (e/32) (e%32) = e := by
  unfold yIx; rw [if_pos h]; omega

section
variable {n F : Nat} {H : Nat → Bool} {sz : Nat → Nat} {fc : Nat → Nat → Nat} {fo : Nat → Nat → Nat}

theorem yFs_Z (hn : n ≤ 21) (h : yFs n F H sz fc fo) (f : Nat) (hf : f < F) (e : Nat) (he : e < 1024) : yZ H (yS1 fo) (yT1 fo) f e = yCy (sz f) (fc f) e := by
  obtain ⟨h1, h2, h3, h4⟩ := h
  rw [Bool.eq_iff_iff, yZ_iff]
  unfold yCy
  rw [yD_iff]
  constructor
  · rintro ⟨hH, h5⟩
    have h6 := h4 e he hH
    have h7 := yIx_de h6
    rcases h5 with h5 | h5
    · have := (h3 (e/32) (e%32) (by omega) (by omega) (by omega) (by rw [h7]; exact hH)).2
      unfold yS1 at h5
      rw [h5] at this
      obtain ⟨k, hk, ha, hb⟩ := this
      exact ⟨k, hk, by rw [ha, hb, h7]⟩
    · have := (h3 (e%32) (e/32) (by omega) (by omega) (by omega) (by rw [yIx_comm, h7]; exact hH)).2
      unfold yT1 at h5
      rw [h5] at this
      obtain ⟨k, hk, ha, hb⟩ := this
      exact ⟨k, hk, by rw [ha, hb, yIx_comm, h7]⟩
  · rintro ⟨k, hk, hek⟩
    obtain ⟨h5, h6⟩ := h2 f k hf hk
    have hs := h1 f hf
    have hm : (k+1) % sz f < sz f := Nat.mod_lt _ (by omega)
    have ha := hs.2.1 k hk
    have hb := hs.2.1 _ hm
    have hne := yCy_ne hs.1 hs.2.2 k hk
    refine ⟨by rw [hek]; exact h5, ?_⟩
    by_cases hlt : fc f k < fc f ((k+1) % sz f)
    · left
      have := yIx_div (by omega : fc f ((k+1) % sz f) < 32) hlt
      unfold yS1; rw [hek, this.1, this.2]; exact h6
    · right
      have := yIx_div (by omega : fc f k < 32) (by omega : fc f ((k+1) % sz f) < fc f k)
      unfold yT1; rw [hek, yIx_comm, this.1, this.2]; exact h6

theorem yFs_ci (hn : n ≤ 21) (h : yFs n F H sz fc fo) (f : Nat) (hf : f < F) : yCi 1024 yI (yCy (sz f) (fc f)) := by
  have := h.1 f hf
  exact yCy_ci this.1 (fun i hi => by have := this.2.1 i hi; omega) this.2.2

theorem yFs_used (hn : n ≤ 21) (h : yFs n F H sz fc fo) (f : Nat) : yUsed 1024 H (yS1 fo) (yT1 fo) f ↔ f < F := by
  constructor
  · rintro ⟨e, he, hz⟩
    have hz' := (yZ_iff _ _ _ _ _).1 hz
    have h6 := h.2.2.2 e he hz'.1
    have h7 := yIx_de h6
    rcases hz'.2 with h5 | h5
    · rw [← h5]
      exact (h.2.2.1 (e/32) (e%32) (by omega) (by omega) (by omega) (by rw [h7]; exact hz'.1)).1
    · rw [← h5]
      exact (h.2.2.1 (e%32) (e/32) (by omega) (by omega) (by omega) (by rw [yIx_comm, h7]; exact hz'.1)).1
  · intro hf
    have h1 := h.1 f hf
    have ha := h1.2.1 0 (by omega)
    have hb := h1.2.1 ((0+1) % sz f) (Nat.mod_lt _ (by omega))
    refine ⟨yIx (fc f 0) (fc f ((0+1) % sz f)), yIx_lt (by omega) (by omega), ?_⟩
    rw [yFs_Z hn h f hf _ (yIx_lt (by omega) (by omega))]
    exact yD_pos ⟨0, by omega, rfl⟩

theorem yFs_on (hn : n ≤ 21) (h : yFs n F H sz fc fo) (f : Nat) (hf : f < F) (v : Nat) : yOn 1024 yI (yZ H (yS1 fo) (yT1 fo) f) v ↔ ∃ k, k < sz f ∧ fc f k = v := by
  have h1 := h.1 f hf
  have hlt : ∀ i, i < sz f → fc f i < 32 := fun i hi => by have := h1.2.1 i hi; omega
  have hm : ∀ i, (i+1) % sz f < sz f := fun i => Nat.mod_lt _ (by omega)
  constructor
  · rintro ⟨e, he, hz, hI⟩
    rw [yFs_Z hn h f hf e he] at hz
    obtain ⟨i, hi, hv⟩ := yCy_on h1.1 hlt h1.2.2 e v hz hI
    exact ⟨_, hm i, hv.symm⟩
  · rintro ⟨k, hk, hv⟩
    have he := yIx_lt (hlt k hk) (hlt _ (hm k))
    refine ⟨yIx (fc f k) (fc f ((k+1) % sz f)), he, ?_, ?_⟩
    · rw [yFs_Z hn h f hf _ he]; exact yD_pos ⟨k, hk, rfl⟩
    · rw [yI_iff (hlt k hk) (hlt _ (hm k)) (yCy_ne h1.1 h1.2.2 k hk)]; exact Or.inl hv.symm

theorem yFs_ne (h : yFs n F H sz fc fo) (e : Nat) (he : e < 1024) (hH : H e = true) : yS1 fo e ≠ yT1 fo e := by
  intro heq
  have h6 := h.2.2.2 e he hH
  have h7 := yIx_de h6
  obtain ⟨hf, k, hk, ha, hb⟩ := h.2.2.1 (e/32) (e%32) (by omega) (by omega) (by omega) (by rw [h7]; exact hH)
  obtain ⟨_, l, hl, hc, hd⟩ := h.2.2.1 (e%32) (e/32) (by omega) (by omega) (by omega) (by rw [yIx_comm, h7]; exact hH)
  unfold yS1 yT1 at heq
  rw [← heq] at hl hc hd
  generalize hfe : fo (e/32) (e%32) = f at *
  have h1 := h.1 f hf
  have hm : ∀ i, (i+1) % sz f < sz f := fun i => Nat.mod_lt _ (by omega)
  have e1 := h1.2.2 _ _ (hm k) hl (hb.trans hc.symm)
  have e2 := h1.2.2 _ _ (hm l) hk (hd.trans ha.symm)
  rcases Nat.lt_or_ge (k+1) (sz f) with c1 | c1
  · rw [Nat.mod_eq_of_lt c1] at e1
    rcases Nat.lt_or_ge (l+1) (sz f) with c2 | c2
    · rw [Nat.mod_eq_of_lt c2] at e2; omega
    · rw [show l + 1 = sz f by omega, Nat.mod_self] at e2; omega
  · rw [show k + 1 = sz f by omega, Nat.mod_self] at e1
    rw [← e1, Nat.mod_eq_of_lt (by omega)] at e2; omega
end

-- slots of an edge may be exchanged
theorem yDs_swap {m : Nat} {I : Nat → Nat → Bool} {X : Nat → Bool} {s t s' t' : Nat → Nat} (h : yDs m I X (fun _ => false) s t)
    (hst : ∀ e, e < m → X e = true → (s' e = s e ∧ t' e = t e) ∨ (s' e = t e ∧ t' e = s e)) : yDs m I X (fun _ => false) s' t' := by
  have key : ∀ (c : Nat → Bool) e, e < m → X e = true → Bool.xor (c (t e)) (!false && c (s e)) = Bool.xor (c (t' e)) (!false && c (s' e)) := by
    intro c e he hx
    rcases hst e he hx with ⟨a, b⟩ | ⟨a, b⟩
    · rw [a, b]
    · rw [a, b]; simp [Bool.xor_comm]
  constructor
  · intro c
    refine yEv_congr m I _ _ ?_ (h.1 c)
    intro e he
    dsimp only
    cases hx : X e with
    | false => simp
    | true => rw [key c e he hx]
  · intro y hy hev
    obtain ⟨c, hc⟩ := h.2 y hy hev
    exact ⟨c, fun e he hx => by rw [hc e he hx]; exact key c e he hx⟩

theorem yZ_swap {m : Nat} {H : Nat → Bool} {s t s' t' : Nat → Nat} (hst : ∀ e, e < m → H e = true → (s' e = s e ∧ t' e = t e) ∨ (s' e = t e ∧ t' e = s e))
    (f e : Nat) (he : e < m) : yZ H s' t' f e = yZ H s t f e := by
  unfold yZ
  cases hh : H e with
  | false => rfl
  | true =>
    rcases hst e he hh with ⟨a, b⟩ | ⟨a, b⟩
    · rw [a, b]
    · rw [a, b]; simp [Bool.or_comm]

theorem yDem_swap {m : Nat} {I : Nat → Nat → Bool} {G H : Nat → Bool} {s t s' t' as : Nat → Nat} (h : yDem m I G H s t as)
    (hst : ∀ e, e < m → H e = true → (s' e = s e ∧ t' e = t e) ∨ (s' e = t e ∧ t' e = s e)) : yDem m I G H s' t' as := by
  obtain ⟨h1, h2, h3, h4, h5, h6, h7, h8, h9, h10⟩ := h
  have hz := fun f e he => yZ_swap hst f e he
  have hu : ∀ f, yUsed m H s' t' f ↔ yUsed m H s t f := by
    intro f
    constructor
    · rintro ⟨e, he, h⟩; exact ⟨e, he, by rw [← hz f e he]; exact h⟩
    · rintro ⟨e, he, h⟩; exact ⟨e, he, by rw [hz f e he]; exact h⟩
  refine ⟨h1, yDs_swap h2 hst, ?_, h4, ?_, ?_, ?_, ?_, h9, h10⟩
  · intro e he hh
    rcases hst e he hh with ⟨a, b⟩ | ⟨a, b⟩
    · rw [a, b]; exact h3 e he hh
    · rw [a, b]; exact fun h => h3 e he hh h.symm
  · intro f hf
    exact yCi_congr (h5 f ((hu f).1 hf)) (fun e he => (hz f e he).symm)
  · intro f hf
    obtain ⟨L, s0, t0, hd⟩ := h6 f ((hu f).1 hf)
    refine ⟨L, s0, t0, ?_⟩
    exact yDs_congr2 hd _ _ (fun e he => by rw [hz f e he]) (fun e he => by rw [hz f e he])
  · intro e he hg hh; exact (hu _).2 (h7 e he hg hh)
  · intro e v he hg hh hI hv
    exact yOn_congr (h8 e v he hg hh hI hv) (fun d hd => (hz _ d hd).symm)

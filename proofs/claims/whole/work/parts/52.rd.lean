
theorem yn_jmod {a b : Nat} (ha : a < 2147483648) (hb : b < 2147483648) :
    Int32.ofNat a - Int32.ofNat a / Int32.ofNat b * Int32.ofNat b = Int32.ofNat (a % b) := by
  rw [yn_div ha hb, yn_mul, yn_sub (Nat.div_mul_le_self a b)]
  congr 1
  have h := Nat.div_add_mod a b
  rw [Nat.mul_comm] at h
  omega

-- the edges of a way (M of them)
def yWe (M L : Nat) (pn : Nat → Nat) (v w : Nat) : Prop :=
  ∃ k, k < M ∧ ((v = pn k ∧ w = pn ((k+1) % L)) ∨ (w = pn k ∧ v = pn ((k+1) % L)))
def yWo (M L : Nat) (pn : Nat → Nat) (w : Nat) : Prop := ∃ k, k < M ∧ (w = pn k ∨ w = pn ((k+1) % L))

theorem w9_joinL {L : Nat} (hL2 : 2 ≤ L) (hL : L ≤ 22) (pn : Nat → Nat) (pt : Nat → Int32) (hpt : ∀ k, k < L → pt k = Int32.ofNat (pn k)) (hpn : ∀ k, k < L → pn k < 21)
    (inH : Nat → Int32) (nH : Int32) (c M : Nat) (hM : (c = 0 ∧ M + 1 = L) ∨ (c = 1 ∧ M = L))
    (K : (Int32 × (Nat → Int32)) → Prop)
    (hK : ∀ inH' nH', (∀ v w, w < 32 → (yM (inH' v) w = true ↔ (yM (inH v) w = true ∨ yWe M L pn v w))) →
      (∀ w, w < 32 → (yM nH' w = true ↔ (yM nH w = true ∨ yWo M L pn w))) → K (nH', inH')) :
    ∀ d k inH' nH', M - k = d → k ≤ M → (∀ v w, w < 32 → (yM (inH' v) w = true ↔ (yM (inH v) w = true ∨ yWe k L pn v w))) →
      (∀ w, w < 32 → (yM nH' w = true ↔ (yM nH w = true ∨ yWo k L pn w))) →
      wLX9_joinPath_2 (Int32.ofNat L) pt (Int32.ofNat c) K (d+1) inH' nH' (Int32.ofNat k) := by
  intro d
  induction d with
  | zero =>
    intro k inH' nH' hd hk h1 h2
    have hkM : k = M := by omega
    have e1 : Int32.ofNat k + 1 = Int32.ofNat (k+1) := yn_add k 1
    unfold wLX9_joinPath_2
    rw [e1]
    refine ⟨fun hh => ?_, fun _ => ⟨fun _ => by rw [hkM] at h1 h2; exact hK _ _ h1 h2, fun hc => ⟨fun _ => by rw [hkM] at h1 h2; exact hK _ _ h1 h2, fun hh => ?_⟩⟩⟩
    · exfalso; rw [yn_lt (by omega) (by omega)] at hh; omega
    · exfalso; apply hh; rw [yn_le (by omega) (by omega)]
      rcases hM with h | h
      · exfalso; apply hc; rw [h.1]; rfl
      · omega
  | succ d ih =>
    intro k inH' nH' hd hk h1 h2
    have hkM : k < M := by omega
    have hML : M ≤ L := by omega
    have e1 : Int32.ofNat k + 1 = Int32.ofNat (k+1) := yn_add k 1
    have hk1 : (k+1) % L < L := Nat.mod_lt _ (by omega)
    have hpk := hpn k (by omega)
    have hpk1 := hpn _ hk1
    have body : (vp_in (Int32.ofNat k) 24 ∧ (∀ v30 : Int32, v30 = (pt (Int32.toNatClampNeg (Int32.ofNat k))) → (¬ Int32.ofNat L = 0 ∧ (vp_in (Int32.ofNat (k+1) - Int32.ofNat (k+1) / Int32.ofNat L * Int32.ofNat L) 24 ∧ (∀ v44 : Int32, v44 = (pt (Int32.toNatClampNeg (Int32.ofNat (k+1) - Int32.ofNat (k+1) / Int32.ofNat L * Int32.ofNat L))) → (vp_in v30 21 ∧ (vp_in v30 21 ∧ (∀ g58 : Nat → Int32, g58 = upd inH' (Int32.toNatClampNeg v30) ((inH' (Int32.toNatClampNeg v30)) ||| ((1 : Int32) <<< (v44 &&& 31))) → (vp_in v44 21 ∧ (vp_in v44 21 ∧ (∀ g71 : Nat → Int32, g71 = upd g58 (Int32.toNatClampNeg v44) ((g58 (Int32.toNatClampNeg v44)) ||| ((1 : Int32) <<< (v30 &&& 31))) → (∀ v86 : Int32, v86 = (nH' ||| (((1 : Int32) <<< (v30 &&& 31)) ||| ((1 : Int32) <<< (v44 &&& 31)))) → (wLX9_joinPath_2 (Int32.ofNat L) pt (Int32.ofNat c) K (d+1)) g71 v86 (Int32.ofNat (k+1)))))))))))))) := by
      rw [yn_jmod (by omega) (by omega), yn_nat (by omega), yn_nat (by omega), hpt k (by omega), hpt _ hk1]
      refine ⟨yn_in (by omega) (by omega), fun v30 h30 => ⟨?_, yn_in (by omega) (by omega), fun v44 h44 => ?_⟩⟩
      · intro h; have : L = 0 := (yn_inj (by omega) (by omega)).1 h; omega
      rw [h30, h44, yn_nat (by omega), yn_nat (by omega)]
      refine ⟨yn_in (by omega) (by omega), yn_in (by omega) (by omega), fun g58 h58 => ⟨yn_in (by omega) (by omega), yn_in (by omega) (by omega), fun g71 h71 v86 h86 => ?_⟩⟩
      have f71 : ∀ v w, w < 32 → (yM (g71 v) w = true ↔ (yM (inH' v) w = true ∨ ((v = pn k ∧ w = pn ((k+1) % L)) ∨ (w = pn k ∧ v = pn ((k+1) % L))))) := by
        intro v w hw
        rw [h71]
        by_cases ev : v = pn ((k+1) % L)
        · rw [ev, yupd_same, yM_or, yM_shl (by omega) w hw, h58]
          by_cases ew : pn ((k+1) % L) = pn k
          · rw [ew, yupd_same, yM_or, yM_shl (by omega) w hw]; simp
          · rw [yupd_ne _ _ _ _ ew]; simp [ew]
        · rw [yupd_ne _ _ _ _ ev, h58]
          by_cases ew : v = pn k
          · rw [ew, yupd_same, yM_or, yM_shl (by omega) w hw]; rw [ew] at ev; simp [ev]
          · rw [yupd_ne _ _ _ _ ew]; simp [ev, ew]
      refine ih (k+1) g71 v86 (by omega) (by omega) ?_ ?_
      · intro v w hw
        rw [f71 v w hw, h1 v w hw]
        constructor
        · rintro ((h | ⟨j, hj, h⟩) | h)
          · exact Or.inl h
          · exact Or.inr ⟨j, by omega, h⟩
          · exact Or.inr ⟨k, by omega, h⟩
        · rintro (h | ⟨j, hj, h⟩)
          · exact Or.inl (Or.inl h)
          · by_cases e : j = k
            · rw [e] at h; exact Or.inr h
            · exact Or.inl (Or.inr ⟨j, by omega, h⟩)
      · intro w hw
        rw [h86, yM_or, yM_or, yM_shl (by omega) w hw, yM_shl (by omega) w hw]
        simp only [Bool.or_eq_true, decide_eq_true_iff]
        rw [h2 w hw]
        constructor
        · rintro ((h | ⟨j, hj, h⟩) | h)
          · exact Or.inl h
          · exact Or.inr ⟨j, by omega, h⟩
          · exact Or.inr ⟨k, by omega, h⟩
        · rintro (h | ⟨j, hj, h⟩)
          · exact Or.inl (Or.inl h)
          · by_cases e : j = k
            · rw [e] at h; exact Or.inr h
            · exact Or.inl (Or.inr ⟨j, by omega, h⟩)
    unfold wLX9_joinPath_2
    rw [e1]
    refine ⟨fun _ => body, fun hh => ⟨fun hc => ?_, fun _ => ⟨fun hge => ?_, fun _ => body⟩⟩⟩
    · exfalso; rw [yn_lt (by omega) (by omega)] at hh
      rcases hM with h | h
      · omega
      · rw [h.1] at hc; exact absurd hc (by decide)
    · exfalso; rw [yn_le (by omega) (by omega)] at hge; omega

theorem w9_joinPath {L : Nat} (hL2 : 2 ≤ L) (hL : L ≤ 22) (pn : Nat → Nat) (pt : Nat → Int32) (hpt : ∀ k, k < L → pt k = Int32.ofNat (pn k)) (hpn : ∀ k, k < L → pn k < 21)
    (inH : Nat → Int32) (nH : Int32) (c M : Nat) (hM : (c = 0 ∧ M + 1 = L) ∨ (c = 1 ∧ M = L))
    (K : (Int32 × (Nat → Int32)) → Prop)
    (hK : ∀ inH' nH', (∀ v w, w < 32 → (yM (inH' v) w = true ↔ (yM (inH v) w = true ∨ yWe M L pn v w))) →
      (∀ w, w < 32 → (yM nH' w = true ↔ (yM nH w = true ∨ yWo M L pn w))) → K (nH', inH'))
    (i0 i1 i2 i3 i4 i6 i8 i9 i10 i11 i12 i13 i14 i15 i16 i17 : Int32) :
    wX9_joinPath i0 i1 i2 i3 i4 nH i6 (Int32.ofNat L) i8 i9 i10 i11 i12 i13 i14 i15 i16 i17 pt inH (Int32.ofNat c) K := by
  unfold wX9_joinPath
  refine ⟨M - 0 + 1, w9_joinL hL2 hL pn pt hpt hpn inH nH c M hM K hK (M - 0) 0 inH nH rfl (by omega) ?_ ?_⟩
  · intro v w _
    constructor
    · exact Or.inl
    · rintro (h | ⟨j, hj, _⟩)
      · exact h
      · omega
  · intro w _
    constructor
    · exact Or.inl
    · rintro (h | ⟨j, hj, _⟩)
      · exact h
      · omega

-- a node is put into a face
theorem w9_putFace {f k v : Nat} (hf : f < 120) (hk : k < 21) (fa fs fb : Nat → Int32) (K : ((Nat → Int32) × (Nat → Int32) × (Nat → Int32)) → Prop)
    (hK : K (upd fa (21 * f + k) (Int32.ofNat v), upd fs f (Int32.ofNat (k+1)), upd fb f (fb f ||| ((1 : Int32) <<< (Int32.ofNat v &&& 31)))))
    (i0 i1 i2 i3 i4 i5 i6 i7 i8 i9 i10 i11 i12 i13 i14 i15 i16 i17 : Int32) :
    wX9_putFace i0 i1 i2 i3 i4 i5 i6 i7 i8 i9 i10 i11 i12 i13 i14 i15 i16 i17 fa fs fb (Int32.ofNat f) (Int32.ofNat k) (Int32.ofNat v) K := by
  have e1 : (21 : Int32) * Int32.ofNat f + Int32.ofNat k = Int32.ofNat (21 * f + k) := by
    have : (21 : Int32) = Int32.ofNat 21 := rfl
    rw [this, yn_mul, yn_add]
  have e2 : Int32.ofNat k + 1 = Int32.ofNat (k+1) := yn_add k 1
  unfold wX9_putFace
  rw [e1, e2, yn_nat (by omega), yn_nat (by omega)]
  refine ⟨yn_in (by omega) (by omega), fun g1 h1 => ⟨yn_in (by omega) (by omega), fun g2 h2 => ⟨yn_in (by omega) (by omega), yn_in (by omega) (by omega), fun g3 h3 => ?_⟩⟩⟩
  rw [h1, h2, h3]; exact hK

-- isWhole
theorem w9_isWhole {n : Nat} (hn : n ≤ 21) (inH bk : Nat → Int32) (K : Int32 → Unit → Prop)
    (hK1 : (∀ v, v < n → inH v = bk v) → K 1 ()) (hK0 : (∃ v, v < n ∧ inH v ≠ bk v) → K 0 ())
    (i0 i1 i2 i4 i5 i6 i7 i8 i9 i10 i11 i12 i13 i14 i15 i16 i17 : Int32) :
    wX9_isWhole i0 i1 i2 (Int32.ofNat n) i4 i5 i6 i7 i8 i9 i10 i11 i12 i13 i14 i15 i16 i17 inH bk K := by
  have h0 : ∀ d v, n - v = d → v ≤ n → (∃ v, v < n ∧ inH v ≠ bk v) → wLX9_isWhole_4 (Int32.ofNat n) inH bk K (d+1) 0 (Int32.ofNat v) := by
    intro d
    induction d with
    | zero =>
      intro v hd hv hex
      unfold wLX9_isWhole_4
      refine ⟨fun _ => ⟨by rfl, hK0 hex⟩, fun hh => ?_⟩
      exfalso; apply hh; rw [yn_le (by omega) (by omega)]; omega
    | succ d ih =>
      intro v hd hv hex
      have e1 : Int32.ofNat v + 1 = Int32.ofNat (v+1) := yn_add v 1
      unfold wLX9_isWhole_4
      rw [e1]
      refine ⟨fun hh => ?_, fun _ => ⟨fun _ => ih (v+1) (by omega) (by omega) hex, fun hh => absurd rfl hh⟩⟩
      exfalso; rw [yn_le (by omega) (by omega)] at hh; omega
  have h1 : ∀ d v, n - v = d → v ≤ n → (∀ u, u < v → inH u = bk u) → wLX9_isWhole_4 (Int32.ofNat n) inH bk K (d+1) 1 (Int32.ofNat v) := by
    intro d
    induction d with
    | zero =>
      intro v hd hv hex
      unfold wLX9_isWhole_4
      refine ⟨fun _ => ⟨by rfl, hK1 (fun u hu => hex u (by omega))⟩, fun hh => ?_⟩
      exfalso; apply hh; rw [yn_le (by omega) (by omega)]; omega
    | succ d ih =>
      intro v hd hv hex
      have e1 : Int32.ofNat v + 1 = Int32.ofNat (v+1) := yn_add v 1
      unfold wLX9_isWhole_4
      rw [e1, yn_nat (by omega)]
      refine ⟨fun hh => ?_, fun _ => ⟨fun hh => absurd hh (by decide), fun _ => ⟨yn_in (by omega) (by omega), yn_in (by omega) (by omega), fun hne => ?_, fun he => ?_⟩⟩⟩
      · exfalso; rw [yn_le (by omega) (by omega)] at hh; omega
      · exact h0 d (v+1) (by omega) (by omega) ⟨v, by omega, hne⟩
      · refine ih (v+1) (by omega) (by omega) ?_
        intro u hu
        by_cases e : u = v
        · rw [e]; exact he
        · exact hex u (by omega)
  unfold wX9_isWhole
  exact ⟨n - 0 + 1, h1 (n-0) 0 rfl (by omega) (fun u hu => by omega)⟩

-- whether a face takes all of ends
def yAd (x ends : Int32) : Bool := decide ((x &&& ends) = ends)

theorem yAd_iff (x ends : Int32) : yAd x ends = true ↔ ∀ w, w < 32 → yM ends w = true → yM x w = true := by
  unfold yAd
  rw [decide_eq_true_iff]
  constructor
  · intro h w hw he
    have : yM (x &&& ends) w = true := by rw [h]; exact he
    rw [yM_and] at this
    cases hx : yM x w with
    | true => rfl
    | false => rw [hx] at this; exact absurd this (by simp)
  · intro h
    apply yM_ext
    intro w hw
    rw [yM_and]
    cases he : yM ends w with
    | false => simp
    | true => rw [h w hw he]; rfl

theorem w9_offer {F : Nat} (hF : F ≤ 120) (fb : Nat → Int32) (ends over be bo : Int32) (bf : Nat) (hbf : bf ≤ 1000) (K : (Int32 × Int32 × Int32) → Prop)
    (hK1 : yNb F (fun f => yAd (fb f) ends) < bf → K (ends, over, Int32.ofNat (yNb F (fun f => yAd (fb f) ends))))
    (hK0 : bf ≤ yNb F (fun f => yAd (fb f) ends) → K (be, bo, Int32.ofNat bf))
    (i0 i1 i2 i3 i4 i5 i7 i11 i12 i13 i14 i15 i16 i17 : Int32) :
    wX9_offer i0 i1 i2 i3 i4 i5 (Int32.ofNat F) i7 be bo (Int32.ofNat bf) i11 i12 i13 i14 i15 i16 i17 fb ends over K := by
  have hle : ∀ m p, yNb m p ≤ m := by
    intro m p
    induction m with
    | zero => simp [yNb]
    | succ m ih => simp only [yNb]; split <;> omega
  have h5 : ∀ d f, F - f = d → f ≤ F → wLX9_offer_5 (Int32.ofNat F) be bo (Int32.ofNat bf) fb ends over K (d+1) (Int32.ofNat (yNb f (fun f => yAd (fb f) ends))) (Int32.ofNat f) := by
    intro d
    induction d with
    | zero =>
      intro f hd hf
      have hfF : f = F := by omega
      have := hle F (fun f => yAd (fb f) ends)
      unfold wLX9_offer_5
      rw [hfF]
      refine ⟨fun _ => ⟨fun hh => ?_, fun hh => ?_⟩, fun hh => ?_⟩
      · rw [yn_le (by omega) (by omega)] at hh; exact hK0 hh
      · rw [yn_le (by omega) (by omega)] at hh; exact hK1 (by omega)
      · exfalso; apply hh; rw [yn_le (by omega) (by omega)]; omega
    | succ d ih =>
      intro f hd hf
      have e1 : Int32.ofNat f + 1 = Int32.ofNat (f+1) := yn_add f 1
      have h := ih (f+1) (by omega) (by omega)
      simp only [yNb] at h
      unfold wLX9_offer_5
      rw [e1, yn_nat (by omega)]
      refine ⟨fun hh => ?_, fun _ => ⟨yn_in (by omega) (by omega), fun hne v34 h34 => ?_, fun he v34 h34 => ?_⟩⟩
      · exfalso; rw [yn_le (by omega) (by omega)] at hh; omega
      · have : yAd (fb f) ends = false := by unfold yAd; exact decide_eq_false hne
        simp only [this] at h
        rw [h34, Int32.add_zero]; simpa using h
      · have : yAd (fb f) ends = true := by unfold yAd; exact decide_eq_true he
        simp only [this] at h
        have e2 : Int32.ofNat (yNb f (fun f => yAd (fb f) ends)) + 1 = Int32.ofNat (yNb f (fun f => yAd (fb f) ends) + 1) := yn_add _ 1
        rw [h34, e2]; simpa using h
  unfold wX9_offer
  exact ⟨F - 0 + 1, h5 (F-0) 0 rfl (by omega)⟩

section
variable {n : Nat} {bk : Nat → Int32} {nH : Int32}

theorem yRe_refl (v : Nat) : yRe n bk nH v v := fun _ h _ => h
theorem yRe_step {v p q : Nat} (h : yRe n bk nH v p) (hp : p < n) (hq : q < 32) (hb : yM (bk p) q = true) (hn : yM nH q = false) : yRe n bk nH v q :=
  fun U hU hc => hc p q hp hq (h U hU hc) hb hn
theorem yRe_trans {u v w : Nat} (h : yRe n bk nH u v) (h2 : yRe n bk nH v w) : yRe n bk nH u w :=
  fun U hU hc => h2 U (h U hU hc) hc
theorem yRe_off {v y : Nat} (hv : yM nH v = false) (h : yRe n bk nH v y) : yM nH y = false :=
  h (fun z => yM nH z = false) hv (fun _ _ _ _ _ _ hn => hn)
theorem yRe_lt (hg : ∀ v w, yGm n bk v w = true → v < n ∧ w < n ∧ v ≠ w) {v y : Nat} (hv : v < n) (h : yRe n bk nH v y) : y < n :=
  h (fun z => z < n) hv (fun p q hp _ _ hb _ => (hg p q (by unfold yGm; rw [decide_eq_true hp, hb]; rfl)).2.1)
theorem yRe_symm (hn : n ≤ 21) (hg : ∀ v w, yGm n bk v w = true → v < n ∧ w < n ∧ v ≠ w) (hs : ∀ v w, yGm n bk v w = yGm n bk w v)
    {u v : Nat} (hu : yM nH u = false) (h : yRe n bk nH u v) : yRe n bk nH v u := by
  have := h (fun z => yRe n bk nH z u ∧ yM nH z = false) ⟨yRe_refl u, hu⟩ (by
    intro p q hp hq hU hb hnq
    refine ⟨?_, hnq⟩
    have h1 : yGm n bk p q = true := by unfold yGm; rw [decide_eq_true hp, hb]; rfl
    have h2 := hg p q h1
    rw [hs p q] at h1
    have h3 : yM (bk q) p = true := by
      unfold yGm at h1
      rw [decide_eq_true h2.2.1] at h1
      simpa using h1
    exact yRe_trans (yRe_step (yRe_refl q) h2.2.1 (by omega) h3 hU.2) hU.1)
  exact this.1
end

-- the ends of a part
def yEo (n : Nat) (bk : Nat → Int32) (nH : Int32) (v : Nat) (ends : Int32) : Prop :=
  ∀ w, w < 32 → (yM ends w = true ↔ (yM nH w = true ∧ ∃ y, y < n ∧ yRe n bk nH v y ∧ yM (bk y) w = true))
def yCnt (F : Nat) (fb : Nat → Int32) (ends : Int32) : Nat := yNb F (fun f => yAd (fb f) ends)
def yChd (n : Nat) (bk inH : Nat → Int32) (nH : Int32) (a b : Nat) : Prop :=
  a < b ∧ b < n ∧ yM nH a = true ∧ yM nH b = true ∧ yM (bk a) b = true ∧ yM (inH a) b = false
def yBit2 (a b : Nat) (x : Int32) : Prop := ∀ w, w < 32 → (yM x w = true ↔ (w = a ∨ w = b))
-- what was found
def yBst (n F : Nat) (fb bk inH : Nat → Int32) (nH be bo : Int32) (bf : Nat) : Prop :=
  (bf = 1000 ∨ (bo = 0 ∧ bf = yCnt F fb be ∧ ∃ a b, yChd n bk inH nH a b ∧ yBit2 a b be) ∨
   (∃ v, v < n ∧ yM nH v = false ∧ bk v ≠ 0 ∧ (∀ y, y < 32 → (yM bo y = true ↔ yRe n bk nH v y)) ∧ yEo n bk nH v be ∧ bf = yCnt F fb be))

theorem yEo_uniq {n : Nat} {bk : Nat → Int32} {nH : Int32} {v v' : Nat} {e e' : Int32} (h : yEo n bk nH v e) (h' : yEo n bk nH v' e')
    (hv : ∀ y, yRe n bk nH v y ↔ yRe n bk nH v' y) : e = e' := by
  apply yM_ext
  intro w hw
  rw [Bool.eq_iff_iff, h w hw, h' w hw]
  constructor
  · rintro ⟨h1, y, h2, h3, h4⟩; exact ⟨h1, y, h2, (hv y).1 h3, h4⟩
  · rintro ⟨h1, y, h2, h3, h4⟩; exact ⟨h1, y, h2, (hv y).2 h3, h4⟩

theorem yBit2_uniq {a b : Nat} {e e' : Int32} (h : yBit2 a b e) (h' : yBit2 a b e') : e = e' := by
  apply yM_ext; intro w hw; rw [Bool.eq_iff_iff, h w hw, h' w hw]

theorem yCnt_le (F : Nat) (fb : Nat → Int32) (e : Int32) : yCnt F fb e ≤ F := yNb_le F _

section
variable {n F : Nat} {bk inH fb : Nat → Int32} {nH : Int32}

theorem w9_fp162 (hn : n ≤ 21) (v : Nat) (old : Int32) (ends0 : Int32) (K : (Int32 × Int32 × Int32) → Prop) (B : Int32 → Int32 → Int32 → Prop)
    (hB : ∀ part ends, (∀ y, y < 32 → yM old y = true → yM part y = true) → (∀ y, y < 32 → yM part y = true → yRe n bk nH v y) →
      (∀ p q, p < n → q < 32 → yM old p = true → yM (bk p) q = true → (yM nH q = false → yM part q = true) ∧ (yM nH q = true → yM ends q = true)) →
      (∀ w, w < 32 → yM ends0 w = true → yM ends w = true) →
      (∀ w, w < 32 → yM ends w = true → (yM nH w = true ∧ ∃ y, y < n ∧ yRe n bk nH v y ∧ yM (bk y) w = true)) → B part old ends) :
    ∀ d x part ends, n - x = d → x ≤ n → (∀ y, y < 32 → yM old y = true → yM part y = true) → (∀ y, y < 32 → yM part y = true → yRe n bk nH v y) →
      (∀ p q, p < x → q < 32 → yM old p = true → yM (bk p) q = true → (yM nH q = false → yM part q = true) ∧ (yM nH q = true → yM ends q = true)) →
      (∀ w, w < 32 → yM ends0 w = true → yM ends w = true) →
      (∀ w, w < 32 → yM ends w = true → (yM nH w = true ∧ ∃ y, y < n ∧ yRe n bk nH v y ∧ yM (bk y) w = true)) →
      wLX9_findPiece_162 (Int32.ofNat n) nH bk old K B (d+1) part ends (Int32.ofNat x) := by
  intro d
  induction d with
  | zero =>
    intro x part ends hd hx h1 h2 h3 h4 h5
    have : x = n := by omega
    subst this
    unfold wLX9_findPiece_162
    refine ⟨fun _ => hB part ends h1 h2 h3 h4 h5, fun hh => ?_⟩
    exfalso; apply hh; rw [yn_le (by omega) (by omega)]; omega
  | succ d ih =>
    intro x part ends hd hx h1 h2 h3 h4 h5
    have hxn : x < n := by omega
    have e1 : Int32.ofNat x + 1 = Int32.ofNat (x+1) := yn_add x 1
    unfold wLX9_findPiece_162
    rw [e1, yM_test (by omega : x < 32), yn_nat (by omega)]
    refine ⟨fun hh => ?_, fun _ => ⟨fun hne => ?_, fun he => ⟨yn_in (by omega) (by omega), fun v197 h197 => ⟨yn_in (by omega) (by omega), fun v213 h213 => ?_⟩⟩⟩⟩
    · exfalso; rw [yn_le (by omega) (by omega)] at hh; omega
    · refine ih (x+1) part ends (by omega) (by omega) h1 h2 ?_ h4 h5
      intro p q hp hq ho hb
      by_cases e : p = x
      · rw [e] at ho
        rw [h1 x (by omega) ho] at hne; exact absurd rfl hne
      · exact h3 p q (by omega) hq ho hb
    · have hpx : yM part x = true := by
        cases hh : yM part x with
        | true => rfl
        | false => rw [hh] at he; exact absurd he (by decide)
      have hpart : ∀ y, y < 32 → (yM v197 y = true ↔ (yM part y = true ∨ (yM (bk x) y = true ∧ yM nH y = false))) := by
        intro y hy
        rw [h197, yM_or, yM_and, yM_not _ _ hy]
        cases yM part y <;> cases yM (bk x) y <;> cases yM nH y <;> simp
      have hends : ∀ y, y < 32 → (yM v213 y = true ↔ (yM ends y = true ∨ (yM (bk x) y = true ∧ yM nH y = true))) := by
        intro y hy
        rw [h213, yM_or, yM_and]
        cases yM ends y <;> cases yM (bk x) y <;> cases yM nH y <;> simp
      refine ih (x+1) v197 v213 (by omega) (by omega) (fun y hy ho => (hpart y hy).2 (Or.inl (h1 y hy ho))) ?_ ?_ (fun w hw ho => (hends w hw).2 (Or.inl (h4 w hw ho))) ?_
      · intro y hy hp
        rcases (hpart y hy).1 hp with h | h
        · exact h2 y hy h
        · exact yRe_step (h2 x (by omega) hpx) hxn hy h.1 h.2
      · intro p q hp hq ho hb
        by_cases e : p = x
        · rw [e] at hb
          exact ⟨fun h => (hpart q hq).2 (Or.inr ⟨hb, h⟩), fun h => (hends q hq).2 (Or.inr ⟨hb, h⟩)⟩
        · have := h3 p q (by omega) hq ho hb
          exact ⟨fun h => (hpart q hq).2 (Or.inl (this.1 h)), fun h => (hends q hq).2 (Or.inl (this.2 h))⟩
      · intro w hw he'
        rcases (hends w hw).1 he' with h | h
        · exact h5 w hw h
        · exact ⟨h.2, x, hxn, h2 x (by omega) hpx, h.1⟩

theorem w9_fp150 (hn : n ≤ 21) (v : Nat) (hv : v < n) (t0 t1 t2 t3 t4 : Int32) (K : (Int32 × Int32 × Int32) → Prop) (B : Int32 → Int32 → Int32 → Int32 → Int32 → Prop)
    (i0 i1 i2 i4 i6 i7 i11 i12 i13 i14 i15 i16 i17 : Int32)
    (hB : ∀ part ends, (∀ y, y < 32 → (yM part y = true ↔ yRe n bk nH v y)) → yEo n bk nH v ends →
      (∀ v227 : Int32, v227 = (t3 ||| part) → (wX9_offer i0 i1 i2 (Int32.ofNat n) i4 nH i6 i7 t0 t1 t2 i11 i12 i13 i14 i15 i16 i17 fb ends part (fun u232 => B (u232.1) (u232.2.1) (u232.2.2) v227 (t4 + 1))))) :
    ∀ d part old ends, 32 - yNb 32 (yM part) ≤ d → yM part v = true → (∀ y, y < 32 → yM part y = true → yRe n bk nH v y) →
      (part = old → ∀ p q, p < n → q < 32 → yM part p = true → yM (bk p) q = true → (yM nH q = false → yM part q = true) ∧ (yM nH q = true → yM ends q = true)) →
      (∀ y, y < 32 → yM old y = true → yM part y = true) →
      (∀ w, w < 32 → yM ends w = true → (yM nH w = true ∧ ∃ y, y < n ∧ yRe n bk nH v y ∧ yM (bk y) w = true)) →
      wLX9_findPiece_150 i0 i1 i2 (Int32.ofNat n) i4 nH i6 i7 i11 i12 i13 i14 i15 i16 i17 bk fb t0 t1 t2 t3 t4 K B (d+2) part old ends := by
  have h0eq : (0 : Int32) = Int32.ofNat 0 := rfl
  have hfin : ∀ part ends, yM part v = true → (∀ y, y < 32 → yM part y = true → yRe n bk nH v y) →
      (∀ p q, p < n → q < 32 → yM part p = true → yM (bk p) q = true → (yM nH q = false → yM part q = true) ∧ (yM nH q = true → yM ends q = true)) →
      (∀ w, w < 32 → yM ends w = true → (yM nH w = true ∧ ∃ y, y < n ∧ yRe n bk nH v y ∧ yM (bk y) w = true)) →
      (∀ y, y < 32 → (yM part y = true ↔ yRe n bk nH v y)) ∧ yEo n bk nH v ends := by
    intro part ends h1 h2 h3 h4
    have hre : ∀ y, y < 32 → yRe n bk nH v y → yM part y = true := by
      intro y hy hr
      have : y < 32 → yM part y = true := hr (fun z => z < 32 → yM part z = true) (fun _ => h1) (fun p q hp hq hu hf hw _ => (h3 p q hp hq (hu (by omega)) hf).1 hw)
      exact this hy
    refine ⟨fun y hy => ⟨h2 y hy, hre y hy⟩, fun w hw => ⟨h4 w hw, ?_⟩⟩
    rintro ⟨h5, y, hy, hr, hb⟩
    exact (h3 y w hy hw (hre y (by omega) hr) hb).2 h5
  intro d
  induction d with
  | zero =>
    intro part old ends hd h1 h2 h3 h4 h5
    unfold wLX9_findPiece_150
    refine ⟨fun he => ?_, fun hne => ⟨n+1, ?_⟩⟩
    · have := hfin part ends h1 h2 (h3 he.symm) h5
      exact hB part ends this.1 this.2
    rw [h0eq]
    refine w9_fp162 hn v part ends K _ ?_ n 0 part ends (by omega) (by omega) (fun y _ h => h) h2 (fun p q hp => by omega) (fun _ _ h => h) h5
    intro part' ends' k1 k2 k3 k4 k5
    have hall : ∀ y, y < 32 → yM part y = true := by
      intro y hy
      cases hb : yM part y with
      | true => rfl
      | false =>
        exfalso
        have := yNb_strict 32 (yM part) (fun _ => true) y hy hb rfl (fun _ _ _ => rfl)
        have h5 := yNb_le 32 (fun _ : Nat => true)
        omega
    have heq : part' = part := yM_ext (fun y hy => by rw [hall y hy, k1 y hy (hall y hy)])
    rw [heq] at k1 k2 k3 ⊢
    unfold wLX9_findPiece_150
    refine ⟨fun _ => ?_, fun hh => absurd rfl hh⟩
    have := hfin part ends' h1 h2 k3 k5
    exact hB part ends' this.1 this.2
  | succ d ih =>
    intro part old ends hd h1 h2 h3 h4 h5
    unfold wLX9_findPiece_150
    refine ⟨fun he => ?_, fun hne => ⟨n+1, ?_⟩⟩
    · have := hfin part ends h1 h2 (h3 he.symm) h5
      exact hB part ends this.1 this.2
    rw [h0eq]
    refine w9_fp162 hn v part ends K _ ?_ n 0 part ends (by omega) (by omega) (fun y _ h => h) h2 (fun p q hp => by omega) (fun _ _ h => h) h5
    intro part' ends' k1 k2 k3 k4 k5
    by_cases he : part' = part
    · rw [he] at k1 k2 k3 ⊢
      unfold wLX9_findPiece_150
      refine ⟨fun _ => ?_, fun hh => absurd rfl hh⟩
      have := hfin part ends' h1 h2 k3 k5
      exact hB part ends' this.1 this.2
    · have hex : ∃ y, y < 32 ∧ yM part y = false ∧ yM part' y = true := by
        by_cases hc : ∃ y, y < 32 ∧ yM part y = false ∧ yM part' y = true
        · exact hc
        · exfalso; apply he
          apply yM_ext
          intro y hy
          cases hb : yM part y with
          | true => exact k1 y hy hb
          | false =>
            cases hb' : yM part' y with
            | false => rfl
            | true => exact absurd ⟨y, hy, hb, hb'⟩ hc
      obtain ⟨y, hy, hb, hb'⟩ := hex
      have hlt := yNb_strict 32 (yM part) (yM part') y hy hb hb' (fun i hi => k1 i hi)
      have h6 := yNb_le 32 (yM part')
      exact ih part' part ends' (by omega) (k1 v (by omega) h1) k2 (fun hq => absurd hq he) k1 k5

-- the parts
theorem w9_fp111 (hn : n ≤ 21) (hF : F ≤ 120) (hg : ∀ v w, yGm n bk v w = true → v < n ∧ w < n ∧ v ≠ w) (hs : ∀ v w, yGm n bk v w = yGm n bk w v)
    (K : (Int32 × Int32 × Int32) → Prop) (i0 i1 i2 i4 i7 i11 i12 i13 i14 i15 i16 i17 : Int32)
    (hK : ∀ be bo bf, bf ≤ 1000 → yBst n F fb bk inH nH be bo bf → (∀ a b e, yChd n bk inH nH a b → yBit2 a b e → bf ≤ yCnt F fb e) →
      (∀ v e, v < n → yM nH v = false → bk v ≠ 0 → yEo n bk nH v e → bf ≤ yCnt F fb e) → K (be, bo, Int32.ofNat bf)) :
    ∀ d v be bo bf seen, n - v = d → v ≤ n → bf ≤ 1000 → yBst n F fb bk inH nH be bo bf → (∀ a b e, yChd n bk inH nH a b → yBit2 a b e → bf ≤ yCnt F fb e) →
      (∀ u e, u < v → yM nH u = false → bk u ≠ 0 → yEo n bk nH u e → bf ≤ yCnt F fb e) →
      (∀ w, w < 32 → (yM seen w = true ↔ (yM nH w = true ∨ ∃ u, u < v ∧ yM nH u = false ∧ bk u ≠ 0 ∧ yRe n bk nH u w))) →
      wLX9_findPiece_111 i0 i1 i2 (Int32.ofNat n) i4 nH (Int32.ofNat F) i7 i11 i12 i13 i14 i15 i16 i17 bk fb K (d+1) be bo (Int32.ofNat bf) seen (Int32.ofNat v) := by
  have h0eq : (0 : Int32) = Int32.ofNat 0 := rfl
  intro d
  induction d with
  | zero =>
    intro v be bo bf seen hd hv hbf hB hc hp hsn
    unfold wLX9_findPiece_111
    refine ⟨fun _ => hK be bo bf hbf hB hc (fun u e hu => hp u e (by omega)), fun hh => ?_⟩
    exfalso; apply hh; rw [yn_le (by omega) (by omega)]; omega
  | succ d ih =>
    intro v be bo bf seen hd hv hbf hB hc hp hsn
    have hvn : v < n := by omega
    have e1 : Int32.ofNat v + 1 = Int32.ofNat (v+1) := yn_add v 1
    unfold wLX9_findPiece_111
    rw [e1, yM_test (by omega : v < 32), yn_nat (by omega)]
    refine ⟨fun hh => ?_, fun _ => ⟨yn_in (by omega) (by omega), fun hz => ?_, fun hnz => ⟨fun hns v143 h143 => ?_, fun hse => ?_⟩⟩⟩
    · exfalso; rw [yn_le (by omega) (by omega)] at hh; omega
    · refine ih (v+1) be bo bf seen (by omega) (by omega) hbf hB hc ?_ ?_
      · intro u e hu h1 h2 h3
        by_cases e' : u = v
        · rw [e'] at h2; exact absurd hz h2
        · exact hp u e (by omega) h1 h2 h3
      · intro w hw
        rw [hsn w hw]
        constructor
        · rintro (h | ⟨u, hu, h⟩)
          · exact Or.inl h
          · exact Or.inr ⟨u, by omega, h⟩
        · rintro (h | ⟨u, hu, h⟩)
          · exact Or.inl h
          · by_cases e' : u = v
            · rw [e'] at h; exact absurd hz h.2.1
            · exact Or.inr ⟨u, by omega, h⟩
    · have hsv : yM seen v = false := by
        cases hh : yM seen v with
        | false => rfl
        | true => rw [hh] at hns; exact absurd rfl hns
      have hnv : yM nH v = false := by
        cases hh : yM nH v with
        | false => rfl
        | true => rw [(hsn v (by omega)).2 (Or.inl hh)] at hsv; cases hsv
      have hbit : ∀ y, y < 32 → (yM v143 y = true ↔ y = v) := by
        intro y hy
        rw [h143, yM_shl (by omega) y hy, decide_eq_true_iff]
      refine ⟨32 + 2, w9_fp150 hn v hvn _ _ _ _ _ K _ i0 i1 i2 i4 _ i7 i11 i12 i13 i14 i15 i16 i17 ?_ 32 v143 0 0 (by omega) ((hbit v (by omega)).2 rfl) ?_ ?_ ?_ ?_⟩
      · intro part ends hpart hends v227 h227
        have hsn' : ∀ w, w < 32 → (yM v227 w = true ↔ (yM nH w = true ∨ ∃ u, u < v + 1 ∧ yM nH u = false ∧ bk u ≠ 0 ∧ yRe n bk nH u w)) := by
          intro w hw
          rw [h227, yM_or, Bool.or_eq_true, hsn w hw, hpart w hw]
          constructor
          · rintro ((h | ⟨u, hu, h⟩) | h)
            · exact Or.inl h
            · exact Or.inr ⟨u, by omega, h⟩
            · exact Or.inr ⟨v, by omega, hnv, hnz, h⟩
          · rintro (h | ⟨u, hu, h⟩)
            · exact Or.inl (Or.inl h)
            · by_cases e' : u = v
              · rw [e'] at h; exact Or.inr h.2.2
              · exact Or.inl (Or.inr ⟨u, by omega, h⟩)
        refine w9_offer hF fb ends part be bo bf hbf _ ?_ ?_ i0 i1 i2 _ i4 _ i7 i11 i12 i13 i14 i15 i16 i17
        · intro hlt
          have hle := yCnt_le F fb ends
          have hlt' : yCnt F fb ends < bf := hlt
          rw [e1]
          refine ih (v+1) ends part (yCnt F fb ends) v227 (by omega) (by omega) (by omega) (Or.inr (Or.inr ⟨v, hvn, hnv, hnz, hpart, hends, rfl⟩)) (fun a b e h1 h2 => Nat.le_trans (Nat.le_of_lt hlt') (hc a b e h1 h2)) ?_ hsn'
          intro u e hu h1 h2 h3
          by_cases e' : u = v
          · rw [e'] at h3; rw [yEo_uniq h3 hends (fun y => Iff.rfl)]; exact Nat.le_refl _
          · exact Nat.le_trans (Nat.le_of_lt hlt') (hp u e (by omega) h1 h2 h3)
        · intro hle
          rw [e1]
          refine ih (v+1) be bo bf v227 (by omega) (by omega) hbf hB hc ?_ hsn'
          intro u e hu h1 h2 h3
          by_cases e' : u = v
          · rw [e'] at h3; rw [yEo_uniq h3 hends (fun y => Iff.rfl)]; exact hle
          · exact hp u e (by omega) h1 h2 h3
      · intro y hy h
        rw [(hbit y hy).1 h]
        exact yRe_refl v
      · intro he
        exfalso
        have := (hbit v (by omega)).2 rfl
        rw [he, yM_zero] at this; cases this
      · intro y _ h; rw [yM_zero] at h; cases h
      · intro y _ h; rw [yM_zero] at h; cases h
    · have hsv : yM seen v = true := by
        cases hh : yM seen v with
        | true => rfl
        | false => rw [hh] at hse; exact absurd hse (by decide)
      refine ih (v+1) be bo bf seen (by omega) (by omega) hbf hB hc ?_ ?_
      · intro u e hu h1 h2 h3
        by_cases e' : u = v
        · rw [e'] at h1 h2 h3
          rcases (hsn v (by omega)).1 hsv with h | ⟨w, hw, h4, h5, h6⟩
          · rw [h1] at h; cases h
          · have h7 := yRe_symm hn hg hs h4 h6
            have h8 : yEo n bk nH w e := by
              intro x hx
              rw [h3 x hx]
              constructor
              · rintro ⟨k1, y, k2, k3, k4⟩; exact ⟨k1, y, k2, yRe_trans h6 k3, k4⟩
              · rintro ⟨k1, y, k2, k3, k4⟩; exact ⟨k1, y, k2, yRe_trans h7 k3, k4⟩
            exact hp w e hw h4 h5 h8
        · exact hp u e (by omega) h1 h2 h3
      · intro w hw
        rw [hsn w hw]
        constructor
        · rintro (h | ⟨u, hu, h⟩)
          · exact Or.inl h
          · exact Or.inr ⟨u, by omega, h⟩
        · rintro (h | ⟨u, hu, h⟩)
          · exact Or.inl h
          · by_cases e' : u = v
            · rw [e'] at h
              rcases (hsn v (by omega)).1 hsv with h9 | ⟨x, hx, h4, h5, h6⟩
              · rw [h.1] at h9; cases h9
              · exact Or.inr ⟨x, hx, h4, h5, yRe_trans h6 h.2.2⟩
            · exact Or.inr ⟨u, by omega, h⟩
end

section
variable {n F : Nat} {bk inH fb : Nat → Int32} {nH : Int32}

theorem w9_fp21 (hn : n ≤ 21) (hF : F ≤ 120) (a : Nat) (ha : a < n) (K : (Int32 × Int32 × Int32) → Prop) (B : Int32 → Int32 → Int32 → Int32 → Prop)
    (i0 i1 i2 i4 i7 i11 i12 i13 i14 i15 i16 i17 : Int32)
    (hB : ∀ be bo bf, bf ≤ 1000 → yBst n F fb bk inH nH be bo bf → (∀ x y e, x < a + 1 → yChd n bk inH nH x y → yBit2 x y e → bf ≤ yCnt F fb e) → B be bo (Int32.ofNat bf) (Int32.ofNat (a+1))) :
    ∀ d b be bo bf, n - b = d → b ≤ n → bf ≤ 1000 → yBst n F fb bk inH nH be bo bf →
      (∀ x y e, (x < a ∨ (x = a ∧ y < b)) → yChd n bk inH nH x y → yBit2 x y e → bf ≤ yCnt F fb e) → a < b →
      wLX9_findPiece_21 i0 i1 i2 (Int32.ofNat n) i4 nH (Int32.ofNat F) i7 i11 i12 i13 i14 i15 i16 i17 bk fb inH (Int32.ofNat a) K B (d+1) be bo (Int32.ofNat bf) (Int32.ofNat b) := by
  have e0 : Int32.ofNat a + 1 = Int32.ofNat (a+1) := yn_add a 1
  intro d
  induction d with
  | zero =>
    intro b be bo bf hd hb hbf hS hc hab
    unfold wLX9_findPiece_21
    rw [e0]
    refine ⟨fun _ => hB be bo bf hbf hS ?_, fun hh => ?_⟩
    · intro x y e hx hxy
      have := hxy.2.1
      exact hc x y e (by omega) hxy
    · exfalso; apply hh; rw [yn_le (by omega) (by omega)]; omega
  | succ d ih =>
    intro b be bo bf hd hb hbf hS hc hab
    have hbn : b < n := by omega
    have e1 : Int32.ofNat b + 1 = Int32.ofNat (b+1) := yn_add b 1
    have hskip : (¬ yChd n bk inH nH a b) →
        wLX9_findPiece_21 i0 i1 i2 (Int32.ofNat n) i4 nH (Int32.ofNat F) i7 i11 i12 i13 i14 i15 i16 i17 bk fb inH (Int32.ofNat a) K B (d+1) be bo (Int32.ofNat bf) (Int32.ofNat (b+1)) := by
      intro hno
      refine ih (b+1) be bo bf (by omega) (by omega) hbf hS ?_ (by omega)
      intro x y e hxy hch
      by_cases e' : x = a ∧ y = b
      · rw [e'.1, e'.2] at hch; exact absurd hch hno
      · exact hc x y e (by omega) hch
    have hb1 : ∀ (x : Int32) k, k < 32 → ¬ (if yM x k = true then (1 : Int32) else 0) = 1 → yM x k = false := by
      intro x k _ h
      cases hh : yM x k with
      | false => rfl
      | true => rw [hh] at h; exact absurd rfl h
    have hb2 : ∀ (x : Int32) k, k < 32 → (if yM x k = true then (1 : Int32) else 0) = 1 → yM x k = true := by
      intro x k _ h
      cases hh : yM x k with
      | true => rfl
      | false => rw [hh] at h; exact absurd h (by decide)
    have hb3 : ∀ (x : Int32) k, k < 32 → ¬ (if yM x k = true then (1 : Int32) else 0) = 0 → yM x k = true := by
      intro x k _ h
      cases hh : yM x k with
      | true => rfl
      | false => rw [hh] at h; exact absurd rfl h
    have hb4 : ∀ (x : Int32) k, k < 32 → (if yM x k = true then (1 : Int32) else 0) = 0 → yM x k = false := by
      intro x k _ h
      cases hh : yM x k with
      | false => rfl
      | true => rw [hh] at h; exact absurd h (by decide)
    unfold wLX9_findPiece_21
    rw [e1, yM_test (by omega : a < 32), yM_test (by omega : b < 32), yM_test (by omega : b < 32), yM_test (by omega : b < 32), yn_nat (by omega)]
    refine ⟨fun hh => ?_, fun _ => ⟨fun h1 => hskip (fun hch => ?_), fun h1 => ⟨fun h2 => hskip (fun hch => ?_), fun h2 => ⟨yn_in (by omega) (by omega), fun h3 => hskip (fun hch => ?_), fun h3 => ⟨yn_in (by omega) (by omega), fun h4 => hskip (fun hch => ?_), fun h4 => ?_⟩⟩⟩⟩⟩
    · exfalso; rw [yn_le (by omega) (by omega)] at hh; omega
    · have := hb1 _ _ (by omega) h1; rw [hch.2.2.1] at this; cases this
    · have := hb1 _ _ (by omega) h2; rw [hch.2.2.2.1] at this; cases this
    · have := hb1 _ _ (by omega) h3; rw [hch.2.2.2.2.1] at this; cases this
    · have := hb3 _ _ (by omega) h4; rw [hch.2.2.2.2.2] at this; cases this
    · have hch : yChd n bk inH nH a b := ⟨hab, hbn, hb2 _ _ (by omega) h1, hb2 _ _ (by omega) h2, hb2 _ _ (by omega) h3, hb4 _ _ (by omega) h4⟩
      have hm : yBit2 a b (((1 : Int32) <<< (Int32.ofNat a &&& 31)) ||| ((1 : Int32) <<< (Int32.ofNat b &&& 31))) := by
        intro w hw
        rw [yM_or, yM_shl (by omega) w hw, yM_shl (by omega) w hw]
        simp
      generalize hme : (((1 : Int32) <<< (Int32.ofNat a &&& 31)) ||| ((1 : Int32) <<< (Int32.ofNat b &&& 31))) = me at hm ⊢
      refine w9_offer hF fb me 0 be bo bf hbf _ ?_ ?_ i0 i1 i2 _ i4 _ i7 i11 i12 i13 i14 i15 i16 i17
      · intro hlt
        have hle := yCnt_le F fb me
        have hlt' : yCnt F fb me < bf := hlt
        refine ih (b+1) me 0 (yCnt F fb me) (by omega) (by omega) (by omega) (Or.inr (Or.inl ⟨rfl, rfl, a, b, hch, hm⟩)) ?_ (by omega)
        intro x y e hxy hch' hbit
        by_cases e' : x = a ∧ y = b
        · rw [e'.1, e'.2] at hbit; rw [yBit2_uniq hbit hm]; exact Nat.le_refl _
        · exact Nat.le_trans (Nat.le_of_lt hlt') (hc x y e (by omega) hch' hbit)
      · intro hle
        refine ih (b+1) be bo bf (by omega) (by omega) hbf hS ?_ (by omega)
        intro x y e hxy hch' hbit
        by_cases e' : x = a ∧ y = b
        · rw [e'.1, e'.2] at hbit; rw [yBit2_uniq hbit hm]; exact hle
        · exact hc x y e (by omega) hch' hbit

theorem w9_findPiece (hn : n ≤ 21) (hF : F ≤ 120) (hg : ∀ v w, yGm n bk v w = true → v < n ∧ w < n ∧ v ≠ w) (hs : ∀ v w, yGm n bk v w = yGm n bk w v)
    (K : (Int32 × Int32 × Int32) → Prop) (i0 i1 i2 i4 i7 i8 i9 i10 i11 i12 i13 i14 i15 i16 i17 : Int32)
    (hK : ∀ be bo bf, bf ≤ 1000 → yBst n F fb bk inH nH be bo bf → (∀ a b e, yChd n bk inH nH a b → yBit2 a b e → bf ≤ yCnt F fb e) →
      (∀ v e, v < n → yM nH v = false → bk v ≠ 0 → yEo n bk nH v e → bf ≤ yCnt F fb e) → K (be, bo, Int32.ofNat bf)) :
    wX9_findPiece i0 i1 i2 (Int32.ofNat n) i4 nH (Int32.ofNat F) i7 i8 i9 i10 i11 i12 i13 i14 i15 i16 i17 bk fb inH K := by
  have h0eq : (0 : Int32) = Int32.ofNat 0 := rfl
  have h9 : ∀ d a be bo bf, n - a = d → a ≤ n → bf ≤ 1000 → yBst n F fb bk inH nH be bo bf →
      (∀ x y e, x < a → yChd n bk inH nH x y → yBit2 x y e → bf ≤ yCnt F fb e) →
      wLX9_findPiece_9 i0 i1 i2 (Int32.ofNat n) i4 nH (Int32.ofNat F) i7 i11 i12 i13 i14 i15 i16 i17 bk fb inH K (d+1) be bo (Int32.ofNat bf) (Int32.ofNat a) := by
    intro d
    induction d with
    | zero =>
      intro a be bo bf hd ha hbf hS hc
      unfold wLX9_findPiece_9
      refine ⟨fun _ => ⟨n + 1, ?_⟩, fun hh => ?_⟩
      · rw [h0eq]
        refine w9_fp111 hn hF hg hs K i0 i1 i2 i4 i7 i11 i12 i13 i14 i15 i16 i17 hK n 0 be bo bf nH (by omega) (by omega) hbf hS ?_ (fun u e hu => by omega) ?_
        · intro x y e hch
          have := hch.1
          have := hch.2.1
          exact hc x y e (by omega) hch
        · intro w _
          constructor
          · exact Or.inl
          · rintro (h | ⟨u, hu, _⟩)
            · exact h
            · omega
      · exfalso; apply hh; rw [yn_le (by omega) (by omega)]; omega
    | succ d ih =>
      intro a be bo bf hd ha hbf hS hc
      have e1 : Int32.ofNat a + 1 = Int32.ofNat (a+1) := yn_add a 1
      unfold wLX9_findPiece_9
      rw [e1]
      refine ⟨fun hh => ?_, fun _ v20 h20 => ⟨(n - (a+1)) + 1, ?_⟩⟩
      · exfalso; rw [yn_le (by omega) (by omega)] at hh; omega
      · rw [h20]
        refine w9_fp21 hn hF a (by omega) K _ i0 i1 i2 i4 i7 i11 i12 i13 i14 i15 i16 i17 ?_ (n - (a+1)) (a+1) be bo bf rfl (by omega) hbf hS ?_ (by omega)
        · intro be' bo' bf' h1 h2 h3
          exact ih (a+1) be' bo' bf' (by omega) (by omega) h1 h2 h3
        · intro x y e hxy hch
          have := hch.1
          exact hc x y e (by omega) hch
  unfold wX9_findPiece
  exact ⟨n - 0 + 1, h9 (n-0) 0 i8 i9 1000 rfl (by omega) (by omega) (Or.inl rfl) (fun x y e hx => by omega)⟩
end


-- a circuit through the first edge is found
theorem yBegin_way {n : Nat} {bk : Nat → Int32} (hn : n ≤ 21) (hg : ∀ v w, yGm n bk v w = true → v < n ∧ w < n ∧ v ≠ w) (hs : ∀ v w, yGm n bk v w = yGm n bk w v)
    (hV : yV2 1024 yI (yGr (yGm n bk))) (hC : yCon n bk) {e1 e2 : Nat} (he1 : e1 < 1024) (he2 : e2 < 1024) (hne : e1 ≠ e2) (h1 : yGr (yGm n bk) e1 = true) (h2 : yGr (yGm n bk) e2 = true)
    {a w : Nat} (ha : a < n) (haw : yM (bk a) w = true) (vis : Nat → Bool) (hva : vis a = true) (hvw : vis w = false)
    (hst : ∀ v x, vis v = true → v < n → x < n → yM (bk v) x = true → ¬ (v = a ∧ x = w) → vis x = true) : False := by
  have hG : yGH n bk (fun _ => 0) 0 := by
    have hz : ∀ v w, yGm n (fun _ => 0) v w = false := fun v w => by unfold yGm; rw [yM_zero, Bool.and_false]
    refine ⟨hn, hg, hs, ?_, fun v w => by rw [hz, hz], fun v w h => by rw [hz] at h; cases h⟩
    intro v hv
    rw [yM_zero]
    constructor
    · intro h; cases h
    · rintro ⟨e, he, hh, _⟩
      unfold yGr at hh; rw [hz, Bool.and_false] at hh; cases hh
  obtain ⟨g1, g2, g3, g4, g5⟩ := yGr_of hG ha haw
  -- one more edge at the first
  have hex : ∃ x e, e < 1024 ∧ e ≠ yIx a w ∧ yGr (yGm n bk) e = true ∧ yI e x = true ∧ (x = a ∨ x = w) := by
    by_cases c : ∃ x e, e < 1024 ∧ e ≠ yIx a w ∧ yGr (yGm n bk) e = true ∧ yI e x = true ∧ (x = a ∨ x = w)
    · exact c
    · exfalso
      have hno : ∀ x e, e < 1024 → e ≠ yIx a w → yGr (yGm n bk) e = true → yI e x = true → ¬ (x = a ∨ x = w) := fun x e p1 p2 p3 p4 p5 => c ⟨x, e, p1, p2, p3, p4, p5⟩
      have hU := hC (fun z => decide (z = a ∨ z = w)) (by
        intro e p q he hge hp hq
        by_cases ce : e = yIx a w
        · rw [ce] at hp hq
          rw [decide_eq_true ((g5 p).1 hp), decide_eq_true ((g5 q).1 hq)]
        · rw [decide_eq_false (hno p e he ce hge hp), decide_eq_false (hno q e he ce hge hq)])
      have key : ∀ e, e < 1024 → yGr (yGm n bk) e = true → e = yIx a w := by
        intro e he hge
        by_cases ce : e = yIx a w
        · exact ce
        · exfalso
          have hI := (yI_ends hG hge (v := e/32)).2 (Or.inl rfl)
          have := hU (yIx a w) e a (e/32) g3 he g4 hge ((g5 a).2 (Or.inl rfl)) hI
          rw [decide_eq_true (Or.inl rfl), decide_eq_false (hno _ e he ce hge hI)] at this; cases this
      exact hne ((key e1 he1 h1).trans (key e2 he2 h2).symm)
  obtain ⟨x, e, he, hen, hge, hIx, hx⟩ := hex
  obtain ⟨S, hS, hev, s1, _, _⟩ := hV x (yIx a w) e g3 he (Ne.symm hen) g4 hge ((g5 x).2 hx) hIx
  have hcut := yCut hev vis
  rw [yX_one 1024 _ (yIx a w) g3] at hcut
  · rw [s1, Bool.true_and] at hcut
    have hd : (yIx a w / 32 = a ∧ yIx a w % 32 = w) ∨ (yIx a w / 32 = w ∧ yIx a w % 32 = a) := by
      rcases Nat.lt_or_ge a w with c | c
      · exact Or.inl (yIx_div (by omega) c)
      · rw [yIx_comm]; exact Or.inr (yIx_div (by omega) (by omega))
    rcases hd with ⟨d1, d2⟩ | ⟨d1, d2⟩ <;> rw [d1, d2, hva, hvw] at hcut <;> cases hcut
  · intro d hd hdn
    cases hSd : S d with
    | false => rfl
    | true =>
      rw [Bool.true_and]
      have gn := yGr_nodes hG (hS d hd hSd)
      have hde := yIx_de gn.1
      have s1 : ∀ p q, p < n → q < n → yIx p q = d → yM (bk p) q = true → vis p = true → vis q = true := by
        intro p q hp hq hpq hb hv
        refine hst p q hv hp hq hb ?_
        rintro ⟨c1, c2⟩
        rw [c1, c2] at hpq; exact hdn hpq.symm
      cases v1 : vis (d/32) with
      | true => rw [s1 _ _ (by omega) gn.2.1 hde gn.2.2.1 v1]; rfl
      | false =>
        cases v2 : vis (d%32) with
        | false => rfl
        | true => rw [s1 _ _ gn.2.1 (by omega) (by rw [yIx_comm]; exact hde) gn.2.2.2 v2] at v1; cases v1

theorem w9_begin104 {L : Nat} (hL : L ≤ 21) {pn : Nat → Nat} (hpn : ∀ k, k < L → pn k < 21) (i0 i1 i2 i3 i4 i8 i9 i10 i11 i12 i13 i14 i15 i16 i17 : Int32)
    (qu bf pt : Nat → Int32) (hpt : ∀ k, k < L → pt k = Int32.ofNat (pn k)) (nH : Int32) (inH : Nat → Int32)
    (K : Int32 → (Int32 × Int32 × Int32 × (Nat → Int32) × (Nat → Int32) × (Nat → Int32) × (Nat → Int32) × (Nat → Int32) × (Nat → Int32) × (Nat → Int32)) → Prop)
    (hK : ∀ fa fs fb, yFA 2 (fun _ => L) (fun f k => if f = 0 then pn k else pn (L-1-k)) fa fs fb → K 1 (nH, 2, Int32.ofNat L, qu, bf, pt, inH, fb, fa, fs)) (hL1 : 1 ≤ L) :
    ∀ d k fa fs fb, L - k = d → k ≤ L → (∀ f, f < 2 → (1 ≤ k → fs f = Int32.ofNat k) ∧ (∀ j, j < k → fa (21*f+j) = Int32.ofNat (if f = 0 then pn j else pn (L-1-j))) ∧
        (∀ w, w < 32 → (yM (fb f) w = true ↔ ∃ j, j < k ∧ w = (if f = 0 then pn j else pn (L-1-j))))) →
      wLX9_begin_104 i0 i1 i2 i3 i4 i8 i9 i10 i11 i12 i13 i14 i15 i16 i17 1 (Int32.ofNat L, qu, bf, pt) (nH, inH) K (d+1) fb fa fs (Int32.ofNat k) := by
  have h0eq : (0 : Int32) = Int32.ofNat 0 := rfl
  have h1eq : (1 : Int32) = Int32.ofNat 1 := rfl
  intro d
  induction d with
  | zero =>
    intro k fa fs fb hd hk hI
    have : k = L := by omega
    rw [this] at hI ⊢
    unfold wLX9_begin_104
    refine ⟨fun _ => ⟨by rfl, ?_⟩, fun hh => ?_⟩
    · apply hK
      intro f hf
      obtain ⟨a, b, c⟩ := hI f hf
      exact ⟨a hL1, b, c⟩
    · exfalso; apply hh; rw [yn_le (by omega) (by omega)]; omega
  | succ d ih =>
    intro k fa fs fb hd hk hI
    have e1 : Int32.ofNat k + 1 = Int32.ofNat (k+1) := yn_add k 1
    have e2 : (Int32.ofNat L - 1) - Int32.ofNat k = Int32.ofNat (L-1-k) := by rw [h1eq, yn_sub (by omega), yn_sub (by omega)]
    unfold wLX9_begin_104
    dsimp only
    rw [e1, e2, yn_nat (by omega), yn_nat (by omega), hpt k (by omega), hpt (L-1-k) (by omega)]
    refine ⟨fun hh => ?_, fun _ => ⟨yn_in (by omega) (by omega), ?_⟩⟩
    · exfalso; rw [yn_le (by omega) (by omega)] at hh; omega
    rw [h0eq]
    refine w9_putFace (by omega) (by omega) fa fs fb _ ?_ _ _ _ _ _ _ _ _ _ _ _ _ _ _ _ _ _ _
    dsimp only
    refine ⟨yn_in (by omega) (by omega), ?_⟩
    have key : ∀ fa' fs' fb', fa' = upd (upd fa (21*0+k) (Int32.ofNat (pn k))) (21*1+k) (Int32.ofNat (pn (L-1-k))) →
        fs' = upd (upd fs 0 (Int32.ofNat (k+1))) 1 (Int32.ofNat (k+1)) →
        fb' = upd (upd fb 0 (fb 0 ||| ((1 : Int32) <<< (Int32.ofNat (pn k) &&& 31)))) 1 ((upd fb 0 (fb 0 ||| ((1 : Int32) <<< (Int32.ofNat (pn k) &&& 31)))) 1 ||| ((1 : Int32) <<< (Int32.ofNat (pn (L-1-k)) &&& 31))) →
        wLX9_begin_104 i0 i1 i2 i3 i4 i8 i9 i10 i11 i12 i13 i14 i15 i16 i17 1 (Int32.ofNat L, qu, bf, pt) (nH, inH) K (d+1) fb' fa' fs' (Int32.ofNat (k+1)) := by
      intro fa' fs' fb' q1 q2 q3
      have p1 := hpn k (by omega); have p2 := hpn (L-1-k) (by omega)
      refine ih (k+1) fa' fs' fb' (by omega) (by omega) ?_
      intro f hf
      have hb : ∀ (x : Int32) (g : Nat → Nat), g k < 21 → (∀ w, w < 32 → (yM x w = true ↔ ∃ j, j < k ∧ w = g j)) →
          ∀ w, w < 32 → (yM (x ||| ((1 : Int32) <<< (Int32.ofNat (g k) &&& 31))) w = true ↔ ∃ j, j < k+1 ∧ w = g j) := by
        intro x g hgk hx w hw
        rw [yM_or, Bool.or_eq_true, hx w hw, yM_shl (by omega) w hw, decide_eq_true_iff]
        constructor
        · rintro (⟨j, hj, h⟩ | h)
          · exact ⟨j, by omega, h⟩
          · exact ⟨k, by omega, h⟩
        · rintro ⟨j, hj, h⟩
          by_cases c : j = k
          · rw [c] at h; exact Or.inr h
          · exact Or.inl ⟨j, by omega, h⟩
      rcases (by omega : f = 0 ∨ f = 1) with c | c
      · subst c
        obtain ⟨a, b, cc⟩ := hI 0 (by omega)
        simp only [if_true] at b cc ⊢
        refine ⟨fun _ => ?_, ?_, ?_⟩
        · rw [q2, yupd_ne _ _ _ _ (by omega), yupd_same]
        · intro j hj
          rw [q1, yupd_ne _ _ _ _ (by omega)]
          by_cases cj : j = k
          · rw [cj, yupd_same]
          · rw [yupd_ne _ _ _ _ (by omega)]; exact b j (by omega)
        · intro w hw
          rw [q3, yupd_ne _ _ _ _ (by omega), yupd_same]
          exact hb _ pn p1 cc w hw
      · subst c
        obtain ⟨a, b, cc⟩ := hI 1 (by omega)
        simp only [if_neg (by omega : (1 : Nat) ≠ 0)] at b cc ⊢
        refine ⟨fun _ => ?_, ?_, ?_⟩
        · rw [q2, yupd_same]
        · intro j hj
          rw [q1]
          by_cases cj : j = k
          · rw [cj, yupd_same]
          · rw [yupd_ne _ _ _ _ (by omega), yupd_ne _ _ _ _ (by omega)]; exact b j (by omega)
        · intro w hw
          rw [q3, yupd_same, yupd_ne _ _ _ _ (by omega)]
          exact hb _ (fun j => pn (L-1-j)) p2 cc w hw
    rw [h1eq]
    refine w9_putFace (by omega) (by omega) _ _ _ _ ?_ _ _ _ _ _ _ _ _ _ _ _ _ _ _ _ _ _ _
    dsimp only
    exact key _ _ _ rfl rfl rfl

theorem w9_begin {n : Nat} {bk : Nat → Int32} (hn : n ≤ 21) (hg : ∀ v w, yGm n bk v w = true → v < n ∧ w < n ∧ v ≠ w) (hs : ∀ v w, yGm n bk v w = yGm n bk w v)
    (hV : yV2 1024 yI (yGr (yGm n bk))) (hC : yCon n bk) {e1 e2 : Nat} (he1 : e1 < 1024) (he2 : e2 < 1024) (hne : e1 ≠ e2) (h1 : yGr (yGm n bk) e1 = true) (h2 : yGr (yGm n bk) e2 = true)
    (i0 i1 i2 i4 i5 i6 i7 i8 i9 i10 i11 i12 i13 i14 i15 i16 i17 : Int32) (f19 f20 f21 f22 f23 f24 f25 : Nat → Int32)
    (K : Int32 → (Int32 × Int32 × Int32 × (Nat → Int32) × (Nat → Int32) × (Nat → Int32) × (Nat → Int32) × (Nat → Int32) × (Nat → Int32) × (Nat → Int32)) → Prop)
    (hK : ∀ nH i7' qu bf pt inH fb fa fs, yEmI n bk inH nH fa fs fb 2 → K 1 (nH, 2, i7', qu, bf, pt, inH, fb, fa, fs)) :
    wX9_begin i0 i1 i2 (Int32.ofNat n) i4 i5 i6 i7 i8 i9 i10 i11 i12 i13 i14 i15 i16 i17 bk f19 f20 f21 f22 f23 f24 f25 K := by
  have h0eq : (0 : Int32) = Int32.ofNat 0 := rfl
  have h1eq : (1 : Int32) = Int32.ofNat 1 := rfl
  have hn1 : 0 < n := by
    unfold yGr at h1
    rw [Bool.and_eq_true] at h1
    have := hg _ _ h1.2; omega
  -- the inner part
  have h45 : ∀ a w, a < n → yM (bk a) w = true → ∀ d v inH, n - v = d → v ≤ n → (∀ u, u < v → inH u = 0) →
      wLX9_begin_45 i0 i1 i2 (Int32.ofNat n) i4 i6 i7 i8 i9 i10 i11 i12 i13 i14 i15 i16 i17 bk f19 f20 f21 f23 f24 f25 (Int32.ofNat a) (Int32.ofNat w) K (d+1) inH (Int32.ofNat v) := by
    intro a w ha haw d
    have hgaw := hg a w (by unfold yGm; rw [decide_eq_true ha, haw]; rfl)
    induction d with
    | zero =>
      intro v inH hd hv hz
      unfold wLX9_begin_45
      refine ⟨fun _ => ?_, fun hh => ?_⟩
      · refine w9_findPath hn bk a w ha (by omega) _ _ f19 f20 f21 i7 _ ?_ ?_ _ _ _ _ _ _ _ _ _ _ _ _ _ _ _ _
        · intro L pn pt qu bf hW hpt
          obtain ⟨w1, w2, w3, w4, w5, w6, w7, w8⟩ := hW
          have hL21 := yPig L n pn w5 w7
          have w9' : pn (L-1) = w := by
            have := w5 (L-1) (by omega)
            rw [yM_shl (by omega) _ (by omega), decide_eq_true_iff] at w4; exact w4
          have hL3 : 3 ≤ L := by
            rcases Nat.lt_or_ge L 3 with c | c
            · exfalso
              have : L = 2 := by omega
              subst this
              exact (w6 0 (by omega)).2 ⟨w3, w9'⟩
            · exact c
          dsimp only
          rw [h1eq]
          refine w9_joinPath w1 (by omega) pn pt hpt (fun k hk => by have := w5 k hk; omega) inH 0 1 L (Or.inr ⟨rfl, rfl⟩) _ ?_ _ _ _ _ _ _ _ _ _ _ _ _ _ _ _ _
          intro inH' nH' j1 j2
          intro g93 hg93 g100 hg100
          have n0 : Int32.toNatClampNeg (0 : Int32) = 0 := yn_nat (by omega : (0 : Nat) < 2147483648)
          have n1 : Int32.toNatClampNeg (1 : Int32) = 1 := yn_nat (by omega : (1 : Nat) < 2147483648)
          rw [n0] at hg93; rw [← h1eq, n1] at hg100
          refine ⟨L - 0 + 1, ?_⟩
          rw [← h1eq]
          have hz0 : (0 : Int32) = Int32.ofNat 0 := rfl
          have := w9_begin104 (L := L) (by omega) (pn := pn) (fun k hk => by have := w5 k hk; omega) i0 i1 i2 (Int32.ofNat n) i4 i8 i9 i10 i11 i12 i13 i14 i15 i16 i17 qu bf pt hpt nH' inH' K (by
            intro fa fs fb hA
            apply hK
            refine yEmI_begin hn hg hs hV hL3 (by omega) w5 w7 ?_ ?_ ?_ hA
            · intro k hk
              rcases Nat.lt_or_ge (k+1) L with c | c
              · rw [Nat.mod_eq_of_lt c]; exact (w6 k c).1
              · rw [show k+1 = L by omega, Nat.mod_self, show k = L-1 by omega, w3, w9']
                have := hs a w
                unfold yGm at this
                rw [decide_eq_true ha, decide_eq_true hgaw.2.1, haw] at this
                exact this.symm
            · intro u x hu hx
              rw [j1 u x hx, hz u (by omega), yM_zero]
              constructor
              · rintro (h | h)
                · cases h
                · exact h
              · exact Or.inr
            · intro x hx
              rw [j2 x hx, yM_zero]
              constructor
              · rintro (h | h)
                · cases h
                · exact h
              · exact Or.inr) (by omega) (L - 0) 0 f24 f25 g100 rfl (by omega) (by
            intro f hf
            refine ⟨fun h => by omega, fun j hj => by omega, fun x hx => ?_⟩
            have : g100 f = 0 := by
              rcases (by omega : f = 0 ∨ f = 1) with c | c
              · rw [hg100, c, yupd_ne _ _ _ _ (by omega), hg93, yupd_same]
              · rw [hg100, c, yupd_same]
            rw [this, yM_zero]
            constructor
            · intro h; cases h
            · rintro ⟨j, hj, _⟩; omega)
          exact this
        · intro vis qu bf v1 v2 v3 v4
          exfalso
          refine yBegin_way hn hg hs hV hC he1 he2 hne h1 h2 ha haw vis v1 ?_ ?_
          · cases hh : vis w with
            | false => rfl
            | true =>
              have := (v3 w hh (Ne.symm hgaw.2.2)).2
              rw [yM_shl (by omega) w (by omega), decide_eq_true rfl] at this; cases this
          · intro v' x hv' hv'n hx hb hnot
            rcases v4 v' x hv' hx hb hnot with c | c
            · exact c
            · rw [yM_neg1 x (by omega)] at c; cases c.2
      · exfalso; apply hh; rw [yn_le (by omega) (by omega)]; omega
    | succ d ih =>
      intro v inH hd hv hz
      have e1 : Int32.ofNat v + 1 = Int32.ofNat (v+1) := yn_add v 1
      unfold wLX9_begin_45
      rw [e1, yn_nat (by omega)]
      refine ⟨fun hh => ?_, fun _ => ⟨yn_in (by omega) (by omega), fun g59 hg59 => ?_⟩⟩
      · exfalso; rw [yn_le (by omega) (by omega)] at hh; omega
      · refine ih (v+1) g59 (by omega) (by omega) ?_
        intro u hu
        rw [hg59]
        by_cases c : u = v
        · rw [c, yupd_same]
        · rw [yupd_ne _ _ _ _ c]; exact hz u (by omega)
  have h19 : ∀ a, a < n → ∀ d w, 32 - w = d → w ≤ 32 → (∃ x, w ≤ x ∧ x < 32 ∧ yM (bk a) x = true) →
      wLX9_begin_19 i0 i1 i2 (Int32.ofNat n) i4 i6 i7 i8 i9 i10 i11 i12 i13 i14 i15 i16 i17 bk f19 f20 f21 f22 f23 f24 f25 (Int32.ofNat a) K (d+1) (Int32.ofNat w) := by
    intro a ha d
    induction d with
    | zero => intro w hd hw hex; obtain ⟨x, x1, x2, _⟩ := hex; omega
    | succ d ih =>
      intro w hd hw hex
      have e1 : Int32.ofNat w + 1 = Int32.ofNat (w+1) := yn_add w 1
      unfold wLX9_begin_19
      rw [e1, yn_nat (by omega), yM_test (by omega)]
      refine ⟨yn_in (by omega) (by omega), fun hh => ?_, fun hh => ?_⟩
      · have hb : yM (bk a) w = true := by
          cases c : yM (bk a) w with
          | true => rfl
          | false => rw [c] at hh; exact absurd rfl hh
        exact ⟨n - 0 + 1, h45 a w ha hb (n-0) 0 f22 rfl (by omega) (fun u hu => by omega)⟩
      · refine ih (w+1) (by omega) (by omega) ?_
        obtain ⟨x, x1, x2, x3⟩ := hex
        refine ⟨x, ?_, x2, x3⟩
        by_cases c : x = w
        · rw [c] at x3; rw [x3] at hh; exact absurd hh (by decide)
        · omega
  have h2' : ∀ d v, n - v = d → v ≤ n → (∃ x, v ≤ x ∧ x < n ∧ bk x ≠ 0) →
      wLX9_begin_2 i0 i1 i2 (Int32.ofNat n) i4 i6 i7 i8 i9 i10 i11 i12 i13 i14 i15 i16 i17 bk f19 f20 f21 f22 f23 f24 f25 K (d+1) (Int32.ofNat v) := by
    intro d
    induction d with
    | zero => intro v hd hv hex; obtain ⟨x, x1, x2, _⟩ := hex; omega
    | succ d ih =>
      intro v hd hv hex
      have e1 : Int32.ofNat v + 1 = Int32.ofNat (v+1) := yn_add v 1
      unfold wLX9_begin_2
      rw [e1, yn_nat (by omega)]
      refine ⟨yn_in (by omega) (by omega), fun hh => ?_, fun hh => ?_⟩
      · have hex : ∃ x, 0 ≤ x ∧ x < 32 ∧ yM (bk v) x = true := by
          by_cases c : ∃ x, 0 ≤ x ∧ x < 32 ∧ yM (bk v) x = true
          · exact c
          · exfalso; apply hh; rw [yM_eq0]; intro i hi
            cases ci : yM (bk v) i with
            | false => rfl
            | true => exact absurd ⟨i, by omega, hi, ci⟩ c
        exact ⟨32 - 0 + 1, h19 v (by omega) (32-0) 0 rfl (by omega) hex⟩
      · refine ih (v+1) (by omega) (by omega) ?_
        obtain ⟨x, x1, x2, x3⟩ := hex
        refine ⟨x, ?_, x2, x3⟩
        by_cases c : x = v
        · rw [c] at x3; exact absurd hh x3
        · omega
  unfold wX9_begin
  refine ⟨n - 0 + 1, h2' (n-0) 0 rfl (by omega) ?_⟩
  unfold yGr at h1
  rw [Bool.and_eq_true] at h1
  have h3 := h1.2
  unfold yGm at h3
  rw [Bool.and_eq_true, decide_eq_true_iff] at h3
  refine ⟨e1/32, by omega, h3.1, ?_⟩
  intro h; rw [h, yM_zero] at h3; cases h3.2


theorem w9_embed {n : Nat} {bk : Nat → Int32} (hn : n ≤ 21) (hg : ∀ v w, yGm n bk v w = true → v < n ∧ w < n ∧ v ≠ w) (hs : ∀ v w, yGm n bk v w = yGm n bk w v)
    (hE : yNb 1024 (yGr (yGm n bk)) ≤ 57) (hV : yV2 1024 yI (yGr (yGm n bk))) (hC : yCon n bk) {e1 e2 : Nat} (he1 : e1 < 1024) (he2 : e2 < 1024) (hne : e1 ≠ e2)
    (h1 : yGr (yGm n bk) e1 = true) (h2 : yGr (yGm n bk) e2 = true)
    (i0 i1 i2 i4 i5 i6 i7 i8 i9 i10 i11 i12 i13 i14 i15 i16 i17 : Int32) (f19 f20 f21 f22 f23 f24 f25 f26 : Nat → Int32)
    (K : Int32 → (Int32 × Int32 × Int32 × Int32 × Int32 × Int32 × (Nat → Int32) × (Nat → Int32) × (Nat → Int32) × (Nat → Int32) × (Nat → Int32) × (Nat → Int32) × (Nat → Int32) × (Nat → Int32)) → Prop)
    (hK1 : ∀ F inH nH fa fs fb i7 y1 y2 y3 t0 t1 t2 old, yEmI n bk inH nH fa fs fb F → (∀ v, v < n → inH v = bk v) → K 1 (nH, Int32.ofNat F, i7, y1, y2, y3, t0, t1, t2, inH, fb, fa, fs, old))
    (hK0 : ¬ yPl n bk → ∀ u, K 0 u) :
    wX9_embed i0 i1 i2 (Int32.ofNat n) i4 i5 i6 i7 i8 i9 i10 i11 i12 i13 i14 i15 i16 i17 bk f19 f20 f21 f22 f23 f24 f25 f26 K := by
  unfold wX9_embed
  refine w9_begin hn hg hs hV hC he1 he2 hne h1 h2 i0 i1 i2 i4 i5 i6 i7 i8 i9 i10 i11 i12 i13 i14 i15 i16 i17 f19 f20 f21 f22 f23 f24 f25 _ ?_
  intro nH i7' qu bf pt inH fb fa fs hI
  exact ⟨57 + 1, w9_embed5 hE hV hC i0 i1 i2 i4 i11 i12 i13 i14 i15 i16 i17 K hK1 hK0 57 2 inH nH fa fs fb i7' i8 i9 i10 qu bf pt f26 hI (by omega)⟩



-- the check's sides and labellings
theorem yDf_plane {n : Nat} {g : Nat → Nat → Bool} {vis fin : Nat → Bool} {ht par : Nat → Nat} {op : Nat → Nat → Bool} {nb : Nat} {bs bl : Nat → Nat}
    (hn : n ≤ 32) (hg : ∀ v w, g v w = true → v < n ∧ w < n ∧ v ≠ w) (hs : ∀ v w, g v w = g w v)
    (h : yDf n g vis fin ht par op nb bs bl) (hall : ∀ v, v < n → vis v = true) (hfin : ∀ v x, v < n → op v x = false) :
    (∃ σ, ∀ v, v < n → yPv nb bs bl ht par σ v) ↔ ∃ lab : Bool → Nat → Nat, yDs 1024 yI (yGr g) (fun _ => false) (lab false) (lab true) := by
  have hT := yDf_tr hn hg hs h hall hfin
  obtain ⟨u1, u2, u3⟩ := yDf_num hn hg hs h hall hfin
  have hup := fun q j hq hj => yDf_up h hall q j hq hj
  have h' := h
  obtain ⟨d1, d2, d3, d4, d5, d6, d7, d8, d9, d10⟩ := h'
  -- one branch or two
  have hR : ∀ v b j, v < n → b < 1024 → yBk g ht par b = true → j < nb → bs j = ySr ht b → bl j = yLo ht b →
      (yR 1024 ht (yUpp ht par) (yBk g ht par) (ySr ht) (yLo ht) v b ↔ yRj nb bs bl ht par v j) := by
    intro v b j hv hb hB hj h1 h2
    unfold yR yRj yAn
    rw [h1, h2]
    constructor
    · rintro ⟨_, _, a, b, c⟩; exact ⟨hj, ⟨a, b⟩, c⟩
    · rintro ⟨_, ⟨a, b⟩, c⟩; exact ⟨‹_›, hB, a, b, c⟩
  have hBr : ∀ v b b' j j', v < n → b < 1024 → b' < 1024 → yBk g ht par b = true → yBk g ht par b' = true → j < nb → j' < nb →
      bs j = ySr ht b → bl j = yLo ht b → bs j' = ySr ht b' → bl j' = yLo ht b' → yRj nb bs bl ht par v j → yRj nb bs bl ht par v j' →
      (yBr ht (yUpp ht par) (yPe par) (ySr ht) v b = yBr ht (yUpp ht par) (yPe par) (ySr ht) v b' ↔ yBj bs ht par v j = yBj bs ht par v j') := by
    intro v b b' j j' hv hb hb' hB hB' hj hj' h1 h2 h1' h2' hRj hRj'
    have heq : ∀ j b, bs j = ySr ht b → yRj nb bs bl ht par v j → (ht v = ht (ySr ht b) ↔ bs j = v) := by
      intro j b h1 hRj
      rw [← h1]
      constructor
      · intro e
        have h4 := hRj.2.1.2
        unfold yUpp at h4
        rw [e, Nat.sub_self] at h4
        exact h4
      · intro e; rw [e]
    have hnode : ∀ j b, bs j = ySr ht b → j < nb → yRj nb bs bl ht par v j → ¬ (bs j = v) → yUpp ht par (ySr ht b) (ht v + 1) < n ∧ 0 < ht (yUpp ht par (ySr ht b) (ht v + 1)) := by
      intro j b h1 hj hRj hne
      have hlt : ht v < ht (bs j) := by
        have h3 := hRj.2.1.1
        by_cases he : ht v = ht (bs j)
        · exfalso; rw [h1] at he; exact hne ((heq j b h1 hRj).1 he)
        · omega
      rw [← h1]
      have := hup (bs j) (ht v + 1) (d1 _ (d8 j hj).1) (by omega)
      exact ⟨this.1, by omega⟩
    unfold yBr yBj
    by_cases e : bs j = v
    · rw [if_pos ((heq j b h1 hRj).2 e), if_pos e]
      by_cases e' : bs j' = v
      · rw [if_pos ((heq j' b' h1' hRj').2 e'), if_pos e']
        constructor
        · intro hbb
          congr 1
          rw [hbb] at h1 h2
          exact d9 j j' hj hj' (h1.trans h1'.symm) (h2.trans h2'.symm)
        · intro hjj
          have := Sum.inl.inj hjj
          rw [this] at h1 h2
          exact u3 b b' hb hb' hB hB' (h1.symm.trans h1') (h2.symm.trans h2')
      · rw [if_neg (fun x => e' ((heq j' b' h1' hRj').1 x)), if_neg e']
        constructor
        · intro hbb
          exfalso
          have hx := hnode j' b' h1' hj' hRj' e'
          have := (hT.2.2.2.1 _ hx.1 hx.2).2.2.1
          rw [← hbb, hB] at this; cases this
        · intro hh; cases hh
    · rw [if_neg (fun x => e ((heq j b h1 hRj).1 x)), if_neg e]
      by_cases e' : bs j' = v
      · rw [if_pos ((heq j' b' h1' hRj').2 e'), if_pos e']
        constructor
        · intro hbb
          exfalso
          have hx := hnode j b h1 hj hRj e
          have := (hT.2.2.2.1 _ hx.1 hx.2).2.2.1
          rw [hbb, hB'] at this; cases this
        · intro hh; cases hh
      · rw [if_neg (fun x => e' ((heq j' b' h1' hRj').1 x)), if_neg e']
        have hx := hnode j b h1 hj hRj e
        have hx' := hnode j' b' h1' hj' hRj' e'
        constructor
        · intro hbb
          congr 1
          have := hT.2.2.2.2.1 _ _ hx.1 hx'.1 hx.2 hx'.2 hbb
          rw [h1, h1']; exact this
        · intro hh
          have := Sum.inr.inj hh
          rw [h1, h1'] at this
          rw [this]
  constructor
  · rintro ⟨σ, hσ⟩
    -- numbers of edges
    have hidx : ∀ e, ∃ j, e < 1024 → yBk g ht par e = true → j < nb ∧ bs j = ySr ht e ∧ bl j = yLo ht e := by
      intro e
      by_cases hc : e < 1024 ∧ yBk g ht par e = true
      · obtain ⟨j, hj⟩ := u1 e hc.1 hc.2
        exact ⟨j, fun _ _ => hj⟩
      · exact ⟨0, fun a b => absurd ⟨a, b⟩ hc⟩
    obtain ⟨ix, hix⟩ := yChoice hidx
    have hlr : yLr 1024 (fun v => v < n) ht (yUpp ht par) (yPe par) (yBk g ht par) (ySr ht) (yLo ht) (fun e => σ (ix e)) := by
      refine ⟨?_, ?_⟩
      · intro v b b' c hv hb hb' hc h1 h2 h3 h4
        obtain ⟨p1, p2, p3⟩ := hix b hb.1 hb.2.1
        obtain ⟨q1, q2, q3⟩ := hix b' hb'.1 hb'.2.1
        obtain ⟨r1, r2, r3⟩ := hix c hc.1 hc.2.1
        have Rb := (hR v b (ix b) hv hb.1 hb.2.1 p1 p2 p3).1 hb
        have Rb' := (hR v b' (ix b') hv hb'.1 hb'.2.1 q1 q2 q3).1 hb'
        have Rc := (hR v c (ix c) hv hc.1 hc.2.1 r1 r2 r3).1 hc
        have B1 := (hBr v b b' (ix b) (ix b') hv hb.1 hb'.1 hb.2.1 hb'.2.1 p1 q1 p2 p3 q2 q3 Rb Rb').1 h1
        have B2 : yBj bs ht par v (ix b) ≠ yBj bs ht par v (ix c) := fun e => h2 ((hBr v b c (ix b) (ix c) hv hb.1 hc.1 hb.2.1 hc.2.1 p1 r1 p2 p3 r2 r3 Rb Rc).2 e)
        obtain ⟨cc, c1, c2⟩ := hσ v hv _ _ B2
        dsimp only
        rw [c1 (ix b) Rb rfl ⟨ix c, Rc, rfl, by omega⟩, c1 (ix b') Rb' B1.symm ⟨ix c, Rc, rfl, by omega⟩]
      · intro v b b' c c' hv hb hb' hc hc' h1 h2 h3 h4 h5
        obtain ⟨p1, p2, p3⟩ := hix b hb.1 hb.2.1
        obtain ⟨q1, q2, q3⟩ := hix b' hb'.1 hb'.2.1
        obtain ⟨r1, r2, r3⟩ := hix c hc.1 hc.2.1
        obtain ⟨s1, s2, s3⟩ := hix c' hc'.1 hc'.2.1
        have Rb := (hR v b (ix b) hv hb.1 hb.2.1 p1 p2 p3).1 hb
        have Rb' := (hR v b' (ix b') hv hb'.1 hb'.2.1 q1 q2 q3).1 hb'
        have Rc := (hR v c (ix c) hv hc.1 hc.2.1 r1 r2 r3).1 hc
        have Rc' := (hR v c' (ix c') hv hc'.1 hc'.2.1 s1 s2 s3).1 hc'
        have B1 := (hBr v b c (ix b) (ix c) hv hb.1 hc.1 hb.2.1 hc.2.1 p1 r1 p2 p3 r2 r3 Rb Rc).1 h1
        have B1' := (hBr v b' c' (ix b') (ix c') hv hb'.1 hc'.1 hb'.2.1 hc'.2.1 q1 s1 q2 q3 s2 s3 Rb' Rc').1 h2
        have B2 : yBj bs ht par v (ix b) ≠ yBj bs ht par v (ix b') := fun e => h3 ((hBr v b b' (ix b) (ix b') hv hb.1 hb'.1 hb.2.1 hb'.2.1 p1 q1 p2 p3 q2 q3 Rb Rb').2 e)
        obtain ⟨cc, c1, c2⟩ := hσ v hv _ _ B2
        dsimp only
        rw [c1 (ix b) Rb rfl ⟨ix c', Rc', B1'.symm, by omega⟩, c2 (ix b') Rb' rfl ⟨ix c, Rc, B1.symm, by omega⟩]
        cases cc <;> simp
    exact yDs_of_lr hT 32 (fun v hv => by omega) _ hlr
  · rintro ⟨lab, hlab⟩
    obtain ⟨σe, hσe⟩ := yLr_of hT hlab
    have hedge : ∀ j, ∃ e, j < nb → e < 1024 ∧ yBk g ht par e = true ∧ bs j = ySr ht e ∧ bl j = yLo ht e := by
      intro j
      by_cases hj : j < nb
      · obtain ⟨e, he⟩ := u2 j hj
        exact ⟨e, fun _ => he⟩
      · exact ⟨0, fun a => absurd a hj⟩
    obtain ⟨ex, hex⟩ := yChoice hedge
    refine ⟨fun j => σe (ex j), ?_⟩
    intro v hv κ1 κ2 hne
    -- one side, and other sides
    have hS : ∀ j j' k, yRj nb bs bl ht par v j → yRj nb bs bl ht par v j' → yRj nb bs bl ht par v k → yBj bs ht par v j = yBj bs ht par v j' →
        yBj bs ht par v j ≠ yBj bs ht par v k → bl k < bl j → bl k < bl j' → σe (ex j) = σe (ex j') := by
      intro j j' k Rj Rj' Rk h1 h2 h3 h4
      obtain ⟨p0, p1, p2, p3⟩ := hex j Rj.1
      obtain ⟨q0, q1, q2, q3⟩ := hex j' Rj'.1
      obtain ⟨r0, r1, r2, r3⟩ := hex k Rk.1
      refine hσe.1 v (ex j) (ex j') (ex k) hv ((hR v _ j hv p0 p1 Rj.1 p2 p3).2 Rj) ((hR v _ j' hv q0 q1 Rj'.1 q2 q3).2 Rj') ((hR v _ k hv r0 r1 Rk.1 r2 r3).2 Rk)
        ((hBr v _ _ j j' hv p0 q0 p1 q1 Rj.1 Rj'.1 p2 p3 q2 q3 Rj Rj').2 h1) (fun e => h2 ((hBr v _ _ j k hv p0 r0 p1 r1 Rj.1 Rk.1 p2 p3 r2 r3 Rj Rk).1 e)) (by omega) (by omega)
    have hO : ∀ j j' k k', yRj nb bs bl ht par v j → yRj nb bs bl ht par v j' → yRj nb bs bl ht par v k → yRj nb bs bl ht par v k' → yBj bs ht par v j = yBj bs ht par v k →
        yBj bs ht par v j' = yBj bs ht par v k' → yBj bs ht par v j ≠ yBj bs ht par v j' → bl k' < bl j → bl k < bl j' → σe (ex j) ≠ σe (ex j') := by
      intro j j' k k' Rj Rj' Rk Rk' h1 h2 h3 h4 h5
      obtain ⟨p0, p1, p2, p3⟩ := hex j Rj.1
      obtain ⟨q0, q1, q2, q3⟩ := hex j' Rj'.1
      obtain ⟨r0, r1, r2, r3⟩ := hex k Rk.1
      obtain ⟨s0, s1, s2, s3⟩ := hex k' Rk'.1
      refine hσe.2 v (ex j) (ex j') (ex k) (ex k') hv ((hR v _ j hv p0 p1 Rj.1 p2 p3).2 Rj) ((hR v _ j' hv q0 q1 Rj'.1 q2 q3).2 Rj') ((hR v _ k hv r0 r1 Rk.1 r2 r3).2 Rk) ((hR v _ k' hv s0 s1 Rk'.1 s2 s3).2 Rk')
        ((hBr v _ _ j k hv p0 r0 p1 r1 Rj.1 Rk.1 p2 p3 r2 r3 Rj Rk).2 h1) ((hBr v _ _ j' k' hv q0 s0 q1 s1 Rj'.1 Rk'.1 q2 q3 s2 s3 Rj' Rk').2 h2)
        (fun e => h3 ((hBr v _ _ j j' hv p0 q0 p1 q1 Rj.1 Rj'.1 p2 p3 q2 q3 Rj Rj').1 e)) (by omega) (by omega)
    by_cases hA : ∃ j k, yRj nb bs bl ht par v j ∧ yBj bs ht par v j = κ1 ∧ yRj nb bs bl ht par v k ∧ yBj bs ht par v k = κ2 ∧ bl k < bl j
    · obtain ⟨j, k, a1, a2, a3, a4, a5⟩ := hA
      refine ⟨σe (ex j), ?_, ?_⟩
      · rintro j' b1 b2 ⟨k', b3, b4, b5⟩
        -- take the lower of k and k'
        by_cases hkk : bl k ≤ bl k'
        · exact hS j' j k b1 a1 a3 (b2.trans a2.symm) (by rw [b2, a4]; exact hne) (by omega) a5
        · exact hS j' j k' b1 a1 b3 (b2.trans a2.symm) (by rw [b2, b4]; exact hne) b5 (by omega)
      · rintro j' b1 b2 ⟨k', b3, b4, b5⟩
        have := hO j j' k' k a1 b1 b3 a3 (a2.trans b4.symm) (b2.trans a4.symm) (by rw [a2, b2]; exact hne) a5 b5
        show σe (ex j') = !σe (ex j)
        revert this
        cases σe (ex j) <;> cases σe (ex j') <;> simp
    · by_cases hB : ∃ j k, yRj nb bs bl ht par v j ∧ yBj bs ht par v j = κ2 ∧ yRj nb bs bl ht par v k ∧ yBj bs ht par v k = κ1 ∧ bl k < bl j
      · obtain ⟨j, k, a1, a2, a3, a4, a5⟩ := hB
        refine ⟨!σe (ex j), ?_, ?_⟩
        · rintro j' b1 b2 ⟨k', b3, b4, b5⟩
          exact absurd ⟨j', k', b1, b2, b3, b4, b5⟩ hA
        · rintro j' b1 b2 ⟨k', b3, b4, b5⟩
          have : σe (ex j') = σe (ex j) := by
            by_cases hkk : bl k ≤ bl k'
            · exact hS j' j k b1 a1 a3 (b2.trans a2.symm) (by rw [b2, a4]; exact Ne.symm hne) (by omega) a5
            · exact hS j' j k' b1 a1 b3 (b2.trans a2.symm) (by rw [b2, b4]; exact Ne.symm hne) b5 (by omega)
          show σe (ex j') = !!σe (ex j)
          rw [this]; simp
      · refine ⟨false, ?_, ?_⟩
        · rintro j' b1 b2 ⟨k', b3, b4, b5⟩
          exact absurd ⟨j', k', b1, b2, b3, b4, b5⟩ hA
        · rintro j' b1 b2 ⟨k', b3, b4, b5⟩
          exact absurd ⟨j', k', b1, b2, b3, b4, b5⟩ hB

-- a graph of n nodes told by masks
def yGm (n : Nat) (f : Nat → Int32) (v w : Nat) : Bool := decide (v < n) && yM (f v) w

-- PLANE as both sides ask it
def yPln (n : Nat) (g : Nat → Nat → Bool) : Prop :=
  n < 3 ∨ (yS n (fun v => yNb 32 (g v)) / 2 ≤ 3 * n - 6 ∧ ∃ lab : Bool → Nat → Nat, yDs 1024 yI (yGr g) (fun _ => false) (lab false) (lab true))

-- the last loop: sides node by node
theorem w_acc122 {n nb : Nat} {bs bl ht par : Nat → Nat} {lower own under : Nat → Int64} {height parent opn : Nat → Int32}
    (hA : yAr n nb bs bl ht par lower own under height parent)
    (K : Int32 → (Int32 × Int32 × (Nat → Int64) × (Nat → Int32) × (Nat → Int32) × (Nat → Int64) × (Nat → Int64) × (Nat → Int32) × (Nat → Int64) × (Nat → Int32) × (Nat → Int64) × (Nat → Int64)) → Prop)
    (hK1 : (∃ σ, ∀ v, v < n → yPv nb bs bl ht par σ v) → ∀ u, K 1 u) (hK0 : (¬ ∃ σ, ∀ v, v < n → yPv nb bs bl ht par σ v) → ∀ u, K 0 u) :
    ∀ d v k a b ld le, n - v = d → v ≤ n → yGs k a b → (∀ i j, i < k → j < 64 → yGb a b i j = true → j < nb) →
      (∀ σ, ySat σ k a b ↔ ∀ v', v' < v → yPv nb bs bl ht par σ v') →
      wLX5_accepts_122 (Int32.ofNat n) height opn own under parent (Int32.ofNat nb) lower K (d+1) a b ld le (Int32.ofNat k) (Int32.ofNat v) ∧
      wLX5_accepts_1_122 (Int32.ofNat n) height opn own under parent (Int32.ofNat nb) lower K (d+1) a b ld le (Int32.ofNat k) (Int32.ofNat v) := by
  have hn : n ≤ 21 := hA.1.2
  intro d
  induction d with
  | zero =>
    intro v k a b ld le hd hv hG hs hsat
    have hfin : ∀ u, K 1 u := by
      apply hK1
      refine ⟨fun j => yD (∃ i, i < k ∧ yL (a i) j = true), ?_⟩
      have : ySat (fun j => yD (∃ i, i < k ∧ yL (a i) j = true)) k a b := by
        intro i hi
        refine ⟨true, fun j hj => ⟨fun h => yD_pos ⟨i, hi, h⟩, fun h => ?_⟩⟩
        apply yD_neg
        rintro ⟨i', hi', h'⟩
        have e := hG.1 i i' j hi hi' hj (by unfold yGb; rw [h]; simp) (by unfold yGb; rw [h']; rfl)
        rw [← e] at h'
        exact hG.2.2 i j hi hj ⟨h', h⟩
      intro v' hv'
      exact (hsat _).1 this v' (by omega)
    unfold wLX5_accepts_122 wLX5_accepts_1_122
    refine ⟨⟨fun _ => hfin _, fun hh => ?_⟩, ⟨fun _ => hfin _, fun hh => ?_⟩⟩
    all_goals (exfalso; apply hh; rw [yn_le (by omega) (by omega)]; omega)
  | succ d ih =>
    intro v k a b ld le hd hv hG hs hsat
    have hvn : v < n := by omega
    have e1 : Int32.ofNat v + 1 = Int32.ofNat (v+1) := yn_add v 1
    have hstep : ∀ (F : (Nat → Int64) → (Nat → Int64) → (Nat → Int64) → (Nat → Int32) → Int32 → Prop),
        (∀ k a b ld le, yGs k a b → (∀ i j, i < k → j < 64 → yGb a b i j = true → j < nb) →
          (∀ σ, ySat σ k a b ↔ ∀ v', v' < v + 1 → yPv nb bs bl ht par σ v') → F a b ld le (Int32.ofNat k)) →
        wX5_findLeading (Int32.ofNat nb) (Int32.ofNat k) own parent under height lower ld le (Int32.ofNat v) (Int32.ofNat n) (fun r133 u133 =>
          (wX5_sidesFit (Int32.ofNat nb) (Int32.ofNat k) (u133.1) (u133.2) lower a b r133 (fun r136 u136 => ((¬ r136 = 0 → F (u136.2.1) (u136.2.2) (u133.1) (u133.2) (u136.1)) ∧
            (r136 = 0 → K (0 : Int32) (Int32.ofNat nb, u136.1, lower, height, opn, own, under, parent, u133.1, u133.2, u136.2.1, u136.2.2)))))) := by
      intro F hF
      refine w_findLeading hA v hvn _ ld le _ ?_
      intro c ld' le' kd hE
      refine w_sidesFit hA _ hvn hE (fun σ => ∀ v', v' < v → yPv nb bs bl ht par σ v') k a b hG hs hsat _ ?_ ?_
      · intro k' a' b' hG' hs' hsat'
        refine ⟨fun _ => hF k' a' b' ld' le' hG' hs' (fun σ => ?_), fun hh => absurd hh (by decide)⟩
        rw [hsat' σ]
        constructor
        · rintro ⟨h1, h2⟩ v' hv'
          by_cases e : v' = v
          · rw [e]; exact h2
          · exact h1 v' (by omega)
        · intro h1; exact ⟨fun v' hv' => h1 v' (by omega), h1 v (by omega)⟩
      · intro k' a' b' hno
        refine ⟨fun hh => absurd rfl hh, fun _ => hK0 ?_ _⟩
        rintro ⟨σ, hσ⟩
        exact hno σ ⟨fun v' hv' => hσ v' (by omega), hσ v hvn⟩
    unfold wLX5_accepts_122 wLX5_accepts_1_122
    refine ⟨⟨fun hh => ?_, fun _ => ?_⟩, ⟨fun hh => ?_, fun _ => ?_⟩⟩
    · exfalso; rw [yn_le (by omega) (by omega)] at hh; omega
    · rw [e1]
      exact hstep (fun a b ld le k => wLX5_accepts_122 (Int32.ofNat n) height opn own under parent (Int32.ofNat nb) lower K (d+1) a b ld le k (Int32.ofNat (v+1)))
        (fun k a b ld le h1 h2 h3 => (ih (v+1) k a b ld le (by omega) (by omega) h1 h2 h3).1)
    · exfalso; rw [yn_le (by omega) (by omega)] at hh; omega
    · rw [e1]
      exact hstep (fun a b ld le k => wLX5_accepts_1_122 (Int32.ofNat n) height opn own under parent (Int32.ofNat nb) lower K (d+1) a b ld le k (Int32.ofNat (v+1)))
        (fun k a b ld le h1 h2 h3 => (ih (v+1) k a b ld le (by omega) (by omega) h1 h2 h3).2)

-- when the search is over
theorem yCn_ar {n : Nat} {g : Nat → Nat → Bool} {vis fin : Nat → Bool} {ht par : Nat → Nat} {op : Nat → Nat → Bool} {nb : Nat} {bs bl : Nat → Nat}
    {height parent opn : Nat → Int32} {own lower under : Nat → Int64} (hn : n ≤ 21) (hnb : nb ≤ 57) (hD : yDf n g vis fin ht par op nb bs bl)
    (hC : yCn n vis fin ht par op nb bs bl height parent opn own lower under) (hall : ∀ v, v < n → vis v = true) (hfin : ∀ x, vis x = true → fin x = true)
    (lower' : Nat → Int64) (hl : ∀ h j, h ≤ n → j < 64 → (yL (lower' h) j = true ↔ ∃ h', h' ≤ h ∧ yL (lower h') j = true)) :
    yAr n nb bs bl ht par lower' own under height parent := by
  have hht := fun v hv => yDf_ht hD v hv
  obtain ⟨d1, d2, d3, d4, d5, d6, d7, d8, d9, d10⟩ := hD
  obtain ⟨c1, c2, c3, c4, c5, c6, c7, c8⟩ := hC
  refine ⟨⟨hnb, hn⟩, ?_, c6, ?_, fun v hv => c1 v hv (hall v hv), fun v hv h0 => c3 v hv (hall v hv) h0, fun v hv h0 => c4 v hv (hall v hv) h0,
    fun v hv => hht v (hall v hv), ?_, d9, ?_⟩
  · intro h j hh hj
    rw [hl h j hh hj]
    constructor
    · rintro ⟨h', h1, h2⟩
      have := (c7 h' j (by omega) hj).1 h2
      exact ⟨this.1, by omega⟩
    · rintro ⟨h1, h2⟩
      exact ⟨bl j + 1, by omega, (c7 (bl j + 1) j (by omega) hj).2 ⟨h1, rfl⟩⟩
  · intro w j hw hj
    rw [c8 w j hw hj]
    constructor
    · rintro ⟨h1, _, h3, _⟩; exact ⟨h1, h3⟩
    · rintro ⟨h1, h2⟩; exact ⟨h1, hall w hw, h2, Or.inl (hfin w (hall w hw))⟩
  · intro j hj
    obtain ⟨a1, x, _, _, _, a5, a6⟩ := d8 j hj
    exact ⟨d1 _ a1, a6⟩
  · intro w hw h0
    have := d2 w (hall w hw) h0
    exact ⟨d1 _ this.1, this.2.2.1⟩

theorem w_acc88 {n : Nat} (hn : n ≤ 21) (f9 : Nat → Int64) (f10 : Nat → Int32) (f11 f12 : Nat → Int64) (u51 : Int32 × Int32 × (Nat → Int64) × (Nat → Int32) × (Nat → Int32) × (Nat → Int64) × (Nat → Int64))
    (height opn : Nat → Int32) (own under : Nat → Int64) (parent : Nat → Int32) (nb : Int32) (low0 : Nat → Int64)
    (K : Int32 → (Int32 × Int32 × (Nat → Int64) × (Nat → Int32) × (Nat → Int32) × (Nat → Int64) × (Nat → Int64) × (Nat → Int32) × (Nat → Int64) × (Nat → Int32) × (Nat → Int64) × (Nat → Int64)) → Prop)
    (hK : ∀ lower', (∀ h j, h ≤ n → j < 64 → (yL (lower' h) j = true ↔ ∃ h', h' ≤ h ∧ yL (low0 h') j = true)) →
      (∃ m, wLX5_accepts_122 (Int32.ofNat n) height opn own under parent nb lower' K m f11 f12 f9 f10 (u51.2.1) 0) ∧
      (∃ m, wLX5_accepts_1_122 (Int32.ofNat n) height opn own under parent nb lower' K m f11 f12 f9 f10 (u51.2.1) 0)) :
    ∀ d h low, n + 1 - h = d → 1 ≤ h → h ≤ n + 1 → (∀ x j, x < h → j < 64 → (yL (low x) j = true ↔ ∃ h', h' ≤ x ∧ yL (low0 h') j = true)) → (∀ x, h ≤ x → low x = low0 x) →
      wLX5_accepts_88 f9 f10 f11 f12 (Int32.ofNat n) u51 height opn own under parent nb K (d+1) low (Int32.ofNat h) ∧
      wLX5_accepts_1_88 f9 f10 f11 f12 (Int32.ofNat n) u51 height opn own under parent nb K (d+1) low (Int32.ofNat h) := by
  intro d
  induction d with
  | zero =>
    intro h low hd h1 h2 hp hq
    have hx := hK low (fun x j hx hj => hp x j (by omega) hj)
    unfold wLX5_accepts_88 wLX5_accepts_1_88
    refine ⟨⟨fun _ => hx.1, fun hh => ?_⟩, ⟨fun _ => hx.2, fun hh => ?_⟩⟩
    all_goals (exfalso; apply hh; rw [yn_lt (by omega) (by omega)]; omega)
  | succ d ih =>
    intro h low hd h1 h2 hp hq
    have e1 : Int32.ofNat h + 1 = Int32.ofNat (h+1) := yn_add h 1
    have e2 : Int32.ofNat h - 1 = Int32.ofNat (h-1) := yn_sub (a := h) (b := 1) h1
    have hnew : ∀ g112, g112 = vp_updL low h ((low h) ||| (low (h - 1))) →
        (∀ x j, x < h + 1 → j < 64 → (yL (g112 x) j = true ↔ ∃ h', h' ≤ x ∧ yL (low0 h') j = true)) ∧ (∀ x, h + 1 ≤ x → g112 x = low0 x) := by
      intro g112 hg
      refine ⟨fun x j hx hj => ?_, fun x hx => by rw [hg, yupdL_ne _ _ _ _ (by omega)]; exact hq x (by omega)⟩
      by_cases e : x = h
      · rw [e, hg, yupdL_same, yL_or, Bool.or_eq_true, hp (h-1) j (by omega) hj, hq h (Nat.le_refl h)]
        constructor
        · rintro (h3 | ⟨h', h3, h4⟩)
          · exact ⟨h, Nat.le_refl h, h3⟩
          · exact ⟨h', by omega, h4⟩
        · rintro ⟨h', h3, h4⟩
          by_cases e' : h' = h
          · rw [e'] at h4; exact Or.inl h4
          · exact Or.inr ⟨h', by omega, h4⟩
      · rw [hg, yupdL_ne _ _ _ _ e]; exact hp x j (by omega) hj
    unfold wLX5_accepts_88 wLX5_accepts_1_88
    rw [e1, e2, yn_nat (by omega : h < 2147483648), yn_nat (by omega : h - 1 < 2147483648)]
    refine ⟨⟨fun hh => ?_, fun _ => ?_⟩, ⟨fun hh => ?_, fun _ => ?_⟩⟩
    · exfalso; rw [yn_lt (by omega) (by omega)] at hh; omega
    · refine ⟨yn_in (by omega) (by omega), yn_in (by omega) (by omega), yn_in (by omega) (by omega), fun g112 hg => ?_⟩
      exact (ih (h+1) g112 (by omega) (by omega) (by omega) (hnew g112 hg).1 (hnew g112 hg).2).1
    · exfalso; rw [yn_lt (by omega) (by omega)] at hh; omega
    · refine ⟨yn_in (by omega) (by omega), yn_in (by omega) (by omega), yn_in (by omega) (by omega), fun g112 hg => ?_⟩
      exact (ih (h+1) g112 (by omega) (by omega) (by omega) (hnew g112 hg).1 (hnew g112 hg).2).2

theorem yNb_sub (m : Nat) (p q : Nat → Bool) (h : ∀ i, i < m → p i = true → q i = true) : yNb m p ≤ yNb m q := by
  induction m with
  | zero => simp [yNb]
  | succ m ih =>
    simp only [yNb]
    have h1 := ih (fun i hi => h i (by omega))
    cases hp : p m with
    | false => simp; omega
    | true => rw [h m (by omega) hp]; simp; omega

theorem yS_le (m : Nat) (f g : Nat → Nat) (h : ∀ i, i < m → f i ≤ g i) : yS m f ≤ yS m g := by
  induction m with
  | zero => simp [yS]
  | succ m ih =>
    simp only [yS]
    have h1 := ih (fun i hi => h i (by omega))
    have h2 := h m (by omega)
    omega

theorem yCn_root {n : Nat} {g : Nat → Nat → Bool} {vis fin : Nat → Bool} {ht par : Nat → Nat} {op : Nat → Nat → Bool} {nb : Nat} {bs bl : Nat → Nat}
    {height parent opn : Nat → Int32} {own lower under : Nat → Int64} (hD : yDf n g vis fin ht par op nb bs bl)
    (h : yCn n vis fin ht par op nb bs bl height parent opn own lower under) (w : Nat) (hw : vis w = false) :
    yCn n (yUpd vis w true) fin (yUpd ht w 0) (yUpd par w 0) op nb bs bl (upd height w 0) (upd parent w (-1)) opn own lower under := by
  obtain ⟨c1, c2, c3, c4, c5, c6, c7, c8⟩ := h
  obtain ⟨d1, d2, d3, d4, d5, d6, d7, d8, d9, d10⟩ := hD
  have hne : ∀ x, vis x = true → x ≠ w := fun x hx e => by rw [e, hw] at hx; cases hx
  have q1 : ∀ {A : Type} (f : Nat → A) (y : A), yUpd f w y w = y := by intro A f y; unfold yUpd; rw [if_pos rfl]
  have q2 : ∀ {A : Type} (f : Nat → A) (y : A) (x : Nat), x ≠ w → yUpd f w y x = f x := by intro A f y x hx; unfold yUpd; rw [if_neg hx]
  have d2' : ∀ w, vis w = true → 0 < ht w → vis (par w) = true ∧ ht (par w) + 1 = ht w := fun w a b => ⟨(d2 w a b).1, (d2 w a b).2.2.1⟩
  have hup : ∀ x j, vis x = true → yUpp (yUpd ht w 0) (yUpd par w 0) x j = yUpp ht par x j := by
    intro x j hx
    unfold yUpp
    rw [q2 ht _ x (hne x hx)]
    exact yPar_same d2' (fun y a _ => q2 par 0 y (hne y a)) _ x hx (by omega)
  refine ⟨?_, ?_, ?_, ?_, c5, c6, c7, ?_⟩
  · intro x hx hvx
    by_cases e : x = w
    · rw [e, yupd_same, q1]; rfl
    · rw [yupd_ne _ _ _ _ e, q2 ht _ x e]
      rw [q2 vis _ x e] at hvx
      exact c1 x hx hvx
  · intro x hx hvx
    by_cases e : x = w
    · rw [e, q1] at hvx; cases hvx
    · rw [yupd_ne _ _ _ _ e]
      rw [q2 vis _ x e] at hvx
      exact c2 x hx hvx
  · intro x hx hvx h0
    by_cases e : x = w
    · rw [e, q1] at h0; omega
    · rw [yupd_ne _ _ _ _ e, q2 par _ x e]
      rw [q2 vis _ x e] at hvx
      rw [q2 ht _ x e] at h0
      exact c3 x hx hvx h0
  · intro x hx hvx h0
    by_cases e : x = w
    · rw [e, yupd_same]
    · rw [yupd_ne _ _ _ _ e]
      rw [q2 vis _ x e] at hvx
      rw [q2 ht _ x e] at h0
      exact c4 x hx hvx h0
  · intro x j hx hj
    rw [c8 x j hx hj]
    by_cases e : x = w
    · rw [e]
      constructor
      · rintro ⟨_, h2, _⟩; rw [hw] at h2; cases h2
      · rintro ⟨h1, _, h3, _⟩
        exfalso
        have hb := (d8 j h1).1
        have h5 := h3.2
        rw [hup _ _ hb, q1] at h5
        have := (yPar_vis d2' (ht (bs j) - 0) (bs j) hb (by omega)).1
        unfold yUpp at h5
        rw [h5, hw] at this; cases this
    · rw [q2 vis _ x e]
      by_cases hvx : vis x = true
      · constructor
        · rintro ⟨h1, h2, h3, h4⟩
          have hb := (d8 j h1).1
          refine ⟨h1, h2, ⟨?_, ?_⟩, ?_⟩
          · rw [q2 ht _ x e, q2 ht _ _ (hne _ hb)]; exact h3.1
          · rw [q2 ht _ x e, hup _ _ hb]; exact h3.2
          · rw [q2 ht _ x e, hup _ _ hb]; exact h4
        · rintro ⟨h1, h2, h3, h4⟩
          have hb := (d8 j h1).1
          have h5 := h3.1
          have h6 := h3.2
          rw [q2 ht _ x e, q2 ht _ _ (hne _ hb)] at h5
          rw [q2 ht _ x e, hup _ _ hb] at h6
          rw [q2 ht _ x e, hup _ _ hb] at h4
          exact ⟨h1, h2, ⟨h5, h6⟩, h4⟩
      · constructor
        · rintro ⟨_, h2, _⟩; exact absurd h2 hvx
        · rintro ⟨_, h2, _⟩; exact absurd h2 hvx

section
variable {n : Nat} {g : Nat → Nat → Bool}

theorem w_acc57 (hn : n ≤ 21) (hg : ∀ v w, g v w = true → v < n ∧ w < n ∧ v ≠ w) (hs : ∀ v w, g v w = g w v)
    (hE : yS n (fun v => yNb 32 (g v)) ≤ 115)
    (f9 : Nat → Int64) (f10 : Nat → Int32) (f11 f12 : Nat → Int64) (u51 : Int32 × Int32 × (Nat → Int64) × (Nat → Int32) × (Nat → Int32) × (Nat → Int64) × (Nat → Int64)) (hu : u51.2.1 = 0)
    (K : Int32 → (Int32 × Int32 × (Nat → Int64) × (Nat → Int32) × (Nat → Int32) × (Nat → Int64) × (Nat → Int64) × (Nat → Int32) × (Nat → Int64) × (Nat → Int32) × (Nat → Int64) × (Nat → Int64)) → Prop)
    (hK1 : (∃ lab : Bool → Nat → Nat, yDs 1024 yI (yGr g) (fun _ => false) (lab false) (lab true)) → ∀ u, K 1 u)
    (hK0 : (¬ ∃ lab : Bool → Nat → Nat, yDs 1024 yI (yGr g) (fun _ => false) (lab false) (lab true)) → ∀ u, K 0 u) :
    ∀ d w vis fin ht par op nb bs bl height parent opn own lower under, n - w = d → w ≤ n → yDf n g vis fin ht par op nb bs bl →
      yCn n vis fin ht par op nb bs bl height parent opn own lower under → (∀ x, vis x = true → fin x = true) → (∀ v, v < w → vis v = true) →
      wLX5_accepts_57 f9 f10 f11 f12 (Int32.ofNat n) u51 K (d+1) lower height opn own under parent (Int32.ofNat nb) (Int32.ofNat w) ∧
      wLX5_accepts_1_57 f9 f10 f11 f12 (Int32.ofNat n) u51 K (d+1) lower height opn own under parent (Int32.ofNat nb) (Int32.ofNat w) := by
  intro d
  induction d with
  | zero =>
    intro w vis fin ht par op nb bs bl height parent opn own lower under hd hw hD hC hfin hall
    have hall' : ∀ v, v < n → vis v = true := fun v hv => hall v (by omega)
    have hnb := yDf_backs (by omega) hg hs hD
    have hopf : ∀ v x, v < n → op v x = false := fun v x hv => (hD.2.2.2.2.1 v (hfin v (hall' v hv))).2 x
    have hiff := yDf_plane (by omega) hg hs hD hall' hopf
    have h1eq : (1 : Int32) = Int32.ofNat 1 := rfl
    have h0eq : (0 : Int32) = Int32.ofNat 0 := rfl
    have h88 := w_acc88 hn f9 f10 f11 f12 u51 height opn own under parent (Int32.ofNat nb) lower K (by
      intro lower' hl
      have hA := yCn_ar hn (by omega) hD hC hall' hfin lower' hl
      rw [hu, h0eq]
      have := w_acc122 (opn := opn) hA K (fun hh => hK1 (hiff.1 hh)) (fun hh => hK0 (fun hx => hh (hiff.2 hx))) n 0 0 f11 f12 f9 f10 (by omega) (by omega)
        ⟨fun i i' j hi => by omega, fun i hi => by omega, fun i j hi => by omega⟩ (fun i j hi => by omega)
        (fun σ => ⟨fun _ v' hv' => by omega, fun _ i hi => by omega⟩)
      exact ⟨⟨_, this.1⟩, ⟨_, this.2⟩⟩) n 1 lower (by omega) (by omega) (by omega) (by
        intro x j hx hj
        have : x = 0 := by omega
        rw [this]
        constructor
        · intro hh; exact ⟨0, Nat.le_refl 0, hh⟩
        · rintro ⟨h', h1, h2⟩
          have : h' = 0 := by omega
          rw [this] at h2; exact h2) (fun x _ => rfl)
    unfold wLX5_accepts_57 wLX5_accepts_1_57
    rw [h1eq]
    refine ⟨⟨fun _ => ⟨_, h88.1⟩, fun hh => ?_⟩, ⟨fun _ => ⟨_, h88.2⟩, fun hh => ?_⟩⟩
    all_goals (exfalso; apply hh; rw [yn_le (by omega) (by omega)]; omega)
  | succ d ih =>
    intro w vis fin ht par op nb bs bl height parent opn own lower under hd hw hD hC hfin hall
    have hwn : w < n := by omega
    have e1 : Int32.ofNat w + 1 = Int32.ofNat (w+1) := yn_add w 1
    have hC' := hC
    obtain ⟨c1, c2, c3, c4, c5, c6, c7, c8⟩ := hC'
    have h0eq : (0 : Int32) = Int32.ofNat 0 := rfl
    have hvis : 0 ≤ height w → vis w = true := by
      intro h
      cases hh : vis w with
      | true => rfl
      | false => rw [c2 w hwn hh] at h; exact absurd h (by decide)
    have hnvis : ¬ 0 ≤ height w → vis w = false := by
      intro h
      cases hh : vis w with
      | false => rfl
      | true =>
        exfalso; apply h
        rw [c1 w hwn hh, h0eq, yn_le (by omega) (by have := yDf_ht hD w hh; omega)]; omega
    have hsearch : ∀ (F : (Int32 × (Nat → Int32) × (Nat → Int32) × (Nat → Int32) × (Nat → Int64) × (Nat → Int64) × (Nat → Int64)) → Prop),
        (∀ vis fin ht par op nb bs bl height parent opn own lower under, yDf n g vis fin ht par op nb bs bl → yCn n vis fin ht par op nb bs bl height parent opn own lower under →
          (∀ x, vis x = true → fin x = true) → (∀ v, v < w + 1 → vis v = true) → F (Int32.ofNat nb, height, parent, opn, own, lower, under)) →
        vis w = false → wX5_searchFrom (Int32.ofNat nb) (u51.2.1) height parent opn own lower under (Int32.ofNat w) F := by
      intro F hF hv
      have hD2 := yDf_root hD w hwn hv hfin 0
      have hC2 := yCn_root hD hC w hv
      unfold wX5_searchFrom
      rw [yn_nat (by omega : w < 2147483648)]
      refine ⟨yn_in (by omega) (by omega), fun g6 h6 => ⟨yn_in (by omega) (by omega), fun g13 h13 => ?_⟩⟩
      rw [← h6, ← h13] at hC2
      have q1 : yUpd vis w true w = true := by unfold yUpd; rw [if_pos rfl]
      have hfw : fin w = false := by
        cases hh : fin w with
        | false => rfl
        | true => rw [(hD.2.2.2.2.1 w hh).1] at hv; cases hv
      have hm : yS n (fun a => yNb 32 (op a)) + yNb n (fun a => !fin a) ≤ 115 + 21 := by
        have m1 : yS n (fun a => yNb 32 (op a)) ≤ yS n (fun a => yNb 32 (g a)) := by
          apply yS_le
          intro a _
          apply yNb_sub
          intro b _ hb
          exact hD.2.2.1 a b hb
        have m2 := yNb_le n (fun a => !fin a)
        omega
      refine ⟨(yS n (fun a => yNb 32 (op a)) + yNb n (fun a => !fin a)) + 1, ?_⟩
      rw [h0eq]
      refine w_searchL hn hg hs hE _ (yUpd vis w true) F ?_ (yS n (fun a => yNb 32 (op a)) + yNb n (fun a => !fin a)) (yUpd vis w true) fin (yUpd ht w 0) (yUpd par w 0) op nb bs bl g6 g13 opn own lower under w 0 hD2 hC2 hwn q1 hfw ?_ (fun x hx => hx) rfl (by omega)
      · intro vis' fin' ht' par' op' nb' bs' bl' height' parent' opn' own' lower' under' k1 k2 k3 k4
        refine hF vis' fin' ht' par' op' nb' bs' bl' height' parent' opn' own' lower' under' k1 k2 k3 ?_
        intro v hv'
        apply k4
        unfold yUpd
        by_cases e : v = w
        · rw [if_pos e]
        · rw [if_neg e]; exact hall v (by omega)
      · intro x hx hfx
        by_cases e : x = w
        · rw [e]; exact yAn_refl w
        · exfalso
          have : vis x = true := by unfold yUpd at hx; rw [if_neg e] at hx; exact hx
          rw [hfin x this] at hfx; cases hfx
    unfold wLX5_accepts_57 wLX5_accepts_1_57
    rw [e1, yn_nat (by omega : w < 2147483648)]
    have hgo : 0 ≤ height w → ∀ v, v < w + 1 → vis v = true := by
      intro h v hv
      by_cases e : v = w
      · rw [e]; exact hvis h
      · exact hall v (by omega)
    refine ⟨⟨fun hh => ?_, fun _ => ⟨yn_in (by omega) (by omega), fun h => ?_, fun h => ?_⟩⟩, ⟨fun hh => ?_, fun _ => ⟨yn_in (by omega) (by omega), fun h => ?_, fun h => ?_⟩⟩⟩
    · exfalso; rw [yn_le (by omega) (by omega)] at hh; omega
    · exact (ih (w+1) vis fin ht par op nb bs bl height parent opn own lower under (by omega) (by omega) hD hC hfin (hgo h)).1
    · refine hsearch _ ?_ (hnvis h)
      intro vis' fin' ht' par' op' nb' bs' bl' height' parent' opn' own' lower' under' k1 k2 k3 k4
      exact (ih (w+1) vis' fin' ht' par' op' nb' bs' bl' height' parent' opn' own' lower' under' (by omega) (by omega) k1 k2 k3 k4).1
    · exfalso; rw [yn_le (by omega) (by omega)] at hh; omega
    · exact (ih (w+1) vis fin ht par op nb bs bl height parent opn own lower under (by omega) (by omega) hD hC hfin (hgo h)).2
    · refine hsearch _ ?_ (hnvis h)
      intro vis' fin' ht' par' op' nb' bs' bl' height' parent' opn' own' lower' under' k1 k2 k3 k4
      exact (ih (w+1) vis' fin' ht' par' op' nb' bs' bl' height' parent' opn' own' lower' under' (by omega) (by omega) k1 k2 k3 k4).2
end

theorem w_fillL (x : Int64) (K : (Nat → Int64) → Prop) (hK : ∀ f, (∀ i, i < 22 → f i = x) → K f) :
    ∀ d i f, 22 - i = d → i ≤ 22 → (∀ j, j < i → f j = x) → wLJ7_fill_d0a16_6 x K (d+1) f (Int32.ofNat i) := by
  have e22 : (22 : Int32) = Int32.ofNat 22 := rfl
  intro d
  induction d with
  | zero =>
    intro i f hd hi hf
    unfold wLJ7_fill_d0a16_6
    refine ⟨fun _ => hK f (fun j hj => hf j (by omega)), fun hh => ?_⟩
    exfalso; apply hh; rw [e22, yn_le (by omega) (by omega)]; omega
  | succ d ih =>
    intro i f hd hi hf
    unfold wLJ7_fill_d0a16_6
    refine ⟨fun hh => ?_, fun _ => ⟨yn_in (by omega) (by omega), fun g15 h15 => ?_⟩⟩
    · exfalso; rw [e22, yn_le (by omega) (by omega)] at hh; omega
    · have e1 : Int32.ofNat i + 1 = Int32.ofNat (i+1) := yn_add i 1
      rw [e1]
      rw [yn_nat (by omega)] at h15
      refine ih (i+1) g15 (by omega) (by omega) ?_
      intro j hj
      by_cases e : j = i
      · rw [e, h15, yupdL_same]
      · rw [h15, yupdL_ne _ _ _ _ e]; exact hf j (by omega)

theorem w_prepL {n : Nat} (hn : n ≤ 21) (f4 : Nat → Int32) (u15 : Nat → Int64)
    (K : (Int32 × Int32 × (Nat → Int64) × (Nat → Int32) × (Nat → Int32) × (Nat → Int64) × (Nat → Int64)) → Prop)
    (hK : ∀ h o w u, (∀ v, v < n → h v = -1 ∧ o v = f4 v ∧ w v = 0 ∧ u v = 0) → K (0, 0, u15, h, o, w, u)) :
    ∀ d i h o w u, n - i = d → i ≤ n → (∀ v, v < i → h v = -1 ∧ o v = f4 v ∧ w v = 0 ∧ u v = 0) →
      (n ≤ 20 → wLX5_prepare_20 f4 (Int32.ofNat n) u15 K (d+1) h o w u (Int32.ofNat i)) ∧
      wLX5_prepare_1_20 f4 (Int32.ofNat n) u15 K (d+1) h o w u (Int32.ofNat i) := by
  intro d
  induction d with
  | zero =>
    intro i h o w u hd hi hx
    have hk := hK h o w u (fun v hv => hx v (by omega))
    unfold wLX5_prepare_20 wLX5_prepare_1_20
    refine ⟨fun _ => ⟨fun _ => hk, fun hh => ?_⟩, ⟨fun _ => hk, fun hh => ?_⟩⟩
    all_goals (exfalso; apply hh; rw [yn_le (by omega) (by omega)]; omega)
  | succ d ih =>
    intro i h o w u hd hi hx
    have e1 : Int32.ofNat i + 1 = Int32.ofNat (i+1) := yn_add i 1
    have hnew : ∀ g31 g40 g47 g54, g31 = upd h i (-1) → g40 = upd o i (f4 i) → g47 = vp_updL w i 0 → g54 = vp_updL u i 0 →
        ∀ v, v < i + 1 → g31 v = -1 ∧ g40 v = f4 v ∧ g47 v = 0 ∧ g54 v = 0 := by
      intro g31 g40 g47 g54 h1 h2 h3 h4 v hv
      by_cases e : v = i
      · rw [e, h1, h2, h3, h4, yupd_same, yupd_same, yupdL_same, yupdL_same]; exact ⟨rfl, rfl, rfl, rfl⟩
      · rw [h1, h2, h3, h4, yupd_ne _ _ _ _ e, yupd_ne _ _ _ _ e, yupdL_ne _ _ _ _ e, yupdL_ne _ _ _ _ e]; exact hx v (by omega)
    unfold wLX5_prepare_20 wLX5_prepare_1_20
    rw [e1, yn_nat (by omega : i < 2147483648)]
    refine ⟨fun h20 => ⟨fun hh => ?_, fun _ => ?_⟩, ⟨fun hh => ?_, fun _ => ?_⟩⟩
    · exfalso; rw [yn_le (by omega) (by omega)] at hh; omega
    · refine ⟨yn_in (by omega) (by omega), fun g31 h1 => ⟨yn_in (by omega) (by omega), yn_in (by omega) (by omega), fun g40 h2 => ⟨yn_in (by omega) (by omega), fun g47 h3 =>
        ⟨yn_in (by omega) (by omega), fun g54 h4 => ?_⟩⟩⟩⟩
      exact (ih (i+1) g31 g40 g47 g54 (by omega) (by omega) (hnew g31 g40 g47 g54 h1 h2 h3 h4)).1 h20
    · exfalso; rw [yn_le (by omega) (by omega)] at hh; omega
    · refine ⟨yn_in (by omega) (by omega), fun g31 h1 => ⟨yn_in (by omega) (by omega), yn_in (by omega) (by omega), fun g40 h2 => ⟨yn_in (by omega) (by omega), fun g47 h3 =>
        ⟨yn_in (by omega) (by omega), fun g54 h4 => ?_⟩⟩⟩⟩
      exact (ih (i+1) g31 g40 g47 g54 (by omega) (by omega) (hnew g31 g40 g47 g54 h1 h2 h3 h4)).2

theorem w_acc12 {n : Nat} (h3 : 3 ≤ n) (hn : n ≤ 21) (f4 : Nat → Int32)
    (hg : ∀ v w, yGm n f4 v w = true → v < n ∧ w < n ∧ v ≠ w) (hs : ∀ v w, yGm n f4 v w = yGm n f4 w v)
    (i0 i1 : Int32) (f2 : Nat → Int64) (f3 f5 : Nat → Int32) (f6 f7 : Nat → Int64) (f8 : Nat → Int32) (f9 : Nat → Int64) (f10 : Nat → Int32) (f11 f12 : Nat → Int64)
    (K : Int32 → (Int32 × Int32 × (Nat → Int64) × (Nat → Int32) × (Nat → Int32) × (Nat → Int64) × (Nat → Int64) × (Nat → Int32) × (Nat → Int64) × (Nat → Int32) × (Nat → Int64) × (Nat → Int64)) → Prop)
    (hK1 : yPln n (yGm n f4) → ∀ u, K 1 u) (hK0 : ¬ yPln n (yGm n f4) → ∀ u, K 0 u) :
    ∀ d v, n - v = d → v ≤ n →
      (n ≤ 20 → wLX5_accepts_12 i0 i1 f2 f3 f4 f5 f6 f7 f8 f9 f10 f11 f12 (Int32.ofNat n) K (d+1) (Int32.ofNat (yS v (fun x => yNb 32 (yM (f4 x))))) (Int32.ofNat v)) ∧
      wLX5_accepts_1_12 i0 i1 f2 f3 f4 f5 f6 f7 f8 f9 f10 f11 f12 (Int32.ofNat n) K (d+1) (Int32.ofNat (yS v (fun x => yNb 32 (yM (f4 x))))) (Int32.ofNat v) := by
  have hbound : ∀ v, v ≤ n → yS v (fun x => yNb 32 (yM (f4 x))) ≤ 32 * v := by
    intro v
    induction v with
    | zero => intro _; simp [yS]
    | succ v ih =>
      intro hv
      simp only [yS]
      have := ih (by omega)
      have := yNb_le 32 (yM (f4 v))
      omega
  intro d
  induction d with
  | zero =>
    intro v hd hv
    have hvn : v = n := by omega
    have hsum : yS v (fun x => yNb 32 (yM (f4 x))) = yS n (fun x => yNb 32 (yGm n f4 x)) := by
      rw [hvn]
      apply yS_congr
      intro x hx
      apply yNb_congr
      intro b _
      unfold yGm; simp [hx]
    have hb := hbound v hv
    have e2 : (2 : Int32) = Int32.ofNat 2 := rfl
    have e3 : (3 : Int32) = Int32.ofNat 3 := rfl
    have e6 : (6 : Int32) = Int32.ofNat 6 := rfl
    have h0eq : (0 : Int32) = Int32.ofNat 0 := rfl
    -- the question of how many
    have hq : (Int32.ofNat (yS v (fun x => yNb 32 (yM (f4 x)))) / 2 ≤ (3 : Int32) * Int32.ofNat n - 6) ↔ yS n (fun x => yNb 32 (yGm n f4 x)) / 2 ≤ 3 * n - 6 := by
      rw [e2, e3, e6, yn_div (by omega) (by omega), yn_mul, yn_sub (by omega), yn_le (by omega) (by omega), hsum]
    have hmain : yS n (fun x => yNb 32 (yGm n f4 x)) / 2 ≤ 3 * n - 6 → ∀ (lower0 : Nat → Int64), (∀ i, i < 22 → lower0 i = 0) → ∀ h o w u, (∀ v, v < n → h v = -1 ∧ o v = f4 v ∧ w v = 0 ∧ u v = 0) →
        (∃ m, wLX5_accepts_57 f9 f10 f11 f12 (Int32.ofNat n) (0, 0, lower0, h, o, w, u) K m lower0 h o w u f8 0 0) ∧
        (∃ m, wLX5_accepts_1_57 f9 f10 f11 f12 (Int32.ofNat n) (0, 0, lower0, h, o, w, u) K m lower0 h o w u f8 0 0) := by
      intro hle lower0 hl h o w u hx
      rw [h0eq]
      have := w_acc57 hn hg hs (by omega) f9 f10 f11 f12 (Int32.ofNat 0, Int32.ofNat 0, lower0, h, o, w, u) rfl K
        (fun hp => hK1 (Or.inr ⟨hle, hp⟩)) (fun hp => hK0 (fun hh => by rcases hh with hh | hh; omega; exact hp hh.2))
        n 0 (fun _ => false) (fun _ => false) (fun _ => 0) (fun _ => 0) (yGm n f4) 0 (fun _ => 0) (fun _ => 0) h f8 o w lower0 u (by omega) (by omega) yDf_start
        ⟨fun v _ hh => by (cases hh), fun v hv _ => (hx v hv).1, fun v _ hh => by (cases hh), fun v _ hh => by (cases hh),
          fun a b ha hb => by rw [(hx a ha).2.1]; unfold yGm; simp [ha],
          fun a j ha hj => by rw [(hx a ha).2.2.1, yL_zero]; simp,
          fun a j ha hj => by rw [hl a (by omega), yL_zero]; simp,
          fun a j ha hj => by rw [(hx a ha).2.2.2, yL_zero]; simp⟩
        (fun x hh => by (cases hh)) (fun v hv => by omega)
      exact ⟨⟨_, this.1⟩, ⟨_, this.2⟩⟩
    have hno : ¬ (yS n (fun x => yNb 32 (yGm n f4 x)) / 2 ≤ 3 * n - 6) → ∀ u, K 0 u := by
      intro hh
      apply hK0
      intro hp
      rcases hp with hp | hp
      · omega
      · exact hh hp.1
    unfold wLX5_accepts_12 wLX5_accepts_1_12
    refine ⟨fun h20 => ⟨fun _ => ⟨fun hle => ?_, fun hnle => ?_⟩, fun hh => ?_⟩, ⟨fun _ => ⟨fun hle => ?_, fun hnle => ?_⟩, fun hh => ?_⟩⟩
    · rw [hq] at hle
      unfold wX5_prepare wJ7_fill_d0a16
      refine ⟨_, w_fillL _ _ ?_ 22 0 f2 (by omega) (by omega) (fun j hj => by omega)⟩
      intro lower0 hl
      refine ⟨_, (w_prepL hn f4 lower0 _ ?_ n 0 f3 f5 f6 f7 (by omega) (by omega) (fun v hv => by omega)).1 h20⟩
      intro h o w u hx
      exact (hmain hle lower0 hl h o w u hx).1
    · rw [hq] at hnle; exact hno hnle _
    · exfalso; apply hh; rw [yn_le (by omega) (by omega)]; omega
    · rw [hq] at hle
      unfold wX5_prepare_1 wJ7_fill_d0a16
      refine ⟨_, w_fillL _ _ ?_ 22 0 f2 (by omega) (by omega) (fun j hj => by omega)⟩
      intro lower0 hl
      refine ⟨_, (w_prepL hn f4 lower0 _ ?_ n 0 f3 f5 f6 f7 (by omega) (by omega) (fun v hv => by omega)).2⟩
      intro h o w u hx
      exact (hmain hle lower0 hl h o w u hx).2
    · rw [hq] at hnle; exact hno hnle _
    · exfalso; apply hh; rw [yn_le (by omega) (by omega)]; omega
  | succ d ih =>
    intro v hd hv
    have e1 : Int32.ofNat v + 1 = Int32.ofNat (v+1) := yn_add v 1
    have hadd : Int32.ofNat (yS v (fun x => yNb 32 (yM (f4 x)))) + Int32.ofNat (yNb 32 (yM (f4 v))) = Int32.ofNat (yS (v+1) (fun x => yNb 32 (yM (f4 x)))) := by
      rw [yn_add]; rfl
    unfold wLX5_accepts_12 wLX5_accepts_1_12
    rw [e1, yn_nat (by omega : v < 2147483648)]
    refine ⟨fun h20 => ⟨fun hh => ?_, fun _ => ⟨yn_in (by omega) (by omega), ?_⟩⟩, ⟨fun hh => ?_, fun _ => ⟨yn_in (by omega) (by omega), ?_⟩⟩⟩
    · exfalso; rw [yn_le (by omega) (by omega)] at hh; omega
    · apply w_bitCount
      intro v27 hv27
      rw [hv27, hadd]
      exact (ih (v+1) (by omega) (by omega)).1 h20
    · exfalso; rw [yn_le (by omega) (by omega)] at hh; omega
    · apply w_bitCount
      intro v27 hv27
      rw [hv27, hadd]
      exact (ih (v+1) (by omega) (by omega)).2

theorem w_accepts {n : Nat} (hn : n ≤ 21) (f4 : Nat → Int32)
    (hg : ∀ v w, yGm n f4 v w = true → v < n ∧ w < n ∧ v ≠ w) (hs : ∀ v w, yGm n f4 v w = yGm n f4 w v)
    (i0 i1 : Int32) (f2 : Nat → Int64) (f3 f5 : Nat → Int32) (f6 f7 : Nat → Int64) (f8 : Nat → Int32) (f9 : Nat → Int64) (f10 : Nat → Int32) (f11 f12 : Nat → Int64)
    (K : Int32 → (Int32 × Int32 × (Nat → Int64) × (Nat → Int32) × (Nat → Int32) × (Nat → Int64) × (Nat → Int64) × (Nat → Int32) × (Nat → Int64) × (Nat → Int32) × (Nat → Int64) × (Nat → Int64)) → Prop)
    (hK1 : yPln n (yGm n f4) → ∀ u, K 1 u) (hK0 : ¬ yPln n (yGm n f4) → ∀ u, K 0 u) :
    (n ≤ 20 → wX5_accepts i0 i1 f2 f3 f4 f5 f6 f7 f8 f9 f10 f11 f12 (Int32.ofNat n) K) ∧
    wX5_accepts_1 i0 i1 f2 f3 f4 f5 f6 f7 f8 f9 f10 f11 f12 (Int32.ofNat n) K := by
  have e3 : (3 : Int32) = Int32.ofNat 3 := rfl
  have h0eq : (0 : Int32) = Int32.ofNat 0 := rfl
  unfold wX5_accepts wX5_accepts_1
  have hlow : ¬ (3 : Int32) ≤ Int32.ofNat n → ∀ u, K 1 u := by
    intro h
    rw [e3, yn_le (by omega) (by omega)] at h
    exact hK1 (Or.inl (by omega))
  have hbig : (3 : Int32) ≤ Int32.ofNat n → 3 ≤ n := by
    intro h
    rw [e3, yn_le (by omega) (by omega)] at h; exact h
  refine ⟨fun h20 => ⟨fun h => ?_, fun h => hlow h _⟩, ⟨fun h => ?_, fun h => hlow h _⟩⟩
  · rw [h0eq]
    exact ⟨_, (w_acc12 (hbig h) hn f4 hg hs i0 i1 f2 f3 f5 f6 f7 f8 f9 f10 f11 f12 K hK1 hK0 n 0 (by omega) (by omega)).1 h20⟩
  · rw [h0eq]
    exact ⟨_, (w_acc12 (hbig h) hn f4 hg hs i0 i1 f2 f3 f5 f6 f7 f8 f9 f10 f11 f12 K hK1 hK0 n 0 (by omega) (by omega)).2⟩


theorem w_fill400 (x : Int32) (f0 : Nat → Int32) (K : (Nat → Int32) → Prop) (hK : ∀ f, (∀ i, i < 400 → f i = x) → K f) : wJ7_fill_53178_1 f0 x K := by
  have key : ∀ d i t, 400 - i = d → i ≤ 400 → (∀ j, j < i → t j = x) → wLJ7_fill_53178_1_5 x K (d+1) t (Int32.ofNat i) := by
    have e4 : (400 : Int32) = Int32.ofNat 400 := rfl
    intro d
    induction d with
    | zero =>
      intro i t hd hi ht
      unfold wLJ7_fill_53178_1_5
      refine ⟨fun _ => hK t (fun j hj => ht j (by omega)), fun hh => ?_⟩
      exfalso; apply hh; rw [e4, yn_le (by omega) (by omega)]; omega
    | succ d ih =>
      intro i t hd hi ht
      have e1 : Int32.ofNat i + 1 = Int32.ofNat (i+1) := yn_add i 1
      unfold wLJ7_fill_53178_1_5
      rw [e1, yn_nat (by omega)]
      refine ⟨fun hh => ?_, fun _ => ⟨yn_in (by omega) (by omega), fun g hg => ih (i+1) g (by omega) (by omega) ?_⟩⟩
      · exfalso; rw [e4, yn_le (by omega) (by omega)] at hh; omega
      · intro j hj
        rw [hg]
        by_cases c : j = i
        · rw [c, yupd_same]
        · rw [yupd_ne _ _ _ _ c]; exact ht j (by omega)
  unfold wJ7_fill_53178_1
  exact ⟨400 - 0 + 1, key (400-0) 0 f0 rfl (by omega) (fun j hj => by omega)⟩

section
variable {n F : Nat} {fl : Nat → Int32} {fo ρ : Nat → Nat → Nat}

theorem w_isFace3 (h : yTg n (yGm n fl) F fo ρ) {a b c : Nat} (hab : yGm n fl a b = true) (hbc : yGm n fl b c = true) (hca : yGm n fl c a = true) (K : Int32 → Unit → Prop)
    (hK1 : (c = ρ a b ∨ c = ρ b a) → K 1 ()) (hK0 : ¬ (c = ρ a b ∨ c = ρ b a) → K 0 ()) : wX6_isFace (Int32.ofNat n) fl (Int32.ofNat a) (Int32.ofNat b) (Int32.ofNat c) K := by
  rcases Nat.lt_or_ge n 4 with c4 | c4
  · have hn3 := h.1
    have hn : n = 3 := by omega
    have g1 := yTg_gr h hab; have g2 := yTg_gr h hbc; have g3 := yTg_gr h hca
    have th := yTg_th h hab
    have g4 := yTg_gr h th.2.1; have g5 := yTg_gr h th.2.2.1
    unfold wX6_isFace
    intro oth hoth
    have hz : oth = 0 := by
      rw [yM_eq0]
      intro x hx
      rw [hoth, yM_and, yM_all (by omega) x hx, yM_not _ x hx, yM_or, yM_or, yM_shl (by omega) x hx, yM_shl (by omega) x hx, yM_shl (by omega) x hx]
      by_cases d : x < n
      · have : x = a ∨ x = b ∨ x = c := by omega
        rcases this with e | e | e <;> simp [e]
      · simp [d]
    refine ⟨fun _ => hK1 (Or.inl (by omega)), fun hh => absurd hz hh⟩
  · exact w_isFace h c4 hab hbc hca K hK1 hK0

theorem w_findFaces (h : yTg n (yGm n fl) F fo ρ) (f0 : Nat → Int32) (K : (Nat → Int32) → Prop) (hK : ∀ th, (∀ a b, yGm n fl a b = true → ∀ c, c < 32 → (yM (th (20*a+b)) c = true ↔ (c = ρ a b ∨ c = ρ b a))) → K th) :
    wX6_findFaces f0 (Int32.ofNat n) fl K := by
  have hn := h.2.1
  have h0eq : (0 : Int32) = Int32.ofNat 0 := rfl
  have hgm : ∀ p q, p < n → yGm n fl p q = yM (fl p) q := fun p q hp => by unfold yGm; rw [decide_eq_true hp, Bool.true_and]
  -- bits outside the nodes stay empty
  let Inv : Nat → (Nat → Int32) → Prop := fun c th => yTh n (yGm n fl) ρ c th ∧ ∀ x y z, x < n → y < n → z < 32 → (n ≤ z ∨ z = x ∨ z = y) → yM (th (20*x+y)) z = false
  have h72_1 : ∀ (a b : Nat) (_ : a < b) (_ : b < n) (_ : yGm n fl a b = true) (v65 : Int32) (_ : ∀ c, c < n → (yM v65 c = true ↔ (yGm n fl b c = true ∧ yGm n fl c a = true))) (B : (Nat → Int32) → Int32 → Prop)
      (_ : ∀ th, Inv (1024*a+32*b+n) th → B th (Int32.ofNat (b+1))),
      ∀ d c th, n - c = d → c ≤ n → b < c → Inv (1024*a+32*b+c) th → wLX6_findFaces_72_1 (Int32.ofNat n) fl (Int32.ofNat a) (Int32.ofNat b) v65 K B (d+1) th (Int32.ofNat c) := by
    intro a b hab hb hgab v65 h65 B hB d
    have eb : Int32.ofNat b + 1 = Int32.ofNat (b+1) := yn_add b 1
    induction d with
    | zero =>
      intro c th hd hc hbc hI
      have : c = n := by omega
      subst this
      unfold wLX6_findFaces_72_1
      rw [eb]
      refine ⟨fun _ => hB th hI, fun hh => ?_⟩
      exfalso; apply hh; rw [yn_le (by omega) (by omega)]; omega
    | succ d ih =>
      intro c th hd hc hbc hI
      have e1 : Int32.ofNat c + 1 = Int32.ofNat (c+1) := yn_add c 1
      have hno : ¬ yFt (yGm n fl) ρ a b c → Inv (1024*a+32*b+(c+1)) th := by
        intro hf
        refine ⟨yTh_move hn h hI.1 (by omega) ?_, hI.2⟩
        intro p q r hpq hqr hr k1 k2
        have : p = a ∧ q = b ∧ r = c := by omega
        rw [this.1, this.2.1, this.2.2]; exact hf
      unfold wLX6_findFaces_72_1
      rw [e1]
      refine ⟨fun hh => ?_, fun _ => ?_⟩
      · exfalso; rw [yn_le (by omega) (by omega)] at hh; omega
      · refine w_hasBit (by omega) _ (fun hbit => ?_) (fun hbit => ?_)
        · refine ⟨fun hh => absurd hh (by decide), fun _ => ?_⟩
          obtain ⟨hgbc, hgca⟩ := (h65 c (by omega)).1 hbit
          refine w_isFace3 h hgab hgbc hgca _ (fun hf => ?_) (fun hf => ?_)
          · refine ⟨fun hh => absurd hh (by decide), fun _ => ?_⟩
            refine w_addFace (by omega) (by omega) (by omega) (by omega) th _ ?_
            intro t1 h1
            refine w_addFace (by omega) (by omega) (by omega) (by omega) t1 _ ?_
            intro t2 h2
            refine w_addFace (by omega) (by omega) (by omega) (by omega) t2 _ ?_
            intro t3 h3
            have hall : ∀ x y z, x < 20 → y < 20 → z < 32 → (yM (t3 (20*x+y)) z = true ↔ (yM (th (20*x+y)) z = true ∨ (((x = a ∧ y = b) ∨ (x = b ∧ y = a)) ∧ z = c) ∨ (((x = b ∧ y = c) ∨ (x = c ∧ y = b)) ∧ z = a) ∨ (((x = c ∧ y = a) ∨ (x = a ∧ y = c)) ∧ z = b))) := by
              intro x y z hx hy hz
              rw [h3 x y z hx hy hz, h2 x y z hx hy hz, h1 x y z hx hy hz]
              simp only [Bool.or_eq_true, decide_eq_true_iff, or_assoc]
            refine ih (c+1) t3 (by omega) (by omega) (by omega) ⟨yTh_add hn h hab hbc (by omega) hI.1 ⟨hgab, hgbc, hgca, hf⟩ hall, ?_⟩
            intro x y z hx hy hz hzz
            cases hh : yM (t3 (20*x+y)) z with
            | false => rfl
            | true =>
              exfalso
              rcases (hall x y z (by omega) (by omega) hz).1 hh with d1 | d1 | d1 | d1
              · rw [hI.2 x y z hx hy hz hzz] at d1; cases d1
              · omega
              · omega
              · omega
          · refine ⟨fun _ => ih (c+1) th (by omega) (by omega) (by omega) (hno (fun hh => hf hh.2.2.2)), fun hh => absurd rfl hh⟩
        · refine ⟨fun _ => ih (c+1) th (by omega) (by omega) (by omega) (hno (fun hh => ?_)), fun hh => absurd rfl hh⟩
          have := (h65 c (by omega)).2 ⟨hh.2.1, hh.2.2.1⟩
          rw [hbit] at this; cases this
  have h72 : ∀ (a b : Nat) (_ : a < b) (_ : b < n) (B : (Nat → Int32) → Int32 → Prop) (th : Nat → Int32) (_ : B th (Int32.ofNat (b+1))),
      ∀ d c, n - c = d → c ≤ n → wLX6_findFaces_72 (Int32.ofNat n) fl (Int32.ofNat a) (Int32.ofNat b) K B (d+1) th (Int32.ofNat c) := by
    intro a b hab hb B th hB d
    have eb : Int32.ofNat b + 1 = Int32.ofNat (b+1) := yn_add b 1
    induction d with
    | zero =>
      intro c hd hc
      unfold wLX6_findFaces_72
      rw [eb]
      refine ⟨fun _ => hB, fun hh => ?_⟩
      exfalso; apply hh; rw [yn_le (by omega) (by omega)]; omega
    | succ d ih =>
      intro c hd hc
      have e1 : Int32.ofNat c + 1 = Int32.ofNat (c+1) := yn_add c 1
      unfold wLX6_findFaces_72
      rw [e1]
      refine ⟨fun hh => ?_, fun _ => ?_⟩
      · exfalso; rw [yn_le (by omega) (by omega)] at hh; omega
      · refine w_hasBit (by omega) _ (fun hbit => ?_) (fun hbit => ?_)
        · rw [yM_zero] at hbit; cases hbit
        · exact ⟨fun _ => ih (c+1) (by omega) (by omega), fun hh => absurd rfl hh⟩
  have h33 : ∀ (a : Nat) (_ : a < n) (B : (Nat → Int32) → Int32 → Prop) (_ : ∀ th, Inv (1024*a+32*n) th → B th (Int32.ofNat (a+1))),
      ∀ d b th, n - b = d → b ≤ n → a < b → Inv (1024*a+32*b) th → wLX6_findFaces_33 (Int32.ofNat n) fl (Int32.ofNat a) K B (d+1) th (Int32.ofNat b) := by
    intro a ha B hB d
    have ea : Int32.ofNat a + 1 = Int32.ofNat (a+1) := yn_add a 1
    induction d with
    | zero =>
      intro b th hd hb hab hI
      have : b = n := by omega
      subst this
      unfold wLX6_findFaces_33
      rw [ea]
      refine ⟨fun _ => hB th hI, fun hh => ?_⟩
      exfalso; apply hh; rw [yn_le (by omega) (by omega)]; omega
    | succ d ih =>
      intro b th hd hb hab hI
      have e1 : Int32.ofNat b + 1 = Int32.ofNat (b+1) := yn_add b 1
      unfold wLX6_findFaces_33
      rw [e1, yn_nat (by omega), yn_nat (by omega)]
      refine ⟨fun hh => ?_, fun _ => ⟨yn_in (by omega) (by omega), ?_⟩⟩
      · exfalso; rw [yn_le (by omega) (by omega)] at hh; omega
      · refine w_hasBit (by omega) _ (fun hbit => ?_) (fun hbit => ?_)
        · refine ⟨fun hh => absurd hh (by decide), fun _ => ⟨yn_in (by omega) (by omega), yn_in (by omega) (by omega), fun v65 h65 v70 h70 => ?_⟩⟩
          rw [h70]
          refine ⟨n - (b+1) + 1, h72_1 a b hab (by omega) (by rw [hgm a b (by omega)]; exact hbit) v65 ?_ _ ?_ (n-(b+1)) (b+1) th rfl (by omega) (by omega) ⟨yTh_move hn h hI.1 (by omega) ?_, hI.2⟩⟩
          · intro c hc
            rw [h65, yM_and, Bool.and_eq_true, h.2.2.1.2 c a, hgm b c (by omega), hgm a c (by omega)]
            exact And.comm
          · intro th' hI'
            refine ih (b+1) th' (by omega) (by omega) (by omega) ⟨yTh_move hn h hI'.1 (by omega) ?_, hI'.2⟩
            intro p q r hpq hqr hr k1 k2; exfalso; omega
          · intro p q r hpq hqr hr k1 k2; exfalso; omega
        · refine ⟨fun _ v70 h70 => ?_, fun hh => absurd rfl hh⟩
          rw [h70]
          refine ⟨n - (b+1) + 1, h72 a b hab (by omega) _ th ?_ (n-(b+1)) (b+1) rfl (by omega)⟩
          refine ih (b+1) th (by omega) (by omega) (by omega) ⟨yTh_move hn h hI.1 (by omega) ?_, hI.2⟩
          intro p q r hpq hqr hr k1 k2 hf
          have : p = a ∧ q = b := by omega
          have h1 := hf.1
          rw [this.1, this.2, hgm a b (by omega), hbit] at h1; cases h1
  have h18 : ∀ d a th, n - a = d → a ≤ n → Inv (1024*a) th → wLX6_findFaces_18 (Int32.ofNat n) fl K (d+1) th (Int32.ofNat a) := by
    intro d
    induction d with
    | zero =>
      intro a th hd ha hI
      have : a = n := by omega
      subst this
      unfold wLX6_findFaces_18
      refine ⟨fun _ => hK th ?_, fun hh => ?_⟩
      · intro x y hxy z hz
        have gx := yTg_gr h hxy
        have th1 := yTg_th h hxy
        have th2 := yTg_th h (show yGm a fl y x = true by rw [h.2.2.1.2]; exact hxy)
        have gz1 := yTg_gr h th1.2.1; have gz1' := yTg_gr h th1.2.2.1
        have gz2 := yTg_gr h th2.2.1; have gz2' := yTg_gr h th2.2.2.1
        by_cases c : a ≤ z ∨ z = x ∨ z = y
        · rw [hI.2 x y z gx.2.2.2.1 gx.2.2.2.2.1 hz c]
          constructor
          · intro hh; cases hh
          · intro hh; exfalso; omega
        · rw [hI.1 x y z gx.2.2.2.1 gx.2.2.2.2.1 (by omega) gx.2.2.1 (by omega) (by omega)]
          constructor
          · intro hh; exact hh.2.2.2.2
          · intro hh
            refine ⟨?_, hxy, ?_, ?_, hh⟩
            · have : z < a := by omega
              unfold yS3
              split
              · split
                · omega
                · split <;> omega
              · split
                · omega
                · split <;> omega
            · rcases hh with d1 | d1
              · rw [d1]; exact th1.2.1
              · rw [d1, h.2.2.1.2]; exact th2.2.2.1
            · rcases hh with d1 | d1
              · rw [d1]; exact th1.2.2.1
              · rw [d1, h.2.2.1.2]; exact th2.2.1
      · exfalso; apply hh; rw [yn_le (by omega) (by omega)]; omega
    | succ d ih =>
      intro a th hd ha hI
      have e1 : Int32.ofNat a + 1 = Int32.ofNat (a+1) := yn_add a 1
      unfold wLX6_findFaces_18
      rw [e1]
      refine ⟨fun hh => ?_, fun _ v32 h32 => ?_⟩
      · exfalso; rw [yn_le (by omega) (by omega)] at hh; omega
      · rw [h32]
        refine ⟨n - (a+1) + 1, h33 a (by omega) _ ?_ (n-(a+1)) (a+1) th rfl (by omega) (by omega) ⟨yTh_move hn h hI.1 (by omega) ?_, hI.2⟩⟩
        · intro th' hI'
          refine ih (a+1) th' (by omega) (by omega) ⟨yTh_move hn h hI'.1 (by omega) ?_, hI'.2⟩
          intro p q r hpq hqr hr k1 k2; exfalso; rcases Nat.lt_trichotomy p a with e | e | e
          · omega
          · subst e; omega
          · omega
        · intro p q r hpq hqr hr k1 k2; exfalso; omega
  unfold wX6_findFaces
  refine w_fill400 0 f0 _ ?_
  intro f hf
  refine ⟨n - 0 + 1, h18 (n-0) 0 f rfl (by omega) ⟨?_, ?_⟩⟩
  · intro x y z hx hy hz _ _ _
    rw [hf _ (by omega), yM_zero]
    constructor
    · intro hh; cases hh
    · rintro ⟨hh, _⟩; omega
  · intro x y z hx hy _ _
    rw [hf _ (by omega), yM_zero]
end


section
variable {n F : Nat} {fl : Nat → Int32} {g : Nat → Nat → Bool} {fo ρ : Nat → Nat → Nat}

def yGdo (g : Nat → Nat → Bool) (ρ : Nat → Nat → Nat) (o : Nat → Int32) : Prop := ∀ x y, x < 20 → y < 20 → o (20*x+y) = -1 ∨ (g x y = true ∧ o (20*x+y) = Int32.ofNat (ρ x y))
def yKn (g : Nat → Nat → Bool) (ρ : Nat → Nat → Nat) (o : Nat → Int32) (x y : Nat) : Prop := g x y = true ∧ o (20*x+y) = Int32.ofNat (ρ x y)

theorem w_setFace (h : yTg n g F fo ρ) {v w : Nat} (hvw : g v w = true) (o : Nat → Int32) (hg : yGdo g ρ o) (K : (Nat → Int32) → Prop)
    (hK : ∀ o', yGdo g ρ o' → (∀ x y, yKn g ρ o x y → yKn g ρ o' x y) → yKn g ρ o' v w → yKn g ρ o' w (ρ v w) → K o') :
    wX6_setFace o (Int32.ofNat v) (Int32.ofNat w) (Int32.ofNat (ρ v w)) K := by
  have t := yTg_th h hvw
  have g1 := yTg_gr h hvw; have g2 := yTg_gr h t.2.1; have g3 := yTg_gr h t.2.2.1
  unfold wX6_setFace
  rw [yn_m20, yn_m20, yn_m20, yn_nat (by omega), yn_nat (by omega), yn_nat (by omega)]
  refine ⟨yn_in (by omega) (by omega), fun o1 h1 => ⟨yn_in (by omega) (by omega), fun o2 h2 => ⟨yn_in (by omega) (by omega), fun o3 h3 => ?_⟩⟩⟩
  have hval : ∀ x y, x < 20 → y < 20 → (o3 (20*x+y) = o (20*x+y)) ∨ (g x y = true ∧ o3 (20*x+y) = Int32.ofNat (ρ x y)) := by
    intro x y hx hy
    by_cases c3 : x = ρ v w ∧ y = v
    · right; rw [c3.1, c3.2, h3, yupd_same, t.2.2.2.2.1]; exact ⟨t.2.2.1, rfl⟩
    · rw [h3, yupd_ne _ _ _ _ (by omega), h2]
      by_cases c2 : x = w ∧ y = ρ v w
      · right; rw [c2.1, c2.2, yupd_same, t.2.2.2.1]; exact ⟨t.2.1, rfl⟩
      · rw [yupd_ne _ _ _ _ (by omega), h1]
        by_cases c1 : x = v ∧ y = w
        · right; rw [c1.1, c1.2, yupd_same]; exact ⟨hvw, rfl⟩
        · left; rw [yupd_ne _ _ _ _ (by omega)]
  refine hK o3 ?_ ?_ ⟨hvw, ?_⟩ ⟨t.2.1, ?_⟩
  · intro x y hx hy
    rcases hval x y hx hy with c | c
    · rw [c]; exact hg x y hx hy
    · exact Or.inr c
  · intro x y hk
    have gx := yTg_gr h hk.1
    rcases hval x y gx.1 gx.2.1 with c | c
    · exact ⟨hk.1, by rw [c]; exact hk.2⟩
    · exact c
  · rw [h3, yupd_ne _ _ _ _ (by omega), h2, yupd_ne _ _ _ _ (by omega), h1, yupd_same]
  · rw [h3, yupd_ne _ _ _ _ (by omega), h2, yupd_same, t.2.2.2.1]

theorem w_behind {v w : Nat} (hv : v < 20) (hw : w < 20) (o : Nat → Int32) (K : Int32 → Unit → Prop) (hK : K (o (20*v+w)) ()) : wX6_behind o (Int32.ofNat v) (Int32.ofNat w) K := by
  have e20 : (20 : Int32) = Int32.ofNat 20 := rfl
  unfold wX6_behind
  refine ⟨fun hh => absurd hh (yn_neg (by omega)), fun _ => ⟨fun hh => ?_, fun _ => ?_⟩⟩
  · exfalso; rw [e20, yn_le (by omega) (by omega)] at hh; omega
  · rw [yn_m20, yn_nat (by omega)]
    exact ⟨yn_in (by omega) (by omega), hK⟩

theorem w_firstKnown (h : yTg n g F fo ρ) {v : Nat} (o : Nat → Int32) (hg : yGdo g ρ o) (hex : ∃ w, yKn g ρ o v w) (K : Int32 → Unit → Prop) (hK : ∀ w, yKn g ρ o v w → K (Int32.ofNat w) ()) :
    wX6_firstKnown (Int32.ofNat n) o (Int32.ofNat v) K := by
  obtain ⟨w1, hw1⟩ := hex
  have g1 := yTg_gr h hw1.1
  have hn := h.2.1
  have key : ∀ d w, n - w = d → w ≤ w1 → wLX6_firstKnown_2 (Int32.ofNat n) o (Int32.ofNat v) K (d+1) (Int32.ofNat w) := by
    intro d
    induction d with
    | zero => intro w hd hw; omega
    | succ d ih =>
      intro w hd hw
      have e1 : Int32.ofNat w + 1 = Int32.ofNat (w+1) := yn_add w 1
      unfold wLX6_firstKnown_2
      rw [e1]
      refine ⟨fun hh => ?_, fun _ => ?_⟩
      · exfalso; rw [yn_le (by omega) (by omega)] at hh; omega
      · refine w_behind (by omega) (by omega) o _ ?_
        rcases hg v w (by omega) (by omega) with c | c
        · refine ⟨fun _ => ih (w+1) (by omega) ?_, fun hh => ?_⟩
          · by_cases e : w = w1
            · exfalso
              have := hw1.2
              rw [← e, c] at this
              have gr := yTg_gr h (yTg_th h hw1.1).2.1
              have hneg : ¬ (Int32.ofNat (ρ v w) < 0) := yn_neg (by rw [e]; omega)
              rw [← this] at hneg
              exact hneg (by decide)
            · omega
          · exfalso; apply hh; rw [c]; decide
        · refine ⟨fun hh => ?_, fun _ => hK w c⟩
          exfalso
          rw [c.2] at hh
          have gr := yTg_gr h (yTg_th h c.1).2.1
          exact yn_neg (by omega) hh
  unfold wX6_firstKnown
  exact ⟨n - 0 + 1, key (n-0) 0 rfl (by omega)⟩

theorem w_goRound (h : yTg n (yGm n fl) F fo ρ) (h4 : 4 ≤ n) {th : Nat → Int32} (hth : ∀ a b, yGm n fl a b = true → ∀ c, c < 32 → (yM (th (20*a+b)) c = true ↔ (c = ρ a b ∨ c = ρ b a)))
    {v : Nat} (hv : v < n) (o : Nat → Int32) (hg : yGdo (yGm n fl) ρ o) (hex : ∃ w, yKn (yGm n fl) ρ o v w) (K : (Nat → Int32) → Prop)
    (hK : ∀ o', yGdo (yGm n fl) ρ o' → (∀ x y, yKn (yGm n fl) ρ o x y → yKn (yGm n fl) ρ o' x y) → (∀ x, yGm n fl v x = true → yKn (yGm n fl) ρ o' v x ∧ yKn (yGm n fl) ρ o' x (ρ v x)) → K o') :
    wX6_goRound (Int32.ofNat n) o fl th (Int32.ofNat v) K := by
  have hn := h.2.1
  unfold wX6_goRound
  refine w_firstKnown h o hg hex _ ?_
  intro w hw
  have gw := yTg_gr h hw.1
  refine w_behind (by omega) (by omega) o _ ?_
  rw [hw.2, yn_nat (by omega)]
  refine ⟨yn_in (by omega) (by omega), ?_⟩
  apply w_bitCount
  obtain ⟨c1, c2, c3, c4, c5⟩ := yTg_cyc h hw.1
  have hdeg : yNb 32 (yM (fl v)) = yNb 32 (yGm n fl v) := yDeg (by omega) fl v hv
  have hdg := yTg_deg h v
  rw [hdeg]
  have key : ∀ d i o1, yNb 32 (yGm n fl v) - i = d → i ≤ yNb 32 (yGm n fl v) → yGdo (yGm n fl) ρ o1 → (∀ x y, yKn (yGm n fl) ρ o x y → yKn (yGm n fl) ρ o1 x y) →
      (∀ j, j < i → yKn (yGm n fl) ρ o1 v (yIt ρ v w (j+1)) ∧ yKn (yGm n fl) ρ o1 (yIt ρ v w (j+1)) (ρ v (yIt ρ v w (j+1)))) →
      wLX6_goRound_30 (Int32.ofNat n) th (Int32.ofNat v) (Int32.ofNat (yNb 32 (yGm n fl v))) K (d+1) o1 (Int32.ofNat (yIt ρ v w i)) (Int32.ofNat (yIt ρ v w (i+1))) (Int32.ofNat i) := by
    intro d
    induction d with
    | zero =>
      intro i o1 hd hi k1 k2 k3
      have hi' : i = yNb 32 (yGm n fl v) := by omega
      unfold wLX6_goRound_30
      refine ⟨fun _ => hK o1 k1 k2 ?_, fun hh => ?_⟩
      · intro x hx
        obtain ⟨j, hj, hxj⟩ := c5 x hx
        by_cases cj : j = 0
        · -- the first comes again at the end
          have := k3 (i-1) (by omega)
          rw [show i - 1 + 1 = i by omega, hi', c3] at this
          rw [hxj, cj]; exact this
        · have := k3 (j-1) (by omega)
          rw [show j - 1 + 1 = j by omega] at this
          rw [hxj]; exact this
      · exfalso; apply hh; rw [yn_le (by omega) (by omega)]; omega
    | succ d ih =>
      intro i o1 hd hi k1 k2 k3
      have e1 : Int32.ofNat i + 1 = Int32.ofNat (i+1) := yn_add i 1
      have g0 := yTg_gr h (c2 i); have g1 := yTg_gr h (c2 (i+1)); have g2 := yTg_gr h (c2 (i+2))
      unfold wLX6_goRound_30
      rw [e1]
      refine ⟨fun hh => ?_, fun _ => ⟨fun hh => absurd hh (yn_neg (by omega)), fun _ => ?_⟩⟩
      · exfalso; rw [yn_le (by omega) (by omega)] at hh; omega
      unfold wX6_thirdsOf
      rw [yn_m20, yn_nat (by omega)]
      refine ⟨yn_in (by omega) (by omega), ?_⟩
      have hback : ρ (yIt ρ v w (i+1)) v = yIt ρ v w i := (yTg_th h (c2 i)).2.2.2.2.1
      have htwo := yTg_two h h4 (c2 (i+1))
      have hb : ∀ c, c < 32 → (yM (th (20*v+yIt ρ v w (i+1)) &&& (((1 : Int32) <<< (Int32.ofNat (yIt ρ v w i) &&& 31)) ^^^ (-1))) c = true ↔ c = ρ v (yIt ρ v w (i+1))) := by
        intro c hc
        rw [yM_and, Bool.and_eq_true, hth v _ (c2 (i+1)) c hc, yM_not _ c hc, yM_shl (by omega) c hc, hback]
        rw [hback] at htwo
        simp only [Bool.not_eq_true', decide_eq_false_iff_not]
        constructor
        · rintro ⟨d1 | d1, d2⟩
          · exact d1
          · exact absurd d1 d2
        · intro d1
          exact ⟨Or.inl d1, fun d2 => htwo (by rw [← d1, d2])⟩
      refine w_lowest (k := yIt ρ v w (i+2)) (by omega) ((hb _ (by omega)).2 rfl) ?_ _ ?_
      · intro c hc
        cases hh : yM (th (20*v+yIt ρ v w (i+1)) &&& (((1 : Int32) <<< (Int32.ofNat (yIt ρ v w i) &&& 31)) ^^^ (-1))) c with
        | false => rfl
        | true =>
          have := (hb c (by omega)).1 hh
          have e : yIt ρ v w (i+2) = ρ v (yIt ρ v w (i+1)) := rfl
          omega
      · refine ⟨fun _ => ?_, fun hh => ?_⟩
        · refine w_setFace h (c2 (i+1)) o1 k1 _ ?_
          intro o2 m1 m2 m3 m4
          refine ih (i+1) o2 (by omega) (by omega) m1 (fun x y hk => m2 x y (k2 x y hk)) ?_
          intro j hj
          by_cases cj : j = i
          · rw [cj]; exact ⟨m3, m4⟩
          · obtain ⟨a1, a2⟩ := k3 j (by omega)
            exact ⟨m2 _ _ a1, m2 _ _ a2⟩
        · exfalso; apply hh; rw [yn_lt (by omega) (by omega)]; omega
  exact ⟨_, key (yNb 32 (yGm n fl v) - 0) 0 o rfl (by omega) hg (fun _ _ hk => hk) (fun j hj => by omega)⟩

theorem w_layByThirds (h : yTg n (yGm n fl) F fo ρ) (h4 : 4 ≤ n) (hway : yWay (yGm n fl) ρ) {th : Nat → Int32} (hth : ∀ a b, yGm n fl a b = true → ∀ c, c < 32 → (yM (th (20*a+b)) c = true ↔ (c = ρ a b ∨ c = ρ b a)))
    (f0 : Nat → Int32) (K : (Nat → Int32) → Prop) (hK : ∀ o, (∀ v w, yGm n fl v w = true → o (20*v+w) = Int32.ofNat (ρ v w)) → K o) : wX6_layByThirds f0 (Int32.ofNat n) fl th K := by
  have hn := h.2.1
  have n0 : Int32.toNatClampNeg (0 : Int32) = 0 := yn_nat (by omega : (0 : Nat) < 2147483648)
  have h0eq : (0 : Int32) = Int32.ofNat 0 := rfl
  obtain ⟨m, hm, hmn⟩ := yTg_nb h (by omega : 0 < n)
  have hmask := yLw_mask (by omega) hm (by omega)
  have hgm : ∀ p q, p < n → yGm n fl p q = yM (fl p) q := fun p q hp => by unfold yGm; rw [decide_eq_true hp, Bool.true_and]
  have g1 := yTg_gr h hm.1
  have t1 := yTg_th h hm.1
  have t2 := yTg_th h (show yGm n fl m 0 = true by rw [h.2.2.1.2]; exact hm.1)
  have gr1 := yTg_gr h t1.2.1; have gr2 := yTg_gr h t2.2.1
  -- the loop over nodes
  have key : ∀ d i o ready done, n - i = d → i ≤ n → yGdo (yGm n fl) ρ o → (∀ x, x < 32 → yM done x = true → x < n ∧ yM ready x = true ∧ ∀ w, yGm n fl x w = true → yKn (yGm n fl) ρ o x w ∧ yM ready w = true) →
      (∀ x, x < 32 → yM ready x = true → x < n ∧ ∃ w, yKn (yGm n fl) ρ o x w) → yM ready 0 = true → yNb 32 (yM done) = i →
      wLX6_layByThirds_64 (Int32.ofNat n) fl th K (d+1) o ready done (Int32.ofNat i) := by
    -- all nodes done
    have fin : ∀ o done, (∀ x, x < n → yM done x = true) → (∀ x, x < 32 → yM done x = true → ∀ w, yGm n fl x w = true → yKn (yGm n fl) ρ o x w) → K o := by
      intro o done hall hd
      apply hK
      intro v w hvw
      have gv := yTg_gr h hvw
      exact (hd v (by omega) (hall v gv.2.2.2.1) w hvw).2
    intro d
    induction d with
    | zero =>
      intro i o ready done hd hi k1 k2 k3 k4 k5
      have : i = n := by omega
      subst this
      unfold wLX6_layByThirds_64
      refine ⟨fun _ => fin o done ?_ (fun x hx hdx w hw => ((k2 x hx hdx).2.2 w hw).1), fun hh => ?_⟩
      · intro x hx
        cases hh : yM done x with
        | true => rfl
        | false =>
          exfalso
          have := yNb_strict 32 (yM done) (fun y => decide (y < i)) x (by omega) hh (decide_eq_true hx) (fun y hy hdy => decide_eq_true (k2 y hy hdy).1)
          rw [yNb_ext 32 i (by omega) (fun y => decide (y < i)) (fun j _ => rfl)] at this
          omega
      · exfalso; apply hh; rw [yn_le (by omega) (by omega)]; omega
    | succ d ih =>
      intro i o ready done hd hi k1 k2 k3 k4 k5
      have e1 : Int32.ofNat i + 1 = Int32.ofNat (i+1) := yn_add i 1
      have hb : ∀ x, x < 32 → yM (ready &&& (done ^^^ (-1))) x = (yM ready x && !yM done x) := fun x hx => by rw [yM_and, yM_not _ x hx]
      unfold wLX6_layByThirds_64
      rw [e1]
      refine ⟨fun hh => ?_, fun _ => ⟨fun hz => ?_, fun hnz => ?_⟩⟩
      · exfalso; rw [yn_le (by omega) (by omega)] at hh; omega
      · refine fin o done ?_ (fun x hx hdx w hw => ((k2 x hx hdx).2.2 w hw).1)
        have hrd : ∀ x, x < 32 → yM ready x = true → yM done x = true := by
          intro x hx hr
          have := (yM_eq0.1 hz) x hx
          rw [hb x hx, hr] at this
          cases hh : yM done x with
          | true => rfl
          | false => rw [hh] at this; cases this
        have hU := yMax_con h.2.2.2.1 (fun x => yM done x) (by
          intro e he hx
          have hge : yGm n fl (e/32) (e%32) = true := by unfold yGr at hx; rw [Bool.and_eq_true] at hx; exact hx.2
          have st : ∀ p q, yGm n fl p q = true → yM done p = true → yM done q = true := by
            intro p q hpq hp
            have gp := yTg_gr h hpq
            exact hrd q (by omega) ((k2 p (by omega) hp).2.2 q hpq).2
          rw [Bool.eq_iff_iff]
          exact ⟨st _ _ hge, st _ _ (by rw [h.2.2.1.2]; exact hge)⟩)
        intro x hx
        rw [← hU 0 x (by omega) hx]
        exact hrd 0 (by omega) k4
      · obtain ⟨v, hv32, hvo, hvl⟩ := yM_least hnz
        rw [hb v hv32, Bool.and_eq_true, Bool.not_eq_true'] at hvo
        obtain ⟨hvn, hvk⟩ := k3 v hv32 hvo.1
        refine w_lowest hv32 (by rw [hb v hv32, hvo.1, hvo.2]; rfl) hvl _ ?_
        refine w_goRound h h4 hth hvn o k1 hvk _ ?_
        intro o' m1 m2 m3
        intro done' hdone'
        rw [yn_nat (by omega)]
        refine ⟨yn_in (by omega) (by omega), fun ready' hready' => ?_⟩
        have bd : ∀ x, x < 32 → yM done' x = (yM done x || decide (x = v)) := fun x hx => by rw [hdone', yM_or, yM_shl hv32 x hx]
        have br : ∀ x, x < 32 → yM ready' x = (yM ready x || yGm n fl v x) := fun x hx => by rw [hready', yM_or, hgm v x hvn]
        refine ih (i+1) o' ready' done' (by omega) (by omega) m1 ?_ ?_ ?_ ?_
        · intro x hx hdx
          rw [bd x hx, Bool.or_eq_true, decide_eq_true_iff] at hdx
          rcases hdx with c | c
          · obtain ⟨a1, a2, a3⟩ := k2 x hx c
            refine ⟨a1, by rw [br x hx, a2]; rfl, fun w hw => ?_⟩
            have gx := yTg_gr h hw
            obtain ⟨b1, b2⟩ := a3 w hw
            exact ⟨m2 _ _ b1, by rw [br w (by omega), b2]; rfl⟩
          · rw [c]
            refine ⟨hvn, by rw [br v hv32, hvo.1]; rfl, fun w hw => ?_⟩
            have gx := yTg_gr h hw
            exact ⟨(m3 w hw).1, by rw [br w (by omega), hw]; simp⟩
        · intro x hx hrx
          rw [br x hx, Bool.or_eq_true] at hrx
          rcases hrx with c | c
          · obtain ⟨a1, w, a2⟩ := k3 x hx c
            exact ⟨a1, w, m2 _ _ a2⟩
          · have gx := yTg_gr h c
            exact ⟨gx.2.2.2.2.1, _, (m3 x c).2⟩
        · rw [br 0 (by omega), k4]; rfl
        · rw [← k5]
          refine yNb_add1 32 (yM done) (yM done') v hv32 hvo.2 ?_ ?_
          · rw [bd v hv32]; simp
          · intro x hx hne
            rw [bd x hx]; simp [hne]
  unfold wX6_layByThirds
  refine w_fill400 (-1) f0 _ ?_
  intro o0 ho0
  rw [n0]
  refine w_lowest (by omega) hmask.1 hmask.2 _ ?_
  refine ⟨fun hh => ?_, fun _ => ?_⟩
  · exfalso; rw [yn_le (by omega) (by omega)] at hh; omega
  have hthm := hth 0 m hm.1
  have hle := hway m hm
  unfold wX6_thirdsOf
  rw [h0eq, yn_m20, yn_nat (by omega)]
  refine ⟨yn_in (by omega) (by omega), fun _ => ⟨yn_in (by omega) (by omega), ?_⟩, fun hh => ?_⟩
  · refine w_lowest (k := ρ 0 m) (by omega) ((hthm _ (by omega)).2 (Or.inl rfl)) ?_ _ ?_
    · intro c hc
      cases hh : yM (th (20*0+m)) c with
      | false => rfl
      | true =>
        rcases (hthm c (by omega)).1 hh with d | d <;> omega
    · refine w_setFace h hm.1 o0 ?_ _ ?_
      · intro x y hx hy
        exact Or.inl (ho0 _ (by omega))
      · intro o1 m1 m2 m3 m4
        refine ⟨n - 0 + 1, key (n-0) 0 o1 1 0 rfl (by omega) m1 ?_ ?_ ?_ ?_⟩
        · intro x _ hh; rw [yM_zero] at hh; cases hh
        · intro x _ hh
          rw [yM_one, decide_eq_true_iff] at hh
          rw [hh]
          exact ⟨by omega, m, m3⟩
        · rw [yM_one]; rfl
        · have h0 : yNb 32 (fun _ => false) = 0 := by decide +kernel
          rw [← h0]
          apply yNb_congr
          intro x _; exact yM_zero x
  · exfalso
    have := (hthm (ρ 0 m) (by omega)).2 (Or.inl rfl)
    rw [hh, ← h0eq, yM_zero] at this; cases this
end



noncomputable def yIf (P : Prop) (a b : Int32) : Int32 := @ite _ P (Classical.propDecidable P) a b
theorem yIf_pos {P : Prop} (h : P) (a b : Int32) : yIf P a b = a := @if_pos _ (Classical.propDecidable P) h _ _ _
theorem yIf_neg {P : Prop} (h : ¬ P) (a b : Int32) : yIf P a b = b := @if_neg _ (Classical.propDecidable P) h _ _ _

-- a number that is there
def yHn (n : Nat) (p : Int32) : Prop := ∃ v, v < n ∧ p = Int32.ofNat v
def yHa (M : Nat) (al : Nat → Bool) (p : Int32) : Prop := ∃ k, k < M ∧ al k = true ∧ p = Int32.ofNat k

-- what is told
def yAbs (N M : Nat) (F T : Nat → Nat) (al : Nat → Bool) (rs : Nat → Nat) (rw : Nat → Nat → Nat) : Prop :=
  N ≤ 20 ∧ M ≤ 80 ∧ (∀ k, k < M → F k < N ∧ T k < N) ∧ yEr N (yNd F T) (fun e => yLv M al e = true) rs rw

-- the class
def yCG (N M : Nat) (F T : Nat → Nat) (al : Nat → Bool) (nodes made left : Int32) (at' there joined : Nat → Int32) : Prop :=
  nodes = Int32.ofNat N ∧ made = Int32.ofNat M ∧ left = Int32.ofNat (yNb M al) ∧ yAt M F T at' ∧ yBo M al there ∧ yGm 20 joined = yGk M F T al
def yCP (N M : Nat) (F T : Nat → Nat) (al : Nat → Bool) (pk pl : Int32) : Prop :=
  pk ≠ 0 → ((pl = 1 ∧ yPln N (yGk M F T al)) ∨ (pl = 0 ∧ ¬ yPln N (yGk M F T al)))
def yCF (fn : Int32) (fb fj ord : Nat → Int32) : Prop :=
  fn = -1 ∨ ∃ n, n ≤ 20 ∧ fn = Int32.ofNat n ∧ ySg n (yGm n fb) ∧ yPln n (yGm n fb) ∧ yFl n (yGm n fb) (yGm n fj) ∧ (∀ v w, yGm n fj v w = true → ord (20*v+w) = Int32.ofNat (yNu n (yGm n fj) v w))
def yCU (N M : Nat) (F T : Nat → Nat) (al : Nat → Bool) (tk uc : Int32) (us ue ffo : Nat → Int32) (fc : Int32) (fst fen : Nat → Int32) : Prop :=
  us 0 = 0 ∧ fst 0 = 0 ∧ (tk ≠ 0 → yPln N (yGk M F T al) ∧ uc = Int32.ofNat N ∧ yRw N (fun v => (yTn N M F T al v).length) (fun v i => (yTn N M F T al v).getD i 0) us ue ∧ yFq (yTf N M F T al).2.2.2 ffo ∧
    fc = Int32.ofNat ((yTf N M F T al).1 + yNb N (fun v => decide ((yTn N M F T al v).length = 0))) ∧
    yRw ((yTf N M F T al).1 + yNb N (fun v => decide ((yTn N M F T al v).length = 0))) (fun r => if r < (yTf N M F T al).1 then (yTf N M F T al).2.1 r else 0) (yTf N M F T al).2.2.1 fst fen)
def yCD (N M : Nat) (F T : Nat → Nat) (al : Nat → Bool) (dk : Int32) (x y : Nat → Int32) : Prop :=
  dk ≠ 0 → yPln N (yGk M F T al) ∧ yPlc N (yGf N (yGk M F T al)) x y
def yCE (N M : Nat) (F T : Nat → Nat) (al : Nat → Bool) (ek : Int32) (kp ec : Nat → Int32) : Prop :=
  ek ≠ 0 → ¬ yPln N (yGk M F T al) ∧ yBo M (yKp N M F T M al) kp ∧ ∀ v, v < 20 → ec v = Int32.ofNat (yEc M F T (yKp N M F T M al) v)
def yCT (N : Nat) (rs : Nat → Nat) (rw : Nat → Nat → Nat) (tc : Int32) (ts te : Nat → Int32) : Prop := tc = Int32.ofNat N ∧ yRw N rs rw ts te

section
variable {N M : Nat} {F T : Nat → Nat} {al : Nat → Bool} {rs : Nat → Nat} {rw' : Nat → Nat → Nat} {nodes made left : Int32} {at' there joined : Nat → Int32}

theorem yCG_N (hN : N ≤ 20) (hF : ∀ k, k < M → F k < N ∧ T k < N) (h : yCG N M F T al nodes made left at' there joined) : yGm N joined = yGk M F T al :=
  yGm_less hN (fun v w hh => ((yGk_sg hF).1 v w hh).1) h.2.2.2.2.2

-- FILLED that is still good
theorem yCF_good (hN : N ≤ 20) (hF : ∀ k, k < M → F k < N ∧ T k < N) (h : yCG N M F T al nodes made left at' there joined) {fn : Int32} {fb fj ord : Nat → Int32} (hf : yCF fn fb fj ord) (h1 : fn = Int32.ofNat N) (h2 : ∀ v w, yGm N fb v w = true → yGm N joined v w = true) (h3 : ∀ v w, yGm N joined v w = true → yGm N fj v w = true) :
    yPln N (yGk M F T al) ∧ yFl N (yGm N joined) (yGm N fj) ∧ (∀ v w, yGm N fj v w = true → ord (20*v+w) = Int32.ofNat (yNu N (yGm N fj) v w)) := by
  have hjN := yCG_N hN hF h
  rcases hf with hf | ⟨n, a1, a2, a3, a4, a5, a6⟩
  · exfalso
    rw [hf] at h1
    have := yn_neg (n := N) (by omega)
    rw [← h1] at this; exact this yn_m1
  · have hn : n = N := (yn_inj (by omega) (by omega)).1 (by rw [← a2, h1])
    subst hn
    have hsj : ySg n (yGm n joined) := by rw [hjN]; exact yGk_sg hF
    refine ⟨?_, yFl_mid (by omega) a3 hsj a5 a4 h2 h3, a6⟩
    rw [← hjN]
    exact yPln_mono (by omega) hsj a5.1 h3 (yFl_pln (by omega) a3 a5 a4)

theorem w8_isPlane (hN : N ≤ 20) (hF : ∀ k, k < M → F k < N ∧ T k < N) (h : yCG N M F T al nodes made left at' there joined) {pk pl : Int32} (hp : yCP N M F T al pk pl) {fn : Int32} {fb fj ord : Nat → Int32} (hf : yCF fn fb fj ord)
    (i2 i3 i4 i6 i7 i12 i13 : Int32) (f14 : Nat → Int64) (f15 f16 : Nat → Int32) (f17 f18 : Nat → Int64) (f19 : Nat → Int32) (f20 : Nat → Int64) (f21 : Nat → Int32) (f22 f23 : Nat → Int64) (K : Int32 → (Int32 × Int32 × Int32 × Int32 × (Nat → Int64) × (Nat → Int32) × (Nat → Int32) × (Nat → Int64) × (Nat → Int64) × (Nat → Int32) × (Nat → Int64) × (Nat → Int32) × (Nat → Int64) × (Nat → Int64)) → Prop)
    (hK1 : yPln N (yGk M F T al) → ∀ pk' pl' u, yCP N M F T al pk' pl' → K 1 (pk', pl', u)) (hK0 : ¬ yPln N (yGk M F T al) → ∀ pk' pl' u, yCP N M F T al pk' pl' → K 0 (pk', pl', u)) :
    wX8_isPlane pk pl i2 i3 i4 nodes i6 i7 fn fb joined fj i12 i13 f14 f15 f16 f17 f18 f19 f20 f21 f22 f23 K := by
  have hjN := yCG_N hN hF h
  have hsg := yGk_sg (c := al) hF
  have p1 : yPln N (yGk M F T al) → yCP N M F T al 1 1 := fun q _ => Or.inl ⟨rfl, q⟩
  have p0 : ¬ yPln N (yGk M F T al) → yCP N M F T al 1 0 := fun q _ => Or.inr ⟨rfl, q⟩
  unfold wX8_isPlane
  refine ⟨fun c => ?_, fun c => ?_⟩
  · rcases hp c with ⟨e, q⟩ | ⟨e, q⟩
    · subst e; exact ⟨rfl, hK1 q pk 1 _ hp⟩
    · subst e; exact ⟨rfl, hK0 q pk 0 _ hp⟩
  · rw [h.1]
    have hacc := w_accepts (n := N) (by omega) joined (by rw [hjN]; exact hsg.1) (by rw [hjN]; exact hsg.2) i12 i13 f14 f15 f16 f17 f18 f19 f20 f21 f22 f23
      (fun r46 u46 => ((r46 = 0 → K (0 : Int32) ((1 : Int32), (0 : Int32), u46)) ∧ (¬ r46 = 0 → K (1 : Int32) ((1 : Int32), (1 : Int32), u46))))
      (fun q u => ⟨fun z => absurd z (by decide), fun _ => hK1 (by rw [← hjN]; exact q) 1 1 u (p1 (by rw [← hjN]; exact q))⟩)
      (fun q u => ⟨fun _ => hK0 (by rw [← hjN]; exact q) 1 0 u (p0 (by rw [← hjN]; exact q)), fun z => absurd rfl z⟩)
    refine w2_isOf hN fn fb joined fj _ (fun q1 q2 q3 => ⟨fun _ => ?_, fun z => absurd z (by decide)⟩) ⟨fun z => absurd rfl z, fun _ => hacc.1 hN⟩
    have := (yCF_good hN hF h hf q1 q2 q3).1
    exact hK1 this 1 1 _ (p1 this)

theorem w8_makeFilled (hN : N ≤ 20) (hF : ∀ k, k < M → F k < N ∧ T k < N) (h : yCG N M F T al nodes made left at' there joined) (hp : yPln N (yGk M F T al)) {fn : Int32} {fb fj ord : Nat → Int32} (hf : yCF fn fb fj ord)
    (i0 i1 i2 i3 i4 i6 i7 i12 i13 : Int32) (f14 : Nat → Int64) (f15 f16 : Nat → Int32) (f17 f18 : Nat → Int64) (f19 : Nat → Int32) (f20 : Nat → Int64) (f21 : Nat → Int32) (f22 f23 : Nat → Int64) (f24 : Nat → Int32) (K : (Int32 × (Nat → Int32) × (Nat → Int32) × Int32 × Int32 × (Nat → Int64) × (Nat → Int32) × (Nat → Int32) × (Nat → Int64) × (Nat → Int64) × (Nat → Int32) × (Nat → Int64) × (Nat → Int32) × (Nat → Int64) × (Nat → Int64) × (Nat → Int32) × (Nat → Int32)) → Prop)
    (hK : ∀ fn' fb' fj' x3 x4 x5 x6 x7 x8 x9 x10 x11 x12 x13 x14 th ord', yCF fn' fb' fj' ord' → fn' = Int32.ofNat N → yFl N (yGm N joined) (yGm N fj') → (∀ v w, yGm N fj' v w = true → ord' (20*v+w) = Int32.ofNat (yNu N (yGm N fj') v w)) →
      K (fn', fb', fj', x3, x4, x5, x6, x7, x8, x9, x10, x11, x12, x13, x14, th, ord')) :
    wX8_makeFilled i0 i1 i2 i3 i4 nodes i6 i7 fn fb joined fj i12 i13 f14 f15 f16 f17 f18 f19 f20 f21 f22 f23 f24 ord K := by
  have hjN := yCG_N hN hF h
  have hsg := yGk_sg (c := al) hF
  have hsj : ySg N (yGm N joined) := by rw [hjN]; exact hsg
  have hpj : yPln N (yGm N joined) := by rw [hjN]; exact hp
  unfold wX8_makeFilled
  rw [h.1]
  refine w2_isOf hN fn fb joined fj _ (fun q1 q2 q3 => ⟨fun _ => ?_, fun z => absurd z (by decide)⟩) ⟨fun z => absurd rfl z, fun _ => ?_⟩
  · obtain ⟨_, g2, g3⟩ := yCF_good hN hF h hf q1 q2 q3
    exact hK fn fb fj _ _ _ _ _ _ _ _ _ _ _ _ f24 ord hf q1 g2 g3
  · refine w_fill2 hN joined hsj hpj _ _ _ _ _ _ _ _ _ _ _ _ _ _ _ _ (fun base jd x3 x4 x5 x6 x7 x8 x9 x10 x11 x12 x13 x14 hb hfl => ?_)
    refine w_ring hN hsj hpj hfl f24 ord (fun th o => K (Int32.ofNat N, base, jd, x3, x4, x5, x6, x7, x8, x9, x10, x11, x12, x13, x14, th, o)) (fun th o ho => ?_) (fun h3 => yTg_ex h3 hN hsj hpj hfl)
    refine hK _ base jd _ _ _ _ _ _ _ _ _ _ _ _ th o (Or.inr ⟨N, hN, rfl, ?_, ?_, ?_, ho⟩) rfl hfl ho
    · rw [yGm_congr hb]; exact hsj
    · rw [yGm_congr hb]; exact hpj
    · rw [yGm_congr hb]; exact hfl

theorem w8_makeDrawing (hN : N ≤ 20) (hF : ∀ k, k < M → F k < N ∧ T k < N) (h : yCG N M F T al nodes made left at' there joined) (hp : yPln N (yGk M F T al)) {dk : Int32} {x y : Nat → Int32} (hd : yCD N M F T al dk x y) {fj ord : Nat → Int32} (hfl : yFl N (yGm N joined) (yGm N fj)) (ho : ∀ v w, yGm N fj v w = true → ord (20*v+w) = Int32.ofNat (yNu N (yGm N fj) v w))
    (i0 i1 i2 i4 i5 i6 i7 i8 : Int32) (f14 f15 f16 f17 f18 f19 f20 : Nat → Int32) (K : (Int32 × Int32 × Int32 × Int32 × Int32 × (Nat → Int32) × (Nat → Int32) × (Nat → Int32) × (Nat → Int32) × (Nat → Int32) × (Nat → Int32) × (Nat → Int32) × (Nat → Int32) × (Nat → Int32)) → Prop)
    (hK : ∀ dk' x1 x2 x3 x4 x' y' x7 x8 x9 x10 x11 x12 x13, yCD N M F T al dk' x' y' → dk' ≠ 0 → K (dk', x1, x2, x3, x4, x', y', x7, x8, x9, x10, x11, x12, x13)) :
    wX8_makeDrawing i0 i1 i2 dk i4 i5 i6 i7 i8 x y (Int32.ofNat N) fj ord f14 f15 f16 f17 f18 f19 f20 K := by
  have hjN := yCG_N hN hF h
  have hsj : ySg N (yGm N joined) := by rw [hjN]; exact yGk_sg hF
  have hpj : yPln N (yGm N joined) := by rw [hjN]; exact hp
  have hG : yGf N (yGk M F T al) = yGm N fj := by rw [← hjN]; exact yGf_eq (by omega) hfl
  unfold wX8_makeDrawing
  refine ⟨fun c => hK dk _ _ _ _ x y _ _ _ _ _ _ _ hd c, fun _ => ?_⟩
  refine w0_lay hN hsj hpj hfl ho _ _ _ _ _ _ _ _ _ _ _ _ _ _ (fun xs ys hpl x0 x1 x2 x3 x6 x7 x8 x9 x10 x11 x12 => ?_)
  refine hK 1 _ _ _ _ xs ys _ _ _ _ _ _ _ (fun _ => ⟨hp, by rw [hG]; exact hpl⟩) (by decide)

theorem w8_makePiece (hN : N ≤ 20) (hM : M ≤ 80) (hF : ∀ k, k < M → F k < N ∧ T k < N) (h : yCG N M F T al nodes made left at' there joined) (hp : ¬ yPln N (yGk M F T al)) {ek : Int32} {kp ec : Nat → Int32} (he : yCE N M F T al ek kp ec)
    (i0 i1 i2 i3 i7 : Int32) (f12 : Nat → Int32) (i13 i14 : Int32) (f15 : Nat → Int64) (f16 f17 : Nat → Int32) (f18 f19 : Nat → Int64) (f20 : Nat → Int32) (f21 : Nat → Int64) (f22 : Nat → Int32) (f23 f24 : Nat → Int64) (K : (Int32 × (Nat → Int32) × (Nat → Int32) × (Nat → Int32) × Int32 × Int32 × (Nat → Int64) × (Nat → Int32) × (Nat → Int32) × (Nat → Int64) × (Nat → Int64) × (Nat → Int32) × (Nat → Int64) × (Nat → Int32) × (Nat → Int64) × (Nat → Int64)) → Prop)
    (hK : ∀ ek' kp' ec' u, yCE N M F T al ek' kp' ec' → yBo M (yKp N M F T M al) kp' → (∀ v, v < 20 → ec' v = Int32.ofNat (yEc M F T (yKp N M F T M al) v)) → K (ek', kp', ec', u)) :
    wX8_makePiece i0 i1 i2 i3 ek nodes made i7 there kp ec at' f12 i13 i14 f15 f16 f17 f18 f19 f20 f21 f22 f23 f24 K := by
  unfold wX8_makePiece
  rw [h.1, h.2.1]
  refine ⟨fun c => hK ek kp ec _ he (he c).2.1 (he c).2.2, fun _ => ?_⟩
  exact w4_find hN hM hF h.2.2.2.1 h.2.2.2.2.1 _ _ _ _ _ _ _ _ _ _ _ _ _ _ _ _ _ (fun kp' ec' a1 a2 x2 x3 x4 x5 x6 x7 x8 x9 x10 x11 x12 x13 x14 => hK 1 kp' ec' _ (fun _ => ⟨hp, a1, a2⟩) a1 a2)

-- whether there is a dual
def yHd (N M : Nat) (F T : Nat → Nat) (al : Nat → Bool) : Prop := yPln N (yGk M F T al) ∧ 0 < yNb M al ∧ yParts N (yGk M F T al) = 1

theorem w8_hasDual (hN : N ≤ 20) (hM : M ≤ 80) (hF : ∀ k, k < M → F k < N ∧ T k < N) (h : yCG N M F T al nodes made left at' there joined) {pk pl : Int32} (hp : yCP N M F T al pk pl) {fn : Int32} {fb fj ord : Nat → Int32} (hf : yCF fn fb fj ord)
    (i2 i3 i4 i6 i12 i13 : Int32) (f14 : Nat → Int64) (f15 f16 : Nat → Int32) (f17 f18 : Nat → Int64) (f19 : Nat → Int32) (f20 : Nat → Int64) (f21 : Nat → Int32) (f22 f23 : Nat → Int64) (K : Int32 → (Int32 × Int32 × Int32 × Int32 × (Nat → Int64) × (Nat → Int32) × (Nat → Int32) × (Nat → Int64) × (Nat → Int64) × (Nat → Int32) × (Nat → Int64) × (Nat → Int32) × (Nat → Int64) × (Nat → Int64)) → Prop)
    (hK1 : yHd N M F T al → ∀ pk' pl' u, yCP N M F T al pk' pl' → K 1 (pk', pl', u)) (hK0 : ¬ yHd N M F T al → ∀ pk' pl' u, yCP N M F T al pk' pl' → K 0 (pk', pl', u)) :
    wX8_hasDual pk pl i2 i3 i4 nodes i6 left fn fb joined fj i12 i13 f14 f15 f16 f17 f18 f19 f20 f21 f22 f23 K := by
  have hle := yEcnt_le M al
  have hlp : yParts N (yGk M F T al) ≤ N := yEcnt_le N _
  have h0 : (0 : Int32) = Int32.ofNat 0 := rfl
  have h1 : (1 : Int32) = Int32.ofNat 1 := rfl
  unfold wX8_hasDual
  refine w8_isPlane hN hF h hp hf _ _ _ _ _ _ _ _ _ _ _ _ _ _ _ _ _ _ (fun q pk' pl' u hc => ⟨fun z => absurd z (by decide), fun _ => ⟨fun z => hK0 (fun hh => ?_) pk' pl' u hc, fun z => ?_⟩⟩) (fun q pk' pl' u hc => ⟨fun _ => hK0 (fun hh => q hh.1) pk' pl' u hc, fun z => absurd rfl z⟩)
  · rw [h.2.2.1, h0, yn_le (by omega) (by omega)] at z
    have := hh.2.1; omega
  · rw [h.2.2.1, h0, yn_le (by omega) (by omega)] at z
    rw [h.1]
    refine w8_countParts hN (yGk_sg hF) h.2.2.2.2.2 _ _ _ _ _ _ _ _ ?_
    rw [h1, yn_inj (by omega) (by omega)]
    exact ⟨fun w => hK0 (fun hh => w hh.2.2) pk' pl' u hc, fun w => hK1 ⟨q, by omega, w⟩ pk' pl' u hc⟩
end


-- what the reference knows
def yKnR (N M : Nat) (F T : Nat → Nat) (al : Nat → Bool) (pl : Int32) (ip pe ar as tz tn xs ys : Nat → Int32) : Prop :=
  (pl = 1 ∧ yPln N (yGk M F T al) ∧ yRnds N (yGf N (yGk M F T al)) (yNu N (yGf N (yGk M F T al))) ar as ∧ yRr N (fun v => (yTn N M F T al v).length) (fun v i => (yTn N M F T al v).getD i 0) tz tn ∧ yPlc N (yGf N (yGk M F T al)) xs ys ∧ ySg N (yGf N (yGk M F T al)) ∧ yEr N (yNd F T) (fun e => yLv M al e = true) (fun v => (yTn N M F T al v).length) (fun v i => (yTn N M F T al v).getD i 0)) ∨
  (pl = 0 ∧ ¬ yPln N (yGk M F T al) ∧ yBo M (yKp N M F T M al) ip ∧ ∀ v, v < N → pe v = Int32.ofNat (yEc M F T (yKp N M F T M al) v))

section
variable {N M : Nat} {F T : Nat → Nat} {al : Nat → Bool}

theorem w9_know (hN : N ≤ 20) (hM : M ≤ 80) (hF : ∀ k, k < M → F k < N ∧ T k < N) {alv frm too : Nat → Int32} (hfr : ∀ k, k < M → frm k = Int32.ofNat (F k)) (hto : ∀ k, k < M → too k = Int32.ofNat (T k)) (hB : yBo M al alv)
    (i2 i3 i4 i5 i6 i7 i8 i9 i10 i11 i12 i13 i14 i15 i16 i17 : Int32) (f18 f22 f23 f24 f25 f26 f27 f28 f29 f30 f31 f32 f33 f34 f35 f36 f37 f38 f39 f40 f41 f42 f43 f44 f45 f46 f47 f48 f49 f50 f51 : Nat → Int32) (hk : i2 ≠ 0 → yKnR N M F T al i11 f22 f35 f39 f40 f41 f42 f48 f49) (K : (Int32 × Int32 × Int32 × Int32 × Int32 × Int32 × Int32 × Int32 × Int32 × Int32 × Int32 × Int32 × Int32 × Int32 × Int32 × (Nat → Int32) × (Nat → Int32) × (Nat → Int32) × (Nat → Int32) × (Nat → Int32) × (Nat → Int32) × (Nat → Int32) × (Nat → Int32) × (Nat → Int32) × (Nat → Int32) × (Nat → Int32) × (Nat → Int32) × (Nat → Int32) × (Nat → Int32) × (Nat → Int32) × (Nat → Int32) × (Nat → Int32) × (Nat → Int32) × (Nat → Int32) × (Nat → Int32) × (Nat → Int32) × (Nat → Int32) × (Nat → Int32) × (Nat → Int32) × (Nat → Int32) × (Nat → Int32) × (Nat → Int32) × (Nat → Int32) × (Nat → Int32) × (Nat → Int32) × (Nat → Int32)) → Prop)
    (hK : ∀ u, u.1 ≠ 0 → yKnR N M F T al (u.2.2.2.2.2.2.2.2.2.1) (u.2.2.2.2.2.2.2.2.2.2.2.2.2.2.2.2.1) (u.2.2.2.2.2.2.2.2.2.2.2.2.2.2.2.2.2.2.2.2.2.2.2.2.2.2.2.2.2.1) (u.2.2.2.2.2.2.2.2.2.2.2.2.2.2.2.2.2.2.2.2.2.2.2.2.2.2.2.2.2.2.2.2.2.1) (u.2.2.2.2.2.2.2.2.2.2.2.2.2.2.2.2.2.2.2.2.2.2.2.2.2.2.2.2.2.2.2.2.2.2.1) (u.2.2.2.2.2.2.2.2.2.2.2.2.2.2.2.2.2.2.2.2.2.2.2.2.2.2.2.2.2.2.2.2.2.2.2.1) (u.2.2.2.2.2.2.2.2.2.2.2.2.2.2.2.2.2.2.2.2.2.2.2.2.2.2.2.2.2.2.2.2.2.2.2.2.1) (u.2.2.2.2.2.2.2.2.2.2.2.2.2.2.2.2.2.2.2.2.2.2.2.2.2.2.2.2.2.2.2.2.2.2.2.2.2.2.2.2.2.2.1) (u.2.2.2.2.2.2.2.2.2.2.2.2.2.2.2.2.2.2.2.2.2.2.2.2.2.2.2.2.2.2.2.2.2.2.2.2.2.2.2.2.2.2.2.1) → K u) :
    wX9_know (Int32.ofNat N) (Int32.ofNat M) i2 i3 i4 i5 i6 i7 i8 i9 i10 i11 i12 i13 i14 i15 i16 i17 f18 alv frm too f22 f23 f24 f25 f26 f27 f28 f29 f30 f31 f32 f33 f34 f35 f36 f37 f38 f39 f40 f41 f42 f43 f44 f45 f46 f47 f48 f49 f50 f51 K := by
  have hsg := yGk_sg (c := al) hF
  unfold wX9_know
  refine ⟨fun _ => ?_, fun c => hK _ c (hk c)⟩
  refine w9_takeSimple (c := al) (ip := al) hM hN hF hfr hto hB 0 (-1) (fun hh => absurd rfl hh) (fun k hk => ?_) _ _ _ _ _ _ _ _ _ _ _ _ _ _ _ _ _ _ (fun t ht => ?_)
  · have : (¬ Int32.ofNat k = -1) := by
      intro q
      have := yn_neg (n := k) (by omega)
      rw [q] at this; exact this yn_m1
    rw [decide_eq_true this]; simp
  have htN : yGm N t = yGk M F T al := yGm_less (by omega) (fun v w h => (hsg.1 v w h).1) ht
  have key : ∀ d v sm, N - v = d → v ≤ N → (∀ u, u < v → sm u = t u) → wLX9_know_21 (Int32.ofNat N) (Int32.ofNat M) i4 i5 i6 i7 i8 i9 i10 i11 i12 i13 i14 i15 i16 i17 alv frm too f22 f23 f24 f25 f26 f27 f28 f29 f30 f31 f32 f33 f34 f35 f36 f38 f39 f40 f41 f42 f43 f44 f45 f46 f47 f48 f49 f50 f51 (Int32.ofNat N, t) K (d+1) sm (Int32.ofNat v) := by
    intro d
    induction d with
    | zero =>
      intro v sm hd hv hsm
      have : v = N := by omega
      subst this
      have hsmN : yGm v sm = yGk M F T al := by rw [yGm_congr hsm]; exact htN
      unfold wLX9_know_21
      refine ⟨fun _ => ?_, fun hh => ?_⟩
      · refine w9_isPlane (n := v) (by omega) t (by rw [htN]; exact hsg.1) (by rw [htN]; exact hsg.2) _ _ _ _ _ _ _ _ _ _ _ _ _ _ _ _ _ _ _ _ _ _ _ _ _ _ _ _ _ _ (fun hp u _ => ⟨⟨rfl, rfl⟩, fun z => absurd z (by decide), fun _ => ?_⟩) (fun hp u => ⟨⟨rfl, rfl⟩, fun _ => ?_, fun z => absurd rfl z⟩)
        · rw [htN] at hp
          have hs' : ySg v (yGm v sm) := by rw [hsmN]; exact hsg
          have hp' : yPln v (yGm v sm) := by rw [hsmN]; exact hp
          refine w9_fill hN sm hs' hp' _ _ _ _ _ _ _ _ _ _ _ _ _ _ _ _ _ _ _ _ _ _ _ _ _ _ _ _ _ _ _ (fun fl g hfl hg x0 x1 x2 x3 x4 x5 x6 x7 x8 x9 x10 x11 x12 x13 x14 x15 x16 x17 x18 hAft => ?_)
          refine w9_rounds hN hs' hp' hfl hg hAft _ _ _ _ _ _ _ _ _ _ _ _ _ _ _ _ _ _ _ _ (fun tt ar as hFar hR => ?_)
          refine w9_findTurns hN hM hF hfr hto hB hsmN hp hfl hR _ _ _ _ _ _ _ _ _ _ _ _ _ _ _ _ _ _ _ (fun tz tn hT => ?_)
          have hG : yGf v (yGk M F T al) = yGm v fl := by rw [← hsmN]; exact yGf_eq (by omega) hfl
          refine w9_drawing hN hFar hR _ _ _ _ _ _ _ _ _ _ _ _ _ _ _ _ _ _ _ _ _ _ _ _ _ _ (fun xs ys y0 y1 y2 y3 y4 y5 y6 y7 y8 y9 w o hpl => ?_)
          refine hK _ (by show (1 : Int32) ≠ 0; decide) (Or.inl ⟨rfl, hp, ?_, hT, ?_, ?_, (yTn_ok hN hM hF hsmN hp hfl).2.2.2.2⟩)
          · rw [hG]; exact hR
          · rw [hG]; exact hpl
          · rw [hG]; exact hfl.1
        · rw [htN] at hp
          exact w9_piece hN hM hF hfr hto hB _ _ _ _ _ _ _ _ _ _ _ _ _ _ _ _ _ _ _ _ _ _ _ _ _ _ _ _ _ _ _ _ (fun ip pe a1 a2 x0 x1 x2 x3 x4 x5 x6 x7 x10 x11 x12 x13 x14 x15 x16 x17 x18 x19 x20 x21 x22 => hK _ (by show (1 : Int32) ≠ 0; decide) (Or.inr ⟨rfl, hp, a1, a2⟩))
      · exfalso; apply hh; rw [yn_le (by omega) (by omega)]; omega
    | succ d ih =>
      intro v sm hd hv hsm
      have ev : Int32.ofNat v + 1 = Int32.ofNat (v+1) := yn_add v 1
      unfold wLX9_know_21
      rw [ev, yn_nat (by omega)]
      refine ⟨fun hh => ?_, fun _ => ⟨yn_in (by omega) (by omega), yn_in (by omega) (by omega), fun g hg => ih (v+1) g (by omega) (by omega) (fun u hu => ?_)⟩⟩
      · exfalso; rw [yn_le (by omega) (by omega)] at hh; omega
      · rw [hg]
        by_cases q : u = v
        · rw [q, yupd_same]
        · rw [yupd_ne _ _ _ _ q]; exact hsm u (by omega)
  exact ⟨_, key (N-0) 0 f37 rfl (by omega) (fun u hu => absurd hu (Nat.not_lt_zero _))⟩

theorem w9_isPlaneNow (hN : N ≤ 20) (hM : M ≤ 80) (hF : ∀ k, k < M → F k < N ∧ T k < N) {alv frm too : Nat → Int32} (hfr : ∀ k, k < M → frm k = Int32.ofNat (F k)) (hto : ∀ k, k < M → too k = Int32.ofNat (T k)) (hB : yBo M al alv)
    (i2 i3 i4 i5 i6 i7 i8 i9 i10 i11 i12 i13 i14 i15 i16 i17 : Int32) (f18 f22 f23 f24 f25 f26 f27 f28 f29 f30 f31 f32 f33 f34 f35 f36 f37 f38 f39 f40 f41 f42 f43 f44 f45 f46 f47 f48 f49 f50 f51 : Nat → Int32) (hk : i2 ≠ 0 → yKnR N M F T al i11 f22 f35 f39 f40 f41 f42 f48 f49) (K : Int32 → (Int32 × Int32 × Int32 × Int32 × Int32 × Int32 × Int32 × Int32 × Int32 × Int32 × Int32 × Int32 × Int32 × Int32 × Int32 × (Nat → Int32) × (Nat → Int32) × (Nat → Int32) × (Nat → Int32) × (Nat → Int32) × (Nat → Int32) × (Nat → Int32) × (Nat → Int32) × (Nat → Int32) × (Nat → Int32) × (Nat → Int32) × (Nat → Int32) × (Nat → Int32) × (Nat → Int32) × (Nat → Int32) × (Nat → Int32) × (Nat → Int32) × (Nat → Int32) × (Nat → Int32) × (Nat → Int32) × (Nat → Int32) × (Nat → Int32) × (Nat → Int32) × (Nat → Int32) × (Nat → Int32) × (Nat → Int32) × (Nat → Int32) × (Nat → Int32) × (Nat → Int32) × (Nat → Int32) × (Nat → Int32)) → Prop)
    (hK1 : yPln N (yGk M F T al) → ∀ u, u.1 ≠ 0 → yKnR N M F T al (u.2.2.2.2.2.2.2.2.2.1) (u.2.2.2.2.2.2.2.2.2.2.2.2.2.2.2.2.1) (u.2.2.2.2.2.2.2.2.2.2.2.2.2.2.2.2.2.2.2.2.2.2.2.2.2.2.2.2.2.1) (u.2.2.2.2.2.2.2.2.2.2.2.2.2.2.2.2.2.2.2.2.2.2.2.2.2.2.2.2.2.2.2.2.2.1) (u.2.2.2.2.2.2.2.2.2.2.2.2.2.2.2.2.2.2.2.2.2.2.2.2.2.2.2.2.2.2.2.2.2.2.1) (u.2.2.2.2.2.2.2.2.2.2.2.2.2.2.2.2.2.2.2.2.2.2.2.2.2.2.2.2.2.2.2.2.2.2.2.1) (u.2.2.2.2.2.2.2.2.2.2.2.2.2.2.2.2.2.2.2.2.2.2.2.2.2.2.2.2.2.2.2.2.2.2.2.2.1) (u.2.2.2.2.2.2.2.2.2.2.2.2.2.2.2.2.2.2.2.2.2.2.2.2.2.2.2.2.2.2.2.2.2.2.2.2.2.2.2.2.2.2.1) (u.2.2.2.2.2.2.2.2.2.2.2.2.2.2.2.2.2.2.2.2.2.2.2.2.2.2.2.2.2.2.2.2.2.2.2.2.2.2.2.2.2.2.2.1) → K 1 u) (hK0 : ¬ yPln N (yGk M F T al) → ∀ u, u.1 ≠ 0 → yKnR N M F T al (u.2.2.2.2.2.2.2.2.2.1) (u.2.2.2.2.2.2.2.2.2.2.2.2.2.2.2.2.1) (u.2.2.2.2.2.2.2.2.2.2.2.2.2.2.2.2.2.2.2.2.2.2.2.2.2.2.2.2.2.1) (u.2.2.2.2.2.2.2.2.2.2.2.2.2.2.2.2.2.2.2.2.2.2.2.2.2.2.2.2.2.2.2.2.2.1) (u.2.2.2.2.2.2.2.2.2.2.2.2.2.2.2.2.2.2.2.2.2.2.2.2.2.2.2.2.2.2.2.2.2.2.1) (u.2.2.2.2.2.2.2.2.2.2.2.2.2.2.2.2.2.2.2.2.2.2.2.2.2.2.2.2.2.2.2.2.2.2.2.1) (u.2.2.2.2.2.2.2.2.2.2.2.2.2.2.2.2.2.2.2.2.2.2.2.2.2.2.2.2.2.2.2.2.2.2.2.2.1) (u.2.2.2.2.2.2.2.2.2.2.2.2.2.2.2.2.2.2.2.2.2.2.2.2.2.2.2.2.2.2.2.2.2.2.2.2.2.2.2.2.2.2.1) (u.2.2.2.2.2.2.2.2.2.2.2.2.2.2.2.2.2.2.2.2.2.2.2.2.2.2.2.2.2.2.2.2.2.2.2.2.2.2.2.2.2.2.2.1) → K 0 u) :
    wX9_isPlaneNow (Int32.ofNat N) (Int32.ofNat M) i2 i3 i4 i5 i6 i7 i8 i9 i10 i11 i12 i13 i14 i15 i16 i17 f18 alv frm too f22 f23 f24 f25 f26 f27 f28 f29 f30 f31 f32 f33 f34 f35 f36 f37 f38 f39 f40 f41 f42 f43 f44 f45 f46 f47 f48 f49 f50 f51 K := by
  unfold wX9_isPlaneNow
  refine w9_know hN hM hF hfr hto hB _ _ _ _ _ _ _ _ _ _ _ _ _ _ _ _ _ _ _ _ _ _ _ _ _ _ _ _ _ _ _ _ _ _ _ _ _ _ _ _ _ _ _ _ _ _ _ hk _ (fun u h1 h2 => ?_)
  have h2' := h2
  rcases h2 with ⟨e, q, _⟩ | ⟨e, q, _⟩
  · have hk1 : K (u.2.2.2.2.2.2.2.2.2.1) u := by rw [e]; exact hK1 q u h1 h2'
    exact ⟨by rw [e]; rfl, hk1⟩
  · have hk0 : K (u.2.2.2.2.2.2.2.2.2.1) u := by rw [e]; exact hK0 q u h1 h2'
    exact ⟨by rw [e]; rfl, hk0⟩
end


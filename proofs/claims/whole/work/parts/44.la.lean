
-- small numbers as ints
theorem yn_toInt {n : Nat} (h : n < 2147483648) : (Int32.ofNat n).toInt = n := Int32.toInt_ofNat_of_lt h

theorem yn_lt {a b : Nat} (ha : a < 2147483648) (hb : b < 2147483648) : (Int32.ofNat a < Int32.ofNat b) ↔ a < b := by
  rw [Int32.lt_iff_toInt_lt, yn_toInt ha, yn_toInt hb]; omega

theorem yn_le {a b : Nat} (ha : a < 2147483648) (hb : b < 2147483648) : (Int32.ofNat a ≤ Int32.ofNat b) ↔ a ≤ b := by
  rw [Int32.le_iff_toInt_le, yn_toInt ha, yn_toInt hb]; omega

theorem yn_inj {a b : Nat} (ha : a < 2147483648) (hb : b < 2147483648) : (Int32.ofNat a = Int32.ofNat b) ↔ a = b := by
  rw [← Int32.toInt_inj, yn_toInt ha, yn_toInt hb]; omega

theorem yn_nat {n : Nat} (h : n < 2147483648) : (Int32.ofNat n).toNatClampNeg = n := by
  unfold Int32.toNatClampNeg; rw [yn_toInt h]; simp

theorem yn_neg {n : Nat} (h : n < 2147483648) : ¬ (Int32.ofNat n < 0) := by
  have : (0 : Int32) = Int32.ofNat 0 := rfl
  rw [this, yn_lt h (by omega)]; omega

theorem yn_in {n N : Nat} (h : n < 2147483648) (hN : n < N) : vp_in (Int32.ofNat n) N := by
  unfold vp_in
  rw [yn_nat h]
  intro hc
  rcases hc with h1 | h1
  · exact yn_neg h h1
  · omega

theorem yn_add (a b : Nat) : Int32.ofNat a + Int32.ofNat b = Int32.ofNat (a + b) := (Int32.ofNat_add a b).symm
theorem yn_mul (a b : Nat) : Int32.ofNat a * Int32.ofNat b = Int32.ofNat (a * b) := (Int32.ofNat_mul a b).symm
theorem yn_sub {a b : Nat} (h : b ≤ a) : Int32.ofNat a - Int32.ofNat b = Int32.ofNat (a - b) := (Int32.ofNat_sub a b h).symm

theorem yn_div {a b : Nat} (ha : a < 2147483648) (hb : b < 2147483648) : Int32.ofNat a / Int32.ofNat b = Int32.ofNat (a / b) := by
  have h1 : a / b < 2147483648 := Nat.lt_of_le_of_lt (Nat.div_le_self a b) ha
  rw [← Int32.toInt_inj, Int32.toInt_div, yn_toInt ha, yn_toInt hb, yn_toInt h1]
  rw [Int.tdiv_eq_ediv_of_nonneg (by omega)]
  rw [← Int.natCast_ediv]
  generalize a / b = q at h1 ⊢
  rw [Int.bmod_eq_of_le] <;> omega

theorem yn_mod {a b : Nat} (ha : a < 2147483648) (hb : b < 2147483648) : Int32.ofNat a % Int32.ofNat b = Int32.ofNat (a % b) := by
  have h1 : a % b < 2147483648 := Nat.lt_of_le_of_lt (Nat.mod_le a b) ha
  rw [← Int32.toInt_inj, Int32.toInt_mod, yn_toInt ha, yn_toInt hb, yn_toInt h1]
  rw [Int.tmod_eq_emod_of_nonneg (by omega)]
  rw [← Int.natCast_emod]

-- an int that is no less than 0 is a small number
theorem yn_of {x : Int32} (h : ¬ x < 0) : ∃ n, n < 2147483648 ∧ x = Int32.ofNat n := by
  have h0 : (0 : Int32).toInt = 0 := rfl
  rw [Int32.lt_iff_toInt_lt, h0] at h
  have h1 := Int32.toInt_lt x
  refine ⟨x.toInt.toNat, by omega, ?_⟩
  rw [← Int32.toInt_inj, yn_toInt (by omega)]
  omega

-- bits
def yM (x : Int32) (i : Nat) : Bool := x.toBitVec.getLsbD i

theorem yM_ext {x y : Int32} (h : ∀ i, i < 32 → yM x i = yM y i) : x = y := by
  rw [← Int32.toBitVec_inj]
  apply BitVec.eq_of_getLsbD_eq
  intro i hi
  exact h i hi

theorem yM_and (x y : Int32) (i : Nat) : yM (x &&& y) i = (yM x i && yM y i) := by
  unfold yM; rw [Int32.toBitVec_and, BitVec.getLsbD_and]
theorem yM_or (x y : Int32) (i : Nat) : yM (x ||| y) i = (yM x i || yM y i) := by
  unfold yM; rw [Int32.toBitVec_or, BitVec.getLsbD_or]
theorem yM_xor (x y : Int32) (i : Nat) : yM (x ^^^ y) i = Bool.xor (yM x i) (yM y i) := by
  unfold yM; rw [Int32.toBitVec_xor, BitVec.getLsbD_xor]
theorem yM_big (x : Int32) (i : Nat) (h : 32 ≤ i) : yM x i = false := by
  unfold yM; exact BitVec.getLsbD_of_ge x.toBitVec i h
theorem yM_zero (i : Nat) : yM 0 i = false := by
  unfold yM; simp
theorem yM_neg1 (i : Nat) (h : i < 32) : yM (-1) i = true := by
  have : (-1 : Int32).toBitVec = BitVec.allOnes 32 := by decide
  unfold yM; rw [this, BitVec.getLsbD_allOnes]; simp [h]

theorem yM_not (x : Int32) (i : Nat) (h : i < 32) : yM (x ^^^ (-1)) i = !yM x i := by
  rw [yM_xor, yM_neg1 i h]; simp

theorem yn_bv (n : Nat) : (Int32.ofNat n).toBitVec = BitVec.ofNat 32 n := rfl

-- the distance of a shift
theorem yn_sh {k : Nat} (h : k < 32) : (Int32.ofNat k &&& 31) = Int32.ofNat k := by
  rw [← Int32.toBitVec_inj, Int32.toBitVec_and, yn_bv]
  apply BitVec.eq_of_toNat_eq
  rw [BitVec.toNat_and]
  have : (31 : Int32).toBitVec.toNat = 2 ^ 5 - 1 := rfl
  rw [this, Nat.and_two_pow_sub_one_eq_mod, BitVec.toNat_ofNat]
  omega

theorem yn_smod {k : Nat} (h : k < 32) : ((Int32.ofNat k).toBitVec.smod 32).toNat = k := by
  rw [yn_bv, BitVec.smod_eq]
  have h1 : (BitVec.ofNat 32 k).msb = false := by
    rw [BitVec.msb_eq_decide]; simp; omega
  have h2 : (32 : BitVec 32).msb = false := by decide
  rw [h1, h2]
  simp only [BitVec.umod_eq, BitVec.toNat_umod, BitVec.toNat_ofNat]
  have : (32 : BitVec 32).toNat = 32 := rfl
  rw [this]
  omega

theorem yM_shl {k : Nat} (h : k < 32) (i : Nat) (hi : i < 32) : yM ((1 : Int32) <<< (Int32.ofNat k &&& 31)) i = decide (i = k) := by
  rw [yn_sh h]
  unfold yM
  rw [Int32.toBitVec_shiftLeft]
  have : ((1 : Int32).toBitVec <<< (Int32.ofNat k).toBitVec.smod 32) = (1 : Int32).toBitVec <<< k := by
    rw [BitVec.shiftLeft_eq', yn_smod h]
  rw [this, BitVec.getLsbD_shiftLeft]
  have h1 : (1 : Int32).toBitVec = 1#32 := rfl
  rw [h1, BitVec.getLsbD_one]
  by_cases hik : i = k
  · subst hik; simp [hi]
  · by_cases hlt : i < k
    · simp [hlt, hik]
    · simp [hik, hi, hlt]; omega

theorem yM_one (i : Nat) : yM 1 i = decide (i = 0) := by
  unfold yM
  have h1 : (1 : Int32).toBitVec = 1#32 := rfl
  rw [h1, BitVec.getLsbD_one]; simp

-- one bit of a mask, asked by either shift
theorem yM_test {x : Int32} {k : Nat} (h : k < 32) : ((x >>> (Int32.ofNat k &&& 31)) &&& 1) = if yM x k then 1 else 0 := by
  apply yM_ext
  intro i hi
  rw [yM_and, yM_one]
  by_cases h0 : i = 0
  · subst h0
    rw [yn_sh h]
    have h1 : yM (x >>> Int32.ofNat k) 0 = yM x k := by
      unfold yM
      rw [Int32.toBitVec_shiftRight, BitVec.sshiftRight', yn_smod h, BitVec.getLsbD_sshiftRight]
      simp [h]
    rw [h1]
    cases yM x k
    · simp [yM_zero]
    · simp [yM_one]
  · simp only [h0, decide_false, Bool.and_false]
    cases yM x k
    · simp [yM_zero]
    · simp [yM_one, h0]

theorem yM_testu {x : Int32} {k : Nat} (h : k < 32) :
    (((Int32.toUInt32 x >>> (Int32.toUInt32 (Int32.ofNat k) &&& Int32.toUInt32 31)).toInt32) &&& 1) = if yM x k then 1 else 0 := by
  have hsh : Int32.toUInt32 (Int32.ofNat k) &&& Int32.toUInt32 31 = Int32.toUInt32 (Int32.ofNat k) := by
    have := yn_sh h
    have h2 := congrArg Int32.toUInt32 this
    rw [Int32.toUInt32_and] at h2
    exact h2
  rw [hsh]
  apply yM_ext
  intro i hi
  rw [yM_and, yM_one]
  have h1 : ∀ i, yM ((Int32.toUInt32 x >>> Int32.toUInt32 (Int32.ofNat k)).toInt32) i = yM x (k + i) := by
    intro i
    unfold yM
    have e1 : ((Int32.toUInt32 x >>> Int32.toUInt32 (Int32.ofNat k)).toInt32).toBitVec = (Int32.toUInt32 x >>> Int32.toUInt32 (Int32.ofNat k)).toBitVec := rfl
    rw [e1, UInt32.toBitVec_shiftRight, Int32.toBitVec_toUInt32, Int32.toBitVec_toUInt32, BitVec.ushiftRight_eq', BitVec.getLsbD_ushiftRight]
    congr 1
    rw [yn_bv, BitVec.toNat_umod, BitVec.toNat_ofNat]
    have : (32 : BitVec 32).toNat = 32 := rfl
    rw [this]; omega
  rw [h1]
  by_cases h0 : i = 0
  · subst h0
    simp only [Nat.add_zero]
    cases yM x k
    · simp [yM_zero]
    · simp [yM_one]
  · simp only [h0, decide_false, Bool.and_false]
    cases yM x k
    · simp [yM_zero]
    · simp [yM_one, h0]

theorem yM_eq0 {x : Int32} : x = 0 ↔ ∀ i, i < 32 → yM x i = false := by
  constructor
  · intro h i _; rw [h]; exact yM_zero i
  · intro h; apply yM_ext; intro i hi; rw [h i hi, yM_zero]

theorem yupd_same (f : Nat → Int32) (k : Nat) (x : Int32) : upd f k x k = x := by unfold upd; simp
theorem yupd_ne (f : Nat → Int32) (k j : Nat) (x : Int32) (h : j ≠ k) : upd f k x j = f j := by unfold upd; simp [h]
theorem yupdL_same (f : Nat → Int64) (k : Nat) (x : Int64) : vp_updL f k x k = x := by unfold vp_updL; simp
theorem yupdL_ne (f : Nat → Int64) (k j : Nat) (x : Int64) (h : j ≠ k) : vp_updL f k x j = f j := by unfold vp_updL; simp [h]
-- how many bits are set below m
def yNb : Nat → (Nat → Bool) → Nat
  | 0, _ => 0
  | m+1, p => yNb m p + (if p m then 1 else 0)

theorem yNb_congr (m : Nat) (p q : Nat → Bool) (h : ∀ i, i < m → p i = q i) : yNb m p = yNb m q := by
  induction m with
  | zero => rfl
  | succ m ih => simp only [yNb]; rw [ih (fun i hi => h i (by omega)), h m (by omega)]

theorem yNb_le (m : Nat) (p : Nat → Bool) : yNb m p ≤ m := by
  induction m with
  | zero => simp [yNb]
  | succ m ih => simp only [yNb]; split <;> omega

theorem yNb_add (a b : Nat) (p : Nat → Bool) : yNb (a + b) p = yNb a p + yNb b (fun i => p (a + i)) := by
  induction b with
  | zero => simp [yNb]
  | succ b ih => rw [← Nat.add_assoc]; simp only [yNb]; rw [ih]; omega

-- parts of 8 bits
theorem yand8 {a c : Nat} (ha : a < 256) (hc : c < 256) (b d : Nat) : (a + 256 * b) &&& (c + 256 * d) = (a &&& c) + 256 * (b &&& d) := by
  have hac : a &&& c < 2 ^ 8 := Nat.and_lt_two_pow a hc
  have e1 : a + 256 * b = 2 ^ 8 * b + a := by omega
  have e2 : c + 256 * d = 2 ^ 8 * d + c := by omega
  have e3 : (a &&& c) + 256 * (b &&& d) = 2 ^ 8 * (b &&& d) + (a &&& c) := by omega
  rw [e1, e2, e3]
  apply Nat.eq_of_testBit_eq
  intro i
  rw [Nat.testBit_and, Nat.testBit_two_pow_mul_add _ ha, Nat.testBit_two_pow_mul_add _ hc, Nat.testBit_two_pow_mul_add _ hac]
  by_cases h : i < 8 <;> simp [h, Nat.testBit_and]

def yb1 (a : Nat) : Nat := a - ((a / 2) &&& 85)
def yb2 (a : Nat) : Nat := (a &&& 51) + ((a / 4) &&& 51)
def yb3 (a : Nat) : Nat := (a + a / 16) &&& 15

theorem yb_all : ∀ a : Fin 256, (∀ t : Fin 2, (a.1 / 2 + 128 * t.1) &&& 85 = (a.1 / 2) &&& 85) ∧ (a.1 / 2) &&& 85 ≤ a.1 ∧ yb1 a.1 < 256 := by decide +kernel
theorem yb_all2 : ∀ a : Fin 256, (∀ t : Fin 4, (a.1 / 4 + 64 * t.1) &&& 51 = (a.1 / 4) &&& 51) ∧ (a.1 &&& 51) + ((a.1 / 4) &&& 51) < 256 := by decide +kernel
theorem yb_all3 : ∀ a : Fin 256, yb2 (yb1 a.1) < 256 ∧ yb2 (yb1 a.1) + yb2 (yb1 a.1) / 16 < 256 ∧ (∀ t : Fin 16, (yb2 (yb1 a.1) + yb2 (yb1 a.1) / 16 + 16 * t.1) < 256 ∨ True) ∧
    yb3 (yb2 (yb1 a.1)) = yNb 8 (fun i => a.1.testBit i) := by decide +kernel

theorem yb_e : ∀ a : Fin 256, yb2 (yb1 a.1) % 16 ≤ 4 ∧ yb2 (yb1 a.1) / 16 ≤ 4 ∧ yNb 8 (fun i => a.1.testBit i) ≤ 8 := by decide +kernel

-- an int as a number below 2^32
def yU (x : Int32) : Nat := x.toBitVec.toNat

theorem yU_lt (x : Int32) : yU x < 4294967296 := x.toBitVec.isLt
theorem yU_inj {x y : Int32} (h : yU x = yU y) : x = y := by
  rw [← Int32.toBitVec_inj]; exact BitVec.eq_of_toNat_eq h
theorem yU_and (x y : Int32) : yU (x &&& y) = yU x &&& yU y := by
  unfold yU; rw [Int32.toBitVec_and, BitVec.toNat_and]
theorem yU_add (x y : Int32) : yU (x + y) = (yU x + yU y) % 4294967296 := by
  unfold yU; rw [Int32.toBitVec_add, BitVec.toNat_add]
theorem yU_sub {x y : Int32} (h : yU y ≤ yU x) : yU (x - y) = yU x - yU y := by
  have hx := yU_lt x
  unfold yU at *; rw [Int32.toBitVec_sub, BitVec.toNat_sub]; omega
theorem yU_ofNat {n : Nat} (h : n < 4294967296) : yU (Int32.ofNat n) = n := by
  unfold yU; rw [yn_bv, BitVec.toNat_ofNat]; omega
theorem yU_shr (x : Int32) (k : Nat) (hk : k < 32) :
    yU ((Int32.toUInt32 x >>> (Int32.toUInt32 (Int32.ofNat k) &&& Int32.toUInt32 31)).toInt32) = yU x / 2 ^ k := by
  have hsh : Int32.toUInt32 (Int32.ofNat k) &&& Int32.toUInt32 31 = Int32.toUInt32 (Int32.ofNat k) := by
    have := yn_sh hk
    have h2 := congrArg Int32.toUInt32 this
    rw [Int32.toUInt32_and] at h2
    exact h2
  rw [hsh]
  unfold yU
  have e1 : ((Int32.toUInt32 x >>> Int32.toUInt32 (Int32.ofNat k)).toInt32).toBitVec = (Int32.toUInt32 x >>> Int32.toUInt32 (Int32.ofNat k)).toBitVec := rfl
  rw [e1, UInt32.toBitVec_shiftRight, Int32.toBitVec_toUInt32, Int32.toBitVec_toUInt32, BitVec.ushiftRight_eq', BitVec.toNat_ushiftRight, yn_bv, BitVec.toNat_umod, BitVec.toNat_ofNat]
  have : (32 : BitVec 32).toNat = 32 := rfl
  rw [this, Nat.shiftRight_eq_div_pow]
  congr 2
  omega
theorem yM_U (x : Int32) (i : Nat) : yM x i = (yU x).testBit i := rfl

theorem ybit8 (a b i : Nat) (ha : a < 256) : (a + 256 * b).testBit i = if i < 8 then a.testBit i else b.testBit (i - 8) := by
  have e1 : a + 256 * b = 2 ^ 8 * b + a := by omega
  rw [e1, Nat.testBit_two_pow_mul_add _ ha]


theorem yd2 (a b : Nat) : (a + 256 * b) / 2 = (a / 2 + 128 * (b % 2)) + 256 * (b / 2) := by omega
theorem yd4 (a b : Nat) : (a + 256 * b) / 4 = (a / 4 + 64 * (b % 4)) + 256 * (b / 4) := by omega
theorem yd16 (a b : Nat) : (a + 256 * b) / 16 = (a / 16 + 16 * (b % 16)) + 256 * (b / 16) := by omega
theorem ym2 (a b : Nat) : (a + 256 * b) % 2 = a % 2 := by omega
theorem ym4 (a b : Nat) : (a + 256 * b) % 4 = a % 4 := by omega
theorem ym16 (a b : Nat) : (a + 256 * b) % 16 = a % 16 := by omega

def yW (a b c d : Nat) : Nat := a + 256 * (b + 256 * (c + 256 * d))

theorem yW_and {a b c d k : Nat} (ha : a < 256) (hb : b < 256) (hc : c < 256) (hk : k < 256) : yW a b c d &&& yW k k k k = yW (a &&& k) (b &&& k) (c &&& k) (d &&& k) := by
  unfold yW
  rw [yand8 ha hk, yand8 hb hk, yand8 hc hk]

theorem yW_d2 (a b c d : Nat) : yW a b c d / 2 = yW (a / 2 + 128 * (b % 2)) (b / 2 + 128 * (c % 2)) (c / 2 + 128 * (d % 2)) (d / 2) := by
  unfold yW; rw [yd2, yd2, yd2, ym2, ym2]
theorem yW_d4 (a b c d : Nat) : yW a b c d / 4 = yW (a / 4 + 64 * (b % 4)) (b / 4 + 64 * (c % 4)) (c / 4 + 64 * (d % 4)) (d / 4) := by
  unfold yW; rw [yd4, yd4, yd4, ym4, ym4]
theorem yW_d16 (a b c d : Nat) : yW a b c d / 16 = yW (a / 16 + 16 * (b % 16)) (b / 16 + 16 * (c % 16)) (c / 16 + 16 * (d % 16)) (d / 16) := by
  unfold yW; rw [yd16, yd16, yd16, ym16, ym16]
theorem yW_add (a b c d a' b' c' d' : Nat) : yW a b c d + yW a' b' c' d' = yW (a + a') (b + b') (c + c') (d + d') := by
  unfold yW; omega
theorem yW_sub {a b c d a' b' c' d' : Nat} (h1 : a' ≤ a) (h2 : b' ≤ b) (h3 : c' ≤ c) (h4 : d' ≤ d) : yW a b c d - yW a' b' c' d' = yW (a - a') (b - b') (c - c') (d - d') := by
  unfold yW; omega
theorem yW_le {a b c d a' b' c' d' : Nat} (h1 : a' ≤ a) (h2 : b' ≤ b) (h3 : c' ≤ c) (h4 : d' ≤ d) : yW a' b' c' d' ≤ yW a b c d := by
  unfold yW; omega
theorem yW_lt {a b c d : Nat} (h1 : a < 256) (h2 : b < 256) (h3 : c < 256) (h4 : d < 256) : yW a b c d < 4294967296 := by
  unfold yW; omega

theorem yb_s1 {x0 x1 x2 x3 : Nat} (h0 : x0 < 256) (h1 : x1 < 256) (h2 : x2 < 256) (_ : x3 < 256) :
    yW x0 x1 x2 x3 / 2 &&& yW 85 85 85 85 = yW ((x0 / 2) &&& 85) ((x1 / 2) &&& 85) ((x2 / 2) &&& 85) ((x3 / 2) &&& 85) := by
  rw [yW_d2, yW_and (by omega) (by omega) (by omega) (by omega)]
  have g0 := (yb_all ⟨x0, h0⟩).1 ⟨x1 % 2, by omega⟩
  have g1 := (yb_all ⟨x1, h1⟩).1 ⟨x2 % 2, by omega⟩
  have g2 := (yb_all ⟨x2, h2⟩).1 ⟨x3 % 2, by omega⟩
  dsimp only at g0 g1 g2
  rw [g0, g1, g2]

theorem yb_s2 {x0 x1 x2 x3 : Nat} (h0 : x0 < 256) (h1 : x1 < 256) (h2 : x2 < 256) (_ : x3 < 256) :
    (yW x0 x1 x2 x3 &&& yW 51 51 51 51) + (yW x0 x1 x2 x3 / 4 &&& yW 51 51 51 51) = yW (yb2 x0) (yb2 x1) (yb2 x2) (yb2 x3) := by
  rw [yW_d4, yW_and h0 h1 h2 (by omega), yW_and (by omega) (by omega) (by omega) (by omega)]
  have g0 := (yb_all2 ⟨x0, h0⟩).1 ⟨x1 % 4, by omega⟩
  have g1 := (yb_all2 ⟨x1, h1⟩).1 ⟨x2 % 4, by omega⟩
  have g2 := (yb_all2 ⟨x2, h2⟩).1 ⟨x3 % 4, by omega⟩
  dsimp only at g0 g1 g2
  rw [g0, g1, g2, yW_add]
  rfl

theorem yb_s3 {y0 y1 y2 y3 : Nat} (h0 : y0 % 16 ≤ 4 ∧ y0 / 16 ≤ 4) (h1 : y1 % 16 ≤ 4 ∧ y1 / 16 ≤ 4) (h2 : y2 % 16 ≤ 4 ∧ y2 / 16 ≤ 4) (h3 : y3 % 16 ≤ 4 ∧ y3 / 16 ≤ 4) :
    ((yW y0 y1 y2 y3 + yW y0 y1 y2 y3 / 16) % 4294967296) &&& yW 15 15 15 15 = yW (yb3 y0) (yb3 y1) (yb3 y2) (yb3 y3) := by
  have hm : ∀ a : Nat, a &&& 15 = a % 16 := fun a => Nat.and_two_pow_sub_one_eq_mod a 4
  rw [yW_d16, yW_add, Nat.mod_eq_of_lt (yW_lt (by omega) (by omega) (by omega) (by omega)), yW_and (by omega) (by omega) (by omega) (by omega)]
  unfold yb3
  simp only [hm]
  congr 1 <;> omega

theorem yb_s4 {n0 n1 n2 n3 : Nat} (h0 : n0 ≤ 8) (h1 : n1 ≤ 8) (h2 : n2 ≤ 8) (h3 : n3 ≤ 8) :
    (yW n0 n1 n2 n3 + yW n0 n1 n2 n3 / 256) % 4294967296 = yW (n0 + n1) (n1 + n2) (n2 + n3) n3 := by
  have : yW n0 n1 n2 n3 / 256 = yW n1 n2 n3 0 := by unfold yW; omega
  rw [this, yW_add, Nat.mod_eq_of_lt (yW_lt (by omega) (by omega) (by omega) (by omega))]
  rfl

theorem yb_s5 {n0 n1 n2 n3 : Nat} (h0 : n0 ≤ 16) (h1 : n1 ≤ 16) (h2 : n2 ≤ 16) (h3 : n3 ≤ 16) :
    ((yW n0 n1 n2 n3 + yW n0 n1 n2 n3 / 65536) % 4294967296) % 64 = n0 + n2 := by
  have : yW n0 n1 n2 n3 / 65536 = yW n2 n3 0 0 := by unfold yW; omega
  rw [this, yW_add, Nat.mod_eq_of_lt (yW_lt (by omega) (by omega) (by omega) (by omega))]
  unfold yW; omega

theorem yb_bytes (X : Nat) (h : X < 4294967296) : ∃ x0 x1 x2 x3, x0 < 256 ∧ x1 < 256 ∧ x2 < 256 ∧ x3 < 256 ∧ X = yW x0 x1 x2 x3 := by
  refine ⟨X % 256, X / 256 % 256, X / 65536 % 256, X / 16777216, by omega, by omega, by omega, by omega, ?_⟩
  unfold yW; omega

theorem yb_count {x0 x1 x2 x3 : Nat} (h0 : x0 < 256) (h1 : x1 < 256) (h2 : x2 < 256) :
    yNb 32 (fun i => (yW x0 x1 x2 x3).testBit i) = yNb 8 (fun i => x0.testBit i) + (yNb 8 (fun i => x1.testBit i) + (yNb 8 (fun i => x2.testBit i) + yNb 8 (fun i => x3.testBit i))) := by
  have e1 : ∀ (a b n : Nat), a < 256 → yNb (8 + n) (fun i => (a + 256 * b).testBit i) = yNb 8 (fun i => a.testBit i) + yNb n (fun i => b.testBit i) := by
    intro a b n ha
    rw [yNb_add]
    congr 1
    · apply yNb_congr; intro i hi; rw [ybit8 a b i ha, if_pos hi]
    · apply yNb_congr; intro i hi; rw [ybit8 a b _ ha, if_neg (by omega)]; congr 1; omega
  unfold yW
  have e2 := e1 x0 (x1 + 256 * (x2 + 256 * x3)) 24 h0
  have e3 := e1 x1 (x2 + 256 * x3) 16 h1
  have e4 := e1 x2 x3 8 h2
  rw [e2, e3, e4]

theorem yb_fin {x0 x1 x2 x3 : Nat} (h0 : x0 < 256) (h1 : x1 < 256) (h2 : x2 < 256) (h3 : x3 < 256) (v9 v23 v33 v40 v47 : Nat)
    (e9 : v9 = yW x0 x1 x2 x3 - (yW x0 x1 x2 x3 / 2 &&& yW 85 85 85 85))
    (e23 : v23 = ((v9 &&& yW 51 51 51 51) + (v9 / 4 &&& yW 51 51 51 51)) % 4294967296)
    (e33 : v33 = ((v23 + v23 / 16) % 4294967296) &&& yW 15 15 15 15)
    (e40 : v40 = (v33 + v33 / 256) % 4294967296)
    (e47 : v47 = (v40 + v40 / 65536) % 4294967296) :
    v47 % 64 = yNb 32 (fun i => (yW x0 x1 x2 x3).testBit i) := by
  have a0 := yb_all ⟨x0, h0⟩
  have a1 := yb_all ⟨x1, h1⟩
  have a2 := yb_all ⟨x2, h2⟩
  have a3 := yb_all ⟨x3, h3⟩
  have b0 := yb_all3 ⟨x0, h0⟩
  have b1 := yb_all3 ⟨x1, h1⟩
  have b2 := yb_all3 ⟨x2, h2⟩
  have b3 := yb_all3 ⟨x3, h3⟩
  have c0 := yb_e ⟨x0, h0⟩
  have c1 := yb_e ⟨x1, h1⟩
  have c2 := yb_e ⟨x2, h2⟩
  have c3 := yb_e ⟨x3, h3⟩
  dsimp only at a0 a1 a2 a3 b0 b1 b2 b3 c0 c1 c2 c3
  rw [yb_s1 h0 h1 h2 h3, yW_sub a0.2.1 a1.2.1 a2.2.1 a3.2.1] at e9
  have e9 : v9 = yW (yb1 x0) (yb1 x1) (yb1 x2) (yb1 x3) := e9
  rw [e9, yb_s2 a0.2.2 a1.2.2 a2.2.2 a3.2.2, Nat.mod_eq_of_lt (yW_lt b0.1 b1.1 b2.1 b3.1)] at e23
  rw [e23, yb_s3 ⟨c0.1, c0.2.1⟩ ⟨c1.1, c1.2.1⟩ ⟨c2.1, c2.2.1⟩ ⟨c3.1, c3.2.1⟩] at e33
  rw [b0.2.2.2, b1.2.2.2, b2.2.2.2, b3.2.2.2] at e33
  rw [e33, yb_s4 c0.2.2 c1.2.2 c2.2.2 c3.2.2] at e40
  rw [e47, e40, yb_s5 (by omega) (by omega) (by omega) (by omega), yb_count h0 h1 h2]
  omega

theorem w_bitCount (p0 : Int32) (K : Int32 → Unit → Prop) (h : K (Int32.ofNat (yNb 32 (yM p0))) ()) : wJ6_bitCount_0f7a4 p0 K := by
  unfold wJ6_bitCount_0f7a4
  intro v9 hv9 v23 hv23 v33 hv33 v40 hv40 v47 hv47
  obtain ⟨x0, x1, x2, x3, h0, h1, h2, h3, hX⟩ := yb_bytes (yU p0) (yU_lt p0)
  have s1 : yU ((Int32.toUInt32 p0 >>> (Int32.toUInt32 (1 : Int32) &&& Int32.toUInt32 31)).toInt32) = yU p0 / 2 ^ 1 := yU_shr p0 1 (by omega)
  have s2 : yU ((Int32.toUInt32 v9 >>> (Int32.toUInt32 (2 : Int32) &&& Int32.toUInt32 31)).toInt32) = yU v9 / 2 ^ 2 := yU_shr v9 2 (by omega)
  have s4 : yU ((Int32.toUInt32 v23 >>> (Int32.toUInt32 (4 : Int32) &&& Int32.toUInt32 31)).toInt32) = yU v23 / 2 ^ 4 := yU_shr v23 4 (by omega)
  have s8 : yU ((Int32.toUInt32 v33 >>> (Int32.toUInt32 (8 : Int32) &&& Int32.toUInt32 31)).toInt32) = yU v33 / 2 ^ 8 := yU_shr v33 8 (by omega)
  have s16 : yU ((Int32.toUInt32 v40 >>> (Int32.toUInt32 (16 : Int32) &&& Int32.toUInt32 31)).toInt32) = yU v40 / 2 ^ 16 := yU_shr v40 16 (by omega)
  have c85 : yU (1431655765 : Int32) = yW 85 85 85 85 := rfl
  have c51 : yU (858993459 : Int32) = yW 51 51 51 51 := rfl
  have c15 : yU (252645135 : Int32) = yW 15 15 15 15 := rfl
  have c63 : yU (63 : Int32) = 2 ^ 6 - 1 := rfl
  have e9 : yU v9 = yW x0 x1 x2 x3 - (yW x0 x1 x2 x3 / 2 &&& yW 85 85 85 85) := by
    have hle : yU (((Int32.toUInt32 p0 >>> (Int32.toUInt32 (1 : Int32) &&& Int32.toUInt32 31)).toInt32) &&& 1431655765) ≤ yU p0 := by
      rw [yU_and, s1]
      exact Nat.le_trans Nat.and_le_left (Nat.div_le_self _ _)
    rw [hv9, yU_sub hle, yU_and, s1, c85, hX]
  have e23 : yU v23 = ((yU v9 &&& yW 51 51 51 51) + (yU v9 / 4 &&& yW 51 51 51 51)) % 4294967296 := by
    rw [hv23, yU_add, yU_and, yU_and, s2, c51]
  have e33 : yU v33 = ((yU v23 + yU v23 / 16) % 4294967296) &&& yW 15 15 15 15 := by
    rw [hv33, yU_and, yU_add, s4, c15]
  have e40 : yU v40 = (yU v33 + yU v33 / 256) % 4294967296 := by
    rw [hv40, yU_add, s8]
  have e47 : yU v47 = (yU v40 + yU v40 / 65536) % 4294967296 := by
    rw [hv47, yU_add, s16]
  have hf := yb_fin h0 h1 h2 h3 _ _ _ _ _ e9 e23 e33 e40 e47
  have hfin : (v47 &&& 63) = Int32.ofNat (yNb 32 (yM p0)) := by
    apply yU_inj
    have hlt : yNb 32 (yM p0) < 4294967296 := Nat.lt_of_le_of_lt (yNb_le 32 _) (by omega)
    rw [yU_and, c63, Nat.and_two_pow_sub_one_eq_mod, yU_ofNat hlt]
    have h64 : (2 : Nat) ^ 6 = 64 := rfl
    rw [h64, hf]
    apply yNb_congr
    intro i _
    rw [yM_U, hX]
  rw [hfin]; exact h

-- the least bit
theorem yNb_ext (m k : Nat) (hk : k ≤ m) (p : Nat → Bool) (h : ∀ i, i < m → p i = decide (i < k)) : yNb m p = k := by
  have key : ∀ m, yNb m (fun i => decide (i < k)) = min m k := by
    intro m
    induction m with
    | zero => simp [yNb]
    | succ m ih => simp only [yNb]; rw [ih]; by_cases hmk : m < k <;> simp [hmk] <;> omega
  rw [yNb_congr m p (fun i => decide (i < k)) h, key]; omega

theorem yU_testBit_least (X k : Nat) (hX : X.testBit k = true) (hl : ∀ i, i < k → X.testBit i = false) : ∃ q, X = 2 ^ k * (2 * q + 1) := by
  refine ⟨X / 2 ^ (k+1), ?_⟩
  have h1 : X % 2 ^ k = 0 := by
    apply Nat.eq_of_testBit_eq
    intro i
    rw [Nat.testBit_mod_two_pow, Nat.zero_testBit]
    by_cases h : i < k
    · simp [h, hl i h]
    · simp [h]
  have h2 : X / 2 ^ k % 2 = 1 := by
    have := hX
    rw [Nat.testBit_eq_decide_div_mod_eq] at this
    simpa using this
  have h3 : X / 2 ^ (k+1) = X / 2 ^ k / 2 := by rw [Nat.pow_succ, Nat.div_div_eq_div_mul]
  have h4 := Nat.div_add_mod X (2 ^ k)
  rw [h1, Nat.add_zero] at h4
  rw [h3]
  have h5 : 2 * (X / 2 ^ k / 2) + 1 = X / 2 ^ k := by omega
  rw [h5]; exact h4.symm

theorem yM_pred {x : Int32} {k : Nat} (hk : k < 32) (hx : yM x k = true) (hl : ∀ i, i < k → yM x i = false) (i : Nat) (_ : i < 32) :
    yM (x - 1) i = if i < k then true else if i = k then false else yM x i := by
  obtain ⟨q, hq⟩ := yU_testBit_least (yU x) k hx hl
  have hpos : 0 < 2 ^ k := Nat.two_pow_pos k
  have hone : yU (1 : Int32) = 1 := rfl
  have hge : 1 ≤ yU x := by
    rw [hq]
    exact Nat.mul_pos hpos (by omega)
  have hsub : yU (x - 1) = 2 ^ (k+1) * q + (2 ^ k - 1) := by
    rw [yU_sub (by rw [hone]; exact hge), hone, hq, Nat.pow_succ]
    have : 2 ^ k * (2 * q + 1) = 2 ^ k * 2 * q + 2 ^ k := by rw [Nat.mul_add, Nat.mul_one, Nat.mul_assoc]
    omega
  have hlt : 2 ^ k - 1 < 2 ^ (k+1) := by rw [Nat.pow_succ]; omega
  have hxx : yU x = 2 ^ (k+1) * q + 2 ^ k := by
    rw [hq, Nat.pow_succ, Nat.mul_add, Nat.mul_one, Nat.mul_assoc]
  have hlt2 : 2 ^ k < 2 ^ (k+1) := by rw [Nat.pow_succ]; omega
  rw [yM_U, yM_U, hsub, hxx, Nat.testBit_two_pow_mul_add _ hlt, Nat.testBit_two_pow_mul_add _ hlt2]
  rw [Nat.testBit_two_pow_sub_one]
  by_cases h1 : i < k
  · have : i < k + 1 := by omega
    simp [h1, this]
  · by_cases h2 : i = k
    · subst h2; simp
    · have : ¬ i < k + 1 := by omega
      simp [h1, h2, this]

theorem w_lowest {x : Int32} {k : Nat} (hk : k < 32) (hx : yM x k = true) (hl : ∀ i, i < k → yM x i = false)
    (K : Int32 → Unit → Prop) (h : K (Int32.ofNat k) ()) : wX8_lowest x K := by
  unfold wX8_lowest
  apply w_bitCount
  have : yNb 32 (yM ((x ^^^ (-1)) &&& (x - 1))) = k := by
    apply yNb_ext 32 k (by omega)
    intro i hi
    rw [yM_and, yM_not x i hi, yM_pred hk hx hl i hi]
    by_cases h1 : i < k
    · simp [h1, hl i h1]
    · by_cases h2 : i = k
      · simp [h2]
      · simp [h1, h2]
  rw [this]; exact h

theorem yM_least {x : Int32} (h : ¬ x = 0) : ∃ k, k < 32 ∧ yM x k = true ∧ ∀ i, i < k → yM x i = false := by
  have hex : ∃ k, k < 32 ∧ yM x k = true := by
    by_cases hc : ∃ k, k < 32 ∧ yM x k = true
    · exact hc
    · exfalso; apply h; rw [yM_eq0]; intro i hi
      cases hb : yM x i with
      | false => rfl
      | true => exact absurd ⟨i, hi, hb⟩ hc
  obtain ⟨k, ⟨h1, h2⟩, h3⟩ := yMin (fun k => k < 32 ∧ yM x k = true) hex
  refine ⟨k, h1, h2, ?_⟩
  intro i hi
  cases hb : yM x i with
  | false => rfl
  | true => have := h3 i ⟨by omega, hb⟩; omega

-- masks of 64 bits
def yL (x : Int64) (i : Nat) : Bool := x.toBitVec.getLsbD i

theorem yL_ext {x y : Int64} (h : ∀ i, i < 64 → yL x i = yL y i) : x = y := by
  rw [← Int64.toBitVec_inj]
  apply BitVec.eq_of_getLsbD_eq
  intro i hi
  exact h i hi
theorem yL_and (x y : Int64) (i : Nat) : yL (x &&& y) i = (yL x i && yL y i) := by
  unfold yL; rw [Int64.toBitVec_and, BitVec.getLsbD_and]
theorem yL_or (x y : Int64) (i : Nat) : yL (x ||| y) i = (yL x i || yL y i) := by
  unfold yL; rw [Int64.toBitVec_or, BitVec.getLsbD_or]
theorem yL_xor (x y : Int64) (i : Nat) : yL (x ^^^ y) i = Bool.xor (yL x i) (yL y i) := by
  unfold yL; rw [Int64.toBitVec_xor, BitVec.getLsbD_xor]
theorem yL_zero (i : Nat) : yL 0 i = false := by
  unfold yL; simp
theorem yL_neg1 (i : Nat) (h : i < 64) : yL (-1) i = true := by
  have : (-1 : Int64).toBitVec = BitVec.allOnes 64 := by decide
  unfold yL; rw [this, BitVec.getLsbD_allOnes]; simp [h]
theorem yL_not (x : Int64) (i : Nat) (h : i < 64) : yL (x ^^^ (-1)) i = !yL x i := by
  rw [yL_xor, yL_neg1 i h]; simp
theorem yL_eq0 {x : Int64} : x = 0 ↔ ∀ i, i < 64 → yL x i = false := by
  constructor
  · intro h i _; rw [h]; exact yL_zero i
  · intro h; apply yL_ext; intro i hi; rw [h i hi, yL_zero]
theorem yL_big (x : Int64) (i : Nat) (h : 64 ≤ i) : yL x i = false := by
  unfold yL; exact BitVec.getLsbD_of_ge x.toBitVec i h
theorem ylg_cmp0 (x : Int64) : lg_cmp x 0 = 0 ↔ x = 0 := by
  unfold lg_cmp
  constructor
  · intro h
    by_cases h1 : x > 0
    · rw [if_pos h1] at h; exact absurd h (by decide)
    · rw [if_neg h1] at h
      by_cases h2 : x = 0
      · exact h2
      · rw [if_neg h2] at h; exact absurd h (by decide)
  · intro h
    subst h
    have : ¬ ((0 : Int64) > 0) := by decide
    rw [if_neg this, if_pos rfl]

theorem yn_64 {k : Nat} (h : k < 64) : (Int32.toInt64 (Int32.ofNat k)).toBitVec = BitVec.ofNat 64 k := by
  rw [Int32.toBitVec_toInt64, yn_bv]
  apply BitVec.eq_of_toNat_eq
  rw [BitVec.toNat_signExtend]
  have : (BitVec.ofNat 32 k).msb = false := by
    rw [BitVec.msb_eq_decide]; simp; omega
  simp [this]
  omega
theorem yn_64sh {k : Nat} (h : k < 64) : (Int32.toInt64 (Int32.ofNat k) &&& 63).toBitVec = BitVec.ofNat 64 k := by
  rw [Int64.toBitVec_and, yn_64 h]
  apply BitVec.eq_of_toNat_eq
  rw [BitVec.toNat_and]
  have : (63 : Int64).toBitVec.toNat = 2 ^ 6 - 1 := rfl
  rw [this, Nat.and_two_pow_sub_one_eq_mod, BitVec.toNat_ofNat]
  omega
theorem yL_shl {k : Nat} (h : k < 64) (i : Nat) (hi : i < 64) : yL ((1 : Int64) <<< (Int32.toInt64 (Int32.ofNat k) &&& 63)) i = decide (i = k) := by
  unfold yL
  rw [Int64.toBitVec_shiftLeft, yn_64sh h]
  have hs : ((BitVec.ofNat 64 k).smod 64).toNat = k := by
    rw [BitVec.smod_eq]
    have h1 : (BitVec.ofNat 64 k).msb = false := by
      rw [BitVec.msb_eq_decide]; simp; omega
    have h2 : (64 : BitVec 64).msb = false := by decide
    rw [h1, h2]
    simp only [BitVec.umod_eq, BitVec.toNat_umod, BitVec.toNat_ofNat]
    have : (64 : BitVec 64).toNat = 64 := rfl
    rw [this]; omega
  rw [BitVec.shiftLeft_eq', hs, BitVec.getLsbD_shiftLeft]
  have h1 : (1 : Int64).toBitVec = 1#64 := rfl
  rw [h1, BitVec.getLsbD_one]
  by_cases hik : i = k
  · subst hik; simp [hi]
  · by_cases hlt : i < k
    · simp [hlt, hik]
    · simp [hik, hi, hlt]; omega
theorem yL_test {x : Int64} {k : Nat} (h : k < 64) :
    (((Int64.toUInt64 x >>> ((Int32.toInt64 (Int32.ofNat k)).toUInt64 &&& Int64.toUInt64 63)).toInt64) &&& (1 : Int64)) = if yL x k then 1 else 0 := by
  apply yL_ext
  intro i hi
  rw [yL_and]
  have h1 : ∀ i, yL ((Int64.toUInt64 x >>> ((Int32.toInt64 (Int32.ofNat k)).toUInt64 &&& Int64.toUInt64 63)).toInt64) i = yL x (k + i) := by
    intro i
    unfold yL
    have e1 : ((Int64.toUInt64 x >>> ((Int32.toInt64 (Int32.ofNat k)).toUInt64 &&& Int64.toUInt64 63)).toInt64).toBitVec = (Int64.toUInt64 x >>> ((Int32.toInt64 (Int32.ofNat k)).toUInt64 &&& Int64.toUInt64 63)).toBitVec := rfl
    have e2 : ((Int32.toInt64 (Int32.ofNat k)).toUInt64 &&& Int64.toUInt64 63).toBitVec = BitVec.ofNat 64 k := yn_64sh h
    rw [e1, UInt64.toBitVec_shiftRight, e2, BitVec.ushiftRight_eq', BitVec.getLsbD_ushiftRight]
    have e3 : (BitVec.ofNat 64 k % 64).toNat = k := by
      rw [BitVec.toNat_umod, BitVec.toNat_ofNat]
      have : (64 : BitVec 64).toNat = 64 := rfl
      rw [this]; omega
    rw [e3]; rfl
  have h2 : ∀ i, yL 1 i = decide (i = 0) := by
    intro i; unfold yL
    have : (1 : Int64).toBitVec = 1#64 := rfl
    rw [this, BitVec.getLsbD_one]; simp
  rw [h1, h2]
  by_cases h0 : i = 0
  · subst h0
    simp only [Nat.add_zero]
    cases yL x k
    · simp [yL_zero]
    · simp [h2]
  · simp only [h0, decide_false, Bool.and_false]
    cases yL x k
    · simp [yL_zero]
    · simp [h2, h0]

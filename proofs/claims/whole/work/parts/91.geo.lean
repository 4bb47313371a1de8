
-- points of a grid
def yBtw (a b c : Int) : Prop := (a ≤ c ∧ c ≤ b) ∨ (b ≤ c ∧ c ≤ a)
def yOne (a b : Int) : Prop := (0 < a ∧ 0 < b) ∨ (a < 0 ∧ b < 0)
def yOpp (a b : Int) : Prop := (0 < a ∧ b < 0) ∨ (a < 0 ∧ 0 < b)
def yCrs (px py qx qy rx ry : Int) : Int := (qx-px)*(ry-py) - (rx-px)*(qy-py)

theorem yOne_pos {a b : Int} (h : yOne a b) : 0 < a * b := by
  rcases h with ⟨h1, h2⟩ | ⟨h1, h2⟩
  · exact Int.mul_pos h1 h2
  · exact Int.mul_pos_of_neg_of_neg h1 h2

theorem ySq (a : Int) : 0 ≤ a * a := by
  rcases Int.le_total 0 a with h | h
  · exact Int.mul_nonneg h h
  · exact Int.mul_nonneg_of_nonpos_of_nonpos h h

theorem yBtw_mul {a b c : Int} (h : yBtw a b c) : 0 ≤ -((a - c) * (b - c)) := by
  rcases h with ⟨h1, h2⟩ | ⟨h1, h2⟩
  · have : 0 ≤ (c - a) * (b - c) := Int.mul_nonneg (by omega) (by omega)
    have e : -((a - c) * (b - c)) = (c - a) * (b - c) := by grind
    rw [e]; exact this
  · have : 0 ≤ (a - c) * (c - b) := Int.mul_nonneg (by omega) (by omega)
    have e : -((a - c) * (b - c)) = (a - c) * (c - b) := by grind
    rw [e]; exact this

-- a point between two others: these are not on one side of a line over it
theorem yGeo1 {px py qx qy rx ry sx sy : Int} (hA : yCrs px py qx qy rx ry = 0) (hx : yBtw px qx rx) (hy : yBtw py qy ry) : ¬ yOne (yCrs rx ry sx sy px py) (yCrs rx ry sx sy qx qy) := by
  intro h
  have h1 := yOne_pos h
  have ha := yBtw_mul hy
  have hb := yBtw_mul hx
  unfold yCrs at *
  generalize hux : px - rx = ux at *
  generalize huy : py - ry = uy at *
  generalize hwx : qx - rx = wx at *
  generalize hwy : qy - ry = wy at *
  generalize hdx : sx - rx = dx at *
  generalize hdy : sy - ry = dy at *
  have hm : ux * wy - wx * uy = 0 := by
    rw [← hA, ← hux, ← huy, ← hwx, ← hwy]; grind
  have hmm : (ux * wy) * (ux * wy) = (-(uy*wy)) * (-(ux*wx)) := by
    have : ux * wy = wx * uy := by omega
    have e : (ux * wy) * (ux * wy) = (ux * wy) * (wx * uy) := by rw [← this]
    rw [e]; grind
  have hexp : (dx * uy - ux * dy) * (dx * wy - wx * dy) = -((-(uy*wy)) * (dx*dx) + 2 * ((ux*wy) * (dx * dy)) + (-(ux*wx)) * (dy*dy)) := by
    have : wx * uy = ux * wy := by omega
    have e : (dx * uy - ux * dy) * (dx * wy - wx * dy) = (uy*wy)*(dx*dx) - (wx*uy) * (dx*dy) - (ux*wy) * (dx*dy) + (ux*wx)*(dy*dy) := by grind
    rw [e, this]; grind
  rw [hexp] at h1
  generalize -(uy*wy) = a at *
  generalize -(ux*wx) = b at *
  generalize ux*wy = m at *
  rcases Int.lt_or_eq_of_le ha with h2 | h2
  · have h3 : 0 < a * (-(a * (dx*dx) + 2 * (m * (dx * dy)) + b * (dy*dy))) := Int.mul_pos h2 h1
    have h4 := ySq (a * dx + m * dy)
    have e : a * (-(a * (dx*dx) + 2 * (m * (dx * dy)) + b * (dy*dy))) = -((a * dx + m * dy) * (a * dx + m * dy)) + (m*m - a*b) * (dy*dy) := by grind
    rw [e, hmm] at h3
    have e2 : (a*b - a*b) * (dy*dy) = 0 := by grind
    rw [e2] at h3
    omega
  · have hm0 : m * m = 0 := by rw [hmm, ← h2]; grind
    have hm1 : m = 0 := by
      rcases Int.mul_eq_zero.1 hm0 with h | h <;> exact h
    rw [← h2, hm1] at h1
    have h5 : 0 ≤ b * (dy*dy) := Int.mul_nonneg hb (ySq dy)
    have e : -(0 * (dx*dx) + 2 * (0 * (dx * dy)) + b * (dy*dy)) = -(b * (dy*dy)) := by grind
    rw [e] at h1
    omega

-- what ties the four areas together
theorem yGeoS (px py qx qy rx ry sx sy : Int) : yCrs px py qx qy rx ry - yCrs px py qx qy sx sy = yCrs rx ry sx sy qx qy - yCrs rx ry sx sy px py := by unfold yCrs; grind
theorem yGeoX (px py qx qy rx ry sx sy : Int) : yCrs px py qx qy rx ry * sx - yCrs px py qx qy sx sy * rx = yCrs rx ry sx sy qx qy * px - yCrs rx ry sx sy px py * qx := by unfold yCrs; grind
theorem yGeoY (px py qx qy rx ry sx sy : Int) : yCrs px py qx qy rx ry * sy - yCrs px py qx qy sx sy * ry = yCrs rx ry sx sy qx qy * py - yCrs rx ry sx sy px py * qy := by unfold yCrs; grind

-- numbers with weights
theorem yWgt {A B C D p q r s : Int} (h : A * s - B * r = D * p - C * q) (hs : A - B = D - C) (hA : 0 ≤ A) (hB : B ≤ 0) (hC : C ≤ 0) (hD : 0 ≤ D) (hpos : 0 < A - B) : ¬ (p < r ∧ p < s ∧ q < r ∧ q < s) ∧ ¬ (r < p ∧ r < q ∧ s < p ∧ s < q) := by
  have key : ∀ p q r s : Int, A * s - B * r = D * p - C * q → ¬ (p < r ∧ p < s ∧ q < r ∧ q < s) := by
    intro p q r s h hh
    have hm : ∃ m, p ≤ m ∧ q ≤ m ∧ m < r ∧ m < s := by
      rcases Int.le_total p q with c | c
      · exact ⟨q, c, by omega, hh.2.2.1, hh.2.2.2⟩
      · exact ⟨p, by omega, c, hh.1, hh.2.1⟩
    obtain ⟨m, m1, m2, m3, m4⟩ := hm
    have a1 : 0 ≤ D * (m - p) := Int.mul_nonneg hD (by omega)
    have a2 : 0 ≤ (-C) * (m - q) := Int.mul_nonneg (by omega) (by omega)
    have a3 : A ≤ A * (s - m) := by
      have : A * 1 ≤ A * (s - m) := Int.mul_le_mul_of_nonneg_left (by omega) hA
      omega
    have a4 : -B ≤ (-B) * (r - m) := by
      have : (-B) * 1 ≤ (-B) * (r - m) := Int.mul_le_mul_of_nonneg_left (by omega) (by omega)
      omega
    have e : D * (m - p) + (-C) * (m - q) + A * (s - m) + (-B) * (r - m) = ((D - C) - (A - B)) * m + ((A * s - B * r) - (D * p - C * q)) := by grind
    rw [h, hs] at e
    have e2 : ((D - C) - (D - C)) * m + ((D * p - C * q) - (D * p - C * q)) = 0 := by grind
    omega
  refine ⟨key p q r s h, fun hh => key (-p) (-q) (-r) (-s) ?_ ⟨by omega, by omega, by omega, by omega⟩⟩
  have e1 : A * (-s) - B * (-r) = -(A * s - B * r) := by grind
  have e2 : D * (-p) - C * (-q) = -(D * p - C * q) := by grind
  rw [e1, e2, h]

-- a number with weights lies between
theorem yWbt {B C D p q r : Int} (h : - (B * r) = D * p - C * q) (hs : -B = D - C) (hC : C ≤ 0) (hD : 0 ≤ D) (hpos : 0 < -B) : yBtw p q r := by
  have key : ∀ p q r : Int, - (B * r) = D * p - C * q → p ≤ q → p ≤ r ∧ r ≤ q := by
    intro p q r h hpq
    constructor
    · apply Classical.byContradiction
      intro hh
      have a1 : 0 < (-B) * (p - r) := Int.mul_pos hpos (by omega)
      have a2 : 0 ≤ (-C) * (q - p) := Int.mul_nonneg (by omega) (by omega)
      have e : (-B) * (p - r) + (-C) * (q - p) = (-B - (D - C)) * p + (B * r + (D * p - C * q)) := by grind
      have e2 : -B - (D - C) = 0 := by omega
      rw [← h, e2] at e
      have e3 : 0 * p + (B * r + -(B * r)) = 0 := by grind
      omega
    · apply Classical.byContradiction
      intro hh
      have a1 : 0 < (-B) * (r - q) := Int.mul_pos hpos (by omega)
      have a2 : 0 ≤ D * (q - p) := Int.mul_nonneg hD (by omega)
      have e : (-B) * (r - q) + D * (q - p) = (B - (C - D)) * q + (-(B * r) - (D * p - C * q)) := by grind
      rw [h] at e
      have e2 : B - (C - D) = 0 := by omega
      rw [e2] at e
      have e3 : 0 * q + (D * p - C * q - (D * p - C * q)) = 0 := by grind
      omega
  rcases Int.le_total p q with c | c
  · exact Or.inl (key p q r h c)
  · right
    have h' : - (B * (-r)) = D * (-p) - C * (-q) := by
      have e1 : - (B * (-r)) = -(-(B*r)) := by grind
      have e2 : D * (-p) - C * (-q) = -(D * p - C * q) := by grind
      rw [e1, e2, h]
    have := key (-p) (-q) (-r) h' (by omega)
    omega

-- a line crosses another in one of its ends
theorem yGeo2 {px py qx qy rx ry sx sy : Int} (hA : yCrs px py qx qy rx ry = 0) (hB : yCrs px py qx qy sx sy ≠ 0) (hO : ¬ yOne (yCrs rx ry sx sy px py) (yCrs rx ry sx sy qx qy)) : yBtw px qx rx ∧ yBtw py qy ry := by
  have hS := yGeoS px py qx qy rx ry sx sy
  have hX := yGeoX px py qx qy rx ry sx sy
  have hY := yGeoY px py qx qy rx ry sx sy
  rw [hA] at hS hX hY
  generalize yCrs px py qx qy sx sy = B at *
  generalize yCrs rx ry sx sy px py = C at *
  generalize yCrs rx ry sx sy qx qy = D at *
  unfold yOne at hO
  have hX' : -(B * rx) = D * px - C * qx := by rw [← hX]; grind
  have hY' : -(B * ry) = D * py - C * qy := by rw [← hY]; grind
  rcases Int.lt_or_gt_of_ne hB with c | c
  · exact ⟨yWbt hX' (by omega) (by omega) (by omega) (by omega), yWbt hY' (by omega) (by omega) (by omega) (by omega)⟩
  · have hX2 : -((-B) * rx) = (-D) * px - (-C) * qx := by
      have e1 : -((-B) * rx) = -(-(B*rx)) := by grind
      have e2 : (-D) * px - (-C) * qx = -(D * px - C * qx) := by grind
      rw [e1, e2, hX']
    have hY2 : -((-B) * ry) = (-D) * py - (-C) * qy := by
      have e1 : -((-B) * ry) = -(-(B*ry)) := by grind
      have e2 : (-D) * py - (-C) * qy = -(D * py - C * qy) := by grind
      rw [e1, e2, hY']
    exact ⟨yWbt hX2 (by omega) (by omega) (by omega) (by omega), yWbt hY2 (by omega) (by omega) (by omega) (by omega)⟩

-- proper crossing: the frames have a point in common
theorem yGeo3 {px py qx qy rx ry sx sy : Int} (h1 : yOpp (yCrs px py qx qy rx ry) (yCrs px py qx qy sx sy)) (h2 : yOpp (yCrs rx ry sx sy px py) (yCrs rx ry sx sy qx qy)) :
    (¬ (px < rx ∧ px < sx ∧ qx < rx ∧ qx < sx) ∧ ¬ (rx < px ∧ rx < qx ∧ sx < px ∧ sx < qx)) ∧ (¬ (py < ry ∧ py < sy ∧ qy < ry ∧ qy < sy) ∧ ¬ (ry < py ∧ ry < qy ∧ sy < py ∧ sy < qy)) := by
  have hS := yGeoS px py qx qy rx ry sx sy
  have hX := yGeoX px py qx qy rx ry sx sy
  have hY := yGeoY px py qx qy rx ry sx sy
  generalize yCrs px py qx qy rx ry = A at *
  generalize yCrs px py qx qy sx sy = B at *
  generalize yCrs rx ry sx sy px py = C at *
  generalize yCrs rx ry sx sy qx qy = D at *
  unfold yOpp at h1 h2
  rcases h1 with c | c
  · exact ⟨yWgt hX hS (by omega) (by omega) (by omega) (by omega) (by omega), yWgt hY hS (by omega) (by omega) (by omega) (by omega) (by omega)⟩
  · have hX2 : (-A) * sx - (-B) * rx = (-D) * px - (-C) * qx := by
      have e1 : (-A) * sx - (-B) * rx = -(A * sx - B * rx) := by grind
      have e2 : (-D) * px - (-C) * qx = -(D * px - C * qx) := by grind
      rw [e1, e2, hX]
    have hY2 : (-A) * sy - (-B) * ry = (-D) * py - (-C) * qy := by
      have e1 : (-A) * sy - (-B) * ry = -(A * sy - B * ry) := by grind
      have e2 : (-D) * py - (-C) * qy = -(D * py - C * qy) := by grind
      rw [e1, e2, hY]
    exact ⟨yWgt hX2 (by omega) (by omega) (by omega) (by omega) (by omega) (by omega), yWgt hY2 (by omega) (by omega) (by omega) (by omega) (by omega) (by omega)⟩


theorem yCrs_rev (px py qx qy rx ry : Int) : yCrs qx qy px py rx ry = - yCrs px py qx qy rx ry := by unfold yCrs; grind

theorem yBtw_line {px py qx qy rx ry : Int} (hA : yCrs px py qx qy rx ry = 0) (hne : px ≠ qx) (hx : yBtw px qx rx) : yBtw py qy ry := by
  have key : ∀ px py qx qy rx ry : Int, yCrs px py qx qy rx ry = 0 → px < qx → px ≤ rx → rx ≤ qx → yBtw py qy ry := by
    intro px py qx qy rx ry hA hlt h1 h2
    unfold yCrs at hA
    have e1 : (qx-px)*(ry-py) = (rx-px)*(qy-py) := by omega
    have e2 : (qx-px)*(qy-ry) = (qx-rx)*(qy-py) := by
      have : (qx-px)*(qy-ry) = (qx-px)*(qy-py) - (qx-px)*(ry-py) := by grind
      rw [this, e1]; grind
    have pos : ∀ a b : Int, 0 < a → 0 ≤ a * b → 0 ≤ b := by
      intro a b ha hab
      apply Classical.byContradiction
      intro hb
      have : a * b < 0 := Int.mul_neg_of_pos_of_neg ha (by omega)
      omega
    have neg : ∀ a b : Int, 0 < a → a * b ≤ 0 → b ≤ 0 := by
      intro a b ha hab
      apply Classical.byContradiction
      intro hb
      have : 0 < a * b := Int.mul_pos ha (by omega)
      omega
    rcases Int.le_total py qy with c | c
    · left
      have a1 : 0 ≤ (rx-px)*(qy-py) := Int.mul_nonneg (by omega) (by omega)
      have a2 : 0 ≤ (qx-rx)*(qy-py) := Int.mul_nonneg (by omega) (by omega)
      have b1 := pos (qx-px) (ry-py) (by omega) (by omega)
      have b2 := pos (qx-px) (qy-ry) (by omega) (by omega)
      omega
    · right
      have a1 : (rx-px)*(qy-py) ≤ 0 := Int.mul_nonpos_of_nonneg_of_nonpos (by omega) (by omega)
      have a2 : (qx-rx)*(qy-py) ≤ 0 := Int.mul_nonpos_of_nonneg_of_nonpos (by omega) (by omega)
      have b1 := neg (qx-px) (ry-py) (by omega) (by omega)
      have b2 := neg (qx-px) (qy-ry) (by omega) (by omega)
      omega
  rcases Int.lt_or_gt_of_ne hne with c | c
  · have hx' : px ≤ rx ∧ rx ≤ qx := by unfold yBtw at hx; omega
    exact key px py qx qy rx ry hA c hx'.1 hx'.2
  · have hx' : qx ≤ rx ∧ rx ≤ px := by unfold yBtw at hx; omega
    have := key qx qy px py rx ry (by rw [yCrs_rev, hA]; rfl) c hx'.1 hx'.2
    unfold yBtw at this ⊢
    omega

def yBox (p q r s : Int) : Prop := ¬ (p < r ∧ p < s ∧ q < r ∧ q < s) ∧ ¬ (r < p ∧ r < q ∧ s < p ∧ s < q)

theorem yGeo4 {px py qx qy rx ry sx sy : Int} (hA : yCrs px py qx qy rx ry = 0) (hB : yCrs px py qx qy sx sy = 0) (hC : yCrs rx ry sx sy px py = 0) (hox : yBox px qx rx sx) (hoy : yBox py qy ry sy) :
    (yBtw px qx rx ∧ yBtw py qy ry) ∨ (yBtw px qx sx ∧ yBtw py qy sy) ∨ (yBtw rx sx px ∧ yBtw ry sy py) := by
  by_cases h1 : px = qx
  · by_cases h2 : rx = sx
    · have hx : px = rx := by unfold yBox at hox; omega
      unfold yBox at hoy
      unfold yBtw
      omega
    · have hx : yBtw rx sx px := by unfold yBox at hox; unfold yBtw; omega
      exact Or.inr (Or.inr ⟨hx, yBtw_line hC h2 hx⟩)
  · by_cases h2 : yBtw px qx rx
    · exact Or.inl ⟨h2, yBtw_line hA h1 h2⟩
    · by_cases h3 : yBtw px qx sx
      · exact Or.inr (Or.inl ⟨h3, yBtw_line hB h1 h3⟩)
      · have hx : yBtw rx sx px := by unfold yBox at hox; unfold yBtw at *; omega
        have hne : rx ≠ sx := by unfold yBox at hox; unfold yBtw at *; omega
        exact Or.inr (Or.inr ⟨hx, yBtw_line hC hne hx⟩)

-- both ways to ask whether two lines have a point in common
theorem yGeo (px py qx qy rx ry sx sy : Int) :
    (yBox px qx rx sx ∧ yBox py qy ry sy ∧ ¬ yOne (yCrs px py qx qy rx ry) (yCrs px py qx qy sx sy) ∧ ¬ yOne (yCrs rx ry sx sy px py) (yCrs rx ry sx sy qx qy)) ↔
    ((yCrs px py qx qy rx ry = 0 ∧ yBtw px qx rx ∧ yBtw py qy ry) ∨ (yCrs px py qx qy sx sy = 0 ∧ yBtw px qx sx ∧ yBtw py qy sy) ∨ (yCrs rx ry sx sy px py = 0 ∧ yBtw rx sx px ∧ yBtw ry sy py) ∨ (yCrs rx ry sx sy qx qy = 0 ∧ yBtw rx sx qx ∧ yBtw ry sy qy) ∨
      (yOpp (yCrs px py qx qy rx ry) (yCrs px py qx qy sx sy) ∧ yOpp (yCrs rx ry sx sy px py) (yCrs rx ry sx sy qx qy))) := by
  have oneg : ∀ a b : Int, yOne (-a) (-b) ↔ yOne a b := by intro a b; unfold yOne; omega
  constructor
  · rintro ⟨h1, h2, h3, h4⟩
    have hS := yGeoS px py qx qy rx ry sx sy
    by_cases a : yCrs px py qx qy rx ry = 0
    · by_cases b : yCrs px py qx qy sx sy = 0
      · have hCD : yCrs rx ry sx sy px py = 0 := by
          unfold yOne at h4; omega
        rcases yGeo4 a b hCD h1 h2 with g | g | g
        · exact Or.inl ⟨a, g⟩
        · exact Or.inr (Or.inl ⟨b, g⟩)
        · exact Or.inr (Or.inr (Or.inl ⟨hCD, g⟩))
      · exact Or.inl ⟨a, yGeo2 a b h4⟩
    · by_cases b : yCrs px py qx qy sx sy = 0
      · refine Or.inr (Or.inl ⟨b, yGeo2 b a ?_⟩)
        rw [yCrs_rev, yCrs_rev rx ry sx sy, oneg]; exact h4
      · by_cases c : yCrs rx ry sx sy px py = 0
        · by_cases d : yCrs rx ry sx sy qx qy = 0
          · exfalso; unfold yOne at h3; omega
          · exact Or.inr (Or.inr (Or.inl ⟨c, yGeo2 c d h3⟩))
        · by_cases d : yCrs rx ry sx sy qx qy = 0
          · refine Or.inr (Or.inr (Or.inr (Or.inl ⟨d, yGeo2 d c ?_⟩)))
            rw [yCrs_rev, yCrs_rev px py qx qy, oneg]; exact h3
          · refine Or.inr (Or.inr (Or.inr (Or.inr ⟨?_, ?_⟩)))
            · unfold yOne at h3; unfold yOpp; omega
            · unfold yOne at h4; unfold yOpp; omega
  · rintro (⟨a, g1, g2⟩ | ⟨a, g1, g2⟩ | ⟨a, g1, g2⟩ | ⟨a, g1, g2⟩ | ⟨g1, g2⟩)
    · refine ⟨by unfold yBtw at g1; unfold yBox; omega, by unfold yBtw at g2; unfold yBox; omega, by unfold yOne; omega, yGeo1 a g1 g2⟩
    · refine ⟨by unfold yBtw at g1; unfold yBox; omega, by unfold yBtw at g2; unfold yBox; omega, by unfold yOne; omega, ?_⟩
      have := yGeo1 (sx := rx) (sy := ry) a g1 g2
      rw [yCrs_rev, yCrs_rev rx ry sx sy, oneg] at this; exact this
    · refine ⟨by unfold yBtw at g1; unfold yBox; omega, by unfold yBtw at g2; unfold yBox; omega, yGeo1 a g1 g2, by unfold yOne; omega⟩
    · refine ⟨by unfold yBtw at g1; unfold yBox; omega, by unfold yBtw at g2; unfold yBox; omega, ?_, by unfold yOne; omega⟩
      have := yGeo1 (sx := px) (sy := py) a g1 g2
      rw [yCrs_rev, yCrs_rev px py qx qy, oneg] at this; exact this
    · obtain ⟨k1, k2⟩ := yGeo3 g1 g2
      exact ⟨k1, k2, by unfold yOpp at g1; unfold yOne; omega, by unfold yOpp at g2; unfold yOne; omega⟩


def rf_sg (z : Int) : Int32 := if z < 0 then -1 else if 0 < z then 1 else 0
theorem rf_sg_c {a b : Int} (h1 : a < 0 ↔ b < 0) (h2 : 0 < a ↔ 0 < b) : rf_sg a = rf_sg b := by
  unfold rf_sg
  simp only [h1, h2]
theorem rf_sg_i {a b : Int} (h : rf_sg a = rf_sg b) : (a < 0 ↔ b < 0) ∧ (0 < a ↔ 0 < b) := by
  unfold rf_sg at h
  by_cases c1 : a < 0
  · by_cases c2 : b < 0
    · omega
    · rw [if_pos c1, if_neg c2] at h
      by_cases c3 : 0 < b
      · rw [if_pos c3] at h
        exact absurd h (by decide)
      · rw [if_neg c3] at h
        exact absurd h (by decide)
  · rw [if_neg c1] at h
    by_cases c2 : b < 0
    · rw [if_pos c2] at h
      by_cases c3 : 0 < a
      · rw [if_pos c3] at h
        exact absurd h (by decide)
      · rw [if_neg c3] at h
        exact absurd h (by decide)
    · rw [if_neg c2] at h
      by_cases c3 : 0 < a
      · by_cases c4 : 0 < b
        · omega
        · rw [if_pos c3, if_neg c4] at h
          exact absurd h (by decide)
      · by_cases c4 : 0 < b
        · rw [if_neg c3, if_pos c4] at h
          exact absurd h (by decide)
        · omega
theorem rf_sg_n {a b : Int} (h : rf_sg a = rf_sg b) : rf_sg (-a) = rf_sg (-b) := by
  have := rf_sg_i h
  exact rf_sg_c (by omega) (by omega)
theorem rf_sg_m {c z : Int} (hc : 0 < c) : rf_sg (c * z) = rf_sg z := by
  have h1 : z < 0 → c * z < 0 := fun h => Int.mul_neg_of_pos_of_neg hc h
  have h2 : 0 < z → 0 < c * z := fun h => Int.mul_pos hc h
  have h3 : z = 0 → c * z = 0 := fun h => by rw [h, Int.mul_zero]
  exact rf_sg_c (by omega) (by omega)
def rf_wb (N d : Int) : Int := if N / d * d = N then N / d else N / d + 1 - N / d % 2
theorem rf_wb_b (N d : Int) : N / d ≤ rf_wb N d ∧ rf_wb N d ≤ N / d + 1 := by
  unfold rf_wb
  split
  · omega
  · omega
theorem rf_st {N d : Int} (hd : 0 < d) (h : Int) : rf_sg (rf_wb N d - 2 * h) = rf_sg (N - 2 * h * d) := by
  have e1 := Int.ediv_mul_add_emod N d
  have e2 := Int.emod_nonneg N (b := d) (by omega)
  have e3 := Int.emod_lt_of_pos N hd
  have f1 : 2 * h ≤ N / d → 2 * h * d ≤ N / d * d := fun z => Int.mul_le_mul_of_nonneg_right z (by omega)
  have f4 : N / d ≤ 2 * h → N / d * d ≤ 2 * h * d := fun z => Int.mul_le_mul_of_nonneg_right z (by omega)
  have f2 : N / d + 1 ≤ 2 * h → N / d * d + d ≤ 2 * h * d := fun z => by
    have := Int.mul_le_mul_of_nonneg_right z (c := d) (by omega)
    rw [Int.add_mul, Int.one_mul] at this
    exact this
  have f3 : 2 * h + 1 ≤ N / d → 2 * h * d + d ≤ N / d * d := fun z => by
    have := Int.mul_le_mul_of_nonneg_right z (c := d) (by omega)
    rw [Int.add_mul, Int.one_mul] at this
    exact this
  unfold rf_wb
  generalize N / d = k at *
  generalize k * d = A at *
  generalize 2 * h * d = H at *
  generalize N % d = r at *
  by_cases c : A = N
  · rw [if_pos c]
    exact rf_sg_c (by omega) (by omega)
  · rw [if_neg c]
    exact rf_sg_c (by omega) (by omega)
def rf_ag (top low : Int64) (sq : Int32) (x : Int64) : Int32 :=
  if sq = 0 then (if 2 * top < x * low then -1 else if x * low < 2 * top then 1 else 0)
  else if x < 0 then 1 else if 1073741824 < x then -1 else if x * x < 4 * top then 1 else if 4 * top < x * x then -1 else 0
theorem rf_2 : (2 : Int64) = rf_l 2 := by decide
theorem rf_4 : (4 : Int64) = rf_l 4 := by decide
theorem rf_ag0 {a b h : Int} (h1 : rf_B (2 * a)) (h2 : rf_B (h * b)) : rf_ag (rf_l a) (rf_l b) 0 (rf_l h) = rf_sg (2 * a - h * b) := by
  unfold rf_ag rf_sg
  rw [if_pos rfl, rf_2, rf_mul, rf_mul]
  simp only [rf_lt h1 h2, rf_lt h2 h1]
  generalize h * b = c
  by_cases c1 : 2 * a < c
  · rw [if_pos c1, if_pos (by omega)]
  · by_cases c2 : c < 2 * a
    · rw [if_neg c1, if_pos c2, if_neg (by omega), if_pos (by omega)]
    · rw [if_neg c1, if_neg c2, if_neg (by omega), if_neg (by omega)]
theorem rf_ag1 {a h : Int} {low : Int64} (ha : 0 ≤ a) (ha2 : a < 288230376151711744) (hB : rf_B h) :
    rf_ag (rf_l a) low 1 (rf_l h) = if h < 0 then 1 else if 1073741824 < h then -1 else rf_sg (4 * a - h * h) := by
  unfold rf_ag
  have b0 : rf_B 0 := by unfold rf_B; omega
  have b3 : rf_B 1073741824 := by unfold rf_B; omega
  have b4 : rf_B (4 * a) := by unfold rf_B; omega
  have e3 : (1073741824 : Int64) = rf_l 1073741824 := by decide
  rw [if_neg rf_ne01, e3, rf_0, rf_4, rf_mul, rf_mul]
  simp only [rf_lt hB b0, rf_lt b3 hB]
  by_cases c1 : h < 0
  · rw [if_pos c1, if_pos c1]
  · rw [if_neg c1, if_neg c1]
    by_cases c2 : 1073741824 < h
    · rw [if_pos c2, if_pos c2]
    · rw [if_neg c2, if_neg c2]
      have m1 := Int.mul_le_mul (a := h) (b := h) (c := 1073741824) (d := 1073741824) (by omega) (by omega) (by omega) (by omega)
      have m2 := Int.mul_nonneg (a := h) (b := h) (by omega) (by omega)
      have b5 : rf_B (h * h) := by unfold rf_B; omega
      simp only [rf_lt b5 b4, rf_lt b4 b5]
      unfold rf_sg
      generalize h * h = c
      by_cases c3 : c < 4 * a
      · rw [if_pos c3, if_neg (by omega), if_pos (by omega)]
      · by_cases c4 : 4 * a < c
        · rw [if_neg c3, if_pos c4, if_pos (by omega)]
        · rw [if_neg c3, if_neg c4, if_neg (by omega), if_neg (by omega)]
def rf_Ag (q : Int) (top low : Int64) (sq : Int32) : Prop := ∀ h : Int, -34359738368 ≤ h → h ≤ 34359738368 → rf_ag top low sq (rf_l h) = rf_sg (q - 2 * h)
def rf_Ag2 (q : Int) (top low : Int64) (sq : Int32) : Prop := ∀ x : Int, -17179869184 ≤ x → x ≤ 17179869184 → rf_ag top low sq (rf_l (2 * x)) = rf_sg (q - 4 * x)
theorem rf_Ag_2 {q : Int} {top low : Int64} {sq : Int32} (h : rf_Ag q top low sq) : rf_Ag2 q top low sq := by
  intro x h1 h2
  rw [h (2 * x) (by omega) (by omega)]
  congr 1
  omega
theorem rf_mb {a b : Int} {A B : Nat} (ha : a.natAbs ≤ A) (hb : b.natAbs ≤ B) : (a * b).natAbs ≤ A * B := by
  rw [Int.natAbs_mul]
  exact Nat.mul_le_mul ha hb
theorem rf_Ag_s {z : Int} (h1 : -1099511627776 ≤ z) (h2 : z ≤ 1099511627776) : rf_Ag (4 * z) (rf_l z) (rf_l 1) 0 := by
  intro h a b
  rw [rf_ag0 (by unfold rf_B; omega) (by unfold rf_B; omega)]
  exact rf_sg_c (by omega) (by omega)
theorem rf_Ag_n {x : Int} (h1 : -1099511627776 ≤ x) (h2 : x ≤ 1099511627776) : rf_Ag2 (4 * x + 1) (rf_l (2 * x + 1)) (rf_l 2) 0 ∧ rf_Ag2 (4 * x - 1) (rf_l (2 * x - 1)) (rf_l 2) 0 := by
  constructor
  · intro h a b
    rw [rf_ag0 (by unfold rf_B; omega) (by unfold rf_B; omega)]
    exact rf_sg_c (by omega) (by omega)
  · intro h a b
    rw [rf_ag0 (by unfold rf_B; omega) (by unfold rf_B; omega)]
    exact rf_sg_c (by omega) (by omega)
theorem rf_Ag_f {q N d top low c1 c2 : Int} (hq : ∀ h, rf_sg (q - 2 * h) = rf_sg (N - 2 * h * d)) (hc1 : 0 < c1) (hc2 : 0 < c2) (e1 : c1 * (2 * top) = c2 * N) (e2 : c1 * low = c2 * (2 * d))
    (bt : top.natAbs ≤ 2305843009213693952) (bl : low.natAbs ≤ 67108864) : rf_Ag q (rf_l top) (rf_l low) 0 := by
  intro h a b
  have m := rf_mb (a := h) (b := low) (A := 34359738368) (B := 67108864) (by omega) bl
  rw [rf_ag0 (by unfold rf_B; omega) (by unfold rf_B; omega), hq h, ← rf_sg_m hc1, ← rf_sg_m (z := N - 2 * h * d) hc2]
  congr 1
  have e3 : c1 * (h * low) = h * (c1 * low) := Int.mul_left_comm _ _ _
  have e4 : c2 * (2 * h * d) = h * (c2 * (2 * d)) := by
    rw [Int.mul_left_comm h c2, Int.mul_assoc 2 h d, Int.mul_left_comm 2 h d]
  rw [Int.mul_sub, Int.mul_sub, e1, e3, e2, e4]

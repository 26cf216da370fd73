theorem rf_nI {y : Int32} {k : Nat} (h : y = nI k) : y = nI k := h
theorem rf_shlc (a : Int) (y : Int32) (k : Nat) (hk : k < 64) (hy : y = nI k) : rf_l a <<< (y.toInt64 &&& 63) = rf_l (a * ((2 ^ k : Nat) : Int)) := by
  rw [hy]
  exact rf_shl a hk
theorem rf_shrc {a : Int} (ha : rf_B a) (y : Int32) (k : Nat) (hk : k < 64) (hy : y = nI k) : rf_l a >>> (y.toInt64 &&& 63) = rf_l (a / ((2 ^ k : Nat) : Int)) := by
  rw [hy]
  exact rf_shr ha hk
theorem rf_shlN (n : Nat) (y : Int32) (k : Nat) (hk : k < 64) (hy : y = nI k) : rf_l (n : Int) <<< (y.toInt64 &&& 63) = rf_l ((n * 2 ^ k : Nat) : Int) := by
  rw [rf_shlc _ y k hk hy, Int.natCast_mul]
theorem rf_BN {n : Nat} (h : n < 9223372036854775808) : rf_B (n : Int) := by
  unfold rf_B
  omega
theorem rf_shrN {n : Nat} (h : n < 9223372036854775808) (y : Int32) (k : Nat) (hk : k < 64) (hy : y = nI k) : rf_l (n : Int) >>> (y.toInt64 &&& 63) = rf_l ((n / 2 ^ k : Nat) : Int) := by
  rw [rf_shrc (rf_BN h) y k hk hy, Int.natCast_ediv]
theorem rf_gq (s p t : Nat) : s / 2 ^ (t + 2) / 2 ^ p = 0 ↔ s < 2 ^ (p + t + 2) := by
  rw [Nat.div_div_eq_div_mul, ← Nat.pow_add, Nat.div_eq_zero_iff_lt (Nat.two_pow_pos _), show t + 2 + p = p + t + 2 by omega]
theorem rf_gN {n : Nat} {k : Nat} (hn : n < 1024) (hk : k ≤ 25) : n * 2 ^ k < 34359738368 := by
  have h : n * 2 ^ k ≤ 1023 * 2 ^ 25 := Nat.mul_le_mul (by omega) (Nat.pow_le_pow_right (by decide) hk)
  omega
theorem rf_q4 (n t : Nat) : n * 2 ^ (t + 2) / 2 ^ 2 = n * 2 ^ t := by
  rw [rf_t4, Nat.mul_left_comm]
  omega
theorem rf_sat1 {m : Int} {k : Nat} (hm : m ≠ 0) (h : 55 ≤ k) : 36028797018963968 ≤ (m * ((2 ^ k : Nat) : Int)).natAbs := by
  have h1 : 2 ^ 55 ≤ 2 ^ k := Nat.pow_le_pow_right (by decide) h
  have h2 : 1 * 2 ^ k ≤ m.natAbs * 2 ^ k := Nat.mul_le_mul_right _ (by omega)
  have h3 : (m * ((2 ^ k : Nat) : Int)).natAbs = m.natAbs * 2 ^ k := by
    rw [Int.natAbs_mul]
    rfl
  omega
theorem rf_sat2 {m : Int} {k : Nat} (h : k ≤ 55) : 2 ^ (55 - k) ≤ m.natAbs ↔ 36028797018963968 ≤ (m * ((2 ^ k : Nat) : Int)).natAbs := by
  have h3 : (m * ((2 ^ k : Nat) : Int)).natAbs = m.natAbs * 2 ^ k := by
    rw [Int.natAbs_mul]
    rfl
  have h4 : 2 ^ (55 - k) * 2 ^ k = 36028797018963968 := by
    rw [← Nat.pow_add, show 55 - k + k = 55 by omega]
  rw [h3, ← h4]
  exact (Nat.mul_le_mul_right_iff (Nat.two_pow_pos k)).symm
theorem rf_sat3 {m : Int} {k : Nat} (hm : m.natAbs ≤ 1048576) (h : k ≤ 24) : (m * ((2 ^ k : Nat) : Int)).natAbs < 36028797018963968 := by
  have := rf_pb hm h
  omega
theorem rf_sgn {m : Int} (k : Nat) : (m * ((2 ^ k : Nat) : Int) < 0 ↔ m < 0) ∧ (0 < m * ((2 ^ k : Nat) : Int) ↔ 0 < m) := by
  have hk := Nat.two_pow_pos k
  have hc : (0 : Int) < ((2 ^ k : Nat) : Int) := by omega
  have := rf_sg_i (rf_sg_m (c := ((2 ^ k : Nat) : Int)) (z := m) hc)
  rw [Int.mul_comm m]
  exact this
theorem rf_ed {m : Int} {k j : Nat} (h : j ≤ k) : m * ((2 ^ k : Nat) : Int) / ((2 ^ j : Nat) : Int) = m * ((2 ^ (k - j) : Nat) : Int) := by
  have hj := Nat.two_pow_pos j
  have e : ((2 ^ k : Nat) : Int) = ((2 ^ (k - j) : Nat) : Int) * ((2 ^ j : Nat) : Int) := by
    rw [← rf_p2, show k - j + j = k by omega]
  rw [e, ← Int.mul_assoc]
  exact Int.mul_ediv_cancel _ (by omega)
theorem rf_ev (m : Int) (i : Nat) : m * ((2 ^ (i + 1) : Nat) : Int) = m * ((2 ^ i : Nat) : Int) * 2 := by
  rw [rf_p2, ← Int.mul_assoc]
  rfl
def rf_RI (s j f : Nat) : Prop := (∃ c, f = c * 2 ^ j) ∧ f * f ≤ s ∧ s < (f + 2 ^ j) * (f + 2 ^ j)
theorem rf_RI_t {s j f : Nat} (h : rf_RI s (j + 1) f) (h2 : (f + 2 ^ j) * (f + 2 ^ j) ≤ s) : rf_RI s j (f + 2 ^ j) := by
  obtain ⟨⟨c, e⟩, h3, h4⟩ := h
  have e2 : f + 2 ^ (j + 1) = f + 2 ^ j + 2 ^ j := by
    rw [Nat.pow_succ]
    omega
  rw [e2] at h4
  refine ⟨⟨2 * c + 1, ?_⟩, h2, h4⟩
  rw [e, Nat.pow_succ, Nat.add_mul, Nat.one_mul, Nat.mul_comm 2 c, Nat.mul_assoc, Nat.mul_comm (2 ^ j) 2]
theorem rf_RI_f {s j f : Nat} (h : rf_RI s (j + 1) f) (h2 : s < (f + 2 ^ j) * (f + 2 ^ j)) : rf_RI s j f := by
  obtain ⟨⟨c, e⟩, h3, h4⟩ := h
  refine ⟨⟨2 * c, ?_⟩, h3, h2⟩
  rw [e, Nat.pow_succ, Nat.mul_comm 2 c, Nat.mul_assoc, Nat.mul_comm (2 ^ j) 2]
theorem rf_RI_b {s j f : Nat} (h : rf_RI s j f) (hs : s < 1125899906842624) : f < 33554432 := by
  by_cases c : f < 33554432
  · exact c
  · have := Nat.mul_le_mul (show 33554432 ≤ f by omega) (show 33554432 ≤ f by omega)
    have := h.2.1
    omega
theorem rf_or_f {j f : Nat} (h : ∃ c, f = c * 2 ^ (j + 1)) (hf : f < 33554432) (hj : j ≤ 24) : rf_l (f : Int) ||| rf_l ((2 ^ j : Nat) : Int) = rf_l ((f + 2 ^ j : Nat) : Int) := by
  obtain ⟨c, rfl⟩ := h
  have b : 2 ^ j ≤ 2 ^ 24 := Nat.pow_le_pow_right (by decide) hj
  have l : 2 ^ j < 2 ^ (j + 1) := Nat.pow_lt_pow_right (by decide) (by omega)
  rw [← rf_lN, ← rf_lN, ← rf_lN]
  exact g_or rfl l (by omega)

theorem wb_tb (n : Nat) : (lN n).toBitVec = BitVec.ofNat 64 n := rfl
theorem wb_inj {a b : Int64} (h : a.toBitVec = b.toBitVec) : a = b := Int64.toBitVec_inj.mp h
theorem wb_tn {n : Nat} (h : n < 2 ^ 64) : (lN n).toBitVec.toNat = n := by rw [wb_tb, BitVec.toNat_ofNat, Nat.mod_eq_of_lt h]
theorem wb_of (x : Int64) : ∃ n, n < 2 ^ 64 ∧ x = lN n := ⟨x.toBitVec.toNat, x.toBitVec.isLt, wb_inj (by rw [wb_tb]; simp)⟩
theorem wb_c : ∀ k, k < 64 → ((nI k).toInt64 &&& 63) = lN k := by decide +kernel
theorem wb_sm : ∀ k, k < 64 → (BitVec.ofNat 64 k).smod 64 = BitVec.ofNat 64 k := by decide +kernel
theorem wb_lt2 {a b : Nat} (h : a < b) : 2 ^ a < 2 ^ b := Nat.pow_lt_pow_right (by decide) h
theorem wb_shl (n : Nat) {k : Nat} (hk : k < 64) : lN n <<< ((nI k).toInt64 &&& 63) = lN (n * 2 ^ k) := by
  rw [wb_c k hk]
  apply wb_inj
  rw [Int64.toBitVec_shiftLeft, wb_tb, wb_tb, wb_tb, wb_sm k hk]
  apply BitVec.eq_of_toNat_eq
  rw [BitVec.shiftLeft_eq', BitVec.toNat_shiftLeft, BitVec.toNat_ofNat, BitVec.toNat_ofNat, BitVec.toNat_ofNat, Nat.mod_eq_of_lt (show k < 2 ^ 64 by omega), Nat.shiftLeft_eq, Nat.mul_mod, Nat.mod_mod, ← Nat.mul_mod]
theorem wb_and {a b : Nat} (ha : a < 2 ^ 64) (hb : b < 2 ^ 64) : lN a &&& lN b = lN (a &&& b) := by
  apply wb_inj
  rw [Int64.toBitVec_and, wb_tb, wb_tb, wb_tb]
  apply BitVec.eq_of_toNat_eq
  rw [BitVec.toNat_and, BitVec.toNat_ofNat, BitVec.toNat_ofNat, BitVec.toNat_ofNat, Nat.mod_eq_of_lt ha, Nat.mod_eq_of_lt hb, Nat.mod_eq_of_lt (Nat.and_lt_two_pow _ hb)]
theorem wb_mask {n k : Nat} (hn : n < 2 ^ 64) (hk : k < 64) : lN n &&& lN (2 ^ k - 1) = lN (n % 2 ^ k) := by
  rw [wb_and hn (by have := wb_lt2 hk; omega), Nat.and_two_pow_sub_one_eq_mod]
theorem wb_a1 {n : Nat} (hn : n < 2 ^ 64) : lN n &&& 1 = lN (n % 2) := wb_mask (k := 1) hn (by decide)
theorem u_tn {n : Nat} (h : n < 2 ^ 64) : (UInt64.ofNat n).toNat = n := Nat.mod_eq_of_lt h
theorem g_or {k p a b : Nat} (hp : 2 ^ k = p) (ha : a < p) (h : b * p + a < 2 ^ 64) : lN (b * p) ||| lN a = lN (b * p + a) := by
  subst hp
  have h1 : b * 2 ^ k ||| a = b * 2 ^ k + a := by rw [← Nat.shiftLeft_eq, Nat.shiftLeft_add_eq_or_of_lt ha]
  have h3 : UInt64.ofNat (b * 2 ^ k) ||| UInt64.ofNat a = UInt64.ofNat (b * 2 ^ k + a) := UInt64.toNat_inj.mp (by rw [UInt64.toNat_or, u_tn (by omega), u_tn (by omega), u_tn h, h1])
  have h2 := congrArg UInt64.toInt64 h3
  exact h2

def rf_l (z : Int) : Int64 := Int64.ofInt z
theorem rf_add (a b : Int) : rf_l a + rf_l b = rf_l (a + b) := (Int64.ofInt_add a b).symm
theorem rf_sub (a b : Int) : rf_l a - rf_l b = rf_l (a - b) := (Int64.ofInt_sub a b).symm
theorem rf_mul (a b : Int) : rf_l a * rf_l b = rf_l (a * b) := (Int64.ofInt_mul a b).symm
theorem rf_neg (a : Int) : -rf_l a = rf_l (-a) := (Int64.ofInt_neg a).symm
theorem rf_lN (n : Nat) : lN n = rf_l (n : Int) := (Int64.ofInt_eq_ofNat (n := n)).symm
def rf_B (a : Int) : Prop := -9223372036854775808 ≤ a ∧ a < 9223372036854775808
theorem rf_ti {a : Int} (h : rf_B a) : (rf_l a).toInt = a :=
  Int64.toInt_ofInt_of_le (by have := h.1; omega) (by have := h.2; omega)
theorem rf_lt {a b : Int} (ha : rf_B a) (hb : rf_B b) : rf_l a < rf_l b ↔ a < b := by
  rw [Int64.lt_iff_toInt_lt, rf_ti ha, rf_ti hb]
theorem rf_le {a b : Int} (ha : rf_B a) (hb : rf_B b) : rf_l a ≤ rf_l b ↔ a ≤ b := by
  rw [Int64.le_iff_toInt_le, rf_ti ha, rf_ti hb]
theorem rf_eq {a b : Int} (ha : rf_B a) (hb : rf_B b) : rf_l a = rf_l b ↔ a = b := by
  rw [← Int64.toInt_inj, rf_ti ha, rf_ti hb]
theorem rf_0 : (0 : Int64) = rf_l 0 := by decide
theorem rf_1 : (1 : Int64) = rf_l 1 := by decide
theorem rf_Bd {a d : Int} (hd : 0 < d) (h : rf_B a) : rf_B (a / d) := by
  unfold rf_B at h ⊢
  by_cases c : 0 ≤ a
  · have h1 := Int.ediv_nonneg c (Int.le_of_lt hd)
    have h2 := Int.ediv_le_self d c
    omega
  · have h1 := Int.ediv_neg_of_neg_of_pos (a := a) (b := d) (by omega) hd
    have h2 : a ≤ a / d := by
      rw [Int.le_ediv_iff_mul_le hd]
      have h3 := Int.mul_le_mul_of_nonneg_left (a := 1) (b := d) (c := -a) (by omega) (by omega)
      rw [Int.neg_mul, Int.neg_mul] at h3
      omega
    omega
theorem rf_div {a b : Int} (ha : rf_B a) (hb : rf_B b) : rf_l a / rf_l b = rf_l (a.tdiv b) := by
  unfold rf_B at ha hb
  refine (Int64.ofInt_tdiv ?_ ?_ ?_ ?_).symm
  · rw [Int64.toInt_minValue]; omega
  · rw [Int64.toInt_maxValue]; omega
  · rw [Int64.toInt_minValue]; omega
  · rw [Int64.toInt_maxValue]; omega
theorem rf_per (a : Int) : rf_l (a % 18446744073709551616) = rf_l a := by
  have h := Int.emod_add_mul_ediv a 18446744073709551616
  have h2 : rf_l (a % 18446744073709551616 + 18446744073709551616 * (a / 18446744073709551616)) = rf_l (a % 18446744073709551616) := by
    rw [← rf_add, ← rf_mul, show rf_l 18446744073709551616 = 0 from by decide, Int64.zero_mul, Int64.add_zero]
  rw [h] at h2
  exact h2.symm
theorem rf_nat (a : Int) : ∃ n : Nat, n < 2 ^ 64 ∧ (n : Int) = a % 18446744073709551616 ∧ rf_l a = lN n := by
  have h0 := Int.emod_nonneg a (b := 18446744073709551616) (by decide)
  have h1 := Int.emod_lt_of_pos a (b := 18446744073709551616) (by decide)
  refine ⟨(a % 18446744073709551616).toNat, by omega, by omega, ?_⟩
  rw [rf_lN, ← rf_per a]
  congr 1
  omega
theorem rf_and1 (a : Int) : rf_l a &&& 1 = rf_l (a % 2) := by
  obtain ⟨n, hn, hm, e⟩ := rf_nat a
  rw [e, wb_a1 hn, rf_lN]
  congr 1
  omega
theorem rf_or1e (b : Int) : rf_l (2 * b) ||| 1 = rf_l (2 * b + 1) := by
  obtain ⟨n, hn, hm, e⟩ := rf_nat (2 * b)
  obtain ⟨k, rfl⟩ : ∃ k, n = k * 2 := ⟨n / 2, by omega⟩
  have h := g_or (k := 1) (p := 2) (a := 1) (b := k) rfl (by decide) (by omega)
  have h1 : (1 : Int64) = lN 1 := by decide
  rw [e, h1, h, ← lN_add, ← e, ← h1, rf_1, rf_add]
theorem rf_or1 (a : Int) : rf_l a ||| 1 = rf_l (a + 1 - a % 2) := by
  by_cases c : a % 2 = 0
  · obtain ⟨b, rfl⟩ : ∃ b, a = 2 * b := ⟨a / 2, by omega⟩
    rw [rf_or1e]
    congr 1
    omega
  · obtain ⟨b, rfl⟩ : ∃ b, a = 2 * b + 1 := ⟨a / 2, by omega⟩
    rw [← rf_or1e, Int64.or_assoc, Int64.or_self, rf_or1e]
    congr 1
    omega
theorem rf_shl (a : Int) {k : Nat} (hk : k < 64) : rf_l a <<< ((nI k).toInt64 &&& 63) = rf_l (a * ((2 ^ k : Nat) : Int)) := by
  obtain ⟨n, hn, e⟩ := wb_of (rf_l a)
  rw [e, wb_shl n hk, ← lN_mul, ← e, rf_lN, rf_mul]
theorem rf_shr {a : Int} (ha : rf_B a) {k : Nat} (hk : k < 64) : rf_l a >>> ((nI k).toInt64 &&& 63) = rf_l (a / ((2 ^ k : Nat) : Int)) := by
  apply Int64.toInt_inj.mp
  rw [wb_c k hk]
  have e : (rf_l a >>> lN k).toInt = (rf_l a).toInt >>> k := by
    show ((rf_l a).toBitVec.sshiftRight ((lN k).toBitVec.smod 64).toNat).toInt = _
    rw [wb_tb, wb_sm k hk, BitVec.toNat_ofNat, Nat.mod_eq_of_lt (by omega), BitVec.toInt_sshiftRight]
    rfl
  have hd : (0 : Int) < ((2 ^ k : Nat) : Int) := by
    have := Nat.two_pow_pos k
    omega
  rw [e, rf_ti ha, Int.shiftRight_eq_div_pow, rf_ti (rf_Bd hd ha)]

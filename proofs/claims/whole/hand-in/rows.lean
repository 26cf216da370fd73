section
theorem wb_tb (n : Nat) : (lN n).toBitVec = BitVec.ofNat 64 n := rfl
theorem wb_inj {a b : Int64} (h : a.toBitVec = b.toBitVec) : a = b := Int64.toBitVec_inj.mp h
theorem wb_tn {n : Nat} (h : n < 2 ^ 64) : (lN n).toBitVec.toNat = n := by rw [wb_tb, BitVec.toNat_ofNat, Nat.mod_eq_of_lt h]
theorem wb_of (x : Int64) : ∃ n, n < 2 ^ 64 ∧ x = lN n := ⟨x.toBitVec.toNat, x.toBitVec.isLt, wb_inj (by rw [wb_tb]; simp)⟩
theorem wb_c : ∀ k, k < 64 → ((nI k).toInt64 &&& 63) = lN k := by decide +kernel
theorem wb_sm : ∀ k, k < 64 → (BitVec.ofNat 64 k).smod 64 = BitVec.ofNat 64 k := by decide +kernel
theorem wb_lt2 {a b : Nat} (h : a < b) : 2 ^ a < 2 ^ b := Nat.pow_lt_pow_right (by decide) h
theorem wb_shl (n : Nat) {k : Nat} (hk : k < 64) : lN n <<< ((nI k).toInt64 &&& 63) = lN (n * 2 ^ k) := by
  rw [wb_c k hk]
  apply wb_inj
  rw [Int64.toBitVec_shiftLeft, wb_tb, wb_tb, wb_tb, wb_sm k hk]
  apply BitVec.eq_of_toNat_eq
  rw [BitVec.shiftLeft_eq', BitVec.toNat_shiftLeft, BitVec.toNat_ofNat, BitVec.toNat_ofNat, BitVec.toNat_ofNat, Nat.mod_eq_of_lt (show k < 2 ^ 64 by omega), Nat.shiftLeft_eq, Nat.mul_mod, Nat.mod_mod, ← Nat.mul_mod]
theorem wb_and {a b : Nat} (ha : a < 2 ^ 64) (hb : b < 2 ^ 64) : lN a &&& lN b = lN (a &&& b) := by
  apply wb_inj
  rw [Int64.toBitVec_and, wb_tb, wb_tb, wb_tb]
  apply BitVec.eq_of_toNat_eq
  rw [BitVec.toNat_and, BitVec.toNat_ofNat, BitVec.toNat_ofNat, BitVec.toNat_ofNat, Nat.mod_eq_of_lt ha, Nat.mod_eq_of_lt hb, Nat.mod_eq_of_lt (Nat.and_lt_two_pow _ hb)]
theorem wb_mask {n k : Nat} (hn : n < 2 ^ 64) (hk : k < 64) : lN n &&& lN (2 ^ k - 1) = lN (n % 2 ^ k) := by
  rw [wb_and hn (by have := wb_lt2 hk; omega), Nat.and_two_pow_sub_one_eq_mod]
theorem wb_a1 {n : Nat} (hn : n < 2 ^ 64) : lN n &&& 1 = lN (n % 2) := wb_mask (k := 1) hn (by decide)
theorem u_tn {n : Nat} (h : n < 2 ^ 64) : (UInt64.ofNat n).toNat = n := Nat.mod_eq_of_lt h
theorem g_or {k p a b : Nat} (hp : 2 ^ k = p) (ha : a < p) (h : b * p + a < 2 ^ 64) : lN (b * p) ||| lN a = lN (b * p + a) := by
  subst hp
  have h1 : b * 2 ^ k ||| a = b * 2 ^ k + a := by rw [← Nat.shiftLeft_eq, Nat.shiftLeft_add_eq_or_of_lt ha]
  have h3 : UInt64.ofNat (b * 2 ^ k) ||| UInt64.ofNat a = UInt64.ofNat (b * 2 ^ k + a) := UInt64.toNat_inj.mp (by rw [UInt64.toNat_or, u_tn (by omega), u_tn (by omega), u_tn h, h1])
  have h2 := congrArg UInt64.toInt64 h3
  exact h2

def rf_l (z : Int) : Int64 := Int64.ofInt z
theorem rf_add (a b : Int) : rf_l a + rf_l b = rf_l (a + b) := (Int64.ofInt_add a b).symm
theorem rf_sub (a b : Int) : rf_l a - rf_l b = rf_l (a - b) := (Int64.ofInt_sub a b).symm
theorem rf_mul (a b : Int) : rf_l a * rf_l b = rf_l (a * b) := (Int64.ofInt_mul a b).symm
theorem rf_neg (a : Int) : -rf_l a = rf_l (-a) := (Int64.ofInt_neg a).symm
theorem rf_lN (n : Nat) : lN n = rf_l (n : Int) := (Int64.ofInt_eq_ofNat (n := n)).symm
def rf_B (a : Int) : Prop := -9223372036854775808 ≤ a ∧ a < 9223372036854775808
theorem rf_ti {a : Int} (h : rf_B a) : (rf_l a).toInt = a :=
  Int64.toInt_ofInt_of_le (by have := h.1; omega) (by have := h.2; omega)
theorem rf_lt {a b : Int} (ha : rf_B a) (hb : rf_B b) : rf_l a < rf_l b ↔ a < b := by
  rw [Int64.lt_iff_toInt_lt, rf_ti ha, rf_ti hb]
theorem rf_le {a b : Int} (ha : rf_B a) (hb : rf_B b) : rf_l a ≤ rf_l b ↔ a ≤ b := by
  rw [Int64.le_iff_toInt_le, rf_ti ha, rf_ti hb]
theorem rf_eq {a b : Int} (ha : rf_B a) (hb : rf_B b) : rf_l a = rf_l b ↔ a = b := by
  rw [← Int64.toInt_inj, rf_ti ha, rf_ti hb]
theorem rf_0 : (0 : Int64) = rf_l 0 := by decide
theorem rf_1 : (1 : Int64) = rf_l 1 := by decide
theorem rf_Bd {a d : Int} (hd : 0 < d) (h : rf_B a) : rf_B (a / d) := by
  unfold rf_B at h ⊢
  by_cases c : 0 ≤ a
  · have h1 := Int.ediv_nonneg c (Int.le_of_lt hd)
    have h2 := Int.ediv_le_self d c
    omega
  · have h1 := Int.ediv_neg_of_neg_of_pos (a := a) (b := d) (by omega) hd
    have h2 : a ≤ a / d := by
      rw [Int.le_ediv_iff_mul_le hd]
      have h3 := Int.mul_le_mul_of_nonneg_left (a := 1) (b := d) (c := -a) (by omega) (by omega)
      rw [Int.neg_mul, Int.neg_mul] at h3
      omega
    omega
theorem rf_div {a b : Int} (ha : rf_B a) (hb : rf_B b) : rf_l a / rf_l b = rf_l (a.tdiv b) := by
  unfold rf_B at ha hb
  refine (Int64.ofInt_tdiv ?_ ?_ ?_ ?_).symm
  · rw [Int64.toInt_minValue]; omega
  · rw [Int64.toInt_maxValue]; omega
  · rw [Int64.toInt_minValue]; omega
  · rw [Int64.toInt_maxValue]; omega
theorem rf_per (a : Int) : rf_l (a % 18446744073709551616) = rf_l a := by
  have h := Int.emod_add_mul_ediv a 18446744073709551616
  have h2 : rf_l (a % 18446744073709551616 + 18446744073709551616 * (a / 18446744073709551616)) = rf_l (a % 18446744073709551616) := by
    rw [← rf_add, ← rf_mul, show rf_l 18446744073709551616 = 0 from by decide, Int64.zero_mul, Int64.add_zero]
  rw [h] at h2
  exact h2.symm
theorem rf_nat (a : Int) : ∃ n : Nat, n < 2 ^ 64 ∧ (n : Int) = a % 18446744073709551616 ∧ rf_l a = lN n := by
  have h0 := Int.emod_nonneg a (b := 18446744073709551616) (by decide)
  have h1 := Int.emod_lt_of_pos a (b := 18446744073709551616) (by decide)
  refine ⟨(a % 18446744073709551616).toNat, by omega, by omega, ?_⟩
  rw [rf_lN, ← rf_per a]
  congr 1
  omega
theorem rf_and1 (a : Int) : rf_l a &&& 1 = rf_l (a % 2) := by
  obtain ⟨n, hn, hm, e⟩ := rf_nat a
  rw [e, wb_a1 hn, rf_lN]
  congr 1
  omega
theorem rf_or1e (b : Int) : rf_l (2 * b) ||| 1 = rf_l (2 * b + 1) := by
  obtain ⟨n, hn, hm, e⟩ := rf_nat (2 * b)
  obtain ⟨k, rfl⟩ : ∃ k, n = k * 2 := ⟨n / 2, by omega⟩
  have h := g_or (k := 1) (p := 2) (a := 1) (b := k) rfl (by decide) (by omega)
  have h1 : (1 : Int64) = lN 1 := by decide
  rw [e, h1, h, ← lN_add, ← e, ← h1, rf_1, rf_add]
theorem rf_or1 (a : Int) : rf_l a ||| 1 = rf_l (a + 1 - a % 2) := by
  by_cases c : a % 2 = 0
  · obtain ⟨b, rfl⟩ : ∃ b, a = 2 * b := ⟨a / 2, by omega⟩
    rw [rf_or1e]
    congr 1
    omega
  · obtain ⟨b, rfl⟩ : ∃ b, a = 2 * b + 1 := ⟨a / 2, by omega⟩
    rw [← rf_or1e, Int64.or_assoc, Int64.or_self, rf_or1e]
    congr 1
    omega
theorem rf_shl (a : Int) {k : Nat} (hk : k < 64) : rf_l a <<< ((nI k).toInt64 &&& 63) = rf_l (a * ((2 ^ k : Nat) : Int)) := by
  obtain ⟨n, hn, e⟩ := wb_of (rf_l a)
  rw [e, wb_shl n hk, ← lN_mul, ← e, rf_lN, rf_mul]
theorem rf_shr {a : Int} (ha : rf_B a) {k : Nat} (hk : k < 64) : rf_l a >>> ((nI k).toInt64 &&& 63) = rf_l (a / ((2 ^ k : Nat) : Int)) := by
  apply Int64.toInt_inj.mp
  rw [wb_c k hk]
  have e : (rf_l a >>> lN k).toInt = (rf_l a).toInt >>> k := by
    show ((rf_l a).toBitVec.sshiftRight ((lN k).toBitVec.smod 64).toNat).toInt = _
    rw [wb_tb, wb_sm k hk, BitVec.toNat_ofNat, Nat.mod_eq_of_lt (by omega), BitVec.toInt_sshiftRight]
    rfl
  have hd : (0 : Int) < ((2 ^ k : Nat) : Int) := by
    have := Nat.two_pow_pos k
    omega
  rw [e, rf_ti ha, Int.shiftRight_eq_div_pow, rf_ti (rf_Bd hd ha)]
end
section
def rf_FN (p n : Nat) : Prop := ∃ m e : Nat, m < 2 ^ p ∧ e ≤ 23 ∧ (e = 0 ∨ 2 ^ (p - 1) ≤ m) ∧ n = m * 2 ^ e
def rf_F (p : Nat) (x : Int) : Prop := rf_FN p x.natAbs
theorem rf_F_neg {p : Nat} {x : Int} (h : rf_F p x) : rf_F p (-x) := by
  unfold rf_F
  rw [Int.natAbs_neg]
  exact h
theorem rf_F_nat {p n : Nat} (h : rf_FN p n) : rf_F p (n : Int) := h
theorem rf_t4 (t : Nat) : 2 ^ (t + 2) = 4 * 2 ^ t := by
  rw [Nat.pow_add]
  omega
theorem rf_pd {p : Nat} (hp : 1 ≤ p) : 2 ^ p = 2 * 2 ^ (p - 1) := by
  obtain ⟨k, rfl⟩ : ∃ k, p = k + 1 := ⟨p - 1, by omega⟩
  rw [Nat.pow_succ, Nat.add_sub_cancel]
  omega
theorem rf_A1 {p t s n : Nat} (hp : 1 ≤ p) (hlo : 0 < t → 2 ^ (p + t + 1) ≤ s) (hn : rf_FN p n) (h : 4 * n ≤ s) : n ≤ s / 2 ^ (t + 2) * 2 ^ t := by
  obtain ⟨m, e, hm, he, hme, rfl⟩ := hn
  by_cases c : t ≤ e
  · obtain ⟨d, rfl⟩ : ∃ d, e = t + d := ⟨e - t, by omega⟩
    have e1 : m * 2 ^ (t + d) = m * 2 ^ d * 2 ^ t := by
      rw [Nat.pow_add, Nat.mul_assoc, Nat.mul_comm (2 ^ d) (2 ^ t)]
    rw [e1] at h ⊢
    apply Nat.mul_le_mul_right
    rw [Nat.le_div_iff_mul_le (Nat.two_pow_pos _), rf_t4]
    have e2 : m * 2 ^ d * (4 * 2 ^ t) = 4 * (m * 2 ^ d * 2 ^ t) := Nat.mul_left_comm _ _ _
    omega
  · have hl := hlo (by omega)
    have b1 : m * 2 ^ e ≤ 2 ^ p * 2 ^ (t - 1) := Nat.mul_le_mul (by omega) (Nat.pow_le_pow_right (by decide) (by omega))
    have b2 : 2 ^ p * 2 ^ (t - 1) = 2 ^ (p - 1) * 2 ^ t := by
      rw [← Nat.pow_add, ← Nat.pow_add]
      congr 1
      omega
    have b3 : 2 ^ (p - 1) ≤ s / 2 ^ (t + 2) := by
      rw [Nat.le_div_iff_mul_le (Nat.two_pow_pos _), ← Nat.pow_add, show p - 1 + (t + 2) = p + t + 1 by omega]
      exact hl
    have b4 := Nat.mul_le_mul_right (2 ^ t) b3
    omega
theorem rf_A2 {p t s n : Nat} (hlo : 0 < t → 2 ^ (p + t + 1) ≤ s) (hr : s % 2 ^ (t + 2) ≠ 0) (hn : rf_FN p n) (h : s ≤ 4 * n) : (s / 2 ^ (t + 2) + 1) * 2 ^ t ≤ n := by
  obtain ⟨m, e, hm, he, hme, rfl⟩ := hn
  by_cases c : t ≤ e
  · obtain ⟨d, rfl⟩ : ∃ d, e = t + d := ⟨e - t, by omega⟩
    have e1 : m * 2 ^ (t + d) = m * 2 ^ d * 2 ^ t := by
      rw [Nat.pow_add, Nat.mul_assoc, Nat.mul_comm (2 ^ d) (2 ^ t)]
    rw [e1] at h ⊢
    apply Nat.mul_le_mul_right
    have e2 : m * 2 ^ d * 2 ^ (t + 2) = 4 * (m * 2 ^ d * 2 ^ t) := by
      rw [rf_t4]
      exact Nat.mul_left_comm _ _ _
    by_cases c2 : m * 2 ^ d ≤ s / 2 ^ (t + 2)
    · rw [Nat.le_div_iff_mul_le (Nat.two_pow_pos _)] at c2
      have e3 : s = m * 2 ^ d * 2 ^ (t + 2) := by omega
      exact absurd (by rw [e3]; exact Nat.mul_mod_left _ _) hr
    · omega
  · have hl := hlo (by omega)
    have b0 : m * 2 ^ e < 2 ^ p * 2 ^ e := Nat.mul_lt_mul_of_pos_right hm (Nat.two_pow_pos e)
    have b1 : 2 ^ p * 2 ^ e ≤ 2 ^ p * 2 ^ (t - 1) := Nat.mul_le_mul (Nat.le_refl _) (Nat.pow_le_pow_right (by decide) (by omega))
    have b2 : 2 ^ (p + t + 1) = 4 * (2 ^ p * 2 ^ (t - 1)) := by
      rw [← Nat.pow_add, show p + t + 1 = p + (t - 1) + 2 by omega]
      exact rf_t4 _
    omega
theorem rf_A0 {p t s : Nat} (hs : s < 2 ^ (p + t + 2)) : s / 2 ^ (t + 2) < 2 ^ p := by
  rw [Nat.div_lt_iff_lt_mul (Nat.two_pow_pos _), ← Nat.pow_add]
  exact hs
theorem rf_A0' {p t s : Nat} (hp : 1 ≤ p) (hl : 2 ^ (p + t + 1) ≤ s) : 2 ^ (p - 1) ≤ s / 2 ^ (t + 2) := by
  rw [Nat.le_div_iff_mul_le (Nat.two_pow_pos _), ← Nat.pow_add, show p - 1 + (t + 2) = p + t + 1 by omega]
  exact hl
theorem rf_A3 {p t s : Nat} (hp : 1 ≤ p) (ht : t ≤ 23) (hs : s < 2 ^ (p + t + 2)) (hlo : 0 < t → 2 ^ (p + t + 1) ≤ s) : rf_FN p (s / 2 ^ (t + 2) * 2 ^ t) := by
  refine ⟨s / 2 ^ (t + 2), t, rf_A0 hs, ht, ?_, rfl⟩
  by_cases c : t = 0
  · exact Or.inl c
  · exact Or.inr (rf_A0' hp (hlo (by omega)))
theorem rf_A4 {p t s : Nat} (hp : 1 ≤ p) (ht : t ≤ 23) (hs : s < 2 ^ (p + t + 2)) (hlo : 0 < t → 2 ^ (p + t + 1) ≤ s) (hg : s ≤ (2 ^ p - 1) * 2 ^ 25) (hr : s % 2 ^ (t + 2) ≠ 0) : rf_FN p ((s / 2 ^ (t + 2) + 1) * 2 ^ t) := by
  have hM := rf_A0 hs
  have hd := rf_pd hp
  have hq := Nat.two_pow_pos (p - 1)
  by_cases c : s / 2 ^ (t + 2) + 1 < 2 ^ p
  · refine ⟨s / 2 ^ (t + 2) + 1, t, c, ht, ?_, rfl⟩
    by_cases c : t = 0
    · exact Or.inl c
    · have := rf_A0' hp (hlo (by omega))
      exact Or.inr (by omega)
  · have e : s / 2 ^ (t + 2) + 1 = 2 ^ p := by omega
    have ht2 : t ≠ 23 := by
      intro z
      subst z
      have h1 := Nat.div_add_mod' s (2 ^ (23 + 2))
      have h2 : s / 2 ^ (23 + 2) = 2 ^ p - 1 := by omega
      rw [h2] at h1
      have h3 : (2 : Nat) ^ (23 + 2) = 2 ^ 25 := rfl
      rw [h3] at h1 hr
      omega
    refine ⟨2 ^ (p - 1), t + 1, by omega, by omega, Or.inr (Nat.le_refl _), ?_⟩
    rw [e, hd, Nat.pow_succ, Nat.mul_comm 2 (2 ^ (p - 1)), Nat.mul_assoc, Nat.mul_comm 2 (2 ^ t)]
def rf_Gr (p : Nat) : Nat := (2 ^ p - 1) * 2 ^ 23
theorem rf_F_Gr {p : Nat} (hp : 1 ≤ p) : rf_FN p (rf_Gr p) := by
  have hd := rf_pd hp
  have hq := Nat.two_pow_pos (p - 1)
  exact ⟨2 ^ p - 1, 23, by omega, by omega, Or.inr (by omega), rfl⟩
theorem rf_F_le {p n : Nat} (h : rf_FN p n) : n ≤ rf_Gr p := by
  obtain ⟨m, e, hm, he, hme, rfl⟩ := h
  exact Nat.mul_le_mul (by omega) (Nat.pow_le_pow_right (by decide) he)
theorem rf_Gr_lt {p : Nat} (hp : p ≤ 10) : rf_Gr p < 8589934592 := by
  have h : 2 ^ p ≤ 2 ^ 10 := Nat.pow_le_pow_right (by decide) hp
  have h2 : (2 ^ p - 1) * 2 ^ 23 ≤ 1023 * 2 ^ 23 := Nat.mul_le_mul (by omega) (Nat.le_refl _)
  unfold rf_Gr
  omega
theorem rf_F_b {p : Nat} {x : Int} (h : rf_F p x) : -(rf_Gr p : Int) ≤ x ∧ x ≤ (rf_Gr p : Int) := by
  have := rf_F_le h
  omega
theorem rf_F_0 (p : Nat) : rf_F p 0 := ⟨0, 0, Nat.two_pow_pos p, by omega, Or.inl rfl, rfl⟩
def rf_Un (p : Nat) (q u : Int) : Prop := rf_F p u ∧ 4 * u ≤ q ∧ ∀ x, rf_F p x → 4 * x ≤ q → x ≤ u
def rf_Ov (p : Nat) (q o : Int) : Prop := rf_F p o ∧ q ≤ 4 * o ∧ ∀ x, rf_F p x → q ≤ 4 * x → o ≤ x
theorem rf_uo {p : Nat} {q u : Int} (h : rf_Un p q u) : rf_Ov p (-q) (-u) := by
  refine ⟨rf_F_neg h.1, by have := h.2.1; omega, fun x hx hq => ?_⟩
  have := h.2.2 (-x) (rf_F_neg hx) (by omega)
  omega
theorem rf_ou {p : Nat} {q u : Int} (h : rf_Ov p q u) : rf_Un p (-q) (-u) := by
  refine ⟨rf_F_neg h.1, by have := h.2.1; omega, fun x hx hq => ?_⟩
  have := h.2.2 (-x) (rf_F_neg hx) (by omega)
  omega
theorem rf_Un_u {p : Nat} {q u u' : Int} (h : rf_Un p q u) (h' : rf_Un p q u') : u = u' := by
  have a := h.2.2 u' h'.1 h'.2.1
  have b := h'.2.2 u h.1 h.2.1
  omega
theorem rf_Ov_u {p : Nat} {q u u' : Int} (h : rf_Ov p q u) (h' : rf_Ov p q u') : u = u' := by
  have a := h.2.2 u' h'.1 h'.2.1
  have b := h'.2.2 u h.1 h.2.1
  omega
theorem rf_ps {p t s : Nat} (hp : 1 ≤ p) (ht : t ≤ 23) (hs : s < 2 ^ (p + t + 2)) (hlo : 0 < t → 2 ^ (p + t + 1) ≤ s) (hg : s ≤ (2 ^ p - 1) * 2 ^ 25) :
    rf_Un p (s : Int) ((s / 2 ^ (t + 2) * 2 ^ t : Nat) : Int) ∧ (s % 2 ^ (t + 2) = 0 → rf_Ov p (s : Int) ((s / 2 ^ (t + 2) * 2 ^ t : Nat) : Int)) ∧ (s % 2 ^ (t + 2) ≠ 0 → rf_Ov p (s : Int) (((s / 2 ^ (t + 2) + 1) * 2 ^ t : Nat) : Int)) := by
  have e1 := Nat.div_add_mod' s (2 ^ (t + 2))
  have e2 := Nat.mod_lt s (Nat.two_pow_pos (t + 2))
  have e3 : s / 2 ^ (t + 2) * 2 ^ (t + 2) = 4 * (s / 2 ^ (t + 2) * 2 ^ t) := by
    rw [rf_t4]
    exact Nat.mul_left_comm _ _ _
  have e4 : (s / 2 ^ (t + 2) + 1) * 2 ^ t = s / 2 ^ (t + 2) * 2 ^ t + 2 ^ t := by rw [Nat.add_mul, Nat.one_mul]
  have e5 := rf_t4 t
  have f3 := rf_A3 hp ht hs hlo
  have f4 := rf_A4 hp ht hs hlo hg
  have f1 := fun n hn h => rf_A1 (n := n) hp hlo hn h
  have f2 := fun n hr hn h => rf_A2 (n := n) hlo hr hn h
  generalize s / 2 ^ (t + 2) * 2 ^ t = U at *
  generalize (s / 2 ^ (t + 2) + 1) * 2 ^ t = O at *
  generalize s / 2 ^ (t + 2) * 2 ^ (t + 2) = K at *
  generalize s % 2 ^ (t + 2) = R at *
  generalize 2 ^ (t + 2) = G at *
  generalize 2 ^ t = T at *
  refine ⟨⟨rf_F_nat f3, by omega, fun x hx h => ?_⟩, fun hr => ⟨rf_F_nat f3, by omega, fun x hx h => by omega⟩, fun hr => ⟨rf_F_nat (f4 hr), by omega, fun x hx h => ?_⟩⟩
  · by_cases c : x < 0
    · omega
    · have := f1 x.natAbs hx (by omega)
      omega
  · have := f2 x.natAbs hr hx (by omega)
    omega
end
section
def rf_ch (how : Nat) (q u o : Int) : Int :=
  if how = 1 then u else if how = 2 then o else if how = 3 then (if 0 ≤ u then u else o)
  else if q < 2 * (u + o) ∨ (q = 2 * (u + o) ∧ u.tdiv (o - u) % 2 = 0) then u else o
theorem rf_ch_or (how : Nat) (q u o : Int) : rf_ch how q u o = u ∨ rf_ch how q u o = o := by
  unfold rf_ch
  repeat' split
  all_goals simp
def rf_go (how neg M R G : Nat) : Prop := (how = 1 ∧ neg = 1) ∨ (how = 2 ∧ neg = 0) ∨ (how = 0 ∧ (G < 2 * R ∨ (2 * R = G ∧ M % 2 = 1)))
theorem rf_chp {how M T R : Nat} (hT : 0 < T) (hh : how < 4) {q u o : Int} (hq : q = ((4 * (M * T) + R : Nat) : Int)) (hu : u = ((M * T : Nat) : Int)) (ho : o = ((M * T + T : Nat) : Int)) :
    (rf_go how 0 M R (4 * T) → rf_ch how q u o = o) ∧ (¬ rf_go how 0 M R (4 * T) → rf_ch how q u o = u) := by
  have hd : u.tdiv (o - u) = (M : Int) := by
    have e1 : o - u = (T : Int) := by omega
    have e2 : u = (M : Int) * (T : Int) := by
      rw [hu]
      exact Int.natCast_mul M T
    rw [e1, e2]
    exact Int.mul_tdiv_cancel _ (by omega)
  have h0 : (0 : Int) ≤ u := by omega
  have hs : how = 0 ∨ how = 1 ∨ how = 2 ∨ how = 3 := by omega
  unfold rf_go rf_ch
  rcases hs with rfl | rfl | rfl | rfl
  · refine ⟨fun g => ?_, fun g => ?_⟩
    · rw [if_neg (by decide), if_neg (by decide), if_neg (by decide), if_neg (by rw [hd]; omega)]
    · rw [if_neg (by decide), if_neg (by decide), if_neg (by decide), if_pos (by rw [hd]; omega)]
  · exact ⟨fun g => absurd g (by omega), fun g => if_pos rfl⟩
  · exact ⟨fun g => by rw [if_neg (by decide), if_pos rfl], fun g => absurd g (by omega)⟩
  · exact ⟨fun g => absurd g (by omega), fun g => by rw [if_neg (by decide), if_neg (by decide), if_pos rfl, if_pos h0]⟩
theorem rf_chn {how M T R : Nat} (hT : 0 < T) (hh : how < 4) {q u o : Int} (hq : q = -((4 * (M * T) + R : Nat) : Int)) (hu : u = -((M * T + T : Nat) : Int)) (ho : o = -((M * T : Nat) : Int)) :
    (rf_go how 1 M R (4 * T) → rf_ch how q u o = u) ∧ (¬ rf_go how 1 M R (4 * T) → rf_ch how q u o = o) := by
  have hd : u.tdiv (o - u) = -((M : Int) + 1) := by
    have e1 : o - u = (T : Int) := by omega
    have e2 : u = (-((M : Int) + 1)) * (T : Int) := by
      rw [hu, Int.neg_mul, Int.add_mul, Int.one_mul, Int.natCast_add, Int.natCast_mul]
    rw [e1, e2]
    exact Int.mul_tdiv_cancel _ (by omega)
  have h0 : ¬ (0 : Int) ≤ u := by omega
  have hs : how = 0 ∨ how = 1 ∨ how = 2 ∨ how = 3 := by omega
  unfold rf_go rf_ch
  rcases hs with rfl | rfl | rfl | rfl
  · refine ⟨fun g => ?_, fun g => ?_⟩
    · rw [if_neg (by decide), if_neg (by decide), if_neg (by decide), if_pos (by rw [hd]; omega)]
    · rw [if_neg (by decide), if_neg (by decide), if_neg (by decide), if_neg (by rw [hd]; omega)]
  · exact ⟨fun g => if_pos rfl, fun g => absurd g (by omega)⟩
  · exact ⟨fun g => absurd g (by omega), fun g => by rw [if_neg (by decide), if_pos rfl]⟩
  · exact ⟨fun g => absurd g (by omega), fun g => by rw [if_neg (by decide), if_neg (by decide), if_pos rfl, if_neg h0]⟩
theorem rf_xok {p how M R T n neg : Nat} {q r : Int} (hT : 0 < T) (hR4 : R < 4 * T) (hqs : q.natAbs = 4 * (M * T) + R) (hh : how < 4)
    (P1 : rf_Un p (q.natAbs : Int) ((M * T : Nat) : Int)) (P2 : R = 0 → rf_Ov p (q.natAbs : Int) ((M * T : Nat) : Int)) (P3 : R ≠ 0 → rf_Ov p (q.natAbs : Int) ((M * T + T : Nat) : Int))
    (hneg : (q < 0 ∧ neg = 1) ∨ (0 ≤ q ∧ neg = 0))
    (hn : (R ≠ 0 ∧ rf_go how neg M R (4 * T) ∧ n = M + 1) ∨ ((R = 0 ∨ ¬ rf_go how neg M R (4 * T)) ∧ n = M))
    (hr : (q < 0 ∧ r = -((n * T : Nat) : Int)) ∨ (0 ≤ q ∧ r = ((n * T : Nat) : Int))) :
    ∃ u o, rf_Un p q u ∧ rf_Ov p q o ∧ ((u = o ∧ r = u ∧ 4 * r = q) ∨ (u ≠ o ∧ r = rf_ch how q u o ∧ 4 * r ≠ q)) := by
  have en : (M + 1) * T = M * T + T := by rw [Nat.add_mul, Nat.one_mul]
  rcases hneg with ⟨hq, rfl⟩ | ⟨hq, rfl⟩
  · have eq : -(q.natAbs : Int) = q := by omega
    have O1 : rf_Ov p q (-((M * T : Nat) : Int)) := by
      have h := rf_uo P1
      rwa [eq] at h
    by_cases c : R = 0
    · have U1 : rf_Un p q (-((M * T : Nat) : Int)) := by
        have h := rf_ou (P2 c)
        rwa [eq] at h
      have hnM : n = M := by
        rcases hn with ⟨h, _⟩ | ⟨_, h⟩
        · exact absurd c h
        · exact h
      subst hnM
      exact ⟨_, _, U1, O1, Or.inl ⟨rfl, by omega, by omega⟩⟩
    · have U1 : rf_Un p q (-((M * T + T : Nat) : Int)) := by
        have h := rf_ou (P3 c)
        rwa [eq] at h
      have C := rf_chn (how := how) (M := M) (T := T) (R := R) (q := q) hT hh (by omega) rfl rfl
      refine ⟨_, _, U1, O1, Or.inr ⟨by omega, ?_⟩⟩
      rcases hn with ⟨_, g, rfl⟩ | ⟨h, rfl⟩
      · rw [en] at hr
        rw [C.1 g]
        omega
      · rw [C.2 (h.resolve_left c)]
        omega
  · have eq : (q.natAbs : Int) = q := by omega
    rw [eq] at P1 P2 P3
    by_cases c : R = 0
    · have hnM : n = M := by
        rcases hn with ⟨h, _⟩ | ⟨_, h⟩
        · exact absurd c h
        · exact h
      subst hnM
      exact ⟨_, _, P1, P2 c, Or.inl ⟨rfl, by omega, by omega⟩⟩
    · have C := rf_chp (how := how) (M := M) (T := T) (R := R) (q := q) hT hh (by omega) rfl rfl
      refine ⟨_, _, P1, P3 c, Or.inr ⟨by omega, ?_⟩⟩
      rcases hn with ⟨_, g, rfl⟩ | ⟨h, rfl⟩
      · rw [en] at hr
        rw [C.1 g]
        omega
      · rw [C.2 (h.resolve_left c)]
        omega
def rf_Out (p how : Nat) (q r : Int) (f : Nat) : Prop :=
  (∃ u o, rf_Un p q u ∧ rf_Ov p q o ∧ ((u = o ∧ r = u ∧ f = 0) ∨ (u ≠ o ∧ r = rf_ch how q u o ∧ f = 1))) ∨
  ((∀ x, rf_F p x → 4 * x < q) ∧ rf_Un p q r ∧ f = 3) ∨ ((∀ x, rf_F p x → q < 4 * x) ∧ rf_Ov p q r ∧ f = 3)
theorem rf_Out_F {p how : Nat} {q r : Int} {f : Nat} (h : rf_Out p how q r f) : rf_F p r ∧ (f = 0 ∨ f = 1 ∨ f = 3) := by
  rcases h with ⟨u, o, hu, ho, ⟨_, rfl, hf⟩ | ⟨_, hr, hf⟩⟩ | ⟨_, hu, hf⟩ | ⟨_, ho, hf⟩
  · exact ⟨hu.1, Or.inl hf⟩
  · refine ⟨?_, Or.inr (Or.inl hf)⟩
    rcases rf_ch_or how q u o with e | e
    · rw [hr, e]
      exact hu.1
    · rw [hr, e]
      exact ho.1
  · exact ⟨hu.1, Or.inr (Or.inr hf)⟩
  · exact ⟨ho.1, Or.inr (Or.inr hf)⟩
theorem rf_Out_u {p how : Nat} {q r r' : Int} {f f' : Nat} (h : rf_Out p how q r f) (h' : rf_Out p how q r' f') : r = r' ∧ f = f' := by
  rcases h with ⟨u, o, hu, ho, d⟩ | ⟨na, hu, hf⟩ | ⟨na, ho, hf⟩
  · rcases h' with ⟨u', o', hu', ho', d'⟩ | ⟨na', hu', hf'⟩ | ⟨na', ho', hf'⟩
    · cases rf_Un_u hu hu'
      cases rf_Ov_u ho ho'
      rcases d with ⟨a, b, c⟩ | ⟨a, b, c⟩
      · rcases d' with ⟨a', b', c'⟩ | ⟨a', b', c'⟩
        · exact ⟨b.trans b'.symm, c.trans c'.symm⟩
        · exact absurd a a'
      · rcases d' with ⟨a', b', c'⟩ | ⟨a', b', c'⟩
        · exact absurd a' a
        · exact ⟨b.trans b'.symm, c.trans c'.symm⟩
    · have := na' o ho.1
      have := ho.2.1
      omega
    · have := na' u hu.1
      have := hu.2.1
      omega
  · rcases h' with ⟨u', o', hu', ho', d'⟩ | ⟨na', hu', hf'⟩ | ⟨na', ho', hf'⟩
    · have := na o' ho'.1
      have := ho'.2.1
      omega
    · exact ⟨rf_Un_u hu hu', hf.trans hf'.symm⟩
    · have := na 0 (rf_F_0 p)
      have := na' 0 (rf_F_0 p)
      omega
  · rcases h' with ⟨u', o', hu', ho', d'⟩ | ⟨na', hu', hf'⟩ | ⟨na', ho', hf'⟩
    · have := na u' hu'.1
      have := hu'.2.1
      omega
    · have := na 0 (rf_F_0 p)
      have := na' 0 (rf_F_0 p)
      omega
    · exact ⟨rf_Ov_u ho ho', hf.trans hf'.symm⟩
theorem rf_Out_x {p how : Nat} {q r : Int} (h : ∃ u o, rf_Un p q u ∧ rf_Ov p q o ∧ ((u = o ∧ r = u ∧ 4 * r = q) ∨ (u ≠ o ∧ r = rf_ch how q u o ∧ 4 * r ≠ q))) :
    (4 * r = q → rf_Out p how q r 0) ∧ (4 * r ≠ q → rf_Out p how q r 1) := by
  obtain ⟨u, o, hu, ho, ⟨a, b, c⟩ | ⟨a, b, c⟩⟩ := h
  · exact ⟨fun _ => Or.inl ⟨u, o, hu, ho, Or.inl ⟨a, b, rfl⟩⟩, fun z => absurd c z⟩
  · exact ⟨fun z => absurd z c, fun _ => Or.inl ⟨u, o, hu, ho, Or.inr ⟨a, b, rfl⟩⟩⟩
theorem rf_Out_hi {p how : Nat} {q : Int} (hp : 1 ≤ p) (h : 4 * (rf_Gr p : Int) < q) : rf_Out p how q (rf_Gr p : Int) 3 := by
  refine Or.inr (Or.inl ⟨fun x hx => ?_, ⟨rf_F_nat (rf_F_Gr hp), by omega, fun x hx _ => (rf_F_b hx).2⟩, rfl⟩)
  have := (rf_F_b hx).2
  omega
theorem rf_Out_lo {p how : Nat} {q : Int} (hp : 1 ≤ p) (h : q < -(4 * (rf_Gr p : Int))) : rf_Out p how q (-(rf_Gr p : Int)) 3 := by
  refine Or.inr (Or.inr ⟨fun x hx => ?_, ⟨rf_F_neg (rf_F_nat (rf_F_Gr hp)), by omega, fun x hx _ => (rf_F_b hx).1⟩, rfl⟩)
  have := (rf_F_b hx).1
  omega
end
section
def rf_IU (q : Int) (S : Int → Prop) (hu : Int32) (un : Int64) : Prop :=
  (hu = 0 ∧ ∀ x, S x → q < 4 * x) ∨ (hu = 1 ∧ ∃ z, un = rf_l z ∧ S z ∧ 4 * z ≤ q ∧ ∀ x, S x → 4 * x ≤ q → x ≤ z)
def rf_IO (q : Int) (S : Int → Prop) (ho : Int32) (ov : Int64) : Prop :=
  (ho = 0 ∧ ∀ x, S x → 4 * x < q) ∨ (ho = 1 ∧ ∃ z, ov = rf_l z ∧ S z ∧ q ≤ 4 * z ∧ ∀ x, S x → q ≤ 4 * x → z ≤ x)
theorem rf_ne01 : ¬ (1 : Int32) = 0 := by decide
theorem rf_IU_set {q x : Int} {S S' : Int → Prop} {hu : Int32} {un : Int64} (e : ∀ y, S' y ↔ S y ∨ y = x) (h : rf_IU q S hu un) (hx : 4 * x ≤ q)
    (hb : hu = 0 ∨ ∀ z, un = rf_l z → S z → z ≤ x) : rf_IU q S' 1 (rf_l x) := by
  refine Or.inr ⟨rfl, x, rfl, (e x).2 (Or.inr rfl), hx, fun y hy h4 => ?_⟩
  rcases (e y).1 hy with hS | hS
  · rcases h with ⟨h0, h1⟩ | ⟨h0, z, hz, hSz, h2, h3⟩
    · have := h1 y hS
      omega
    · have a := h3 y hS h4
      rcases hb with hb | hb
      · exact absurd (h0.symm.trans hb) rf_ne01
      · have := hb z hz hSz
        omega
  · omega
theorem rf_IU_keep {q x : Int} {S S' : Int → Prop} {hu : Int32} {un : Int64} (e : ∀ y, S' y ↔ S y ∨ y = x) (h : rf_IU q S hu un)
    (hb : q < 4 * x ∨ (hu ≠ 0 ∧ ∀ z, un = rf_l z → S z → x ≤ z)) : rf_IU q S' hu un := by
  rcases h with ⟨h0, h1⟩ | ⟨h0, z, hz, hSz, h2, h3⟩
  · refine Or.inl ⟨h0, fun y hy => ?_⟩
    rcases (e y).1 hy with hS | hS
    · exact h1 y hS
    · rcases hb with hb | hb
      · omega
      · exact absurd h0 hb.1
  · refine Or.inr ⟨h0, z, hz, (e z).2 (Or.inl hSz), h2, fun y hy h4 => ?_⟩
    rcases (e y).1 hy with hS | hS
    · exact h3 y hS h4
    · rcases hb with hb | hb
      · omega
      · have := hb.2 z hz hSz
        omega
theorem rf_IO_set {q x : Int} {S S' : Int → Prop} {ho : Int32} {ov : Int64} (e : ∀ y, S' y ↔ S y ∨ y = x) (h : rf_IO q S ho ov) (hx : q ≤ 4 * x)
    (hb : ho = 0 ∨ ∀ z, ov = rf_l z → S z → x ≤ z) : rf_IO q S' 1 (rf_l x) := by
  refine Or.inr ⟨rfl, x, rfl, (e x).2 (Or.inr rfl), hx, fun y hy h4 => ?_⟩
  rcases (e y).1 hy with hS | hS
  · rcases h with ⟨h0, h1⟩ | ⟨h0, z, hz, hSz, h2, h3⟩
    · have := h1 y hS
      omega
    · have a := h3 y hS h4
      rcases hb with hb | hb
      · exact absurd (h0.symm.trans hb) rf_ne01
      · have := hb z hz hSz
        omega
  · omega
theorem rf_IO_keep {q x : Int} {S S' : Int → Prop} {ho : Int32} {ov : Int64} (e : ∀ y, S' y ↔ S y ∨ y = x) (h : rf_IO q S ho ov)
    (hb : 4 * x < q ∨ (ho ≠ 0 ∧ ∀ z, ov = rf_l z → S z → z ≤ x)) : rf_IO q S' ho ov := by
  rcases h with ⟨h0, h1⟩ | ⟨h0, z, hz, hSz, h2, h3⟩
  · refine Or.inl ⟨h0, fun y hy => ?_⟩
    rcases (e y).1 hy with hS | hS
    · exact h1 y hS
    · rcases hb with hb | hb
      · omega
      · exact absurd h0 hb.1
  · refine Or.inr ⟨h0, z, hz, (e z).2 (Or.inl hSz), h2, fun y hy h4 => ?_⟩
    rcases (e y).1 hy with hS | hS
    · exact h3 y hS h4
    · rcases hb with hb | hb
      · omega
      · have := hb.2 z hz hSz
        omega
theorem rf_IU_iff {q : Int} {S S' : Int → Prop} {hu : Int32} {un : Int64} (e : ∀ y, S' y ↔ S y) (h : rf_IU q S hu un) : rf_IU q S' hu un := by
  have e' : S' = S := funext fun y => propext (e y)
  rw [e']
  exact h
theorem rf_IO_iff {q : Int} {S S' : Int → Prop} {hu : Int32} {un : Int64} (e : ∀ y, S' y ↔ S y) (h : rf_IO q S hu un) : rf_IO q S' hu un := by
  have e' : S' = S := funext fun y => propext (e y)
  rw [e']
  exact h
def rf_V (p e m : Nat) (x : Int) : Prop := ∃ m' e' : Nat, m' < 2 ^ p ∧ (e' = 0 ∨ 2 ^ (p - 1) ≤ m') ∧ (e' < e ∨ (e' = e ∧ m' < m)) ∧ x.natAbs = m' * 2 ^ e'
theorem rf_V_s {p e m : Nat} (hm : m < 2 ^ p) (hme : e = 0 ∨ 2 ^ (p - 1) ≤ m) (x : Int) : rf_V p e (m + 1) x ↔ (rf_V p e m x ∨ x = ((m * 2 ^ e : Nat) : Int)) ∨ x = -((m * 2 ^ e : Nat) : Int) := by
  constructor
  · intro h
    obtain ⟨m', e', h1, h2, h3, h4⟩ := h
    by_cases c : e' < e ∨ (e' = e ∧ m' < m)
    · exact Or.inl (Or.inl ⟨m', e', h1, h2, c, h4⟩)
    · have e1 : e' = e := by omega
      have e2 : m' = m := by omega
      subst e1 e2
      by_cases c2 : x < 0
      · exact Or.inr (by omega)
      · exact Or.inl (Or.inr (by omega))
  · intro h
    rcases h with (⟨m', e', h1, h2, h3, h4⟩ | h) | h
    · exact ⟨m', e', h1, h2, by omega, h4⟩
    · exact ⟨m, e, hm, hme, by omega, by omega⟩
    · exact ⟨m, e, hm, hme, by omega, by omega⟩
theorem rf_V_e {p e : Nat} (x : Int) : rf_V p (e + 1) (2 ^ (p - 1)) x ↔ rf_V p e (2 ^ p) x := by
  constructor
  · intro h
    obtain ⟨m', e', h1, h2, h3, h4⟩ := h
    exact ⟨m', e', h1, h2, by omega, h4⟩
  · intro h
    obtain ⟨m', e', h1, h2, h3, h4⟩ := h
    exact ⟨m', e', h1, h2, by omega, h4⟩
theorem rf_V_0 {p : Nat} (x : Int) : ¬ rf_V p 0 0 x := by
  intro h
  obtain ⟨m', e', h1, h2, h3, h4⟩ := h
  omega
theorem rf_V_24 {p : Nat} (x : Int) : rf_F p x ↔ rf_V p 24 (2 ^ (p - 1)) x := by
  constructor
  · intro h
    obtain ⟨m', e', h1, h2, h3, h4⟩ := h
    exact ⟨m', e', h1, h3, by omega, h4⟩
  · intro h
    obtain ⟨m', e', h1, h2, h3, h4⟩ := h
    exact ⟨m', e', h1, by omega, h2, h4⟩
theorem rf_V_B {p e m : Nat} {x : Int} (hp : p ≤ 10) (he : e ≤ 24) (h : rf_V p e m x) : -17179869184 ≤ x ∧ x ≤ 17179869184 := by
  obtain ⟨m', e', h1, h2, h3, h4⟩ := h
  have a : 2 ^ p ≤ 2 ^ 10 := Nat.pow_le_pow_right (by decide) hp
  have b : m' * 2 ^ e' ≤ 2 ^ 10 * 2 ^ 24 := Nat.mul_le_mul (by omega) (Nat.pow_le_pow_right (by decide) (by omega))
  omega
theorem rf_mV {p e m : Nat} (hp : p ≤ 10) (he : e ≤ 24) (hm : m < 2 ^ p) : m * 2 ^ e ≤ 17179869184 := by
  have a : 2 ^ p ≤ 2 ^ 10 := Nat.pow_le_pow_right (by decide) hp
  have b : m * 2 ^ e ≤ 2 ^ 10 * 2 ^ 24 := Nat.mul_le_mul (by omega) (Nat.pow_le_pow_right (by decide) (by omega))
  omega
theorem rf_IU_F {p : Nat} {q : Int} {hu : Int32} {un : Int64} (h : rf_IU q (rf_F p) hu un) : (hu = 0 ∧ ∀ x, rf_F p x → q < 4 * x) ∨ (hu = 1 ∧ ∃ z, un = rf_l z ∧ rf_Un p q z) := by
  rcases h with h | ⟨h0, z, hz, hSz, h2, h3⟩
  · exact Or.inl h
  · exact Or.inr ⟨h0, z, hz, hSz, h2, h3⟩
theorem rf_IO_F {p : Nat} {q : Int} {hu : Int32} {un : Int64} (h : rf_IO q (rf_F p) hu un) : (hu = 0 ∧ ∀ x, rf_F p x → 4 * x < q) ∨ (hu = 1 ∧ ∃ z, un = rf_l z ∧ rf_Ov p q z) := by
  rcases h with h | ⟨h0, z, hz, hSz, h2, h3⟩
  · exact Or.inl h
  · exact Or.inr ⟨h0, z, hz, hSz, h2, h3⟩
end
section
def rf_sg (z : Int) : Int32 := if z < 0 then -1 else if 0 < z then 1 else 0
theorem rf_sg_c {a b : Int} (h1 : a < 0 ↔ b < 0) (h2 : 0 < a ↔ 0 < b) : rf_sg a = rf_sg b := by
  unfold rf_sg
  simp only [h1, h2]
theorem rf_sg_i {a b : Int} (h : rf_sg a = rf_sg b) : (a < 0 ↔ b < 0) ∧ (0 < a ↔ 0 < b) := by
  unfold rf_sg at h
  by_cases c1 : a < 0
  · by_cases c2 : b < 0
    · omega
    · rw [if_pos c1, if_neg c2] at h
      by_cases c3 : 0 < b
      · rw [if_pos c3] at h
        exact absurd h (by decide)
      · rw [if_neg c3] at h
        exact absurd h (by decide)
  · rw [if_neg c1] at h
    by_cases c2 : b < 0
    · rw [if_pos c2] at h
      by_cases c3 : 0 < a
      · rw [if_pos c3] at h
        exact absurd h (by decide)
      · rw [if_neg c3] at h
        exact absurd h (by decide)
    · rw [if_neg c2] at h
      by_cases c3 : 0 < a
      · by_cases c4 : 0 < b
        · omega
        · rw [if_pos c3, if_neg c4] at h
          exact absurd h (by decide)
      · by_cases c4 : 0 < b
        · rw [if_neg c3, if_pos c4] at h
          exact absurd h (by decide)
        · omega
theorem rf_sg_n {a b : Int} (h : rf_sg a = rf_sg b) : rf_sg (-a) = rf_sg (-b) := by
  have := rf_sg_i h
  exact rf_sg_c (by omega) (by omega)
theorem rf_sg_m {c z : Int} (hc : 0 < c) : rf_sg (c * z) = rf_sg z := by
  have h1 : z < 0 → c * z < 0 := fun h => Int.mul_neg_of_pos_of_neg hc h
  have h2 : 0 < z → 0 < c * z := fun h => Int.mul_pos hc h
  have h3 : z = 0 → c * z = 0 := fun h => by rw [h, Int.mul_zero]
  exact rf_sg_c (by omega) (by omega)
def rf_wb (N d : Int) : Int := if N / d * d = N then N / d else N / d + 1 - N / d % 2
theorem rf_wb_b (N d : Int) : N / d ≤ rf_wb N d ∧ rf_wb N d ≤ N / d + 1 := by
  unfold rf_wb
  split
  · omega
  · omega
theorem rf_st {N d : Int} (hd : 0 < d) (h : Int) : rf_sg (rf_wb N d - 2 * h) = rf_sg (N - 2 * h * d) := by
  have e1 := Int.ediv_mul_add_emod N d
  have e2 := Int.emod_nonneg N (b := d) (by omega)
  have e3 := Int.emod_lt_of_pos N hd
  have f1 : 2 * h ≤ N / d → 2 * h * d ≤ N / d * d := fun z => Int.mul_le_mul_of_nonneg_right z (by omega)
  have f4 : N / d ≤ 2 * h → N / d * d ≤ 2 * h * d := fun z => Int.mul_le_mul_of_nonneg_right z (by omega)
  have f2 : N / d + 1 ≤ 2 * h → N / d * d + d ≤ 2 * h * d := fun z => by
    have := Int.mul_le_mul_of_nonneg_right z (c := d) (by omega)
    rw [Int.add_mul, Int.one_mul] at this
    exact this
  have f3 : 2 * h + 1 ≤ N / d → 2 * h * d + d ≤ N / d * d := fun z => by
    have := Int.mul_le_mul_of_nonneg_right z (c := d) (by omega)
    rw [Int.add_mul, Int.one_mul] at this
    exact this
  unfold rf_wb
  generalize N / d = k at *
  generalize k * d = A at *
  generalize 2 * h * d = H at *
  generalize N % d = r at *
  by_cases c : A = N
  · rw [if_pos c]
    exact rf_sg_c (by omega) (by omega)
  · rw [if_neg c]
    exact rf_sg_c (by omega) (by omega)
def rf_ag (top low : Int64) (sq : Int32) (x : Int64) : Int32 :=
  if sq = 0 then (if 2 * top < x * low then -1 else if x * low < 2 * top then 1 else 0)
  else if x < 0 then 1 else if 1073741824 < x then -1 else if x * x < 4 * top then 1 else if 4 * top < x * x then -1 else 0
theorem rf_2 : (2 : Int64) = rf_l 2 := by decide
theorem rf_4 : (4 : Int64) = rf_l 4 := by decide
theorem rf_ag0 {a b h : Int} (h1 : rf_B (2 * a)) (h2 : rf_B (h * b)) : rf_ag (rf_l a) (rf_l b) 0 (rf_l h) = rf_sg (2 * a - h * b) := by
  unfold rf_ag rf_sg
  rw [if_pos rfl, rf_2, rf_mul, rf_mul]
  simp only [rf_lt h1 h2, rf_lt h2 h1]
  generalize h * b = c
  by_cases c1 : 2 * a < c
  · rw [if_pos c1, if_pos (by omega)]
  · by_cases c2 : c < 2 * a
    · rw [if_neg c1, if_pos c2, if_neg (by omega), if_pos (by omega)]
    · rw [if_neg c1, if_neg c2, if_neg (by omega), if_neg (by omega)]
theorem rf_ag1 {a h : Int} {low : Int64} (ha : 0 ≤ a) (ha2 : a < 288230376151711744) (hB : rf_B h) :
    rf_ag (rf_l a) low 1 (rf_l h) = if h < 0 then 1 else if 1073741824 < h then -1 else rf_sg (4 * a - h * h) := by
  unfold rf_ag
  have b0 : rf_B 0 := by unfold rf_B; omega
  have b3 : rf_B 1073741824 := by unfold rf_B; omega
  have b4 : rf_B (4 * a) := by unfold rf_B; omega
  have e3 : (1073741824 : Int64) = rf_l 1073741824 := by decide
  rw [if_neg rf_ne01, e3, rf_0, rf_4, rf_mul, rf_mul]
  simp only [rf_lt hB b0, rf_lt b3 hB]
  by_cases c1 : h < 0
  · rw [if_pos c1, if_pos c1]
  · rw [if_neg c1, if_neg c1]
    by_cases c2 : 1073741824 < h
    · rw [if_pos c2, if_pos c2]
    · rw [if_neg c2, if_neg c2]
      have m1 := Int.mul_le_mul (a := h) (b := h) (c := 1073741824) (d := 1073741824) (by omega) (by omega) (by omega) (by omega)
      have m2 := Int.mul_nonneg (a := h) (b := h) (by omega) (by omega)
      have b5 : rf_B (h * h) := by unfold rf_B; omega
      simp only [rf_lt b5 b4, rf_lt b4 b5]
      unfold rf_sg
      generalize h * h = c
      by_cases c3 : c < 4 * a
      · rw [if_pos c3, if_neg (by omega), if_pos (by omega)]
      · by_cases c4 : 4 * a < c
        · rw [if_neg c3, if_pos c4, if_pos (by omega)]
        · rw [if_neg c3, if_neg c4, if_neg (by omega), if_neg (by omega)]
def rf_Ag (q : Int) (top low : Int64) (sq : Int32) : Prop := ∀ h : Int, -34359738368 ≤ h → h ≤ 34359738368 → rf_ag top low sq (rf_l h) = rf_sg (q - 2 * h)
def rf_Ag2 (q : Int) (top low : Int64) (sq : Int32) : Prop := ∀ x : Int, -17179869184 ≤ x → x ≤ 17179869184 → rf_ag top low sq (rf_l (2 * x)) = rf_sg (q - 4 * x)
theorem rf_Ag_2 {q : Int} {top low : Int64} {sq : Int32} (h : rf_Ag q top low sq) : rf_Ag2 q top low sq := by
  intro x h1 h2
  rw [h (2 * x) (by omega) (by omega)]
  congr 1
  omega
theorem rf_mb {a b : Int} {A B : Nat} (ha : a.natAbs ≤ A) (hb : b.natAbs ≤ B) : (a * b).natAbs ≤ A * B := by
  rw [Int.natAbs_mul]
  exact Nat.mul_le_mul ha hb
theorem rf_Ag_s {z : Int} (h1 : -1099511627776 ≤ z) (h2 : z ≤ 1099511627776) : rf_Ag (4 * z) (rf_l z) (rf_l 1) 0 := by
  intro h a b
  rw [rf_ag0 (by unfold rf_B; omega) (by unfold rf_B; omega)]
  exact rf_sg_c (by omega) (by omega)
theorem rf_Ag_n {x : Int} (h1 : -1099511627776 ≤ x) (h2 : x ≤ 1099511627776) : rf_Ag2 (4 * x + 1) (rf_l (2 * x + 1)) (rf_l 2) 0 ∧ rf_Ag2 (4 * x - 1) (rf_l (2 * x - 1)) (rf_l 2) 0 := by
  constructor
  · intro h a b
    rw [rf_ag0 (by unfold rf_B; omega) (by unfold rf_B; omega)]
    exact rf_sg_c (by omega) (by omega)
  · intro h a b
    rw [rf_ag0 (by unfold rf_B; omega) (by unfold rf_B; omega)]
    exact rf_sg_c (by omega) (by omega)
theorem rf_Ag_f {q N d top low c1 c2 : Int} (hq : ∀ h, rf_sg (q - 2 * h) = rf_sg (N - 2 * h * d)) (hc1 : 0 < c1) (hc2 : 0 < c2) (e1 : c1 * (2 * top) = c2 * N) (e2 : c1 * low = c2 * (2 * d))
    (bt : top.natAbs ≤ 2305843009213693952) (bl : low.natAbs ≤ 67108864) : rf_Ag q (rf_l top) (rf_l low) 0 := by
  intro h a b
  have m := rf_mb (a := h) (b := low) (A := 34359738368) (B := 67108864) (by omega) bl
  rw [rf_ag0 (by unfold rf_B; omega) (by unfold rf_B; omega), hq h, ← rf_sg_m hc1, ← rf_sg_m (z := N - 2 * h * d) hc2]
  congr 1
  have e3 : c1 * (h * low) = h * (c1 * low) := Int.mul_left_comm _ _ _
  have e4 : c2 * (2 * h * d) = h * (c2 * (2 * d)) := by
    rw [Int.mul_left_comm h c2, Int.mul_assoc 2 h d, Int.mul_left_comm 2 h d]
  rw [Int.mul_sub, Int.mul_sub, e1, e3, e2, e4]
end
section
theorem rf_pb {m : Int} {j A J : Nat} (hm : m.natAbs ≤ A) (hj : j ≤ J) : (m * ((2 ^ j : Nat) : Int)).natAbs ≤ A * 2 ^ J :=
  rf_mb hm (Nat.pow_le_pow_right (by decide) hj)
theorem rf_Ag_l1 {m : Int} {j : Nat} (hm : m.natAbs ≤ 1000000) (hj : j ≤ 32) : rf_Ag (rf_wb (m * ((2 ^ (j + 8) : Nat) : Int)) 64) (rf_l (m * ((2 ^ j : Nat) : Int))) (rf_l 1) 0 := by
  have b := rf_pb hm hj
  refine rf_Ag_f (c1 := 128) (c2 := 1) (fun h => rf_st (by omega) h) (by omega) (by omega) ?_ (by omega) (by omega) (by omega)
  have e : ((2 ^ (j + 8) : Nat) : Int) = ((2 ^ j : Nat) : Int) * 256 := by
    rw [Nat.pow_add]
    exact Int.natCast_mul _ _
  rw [e, ← Int.mul_assoc m]
  omega
theorem rf_Ag_l2 {m : Int} {j : Nat} (hm : m.natAbs ≤ 1000000) (hj : j ≤ 8) : rf_Ag (rf_wb (m * ((2 ^ (8 - j) : Nat) : Int)) 64) (rf_l m) (rf_l ((2 ^ j : Nat) : Int)) 0 := by
  have b : 2 ^ j ≤ 2 ^ 8 := Nat.pow_le_pow_right (by decide) hj
  have b0 := Nat.two_pow_pos j
  have e : ((2 ^ j : Nat) : Int) * ((2 ^ (8 - j) : Nat) : Int) = 256 := by
    rw [← Int.natCast_mul, ← Nat.pow_add, show j + (8 - j) = 8 by omega]
    rfl
  refine rf_Ag_f (c1 := 128) (c2 := ((2 ^ j : Nat) : Int)) (fun h => rf_st (by omega) h) (by omega) (by omega) ?_ (by omega) (by omega) (by omega)
  rw [Int.mul_left_comm ((2 ^ j : Nat) : Int) m, e]
  omega
theorem rf_Ag_m {N : Int} (hN : N.natAbs ≤ 2305843009213693952) : rf_Ag (rf_wb N 1024) (rf_l N) (rf_l 4096) 0 :=
  rf_Ag_f (c1 := 1) (c2 := 2) (fun h => rf_st (by omega) h) (by omega) (by omega) (by omega) (by omega) hN (by omega)
theorem rf_Ag_mp {C top low : Int} (hC : C.natAbs ≤ 35184372088832) (ht : (low = 1 ∧ top = 8796093022208) ∨ (low = 4096 ∧ 562949953421312 ≤ top ∧ top ≤ 72057594037927936)) : rf_Ag (rf_wb (1125899906842624 + C) 1024) (rf_l top) (rf_l low) 0 := by
  intro h a b
  have w := rf_wb_b (1125899906842624 + C) 1024
  rcases ht with ⟨rfl, rfl⟩ | ⟨rfl, h1, h2⟩
  · rw [rf_ag0 (by unfold rf_B; omega) (by unfold rf_B; omega)]
    exact rf_sg_c (by omega) (by omega)
  · rw [rf_ag0 (by unfold rf_B; omega) (by unfold rf_B; omega)]
    exact rf_sg_c (by omega) (by omega)
theorem rf_Ag_mn {C top low : Int} (hC : C.natAbs ≤ 35184372088832) (ht : (low = 1 ∧ top = -8796093022208) ∨ (low = 4096 ∧ top ≤ -562949953421312 ∧ -72057594037927936 ≤ top)) : rf_Ag (rf_wb (-1125899906842624 + C) 1024) (rf_l top) (rf_l low) 0 := by
  intro h a b
  have w := rf_wb_b (-1125899906842624 + C) 1024
  rcases ht with ⟨rfl, rfl⟩ | ⟨rfl, h1, h2⟩
  · rw [rf_ag0 (by unfold rf_B; omega) (by unfold rf_B; omega)]
    exact rf_sg_c (by omega) (by omega)
  · rw [rf_ag0 (by unfold rf_B; omega) (by unfold rf_B; omega)]
    exact rf_sg_c (by omega) (by omega)
theorem rf_stn {N d : Int} (hd : 0 < d) (h : Int) : rf_sg (-rf_wb N d - 2 * h) = rf_sg (-N - 2 * h * d) := by
  have e := rf_sg_n (rf_st (N := N) hd (-h))
  have e1 : -(rf_wb N d - 2 * -h) = -rf_wb N d - 2 * h := by omega
  have e2 : 2 * -h * d = -(2 * h * d) := by rw [Int.mul_neg, Int.neg_mul]
  have e3 : -(N - 2 * -h * d) = -N - 2 * h * d := by
    rw [e2]
    omega
  rw [e1, e3] at e
  exact e
theorem rf_p2 (a b : Nat) : ((2 ^ (a + b) : Nat) : Int) = ((2 ^ a : Nat) : Int) * ((2 ^ b : Nat) : Int) := by
  rw [Nat.pow_add]
  exact Int.natCast_mul _ _
theorem rf_Ag_d {q x y : Int} {ka kb E1 E2 : Nat} (hE : E1 + kb = ka + 12 + E2)
    (hq : ∀ h, rf_sg (q - 2 * h) = rf_sg (x * ((2 ^ ka : Nat) : Int) * 16384 - 2 * h * (y * ((2 ^ kb : Nat) : Int))))
    (bt : (x * ((2 ^ E1 : Nat) : Int)).natAbs ≤ 2305843009213693952) (bl : (y * ((2 ^ E2 : Nat) : Int)).natAbs ≤ 67108864) :
    rf_Ag q (rf_l (x * ((2 ^ E1 : Nat) : Int))) (rf_l (y * ((2 ^ E2 : Nat) : Int))) 0 := by
  have b1 := Nat.two_pow_pos kb
  have b2 := Nat.two_pow_pos E2
  have e : ((2 ^ E1 : Nat) : Int) * ((2 ^ kb : Nat) : Int) = ((2 ^ ka : Nat) : Int) * 4096 * ((2 ^ E2 : Nat) : Int) := by
    rw [← rf_p2, hE, rf_p2, rf_p2]
    rfl
  refine rf_Ag_f (c1 := 2 * ((2 ^ kb : Nat) : Int)) (c2 := ((2 ^ E2 : Nat) : Int)) hq (by omega) (by omega) ?_ ?_ bt bl
  · generalize ((2 ^ E1 : Nat) : Int) = e1 at *
    generalize ((2 ^ E2 : Nat) : Int) = e2 at *
    generalize ((2 ^ ka : Nat) : Int) = a at *
    generalize ((2 ^ kb : Nat) : Int) = b at *
    have e' : 2 * b * (2 * (x * e1)) = 4 * (x * (e1 * b)) := by grind
    rw [e', e]
    grind
  · generalize ((2 ^ E2 : Nat) : Int) = e2 at *
    generalize ((2 ^ kb : Nat) : Int) = b at *
    grind
def rf_rq (f s : Int) : Int := if f * f = s then f else f + 1 - f % 2
theorem rf_Ag_r {n f : Int} {low : Int64} (hn : 0 ≤ n) (hn2 : n < 8589934592) (hf : 0 ≤ f) (hf2 : f < 33554432) (h1 : f * f ≤ n * 65536) (h2 : n * 65536 < (f + 1) * (f + 1)) :
    rf_Ag (rf_rq f (n * 65536)) (rf_l (n * 4096)) low 1 := by
  intro h a b
  rw [rf_ag1 (by omega) (by omega) (by unfold rf_B; omega)]
  have hq : 0 ≤ rf_rq f (n * 65536) ∧ rf_rq f (n * 65536) ≤ f + 1 := by
    unfold rf_rq
    split
    · omega
    · omega
  by_cases c1 : h < 0
  · rw [if_pos c1]
    unfold rf_sg
    rw [if_neg (by omega), if_pos (by omega)]
  · rw [if_neg c1]
    by_cases c2 : 1073741824 < h
    · rw [if_pos c2]
      unfold rf_sg
      rw [if_pos (by omega)]
    · rw [if_neg c2]
      have g1 : 2 * h ≤ f → 2 * h * (2 * h) ≤ f * f := fun z => Int.mul_self_le_mul_self (by omega) z
      have g2 : f + 1 ≤ 2 * h → (f + 1) * (f + 1) ≤ 2 * h * (2 * h) := fun z => Int.mul_self_le_mul_self (by omega) z
      have g3 : 2 * h < f → 2 * h * (2 * h) < f * f := fun z => Int.mul_self_lt_mul_self (by omega) z
      have g4 : f ≤ 2 * h → f * f ≤ 2 * h * (2 * h) := fun z => Int.mul_self_le_mul_self (by omega) z
      have g5 : f < 2 * h → f * f < 2 * h * (2 * h) := fun z => Int.mul_self_lt_mul_self (by omega) z
      have g6 : 2 * h * (2 * h) = 4 * (h * h) := by grind
      unfold rf_rq
      generalize (f + 1) * (f + 1) = Z at *
      generalize 2 * h * (2 * h) = W at *
      generalize f * f = Y at *
      generalize h * h = X at *
      by_cases c3 : Y = n * 65536
      · rw [if_pos c3]
        exact rf_sg_c (by omega) (by omega)
      · rw [if_neg c3]
        exact rf_sg_c (by omega) (by omega)
theorem rf_odd : ∀ (n : Nat) (x : Int), x.natAbs ≤ n → x ≠ 0 → ∃ (m : Int) (k : Nat), x = m * ((2 ^ k : Nat) : Int) ∧ m % 2 = 1 := by
  intro n
  induction n with
  | zero =>
    intro x h h0
    omega
  | succ n ih =>
    intro x h h0
    by_cases c : x % 2 = 1
    · exact ⟨x, 0, by rw [show ((2 ^ 0 : Nat) : Int) = 1 from rfl, Int.mul_one], c⟩
    · obtain ⟨m, k, e, hm⟩ := ih (x / 2) (by omega) (by omega)
      refine ⟨m, k + 1, ?_, hm⟩
      rw [rf_p2, ← Int.mul_assoc, ← e, show ((2 ^ 1 : Nat) : Int) = 2 from rfl]
      omega
def rf_MK (x m : Int) (k : Nat) : Prop := x = m * ((2 ^ k : Nat) : Int) ∧ (m % 2 = 1 ∨ (x = 0 ∧ m = 0 ∧ k = 12)) ∧ m.natAbs < 1024 ∧ k ≤ 32
theorem rf_MK_ex {p : Nat} {x : Int} (hp : p ≤ 10) (hx : rf_F p x) : ∃ (m : Int) (k : Nat), rf_MK x m k := by
  by_cases c : x = 0
  · exact ⟨0, 12, by rw [c, Int.zero_mul], Or.inr ⟨c, rfl, rfl⟩, by decide, by decide⟩
  · obtain ⟨m, k, e, hm⟩ := rf_odd _ x (Nat.le_refl _) c
    have hb := rf_F_le hx
    have hg := rf_Gr_lt hp
    have en : x.natAbs = m.natAbs * 2 ^ k := by
      rw [e, Int.natAbs_mul]
      rfl
    have hk := Nat.two_pow_pos k
    refine ⟨m, k, e, Or.inl hm, ?_, ?_⟩
    · obtain ⟨m0, e0, h1, h2, h3, h4⟩ := hx
      have a : 2 ^ p ≤ 2 ^ 10 := Nat.pow_le_pow_right (by decide) hp
      by_cases d : e0 ≤ k
      · obtain ⟨j, rfl⟩ : ∃ j, k = e0 + j := ⟨k - e0, by omega⟩
        have hj := Nat.two_pow_pos j
        have h5 : m.natAbs * 2 ^ j * 2 ^ e0 = m0 * 2 ^ e0 := by
          rw [← h4, en, Nat.pow_add, Nat.mul_assoc, Nat.mul_comm (2 ^ j)]
        have h6 := Nat.eq_of_mul_eq_mul_right (Nat.two_pow_pos e0) h5
        have h7 := Nat.le_mul_of_pos_right m.natAbs hj
        omega
      · obtain ⟨j, rfl⟩ : ∃ j, e0 = k + (j + 1) := ⟨e0 - k - 1, by omega⟩
        have h5 : m.natAbs * 2 ^ k = m0 * 2 ^ j * 2 * 2 ^ k := by
          rw [← en, h4, Nat.pow_add, Nat.pow_succ, Nat.mul_comm (2 ^ k), ← Nat.mul_assoc, ← Nat.mul_assoc]
        have h6 := Nat.eq_of_mul_eq_mul_right hk h5
        omega
    · have h7 : 1 * 2 ^ k ≤ m.natAbs * 2 ^ k := Nat.mul_le_mul_right _ (by omega)
      by_cases d : k ≤ 32
      · exact d
      · have h8 : 2 ^ 33 ≤ 2 ^ k := Nat.pow_le_pow_right (by decide) (by omega)
        omega
end
section
theorem rf_nI {y : Int32} {k : Nat} (h : y = nI k) : y = nI k := h
theorem rf_shlc (a : Int) (y : Int32) (k : Nat) (hk : k < 64) (hy : y = nI k) : rf_l a <<< (y.toInt64 &&& 63) = rf_l (a * ((2 ^ k : Nat) : Int)) := by
  rw [hy]
  exact rf_shl a hk
theorem rf_shrc {a : Int} (ha : rf_B a) (y : Int32) (k : Nat) (hk : k < 64) (hy : y = nI k) : rf_l a >>> (y.toInt64 &&& 63) = rf_l (a / ((2 ^ k : Nat) : Int)) := by
  rw [hy]
  exact rf_shr ha hk
theorem rf_shlN (n : Nat) (y : Int32) (k : Nat) (hk : k < 64) (hy : y = nI k) : rf_l (n : Int) <<< (y.toInt64 &&& 63) = rf_l ((n * 2 ^ k : Nat) : Int) := by
  rw [rf_shlc _ y k hk hy, Int.natCast_mul]
theorem rf_BN {n : Nat} (h : n < 9223372036854775808) : rf_B (n : Int) := by
  unfold rf_B
  omega
theorem rf_shrN {n : Nat} (h : n < 9223372036854775808) (y : Int32) (k : Nat) (hk : k < 64) (hy : y = nI k) : rf_l (n : Int) >>> (y.toInt64 &&& 63) = rf_l ((n / 2 ^ k : Nat) : Int) := by
  rw [rf_shrc (rf_BN h) y k hk hy, Int.natCast_ediv]
theorem rf_gq (s p t : Nat) : s / 2 ^ (t + 2) / 2 ^ p = 0 ↔ s < 2 ^ (p + t + 2) := by
  rw [Nat.div_div_eq_div_mul, ← Nat.pow_add, Nat.div_eq_zero_iff_lt (Nat.two_pow_pos _), show t + 2 + p = p + t + 2 by omega]
theorem rf_gN {n : Nat} {k : Nat} (hn : n < 1024) (hk : k ≤ 25) : n * 2 ^ k < 34359738368 := by
  have h : n * 2 ^ k ≤ 1023 * 2 ^ 25 := Nat.mul_le_mul (by omega) (Nat.pow_le_pow_right (by decide) hk)
  omega
theorem rf_q4 (n t : Nat) : n * 2 ^ (t + 2) / 2 ^ 2 = n * 2 ^ t := by
  rw [rf_t4, Nat.mul_left_comm]
  omega
theorem rf_sat1 {m : Int} {k : Nat} (hm : m ≠ 0) (h : 55 ≤ k) : 36028797018963968 ≤ (m * ((2 ^ k : Nat) : Int)).natAbs := by
  have h1 : 2 ^ 55 ≤ 2 ^ k := Nat.pow_le_pow_right (by decide) h
  have h2 : 1 * 2 ^ k ≤ m.natAbs * 2 ^ k := Nat.mul_le_mul_right _ (by omega)
  have h3 : (m * ((2 ^ k : Nat) : Int)).natAbs = m.natAbs * 2 ^ k := by
    rw [Int.natAbs_mul]
    rfl
  omega
theorem rf_sat2 {m : Int} {k : Nat} (h : k ≤ 55) : 2 ^ (55 - k) ≤ m.natAbs ↔ 36028797018963968 ≤ (m * ((2 ^ k : Nat) : Int)).natAbs := by
  have h3 : (m * ((2 ^ k : Nat) : Int)).natAbs = m.natAbs * 2 ^ k := by
    rw [Int.natAbs_mul]
    rfl
  have h4 : 2 ^ (55 - k) * 2 ^ k = 36028797018963968 := by
    rw [← Nat.pow_add, show 55 - k + k = 55 by omega]
  rw [h3, ← h4]
  exact (Nat.mul_le_mul_right_iff (Nat.two_pow_pos k)).symm
theorem rf_sat3 {m : Int} {k : Nat} (hm : m.natAbs ≤ 1048576) (h : k ≤ 24) : (m * ((2 ^ k : Nat) : Int)).natAbs < 36028797018963968 := by
  have := rf_pb hm h
  omega
theorem rf_sgn {m : Int} (k : Nat) : (m * ((2 ^ k : Nat) : Int) < 0 ↔ m < 0) ∧ (0 < m * ((2 ^ k : Nat) : Int) ↔ 0 < m) := by
  have hk := Nat.two_pow_pos k
  have hc : (0 : Int) < ((2 ^ k : Nat) : Int) := by omega
  have := rf_sg_i (rf_sg_m (c := ((2 ^ k : Nat) : Int)) (z := m) hc)
  rw [Int.mul_comm m]
  exact this
theorem rf_ed {m : Int} {k j : Nat} (h : j ≤ k) : m * ((2 ^ k : Nat) : Int) / ((2 ^ j : Nat) : Int) = m * ((2 ^ (k - j) : Nat) : Int) := by
  have hj := Nat.two_pow_pos j
  have e : ((2 ^ k : Nat) : Int) = ((2 ^ (k - j) : Nat) : Int) * ((2 ^ j : Nat) : Int) := by
    rw [← rf_p2, show k - j + j = k by omega]
  rw [e, ← Int.mul_assoc]
  exact Int.mul_ediv_cancel _ (by omega)
theorem rf_ev (m : Int) (i : Nat) : m * ((2 ^ (i + 1) : Nat) : Int) = m * ((2 ^ i : Nat) : Int) * 2 := by
  rw [rf_p2, ← Int.mul_assoc]
  rfl
def rf_RI (s j f : Nat) : Prop := (∃ c, f = c * 2 ^ j) ∧ f * f ≤ s ∧ s < (f + 2 ^ j) * (f + 2 ^ j)
theorem rf_RI_t {s j f : Nat} (h : rf_RI s (j + 1) f) (h2 : (f + 2 ^ j) * (f + 2 ^ j) ≤ s) : rf_RI s j (f + 2 ^ j) := by
  obtain ⟨⟨c, e⟩, h3, h4⟩ := h
  have e2 : f + 2 ^ (j + 1) = f + 2 ^ j + 2 ^ j := by
    rw [Nat.pow_succ]
    omega
  rw [e2] at h4
  refine ⟨⟨2 * c + 1, ?_⟩, h2, h4⟩
  rw [e, Nat.pow_succ, Nat.add_mul, Nat.one_mul, Nat.mul_comm 2 c, Nat.mul_assoc, Nat.mul_comm (2 ^ j) 2]
theorem rf_RI_f {s j f : Nat} (h : rf_RI s (j + 1) f) (h2 : s < (f + 2 ^ j) * (f + 2 ^ j)) : rf_RI s j f := by
  obtain ⟨⟨c, e⟩, h3, h4⟩ := h
  refine ⟨⟨2 * c, ?_⟩, h3, h2⟩
  rw [e, Nat.pow_succ, Nat.mul_comm 2 c, Nat.mul_assoc, Nat.mul_comm (2 ^ j) 2]
theorem rf_RI_b {s j f : Nat} (h : rf_RI s j f) (hs : s < 1125899906842624) : f < 33554432 := by
  by_cases c : f < 33554432
  · exact c
  · have := Nat.mul_le_mul (show 33554432 ≤ f by omega) (show 33554432 ≤ f by omega)
    have := h.2.1
    omega
theorem rf_or_f {j f : Nat} (h : ∃ c, f = c * 2 ^ (j + 1)) (hf : f < 33554432) (hj : j ≤ 24) : rf_l (f : Int) ||| rf_l ((2 ^ j : Nat) : Int) = rf_l ((f + 2 ^ j : Nat) : Int) := by
  obtain ⟨c, rfl⟩ := h
  have b : 2 ^ j ≤ 2 ^ 24 := Nat.pow_le_pow_right (by decide) hj
  have l : 2 ^ j < 2 ^ (j + 1) := Nat.pow_lt_pow_right (by decide) (by omega)
  rw [← rf_lN, ← rf_lN, ← rf_lN]
  exact g_or rfl l (by omega)
end
section
theorem rf_b0 : rf_B 0 := by
  unfold rf_B
  omega
theorem rf_Bn {z : Int} (h : z.natAbs < 9223372036854775808) : rf_B z := by
  unfold rf_B
  omega
theorem rf_xsize {post : Int64 → Prop} {z : Int} (hz : z.natAbs < 9223372036854775808) (h : post (rf_l (z.natAbs : Int))) : wpX_sizeOf post (rf_l z) := by
  unfold wpX_sizeOf
  rw [rf_0, rf_le rf_b0 (rf_Bn hz)]
  refine br_c (fun c => ?_) (fun c => ?_)
  · have e : (z.natAbs : Int) = z := by omega
    rw [e] at h
    exact h
  · have e : (z.natAbs : Int) = -z := by omega
    rw [e] at h
    rw [rf_neg]
    exact h
def rf_R (r : Int32) : Prop := ∃ j : Nat, j < 4 ∧ r = nI j
theorem rf_R4 {r : Int32} (c : ¬ r < 0) (d : ¬ (4 : Int32) ≤ r) : rf_R r := by
  obtain ⟨j, hj, rfl⟩ := nI_of c
  refine ⟨j, ?_, rfl⟩
  by_cases h : j < 4
  · exact h
  · exact absurd (nI_le (a := 4) (b := j) (by omega) hj) d
theorem rf_xreg1 {post : Int32 → Prop} {j : Nat} (hj : j < 4) (h : post 1) : wpX_isRegister post (nI j) :=
  br_f (nI_pos (by omega)) (br_f (nI_ge (b := 4) hj (by decide)) h)
theorem rf_xreg0 {post : Int32 → Prop} {r : Int32} (hr : ¬ rf_R r) (h : post 0) : wpX_isRegister post r :=
  br_c (fun _ => h) (fun c => br_c (fun _ => h) (fun d => absurd (rf_R4 c d) hr))
theorem rf_xars1 {post : Int32 → Prop} {i j k : Nat} (hi : i < 4) (hj : j < 4) (hk : k < 4) (h : post 1) : wpX_areRegisters post (nI i) (nI j) (nI k) := by
  unfold wpX_areRegisters
  exact rf_xreg1 hi (br_f rf_ne01 (rf_xreg1 hj (br_f rf_ne01 (rf_xreg1 hk (br_f rf_ne01 h)))))
theorem rf_xars0 {post : Int32 → Prop} {r s t : Int32} (hr : ¬ (rf_R r ∧ rf_R s ∧ rf_R t)) (h : post 0) : wpX_areRegisters post r s t := by
  unfold wpX_areRegisters
  by_cases c1 : rf_R r
  · by_cases c2 : rf_R s
    · by_cases c3 : rf_R t
      · exact absurd ⟨c1, c2, c3⟩ hr
      · obtain ⟨i, hi, rfl⟩ := c1
        obtain ⟨j, hj, rfl⟩ := c2
        exact rf_xreg1 hi (br_f rf_ne01 (rf_xreg1 hj (br_f rf_ne01 (rf_xreg0 c3 (br_t rfl h)))))
    · obtain ⟨i, hi, rfl⟩ := c1
      exact rf_xreg1 hi (br_f rf_ne01 (rf_xreg0 c2 (br_t rfl h)))
  · exact rf_xreg0 c1 (br_t rfl h)
theorem rf_xwb {post : Int64 → Prop} {N : Int} (hN : N.natAbs ≤ 4611686018427387904) (y : Int32) (k : Nat) (hk : k ≤ 20) (hy : y = nI k) (h : post (rf_l (rf_wb N ((2 ^ k : Nat) : Int)))) : wpX_withoutBits post (rf_l N) y := by
  unfold wpX_withoutBits
  have hd := Nat.two_pow_pos k
  have hd2 : 2 ^ k ≤ 2 ^ 20 := Nat.pow_le_pow_right (by decide) hk
  have e1 := Int.ediv_mul_add_emod N ((2 ^ k : Nat) : Int)
  have e2 := Int.emod_nonneg N (b := ((2 ^ k : Nat) : Int)) (by omega)
  have e3 := Int.emod_lt_of_pos N (b := ((2 ^ k : Nat) : Int)) (by omega)
  refine nm_r (rf_shrc (rf_Bn (by omega)) y k (by omega) hy) ?_
  rw [rf_shlc _ y k (by omega) hy, rf_or1, rf_eq (by unfold rf_B; omega) (rf_Bn (by omega))]
  unfold rf_wb at h
  refine br_c (fun c => ?_) (fun c => ?_)
  · rw [if_pos c] at h
    exact h
  · rw [if_neg c] at h
    exact h
theorem rf_xbey {post : Int32 → Prop} {p : Nat} {md fl : Int32} {a : Nat → Int64} {q : Int} (hp : p ≤ 10) (hq : q.natAbs < 4611686018427387904) (h0 : q.natAbs ≤ 4 * rf_Gr p → post 0) (h1 : 4 * rf_Gr p < q.natAbs → post 1) :
    wpX_isBeyond post (nI p, rf_l (rf_Gr p : Int), md, fl, a) (rf_l q) := by
  unfold wpX_isBeyond
  dsimp only
  have hg := rf_Gr_lt hp
  refine rf_xsize (by omega) ?_
  rw [rf_shlN _ 2 2 (by decide) rfl, rf_le (rf_BN (by omega)) (rf_BN (by omega))]
  exact br_c (fun c => h0 (by omega)) (fun c => h1 (by omega))
theorem rf_xgap5 {post : Int32 → Prop} {p s : Nat} {G : Int64} {md fl : Int32} {a : Nat → Int64} (hp : p ≤ 10) (hs : s < 2 ^ (p + 25)) (hb : s < 4611686018427387904)
    (h : ∀ t, t ≤ 23 → s < 2 ^ (p + t + 2) → (0 < t → 2 ^ (p + t + 1) ≤ s) → post (nI (t + 2))) :
    ∀ d t, t + d = 23 → (0 < t → 2 ^ (p + t + 1) ≤ s) → wX_gapBitsAt_5 post (rf_l (s : Int)) (nI p) G md fl a (d + 1) (nI (t + 2)) (nI t) := by
  intro d
  induction d with
  | zero =>
    intro t ht hl
    have e : t = 23 := by omega
    subst e
    exact br_t (nI_le (a := 23) (b := 23) (by omega) (by omega)) (h 23 (by omega) hs hl)
  | succ d ih =>
    intro t ht hl
    have h23 : ¬ (23 : Int32) ≤ nI t := nI_ge (a := t) (b := 23) (by omega) (by omega)
    have d1 : s / 2 ^ (t + 2) ≤ s := Nat.div_le_self _ _
    have d2 : s / 2 ^ (t + 2) / 2 ^ p ≤ s / 2 ^ (t + 2) := Nat.div_le_self _ _
    have e : (rf_l (s : Int) >>> ((nI (t + 2)).toInt64 &&& 63)) >>> ((nI p).toInt64 &&& 63) = rf_l ((s / 2 ^ (t + 2) / 2 ^ p : Nat) : Int) := by
      rw [rf_shrN (by omega) _ (t + 2) (by omega) rfl, rf_shrN (by omega) _ p (by omega) rfl]
    have cnd : (rf_l (s : Int) >>> ((nI (t + 2)).toInt64 &&& 63)) >>> ((nI p).toInt64 &&& 63) = 0 ↔ s < 2 ^ (p + t + 2) := by
      rw [e, rf_0, rf_eq (rf_BN (by omega)) rf_b0, ← rf_gq]
      omega
    by_cases c : s < 2 ^ (p + t + 2)
    · exact br_f h23 (br_t (cnd.2 c) (h t (by omega) c hl))
    · exact br_f h23 (br_f (fun z => c (cnd.1 z)) (nm_r (nI_1 _) (nm_r (nI_1 _) (ih (t + 1) (by omega) (fun _ => by
        rw [show p + (t + 1) + 1 = p + t + 2 by omega]
        omega)))))
theorem rf_xgap {post : Int32 → Prop} {p s : Nat} {G : Int64} {md fl : Int32} {a : Nat → Int64} (hp : p ≤ 10) (hs : s < 2 ^ (p + 25)) (hb : s < 4611686018427387904)
    (h : ∀ t, t ≤ 23 → s < 2 ^ (p + t + 2) → (0 < t → 2 ^ (p + t + 1) ≤ s) → post (nI (t + 2))) : wpX_gapBitsAt post (nI p, G, md, fl, a) (rf_l (s : Int)) := by
  unfold wpX_gapBitsAt
  dsimp only
  exact ⟨24, rf_xgap5 hp hs hb h 23 0 rfl (by omega)⟩
theorem rf_xgo {post : Int32 → Prop} {how neg M R G : Nat} (hn : neg = 0 ∨ neg = 1) (hh : how < 4) (hR : R < 2305843009213693952) (hG : G < 2305843009213693952)
    (h1 : rf_go how neg M R G → post 1) (h0 : ¬ rf_go how neg M R G → post 0) : wpX_goesOutward post (nI neg) (rf_l (M : Int)) (rf_l (R : Int)) (rf_l (G : Int)) (nI how) := by
  unfold wpX_goesOutward
  unfold rf_go at h1 h0
  have hs : how = 0 ∨ how = 1 ∨ how = 2 ∨ how = 3 := by omega
  rcases hs with rfl | rfl | rfl | rfl
  · refine br_f (by decide) (br_f (by decide) (br_f (by decide) ?_))
    rw [rf_add, rf_and1, rf_0, rf_eq (a := (R : Int) + R) (rf_Bn (by omega)) (rf_BN (by omega)), rf_le (rf_Bn (by omega)) (rf_BN (by omega)), rf_eq (a := (M : Int) % 2) (rf_Bn (by omega)) rf_b0]
    exact br_c (fun c => br_c (fun d => h0 (by omega)) (fun d => h1 (by omega))) (fun c => br_c (fun d => h0 (by omega)) (fun d => h1 (by omega)))
  · rcases hn with rfl | rfl
    · exact br_t rfl ⟨rfl, h0 (by omega)⟩
    · exact br_t rfl ⟨rfl, h1 (by omega)⟩
  · rcases hn with rfl | rfl
    · exact br_f (by decide) (br_t rfl (br_t rfl (h1 (by omega))))
    · exact br_f (by decide) (br_t rfl (br_f (by decide) (h0 (by omega))))
  · exact br_f (by decide) (br_f (by decide) (br_t rfl (h0 (by omega))))
theorem rf_xr100 {post : Int64 → Prop} {n t neg : Nat} {D : Int32} {G : Int64} {md fl : Int32} {a : Nat → Int64} (hn : n ≤ 1024) (ht : t ≤ 23) (hneg : neg = 0 ∨ neg = 1)
    (h0 : neg = 0 → post (rf_l ((n * 2 ^ t : Nat) : Int))) (h1 : neg = 1 → post (rf_l (-((n * 2 ^ t : Nat) : Int)))) : wX_rounded_100 post (nI neg) (nI (t + 2)) (rf_l (n : Int)) D G md fl a := by
  unfold wX_rounded_100
  have b : n * 2 ^ (t + 2) ≤ 1024 * 2 ^ 25 := Nat.mul_le_mul hn (Nat.pow_le_pow_right (by decide) (by omega))
  refine nm_r (e' := rf_l ((n * 2 ^ t : Nat) : Int)) ?_ ?_
  · rw [rf_shlN _ _ (t + 2) (by omega) rfl, rf_shrN (by omega) 2 2 (by decide) rfl, rf_q4]
  · rcases hneg with rfl | rfl
    · exact br_t rfl (h0 rfl)
    · rw [rf_neg]
      exact br_f (by decide) (h1 rfl)
theorem rf_xr11 {post : Int64 → Prop} {p how neg : Nat} {md fl : Int32} {a : Nat → Int64} {q : Int} (hp1 : 2 ≤ p) (hp : p ≤ 10) (hh : how < 4) (hq : q.natAbs < 4611686018427387904)
    (hneg : (q < 0 ∧ neg = 1) ∨ (0 ≤ q ∧ neg = 0))
    (hi : 4 * (rf_Gr p : Int) < q → post (rf_l (rf_Gr p : Int))) (lo : q < -(4 * (rf_Gr p : Int)) → post (rf_l (-(rf_Gr p : Int))))
    (ok : q.natAbs ≤ 4 * rf_Gr p → ∀ r, (∃ u o, rf_Un p q u ∧ rf_Ov p q o ∧ ((u = o ∧ r = u ∧ 4 * r = q) ∨ (u ≠ o ∧ r = rf_ch how q u o ∧ 4 * r ≠ q))) → post (rf_l r)) :
    wX_rounded_11 post (rf_l q) (nI how) (nI neg) (nI p) (rf_l (rf_Gr p : Int)) md fl a := by
  unfold wX_rounded_11
  refine rf_xbey hp hq (fun c => br_t rfl ?_) (fun c => br_f rf_ne01 ?_)
  · have hg : q.natAbs ≤ (2 ^ p - 1) * 2 ^ 25 := by
      unfold rf_Gr at c
      omega
    have hP := Nat.two_pow_pos p
    have hs25 : q.natAbs < 2 ^ (p + 25) := by
      rw [Nat.pow_add]
      omega
    refine rf_xsize (by omega) ?_
    refine rf_xgap hp hs25 hq (fun t ht hs hlo => ?_)
    have e1 := Nat.div_add_mod' q.natAbs (2 ^ (t + 2))
    have e2 := Nat.mod_lt q.natAbs (Nat.two_pow_pos (t + 2))
    have e3 : q.natAbs / 2 ^ (t + 2) * 2 ^ (t + 2) = 4 * (q.natAbs / 2 ^ (t + 2) * 2 ^ t) := by
      rw [rf_t4]
      exact Nat.mul_left_comm _ _ _
    have e4 : (q.natAbs / 2 ^ (t + 2) + 1) * 2 ^ t = q.natAbs / 2 ^ (t + 2) * 2 ^ t + 2 ^ t := by rw [Nat.add_mul, Nat.one_mul]
    have hM := rf_A0 hs
    have hP2 : 2 ^ p ≤ 2 ^ 10 := Nat.pow_le_pow_right (by decide) hp
    have hT2 : 2 ^ (t + 2) ≤ 2 ^ 25 := Nat.pow_le_pow_right (by decide) (by omega)
    obtain ⟨P1, P2, P3⟩ := rf_ps (by omega) ht hs hlo hg
    rw [e4] at P3
    refine nm_r (rf_shrN (by omega) _ (t + 2) (by omega) rfl) ?_
    refine nm_r (e' := rf_l ((q.natAbs % 2 ^ (t + 2) : Nat) : Int)) ?_ ?_
    · rw [rf_shlN _ _ (t + 2) (by omega) rfl, rf_sub]
      congr 1
      omega
    · have key : ∀ n, (q.natAbs % 2 ^ (t + 2) ≠ 0 ∧ rf_go how neg (q.natAbs / 2 ^ (t + 2)) (q.natAbs % 2 ^ (t + 2)) (4 * 2 ^ t) ∧ n = q.natAbs / 2 ^ (t + 2) + 1) ∨ ((q.natAbs % 2 ^ (t + 2) = 0 ∨ ¬ rf_go how neg (q.natAbs / 2 ^ (t + 2)) (q.natAbs % 2 ^ (t + 2)) (4 * 2 ^ t)) ∧ n = q.natAbs / 2 ^ (t + 2)) →
          wX_rounded_100 post (nI neg) (nI (t + 2)) (rf_l (n : Int)) (nI p) (rf_l (rf_Gr p : Int)) md fl a := by
        intro n hn
        have hT := Nat.two_pow_pos t
        have e5 := rf_t4 t
        refine rf_xr100 (by omega) ht (by omega) (fun z => ?_) (fun z => ?_)
        · exact ok c _ (rf_xok hT (by omega) (by omega) hh P1 P2 P3 hneg hn (Or.inr ⟨by omega, rfl⟩))
        · exact ok c _ (rf_xok hT (by omega) (by omega) hh P1 P2 P3 hneg hn (Or.inl ⟨by omega, rfl⟩))
      by_cases cR : q.natAbs % 2 ^ (t + 2) = 0
      · refine br_t ?_ (key _ (Or.inr ⟨Or.inl cR, rfl⟩))
        rw [cR]
        rfl
      · refine br_f ?_ ?_
        · rw [rf_0, rf_eq (rf_BN (by omega)) rf_b0]
          omega
        · have e6 : (1 : Int64) <<< ((nI (t + 2)).toInt64 &&& 63) = rf_l ((4 * 2 ^ t : Nat) : Int) := by
            rw [rf_1, rf_shlc _ _ (t + 2) (by omega) rfl, Int.one_mul, rf_t4]
          rw [e6]
          have e5 := rf_t4 t
          refine rf_xgo (by omega) hh (by omega) (by omega) (fun g => br_f rf_ne01 ?_) (fun g => br_t rfl (key _ (Or.inr ⟨Or.inr g, rfl⟩)))
          refine nm_r (e' := rf_l ((q.natAbs / 2 ^ (t + 2) + 1 : Nat) : Int)) ?_ (key _ (Or.inl ⟨cR, g, rfl⟩))
          rw [rf_1, rf_add]
          rfl
  · rcases hneg with ⟨c2, rfl⟩ | ⟨c2, rfl⟩
    · rw [rf_neg]
      exact br_f (by decide) (lo (by omega))
    · exact br_t rfl (hi (by omega))
theorem rf_xrnd {post : Int64 → Prop} {p how : Nat} {md fl : Int32} {a : Nat → Int64} {q : Int} (hp1 : 2 ≤ p) (hp : p ≤ 10) (hh : how < 4) (hq : q.natAbs < 4611686018427387904)
    (hi : 4 * (rf_Gr p : Int) < q → post (rf_l (rf_Gr p : Int))) (lo : q < -(4 * (rf_Gr p : Int)) → post (rf_l (-(rf_Gr p : Int))))
    (ok : q.natAbs ≤ 4 * rf_Gr p → ∀ r, (∃ u o, rf_Un p q u ∧ rf_Ov p q o ∧ ((u = o ∧ r = u ∧ 4 * r = q) ∨ (u ≠ o ∧ r = rf_ch how q u o ∧ 4 * r ≠ q))) → post (rf_l r)) :
    wpX_rounded post (nI p, rf_l (rf_Gr p : Int), md, fl, a) (rf_l q) (nI how) := by
  unfold wpX_rounded
  dsimp only
  rw [rf_0, rf_le rf_b0 (rf_Bn (by omega))]
  exact br_c (fun c => rf_xr11 (neg := 0) hp1 hp hh hq (Or.inr ⟨c, rfl⟩) hi lo ok) (fun c => rf_xr11 (neg := 1) hp1 hp hh hq (Or.inl ⟨by omega, rfl⟩) hi lo ok)
theorem rf_xp43 {post : Int32 → SX → Prop} {i : Nat} {D : Int32} {G r : Int64} {md fl f : Int32} {a : Nat → Int64} (hi : i < 4) (h : post f (D, G, md, fl ||| f, vp_updL a i r)) : wX_putRounded_43 post (nI i) r f D G md fl a := by
  unfold wX_putRounded_43
  refine ⟨vp_in_nI hi (by omega), nm_e (nm_e ?_)⟩
  rw [nI_clamp (by omega)]
  exact h
theorem rf_xput {post : Int32 → SX → Prop} {p how i : Nat} {fl : Int32} {a : Nat → Int64} {q : Int} (hp1 : 2 ≤ p) (hp : p ≤ 10) (hh : how < 4) (hi : i < 4) (hq : q.natAbs < 4611686018427387904)
    (h : ∀ r f, rf_Out p how q r f → post (nI f) (nI p, rf_l (rf_Gr p : Int), nI how, fl ||| nI f, vp_updL a i (rf_l r))) :
    wpX_putRounded post (nI p, rf_l (rf_Gr p : Int), nI how, fl, a) (nI i) (rf_l q) := by
  unfold wpX_putRounded
  dsimp only
  have hg := rf_Gr_lt hp
  have n1 : (0 : Int32) ||| 1 = nI 1 := by decide
  have n3 : nI 1 ||| 2 = nI 3 := by decide
  refine rf_xrnd hp1 hp hh hq (fun c => ?_) (fun c => ?_) (fun c r hr => ?_)
  · rw [rf_shlc _ 2 2 (by decide) rfl, rf_eq (rf_Bn (by omega)) (rf_Bn (by omega))]
    refine br_f (by omega) (nm_r n1 ?_)
    unfold wX_putRounded_29
    refine rf_xbey hp hq (fun z => by omega) (fun z => br_f rf_ne01 (nm_r n3 ?_))
    exact rf_xp43 hi (h _ 3 (rf_Out_hi (by omega) c))
  · rw [rf_shlc _ 2 2 (by decide) rfl, rf_eq (rf_Bn (by omega)) (rf_Bn (by omega))]
    refine br_f (by omega) (nm_r n1 ?_)
    unfold wX_putRounded_29
    refine rf_xbey hp hq (fun z => by omega) (fun z => br_f rf_ne01 (nm_r n3 ?_))
    exact rf_xp43 hi (h _ 3 (rf_Out_lo (by omega) c))
  · have hO := rf_Out_x hr
    have hb : r.natAbs ≤ rf_Gr p := by
      obtain ⟨u, o, hu, ho, ⟨a1, b1, c1⟩ | ⟨a1, b1, c1⟩⟩ := hr
      · rw [b1]
        exact rf_F_le hu.1
      · rcases rf_ch_or how q u o with e | e
        · rw [b1, e]
          exact rf_F_le hu.1
        · rw [b1, e]
          exact rf_F_le ho.1
    rw [rf_shlc _ 2 2 (by decide) rfl, rf_eq (rf_Bn (by omega)) (rf_Bn (by omega))]
    by_cases d : 4 * r = q
    · refine br_t (by omega) ?_
      unfold wX_putRounded_29
      refine rf_xbey hp hq (fun z => br_t rfl ?_) (fun z => by omega)
      exact rf_xp43 hi (h r 0 (hO.1 d))
    · refine br_f (by omega) (nm_r n1 ?_)
      unfold wX_putRounded_29
      refine rf_xbey hp hq (fun z => br_t rfl ?_) (fun z => by omega)
      exact rf_xp43 hi (h r 1 (hO.2 d))
end
section
theorem rf_yag {post : Int32 → Prop} {b w fl sq hu ho : Int32} {r0 r1 r2 r3 top low un ov x : Int64} (h : post (rf_ag top low sq x)) :
    wpY_against post (b, w, fl, r0, r1, r2, r3, top, low, sq, un, ov, hu, ho) x := by
  unfold wpY_against
  dsimp only
  unfold rf_ag at h
  by_cases c : sq = 0
  · rw [if_pos c] at h
    refine br_t c (nm_e (nm_e (br_c (fun d => br_c (fun e => ?_) (fun e => ?_)) (fun d => ?_))))
    · rw [if_neg (Int64.not_lt.mpr d), if_neg (Int64.not_lt.mpr e)] at h
      exact h
    · rw [if_neg (Int64.not_lt.mpr d), if_pos (Int64.not_le.mp e)] at h
      exact h
    · rw [if_pos (Int64.not_le.mp d)] at h
      exact h
  · rw [if_neg c] at h
    refine br_f c (nm_e (br_c (fun d => ?_) (fun d => br_c (fun e => br_c (fun g => br_c (fun k => ?_) (fun k => ?_)) (fun g => ?_)) (fun e => ?_))))
    · rw [if_pos d] at h
      exact br_f (Int64.not_le.mpr d) h
    · rw [if_neg d, if_neg (Int64.not_lt.mpr e), if_neg (Int64.not_lt.mpr g), if_neg (Int64.not_lt.mpr k)] at h
      exact h
    · rw [if_neg d, if_neg (Int64.not_lt.mpr e), if_neg (Int64.not_lt.mpr g), if_pos (Int64.not_le.mp k)] at h
      exact h
    · rw [if_neg d, if_neg (Int64.not_lt.mpr e), if_pos (Int64.not_le.mp g)] at h
      exact h
    · rw [if_neg d, if_pos (Int64.not_le.mp e)] at h
      exact br_t (Int64.not_lt.mp d) h
theorem rf_sgl (z : Int) : (rf_sg z < 0 ↔ z < 0) ∧ (0 < rf_sg z ↔ 0 < z) ∧ (rf_sg z = 0 ↔ z = 0) := by
  unfold rf_sg
  have d1 : (-1 : Int32) < 0 := by decide
  have d2 : ¬ (0 : Int32) < -1 := by decide
  have d3 : ¬ (-1 : Int32) = 0 := by decide
  have d4 : ¬ (1 : Int32) < 0 := by decide
  have d5 : (0 : Int32) < 1 := by decide
  have d6 : ¬ (1 : Int32) = 0 := by decide
  have d7 : ¬ (0 : Int32) < 0 := by decide
  by_cases c : z < 0
  · rw [if_pos c]
    exact ⟨⟨fun _ => c, fun _ => d1⟩, ⟨fun z => absurd z d2, fun _ => by omega⟩, ⟨fun z => absurd z d3, fun _ => by omega⟩⟩
  · rw [if_neg c]
    by_cases e : 0 < z
    · rw [if_pos e]
      exact ⟨⟨fun z => absurd z d4, fun _ => by omega⟩, ⟨fun _ => e, fun _ => d5⟩, ⟨fun z => absurd z d6, fun _ => by omega⟩⟩
    · rw [if_neg e]
      exact ⟨⟨fun z => absurd z d7, fun _ => by omega⟩, ⟨fun z => absurd z d7, fun _ => by omega⟩, ⟨fun _ => by omega, fun _ => rfl⟩⟩
theorem rf_yl40 {post : SY → Prop} {b w fl sq hu ho : Int32} {r0 r1 r2 r3 top low un ov : Int64} {q x : Int} {S S' : Int → Prop}
    (e : ∀ y, S' y ↔ S y ∨ y = x) (hx : rf_B x) (hS : ∀ z, S z → rf_B z) (hU : rf_IU q S' hu un) (hO : rf_IO q S ho ov)
    (h : ∀ un' ov' hu' ho', rf_IU q S' hu' un' → rf_IO q S' ho' ov' → post (b, w, fl, r0, r1, r2, r3, top, low, sq, un', ov', hu', ho')) :
    wY_look_40 post (rf_l x) (rf_sg (q - 4 * x)) b w fl r0 r1 r2 r3 top low sq un ov hu ho := by
  unfold wY_look_40
  have s := rf_sgl (q - 4 * x)
  refine br_c (fun c => ?_) (fun c => br_c (fun d => ?_) (fun d => br_c (fun g => ?_) (fun g => ?_)))
  · have c' := s.2.1.1 c
    exact h _ _ _ _ hU (rf_IO_keep e hO (Or.inl (by omega)))
  · have c' : ¬ 0 < q - 4 * x := fun z => c (s.2.1.2 z)
    exact h _ _ _ _ hU (rf_IO_set e hO (by omega) (Or.inl d))
  · refine h _ _ _ _ hU (rf_IO_keep e hO (Or.inr ⟨d, fun z hz hSz => ?_⟩))
    rw [hz, rf_le (hS z hSz) hx] at g
    exact g
  · have c' : ¬ 0 < q - 4 * x := fun z => c (s.2.1.2 z)
    refine h _ _ _ _ hU (rf_IO_set e hO (by omega) (Or.inr fun z hz hSz => ?_))
    rw [hz, rf_le (hS z hSz) hx] at g
    omega
theorem rf_ylook {post : SY → Prop} {b w fl sq hu ho : Int32} {r0 r1 r2 r3 top low un ov : Int64} {q x : Int} {S S' : Int → Prop}
    (e : ∀ y, S' y ↔ S y ∨ y = x) (hx1 : -17179869184 ≤ x) (hx2 : x ≤ 17179869184) (hS : ∀ z, S z → rf_B z) (A : rf_Ag2 q top low sq) (hU : rf_IU q S hu un) (hO : rf_IO q S ho ov)
    (h : ∀ un' ov' hu' ho', rf_IU q S' hu' un' → rf_IO q S' ho' ov' → post (b, w, fl, r0, r1, r2, r3, top, low, sq, un', ov', hu', ho')) :
    wpY_look post (b, w, fl, r0, r1, r2, r3, top, low, sq, un, ov, hu, ho) (rf_l x) := by
  unfold wpY_look
  dsimp only
  have hx : rf_B x := by
    unfold rf_B
    omega
  have e2 : 2 * rf_l x = rf_l (2 * x) := by rw [rf_2, rf_mul]
  rw [e2]
  refine rf_yag ?_
  rw [A x hx1 hx2]
  have s := rf_sgl (q - 4 * x)
  refine br_c (fun c => ?_) (fun c => br_c (fun d => ?_) (fun d => br_c (fun g => ?_) (fun g => ?_)))
  · have c' := s.1.1 c
    exact rf_yl40 e hx hS (rf_IU_keep e hU (Or.inl (by omega))) hO h
  · have c' : ¬ q - 4 * x < 0 := fun z => c (s.1.2 z)
    exact rf_yl40 e hx hS (rf_IU_set e hU (by omega) (Or.inl d)) hO h
  · refine rf_yl40 e hx hS (rf_IU_keep e hU (Or.inr ⟨d, fun z hz hSz => ?_⟩)) hO h
    rw [hz, rf_le hx (hS z hSz)] at g
    exact g
  · have c' : ¬ q - 4 * x < 0 := fun z => c (s.1.2 z)
    refine rf_yl40 e hx hS (rf_IU_set e hU (by omega) (Or.inr fun z hz hSz => ?_)) hO h
    rw [hz, rf_le hx (hS z hSz)] at g
    omega
theorem rf_sh1 : ∀ p, p < 11 → (1 : Int32) <<< (nI p &&& 31) = nI (2 ^ p) := by decide +kernel
theorem rf_sh2 : ∀ p, p < 11 → 1 ≤ p → (1 : Int32) <<< ((nI p - 1) &&& 31) = nI (2 ^ (p - 1)) := by decide +kernel
theorem rf_ys35 {post : SY → Prop} {p e : Nat} {w fl sq : Int32} {r0 r1 r2 r3 top low : Int64} {q : Int} {J : Int32 → Int32 → Int32 → Int32 → Int64 → Int64 → Int64 → Int64 → Int64 → Int64 → Int32 → Int64 → Int64 → Int32 → Int32 → Prop}
    (hp : p ≤ 10) (he : e ≤ 23) (A : rf_Ag2 q top low sq)
    (h : ∀ un ov hu ho, rf_IU q (rf_V p e (2 ^ p)) hu un → rf_IO q (rf_V p e (2 ^ p)) ho ov → J (nI (e + 1)) (nI p) w fl r0 r1 r2 r3 top low sq un ov hu ho) :
    ∀ d m, m + d = 2 ^ p → (e = 0 ∨ 2 ^ (p - 1) ≤ m) → ∀ un ov hu ho, rf_IU q (rf_V p e m) hu un → rf_IO q (rf_V p e m) ho ov →
      wY_search_35 post J (nI e) (d + 1) (nI m) (nI p) w fl r0 r1 r2 r3 top low sq un ov hu ho := by
  have hP : 2 ^ p ≤ 2 ^ 10 := Nat.pow_le_pow_right (by decide) hp
  have hs := rf_sh1 p (by omega)
  intro d
  induction d with
  | zero =>
    intro m hm hme un ov hu ho hU hO
    have em : m = 2 ^ p := by omega
    subst em
    unfold wY_search_35
    rw [hs]
    exact br_t (nI_le (by omega) (by omega)) (nm_r (nI_1 e) (h _ _ _ _ hU hO))
  | succ d ih =>
    intro m hm hme un ov hu ho hU hO
    have hb := rf_mV hp (show e ≤ 24 by omega) (show m < 2 ^ p by omega)
    have ex : (nI m).toInt64 <<< ((nI e).toInt64 &&& 63) = rf_l ((m * 2 ^ e : Nat) : Int) := by
      rw [nI_l (by omega), rf_lN, rf_shlN _ _ e (by omega) rfl]
    unfold wY_search_35
    rw [hs, ex, rf_neg]
    refine br_f (nI_ge (by omega) (by omega)) ?_
    refine rf_ylook (S' := fun y => rf_V p e m y ∨ y = ((m * 2 ^ e : Nat) : Int)) (fun y => Iff.rfl) (by omega) (by omega) (fun z hz => ?_) A hU hO (fun un' ov' hu' ho' hU' hO' => ?_)
    · have := rf_V_B hp (by omega) hz
      unfold rf_B
      omega
    · refine rf_ylook (S' := rf_V p e (m + 1)) (fun y => rf_V_s (by omega) hme y) (by omega) (by omega) (fun z hz => ?_) A hU' hO' (fun un2 ov2 hu2 ho2 hU2 hO2 => ?_)
      · rcases hz with hz | hz
        · have := rf_V_B hp (by omega) hz
          unfold rf_B
          omega
        · unfold rf_B
          omega
      · exact nm_r (nI_1 m) (ih (m + 1) (by omega) (by omega) _ _ _ _ hU2 hO2)
theorem rf_ys12 {post : SY → Prop} {p : Nat} {w fl sq : Int32} {r0 r1 r2 r3 top low : Int64} {q : Int} (hp1 : 1 ≤ p) (hp : p ≤ 10) (A : rf_Ag2 q top low sq)
    (h : ∀ un ov hu ho, rf_IU q (rf_F p) hu un → rf_IO q (rf_F p) ho ov → post (nI p, w, fl, r0, r1, r2, r3, top, low, sq, un, ov, hu, ho)) :
    ∀ d e, e + d = 24 → ∀ un ov hu ho, rf_IU q (rf_V p e (if e = 0 then 0 else 2 ^ (p - 1))) hu un → rf_IO q (rf_V p e (if e = 0 then 0 else 2 ^ (p - 1))) ho ov →
      wY_search_12 post (d + 1) (nI e) (nI p) w fl r0 r1 r2 r3 top low sq un ov hu ho := by
  have hd := rf_pd hp1
  intro d
  induction d with
  | zero =>
    intro e he un ov hu ho hU hO
    have e24 : e = 24 := by omega
    subst e24
    rw [if_neg (by decide)] at hU hO
    exact br_t (nI_lt (a := 23) (b := 24) (by omega) (by omega)) (h _ _ _ _ (rf_IU_iff rf_V_24 hU) (rf_IO_iff rf_V_24 hO))
  | succ d ih =>
    intro e he un ov hu ho hU hO
    have h23 : ¬ (23 : Int32) < nI e := nI_nlt (a := 23) (b := e) (by omega) (by omega)
    have nx : ∀ un ov hu ho, rf_IU q (rf_V p e (2 ^ p)) hu un → rf_IO q (rf_V p e (2 ^ p)) ho ov → wY_search_12 post (d + 1) (nI (e + 1)) (nI p) w fl r0 r1 r2 r3 top low sq un ov hu ho := by
      intro un ov hu ho hU hO
      refine ih (e + 1) (by omega) _ _ _ _ ?_ ?_
      · rw [if_neg (by omega)]
        exact rf_IU_iff rf_V_e hU
      · rw [if_neg (by omega)]
        exact rf_IO_iff rf_V_e hO
    unfold wY_search_12
    refine br_f h23 ?_
    by_cases e0 : e = 0
    · subst e0
      rw [if_pos rfl] at hU hO
      exact br_t rfl ⟨2 ^ p + 1, rf_ys35 hp (by omega) A nx (2 ^ p) 0 (by omega) (Or.inl rfl) _ _ _ _ hU hO⟩
    · rw [if_neg e0] at hU hO
      refine br_f (nI_ne0 (by omega) (by omega)) (nm_r (rf_sh2 p (by omega) hp1) ?_)
      exact ⟨2 ^ (p - 1) + 1, rf_ys35 hp (by omega) A nx (2 ^ (p - 1)) (2 ^ (p - 1)) (by omega) (Or.inr (Nat.le_refl _)) _ _ _ _ hU hO⟩
theorem rf_ysearch {post : SY → Prop} {p : Nat} {w fl sq hu ho : Int32} {r0 r1 r2 r3 top low un ov : Int64} {q : Int} (hp1 : 1 ≤ p) (hp : p ≤ 10) (A : rf_Ag2 q top low sq)
    (h : ∀ un ov hu ho, rf_IU q (rf_F p) hu un → rf_IO q (rf_F p) ho ov → post (nI p, w, fl, r0, r1, r2, r3, top, low, sq, un, ov, hu, ho)) :
    wpY_search post (nI p, w, fl, r0, r1, r2, r3, top, low, sq, un, ov, hu, ho) := by
  unfold wpY_search
  dsimp only
  refine ⟨25, rf_ys12 hp1 hp A h 24 0 rfl _ _ _ _ (Or.inl ⟨rfl, fun x hx => absurd hx (rf_V_0 x)⟩) (Or.inl ⟨rfl, fun x hx => absurd hx (rf_V_0 x)⟩)⟩
end
section
theorem rf_tm (w : Int) : w - w.tdiv 2 * 2 = 0 ↔ w % 2 = 0 := by
  by_cases h : 0 ≤ w
  · rw [Int.tdiv_eq_ediv_of_nonneg h]
    omega
  · have e : w.tdiv 2 = -((-w) / 2) := by
      rw [← Int.tdiv_eq_ediv_of_nonneg (show 0 ≤ -w by omega), Int.neg_tdiv, Int.neg_neg]
    rw [e]
    omega
theorem rf_ych {post : Int64 → Prop} {p how : Nat} {b fl sq hu ho : Int32} {r0 r1 r2 r3 top low : Int64} {q u o : Int} (hp : p ≤ 10) (hh : how < 4) (hu1 : rf_Un p q u) (ho1 : rf_Ov p q o) (hne : u ≠ o)
    (A : rf_Ag q top low sq) (h : post (rf_l (rf_ch how q u o))) : wpY_choose post (b, nI how, fl, r0, r1, r2, r3, top, low, sq, rf_l u, rf_l o, hu, ho) := by
  unfold wpY_choose
  dsimp only
  have hg := rf_Gr_lt hp
  have bu := rf_F_b hu1.1
  have bo := rf_F_b ho1.1
  have l1 := hu1.2.1
  have l2 := ho1.2.1
  have huo : u < o := by omega
  unfold rf_ch at h
  have hs : how = 0 ∨ how = 1 ∨ how = 2 ∨ how = 3 := by omega
  rcases hs with rfl | rfl | rfl | rfl
  · rw [if_neg (by decide), if_neg (by decide), if_neg (by decide)] at h
    refine br_f (by decide) (br_f (by decide) (br_f (by decide) ?_))
    rw [rf_add]
    refine rf_yag ?_
    rw [A (u + o) (by omega) (by omega)]
    have s := rf_sgl (q - 2 * (u + o))
    have wb := Int.natAbs_tdiv_le_natAbs u (o - u)
    refine nm_r (rf_sub o u) ?_
    have ew : rf_l u / rf_l (o - u) = rf_l (u.tdiv (o - u)) := rf_div (rf_Bn (by omega)) (rf_Bn (by omega))
    rw [ew, rf_2, rf_0, rf_div (a := u.tdiv (o - u)) (rf_Bn (by omega)) (rf_Bn (by omega)), rf_mul, rf_sub]
    have wb2 := Int.natAbs_tdiv_le_natAbs (u.tdiv (o - u)) 2
    rw [rf_le (rf_Bn (by omega)) rf_b0, rf_eq (a := o - u) (rf_Bn (by omega)) rf_b0, rf_eq (a := 2) (rf_Bn (by omega)) rf_b0, rf_eq (a := u.tdiv (o - u) - (u.tdiv (o - u)).tdiv 2 * 2) (rf_Bn (by omega)) rf_b0, rf_tm]
    refine br_f (by omega) ⟨by omega, by omega, ?_⟩
    generalize u.tdiv (o - u) % 2 = y at *
    refine br_c (fun c => ?_) (fun c => ?_)
    · unfold wY_choose_105
      refine br_c (fun d => ?_) (fun d => br_c (fun e => br_f rf_ne01 ?_) (fun e => ?_))
      · have d' := s.1.1 d
        rw [if_pos (by omega)] at h
        exact h
      · have e' := s.2.2.1 e
        rw [if_pos (by omega)] at h
        exact h
      · have d' : ¬ q - 2 * (u + o) < 0 := fun z => d (s.1.2 z)
        have e' : ¬ q - 2 * (u + o) = 0 := fun z => e (s.2.2.2 z)
        rw [if_neg (by omega)] at h
        exact h
    · unfold wY_choose_104 wY_choose_105
      refine br_c (fun d => ?_) (fun d => br_c (fun e => br_t rfl ?_) (fun e => ?_))
      · have d' := s.1.1 d
        rw [if_pos (by omega)] at h
        exact h
      · have e' := s.2.2.1 e
        rw [if_neg (by omega)] at h
        exact h
      · have d' : ¬ q - 2 * (u + o) < 0 := fun z => d (s.1.2 z)
        have e' : ¬ q - 2 * (u + o) = 0 := fun z => e (s.2.2.2 z)
        rw [if_neg (by omega)] at h
        exact h
  · exact br_t rfl h
  · exact br_f (by decide) (br_t rfl h)
  · refine br_f (by decide) (br_f (by decide) (br_t rfl ?_))
    rw [if_neg (by decide), if_neg (by decide), if_pos rfl] at h
    rw [rf_0, rf_lt (rf_Bn (by omega)) rf_b0]
    refine br_c (fun c => ?_) (fun c => ?_)
    · rw [if_neg (by omega)] at h
      exact h
    · rw [if_pos (by omega)] at h
      exact h
def rf_up (z : Nat → Int) (i : Nat) (r : Int) : Nat → Int := fun j => if j = i then r else z j
theorem rf_yput {post : SY → Prop} {b w fl sq hu ho : Int32} {top low un ov : Int64} {z : Nat → Int} {i : Nat} {r : Int} (hi : i < 4)
    (h : post (b, w, fl, rf_l (rf_up z i r 0), rf_l (rf_up z i r 1), rf_l (rf_up z i r 2), rf_l (rf_up z i r 3), top, low, sq, un, ov, hu, ho)) :
    wpY_put post (b, w, fl, rf_l (z 0), rf_l (z 1), rf_l (z 2), rf_l (z 3), top, low, sq, un, ov, hu, ho) (nI i) (rf_l r) := by
  have hs : i = 0 ∨ i = 1 ∨ i = 2 ∨ i = 3 := by omega
  rcases hs with rfl | rfl | rfl | rfl
  · exact br_t rfl (br_f (by decide) (br_f (by decide) (br_f (by decide) h)))
  · exact br_f (by decide) (br_t rfl (br_f (by decide) (br_f (by decide) h)))
  · exact br_f (by decide) (br_f (by decide) (br_t rfl (br_f (by decide) h)))
  · exact br_f (by decide) (br_f (by decide) (br_f (by decide) (br_t rfl h)))
theorem rf_y68 {post : Int32 → SY → Prop} {b w fl sq hu ho f : Int32} {top low un ov : Int64} {z : Nat → Int} {i : Nat} {r : Int} (hi : i < 4)
    (h : post f (b, w, fl ||| f, rf_l (rf_up z i r 0), rf_l (rf_up z i r 1), rf_l (rf_up z i r 2), rf_l (rf_up z i r 3), top, low, sq, un, ov, hu, ho)) :
    wY_round_68 post (nI i) f (rf_l r) b w fl (rf_l (z 0)) (rf_l (z 1)) (rf_l (z 2)) (rf_l (z 3)) top low sq un ov hu ho := by
  unfold wY_round_68
  exact rf_yput hi (nm_e h)
theorem rf_yround {post : Int32 → SY → Prop} {p how i : Nat} {fl sq hu ho : Int32} {top low un ov : Int64} {z : Nat → Int} {q : Int} (hp1 : 2 ≤ p) (hp : p ≤ 10) (hh : how < 4) (hi : i < 4) (A : rf_Ag q top low sq)
    (h : ∀ r f un ov hu ho, rf_Out p how q r f → post (nI f) (nI p, nI how, fl ||| nI f, rf_l (rf_up z i r 0), rf_l (rf_up z i r 1), rf_l (rf_up z i r 2), rf_l (rf_up z i r 3), top, low, sq, un, ov, hu, ho)) :
    wpY_round post (nI p, nI how, fl, rf_l (z 0), rf_l (z 1), rf_l (z 2), rf_l (z 3), top, low, sq, un, ov, hu, ho) (nI i) := by
  unfold wpY_round
  dsimp only
  have hg := rf_Gr_lt hp
  refine rf_ysearch (by omega) hp (rf_Ag_2 A) (fun un' ov' hu' ho' hU hO => ?_)
  rcases rf_IU_F hU with ⟨rfl, nU⟩ | ⟨rfl, u, rfl, hu1⟩
  · rcases rf_IO_F hO with ⟨rfl, nO⟩ | ⟨rfl, o, rfl, ho1⟩
    · have a1 := nU 0 (rf_F_0 p)
      have a2 := nO 0 (rf_F_0 p)
      omega
    · exact br_f rf_ne01 (br_t rfl (br_t rfl (rf_y68 hi (h o 3 _ _ _ _ (Or.inr (Or.inr ⟨nU, ho1, rfl⟩))))))
  · rcases rf_IO_F hO with ⟨rfl, nO⟩ | ⟨rfl, o, rfl, ho1⟩
    · exact br_t rfl (br_f rf_ne01 (rf_y68 hi (h u 3 _ _ _ _ (Or.inr (Or.inl ⟨nO, hu1, rfl⟩)))))
    · refine br_f rf_ne01 (br_f rf_ne01 ?_)
      have bu := rf_F_b hu1.1
      have bo := rf_F_b ho1.1
      rw [rf_eq (rf_Bn (by omega)) (rf_Bn (by omega))]
      refine br_c (fun c => ?_) (fun c => ?_)
      · exact rf_y68 hi (h u 0 _ _ _ _ (Or.inl ⟨u, o, hu1, ho1, Or.inl ⟨c, rfl, rfl⟩⟩))
      · exact rf_ych hp hh hu1 ho1 c A (rf_y68 hi (h _ 1 _ _ _ _ (Or.inl ⟨u, o, hu1, ho1, Or.inr ⟨c, rfl, rfl⟩⟩)))
theorem rf_R3 {r : Int32} (c : ¬ r < 0) (d : ¬ (3 : Int32) < r) : rf_R r := by
  obtain ⟨j, hj, rfl⟩ := nI_of c
  refine ⟨j, ?_, rfl⟩
  by_cases h : j < 4
  · exact h
  · exact absurd (nI_lt (a := 3) (b := j) (by omega) hj) d
theorem rf_yis1 {post : Int32 → Prop} {v : SY} {j : Nat} (hj : j < 4) (h : post 1) : wpY_is post v (nI j) := by
  obtain ⟨b, w, fl, r0, r1, r2, r3, top, low, sq, un, ov, hu, ho⟩ := v
  exact br_f (nI_pos (by omega)) (br_f (nI_nlt (a := 3) (b := j) (by omega) (by omega)) h)
theorem rf_yis0 {post : Int32 → Prop} {v : SY} {r : Int32} (hr : ¬ rf_R r) (h : post 0) : wpY_is post v r := by
  obtain ⟨b, w, fl, r0, r1, r2, r3, top, low, sq, un, ov, hu, ho⟩ := v
  exact br_c (fun _ => h) (fun c => br_c (fun _ => h) (fun d => absurd (rf_R3 c d) hr))
theorem rf_yget {post : Int64 → Prop} {b w fl sq hu ho : Int32} {top low un ov : Int64} {z : Nat → Int} {j : Nat} (hj : j < 4) (h : post (rf_l (z j))) :
    wpY_get post (b, w, fl, rf_l (z 0), rf_l (z 1), rf_l (z 2), rf_l (z 3), top, low, sq, un, ov, hu, ho) (nI j) := by
  have hs : j = 0 ∨ j = 1 ∨ j = 2 ∨ j = 3 := by omega
  rcases hs with rfl | rfl | rfl | rfl
  · exact br_t rfl h
  · exact br_f (by decide) (br_t rfl h)
  · exact br_f (by decide) (br_f (by decide) (br_t rfl h))
  · exact br_f (by decide) (br_f (by decide) (br_f (by decide) h))
end
section
def rf_i (z : Int) : Int32 := Int32.ofInt z
theorem rf_iadd (a b : Int) : rf_i a + rf_i b = rf_i (a + b) := (Int32.ofInt_add a b).symm
theorem rf_isub (a b : Int) : rf_i a - rf_i b = rf_i (a - b) := (Int32.ofInt_sub a b).symm
theorem rf_ineg (a : Int) : -rf_i a = rf_i (-a) := (Int32.ofInt_neg a).symm
theorem rf_inI (n : Nat) : nI n = rf_i (n : Int) := (Int32.ofInt_eq_ofNat (n := n)).symm
theorem rf_iti {a : Int} (h : a.natAbs < 2147483648) : (rf_i a).toInt = a := Int32.toInt_ofInt_of_le (by omega) (by omega)
theorem rf_ilt {a b : Int} (ha : a.natAbs < 2147483648) (hb : b.natAbs < 2147483648) : rf_i a < rf_i b ↔ a < b := by
  rw [Int32.lt_iff_toInt_lt, rf_iti ha, rf_iti hb]
theorem rf_ile {a b : Int} (ha : a.natAbs < 2147483648) (hb : b.natAbs < 2147483648) : rf_i a ≤ rf_i b ↔ a ≤ b := by
  rw [Int32.le_iff_toInt_le, rf_iti ha, rf_iti hb]
theorem rf_il {m : Int} (h : m.natAbs < 2147483648) : (rf_i m).toInt64 = rf_l m := by
  rw [← Int64.ofInt_int32ToInt, rf_iti h]
  rfl
theorem rf_li (m : Int) : (rf_l m).toInt32 = rf_i m := Int64.toInt32_ofInt
theorem rf_iof (x : Int32) : ∃ m : Int, x = rf_i m ∧ -2147483648 ≤ m ∧ m < 2147483648 := by
  have h1 := Int32.toInt_lt x
  have h2 := Int32.le_toInt x
  exact ⟨x.toInt, (Int32.ofInt_toInt x).symm, by omega, by omega⟩
theorem rf_xt12 {post : Int32 → Prop} {m : Int} {k : Nat} (hm : m % 2 = 1) (hb : m.natAbs < 1024) (hk : k ≤ 32) (h : post (nI k)) :
    ∀ d j, j + d = k → wX_twosIn_12 post (rf_l (m * ((2 ^ k : Nat) : Int))) (d + 1) (nI j) (nI j) := by
  have b := rf_pb (A := 1024) (J := 32) (show m.natAbs ≤ 1024 by omega) hk
  intro d
  induction d with
  | zero =>
    intro j hj
    have ej : j = k := by omega
    subst ej
    unfold wX_twosIn_12
    rw [rf_shrc (rf_Bn (by omega)) _ j (by omega) rfl, rf_and1, rf_ed (Nat.le_refl _), Nat.sub_self, show ((2 ^ 0 : Nat) : Int) = 1 from rfl, Int.mul_one, hm]
    exact br_f (nI_ge (a := j) (b := 33) (by omega) (by omega)) (br_f (by decide) h)
  | succ d ih =>
    intro j hj
    unfold wX_twosIn_12
    have ek : k - j = (k - j - 1) + 1 := by omega
    have e0 : m * ((2 ^ (k - j) : Nat) : Int) % 2 = 0 := by
      rw [ek, rf_ev]
      omega
    rw [rf_shrc (rf_Bn (by omega)) _ j (by omega) rfl, rf_and1, rf_ed (by omega), e0]
    exact br_f (nI_ge (a := j) (b := 33) (by omega) (by omega)) (br_t rfl (nm_r (nI_1 j) (nm_r (nI_1 j) (ih (j + 1) (by omega)))))
theorem rf_nz {m : Int} (hm : m % 2 = 1) (i : Nat) : m * ((2 ^ i : Nat) : Int) ≠ 0 := by
  have h := rf_sgn (m := m) i
  omega
theorem rf_xtw {post : Int32 → Prop} {x m : Int} {k : Nat} (hx : x ≠ 0) (hM : rf_MK x m k) (h : post (nI k)) : wpX_twosIn post (rf_l x) := by
  obtain ⟨e, hm, hb, hk⟩ := hM
  have hm1 : m % 2 = 1 := by
    rcases hm with hm | hm
    · exact hm
    · exact absurd hm.1 hx
  have b := rf_pb (A := 1024) (J := 32) (show m.natAbs ≤ 1024 by omega) hk
  rw [← e] at b
  unfold wpX_twosIn
  rw [rf_0, rf_eq (rf_Bn (by omega)) rf_b0]
  refine br_f hx ⟨k + 1, ?_⟩
  rw [e]
  exact rf_xt12 hm1 hb hk h k 0 (by omega)
theorem rf_ym21 {post : Int32 → Prop} {b w fl sq hu ho : Int32} {r0 r1 r2 r3 top low un ov : Int64} {m : Int} (hm : m % 2 = 1) (hb : m.natAbs < 1024) (h : post (rf_i m)) :
    ∀ i c, i + c ≤ 33 → wY_mantissa_21 post b w fl r0 r1 r2 r3 top low sq un ov hu ho (i + 1) (rf_l (m * ((2 ^ i : Nat) : Int))) (nI c) := by
  intro i
  induction i with
  | zero =>
    intro c hc
    unfold wY_mantissa_21
    rw [show ((2 ^ 0 : Nat) : Int) = 1 from rfl, Int.mul_one]
    have hd := Int.natAbs_tdiv_le_natAbs m 2
    rw [rf_2, rf_0, rf_div (rf_Bn (by omega)) (rf_Bn (by omega)), rf_mul, rf_sub, rf_eq (a := m) (rf_Bn (by omega)) rf_b0, rf_eq (a := 2) (rf_Bn (by omega)) rf_b0, rf_eq (a := m - m.tdiv 2 * 2) (rf_Bn (by omega)) rf_b0, rf_tm, rf_li]
    exact br_f (nI_ge (a := c) (b := 34) (by omega) (by omega)) (br_f (by omega) ⟨by omega, br_f (by omega) h⟩)
  | succ i ih =>
    intro c hc
    unfold wY_mantissa_21
    have b1 := rf_pb (A := 1024) (J := 33) (show m.natAbs ≤ 1024 by omega) (show i + 1 ≤ 33 by omega)
    have nz := rf_nz hm (i + 1)
    have ev := rf_ev m i
    have et : (m * ((2 ^ (i + 1) : Nat) : Int)).tdiv 2 = m * ((2 ^ i : Nat) : Int) := by
      rw [ev]
      exact Int.mul_tdiv_cancel _ (by omega)
    rw [rf_2, rf_0, rf_div (rf_Bn (by omega)) (rf_Bn (by omega)), et, rf_mul, rf_sub, ← ev, Int.sub_self, rf_eq (a := m * ((2 ^ (i + 1) : Nat) : Int)) (rf_Bn (by omega)) rf_b0, rf_eq (a := 2) (rf_Bn (by omega)) rf_b0]
    exact br_f (nI_ge (a := c) (b := 34) (by omega) (by omega)) (br_f nz ⟨by omega, br_t rfl ⟨by omega, nm_e (nm_r (nI_1 c) (ih (c + 1) (by omega)))⟩⟩)
theorem rf_ye35 {post : Int32 → Prop} {b w fl sq hu ho : Int32} {r0 r1 r2 r3 top low un ov : Int64} {m : Int} (hm : m % 2 = 1) (hb : m.natAbs < 1024) :
    ∀ (i c : Nat) (e : Int), i + c ≤ 33 → post (rf_i (e + i)) → wY_exponent_35 post b w fl r0 r1 r2 r3 top low sq un ov hu ho (i + 1) (rf_l (m * ((2 ^ i : Nat) : Int))) (rf_i e) (nI c) := by
  intro i
  induction i with
  | zero =>
    intro c e hc h
    unfold wY_exponent_35
    rw [show ((2 ^ 0 : Nat) : Int) = 1 from rfl, Int.mul_one]
    have hd := Int.natAbs_tdiv_le_natAbs m 2
    rw [rf_2, rf_0, rf_div (rf_Bn (by omega)) (rf_Bn (by omega)), rf_mul, rf_sub, rf_eq (a := m) (rf_Bn (by omega)) rf_b0, rf_eq (a := 2) (rf_Bn (by omega)) rf_b0, rf_eq (a := m - m.tdiv 2 * 2) (rf_Bn (by omega)) rf_b0, rf_tm]
    have h' : post (rf_i e) := by
      have e0 : e + ((0 : Nat) : Int) = e := by omega
      rw [e0] at h
      exact h
    exact br_f (nI_ge (a := c) (b := 34) (by omega) (by omega)) (br_f (by omega) ⟨by omega, br_f (by omega) h'⟩)
  | succ i ih =>
    intro c e hc h
    unfold wY_exponent_35
    have b1 := rf_pb (A := 1024) (J := 33) (show m.natAbs ≤ 1024 by omega) (show i + 1 ≤ 33 by omega)
    have nz := rf_nz hm (i + 1)
    have ev := rf_ev m i
    have et : (m * ((2 ^ (i + 1) : Nat) : Int)).tdiv 2 = m * ((2 ^ i : Nat) : Int) := by
      rw [ev]
      exact Int.mul_tdiv_cancel _ (by omega)
    have e1 : rf_i e + 1 = rf_i (e + 1) := rf_iadd e 1
    have h' : post (rf_i (e + 1 + (i : Int))) := by
      have e0 : e + ((i + 1 : Nat) : Int) = e + 1 + (i : Int) := by omega
      rw [e0] at h
      exact h
    rw [rf_2, rf_0, rf_div (rf_Bn (by omega)) (rf_Bn (by omega)), et, rf_mul, rf_sub, ← ev, Int.sub_self, rf_eq (a := m * ((2 ^ (i + 1) : Nat) : Int)) (rf_Bn (by omega)) rf_b0, rf_eq (a := 2) (rf_Bn (by omega)) rf_b0]
    exact br_f (nI_ge (a := c) (b := 34) (by omega) (by omega)) (br_f nz ⟨by omega, br_t rfl ⟨by omega, nm_e (nm_r e1 (nm_r (nI_1 c) (ih (c + 1) (e + 1) (by omega) h')))⟩⟩)
theorem rf_ymant {post : Int32 → Prop} {b w fl sq hu ho : Int32} {top low un ov : Int64} {z : Nat → Int} {j k : Nat} {m : Int} (hj : j < 4) (hM : rf_MK (z j) m k) (h : post (rf_i m)) :
    wpY_mantissa post (b, w, fl, rf_l (z 0), rf_l (z 1), rf_l (z 2), rf_l (z 3), top, low, sq, un, ov, hu, ho) (nI j) := by
  unfold wpY_mantissa
  dsimp only
  refine rf_yis1 hj (br_f rf_ne01 (rf_yget hj ?_))
  obtain ⟨e, hm, hb, hk⟩ := hM
  rcases hm with hm | ⟨hx, hm, hk⟩
  · rw [e]
    exact ⟨k + 1, rf_ym21 hm hb h k 0 (by omega)⟩
  · rw [hx]
    subst hm
    exact ⟨1, br_f (by decide) (br_t rfl h)⟩
theorem rf_yexp {post : Int32 → Prop} {b w fl sq hu ho : Int32} {top low un ov : Int64} {z : Nat → Int} {j k : Nat} {m : Int} (hj : j < 4) (hM : rf_MK (z j) m k) (h : post (rf_i ((k : Int) - 12))) :
    wpY_exponent post (b, w, fl, rf_l (z 0), rf_l (z 1), rf_l (z 2), rf_l (z 3), top, low, sq, un, ov, hu, ho) (nI j) := by
  unfold wpY_exponent
  dsimp only
  refine rf_yis1 hj (br_f rf_ne01 (rf_yget hj ?_))
  unfold wY_exponent_17
  obtain ⟨e, hm, hb, hk⟩ := hM
  rcases hm with hm | ⟨hx, hm, hk⟩
  · have nz := rf_nz hm k
    have b1 := rf_pb (A := 1024) (J := 32) (show m.natAbs ≤ 1024 by omega) hk
    rw [e, rf_0, rf_eq (rf_Bn (by omega)) rf_b0]
    refine br_f nz ⟨k + 1, rf_ye35 hm hb k 0 (-12) (by omega) ?_⟩
    rw [show (-12 : Int) + (k : Int) = (k : Int) - 12 by omega]
    exact h
  · rw [hx]
    subst hk
    exact br_t rfl ⟨1, br_f (by decide) (br_t rfl h)⟩
end
section
theorem rf_yp94 {post : SY → Prop} {b w fl sq hu ho : Int32} {r0 r1 r2 r3 t0 l0 un ov : Int64} {m C : Int} {K : Nat} (hK : K < 64)
    (h : post (b, w, fl, r0, r1, r2, r3, rf_l (m * ((2 ^ K : Nat) : Int) + C * 4096), rf_l 4096, 0, un, ov, hu, ho)) :
    wY_product_94 post (rf_l C) (rf_l m) (rf_i ((K : Int) - 24)) b w fl r0 r1 r2 r3 t0 l0 sq un ov hu ho := by
  unfold wY_product_94
  have e1 : rf_i ((K : Int) - 24) + 24 = nI K := by
    have e2 : rf_i ((K : Int) - 24) + 24 = rf_i ((K : Int) - 24 + 24) := rf_iadd _ 24
    rw [e2, rf_inI]
    congr 1
    omega
  rw [e1, rf_shlc _ _ K hK rfl, rf_shlc _ 12 12 (by decide) rfl, rf_add]
  exact h
theorem rf_yp70 {post : SY → Prop} {b w fl sq hu ho : Int32} {r0 r1 r2 r3 t0 l0 un ov : Int64} {m : Int} (hm : m.natAbs ≤ 1048576)
    (h0 : 0 ≤ m → post (b, w, fl, r0, r1, r2, r3, rf_l 8796093022208, rf_l 1, 0, un, ov, hu, ho)) (h1 : m < 0 → post (b, w, fl, r0, r1, r2, r3, rf_l (-8796093022208), rf_l 1, 0, un, ov, hu, ho)) :
    wY_product_70 post (rf_l m) b w fl r0 r1 r2 r3 t0 l0 sq un ov hu ho := by
  unfold wY_product_70 wY_product_87
  rw [rf_0, rf_le rf_b0 (rf_Bn (by omega))]
  exact br_c (fun c => h0 c) (fun c => h1 (by omega))
def rf_TL (P C top low : Int) : Prop := (36028797018963968 ≤ P.natAbs ∧ low = 1 ∧ ((0 < P ∧ top = 8796093022208) ∨ (P < 0 ∧ top = -8796093022208))) ∨ (P.natAbs < 36028797018963968 ∧ low = 4096 ∧ top = P + C * 4096)
theorem rf_yp43 {post : SY → Prop} {b w fl sq hu ho : Int32} {r0 r1 r2 r3 t0 l0 un ov : Int64} {m C : Int} {K : Nat} (hm : m.natAbs ≤ 1048576) (hK : K < 65) (h0 : m = 0 → K < 55)
    (h : ∀ top low, rf_TL (m * ((2 ^ K : Nat) : Int)) C top low → post (b, w, fl, r0, r1, r2, r3, rf_l top, rf_l low, 0, un, ov, hu, ho)) :
    wY_product_43 post (rf_l C) (rf_l m) (rf_i ((K : Int) - 24)) (rf_l (m.natAbs : Int)) b w fl r0 r1 r2 r3 t0 l0 sq un ov hu ho := by
  unfold wY_product_43
  have sg := rf_sgn (m := m) K
  have i31 : (31 : Int32) = rf_i 31 := by decide
  have i0 : (0 : Int32) = rf_i 0 := by decide
  have sat : 36028797018963968 ≤ (m * ((2 ^ K : Nat) : Int)).natAbs → wY_product_70 post (rf_l m) b w fl r0 r1 r2 r3 t0 l0 sq un ov hu ho := fun c =>
    rf_yp70 hm (fun d => h _ _ (Or.inl ⟨c, rfl, Or.inl ⟨by omega, rfl⟩⟩)) (fun d => h _ _ (Or.inl ⟨c, rfl, Or.inr ⟨by omega, rfl⟩⟩))
  have nsat : K < 64 → (m * ((2 ^ K : Nat) : Int)).natAbs < 36028797018963968 → wY_product_94 post (rf_l C) (rf_l m) (rf_i ((K : Int) - 24)) b w fl r0 r1 r2 r3 t0 l0 sq un ov hu ho := fun hk c =>
    rf_yp94 hk (h _ _ (Or.inr ⟨c, rfl, rfl⟩))
  by_cases c1 : 55 ≤ K
  · refine br_t ?_ (sat (rf_sat1 (by omega) c1))
    rw [i31, rf_ile (by omega) (by omega)]
    omega
  · refine br_f ?_ ?_
    · rw [i31, rf_ile (by omega) (by omega)]
      omega
    · by_cases c2 : K < 24
      · refine br_t ?_ (nsat (by omega) (rf_sat3 hm (by omega)))
        rw [i0, rf_ilt (by omega) (by omega)]
        omega
      · refine br_f ?_ ?_
        · rw [i0, rf_ilt (by omega) (by omega)]
          omega
        · have e1 : (31 : Int32) - rf_i ((K : Int) - 24) = nI (55 - K) := by
            rw [i31, rf_isub, rf_inI]
            congr 1
            omega
          have b55 : 2 ^ (55 - K) ≤ 2 ^ 31 := Nat.pow_le_pow_right (by decide) (by omega)
          rw [e1, rf_1, rf_shlc _ _ (55 - K) (by omega) rfl, Int.one_mul, rf_lt (rf_BN (by omega)) (rf_BN (by omega))]
          have s2 := rf_sat2 (m := m) (show K ≤ 55 by omega)
          exact br_c (fun c => nsat (by omega) (by omega)) (fun c => sat (s2.1 (by omega)))
theorem rf_mul0 {a b : Int} (h : a * b = 0) : a = 0 ∨ b = 0 := Int.mul_eq_zero.mp h
theorem rf_yprod {post : SY → Prop} {b w fl sq hu ho : Int32} {t0 l0 un ov : Int64} {z : Nat → Int} {i j p : Nat} {C : Int} (hp : p ≤ 10) (hi : i < 4) (hj : j < 4) (hFi : rf_F p (z i)) (hFj : rf_F p (z j))
    (h : ∀ top low, rf_TL (z i * z j) C top low → post (b, w, fl, rf_l (z 0), rf_l (z 1), rf_l (z 2), rf_l (z 3), rf_l top, rf_l low, 0, un, ov, hu, ho)) :
    wpY_product post (b, w, fl, rf_l (z 0), rf_l (z 1), rf_l (z 2), rf_l (z 3), t0, l0, sq, un, ov, hu, ho) (nI i) (nI j) (rf_l C) := by
  unfold wpY_product
  dsimp only
  obtain ⟨m1, k1, M1⟩ := rf_MK_ex hp hFi
  obtain ⟨m2, k2, M2⟩ := rf_MK_ex hp hFj
  have eP : z i * z j = m1 * m2 * ((2 ^ (k1 + k2) : Nat) : Int) := by
    rw [M1.1, M2.1, rf_p2]
    generalize ((2 ^ k1 : Nat) : Int) = x
    generalize ((2 ^ k2 : Nat) : Int) = y
    grind
  rw [eP] at h
  have b1 := M1.2.2.1
  have b2 := M2.2.2.1
  have k1b := M1.2.2.2
  have k2b := M2.2.2.2
  have mb := rf_mb (a := m1) (b := m2) (A := 1024) (B := 1024) (by omega) (by omega)
  have m0 : m1 * m2 = 0 → k1 + k2 < 55 := by
    intro z0
    have o1 := M1.2.1
    have o2 := M2.2.1
    rcases rf_mul0 z0 with e | e
    · omega
    · omega
  refine rf_ymant hi M1 (rf_ymant hj M2 ?_)
  rw [rf_il (by omega), rf_il (by omega), rf_mul]
  refine nm_e (rf_yexp hi M1 (rf_yexp hj M2 ?_))
  refine nm_r (e' := rf_i (((k1 + k2 : Nat) : Int) - 24)) ?_ ?_
  · rw [rf_iadd]
    congr 1
    omega
  · rw [rf_0, rf_le rf_b0 (rf_Bn (by omega)), rf_neg]
    refine br_c (fun c => ?_) (fun c => ?_)
    · have e : m1 * m2 = ((m1 * m2).natAbs : Int) := by omega
      have G := rf_yp43 (post := post) (b := b) (w := w) (fl := fl) (sq := sq) (hu := hu) (ho := ho) (r0 := rf_l (z 0)) (r1 := rf_l (z 1)) (r2 := rf_l (z 2)) (r3 := rf_l (z 3)) (t0 := t0) (l0 := l0) (un := un) (ov := ov) (m := m1 * m2) (C := C) (K := k1 + k2) (by omega) (by omega) m0 h
      rw [← e] at G
      exact G
    · have e : -(m1 * m2) = ((m1 * m2).natAbs : Int) := by omega
      rw [e]
      exact rf_yp43 (by omega) (by omega) m0 h
theorem rf_xprod {post : Int64 → Prop} {a b : Int} (ha : a.natAbs < 8589934592) (hb : b.natAbs < 8589934592) (h1 : (a * b).natAbs ≤ 1125899906842624 → post (rf_l (a * b)))
    (h2 : 1125899906842624 < (a * b).natAbs → 0 < a * b → post (rf_l 1125899906842624)) (h3 : 1125899906842624 < (a * b).natAbs → a * b < 0 → post (rf_l (-1125899906842624))) :
    wpX_productOf post (rf_l a) (rf_l b) := by
  unfold wpX_productOf
  refine rf_xsize (by omega) (rf_xsize (by omega) ?_)
  have en := Int.natAbs_mul a b
  have eF : (1125899906842624 : Int64) = rf_l 1125899906842624 := by decide
  rw [eF, rf_mul, rf_0, rf_eq (a := (b.natAbs : Int)) (rf_BN (by omega)) rf_b0]
  by_cases cb : b.natAbs = 0
  · refine br_t (by omega) (h1 ?_)
    rw [en, cb]
    omega
  · refine br_f (by omega) ⟨by omega, ?_⟩
    have ed : rf_l 1125899906842624 / rf_l (b.natAbs : Int) = rf_l ((1125899906842624 / b.natAbs : Nat) : Int) := by
      rw [rf_div (rf_Bn (by omega)) (rf_BN (by omega)), Int.tdiv_eq_ediv_of_nonneg (by omega), Int.natCast_ediv]
      rfl
    have dl : 1125899906842624 / b.natAbs ≤ 1125899906842624 := Nat.div_le_self _ _
    rw [ed, rf_le (rf_BN (by omega)) (rf_BN (by omega))]
    have iff := Nat.le_div_iff_mul_le (x := a.natAbs) (y := 1125899906842624) (k := b.natAbs) (by omega)
    by_cases c : a.natAbs ≤ 1125899906842624 / b.natAbs
    · exact br_t (by omega) (h1 (by rw [en]; exact iff.1 c))
    · refine br_f (by omega) ?_
      have big : 1125899906842624 < (a * b).natAbs := by
        rw [en]
        have c2 : ¬ a.natAbs * b.natAbs ≤ 1125899906842624 := fun z => c (iff.2 z)
        omega
      have h2' := h2 big
      have h3' := h3 big
      unfold wX_productOf_42 wX_productOf_53
      rw [rf_le rf_b0 (rf_Bn (z := a) (by omega)), rf_0, rf_le rf_b0 (rf_Bn (z := b) (by omega)), eF, rf_neg]
      by_cases sa : 0 ≤ a
      · by_cases sb : 0 ≤ b
        · have := Int.mul_nonneg sa sb
          exact br_t sa (br_t sb (br_t rfl (h2' (by omega))))
        · have t := Int.mul_nonneg sa (show 0 ≤ -b by omega)
          rw [Int.mul_neg] at t
          exact br_t sa (br_f sb (br_f (by decide) (h3' (by omega))))
      · by_cases sb : 0 ≤ b
        · have t := Int.mul_nonneg (show 0 ≤ -a by omega) sb
          rw [Int.neg_mul] at t
          exact br_f sa (br_t sb (br_f (by decide) (h3' (by omega))))
        · have t := Int.mul_nonneg (show 0 ≤ -a by omega) (show 0 ≤ -b by omega)
          rw [Int.neg_mul_neg] at t
          exact br_f sa (br_f sb (br_t rfl (h2' (by omega))))
theorem rf_Ag_mul {P C Q top low : Int} (hC : C.natAbs ≤ 8589934592) (hT : rf_TL P C top low)
    (hQ : (P.natAbs ≤ 1125899906842624 ∧ Q = P) ∨ (1125899906842624 < P.natAbs ∧ 0 < P ∧ Q = 1125899906842624) ∨ (1125899906842624 < P.natAbs ∧ P < 0 ∧ Q = -1125899906842624)) :
    rf_Ag (rf_wb (Q + C * 4096) 1024) (rf_l top) (rf_l low) 0 := by
  unfold rf_TL at hT
  rcases hQ with ⟨h1, rfl⟩ | ⟨h1, h2, rfl⟩ | ⟨h1, h2, rfl⟩
  · rcases hT with hT | ⟨_, rfl, rfl⟩
    · omega
    · exact rf_Ag_m (by omega)
  · exact rf_Ag_mp (by omega) (by omega)
  · exact rf_Ag_mn (by omega) (by omega)
theorem rf_xq47 {post : Int64 → Prop} {a b x : Int} (ha : a.natAbs < 8589934592) (hb : b.natAbs < 8589934592) (h1 : (a < 0 ↔ b < 0) → post (rf_l x)) (h2 : ¬ (a < 0 ↔ b < 0) → post (rf_l (-x))) :
    wX_quotientOf_47 post (rf_l a) (rf_l b) (rf_l x) := by
  unfold wX_quotientOf_47 wX_quotientOf_58 wX_quotientOf_69
  rw [rf_0, rf_le rf_b0 (rf_Bn (by omega)), rf_le rf_b0 (rf_Bn (by omega)), rf_neg]
  by_cases sa : 0 ≤ a
  · by_cases sb : 0 ≤ b
    · exact br_t sa (br_t sb (br_t rfl (h1 (by omega))))
    · exact br_t sa (br_f sb (br_f (by decide) (h2 (by omega))))
  · by_cases sb : 0 ≤ b
    · exact br_f sa (br_t sb (br_f (by decide) (h2 (by omega))))
    · exact br_f sa (br_f sb (br_t rfl (h1 (by omega))))
theorem rf_xquo {post : Int64 → Prop} {a b : Int} (ha : a.natAbs < 8589934592) (hb : b.natAbs < 8589934592) (hb0 : b ≠ 0)
    (h1 : (a < 0 ↔ b < 0) → post (rf_l (rf_wb ((a.natAbs * 16384 : Nat) : Int) (b.natAbs : Int)))) (h2 : ¬ (a < 0 ↔ b < 0) → post (rf_l (-rf_wb ((a.natAbs * 16384 : Nat) : Int) (b.natAbs : Int)))) :
    wpX_quotientOf post (rf_l a) (rf_l b) := by
  unfold wpX_quotientOf
  rw [rf_0, rf_eq (rf_Bn (by omega)) rf_b0]
  refine br_f hb0 (rf_xsize (by omega) ?_)
  refine nm_r (rf_shlN _ 14 14 (by decide) rfl) (rf_xsize (by omega) ?_)
  rw [rf_eq (rf_BN (by omega)) rf_b0]
  refine ⟨by omega, ?_⟩
  have e14 : a.natAbs * 2 ^ 14 = a.natAbs * 16384 := rfl
  rw [e14]
  have ed : rf_l ((a.natAbs * 16384 : Nat) : Int) / rf_l (b.natAbs : Int) = rf_l (((a.natAbs * 16384 : Nat) : Int) / (b.natAbs : Int)) := by
    rw [rf_div (rf_BN (by omega)) (rf_BN (by omega)), Int.tdiv_eq_ediv_of_nonneg (by omega)]
  refine nm_r ed ?_
  have e1 := Int.ediv_mul_add_emod ((a.natAbs * 16384 : Nat) : Int) (b.natAbs : Int)
  have e2 := Int.emod_nonneg ((a.natAbs * 16384 : Nat) : Int) (b := (b.natAbs : Int)) (by omega)
  have e3 := Int.emod_lt_of_pos ((a.natAbs * 16384 : Nat) : Int) (b := (b.natAbs : Int)) (by omega)
  rw [rf_mul, rf_eq (by unfold rf_B; omega) (rf_BN (by omega)), rf_or1]
  unfold rf_wb at h1 h2
  refine br_c (fun c => ?_) (fun c => nm_e ?_)
  · rw [if_pos c] at h1 h2
    exact rf_xq47 ha hb h1 h2
  · rw [if_neg c] at h1 h2
    exact rf_xq47 ha hb h1 h2
theorem rf_xr12 {post : Int64 → Prop} {s : Nat} (hs : s < 1125899906842624) (h : ∀ f : Nat, f < 33554432 → f * f ≤ s → s < (f + 1) * (f + 1) → post (rf_l (rf_rq (f : Int) (s : Int)))) :
    ∀ j f, j ≤ 25 → rf_RI s j f → wX_rootOf_12 post (rf_l (s : Int)) (j + 1) (rf_l (f : Int)) (rf_i ((j : Int) - 1)) := by
  have i0 : (0 : Int32) = rf_i 0 := by decide
  intro j
  induction j with
  | zero =>
    intro f hj hR
    have hf := rf_RI_b hR hs
    have hm := Nat.mul_le_mul (show f ≤ 33554432 by omega) (show f ≤ 33554432 by omega)
    have hh := h f hf hR.2.1 hR.2.2
    unfold wX_rootOf_12
    refine br_t ?_ ?_
    · rw [i0, rf_ilt (by omega) (by omega)]
      omega
    · rw [rf_mul, rf_or1, ← Int.natCast_mul, rf_eq (rf_BN (by omega)) (rf_BN (by omega))]
      unfold rf_rq at hh
      rw [← Int.natCast_mul] at hh
      refine br_c (fun c => ?_) (fun c => ?_)
      · rw [if_pos c] at hh
        exact hh
      · rw [if_neg c] at hh
        exact hh
  | succ j ih =>
    intro f hj hR
    have hf := rf_RI_b hR hs
    have hp : 2 ^ j ≤ 2 ^ 24 := Nat.pow_le_pow_right (by decide) (by omega)
    have hm := Nat.mul_le_mul (show f + 2 ^ j ≤ 67108864 by omega) (show f + 2 ^ j ≤ 67108864 by omega)
    unfold wX_rootOf_12
    have ei : rf_i (((j + 1 : Nat) : Int) - 1) = nI j := by
      rw [rf_inI]
      congr 1
      omega
    have em : nI j + (-1) = rf_i ((j : Int) - 1) := by
      have e2 : (-1 : Int32) = rf_i (-1) := by decide
      rw [rf_inI, e2, rf_iadd]
      congr 1
    rw [ei]
    refine br_f (nI_pos (by omega)) ?_
    refine nm_r (e' := rf_l ((f + 2 ^ j : Nat) : Int)) ?_ ?_
    · rw [rf_1, rf_shlc _ _ j (by omega) rfl, Int.one_mul]
      exact rf_or_f hR.1 hf (by omega)
    · rw [rf_mul, ← Int.natCast_mul, rf_lt (rf_BN (by omega)) (rf_BN (by omega))]
      refine br_c (fun c => nm_r em ?_) (fun c => nm_r em ?_)
      · exact ih f (by omega) (rf_RI_f hR (by omega))
      · exact ih (f + 2 ^ j) (by omega) (rf_RI_t hR (by omega))
theorem rf_xroot {post : Int64 → Prop} {n : Nat} (hn : n < 8589934592) (h : ∀ f : Nat, f < 33554432 → f * f ≤ n * 65536 → n * 65536 < (f + 1) * (f + 1) → post (rf_l (rf_rq (f : Int) ((n * 65536 : Nat) : Int)))) :
    wpX_rootOf post (rf_l (n : Int)) := by
  unfold wpX_rootOf
  refine nm_r (rf_shlN _ 16 16 (by decide) rfl) ⟨26, ?_⟩
  have e16 : n * 2 ^ 16 = n * 65536 := rfl
  rw [e16]
  exact rf_xr12 (by omega) h 25 0 (by omega) ⟨⟨0, by omega⟩, by omega, by omega⟩
theorem rf_f3 : ∀ t, t < 64 → nI t &&& 3 = nI (t % 4) ∧ (nI t >>> ((2 : Int32) &&& 31)) &&& 3 = nI (t / 4 % 4) ∧ (nI t >>> ((4 : Int32) &&& 31)) &&& 3 = nI (t / 16) ∧ nI t >>> ((4 : Int32) &&& 31) = nI (t / 16) := by decide +kernel
end
section
def i_Rel (k : Nat) (u : SX) (v : SY) : Prop :=
  ∃ (p how : Nat) (fl : Int32) (a : Nat → Int64) (z : Nat → Int) (top low : Int64) (sq : Int32) (un ov : Int64) (hu ho : Int32), 2 ≤ p ∧ p ≤ 10 ∧ how < 4 ∧ (∀ j, j < 4 → rf_F p (z j) ∧ a j = rf_l (z j)) ∧
    u = (nI p, rf_l (rf_Gr p : Int), nI how, fl, a) ∧ v = (nI p, nI how, fl, rf_l (z 0), rf_l (z 1), rf_l (z 2), rf_l (z 3), top, low, sq, un, ov, hu, ho)
theorem i_up {k : Nat} {u : SX} {v : SY} (h : i_Rel k u v) : i_Rel (k + 4) u v := h
theorem rf_mk {k p how i : Nat} {fl : Int32} {a : Nat → Int64} {z : Nat → Int} {r : Int} {top low un ov : Int64} {sq hu ho : Int32} (h2 : 2 ≤ p) (h10 : p ≤ 10) (hh : how < 4) (hz : ∀ j, j < 4 → rf_F p (z j) ∧ a j = rf_l (z j)) (hF : rf_F p r) :
    i_Rel k (nI p, rf_l (rf_Gr p : Int), nI how, fl, vp_updL a i (rf_l r)) (nI p, nI how, fl, rf_l (rf_up z i r 0), rf_l (rf_up z i r 1), rf_l (rf_up z i r 2), rf_l (rf_up z i r 3), top, low, sq, un, ov, hu, ho) := by
  refine ⟨p, how, fl, vp_updL a i (rf_l r), rf_up z i r, top, low, sq, un, ov, hu, ho, h2, h10, hh, fun j hj => ?_, rfl, rfl⟩
  unfold rf_up vp_updL
  by_cases c : j = i
  · rw [if_pos c, if_pos c]
    exact ⟨hF, rfl⟩
  · rw [if_neg c, if_neg c]
    exact hz j hj
theorem rf_fin {k p how i f f' : Nat} {fl : Int32} {a : Nat → Int64} {z : Nat → Int} {q r r' : Int} {top low un ov : Int64} {sq hu ho : Int32} (h2 : 2 ≤ p) (h10 : p ≤ 10) (hh : how < 4) (hz : ∀ j, j < 4 → rf_F p (z j) ∧ a j = rf_l (z j))
    (hO : rf_Out p how q r f) (hO' : rf_Out p how q r' f') :
    nI f' = nI f ∧ i_Rel k (nI p, rf_l (rf_Gr p : Int), nI how, fl ||| nI f, vp_updL a i (rf_l r)) (nI p, nI how, fl ||| nI f', rf_l (rf_up z i r' 0), rf_l (rf_up z i r' 1), rf_l (rf_up z i r' 2), rf_l (rf_up z i r' 3), top, low, sq, un, ov, hu, ho) := by
  obtain ⟨e1, e2⟩ := rf_Out_u hO hO'
  subst e1 e2
  exact ⟨rfl, rf_mk h2 h10 hh hz (rf_Out_F hO).1⟩
theorem rf_zb {p : Nat} {x : Int} (h10 : p ≤ 10) (h : rf_F p x) : x.natAbs < 8589934592 := by
  have a := rf_F_le h
  have b := rf_Gr_lt h10
  omega
theorem rf_x29 {post : SX → Prop} {p : Nat} {D md fl : Int32} {G : Int64} {a : Nat → Int64} (hp : p ≤ 10) (h : post (nI p, rf_l (rf_Gr p : Int), 0, 0, a)) : wX_init_29 post (nI p) D G md fl a := by
  unfold wX_init_29
  refine nm_r (e' := rf_l (rf_Gr p : Int)) ?_ h
  have b := Nat.two_pow_pos p
  rw [rf_1, rf_shlc _ _ p (by omega) rfl, Int.one_mul, rf_sub, rf_shlc _ 23 23 (by decide) rfl]
  congr 1
  unfold rf_Gr
  omega
theorem rf_st0 {p : Nat} (h2 : 2 ≤ p) (h10 : p ≤ 10) : i_Rel 1 (nI p, rf_l (rf_Gr p : Int), 0, 0, fun _ => 0) (nI p, 0, 0, 0, 0, 0, 0, 0, 0, 0, 0, 0, 0, 0) := by
  refine ⟨p, 0, 0, fun _ => 0, fun _ => 0, 0, 0, 0, 0, 0, 0, 0, h2, h10, by omega, fun j _ => ⟨rf_F_0 p, rf_0⟩, rfl, ?_⟩
  show _ = (nI p, nI 0, (0 : Int32), rf_l 0, rf_l 0, rf_l 0, rf_l 0, _, _, _, _, _, _, _)
  rw [← rf_0]
  rfl
theorem i_vc0 (k0 : Int32) : wpX_init (fun u => wpY_init (fun v => i_Rel 1 u v) k0) k0 := by
  by_cases c : (2 : Int32) ≤ k0
  · by_cases d : k0 ≤ 10
    · obtain ⟨j, hj, e⟩ := nI_of (x := k0) (Int32.not_lt.mpr (Int32.le_trans (by decide) c))
      subst e
      have c' := (nI_leI (a := 2) (b := j) (by omega) hj).mp c
      have d' := (nI_leI (a := j) (b := 10) hj (by omega)).mp d
      exact br_t c (br_t d (rf_x29 d' (br_t c (br_t d (rf_st0 c' d')))))
    · exact br_t c (br_f d (rf_x29 (p := 10) (by omega) (br_t c (br_f d (rf_st0 (p := 10) (by omega) (by omega))))))
  · exact br_f c (br_t (by decide) (rf_x29 (p := 2) (by omega) (br_f c (rf_st0 (p := 2) (by omega) (by omega)))))
theorem i_vc_precision {k : Nat} {u : SX} {v : SY} (I : i_Rel k u v) (hk : k + 4 ≤ 2049) : wpX_precision (fun r => wpY_precision (fun r' => r' = r ∧ i_Rel (k + 4) u v) v) u := by
  have J := I
  obtain ⟨p, how, fl, a, z, top, low, sq, un, ov, hu, ho, h2, h10, hh, hz, rfl, rfl⟩ := I
  exact ⟨rfl, J⟩
theorem i_vc_setMode {k : Nat} {u : SX} {v : SY} (I : i_Rel k u v) (hk : k + 4 ≤ 2049) (v1 : Int32) : wpX_setMode (fun r u' => wpY_setMode (fun r' v' => r' = r ∧ i_Rel (k + 4) u' v') v v1) u v1 := by
  have J := I
  obtain ⟨p, how, fl, a, z, top, low, sq, un, ov, hu, ho, h2, h10, hh, hz, rfl, rfl⟩ := I
  by_cases c : v1 < 0
  · exact br_t c (br_t c ⟨rfl, J⟩)
  · by_cases d : v1 ≤ 3
    · obtain ⟨j, hj, e⟩ := nI_of c
      subst e
      have d' := (nI_leI (a := j) (b := 3) hj (by omega)).mp d
      exact br_f c (br_t d (br_f c (br_t d ⟨rfl, ⟨p, j, fl, a, z, top, low, sq, un, ov, hu, ho, h2, h10, by omega, hz, rfl, rfl⟩⟩)))
    · exact br_f c (br_f d (br_f c (br_f d ⟨rfl, J⟩)))
theorem i_vc_takeFlags {k : Nat} {u : SX} {v : SY} (I : i_Rel k u v) (hk : k + 4 ≤ 2049) : wpX_takeFlags (fun r u' => wpY_takeFlags (fun r' v' => r' = r ∧ i_Rel (k + 4) u' v') v) u := by
  obtain ⟨p, how, fl, a, z, top, low, sq, un, ov, hu, ho, h2, h10, hh, hz, rfl, rfl⟩ := I
  exact ⟨rfl, ⟨p, how, 0, a, z, top, low, sq, un, ov, hu, ho, h2, h10, hh, hz, rfl, rfl⟩⟩
theorem rf_cl {j : Nat} (hj : j < 4) : (nI j).toNatClampNeg = j := nI_clamp (by omega)
theorem rf_vin {j : Nat} (hj : j < 4) : vp_in (nI j) 4 := vp_in_nI hj (by omega)
theorem i_vc_mantissa {k : Nat} {u : SX} {v : SY} (I : i_Rel k u v) (hk : k + 4 ≤ 2049) (v1 : Int32) : wpX_mantissa (fun r => wpY_mantissa (fun r' => r' = r ∧ i_Rel (k + 4) u v) v v1) u v1 := by
  have J := I
  obtain ⟨p, how, fl, a, z, top, low, sq, un, ov, hu, ho, h2, h10, hh, hz, rfl, rfl⟩ := I
  unfold wpX_mantissa
  dsimp only
  by_cases c : rf_R v1
  · obtain ⟨i, hi, rfl⟩ := c
    obtain ⟨hF, ha⟩ := hz i hi
    obtain ⟨m, kk, M⟩ := rf_MK_ex h10 hF
    have zb := rf_zb h10 hF
    refine rf_xreg1 hi (br_f rf_ne01 ⟨rf_vin hi, ?_⟩)
    rw [rf_cl hi, ha]
    refine nm_e ?_
    by_cases x0 : z i = 0
    · unfold wpX_twosIn
      rw [rf_0, rf_eq (rf_Bn (by omega)) rf_b0]
      refine br_t x0 (rf_ymant hi M ⟨?_, J⟩)
      have m0 : m = 0 := by
        have h := M.1
        rcases M.2.1 with o | o
        · exact absurd (h.symm.trans x0) (rf_nz o kk)
        · exact o.2.1
      rw [m0, x0]
      decide
    · refine rf_xtw x0 M (rf_ymant hi M ⟨?_, J⟩)
      have hk := M.2.2.2
      rw [rf_shrc (rf_Bn (by omega)) _ kk (by omega) rfl, M.1, rf_ed (Nat.le_refl _), Nat.sub_self, show ((2 ^ 0 : Nat) : Int) = 1 from rfl, Int.mul_one, rf_li]
  · refine rf_xreg0 c (br_t rfl ?_)
    unfold wpY_mantissa
    dsimp only
    exact rf_yis0 c (br_t rfl ⟨1, br_f (by decide) (br_t rfl ⟨rfl, J⟩)⟩)
theorem i_vc_exponent {k : Nat} {u : SX} {v : SY} (I : i_Rel k u v) (hk : k + 4 ≤ 2049) (v1 : Int32) : wpX_exponent (fun r => wpY_exponent (fun r' => r' = r ∧ i_Rel (k + 4) u v) v v1) u v1 := by
  have J := I
  obtain ⟨p, how, fl, a, z, top, low, sq, un, ov, hu, ho, h2, h10, hh, hz, rfl, rfl⟩ := I
  unfold wpX_exponent
  dsimp only
  by_cases c : rf_R v1
  · obtain ⟨i, hi, rfl⟩ := c
    obtain ⟨hF, ha⟩ := hz i hi
    obtain ⟨m, kk, M⟩ := rf_MK_ex h10 hF
    have zb := rf_zb h10 hF
    refine rf_xreg1 hi (br_f rf_ne01 ⟨rf_vin hi, ?_⟩)
    rw [rf_cl hi, ha, rf_0, rf_eq (rf_Bn (by omega)) rf_b0]
    by_cases x0 : z i = 0
    · refine br_t x0 (rf_yexp hi M ⟨?_, J⟩)
      have k0 : kk = 12 := by
        have h := M.1
        rcases M.2.1 with o | o
        · exact absurd (h.symm.trans x0) (rf_nz o kk)
        · exact o.2.2
      rw [k0]
      decide
    · refine br_f x0 ⟨rf_vin hi, rf_xtw x0 M (rf_yexp hi M ⟨?_, J⟩)⟩
      have e12 : (12 : Int32) = rf_i 12 := by decide
      rw [rf_inI, e12, rf_isub]
  · refine rf_xreg0 c (br_t rfl ?_)
    unfold wpY_exponent
    dsimp only
    exact rf_yis0 c (br_t rfl (br_t rfl ⟨1, br_f (by decide) (br_t rfl ⟨rfl, J⟩)⟩))
theorem rf_ycm {post : Int32 → Prop} {b w fl sq hu ho : Int32} {r0 r1 r2 r3 top low un ov : Int64} {x y : Int} (hx : x.natAbs < 8589934592) (hy : y.natAbs < 8589934592)
    (h0 : x = y → post 0) (h1 : y < x → post 1) (h2 : x < y → post (-1)) : wY_compare_51 post (rf_l x) (rf_l y) b w fl r0 r1 r2 r3 top low sq un ov hu ho := by
  unfold wY_compare_51
  rw [rf_le (rf_Bn (by omega)) (rf_Bn (by omega)), rf_le (rf_Bn (by omega)) (rf_Bn (by omega))]
  exact br_c (fun c => br_c (fun d => h0 (by omega)) (fun d => h1 (by omega))) (fun c => h2 (by omega))
theorem rf_ycm0 {post : Int32 → Prop} {b w fl sq hu ho : Int32} {r0 r1 r2 r3 top low un ov : Int64} {v1 v2 : Int32} (c : ¬ (rf_R v1 ∧ rf_R v2)) (h : post 0) : wY_compare_24 post v1 v2 b w fl r0 r1 r2 r3 top low sq un ov hu ho := by
  have h51 : wY_compare_51 post 0 0 b w fl r0 r1 r2 r3 top low sq un ov hu ho := br_t (by decide) (br_t (by decide) h)
  unfold wY_compare_24 wY_compare_25 wY_compare_50
  by_cases c1 : rf_R v1
  · by_cases c2 : rf_R v2
    · exact absurd ⟨c1, c2⟩ c
    · obtain ⟨i, hi, rfl⟩ := c1
      exact rf_yis1 hi (br_f rf_ne01 (rf_yis0 c2 (br_t rfl h51)))
  · exact rf_yis0 c1 (br_t rfl h51)
theorem i_vc_compare {k : Nat} {u : SX} {v : SY} (I : i_Rel k u v) (hk : k + 4 ≤ 2049) (v1 : Int32) (v2 : Int32) : wpX_compare (fun r => wpY_compare (fun r' => r' = r ∧ i_Rel (k + 4) u v) v v1 v2) u v1 v2 := by
  have J := I
  obtain ⟨p, how, fl, a, z, top, low, sq, un, ov, hu, ho, h2, h10, hh, hz, rfl, rfl⟩ := I
  unfold wpX_compare wpY_compare
  dsimp only
  by_cases c1 : rf_R v1
  · by_cases c2 : rf_R v2
    · obtain ⟨i, hi, rfl⟩ := c1
      obtain ⟨j, hj, rfl⟩ := c2
      obtain ⟨hF, ha⟩ := hz i hi
      obtain ⟨hG, hb⟩ := hz j hj
      have zb := rf_zb h10 hF
      have zc := rf_zb h10 hG
      have YY : ∀ r : Int32, (z i = z j → 0 = r) → (z j < z i → 1 = r) → (z i < z j → -1 = r) → wpY_is (fun r_1 => (r_1 = 0 → wY_compare_24 (fun r' => r' = r ∧ i_Rel (k + 4) (nI p, rf_l (rf_Gr p : Int), nI how, fl, a) (nI p, nI how, fl, rf_l (z 0), rf_l (z 1), rf_l (z 2), rf_l (z 3), top, low, sq, un, ov, hu, ho)) (nI i) (nI j) (nI p) (nI how) fl (rf_l (z 0)) (rf_l (z 1)) (rf_l (z 2)) (rf_l (z 3)) top low sq un ov hu ho) ∧ (¬ r_1 = 0 → wpY_is (fun r_66 => (r_66 = 0 → wY_compare_24 (fun r' => r' = r ∧ i_Rel (k + 4) (nI p, rf_l (rf_Gr p : Int), nI how, fl, a) (nI p, nI how, fl, rf_l (z 0), rf_l (z 1), rf_l (z 2), rf_l (z 3), top, low, sq, un, ov, hu, ho)) (nI i) (nI j) (nI p) (nI how) fl (rf_l (z 0)) (rf_l (z 1)) (rf_l (z 2)) (rf_l (z 3)) top low sq un ov hu ho) ∧ (¬ r_66 = 0 → wpY_get (fun r_82 => wY_compare_25 (fun r' => r' = r ∧ i_Rel (k + 4) (nI p, rf_l (rf_Gr p : Int), nI how, fl, a) (nI p, nI how, fl, rf_l (z 0), rf_l (z 1), rf_l (z 2), rf_l (z 3), top, low, sq, un, ov, hu, ho)) (nI i) (nI j) r_82 (nI p) (nI how) fl (rf_l (z 0)) (rf_l (z 1)) (rf_l (z 2)) (rf_l (z 3)) top low sq un ov hu ho) (nI p, nI how, fl, rf_l (z 0), rf_l (z 1), rf_l (z 2), rf_l (z 3), top, low, sq, un, ov, hu, ho) (nI i))) (nI p, nI how, fl, rf_l (z 0), rf_l (z 1), rf_l (z 2), rf_l (z 3), top, low, sq, un, ov, hu, ho) (nI j))) (nI p, nI how, fl, rf_l (z 0), rf_l (z 1), rf_l (z 2), rf_l (z 3), top, low, sq, un, ov, hu, ho) (nI i) := by
        intro r q0 q1 q2
        refine rf_yis1 hi (br_f rf_ne01 (rf_yis1 hj (br_f rf_ne01 (rf_yget hi ?_))))
        unfold wY_compare_25
        refine rf_yis1 hi (br_f rf_ne01 (rf_yis1 hj (br_f rf_ne01 (rf_yget hj ?_))))
        exact rf_ycm zb zc (fun e => ⟨q0 e, J⟩) (fun e => ⟨q1 e, J⟩) (fun e => ⟨q2 e, J⟩)
      refine rf_xreg1 hi (br_f rf_ne01 (rf_xreg1 hj (br_f rf_ne01 ⟨rf_vin hi, rf_vin hj, ?_⟩)))
      rw [rf_cl hi, rf_cl hj, ha, hb, rf_eq (rf_Bn (by omega)) (rf_Bn (by omega)), rf_le (rf_Bn (by omega)) (rf_Bn (by omega))]
      refine br_c (fun e => YY 0 (fun _ => rfl) (fun d => by omega) (fun d => by omega)) (fun e => ⟨rf_vin hi, rf_vin hj, br_c (fun d => YY 1 (fun d => by omega) (fun _ => rfl) (fun d => by omega)) (fun d => YY (-1) (fun d => by omega) (fun d => by omega) (fun _ => rfl))⟩)
    · obtain ⟨i, hi, rfl⟩ := c1
      exact rf_xreg1 hi (br_f rf_ne01 (rf_xreg0 c2 (br_t rfl (rf_yis1 hi (br_f rf_ne01 (rf_yis0 c2 (br_t rfl (rf_ycm0 (fun h => c2 h.2) ⟨rfl, J⟩))))))))
  · exact rf_xreg0 c1 (br_t rfl (rf_yis0 c1 (br_t rfl (rf_ycm0 (fun h => c1 h.1) ⟨rfl, J⟩))))
end
section
theorem rf_yadd {post : Int32 → SY → Prop} {p how i x y : Nat} {fl sq hu ho : Int32} {top low un ov : Int64} {z : Nat → Int} {q : Int} (h2 : 2 ≤ p) (h10 : p ≤ 10) (hh : how < 4) (hi : i < 4) (hx : x < 4) (hy : y < 4) (A : rf_Ag q (rf_l (z x + z y)) (rf_l 1) 0)
    (h : ∀ r f top low sq un ov hu ho, rf_Out p how q r f → post (nI f) (nI p, nI how, fl ||| nI f, rf_l (rf_up z i r 0), rf_l (rf_up z i r 1), rf_l (rf_up z i r 2), rf_l (rf_up z i r 3), top, low, sq, un, ov, hu, ho)) : wpY_add post (nI p, nI how, fl, rf_l (z 0), rf_l (z 1), rf_l (z 2), rf_l (z 3), top, low, sq, un, ov, hu, ho) (nI i) (nI x) (nI y) := by
  unfold wpY_add
  dsimp only
  refine rf_yis1 hi (br_f rf_ne01 (rf_yis1 hx (br_f rf_ne01 (rf_yis1 hy (br_f rf_ne01 (rf_yget hx (rf_yget hy ?_)))))))
  unfold wpY_exact
  dsimp only
  rw [rf_add, rf_1]
  exact rf_yround h2 h10 hh hi A (fun r f un ov hu ho hO => h _ _ _ _ _ _ _ _ _ hO)
theorem rf_yadd0 {post : Int32 → SY → Prop} {v : SY} {v1 v2 v3 : Int32} (c : ¬ (rf_R v1 ∧ rf_R v2 ∧ rf_R v3)) (h : post (-1) v) : wpY_add post v v1 v2 v3 := by
  obtain ⟨b, w, fl, r0, r1, r2, r3, top, low, sq, un, ov, hu, ho⟩ := v
  unfold wpY_add
  dsimp only
  by_cases c1 : rf_R v1
  · by_cases c2 : rf_R v2
    · by_cases c3 : rf_R v3
      · exact absurd ⟨c1, c2, c3⟩ c
      · obtain ⟨i, hi, rfl⟩ := c1
        obtain ⟨j, hj, rfl⟩ := c2
        exact rf_yis1 hi (br_f rf_ne01 (rf_yis1 hj (br_f rf_ne01 (rf_yis0 c3 (br_t rfl h)))))
    · obtain ⟨i, hi, rfl⟩ := c1
      exact rf_yis1 hi (br_f rf_ne01 (rf_yis0 c2 (br_t rfl h)))
  · exact rf_yis0 c1 (br_t rfl h)
theorem rf_ysub {post : Int32 → SY → Prop} {p how i x y : Nat} {fl sq hu ho : Int32} {top low un ov : Int64} {z : Nat → Int} {q : Int} (h2 : 2 ≤ p) (h10 : p ≤ 10) (hh : how < 4) (hi : i < 4) (hx : x < 4) (hy : y < 4) (A : rf_Ag q (rf_l (z x - z y)) (rf_l 1) 0)
    (h : ∀ r f top low sq un ov hu ho, rf_Out p how q r f → post (nI f) (nI p, nI how, fl ||| nI f, rf_l (rf_up z i r 0), rf_l (rf_up z i r 1), rf_l (rf_up z i r 2), rf_l (rf_up z i r 3), top, low, sq, un, ov, hu, ho)) : wpY_sub post (nI p, nI how, fl, rf_l (z 0), rf_l (z 1), rf_l (z 2), rf_l (z 3), top, low, sq, un, ov, hu, ho) (nI i) (nI x) (nI y) := by
  unfold wpY_sub
  dsimp only
  refine rf_yis1 hi (br_f rf_ne01 (rf_yis1 hx (br_f rf_ne01 (rf_yis1 hy (br_f rf_ne01 (rf_yget hx (rf_yget hy ?_)))))))
  unfold wpY_exact
  dsimp only
  rw [rf_sub, rf_1]
  exact rf_yround h2 h10 hh hi A (fun r f un ov hu ho hO => h _ _ _ _ _ _ _ _ _ hO)
theorem rf_ysub0 {post : Int32 → SY → Prop} {v : SY} {v1 v2 v3 : Int32} (c : ¬ (rf_R v1 ∧ rf_R v2 ∧ rf_R v3)) (h : post (-1) v) : wpY_sub post v v1 v2 v3 := by
  obtain ⟨b, w, fl, r0, r1, r2, r3, top, low, sq, un, ov, hu, ho⟩ := v
  unfold wpY_sub
  dsimp only
  by_cases c1 : rf_R v1
  · by_cases c2 : rf_R v2
    · by_cases c3 : rf_R v3
      · exact absurd ⟨c1, c2, c3⟩ c
      · obtain ⟨i, hi, rfl⟩ := c1
        obtain ⟨j, hj, rfl⟩ := c2
        exact rf_yis1 hi (br_f rf_ne01 (rf_yis1 hj (br_f rf_ne01 (rf_yis0 c3 (br_t rfl h)))))
    · obtain ⟨i, hi, rfl⟩ := c1
      exact rf_yis1 hi (br_f rf_ne01 (rf_yis0 c2 (br_t rfl h)))
  · exact rf_yis0 c1 (br_t rfl h)
theorem rf_ymul0 {post : Int32 → SY → Prop} {v : SY} {v1 v2 v3 : Int32} (c : ¬ (rf_R v1 ∧ rf_R v2 ∧ rf_R v3)) (h : post (-1) v) : wpY_mul post v v1 v2 v3 := by
  obtain ⟨b, w, fl, r0, r1, r2, r3, top, low, sq, un, ov, hu, ho⟩ := v
  unfold wpY_mul
  dsimp only
  by_cases c1 : rf_R v1
  · by_cases c2 : rf_R v2
    · by_cases c3 : rf_R v3
      · exact absurd ⟨c1, c2, c3⟩ c
      · obtain ⟨i, hi, rfl⟩ := c1
        obtain ⟨j, hj, rfl⟩ := c2
        exact rf_yis1 hi (br_f rf_ne01 (rf_yis1 hj (br_f rf_ne01 (rf_yis0 c3 (br_t rfl h)))))
    · obtain ⟨i, hi, rfl⟩ := c1
      exact rf_yis1 hi (br_f rf_ne01 (rf_yis0 c2 (br_t rfl h)))
  · exact rf_yis0 c1 (br_t rfl h)
theorem rf_ydiv0 {post : Int32 → SY → Prop} {v : SY} {v1 v2 v3 : Int32} (c : ¬ (rf_R v1 ∧ rf_R v2 ∧ rf_R v3)) (h : post (-1) v) : wpY_div post v v1 v2 v3 := by
  obtain ⟨b, w, fl, r0, r1, r2, r3, top, low, sq, un, ov, hu, ho⟩ := v
  unfold wpY_div
  dsimp only
  by_cases c1 : rf_R v1
  · by_cases c2 : rf_R v2
    · by_cases c3 : rf_R v3
      · exact absurd ⟨c1, c2, c3⟩ c
      · obtain ⟨i, hi, rfl⟩ := c1
        obtain ⟨j, hj, rfl⟩ := c2
        exact rf_yis1 hi (br_f rf_ne01 (rf_yis1 hj (br_f rf_ne01 (rf_yis0 c3 (br_t rfl h)))))
    · obtain ⟨i, hi, rfl⟩ := c1
      exact rf_yis1 hi (br_f rf_ne01 (rf_yis0 c2 (br_t rfl h)))
  · exact rf_yis0 c1 (br_t rfl h)
theorem i_vc_add {k : Nat} {u : SX} {v : SY} (I : i_Rel k u v) (hk : k + 4 ≤ 2049) (v1 : Int32) (v2 : Int32) (v3 : Int32) : wpX_add (fun r u' => wpY_add (fun r' v' => r' = r ∧ i_Rel (k + 4) u' v') v v1 v2 v3) u v1 v2 v3 := by
  have J := I
  obtain ⟨p, how, fl, a, z, top, low, sq, un, ov, hu, ho, h2, h10, hh, hz, rfl, rfl⟩ := I
  unfold wpX_add
  dsimp only
  by_cases c : rf_R v1 ∧ rf_R v2 ∧ rf_R v3
  · obtain ⟨⟨i, hi, rfl⟩, ⟨x, hx, rfl⟩, ⟨y, hy, rfl⟩⟩ := c
    have bx := rf_zb h10 (hz x hx).1
    have by' := rf_zb h10 (hz y hy).1
    refine rf_xars1 hi hx hy (br_f rf_ne01 ⟨rf_vin hx, rf_vin hy, ?_⟩)
    rw [rf_cl hx, rf_cl hy, (hz x hx).2, (hz y hy).2, rf_add]
    refine nm_e ?_
    rw [rf_shlc _ 2 2 (by decide) rfl]
    have e4 : (z x + z y) * ((2 ^ 2 : Nat) : Int) = 4 * (z x + z y) := by omega
    rw [e4]
    refine rf_xput h2 h10 hh hi (by omega) (fun r f hO => ?_)
    exact rf_yadd h2 h10 hh hi hx hy (rf_Ag_s (by omega) (by omega)) (fun r' f' top low sq un ov hu ho hO' => rf_fin h2 h10 hh hz hO hO')
  · exact rf_xars0 c (br_t rfl (rf_yadd0 c ⟨rfl, J⟩))
theorem i_vc_sub {k : Nat} {u : SX} {v : SY} (I : i_Rel k u v) (hk : k + 4 ≤ 2049) (v1 : Int32) (v2 : Int32) (v3 : Int32) : wpX_sub (fun r u' => wpY_sub (fun r' v' => r' = r ∧ i_Rel (k + 4) u' v') v v1 v2 v3) u v1 v2 v3 := by
  have J := I
  obtain ⟨p, how, fl, a, z, top, low, sq, un, ov, hu, ho, h2, h10, hh, hz, rfl, rfl⟩ := I
  unfold wpX_sub
  dsimp only
  by_cases c : rf_R v1 ∧ rf_R v2 ∧ rf_R v3
  · obtain ⟨⟨i, hi, rfl⟩, ⟨x, hx, rfl⟩, ⟨y, hy, rfl⟩⟩ := c
    have bx := rf_zb h10 (hz x hx).1
    have by' := rf_zb h10 (hz y hy).1
    refine rf_xars1 hi hx hy (br_f rf_ne01 ⟨rf_vin hx, rf_vin hy, ?_⟩)
    rw [rf_cl hx, rf_cl hy, (hz x hx).2, (hz y hy).2, rf_sub]
    refine nm_e ?_
    rw [rf_shlc _ 2 2 (by decide) rfl]
    have e4 : (z x - z y) * ((2 ^ 2 : Nat) : Int) = 4 * (z x - z y) := by omega
    rw [e4]
    refine rf_xput h2 h10 hh hi (by omega) (fun r f hO => ?_)
    exact rf_ysub h2 h10 hh hi hx hy (rf_Ag_s (by omega) (by omega)) (fun r' f' top low sq un ov hu ho hO' => rf_fin h2 h10 hh hz hO hO')
  · exact rf_xars0 c (br_t rfl (rf_ysub0 c ⟨rfl, J⟩))
end
section
theorem rf_ymul {post : Int32 → SY → Prop} {p how i : Nat} {fl sq hu ho : Int32} {top low un ov : Int64} {z : Nat → Int} {q : Int} (h2 : 2 ≤ p) (h10 : p ≤ 10) (hh : how < 4) (hi : i < 4) {x y : Nat} (hx : x < 4) (hy : y < 4) (Fx : rf_F p (z x)) (Fy : rf_F p (z y)) (A : ∀ t l, rf_TL (z x * z y) 0 t l → rf_Ag q (rf_l t) (rf_l l) 0)
    (h : ∀ r f top low sq un ov hu ho, rf_Out p how q r f → post (nI f) (nI p, nI how, fl ||| nI f, rf_l (rf_up z i r 0), rf_l (rf_up z i r 1), rf_l (rf_up z i r 2), rf_l (rf_up z i r 3), top, low, sq, un, ov, hu, ho)) : wpY_mul post (nI p, nI how, fl, rf_l (z 0), rf_l (z 1), rf_l (z 2), rf_l (z 3), top, low, sq, un, ov, hu, ho) (nI i) (nI x) (nI y) := by
  unfold wpY_mul
  dsimp only
  refine rf_yis1 hi (br_f rf_ne01 (rf_yis1 hx (br_f rf_ne01 (rf_yis1 hy (br_f rf_ne01 ?_)))))
  rw [rf_0]
  exact rf_yprod h10 hx hy Fx Fy (fun t l hT => rf_yround h2 h10 hh hi (A t l hT) (fun r f un ov hu ho hO => h _ _ _ _ _ _ _ _ _ hO))
theorem rf_yfuse {post : Int32 → SY → Prop} {p how i : Nat} {fl sq hu ho : Int32} {top low un ov : Int64} {z : Nat → Int} {q : Int} (h2 : 2 ≤ p) (h10 : p ≤ 10) (hh : how < 4) (hi : i < 4) {x y c t : Nat} (hx : x < 4) (hy : y < 4) (hc : c < 4) (ht : t < 64) (ex : nI t &&& 3 = nI x) (ey : (nI t >>> ((2 : Int32) &&& 31)) &&& 3 = nI y) (ec : nI t >>> ((4 : Int32) &&& 31) = nI c) (Fx : rf_F p (z x)) (Fy : rf_F p (z y)) (A : ∀ t l, rf_TL (z x * z y) (z c) t l → rf_Ag q (rf_l t) (rf_l l) 0)
    (h : ∀ r f top low sq un ov hu ho, rf_Out p how q r f → post (nI f) (nI p, nI how, fl ||| nI f, rf_l (rf_up z i r 0), rf_l (rf_up z i r 1), rf_l (rf_up z i r 2), rf_l (rf_up z i r 3), top, low, sq, un, ov, hu, ho)) : wpY_fuse post (nI p, nI how, fl, rf_l (z 0), rf_l (z 1), rf_l (z 2), rf_l (z 3), top, low, sq, un, ov, hu, ho) (nI i) (nI t) := by
  unfold wpY_fuse
  dsimp only
  refine rf_yis1 hi (br_f rf_ne01 (br_f (nI_pos (by omega)) (br_t (nI_le (a := t) (b := 63) (by omega) (by omega)) ?_)))
  rw [ex, ey, ec]
  exact rf_yget hc (rf_yprod h10 hx hy Fx Fy (fun t l hT => rf_yround h2 h10 hh hi (A t l hT) (fun r f un ov hu ho hO => h _ _ _ _ _ _ _ _ _ hO)))
theorem rf_yfuse0 {post : Int32 → SY → Prop} {v : SY} {v1 v2 : Int32} (c : ¬ (rf_R v1 ∧ ¬ v2 < 0 ∧ v2 ≤ 63)) (h : post (-1) v) : wpY_fuse post v v1 v2 := by
  obtain ⟨b, w, fl, r0, r1, r2, r3, top, low, sq, un, ov, hu, ho⟩ := v
  unfold wpY_fuse
  dsimp only
  by_cases c1 : rf_R v1
  · obtain ⟨i, hi, rfl⟩ := c1
    refine rf_yis1 hi (br_f rf_ne01 (br_c (fun _ => h) (fun c2 => br_c (fun c3 => ?_) (fun _ => h))))
    exact absurd ⟨⟨i, hi, rfl⟩, c2, c3⟩ c
  · exact rf_yis0 c1 (br_t rfl h)
theorem rf_wbb {N : Int} (h : N.natAbs ≤ 2251799813685248) : (rf_wb N 1024).natAbs < 4611686018427387904 := by
  have := rf_wb_b N 1024
  omega
theorem i_vc_mul {k : Nat} {u : SX} {v : SY} (I : i_Rel k u v) (hk : k + 4 ≤ 2049) (v1 : Int32) (v2 : Int32) (v3 : Int32) : wpX_mul (fun r u' => wpY_mul (fun r' v' => r' = r ∧ i_Rel (k + 4) u' v') v v1 v2 v3) u v1 v2 v3 := by
  have J := I
  obtain ⟨p, how, fl, a, z, top, low, sq, un, ov, hu, ho, h2, h10, hh, hz, rfl, rfl⟩ := I
  unfold wpX_mul
  dsimp only
  by_cases c : rf_R v1 ∧ rf_R v2 ∧ rf_R v3
  · obtain ⟨⟨i, hi, rfl⟩, ⟨x, hx, rfl⟩, ⟨y, hy, rfl⟩⟩ := c
    have Fx := (hz x hx).1
    have Fy := (hz y hy).1
    have bx := rf_zb h10 Fx
    have by' := rf_zb h10 Fy
    refine rf_xars1 hi hx hy (br_f rf_ne01 ⟨rf_vin hx, rf_vin hy, ?_⟩)
    rw [rf_cl hx, rf_cl hy, (hz x hx).2, (hz y hy).2]
    have key : ∀ Q : Int, Q.natAbs ≤ 1125899906842624 → ((z x * z y).natAbs ≤ 1125899906842624 ∧ Q = z x * z y) ∨ (1125899906842624 < (z x * z y).natAbs ∧ 0 < z x * z y ∧ Q = 1125899906842624) ∨ (1125899906842624 < (z x * z y).natAbs ∧ z x * z y < 0 ∧ Q = -1125899906842624) → ∀ r f, rf_Out p how (rf_wb Q 1024) r f →
        wpY_mul (fun r' v' => r' = nI f ∧ i_Rel (k + 4) (nI p, rf_l (rf_Gr p : Int), nI how, fl ||| nI f, vp_updL a i (rf_l r)) v') (nI p, nI how, fl, rf_l (z 0), rf_l (z 1), rf_l (z 2), rf_l (z 3), top, low, sq, un, ov, hu, ho) (nI i) (nI x) (nI y) := by
      intro Q hQb hQ r f hO
      refine rf_ymul h2 h10 hh hi hx hy Fx Fy (fun t l hT => ?_) (fun r' f' top low sq un ov hu ho hO' => rf_fin h2 h10 hh hz hO hO')
      have A := rf_Ag_mul (P := z x * z y) (C := 0) (by omega) hT hQ
      rw [show Q + 0 * 4096 = Q by omega] at A
      exact A
    refine rf_xprod bx by' (fun c => ?_) (fun c d => ?_) (fun c d => ?_)
    · refine rf_xwb (by omega) 10 10 (by omega) rfl (rf_xput h2 h10 hh hi (rf_wbb (by omega)) (fun r f hO => ?_))
      exact key _ c (Or.inl ⟨c, rfl⟩) r f hO
    · refine rf_xwb (by omega) 10 10 (by omega) rfl (rf_xput h2 h10 hh hi (rf_wbb (by omega)) (fun r f hO => ?_))
      exact key 1125899906842624 (by omega) (Or.inr (Or.inl ⟨c, d, rfl⟩)) r f hO
    · refine rf_xwb (by omega) 10 10 (by omega) rfl (rf_xput h2 h10 hh hi (rf_wbb (by omega)) (fun r f hO => ?_))
      exact key (-1125899906842624) (by omega) (Or.inr (Or.inr ⟨c, d, rfl⟩)) r f hO
  · exact rf_xars0 c (br_t rfl (rf_ymul0 c ⟨rfl, J⟩))
theorem i_vc_fuse {k : Nat} {u : SX} {v : SY} (I : i_Rel k u v) (hk : k + 4 ≤ 2049) (v1 : Int32) (v2 : Int32) : wpX_fuse (fun r u' => wpY_fuse (fun r' v' => r' = r ∧ i_Rel (k + 4) u' v') v v1 v2) u v1 v2 := by
  have J := I
  obtain ⟨p, how, fl, a, z, top, low, sq, un, ov, hu, ho, h2, h10, hh, hz, rfl, rfl⟩ := I
  unfold wpX_fuse
  dsimp only
  by_cases c : rf_R v1 ∧ ¬ v2 < 0 ∧ v2 ≤ 63
  · obtain ⟨⟨i, hi, rfl⟩, c2, c3⟩ := c
    obtain ⟨t, ht, rfl⟩ := nI_of c2
    have t63 := (nI_leI (a := t) (b := 63) ht (by omega)).mp c3
    obtain ⟨ex, ey, ec1, ec⟩ := rf_f3 t (by omega)
    have hx : t % 4 < 4 := by omega
    have hy : t / 4 % 4 < 4 := by omega
    have hc : t / 16 < 4 := by omega
    generalize t % 4 = x at *
    generalize t / 4 % 4 = y at *
    generalize t / 16 = c at *
    have Fx := (hz x hx).1
    have Fy := (hz y hy).1
    have Fc := (hz c hc).1
    have bx := rf_zb h10 Fx
    have by' := rf_zb h10 Fy
    have bc := rf_zb h10 Fc
    have key : ∀ Q : Int, Q.natAbs ≤ 1125899906842624 → ((z x * z y).natAbs ≤ 1125899906842624 ∧ Q = z x * z y) ∨ (1125899906842624 < (z x * z y).natAbs ∧ 0 < z x * z y ∧ Q = 1125899906842624) ∨ (1125899906842624 < (z x * z y).natAbs ∧ z x * z y < 0 ∧ Q = -1125899906842624) → ∀ r f, rf_Out p how (rf_wb (Q + z c * 4096) 1024) r f →
        wpY_fuse (fun r' v' => r' = nI f ∧ i_Rel (k + 4) (nI p, rf_l (rf_Gr p : Int), nI how, fl ||| nI f, vp_updL a i (rf_l r)) v') (nI p, nI how, fl, rf_l (z 0), rf_l (z 1), rf_l (z 2), rf_l (z 3), top, low, sq, un, ov, hu, ho) (nI i) (nI t) := by
      intro Q hQb hQ r f hO
      exact rf_yfuse h2 h10 hh hi hx hy hc (by omega) ex ey ec Fx Fy (fun t l hT => rf_Ag_mul (P := z x * z y) (C := z c) (by omega) hT hQ) (fun r' f' top low sq un ov hu ho hO' => rf_fin h2 h10 hh hz hO hO')
    refine rf_xreg1 hi (br_f rf_ne01 (br_f c2 (br_t c3 (nm_r ex (nm_r ey (nm_r ec1 ⟨rf_vin hx, rf_vin hy, ?_⟩))))))
    rw [rf_cl hx, rf_cl hy, rf_cl hc, (hz x hx).2, (hz y hy).2, (hz c hc).2, rf_shlc _ 12 12 (by decide) rfl]
    have e12 : z c * ((2 ^ 12 : Nat) : Int) = z c * 4096 := rfl
    rw [e12]
    refine rf_xprod bx by' (fun c => ⟨rf_vin hc, ?_⟩) (fun c d => ⟨rf_vin hc, ?_⟩) (fun c d => ⟨rf_vin hc, ?_⟩)
    · refine nm_r (rf_add _ _) (rf_xwb (by omega) 10 10 (by omega) rfl (rf_xput h2 h10 hh hi (rf_wbb (by omega)) (fun r f hO => ?_)))
      exact key _ c (Or.inl ⟨c, rfl⟩) r f hO
    · refine nm_r (rf_add _ _) (rf_xwb (by omega) 10 10 (by omega) rfl (rf_xput h2 h10 hh hi (rf_wbb (by omega)) (fun r f hO => ?_)))
      exact key 1125899906842624 (by omega) (Or.inr (Or.inl ⟨c, d, rfl⟩)) r f hO
    · refine nm_r (rf_add _ _) (rf_xwb (by omega) 10 10 (by omega) rfl (rf_xput h2 h10 hh hi (rf_wbb (by omega)) (fun r f hO => ?_)))
      exact key (-1125899906842624) (by omega) (Or.inr (Or.inr ⟨c, d, rfl⟩)) r f hO
  · have Y : ∀ X : SX, X = (nI p, rf_l (rf_Gr p : Int), nI how, fl, a) → wpY_fuse (fun r' v' => r' = -1 ∧ i_Rel (k + 4) X v') (nI p, nI how, fl, rf_l (z 0), rf_l (z 1), rf_l (z 2), rf_l (z 3), top, low, sq, un, ov, hu, ho) v1 v2 := by
      intro X hX
      subst hX
      exact rf_yfuse0 c ⟨rfl, J⟩
    by_cases c1 : rf_R v1
    · obtain ⟨i, hi, rfl⟩ := c1
      refine rf_xreg1 hi (br_f rf_ne01 (br_c (fun _ => Y _ rfl) (fun c2 => br_c (fun c3 => ?_) (fun _ => Y _ rfl))))
      exact absurd ⟨⟨i, hi, rfl⟩, c2, c3⟩ c
    · exact rf_xreg0 c1 (br_t rfl (Y _ rfl))
end
section
theorem rf_yl70 {post : Int32 → SY → Prop} {p how i : Nat} {fl sq hu ho : Int32} {top low un ov : Int64} {z : Nat → Int} {q : Int} (h2 : 2 ≤ p) (h10 : p ≤ 10) (hh : how < 4) (hi : i < 4) {T L : Int} (A : rf_Ag q (rf_l T) (rf_l L) 0)
    (h : ∀ r f top low sq un ov hu ho, rf_Out p how q r f → post (nI f) (nI p, nI how, fl ||| nI f, rf_l (rf_up z i r 0), rf_l (rf_up z i r 1), rf_l (rf_up z i r 2), rf_l (rf_up z i r 3), top, low, sq, un, ov, hu, ho)) : wY_load_70 post (nI i) (rf_l L) (rf_l T) (nI p) (nI how) fl (rf_l (z 0)) (rf_l (z 1)) (rf_l (z 2)) (rf_l (z 3)) top low sq un ov hu ho := by
  unfold wY_load_70 wpY_exact
  dsimp only
  exact rf_yround h2 h10 hh hi A (fun r f un ov hu ho hO => h _ _ _ _ _ _ _ _ _ hO)
def rf_L (v2 v3 : Int32) : Prop := ¬ v2 < (-1000000) ∧ ¬ 1000000 < v2 ∧ ¬ v3 < (-20) ∧ ¬ 20 < v3
theorem rf_xld1 {post : Int32 → Prop} {v2 v3 : Int32} (c : rf_L v2 v3) (h : post 1) : wpX_isLoadable post v2 v3 :=
  br_f c.1 (br_f c.2.1 (br_f c.2.2.1 (br_f c.2.2.2 h)))
theorem rf_xld0 {post : Int32 → Prop} {v2 v3 : Int32} (c : ¬ rf_L v2 v3) (h : post 0) : wpX_isLoadable post v2 v3 :=
  br_c (fun _ => h) (fun c1 => br_c (fun _ => h) (fun c2 => br_c (fun _ => h) (fun c3 => br_c (fun _ => h) (fun c4 => absurd ⟨c1, c2, c3, c4⟩ c))))
theorem rf_yload0 {post : Int32 → SY → Prop} {v : SY} {v1 v2 v3 : Int32} (c : ¬ (rf_R v1 ∧ rf_L v2 v3)) (h : post (-1) v) : wpY_load post v v1 v2 v3 := by
  obtain ⟨b, w, fl, r0, r1, r2, r3, top, low, sq, un, ov, hu, ho⟩ := v
  unfold wpY_load
  dsimp only
  by_cases c1 : rf_R v1
  · obtain ⟨i, hi, rfl⟩ := c1
    refine rf_yis1 hi (br_f rf_ne01 (br_c (fun _ => h) (fun c1 => br_c (fun _ => h) (fun c2 => br_c (fun _ => h) (fun c3 => br_c (fun c4 => ?_) (fun _ => h))))))
    exact absurd ⟨⟨i, hi, rfl⟩, c1, c2, c3, Int32.not_lt.mpr c4⟩ c
  · exact rf_yis0 c1 (br_t rfl h)
theorem rf_yload {post : Int32 → SY → Prop} {p how i : Nat} {fl sq hu ho : Int32} {top low un ov : Int64} {z : Nat → Int} {q : Int} (h2 : 2 ≤ p) (h10 : p ≤ 10) (hh : how < 4) (hi : i < 4) {m e : Int} (hm : m.natAbs ≤ 1000000) (he : e.natAbs ≤ 20) (c : rf_L (rf_i m) (rf_i e)) (hq : q = rf_wb (m * ((2 ^ (e + 20).toNat : Nat) : Int)) 64)
    (h : ∀ r f top low sq un ov hu ho, rf_Out p how q r f → post (nI f) (nI p, nI how, fl ||| nI f, rf_l (rf_up z i r 0), rf_l (rf_up z i r 1), rf_l (rf_up z i r 2), rf_l (rf_up z i r 3), top, low, sq, un, ov, hu, ho)) : wpY_load post (nI p, nI how, fl, rf_l (z 0), rf_l (z 1), rf_l (z 2), rf_l (z 3), top, low, sq, un, ov, hu, ho) (nI i) (rf_i m) (rf_i e) := by
  unfold wpY_load
  dsimp only
  refine rf_yis1 hi (br_f rf_ne01 (br_f c.1 (br_f c.2.1 (br_f c.2.2.1 (br_t (Int32.not_lt.mp c.2.2.2) ?_)))))
  have e12 : rf_i e + 12 = rf_i (e + 12) := rf_iadd e 12
  have i0 : (0 : Int32) = rf_i 0 := by decide
  refine nm_r e12 ?_
  unfold wY_load_56
  rw [rf_il (by omega)]
  by_cases d : e + 12 < 0
  · have cc : rf_i (e + 12) < 0 := by
      rw [i0, rf_ilt (by omega) (by omega)]
      exact d
    have en : -rf_i (e + 12) = nI (-(e + 12)).toNat := by
      rw [rf_ineg, rf_inI]
      congr 1
      omega
    refine br_t cc (br_t cc ?_)
    rw [en, rf_1, rf_shlc _ _ (-(e + 12)).toNat (by omega) rfl, Int.one_mul]
    refine rf_yl70 h2 h10 hh hi ?_ h
    have A := rf_Ag_l2 (m := m) (j := (-(e + 12)).toNat) hm (by omega)
    rw [show 8 - (-(e + 12)).toNat = (e + 20).toNat by omega] at A
    rw [hq]
    exact A
  · have cc : ¬ rf_i (e + 12) < 0 := by
      rw [i0, rf_ilt (by omega) (by omega)]
      exact d
    have en : rf_i (e + 12) = nI (e + 12).toNat := by
      rw [rf_inI]
      congr 1
      omega
    refine br_f cc (br_f cc ?_)
    rw [en, rf_1, rf_shlc _ _ (e + 12).toNat (by omega) rfl]
    refine rf_yl70 h2 h10 hh hi ?_ h
    have A := rf_Ag_l1 (m := m) (j := (e + 12).toNat) hm (by omega)
    rw [show (e + 12).toNat + 8 = (e + 20).toNat by omega] at A
    rw [hq]
    exact A
theorem i_vc_load {k : Nat} {u : SX} {v : SY} (I : i_Rel k u v) (hk : k + 4 ≤ 2049) (v1 : Int32) (v2 : Int32) (v3 : Int32) : wpX_load (fun r u' => wpY_load (fun r' v' => r' = r ∧ i_Rel (k + 4) u' v') v v1 v2 v3) u v1 v2 v3 := by
  have J := I
  obtain ⟨p, how, fl, a, z, top, low, sq, un, ov, hu, ho, h2, h10, hh, hz, rfl, rfl⟩ := I
  unfold wpX_load
  dsimp only
  by_cases c1 : rf_R v1
  · by_cases c2 : rf_L v2 v3
    · obtain ⟨i, hi, rfl⟩ := c1
      obtain ⟨m, rfl, m1, m2⟩ := rf_iof v2
      obtain ⟨e, rfl, e1, e2⟩ := rf_iof v3
      have L := c2
      unfold rf_L at L
      have i1 : (-1000000 : Int32) = rf_i (-1000000) := by decide
      have i2 : (1000000 : Int32) = rf_i 1000000 := by decide
      have i3 : (-20 : Int32) = rf_i (-20) := by decide
      have i4 : (20 : Int32) = rf_i 20 := by decide
      rw [Int32.lt_iff_toInt_lt, Int32.lt_iff_toInt_lt, Int32.lt_iff_toInt_lt, Int32.lt_iff_toInt_lt, i1, i2, i3, i4, rf_iti (a := -1000000) (by decide), rf_iti (a := 1000000) (by decide), rf_iti (a := -20) (by decide), rf_iti (a := 20) (by decide)] at L
      have t1 : (rf_i m).toInt = m := Int32.toInt_ofInt_of_le (by omega) (by omega)
      have t2 : (rf_i e).toInt = e := Int32.toInt_ofInt_of_le (by omega) (by omega)
      rw [t1, t2] at L
      have b := rf_pb (m := m) (j := (e + 20).toNat) (A := 1000000) (J := 40) (by omega) (by omega)
      have w := rf_wb_b (m * ((2 ^ (e + 20).toNat : Nat) : Int)) 64
      refine rf_xreg1 hi (br_f rf_ne01 (rf_xld1 c2 (br_f rf_ne01 ?_)))
      refine nm_r (e' := rf_l (m * ((2 ^ (e + 20).toNat : Nat) : Int))) ?_ ?_
      · rw [rf_il (by omega)]
        refine rf_shlc _ _ _ (by omega) ?_
        rw [i4, rf_iadd, rf_inI]
        congr 1
        omega
      · refine rf_xwb (by omega) 6 6 (by omega) rfl (rf_xput h2 h10 hh hi (q := rf_wb (m * ((2 ^ (e + 20).toNat : Nat) : Int)) 64) (by omega) (fun r f hO => ?_))
        exact rf_yload h2 h10 hh hi (by omega) (by omega) c2 rfl (fun r' f' top low sq un ov hu ho hO' => rf_fin h2 h10 hh hz hO hO')
    · obtain ⟨i, hi, rfl⟩ := c1
      exact rf_xreg1 hi (br_f rf_ne01 (rf_xld0 c2 (br_t rfl (rf_yload0 (fun z => c2 z.2) ⟨rfl, J⟩))))
  · exact rf_xreg0 c1 (br_t rfl (rf_yload0 (fun z => c1 z.1) ⟨rfl, J⟩))
theorem rf_yinv {post : Int32 → SY → Prop} {b w fl sq hu ho : Int32} {top low un ov : Int64} {z : Nat → Int} {i : Nat} (hi : i < 4)
    (h : post 4 (b, w, fl ||| 4, rf_l (rf_up z i 0 0), rf_l (rf_up z i 0 1), rf_l (rf_up z i 0 2), rf_l (rf_up z i 0 3), top, low, sq, un, ov, hu, ho)) : wpY_invalid post (b, w, fl, rf_l (z 0), rf_l (z 1), rf_l (z 2), rf_l (z 3), top, low, sq, un, ov, hu, ho) (nI i) := by
  unfold wpY_invalid
  dsimp only
  rw [rf_0]
  exact rf_yput hi (nm_e h)
theorem rf_xinv {post : Int32 → SX → Prop} {D md fl : Int32} {G : Int64} {a : Nat → Int64} {i : Nat} (hi : i < 4) (h : post 4 (D, G, md, fl ||| 4, vp_updL a i (rf_l 0))) : wpX_putInvalid post (D, G, md, fl, a) (nI i) := by
  unfold wpX_putInvalid
  dsimp only
  refine ⟨rf_vin hi, nm_e (nm_e ?_)⟩
  rw [rf_cl hi, rf_0]
  exact h
theorem rf_yroot {post : Int32 → SY → Prop} {p how i : Nat} {fl sq hu ho : Int32} {top low un ov : Int64} {z : Nat → Int} {q : Int} (h2 : 2 ≤ p) (h10 : p ≤ 10) (hh : how < 4) (hi : i < 4) {x : Nat} (hx : x < 4) (hb : (z x).natAbs < 8589934592) (h0 : 0 ≤ z x) (A : ∀ low, rf_Ag q (rf_l (z x * 4096)) low 1)
    (h : ∀ r f top low sq un ov hu ho, rf_Out p how q r f → post (nI f) (nI p, nI how, fl ||| nI f, rf_l (rf_up z i r 0), rf_l (rf_up z i r 1), rf_l (rf_up z i r 2), rf_l (rf_up z i r 3), top, low, sq, un, ov, hu, ho)) : wpY_root post (nI p, nI how, fl, rf_l (z 0), rf_l (z 1), rf_l (z 2), rf_l (z 3), top, low, sq, un, ov, hu, ho) (nI i) (nI x) := by
  unfold wpY_root
  dsimp only
  refine rf_yis1 hi (br_f rf_ne01 (rf_yis1 hx (br_f rf_ne01 (rf_yget hx ?_))))
  refine br_t ?_ (rf_yget hx ?_)
  · rw [rf_0, rf_le rf_b0 (rf_Bn (by omega))]
    exact h0
  · unfold wpY_exact
    dsimp only
    rw [rf_shlc _ 12 12 (by decide) rfl]
    exact rf_yround h2 h10 hh hi (A _) (fun r f un ov hu ho hO => h _ _ _ _ _ _ _ _ _ hO)
theorem rf_yroot1 {post : Int32 → SY → Prop} {b w fl sq hu ho : Int32} {top low un ov : Int64} {z : Nat → Int} {i x : Nat} (hi : i < 4) (hx : x < 4) (hb : (z x).natAbs < 8589934592) (h0 : ¬ 0 ≤ z x)
    (h : post 4 (b, w, fl ||| 4, rf_l (rf_up z i 0 0), rf_l (rf_up z i 0 1), rf_l (rf_up z i 0 2), rf_l (rf_up z i 0 3), top, low, sq, un, ov, hu, ho)) : wpY_root post (b, w, fl, rf_l (z 0), rf_l (z 1), rf_l (z 2), rf_l (z 3), top, low, sq, un, ov, hu, ho) (nI i) (nI x) := by
  unfold wpY_root
  dsimp only
  refine rf_yis1 hi (br_f rf_ne01 (rf_yis1 hx (br_f rf_ne01 (rf_yget hx ?_))))
  refine br_f ?_ (rf_yinv hi h)
  rw [rf_0, rf_le rf_b0 (rf_Bn (by omega))]
  exact h0
theorem rf_yroot0 {post : Int32 → SY → Prop} {v : SY} {v1 v2 : Int32} (c : ¬ (rf_R v1 ∧ rf_R v2)) (h : post (-1) v) : wpY_root post v v1 v2 := by
  obtain ⟨b, w, fl, r0, r1, r2, r3, top, low, sq, un, ov, hu, ho⟩ := v
  unfold wpY_root
  dsimp only
  by_cases c1 : rf_R v1
  · by_cases c2 : rf_R v2
    · exact absurd ⟨c1, c2⟩ c
    · obtain ⟨i, hi, rfl⟩ := c1
      exact rf_yis1 hi (br_f rf_ne01 (rf_yis0 c2 (br_t rfl h)))
  · exact rf_yis0 c1 (br_t rfl h)
theorem i_vc_root {k : Nat} {u : SX} {v : SY} (I : i_Rel k u v) (hk : k + 4 ≤ 2049) (v1 : Int32) (v2 : Int32) : wpX_root (fun r u' => wpY_root (fun r' v' => r' = r ∧ i_Rel (k + 4) u' v') v v1 v2) u v1 v2 := by
  have J := I
  obtain ⟨p, how, fl, a, z, top, low, sq, un, ov, hu, ho, h2, h10, hh, hz, rfl, rfl⟩ := I
  unfold wpX_root
  dsimp only
  by_cases c1 : rf_R v1
  · by_cases c2 : rf_R v2
    · obtain ⟨i, hi, rfl⟩ := c1
      obtain ⟨x, hx, rfl⟩ := c2
      have Fx := (hz x hx).1
      have bx := rf_zb h10 Fx
      refine rf_xreg1 hi (br_f rf_ne01 (rf_xreg1 hx (br_f rf_ne01 ⟨rf_vin hx, ?_⟩)))
      rw [rf_cl hx, (hz x hx).2, rf_0, rf_le rf_b0 (rf_Bn (by omega))]
      by_cases d : 0 ≤ z x
      · obtain ⟨n, hn⟩ : ∃ n : Nat, z x = (n : Int) := ⟨(z x).natAbs, by omega⟩
        refine br_t d ⟨rf_vin hx, ?_⟩
        have R : ∀ f : Nat, f < 33554432 → f * f ≤ n * 65536 → n * 65536 < (f + 1) * (f + 1) → ∀ low, rf_Ag (rf_rq (f : Int) ((n * 65536 : Nat) : Int)) (rf_l (z x * 4096)) low 1 := by
          intro f f1 f2 f3 low
          rw [hn]
          have g2 : ((f * f : Nat) : Int) ≤ ((n * 65536 : Nat) : Int) := Int.ofNat_le.mpr f2
          have g3 : ((n * 65536 : Nat) : Int) < (((f + 1) * (f + 1) : Nat) : Int) := Int.ofNat_lt.mpr f3
          rw [Int.natCast_mul, Int.natCast_mul] at g2 g3
          exact rf_Ag_r (n := (n : Int)) (f := (f : Int)) (by omega) (by omega) (by omega) (by omega) g2 g3
        rw [hn]
        refine rf_xroot (by omega) (fun f f1 f2 f3 => rf_xput h2 h10 hh hi ?_ (fun r g hO => ?_))
        · unfold rf_rq
          split
          · omega
          · omega
        · exact rf_yroot h2 h10 hh hi hx bx d (R f f1 f2 f3) (fun r' f' top low sq un ov hu ho hO' => rf_fin h2 h10 hh hz hO hO')
      · exact br_f d (rf_xinv hi (rf_yroot1 hi hx bx d ⟨rfl, rf_mk h2 h10 hh hz (rf_F_0 p)⟩))
    · obtain ⟨i, hi, rfl⟩ := c1
      exact rf_xreg1 hi (br_f rf_ne01 (rf_xreg0 c2 (br_t rfl (rf_yroot0 (fun z => c2 z.2) ⟨rfl, J⟩))))
  · exact rf_xreg0 c1 (br_t rfl (rf_yroot0 (fun z => c1 z.1) ⟨rfl, J⟩))
end
section
theorem rf_ynd {post : Int32 → SY → Prop} {p : Nat} {w fl sq hu ho : Int32} {top low un ov : Int64} {z : Nat → Int} {i : Nat} (h2 : 2 ≤ p) (h10 : p ≤ 10) (hi : i < 4) (hb : (z i).natAbs < 8589934592)
    (h0 : (∀ x, rf_F p x → 4 * z i - 1 < 4 * x) → ∀ top low sq un ov hu ho, post 0 (nI p, w, fl, rf_l (z 0), rf_l (z 1), rf_l (z 2), rf_l (z 3), top, low, sq, un, ov, hu, ho))
    (h1 : ∀ r, rf_Un p (4 * z i - 1) r → ∀ top low sq un ov hu ho, post 1 (nI p, w, fl, rf_l (rf_up z i r 0), rf_l (rf_up z i r 1), rf_l (rf_up z i r 2), rf_l (rf_up z i r 3), top, low, sq, un, ov, hu, ho)) :
    wpY_next post (nI p, w, fl, rf_l (z 0), rf_l (z 1), rf_l (z 2), rf_l (z 3), top, low, sq, un, ov, hu, ho) (nI i) 0 := by
  unfold wpY_next
  dsimp only
  refine rf_yis1 hi (br_f rf_ne01 (rf_yget hi (br_t rfl ?_)))
  unfold wY_next_38 wpY_exact
  dsimp only
  rw [rf_2, rf_1, rf_mul, rf_sub]
  refine rf_ysearch (by omega) h10 (rf_Ag_n (x := z i) (by omega) (by omega)).2 (fun un ov hu ho hU hO => br_t rfl ?_)
  unfold wY_next_63 wY_next_87
  dsimp only
  rcases rf_IU_F hU with ⟨rfl, n⟩ | ⟨rfl, r, rfl, hr⟩
  · exact br_t rfl ⟨rfl, h0 n _ _ _ _ _ _ _⟩
  · exact br_f rf_ne01 (br_t rfl (rf_yput hi ⟨rfl, h1 r hr _ _ _ _ _ _ _⟩))
theorem rf_ynu {post : Int32 → SY → Prop} {p : Nat} {w fl sq hu ho : Int32} {top low un ov : Int64} {z : Nat → Int} {i : Nat} (h2 : 2 ≤ p) (h10 : p ≤ 10) (hi : i < 4) (hb : (z i).natAbs < 8589934592)
    (h0 : (∀ x, rf_F p x → 4 * x < 4 * z i + 1) → ∀ top low sq un ov hu ho, post 0 (nI p, w, fl, rf_l (z 0), rf_l (z 1), rf_l (z 2), rf_l (z 3), top, low, sq, un, ov, hu, ho))
    (h1 : ∀ r, rf_Ov p (4 * z i + 1) r → ∀ top low sq un ov hu ho, post 1 (nI p, w, fl, rf_l (rf_up z i r 0), rf_l (rf_up z i r 1), rf_l (rf_up z i r 2), rf_l (rf_up z i r 3), top, low, sq, un, ov, hu, ho)) :
    wpY_next post (nI p, w, fl, rf_l (z 0), rf_l (z 1), rf_l (z 2), rf_l (z 3), top, low, sq, un, ov, hu, ho) (nI i) 1 := by
  unfold wpY_next
  dsimp only
  refine rf_yis1 hi (br_f rf_ne01 (rf_yget hi (br_f rf_ne01 ?_)))
  unfold wY_next_38 wpY_exact
  dsimp only
  rw [rf_2, rf_1, rf_mul, rf_add]
  refine rf_ysearch (by omega) h10 (rf_Ag_n (x := z i) (by omega) (by omega)).1 (fun un ov hu ho hU hO => br_f rf_ne01 ?_)
  unfold wY_next_63 wY_next_87
  dsimp only
  rcases rf_IO_F hO with ⟨rfl, n⟩ | ⟨rfl, r, rfl, hr⟩
  · exact br_t rfl ⟨rfl, h0 n _ _ _ _ _ _ _⟩
  · exact br_f rf_ne01 (br_f rf_ne01 (rf_yput hi ⟨rfl, h1 r hr _ _ _ _ _ _ _⟩))
theorem rf_ynext0 {post : Int32 → SY → Prop} {v : SY} {v1 v2 : Int32} (c : ¬ rf_R v1) (h : post 0 v) : wpY_next post v v1 v2 := by
  obtain ⟨b, w, fl, r0, r1, r2, r3, top, low, sq, un, ov, hu, ho⟩ := v
  unfold wpY_next
  dsimp only
  exact rf_yis0 c (br_t rfl h)
theorem i_vc_next {k : Nat} {u : SX} {v : SY} (I : i_Rel k u v) (hk : k + 4 ≤ 2049) (v1 : Int32) (v2 : Int32) : wpX_next (fun r u' => wpY_next (fun r' v' => r' = r ∧ i_Rel (k + 4) u' v') v v1 (lw_bz v2)) u v1 (lw_bz v2) := by
  have J := I
  obtain ⟨p, how, fl, a, z, top, low, sq, un, ov, hu, ho, h2, h10, hh, hz, rfl, rfl⟩ := I
  unfold wpX_next
  dsimp only
  by_cases c1 : rf_R v1
  · obtain ⟨i, hi, rfl⟩ := c1
    have Fi := (hz i hi).1
    have bi := rf_zb h10 Fi
    have gl := rf_Gr_lt h10
    have gb := rf_F_b Fi
    have GF := rf_F_nat (rf_F_Gr (p := p) (by omega))
    refine rf_xreg1 hi (br_f rf_ne01 ⟨rf_vin hi, ?_⟩)
    rw [rf_cl hi, (hz i hi).2]
    refine nm_e ?_
    unfold wX_next_33 wX_next_51 wX_next_72
    have m1 : (-1 : Int32).toInt64 = rf_l (-1) := by decide
    have p1 : (1 : Int32).toInt64 = rf_l 1 := by decide
    rw [rf_neg, rf_shlc _ 2 2 (by decide) rfl, m1, p1, rf_add, rf_add, rf_eq (a := z i) (b := -(rf_Gr p : Int)) (rf_Bn (by omega)) (rf_Bn (by omega)), rf_eq (a := z i) (b := (rf_Gr p : Int)) (rf_Bn (by omega)) (rf_Bn (by omega))]
    have e1 : z i * ((2 ^ 2 : Nat) : Int) + -1 = 4 * z i - 1 := by omega
    have e2 : z i * ((2 ^ 2 : Nat) : Int) + 1 = 4 * z i + 1 := by omega
    rw [e1, e2]
    rcases lw_bz_01 v2 with e | e
    · rw [e]
      refine br_t rfl ?_
      by_cases g : z i = -(rf_Gr p : Int)
      · refine br_t g (rf_ynd h2 h10 hi bi (fun n top low sq un ov hu ho => ⟨rfl, p, how, fl, a, z, top, low, sq, un, ov, hu, ho, h2, h10, hh, hz, rfl, rfl⟩) (fun r hr => ?_))
        have t1 := hr.2.1
        have t2 := (rf_F_b hr.1).1
        omega
      · refine br_f g (br_t rfl (nm_e (br_t rfl ?_)))
        refine rf_xrnd (how := 1) h2 h10 (by omega) (by omega) (fun c => by omega) (fun c => by omega) (fun c r hr => ⟨rf_vin hi, nm_e ?_⟩)
        rw [rf_cl hi]
        obtain ⟨u, o, hu1, ho1, ⟨a1, b1, d1⟩ | ⟨a1, b1, d1⟩⟩ := hr
        · omega
        · have er : r = u := b1
          subst er
          refine rf_ynd h2 h10 hi bi (fun n => ?_) (fun r' hr' top low sq un ov hu ho => ?_)
          · have := n _ (rf_F_neg GF)
            omega
          · cases rf_Un_u hu1 hr'
            exact ⟨rfl, rf_mk h2 h10 hh hz hu1.1⟩
    · rw [e]
      refine br_f rf_ne01 ?_
      by_cases g : z i = (rf_Gr p : Int)
      · refine br_t g (rf_ynu h2 h10 hi bi (fun n top low sq un ov hu ho => ⟨rfl, p, how, fl, a, z, top, low, sq, un, ov, hu, ho, h2, h10, hh, hz, rfl, rfl⟩) (fun r hr => ?_))
        have t1 := hr.2.1
        have t2 := (rf_F_b hr.1).2
        omega
      · refine br_f g (br_f rf_ne01 (nm_e (br_f rf_ne01 ?_)))
        refine rf_xrnd (how := 2) h2 h10 (by omega) (by omega) (fun c => by omega) (fun c => by omega) (fun c r hr => ⟨rf_vin hi, nm_e ?_⟩)
        rw [rf_cl hi]
        obtain ⟨u, o, hu1, ho1, ⟨a1, b1, d1⟩ | ⟨a1, b1, d1⟩⟩ := hr
        · omega
        · have er : r = o := b1
          subst er
          refine rf_ynu h2 h10 hi bi (fun n => ?_) (fun r' hr' top low sq un ov hu ho => ?_)
          · have := n _ GF
            omega
          · cases rf_Ov_u ho1 hr'
            exact ⟨rfl, rf_mk h2 h10 hh hz ho1.1⟩
  · exact rf_xreg0 c1 (br_t rfl (rf_ynext0 c1 ⟨rfl, J⟩))
end
section
theorem rf_yd140 {post : Int32 → SY → Prop} {p how i : Nat} {fl sq hu ho : Int32} {top low un ov : Int64} {z : Nat → Int} {q : Int} (h2 : 2 ≤ p) (h10 : p ≤ 10) (hh : how < 4) (hi : i < 4) {T L : Int} (A : rf_Ag q (rf_l T) (rf_l L) 0)
    (h : ∀ r f top low sq un ov hu ho, rf_Out p how q r f → post (nI f) (nI p, nI how, fl ||| nI f, rf_l (rf_up z i r 0), rf_l (rf_up z i r 1), rf_l (rf_up z i r 2), rf_l (rf_up z i r 3), top, low, sq, un, ov, hu, ho)) : wY_div_140 post (nI i) (rf_l L) (rf_l T) (nI p) (nI how) fl (rf_l (z 0)) (rf_l (z 1)) (rf_l (z 2)) (rf_l (z 3)) top low sq un ov hu ho := by
  unfold wY_div_140 wpY_exact
  dsimp only
  exact rf_yround h2 h10 hh hi A (fun r f un ov hu ho hO => h _ _ _ _ _ _ _ _ _ hO)
theorem rf_yd106 {post : Int32 → SY → Prop} {p how i : Nat} {fl sq hu ho : Int32} {top low un ov : Int64} {z : Nat → Int} {q : Int} (h2 : 2 ≤ p) (h10 : p ≤ 10) (hh : how < 4) (hi : i < 4) {X Y : Int} {ka kb : Nat} (hX : X.natAbs < 1024) (hY : Y.natAbs < 1024) (hka : ka ≤ 32) (hkb : kb ≤ 32) (hYb : (Y * ((2 ^ kb : Nat) : Int)).natAbs < 8589934592)
    (hq : ∀ h, rf_sg (q - 2 * h) = rf_sg (X * ((2 ^ ka : Nat) : Int) * 16384 - 2 * h * (Y * ((2 ^ kb : Nat) : Int))))
    (h : ∀ r f top low sq un ov hu ho, rf_Out p how q r f → post (nI f) (nI p, nI how, fl ||| nI f, rf_l (rf_up z i r 0), rf_l (rf_up z i r 1), rf_l (rf_up z i r 2), rf_l (rf_up z i r 3), top, low, sq, un, ov, hu, ho)) : wY_div_106 post (nI i) (rf_l X) (rf_i ((ka : Int) - (kb : Int) + 12)) (rf_l Y) (nI p) (nI how) fl (rf_l (z 0)) (rf_l (z 1)) (rf_l (z 2)) (rf_l (z 3)) top low sq un ov hu ho := by
  unfold wY_div_106 wY_div_124
  have i0 : (0 : Int32) = rf_i 0 := by decide
  have e20 : ((2 ^ 0 : Nat) : Int) = 1 := rfl
  by_cases d : (ka : Int) - (kb : Int) + 12 < 0
  · have cc : rf_i ((ka : Int) - (kb : Int) + 12) < 0 := by
      rw [i0, rf_ilt (by omega) (by omega)]
      exact d
    obtain ⟨E, hE⟩ : ∃ E : Nat, kb = ka + 12 + E := ⟨kb - ka - 12, by omega⟩
    have en : -rf_i ((ka : Int) - (kb : Int) + 12) = nI E := by
      rw [rf_ineg, rf_inI]
      congr 1
      omega
    refine br_t cc (br_t cc ?_)
    rw [en, rf_shlc _ _ E (by omega) rfl]
    have A := rf_Ag_d (q := q) (x := X) (y := Y) (ka := ka) (kb := kb) (E1 := 0) (E2 := E) (by omega) hq (by rw [e20, Int.mul_one]; omega) (by
      have b1 : Y.natAbs * 2 ^ (E + 12) ≤ Y.natAbs * 2 ^ kb := Nat.mul_le_mul (Nat.le_refl _) (Nat.pow_le_pow_right (by decide) (by omega))
      have b2 : (Y * ((2 ^ kb : Nat) : Int)).natAbs = Y.natAbs * 2 ^ kb := by
        rw [Int.natAbs_mul]
        rfl
      have b3 : (Y * ((2 ^ E : Nat) : Int)).natAbs = Y.natAbs * 2 ^ E := by
        rw [Int.natAbs_mul]
        rfl
      have b4 : Y.natAbs * 2 ^ (E + 12) = Y.natAbs * 2 ^ E * 4096 := by
        rw [Nat.pow_add, ← Nat.mul_assoc]
      omega)
    rw [e20, Int.mul_one] at A
    exact rf_yd140 h2 h10 hh hi A h
  · have cc : ¬ rf_i ((ka : Int) - (kb : Int) + 12) < 0 := by
      rw [i0, rf_ilt (by omega) (by omega)]
      exact d
    obtain ⟨E, hE⟩ : ∃ E : Nat, E + kb = ka + 12 := ⟨ka + 12 - kb, by omega⟩
    have en : rf_i ((ka : Int) - (kb : Int) + 12) = nI E := by
      rw [rf_inI]
      congr 1
      omega
    refine br_f cc (br_f cc ?_)
    rw [en, rf_shlc _ _ E (by omega) rfl]
    have bX := rf_pb (m := X) (j := E) (A := 1024) (J := 44) (by omega) (by omega)
    have A := rf_Ag_d (q := q) (x := X) (y := Y) (ka := ka) (kb := kb) (E1 := E) (E2 := 0) (by omega) hq (by omega) (by rw [e20, Int.mul_one]; omega)
    rw [e20, Int.mul_one] at A
    exact rf_yd140 h2 h10 hh hi A h
theorem rf_ydiv1 {post : Int32 → SY → Prop} {b w fl sq hu ho : Int32} {top low un ov : Int64} {z : Nat → Int} {i x y : Nat} (hi : i < 4) (hx : x < 4) (hy : y < 4) (h0 : z y = 0)
    (h : post 4 (b, w, fl ||| 4, rf_l (rf_up z i 0 0), rf_l (rf_up z i 0 1), rf_l (rf_up z i 0 2), rf_l (rf_up z i 0 3), top, low, sq, un, ov, hu, ho)) : wpY_div post (b, w, fl, rf_l (z 0), rf_l (z 1), rf_l (z 2), rf_l (z 3), top, low, sq, un, ov, hu, ho) (nI i) (nI x) (nI y) := by
  unfold wpY_div
  dsimp only
  refine rf_yis1 hi (br_f rf_ne01 (rf_yis1 hx (br_f rf_ne01 (rf_yis1 hy (br_f rf_ne01 (rf_yget hy ?_))))))
  refine br_t ?_ (rf_yinv hi h)
  rw [h0]
  rfl
theorem rf_ydiv {post : Int32 → SY → Prop} {p how i : Nat} {fl sq hu ho : Int32} {top low un ov : Int64} {z : Nat → Int} {q : Int} (h2 : 2 ≤ p) (h10 : p ≤ 10) (hh : how < 4) (hi : i < 4) {x y : Nat} (hx : x < 4) (hy : y < 4) (Fx : rf_F p (z x)) (Fy : rf_F p (z y)) (h0 : z y ≠ 0)
    (hq1 : (z x < 0 ↔ z y < 0) → q = rf_wb (((z x).natAbs * 16384 : Nat) : Int) ((z y).natAbs : Int)) (hq2 : ¬ (z x < 0 ↔ z y < 0) → q = -rf_wb (((z x).natAbs * 16384 : Nat) : Int) ((z y).natAbs : Int))
    (h : ∀ r f top low sq un ov hu ho, rf_Out p how q r f → post (nI f) (nI p, nI how, fl ||| nI f, rf_l (rf_up z i r 0), rf_l (rf_up z i r 1), rf_l (rf_up z i r 2), rf_l (rf_up z i r 3), top, low, sq, un, ov, hu, ho)) : wpY_div post (nI p, nI how, fl, rf_l (z 0), rf_l (z 1), rf_l (z 2), rf_l (z 3), top, low, sq, un, ov, hu, ho) (nI i) (nI x) (nI y) := by
  unfold wpY_div
  dsimp only
  have bx := rf_zb h10 Fx
  have by' := rf_zb h10 Fy
  obtain ⟨m1, k1, M1⟩ := rf_MK_ex h10 Fx
  obtain ⟨m2, k2, M2⟩ := rf_MK_ex h10 Fy
  have b1 := M1.2.2.1
  have b2 := M2.2.2.1
  have s2 := rf_sgn (m := m2) k2
  rw [← M2.1] at s2
  have dpos : (0 : Int) < ((z y).natAbs : Int) := by omega
  have i12 : (12 : Int32) = rf_i 12 := by decide
  refine rf_yis1 hi (br_f rf_ne01 (rf_yis1 hx (br_f rf_ne01 (rf_yis1 hy (br_f rf_ne01 (rf_yget hy ?_))))))
  refine br_f ?_ (rf_ymant hx M1 (rf_ymant hy M2 (rf_yexp hx M1 (rf_yexp hy M2 ?_))))
  · rw [rf_0, rf_eq (rf_Bn (by omega)) rf_b0]
    exact h0
  · rw [rf_isub, i12, rf_iadd]
    have ee : (k1 : Int) - 12 - ((k2 : Int) - 12) + 12 = (k1 : Int) - (k2 : Int) + 12 := by omega
    rw [ee, rf_il (by omega), rf_il (by omega)]
    refine nm_e ?_
    unfold wY_div_89
    rw [rf_0, rf_le rf_b0 (rf_Bn (by omega)), rf_neg, rf_neg]
    have fin : ∀ X Y : Int, X.natAbs < 1024 → Y.natAbs < 1024 → ((0 ≤ z y ∧ X = m1 ∧ Y = m2) ∨ (z y < 0 ∧ X = -m1 ∧ Y = -m2)) → wY_div_106 post (nI i) (rf_l X) (rf_i ((k1 : Int) - (k2 : Int) + 12)) (rf_l Y) (nI p) (nI how) fl (rf_l (z 0)) (rf_l (z 1)) (rf_l (z 2)) (rf_l (z 3)) top low sq un ov hu ho := by
      intro X Y hX hY hXY
      have eY : Y * ((2 ^ k2 : Nat) : Int) = ((z y).natAbs : Int) := by
        have hM := M2.1
        rcases hXY with ⟨g, _, rfl⟩ | ⟨g, _, rfl⟩
        · rw [← hM]
          omega
        · rw [Int.neg_mul, ← hM]
          omega
      have eX : (0 ≤ z y ∧ X * ((2 ^ k1 : Nat) : Int) = z x) ∨ (z y < 0 ∧ X * ((2 ^ k1 : Nat) : Int) = -z x) := by
        have hM := M1.1
        rcases hXY with ⟨g, rfl, _⟩ | ⟨g, rfl, _⟩
        · exact Or.inl ⟨g, hM.symm⟩
        · exact Or.inr ⟨g, by rw [Int.neg_mul, ← hM]⟩
      refine rf_yd106 h2 h10 hh hi hX hY M1.2.2.2 M2.2.2.2 (by rw [eY]; omega) (fun t => ?_) h
      rw [eY]
      by_cases s : (z x < 0 ↔ z y < 0)
      · have e : X * ((2 ^ k1 : Nat) : Int) * 16384 = (((z x).natAbs * 16384 : Nat) : Int) := by omega
        rw [e, hq1 s]
        exact rf_st dpos t
      · have e : X * ((2 ^ k1 : Nat) : Int) * 16384 = -(((z x).natAbs * 16384 : Nat) : Int) := by omega
        rw [e, hq2 s]
        exact rf_stn dpos t
    refine br_c (fun c => br_t c ?_) (fun c => br_f c ?_)
    · exact fin m1 m2 b1 b2 (Or.inl ⟨by omega, rfl, rfl⟩)
    · exact fin (-m1) (-m2) (by omega) (by omega) (Or.inr ⟨by omega, rfl, rfl⟩)
theorem i_vc_div {k : Nat} {u : SX} {v : SY} (I : i_Rel k u v) (hk : k + 4 ≤ 2049) (v1 : Int32) (v2 : Int32) (v3 : Int32) : wpX_div (fun r u' => wpY_div (fun r' v' => r' = r ∧ i_Rel (k + 4) u' v') v v1 v2 v3) u v1 v2 v3 := by
  have J := I
  obtain ⟨p, how, fl, a, z, top, low, sq, un, ov, hu, ho, h2, h10, hh, hz, rfl, rfl⟩ := I
  unfold wpX_div
  dsimp only
  by_cases c : rf_R v1 ∧ rf_R v2 ∧ rf_R v3
  · obtain ⟨⟨i, hi, rfl⟩, ⟨x, hx, rfl⟩, ⟨y, hy, rfl⟩⟩ := c
    have Fx := (hz x hx).1
    have Fy := (hz y hy).1
    have bx := rf_zb h10 Fx
    have by' := rf_zb h10 Fy
    refine rf_xars1 hi hx hy (br_f rf_ne01 ⟨rf_vin hy, ?_⟩)
    rw [rf_cl hx, rf_cl hy, (hz x hx).2, (hz y hy).2, rf_0, rf_eq (rf_Bn (by omega)) rf_b0]
    by_cases d : z y = 0
    · exact br_t d (rf_xinv hi (rf_ydiv1 hi hx hy d ⟨rfl, rf_mk h2 h10 hh hz (rf_F_0 p)⟩))
    · refine br_f d ⟨rf_vin hx, rf_vin hy, ?_⟩
      have w := rf_wb_b (((z x).natAbs * 16384 : Nat) : Int) ((z y).natAbs : Int)
      have w1 := Int.ediv_nonneg (a := (((z x).natAbs * 16384 : Nat) : Int)) (b := ((z y).natAbs : Int)) (by omega) (by omega)
      have w2 := Int.ediv_le_self (a := (((z x).natAbs * 16384 : Nat) : Int)) ((z y).natAbs : Int) (by omega)
      refine rf_xquo bx by' d (fun s => ?_) (fun s => ?_)
      · refine rf_xput h2 h10 hh hi (by omega) (fun r f hO => ?_)
        exact rf_ydiv h2 h10 hh hi hx hy Fx Fy d (fun _ => rfl) (fun n => absurd s n) (fun r' f' top low sq un ov hu ho hO' => rf_fin h2 h10 hh hz hO hO')
      · refine rf_xput h2 h10 hh hi (by omega) (fun r f hO => ?_)
        exact rf_ydiv h2 h10 hh hi hx hy Fx Fy d (fun n => absurd n s) (fun _ => rfl) (fun r' f' top low sq un ov hu ho hO' => rf_fin h2 h10 hh hz hO hO')
  · exact rf_xars0 c (br_t rfl (rf_ydiv0 c ⟨rfl, J⟩))
end

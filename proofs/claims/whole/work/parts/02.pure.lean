def rf_FN (p n : Nat) : Prop := ∃ m e : Nat, m < 2 ^ p ∧ e ≤ 23 ∧ (e = 0 ∨ 2 ^ (p - 1) ≤ m) ∧ n = m * 2 ^ e
def rf_F (p : Nat) (x : Int) : Prop := rf_FN p x.natAbs
theorem rf_F_neg {p : Nat} {x : Int} (h : rf_F p x) : rf_F p (-x) := by
  unfold rf_F
  rw [Int.natAbs_neg]
  exact h
theorem rf_F_nat {p n : Nat} (h : rf_FN p n) : rf_F p (n : Int) := h
theorem rf_t4 (t : Nat) : 2 ^ (t + 2) = 4 * 2 ^ t := by
  rw [Nat.pow_add]
  omega
theorem rf_pd {p : Nat} (hp : 1 ≤ p) : 2 ^ p = 2 * 2 ^ (p - 1) := by
  obtain ⟨k, rfl⟩ : ∃ k, p = k + 1 := ⟨p - 1, by omega⟩
  rw [Nat.pow_succ, Nat.add_sub_cancel]
  omega
theorem rf_A1 {p t s n : Nat} (hp : 1 ≤ p) (hlo : 0 < t → 2 ^ (p + t + 1) ≤ s) (hn : rf_FN p n) (h : 4 * n ≤ s) : n ≤ s / 2 ^ (t + 2) * 2 ^ t := by
  obtain ⟨m, e, hm, he, hme, rfl⟩ := hn
  by_cases c : t ≤ e
  · obtain ⟨d, rfl⟩ : ∃ d, e = t + d := ⟨e - t, by omega⟩
    have e1 : m * 2 ^ (t + d) = m * 2 ^ d * 2 ^ t := by
      rw [Nat.pow_add, Nat.mul_assoc, Nat.mul_comm (2 ^ d) (2 ^ t)]
    rw [e1] at h ⊢
    apply Nat.mul_le_mul_right
    rw [Nat.le_div_iff_mul_le (Nat.two_pow_pos _), rf_t4]
    have e2 : m * 2 ^ d * (4 * 2 ^ t) = 4 * (m * 2 ^ d * 2 ^ t) := Nat.mul_left_comm _ _ _
    omega
  · have hl := hlo (by omega)
    have b1 : m * 2 ^ e ≤ 2 ^ p * 2 ^ (t - 1) := Nat.mul_le_mul (by omega) (Nat.pow_le_pow_right (by decide) (by omega))
    have b2 : 2 ^ p * 2 ^ (t - 1) = 2 ^ (p - 1) * 2 ^ t := by
      rw [← Nat.pow_add, ← Nat.pow_add]
      congr 1
      omega
    have b3 : 2 ^ (p - 1) ≤ s / 2 ^ (t + 2) := by
      rw [Nat.le_div_iff_mul_le (Nat.two_pow_pos _), ← Nat.pow_add, show p - 1 + (t + 2) = p + t + 1 by omega]
      exact hl
    have b4 := Nat.mul_le_mul_right (2 ^ t) b3
    omega
theorem rf_A2 {p t s n : Nat} (hlo : 0 < t → 2 ^ (p + t + 1) ≤ s) (hr : s % 2 ^ (t + 2) ≠ 0) (hn : rf_FN p n) (h : s ≤ 4 * n) : (s / 2 ^ (t + 2) + 1) * 2 ^ t ≤ n := by
  obtain ⟨m, e, hm, he, hme, rfl⟩ := hn
  by_cases c : t ≤ e
  · obtain ⟨d, rfl⟩ : ∃ d, e = t + d := ⟨e - t, by omega⟩
    have e1 : m * 2 ^ (t + d) = m * 2 ^ d * 2 ^ t := by
      rw [Nat.pow_add, Nat.mul_assoc, Nat.mul_comm (2 ^ d) (2 ^ t)]
    rw [e1] at h ⊢
    apply Nat.mul_le_mul_right
    have e2 : m * 2 ^ d * 2 ^ (t + 2) = 4 * (m * 2 ^ d * 2 ^ t) := by
      rw [rf_t4]
      exact Nat.mul_left_comm _ _ _
    by_cases c2 : m * 2 ^ d ≤ s / 2 ^ (t + 2)
    · rw [Nat.le_div_iff_mul_le (Nat.two_pow_pos _)] at c2
      have e3 : s = m * 2 ^ d * 2 ^ (t + 2) := by omega
      exact absurd (by rw [e3]; exact Nat.mul_mod_left _ _) hr
    · omega
  · have hl := hlo (by omega)
    have b0 : m * 2 ^ e < 2 ^ p * 2 ^ e := Nat.mul_lt_mul_of_pos_right hm (Nat.two_pow_pos e)
    have b1 : 2 ^ p * 2 ^ e ≤ 2 ^ p * 2 ^ (t - 1) := Nat.mul_le_mul (Nat.le_refl _) (Nat.pow_le_pow_right (by decide) (by omega))
    have b2 : 2 ^ (p + t + 1) = 4 * (2 ^ p * 2 ^ (t - 1)) := by
      rw [← Nat.pow_add, show p + t + 1 = p + (t - 1) + 2 by omega]
      exact rf_t4 _
    omega
theorem rf_A0 {p t s : Nat} (hs : s < 2 ^ (p + t + 2)) : s / 2 ^ (t + 2) < 2 ^ p := by
  rw [Nat.div_lt_iff_lt_mul (Nat.two_pow_pos _), ← Nat.pow_add]
  exact hs
theorem rf_A0' {p t s : Nat} (hp : 1 ≤ p) (hl : 2 ^ (p + t + 1) ≤ s) : 2 ^ (p - 1) ≤ s / 2 ^ (t + 2) := by
  rw [Nat.le_div_iff_mul_le (Nat.two_pow_pos _), ← Nat.pow_add, show p - 1 + (t + 2) = p + t + 1 by omega]
  exact hl
theorem rf_A3 {p t s : Nat} (hp : 1 ≤ p) (ht : t ≤ 23) (hs : s < 2 ^ (p + t + 2)) (hlo : 0 < t → 2 ^ (p + t + 1) ≤ s) : rf_FN p (s / 2 ^ (t + 2) * 2 ^ t) := by
  refine ⟨s / 2 ^ (t + 2), t, rf_A0 hs, ht, ?_, rfl⟩
  by_cases c : t = 0
  · exact Or.inl c
  · exact Or.inr (rf_A0' hp (hlo (by omega)))
theorem rf_A4 {p t s : Nat} (hp : 1 ≤ p) (ht : t ≤ 23) (hs : s < 2 ^ (p + t + 2)) (hlo : 0 < t → 2 ^ (p + t + 1) ≤ s) (hg : s ≤ (2 ^ p - 1) * 2 ^ 25) (hr : s % 2 ^ (t + 2) ≠ 0) : rf_FN p ((s / 2 ^ (t + 2) + 1) * 2 ^ t) := by
  have hM := rf_A0 hs
  have hd := rf_pd hp
  have hq := Nat.two_pow_pos (p - 1)
  by_cases c : s / 2 ^ (t + 2) + 1 < 2 ^ p
  · refine ⟨s / 2 ^ (t + 2) + 1, t, c, ht, ?_, rfl⟩
    by_cases c : t = 0
    · exact Or.inl c
    · have := rf_A0' hp (hlo (by omega))
      exact Or.inr (by omega)
  · have e : s / 2 ^ (t + 2) + 1 = 2 ^ p := by omega
    have ht2 : t ≠ 23 := by
      intro z
      subst z
      have h1 := Nat.div_add_mod' s (2 ^ (23 + 2))
      have h2 : s / 2 ^ (23 + 2) = 2 ^ p - 1 := by omega
      rw [h2] at h1
      have h3 : (2 : Nat) ^ (23 + 2) = 2 ^ 25 := rfl
      rw [h3] at h1 hr
      omega
    refine ⟨2 ^ (p - 1), t + 1, by omega, by omega, Or.inr (Nat.le_refl _), ?_⟩
    rw [e, hd, Nat.pow_succ, Nat.mul_comm 2 (2 ^ (p - 1)), Nat.mul_assoc, Nat.mul_comm 2 (2 ^ t)]
def rf_Gr (p : Nat) : Nat := (2 ^ p - 1) * 2 ^ 23
theorem rf_F_Gr {p : Nat} (hp : 1 ≤ p) : rf_FN p (rf_Gr p) := by
  have hd := rf_pd hp
  have hq := Nat.two_pow_pos (p - 1)
  exact ⟨2 ^ p - 1, 23, by omega, by omega, Or.inr (by omega), rfl⟩
theorem rf_F_le {p n : Nat} (h : rf_FN p n) : n ≤ rf_Gr p := by
  obtain ⟨m, e, hm, he, hme, rfl⟩ := h
  exact Nat.mul_le_mul (by omega) (Nat.pow_le_pow_right (by decide) he)
theorem rf_Gr_lt {p : Nat} (hp : p ≤ 10) : rf_Gr p < 8589934592 := by
  have h : 2 ^ p ≤ 2 ^ 10 := Nat.pow_le_pow_right (by decide) hp
  have h2 : (2 ^ p - 1) * 2 ^ 23 ≤ 1023 * 2 ^ 23 := Nat.mul_le_mul (by omega) (Nat.le_refl _)
  unfold rf_Gr
  omega
theorem rf_F_b {p : Nat} {x : Int} (h : rf_F p x) : -(rf_Gr p : Int) ≤ x ∧ x ≤ (rf_Gr p : Int) := by
  have := rf_F_le h
  omega
theorem rf_F_0 (p : Nat) : rf_F p 0 := ⟨0, 0, Nat.two_pow_pos p, by omega, Or.inl rfl, rfl⟩
def rf_Un (p : Nat) (q u : Int) : Prop := rf_F p u ∧ 4 * u ≤ q ∧ ∀ x, rf_F p x → 4 * x ≤ q → x ≤ u
def rf_Ov (p : Nat) (q o : Int) : Prop := rf_F p o ∧ q ≤ 4 * o ∧ ∀ x, rf_F p x → q ≤ 4 * x → o ≤ x
theorem rf_uo {p : Nat} {q u : Int} (h : rf_Un p q u) : rf_Ov p (-q) (-u) := by
  refine ⟨rf_F_neg h.1, by have := h.2.1; omega, fun x hx hq => ?_⟩
  have := h.2.2 (-x) (rf_F_neg hx) (by omega)
  omega
theorem rf_ou {p : Nat} {q u : Int} (h : rf_Ov p q u) : rf_Un p (-q) (-u) := by
  refine ⟨rf_F_neg h.1, by have := h.2.1; omega, fun x hx hq => ?_⟩
  have := h.2.2 (-x) (rf_F_neg hx) (by omega)
  omega
theorem rf_Un_u {p : Nat} {q u u' : Int} (h : rf_Un p q u) (h' : rf_Un p q u') : u = u' := by
  have a := h.2.2 u' h'.1 h'.2.1
  have b := h'.2.2 u h.1 h.2.1
  omega
theorem rf_Ov_u {p : Nat} {q u u' : Int} (h : rf_Ov p q u) (h' : rf_Ov p q u') : u = u' := by
  have a := h.2.2 u' h'.1 h'.2.1
  have b := h'.2.2 u h.1 h.2.1
  omega
theorem rf_ps {p t s : Nat} (hp : 1 ≤ p) (ht : t ≤ 23) (hs : s < 2 ^ (p + t + 2)) (hlo : 0 < t → 2 ^ (p + t + 1) ≤ s) (hg : s ≤ (2 ^ p - 1) * 2 ^ 25) :
    rf_Un p (s : Int) ((s / 2 ^ (t + 2) * 2 ^ t : Nat) : Int) ∧ (s % 2 ^ (t + 2) = 0 → rf_Ov p (s : Int) ((s / 2 ^ (t + 2) * 2 ^ t : Nat) : Int)) ∧ (s % 2 ^ (t + 2) ≠ 0 → rf_Ov p (s : Int) (((s / 2 ^ (t + 2) + 1) * 2 ^ t : Nat) : Int)) := by
  have e1 := Nat.div_add_mod' s (2 ^ (t + 2))
  have e2 := Nat.mod_lt s (Nat.two_pow_pos (t + 2))
  have e3 : s / 2 ^ (t + 2) * 2 ^ (t + 2) = 4 * (s / 2 ^ (t + 2) * 2 ^ t) := by
    rw [rf_t4]
    exact Nat.mul_left_comm _ _ _
  have e4 : (s / 2 ^ (t + 2) + 1) * 2 ^ t = s / 2 ^ (t + 2) * 2 ^ t + 2 ^ t := by rw [Nat.add_mul, Nat.one_mul]
  have e5 := rf_t4 t
  have f3 := rf_A3 hp ht hs hlo
  have f4 := rf_A4 hp ht hs hlo hg
  have f1 := fun n hn h => rf_A1 (n := n) hp hlo hn h
  have f2 := fun n hr hn h => rf_A2 (n := n) hlo hr hn h
  generalize s / 2 ^ (t + 2) * 2 ^ t = U at *
  generalize (s / 2 ^ (t + 2) + 1) * 2 ^ t = O at *
  generalize s / 2 ^ (t + 2) * 2 ^ (t + 2) = K at *
  generalize s % 2 ^ (t + 2) = R at *
  generalize 2 ^ (t + 2) = G at *
  generalize 2 ^ t = T at *
  refine ⟨⟨rf_F_nat f3, by omega, fun x hx h => ?_⟩, fun hr => ⟨rf_F_nat f3, by omega, fun x hx h => by omega⟩, fun hr => ⟨rf_F_nat (f4 hr), by omega, fun x hx h => ?_⟩⟩
  · by_cases c : x < 0
    · omega
    · have := f1 x.natAbs hx (by omega)
      omega
  · have := f2 x.natAbs hr hx (by omega)
    omega

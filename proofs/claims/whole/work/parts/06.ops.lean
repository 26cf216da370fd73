theorem rf_pb {m : Int} {j A J : Nat} (hm : m.natAbs ≤ A) (hj : j ≤ J) : (m * ((2 ^ j : Nat) : Int)).natAbs ≤ A * 2 ^ J :=
  rf_mb hm (Nat.pow_le_pow_right (by decide) hj)
theorem rf_Ag_l1 {m : Int} {j : Nat} (hm : m.natAbs ≤ 1000000) (hj : j ≤ 32) : rf_Ag (rf_wb (m * ((2 ^ (j + 8) : Nat) : Int)) 64) (rf_l (m * ((2 ^ j : Nat) : Int))) (rf_l 1) 0 := by
  have b := rf_pb hm hj
  refine rf_Ag_f (c1 := 128) (c2 := 1) (fun h => rf_st (by omega) h) (by omega) (by omega) ?_ (by omega) (by omega) (by omega)
  have e : ((2 ^ (j + 8) : Nat) : Int) = ((2 ^ j : Nat) : Int) * 256 := by
    rw [Nat.pow_add]
    exact Int.natCast_mul _ _
  rw [e, ← Int.mul_assoc m]
  omega
theorem rf_Ag_l2 {m : Int} {j : Nat} (hm : m.natAbs ≤ 1000000) (hj : j ≤ 8) : rf_Ag (rf_wb (m * ((2 ^ (8 - j) : Nat) : Int)) 64) (rf_l m) (rf_l ((2 ^ j : Nat) : Int)) 0 := by
  have b : 2 ^ j ≤ 2 ^ 8 := Nat.pow_le_pow_right (by decide) hj
  have b0 := Nat.two_pow_pos j
  have e : ((2 ^ j : Nat) : Int) * ((2 ^ (8 - j) : Nat) : Int) = 256 := by
    rw [← Int.natCast_mul, ← Nat.pow_add, show j + (8 - j) = 8 by omega]
    rfl
  refine rf_Ag_f (c1 := 128) (c2 := ((2 ^ j : Nat) : Int)) (fun h => rf_st (by omega) h) (by omega) (by omega) ?_ (by omega) (by omega) (by omega)
  rw [Int.mul_left_comm ((2 ^ j : Nat) : Int) m, e]
  omega
theorem rf_Ag_m {N : Int} (hN : N.natAbs ≤ 2305843009213693952) : rf_Ag (rf_wb N 1024) (rf_l N) (rf_l 4096) 0 :=
  rf_Ag_f (c1 := 1) (c2 := 2) (fun h => rf_st (by omega) h) (by omega) (by omega) (by omega) (by omega) hN (by omega)
theorem rf_Ag_mp {C top low : Int} (hC : C.natAbs ≤ 35184372088832) (ht : (low = 1 ∧ top = 8796093022208) ∨ (low = 4096 ∧ 562949953421312 ≤ top ∧ top ≤ 72057594037927936)) : rf_Ag (rf_wb (1125899906842624 + C) 1024) (rf_l top) (rf_l low) 0 := by
  intro h a b
  have w := rf_wb_b (1125899906842624 + C) 1024
  rcases ht with ⟨rfl, rfl⟩ | ⟨rfl, h1, h2⟩
  · rw [rf_ag0 (by unfold rf_B; omega) (by unfold rf_B; omega)]
    exact rf_sg_c (by omega) (by omega)
  · rw [rf_ag0 (by unfold rf_B; omega) (by unfold rf_B; omega)]
    exact rf_sg_c (by omega) (by omega)
theorem rf_Ag_mn {C top low : Int} (hC : C.natAbs ≤ 35184372088832) (ht : (low = 1 ∧ top = -8796093022208) ∨ (low = 4096 ∧ top ≤ -562949953421312 ∧ -72057594037927936 ≤ top)) : rf_Ag (rf_wb (-1125899906842624 + C) 1024) (rf_l top) (rf_l low) 0 := by
  intro h a b
  have w := rf_wb_b (-1125899906842624 + C) 1024
  rcases ht with ⟨rfl, rfl⟩ | ⟨rfl, h1, h2⟩
  · rw [rf_ag0 (by unfold rf_B; omega) (by unfold rf_B; omega)]
    exact rf_sg_c (by omega) (by omega)
  · rw [rf_ag0 (by unfold rf_B; omega) (by unfold rf_B; omega)]
    exact rf_sg_c (by omega) (by omega)
theorem rf_stn {N d : Int} (hd : 0 < d) (h : Int) : rf_sg (-rf_wb N d - 2 * h) = rf_sg (-N - 2 * h * d) := by
  have e := rf_sg_n (rf_st (N := N) hd (-h))
  have e1 : -(rf_wb N d - 2 * -h) = -rf_wb N d - 2 * h := by omega
  have e2 : 2 * -h * d = -(2 * h * d) := by rw [Int.mul_neg, Int.neg_mul]
  have e3 : -(N - 2 * -h * d) = -N - 2 * h * d := by
    rw [e2]
    omega
  rw [e1, e3] at e
  exact e
theorem rf_p2 (a b : Nat) : ((2 ^ (a + b) : Nat) : Int) = ((2 ^ a : Nat) : Int) * ((2 ^ b : Nat) : Int) := by
  rw [Nat.pow_add]
  exact Int.natCast_mul _ _
theorem rf_Ag_d {q x y : Int} {ka kb E1 E2 : Nat} (hE : E1 + kb = ka + 12 + E2)
    (hq : ∀ h, rf_sg (q - 2 * h) = rf_sg (x * ((2 ^ ka : Nat) : Int) * 16384 - 2 * h * (y * ((2 ^ kb : Nat) : Int))))
    (bt : (x * ((2 ^ E1 : Nat) : Int)).natAbs ≤ 2305843009213693952) (bl : (y * ((2 ^ E2 : Nat) : Int)).natAbs ≤ 67108864) :
    rf_Ag q (rf_l (x * ((2 ^ E1 : Nat) : Int))) (rf_l (y * ((2 ^ E2 : Nat) : Int))) 0 := by
  have b1 := Nat.two_pow_pos kb
  have b2 := Nat.two_pow_pos E2
  have e : ((2 ^ E1 : Nat) : Int) * ((2 ^ kb : Nat) : Int) = ((2 ^ ka : Nat) : Int) * 4096 * ((2 ^ E2 : Nat) : Int) := by
    rw [← rf_p2, hE, rf_p2, rf_p2]
    rfl
  refine rf_Ag_f (c1 := 2 * ((2 ^ kb : Nat) : Int)) (c2 := ((2 ^ E2 : Nat) : Int)) hq (by omega) (by omega) ?_ ?_ bt bl
  · generalize ((2 ^ E1 : Nat) : Int) = e1 at *
    generalize ((2 ^ E2 : Nat) : Int) = e2 at *
    generalize ((2 ^ ka : Nat) : Int) = a at *
    generalize ((2 ^ kb : Nat) : Int) = b at *
    have e' : 2 * b * (2 * (x * e1)) = 4 * (x * (e1 * b)) := by grind
    rw [e', e]
    grind
  · generalize ((2 ^ E2 : Nat) : Int) = e2 at *
    generalize ((2 ^ kb : Nat) : Int) = b at *
    grind
def rf_rq (f s : Int) : Int := if f * f = s then f else f + 1 - f % 2
theorem rf_Ag_r {n f : Int} {low : Int64} (hn : 0 ≤ n) (hn2 : n < 8589934592) (hf : 0 ≤ f) (hf2 : f < 33554432) (h1 : f * f ≤ n * 65536) (h2 : n * 65536 < (f + 1) * (f + 1)) :
    rf_Ag (rf_rq f (n * 65536)) (rf_l (n * 4096)) low 1 := by
  intro h a b
  rw [rf_ag1 (by omega) (by omega) (by unfold rf_B; omega)]
  have hq : 0 ≤ rf_rq f (n * 65536) ∧ rf_rq f (n * 65536) ≤ f + 1 := by
    unfold rf_rq
    split
    · omega
    · omega
  by_cases c1 : h < 0
  · rw [if_pos c1]
    unfold rf_sg
    rw [if_neg (by omega), if_pos (by omega)]
  · rw [if_neg c1]
    by_cases c2 : 1073741824 < h
    · rw [if_pos c2]
      unfold rf_sg
      rw [if_pos (by omega)]
    · rw [if_neg c2]
      have g1 : 2 * h ≤ f → 2 * h * (2 * h) ≤ f * f := fun z => Int.mul_self_le_mul_self (by omega) z
      have g2 : f + 1 ≤ 2 * h → (f + 1) * (f + 1) ≤ 2 * h * (2 * h) := fun z => Int.mul_self_le_mul_self (by omega) z
      have g3 : 2 * h < f → 2 * h * (2 * h) < f * f := fun z => Int.mul_self_lt_mul_self (by omega) z
      have g4 : f ≤ 2 * h → f * f ≤ 2 * h * (2 * h) := fun z => Int.mul_self_le_mul_self (by omega) z
      have g5 : f < 2 * h → f * f < 2 * h * (2 * h) := fun z => Int.mul_self_lt_mul_self (by omega) z
      have g6 : 2 * h * (2 * h) = 4 * (h * h) := by grind
      unfold rf_rq
      generalize (f + 1) * (f + 1) = Z at *
      generalize 2 * h * (2 * h) = W at *
      generalize f * f = Y at *
      generalize h * h = X at *
      by_cases c3 : Y = n * 65536
      · rw [if_pos c3]
        exact rf_sg_c (by omega) (by omega)
      · rw [if_neg c3]
        exact rf_sg_c (by omega) (by omega)
theorem rf_odd : ∀ (n : Nat) (x : Int), x.natAbs ≤ n → x ≠ 0 → ∃ (m : Int) (k : Nat), x = m * ((2 ^ k : Nat) : Int) ∧ m % 2 = 1 := by
  intro n
  induction n with
  | zero =>
    intro x h h0
    omega
  | succ n ih =>
    intro x h h0
    by_cases c : x % 2 = 1
    · exact ⟨x, 0, by rw [show ((2 ^ 0 : Nat) : Int) = 1 from rfl, Int.mul_one], c⟩
    · obtain ⟨m, k, e, hm⟩ := ih (x / 2) (by omega) (by omega)
      refine ⟨m, k + 1, ?_, hm⟩
      rw [rf_p2, ← Int.mul_assoc, ← e, show ((2 ^ 1 : Nat) : Int) = 2 from rfl]
      omega
def rf_MK (x m : Int) (k : Nat) : Prop := x = m * ((2 ^ k : Nat) : Int) ∧ (m % 2 = 1 ∨ (x = 0 ∧ m = 0 ∧ k = 12)) ∧ m.natAbs < 1024 ∧ k ≤ 32
theorem rf_MK_ex {p : Nat} {x : Int} (hp : p ≤ 10) (hx : rf_F p x) : ∃ (m : Int) (k : Nat), rf_MK x m k := by
  by_cases c : x = 0
  · exact ⟨0, 12, by rw [c, Int.zero_mul], Or.inr ⟨c, rfl, rfl⟩, by decide, by decide⟩
  · obtain ⟨m, k, e, hm⟩ := rf_odd _ x (Nat.le_refl _) c
    have hb := rf_F_le hx
    have hg := rf_Gr_lt hp
    have en : x.natAbs = m.natAbs * 2 ^ k := by
      rw [e, Int.natAbs_mul]
      rfl
    have hk := Nat.two_pow_pos k
    refine ⟨m, k, e, Or.inl hm, ?_, ?_⟩
    · obtain ⟨m0, e0, h1, h2, h3, h4⟩ := hx
      have a : 2 ^ p ≤ 2 ^ 10 := Nat.pow_le_pow_right (by decide) hp
      by_cases d : e0 ≤ k
      · obtain ⟨j, rfl⟩ : ∃ j, k = e0 + j := ⟨k - e0, by omega⟩
        have hj := Nat.two_pow_pos j
        have h5 : m.natAbs * 2 ^ j * 2 ^ e0 = m0 * 2 ^ e0 := by
          rw [← h4, en, Nat.pow_add, Nat.mul_assoc, Nat.mul_comm (2 ^ j)]
        have h6 := Nat.eq_of_mul_eq_mul_right (Nat.two_pow_pos e0) h5
        have h7 := Nat.le_mul_of_pos_right m.natAbs hj
        omega
      · obtain ⟨j, rfl⟩ : ∃ j, e0 = k + (j + 1) := ⟨e0 - k - 1, by omega⟩
        have h5 : m.natAbs * 2 ^ k = m0 * 2 ^ j * 2 * 2 ^ k := by
          rw [← en, h4, Nat.pow_add, Nat.pow_succ, Nat.mul_comm (2 ^ k), ← Nat.mul_assoc, ← Nat.mul_assoc]
        have h6 := Nat.eq_of_mul_eq_mul_right hk h5
        omega
    · have h7 : 1 * 2 ^ k ≤ m.natAbs * 2 ^ k := Nat.mul_le_mul_right _ (by omega)
      by_cases d : k ≤ 32
      · exact d
      · have h8 : 2 ^ 33 ≤ 2 ^ k := Nat.pow_le_pow_right (by decide) (by omega)
        omega

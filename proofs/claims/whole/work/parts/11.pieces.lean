def rf_i (z : Int) : Int32 := Int32.ofInt z
theorem rf_iadd (a b : Int) : rf_i a + rf_i b = rf_i (a + b) := (Int32.ofInt_add a b).symm
theorem rf_isub (a b : Int) : rf_i a - rf_i b = rf_i (a - b) := (Int32.ofInt_sub a b).symm
theorem rf_ineg (a : Int) : -rf_i a = rf_i (-a) := (Int32.ofInt_neg a).symm
theorem rf_inI (n : Nat) : nI n = rf_i (n : Int) := (Int32.ofInt_eq_ofNat (n := n)).symm
theorem rf_iti {a : Int} (h : a.natAbs < 2147483648) : (rf_i a).toInt = a := Int32.toInt_ofInt_of_le (by omega) (by omega)
theorem rf_ilt {a b : Int} (ha : a.natAbs < 2147483648) (hb : b.natAbs < 2147483648) : rf_i a < rf_i b ↔ a < b := by
  rw [Int32.lt_iff_toInt_lt, rf_iti ha, rf_iti hb]
theorem rf_ile {a b : Int} (ha : a.natAbs < 2147483648) (hb : b.natAbs < 2147483648) : rf_i a ≤ rf_i b ↔ a ≤ b := by
  rw [Int32.le_iff_toInt_le, rf_iti ha, rf_iti hb]
theorem rf_il {m : Int} (h : m.natAbs < 2147483648) : (rf_i m).toInt64 = rf_l m := by
  rw [← Int64.ofInt_int32ToInt, rf_iti h]
  rfl
theorem rf_li (m : Int) : (rf_l m).toInt32 = rf_i m := Int64.toInt32_ofInt
theorem rf_iof (x : Int32) : ∃ m : Int, x = rf_i m ∧ -2147483648 ≤ m ∧ m < 2147483648 := by
  have h1 := Int32.toInt_lt x
  have h2 := Int32.le_toInt x
  exact ⟨x.toInt, (Int32.ofInt_toInt x).symm, by omega, by omega⟩
theorem rf_xt12 {post : Int32 → Prop} {m : Int} {k : Nat} (hm : m % 2 = 1) (hb : m.natAbs < 1024) (hk : k ≤ 32) (h : post (nI k)) :
    ∀ d j, j + d = k → wX_twosIn_12 post (rf_l (m * ((2 ^ k : Nat) : Int))) (d + 1) (nI j) (nI j) := by
  have b := rf_pb (A := 1024) (J := 32) (show m.natAbs ≤ 1024 by omega) hk
  intro d
  induction d with
  | zero =>
    intro j hj
    have ej : j = k := by omega
    subst ej
    unfold wX_twosIn_12
    rw [rf_shrc (rf_Bn (by omega)) _ j (by omega) rfl, rf_and1, rf_ed (Nat.le_refl _), Nat.sub_self, show ((2 ^ 0 : Nat) : Int) = 1 from rfl, Int.mul_one, hm]
    exact br_f (nI_ge (a := j) (b := 33) (by omega) (by omega)) (br_f (by decide) h)
  | succ d ih =>
    intro j hj
    unfold wX_twosIn_12
    have ek : k - j = (k - j - 1) + 1 := by omega
    have e0 : m * ((2 ^ (k - j) : Nat) : Int) % 2 = 0 := by
      rw [ek, rf_ev]
      omega
    rw [rf_shrc (rf_Bn (by omega)) _ j (by omega) rfl, rf_and1, rf_ed (by omega), e0]
    exact br_f (nI_ge (a := j) (b := 33) (by omega) (by omega)) (br_t rfl (nm_r (nI_1 j) (nm_r (nI_1 j) (ih (j + 1) (by omega)))))
theorem rf_nz {m : Int} (hm : m % 2 = 1) (i : Nat) : m * ((2 ^ i : Nat) : Int) ≠ 0 := by
  have h := rf_sgn (m := m) i
  omega
theorem rf_xtw {post : Int32 → Prop} {x m : Int} {k : Nat} (hx : x ≠ 0) (hM : rf_MK x m k) (h : post (nI k)) : wpX_twosIn post (rf_l x) := by
  obtain ⟨e, hm, hb, hk⟩ := hM
  have hm1 : m % 2 = 1 := by
    rcases hm with hm | hm
    · exact hm
    · exact absurd hm.1 hx
  have b := rf_pb (A := 1024) (J := 32) (show m.natAbs ≤ 1024 by omega) hk
  rw [← e] at b
  unfold wpX_twosIn
  rw [rf_0, rf_eq (rf_Bn (by omega)) rf_b0]
  refine br_f hx ⟨k + 1, ?_⟩
  rw [e]
  exact rf_xt12 hm1 hb hk h k 0 (by omega)
theorem rf_ym21 {post : Int32 → Prop} {b w fl sq hu ho : Int32} {r0 r1 r2 r3 top low un ov : Int64} {m : Int} (hm : m % 2 = 1) (hb : m.natAbs < 1024) (h : post (rf_i m)) :
    ∀ i c, i + c ≤ 33 → wY_mantissa_21 post b w fl r0 r1 r2 r3 top low sq un ov hu ho (i + 1) (rf_l (m * ((2 ^ i : Nat) : Int))) (nI c) := by
  intro i
  induction i with
  | zero =>
    intro c hc
    unfold wY_mantissa_21
    rw [show ((2 ^ 0 : Nat) : Int) = 1 from rfl, Int.mul_one]
    have hd := Int.natAbs_tdiv_le_natAbs m 2
    rw [rf_2, rf_0, rf_div (rf_Bn (by omega)) (rf_Bn (by omega)), rf_mul, rf_sub, rf_eq (a := m) (rf_Bn (by omega)) rf_b0, rf_eq (a := 2) (rf_Bn (by omega)) rf_b0, rf_eq (a := m - m.tdiv 2 * 2) (rf_Bn (by omega)) rf_b0, rf_tm, rf_li]
    exact br_f (nI_ge (a := c) (b := 34) (by omega) (by omega)) (br_f (by omega) ⟨by omega, br_f (by omega) h⟩)
  | succ i ih =>
    intro c hc
    unfold wY_mantissa_21
    have b1 := rf_pb (A := 1024) (J := 33) (show m.natAbs ≤ 1024 by omega) (show i + 1 ≤ 33 by omega)
    have nz := rf_nz hm (i + 1)
    have ev := rf_ev m i
    have et : (m * ((2 ^ (i + 1) : Nat) : Int)).tdiv 2 = m * ((2 ^ i : Nat) : Int) := by
      rw [ev]
      exact Int.mul_tdiv_cancel _ (by omega)
    rw [rf_2, rf_0, rf_div (rf_Bn (by omega)) (rf_Bn (by omega)), et, rf_mul, rf_sub, ← ev, Int.sub_self, rf_eq (a := m * ((2 ^ (i + 1) : Nat) : Int)) (rf_Bn (by omega)) rf_b0, rf_eq (a := 2) (rf_Bn (by omega)) rf_b0]
    exact br_f (nI_ge (a := c) (b := 34) (by omega) (by omega)) (br_f nz ⟨by omega, br_t rfl ⟨by omega, nm_e (nm_r (nI_1 c) (ih (c + 1) (by omega)))⟩⟩)
theorem rf_ye35 {post : Int32 → Prop} {b w fl sq hu ho : Int32} {r0 r1 r2 r3 top low un ov : Int64} {m : Int} (hm : m % 2 = 1) (hb : m.natAbs < 1024) :
    ∀ (i c : Nat) (e : Int), i + c ≤ 33 → post (rf_i (e + i)) → wY_exponent_35 post b w fl r0 r1 r2 r3 top low sq un ov hu ho (i + 1) (rf_l (m * ((2 ^ i : Nat) : Int))) (rf_i e) (nI c) := by
  intro i
  induction i with
  | zero =>
    intro c e hc h
    unfold wY_exponent_35
    rw [show ((2 ^ 0 : Nat) : Int) = 1 from rfl, Int.mul_one]
    have hd := Int.natAbs_tdiv_le_natAbs m 2
    rw [rf_2, rf_0, rf_div (rf_Bn (by omega)) (rf_Bn (by omega)), rf_mul, rf_sub, rf_eq (a := m) (rf_Bn (by omega)) rf_b0, rf_eq (a := 2) (rf_Bn (by omega)) rf_b0, rf_eq (a := m - m.tdiv 2 * 2) (rf_Bn (by omega)) rf_b0, rf_tm]
    have h' : post (rf_i e) := by
      have e0 : e + ((0 : Nat) : Int) = e := by omega
      rw [e0] at h
      exact h
    exact br_f (nI_ge (a := c) (b := 34) (by omega) (by omega)) (br_f (by omega) ⟨by omega, br_f (by omega) h'⟩)
  | succ i ih =>
    intro c e hc h
    unfold wY_exponent_35
    have b1 := rf_pb (A := 1024) (J := 33) (show m.natAbs ≤ 1024 by omega) (show i + 1 ≤ 33 by omega)
    have nz := rf_nz hm (i + 1)
    have ev := rf_ev m i
    have et : (m * ((2 ^ (i + 1) : Nat) : Int)).tdiv 2 = m * ((2 ^ i : Nat) : Int) := by
      rw [ev]
      exact Int.mul_tdiv_cancel _ (by omega)
    have e1 : rf_i e + 1 = rf_i (e + 1) := rf_iadd e 1
    have h' : post (rf_i (e + 1 + (i : Int))) := by
      have e0 : e + ((i + 1 : Nat) : Int) = e + 1 + (i : Int) := by omega
      rw [e0] at h
      exact h
    rw [rf_2, rf_0, rf_div (rf_Bn (by omega)) (rf_Bn (by omega)), et, rf_mul, rf_sub, ← ev, Int.sub_self, rf_eq (a := m * ((2 ^ (i + 1) : Nat) : Int)) (rf_Bn (by omega)) rf_b0, rf_eq (a := 2) (rf_Bn (by omega)) rf_b0]
    exact br_f (nI_ge (a := c) (b := 34) (by omega) (by omega)) (br_f nz ⟨by omega, br_t rfl ⟨by omega, nm_e (nm_r e1 (nm_r (nI_1 c) (ih (c + 1) (e + 1) (by omega) h')))⟩⟩)
theorem rf_ymant {post : Int32 → Prop} {b w fl sq hu ho : Int32} {top low un ov : Int64} {z : Nat → Int} {j k : Nat} {m : Int} (hj : j < 4) (hM : rf_MK (z j) m k) (h : post (rf_i m)) :
    wpY_mantissa post (b, w, fl, rf_l (z 0), rf_l (z 1), rf_l (z 2), rf_l (z 3), top, low, sq, un, ov, hu, ho) (nI j) := by
  unfold wpY_mantissa
  dsimp only
  refine rf_yis1 hj (br_f rf_ne01 (rf_yget hj ?_))
  obtain ⟨e, hm, hb, hk⟩ := hM
  rcases hm with hm | ⟨hx, hm, hk⟩
  · rw [e]
    exact ⟨k + 1, rf_ym21 hm hb h k 0 (by omega)⟩
  · rw [hx]
    subst hm
    exact ⟨1, br_f (by decide) (br_t rfl h)⟩
theorem rf_yexp {post : Int32 → Prop} {b w fl sq hu ho : Int32} {top low un ov : Int64} {z : Nat → Int} {j k : Nat} {m : Int} (hj : j < 4) (hM : rf_MK (z j) m k) (h : post (rf_i ((k : Int) - 12))) :
    wpY_exponent post (b, w, fl, rf_l (z 0), rf_l (z 1), rf_l (z 2), rf_l (z 3), top, low, sq, un, ov, hu, ho) (nI j) := by
  unfold wpY_exponent
  dsimp only
  refine rf_yis1 hj (br_f rf_ne01 (rf_yget hj ?_))
  unfold wY_exponent_17
  obtain ⟨e, hm, hb, hk⟩ := hM
  rcases hm with hm | ⟨hx, hm, hk⟩
  · have nz := rf_nz hm k
    have b1 := rf_pb (A := 1024) (J := 32) (show m.natAbs ≤ 1024 by omega) hk
    rw [e, rf_0, rf_eq (rf_Bn (by omega)) rf_b0]
    refine br_f nz ⟨k + 1, rf_ye35 hm hb k 0 (-12) (by omega) ?_⟩
    rw [show (-12 : Int) + (k : Int) = (k : Int) - 12 by omega]
    exact h
  · rw [hx]
    subst hk
    exact br_t rfl ⟨1, br_f (by decide) (br_t rfl h)⟩

theorem rf_yd140 {post : Int32 → SY → Prop} {p how i : Nat} {fl sq hu ho : Int32} {top low un ov : Int64} {z : Nat → Int} {q : Int} (h2 : 2 ≤ p) (h10 : p ≤ 10) (hh : how < 4) (hi : i < 4) {T L : Int} (A : rf_Ag q (rf_l T) (rf_l L) 0)
    (h : ∀ r f top low sq un ov hu ho, rf_Out p how q r f → post (nI f) (nI p, nI how, fl ||| nI f, rf_l (rf_up z i r 0), rf_l (rf_up z i r 1), rf_l (rf_up z i r 2), rf_l (rf_up z i r 3), top, low, sq, un, ov, hu, ho)) : wY_div_140 post (nI i) (rf_l L) (rf_l T) (nI p) (nI how) fl (rf_l (z 0)) (rf_l (z 1)) (rf_l (z 2)) (rf_l (z 3)) top low sq un ov hu ho := by
  unfold wY_div_140 wpY_exact
  dsimp only
  exact rf_yround h2 h10 hh hi A (fun r f un ov hu ho hO => h _ _ _ _ _ _ _ _ _ hO)
theorem rf_yd106 {post : Int32 → SY → Prop} {p how i : Nat} {fl sq hu ho : Int32} {top low un ov : Int64} {z : Nat → Int} {q : Int} (h2 : 2 ≤ p) (h10 : p ≤ 10) (hh : how < 4) (hi : i < 4) {X Y : Int} {ka kb : Nat} (hX : X.natAbs < 1024) (hY : Y.natAbs < 1024) (hka : ka ≤ 32) (hkb : kb ≤ 32) (hYb : (Y * ((2 ^ kb : Nat) : Int)).natAbs < 8589934592)
    (hq : ∀ h, rf_sg (q - 2 * h) = rf_sg (X * ((2 ^ ka : Nat) : Int) * 16384 - 2 * h * (Y * ((2 ^ kb : Nat) : Int))))
    (h : ∀ r f top low sq un ov hu ho, rf_Out p how q r f → post (nI f) (nI p, nI how, fl ||| nI f, rf_l (rf_up z i r 0), rf_l (rf_up z i r 1), rf_l (rf_up z i r 2), rf_l (rf_up z i r 3), top, low, sq, un, ov, hu, ho)) : wY_div_106 post (nI i) (rf_l X) (rf_i ((ka : Int) - (kb : Int) + 12)) (rf_l Y) (nI p) (nI how) fl (rf_l (z 0)) (rf_l (z 1)) (rf_l (z 2)) (rf_l (z 3)) top low sq un ov hu ho := by
  unfold wY_div_106 wY_div_124
  have i0 : (0 : Int32) = rf_i 0 := by decide
  have e20 : ((2 ^ 0 : Nat) : Int) = 1 := rfl
  by_cases d : (ka : Int) - (kb : Int) + 12 < 0
  · have cc : rf_i ((ka : Int) - (kb : Int) + 12) < 0 := by
      rw [i0, rf_ilt (by omega) (by omega)]
      exact d
    obtain ⟨E, hE⟩ : ∃ E : Nat, kb = ka + 12 + E := ⟨kb - ka - 12, by omega⟩
    have en : -rf_i ((ka : Int) - (kb : Int) + 12) = nI E := by
      rw [rf_ineg, rf_inI]
      congr 1
      omega
    refine br_t cc (br_t cc ?_)
    rw [en, rf_shlc _ _ E (by omega) rfl]
    have A := rf_Ag_d (q := q) (x := X) (y := Y) (ka := ka) (kb := kb) (E1 := 0) (E2 := E) (by omega) hq (by rw [e20, Int.mul_one]; omega) (by
      have b1 : Y.natAbs * 2 ^ (E + 12) ≤ Y.natAbs * 2 ^ kb := Nat.mul_le_mul (Nat.le_refl _) (Nat.pow_le_pow_right (by decide) (by omega))
      have b2 : (Y * ((2 ^ kb : Nat) : Int)).natAbs = Y.natAbs * 2 ^ kb := by
        rw [Int.natAbs_mul]
        rfl
      have b3 : (Y * ((2 ^ E : Nat) : Int)).natAbs = Y.natAbs * 2 ^ E := by
        rw [Int.natAbs_mul]
        rfl
      have b4 : Y.natAbs * 2 ^ (E + 12) = Y.natAbs * 2 ^ E * 4096 := by
        rw [Nat.pow_add, ← Nat.mul_assoc]
      omega)
    rw [e20, Int.mul_one] at A
    exact rf_yd140 h2 h10 hh hi A h
  · have cc : ¬ rf_i ((ka : Int) - (kb : Int) + 12) < 0 := by
      rw [i0, rf_ilt (by omega) (by omega)]
      exact d
    obtain ⟨E, hE⟩ : ∃ E : Nat, E + kb = ka + 12 := ⟨ka + 12 - kb, by omega⟩
    have en : rf_i ((ka : Int) - (kb : Int) + 12) = nI E := by
      rw [rf_inI]
      congr 1
      omega
    refine br_f cc (br_f cc ?_)
    rw [en, rf_shlc _ _ E (by omega) rfl]
    have bX := rf_pb (m := X) (j := E) (A := 1024) (J := 44) (by omega) (by omega)
    have A := rf_Ag_d (q := q) (x := X) (y := Y) (ka := ka) (kb := kb) (E1 := E) (E2 := 0) (by omega) hq (by omega) (by rw [e20, Int.mul_one]; omega)
    rw [e20, Int.mul_one] at A
    exact rf_yd140 h2 h10 hh hi A h
theorem rf_ydiv1 {post : Int32 → SY → Prop} {b w fl sq hu ho : Int32} {top low un ov : Int64} {z : Nat → Int} {i x y : Nat} (hi : i < 4) (hx : x < 4) (hy : y < 4) (h0 : z y = 0)
    (h : post 4 (b, w, fl ||| 4, rf_l (rf_up z i 0 0), rf_l (rf_up z i 0 1), rf_l (rf_up z i 0 2), rf_l (rf_up z i 0 3), top, low, sq, un, ov, hu, ho)) : wpY_div post (b, w, fl, rf_l (z 0), rf_l (z 1), rf_l (z 2), rf_l (z 3), top, low, sq, un, ov, hu, ho) (nI i) (nI x) (nI y) := by
  unfold wpY_div
  dsimp only
  refine rf_yis1 hi (br_f rf_ne01 (rf_yis1 hx (br_f rf_ne01 (rf_yis1 hy (br_f rf_ne01 (rf_yget hy ?_))))))
  refine br_t ?_ (rf_yinv hi h)
  rw [h0]
  rfl
theorem rf_ydiv {post : Int32 → SY → Prop} {p how i : Nat} {fl sq hu ho : Int32} {top low un ov : Int64} {z : Nat → Int} {q : Int} (h2 : 2 ≤ p) (h10 : p ≤ 10) (hh : how < 4) (hi : i < 4) {x y : Nat} (hx : x < 4) (hy : y < 4) (Fx : rf_F p (z x)) (Fy : rf_F p (z y)) (h0 : z y ≠ 0)
    (hq1 : (z x < 0 ↔ z y < 0) → q = rf_wb (((z x).natAbs * 16384 : Nat) : Int) ((z y).natAbs : Int)) (hq2 : ¬ (z x < 0 ↔ z y < 0) → q = -rf_wb (((z x).natAbs * 16384 : Nat) : Int) ((z y).natAbs : Int))
    (h : ∀ r f top low sq un ov hu ho, rf_Out p how q r f → post (nI f) (nI p, nI how, fl ||| nI f, rf_l (rf_up z i r 0), rf_l (rf_up z i r 1), rf_l (rf_up z i r 2), rf_l (rf_up z i r 3), top, low, sq, un, ov, hu, ho)) : wpY_div post (nI p, nI how, fl, rf_l (z 0), rf_l (z 1), rf_l (z 2), rf_l (z 3), top, low, sq, un, ov, hu, ho) (nI i) (nI x) (nI y) := by
  unfold wpY_div
  dsimp only
  have bx := rf_zb h10 Fx
  have by' := rf_zb h10 Fy
  obtain ⟨m1, k1, M1⟩ := rf_MK_ex h10 Fx
  obtain ⟨m2, k2, M2⟩ := rf_MK_ex h10 Fy
  have b1 := M1.2.2.1
  have b2 := M2.2.2.1
  have s2 := rf_sgn (m := m2) k2
  rw [← M2.1] at s2
  have dpos : (0 : Int) < ((z y).natAbs : Int) := by omega
  have i12 : (12 : Int32) = rf_i 12 := by decide
  refine rf_yis1 hi (br_f rf_ne01 (rf_yis1 hx (br_f rf_ne01 (rf_yis1 hy (br_f rf_ne01 (rf_yget hy ?_))))))
  refine br_f ?_ (rf_ymant hx M1 (rf_ymant hy M2 (rf_yexp hx M1 (rf_yexp hy M2 ?_))))
  · rw [rf_0, rf_eq (rf_Bn (by omega)) rf_b0]
    exact h0
  · rw [rf_isub, i12, rf_iadd]
    have ee : (k1 : Int) - 12 - ((k2 : Int) - 12) + 12 = (k1 : Int) - (k2 : Int) + 12 := by omega
    rw [ee, rf_il (by omega), rf_il (by omega)]
    refine nm_e ?_
    unfold wY_div_89
    rw [rf_0, rf_le rf_b0 (rf_Bn (by omega)), rf_neg, rf_neg]
    have fin : ∀ X Y : Int, X.natAbs < 1024 → Y.natAbs < 1024 → ((0 ≤ z y ∧ X = m1 ∧ Y = m2) ∨ (z y < 0 ∧ X = -m1 ∧ Y = -m2)) → wY_div_106 post (nI i) (rf_l X) (rf_i ((k1 : Int) - (k2 : Int) + 12)) (rf_l Y) (nI p) (nI how) fl (rf_l (z 0)) (rf_l (z 1)) (rf_l (z 2)) (rf_l (z 3)) top low sq un ov hu ho := by
      intro X Y hX hY hXY
      have eY : Y * ((2 ^ k2 : Nat) : Int) = ((z y).natAbs : Int) := by
        have hM := M2.1
        rcases hXY with ⟨g, _, rfl⟩ | ⟨g, _, rfl⟩
        · rw [← hM]
          omega
        · rw [Int.neg_mul, ← hM]
          omega
      have eX : (0 ≤ z y ∧ X * ((2 ^ k1 : Nat) : Int) = z x) ∨ (z y < 0 ∧ X * ((2 ^ k1 : Nat) : Int) = -z x) := by
        have hM := M1.1
        rcases hXY with ⟨g, rfl, _⟩ | ⟨g, rfl, _⟩
        · exact Or.inl ⟨g, hM.symm⟩
        · exact Or.inr ⟨g, by rw [Int.neg_mul, ← hM]⟩
      refine rf_yd106 h2 h10 hh hi hX hY M1.2.2.2 M2.2.2.2 (by rw [eY]; omega) (fun t => ?_) h
      rw [eY]
      by_cases s : (z x < 0 ↔ z y < 0)
      · have e : X * ((2 ^ k1 : Nat) : Int) * 16384 = (((z x).natAbs * 16384 : Nat) : Int) := by omega
        rw [e, hq1 s]
        exact rf_st dpos t
      · have e : X * ((2 ^ k1 : Nat) : Int) * 16384 = -(((z x).natAbs * 16384 : Nat) : Int) := by omega
        rw [e, hq2 s]
        exact rf_stn dpos t
    refine br_c (fun c => br_t c ?_) (fun c => br_f c ?_)
    · exact fin m1 m2 b1 b2 (Or.inl ⟨by omega, rfl, rfl⟩)
    · exact fin (-m1) (-m2) (by omega) (by omega) (Or.inr ⟨by omega, rfl, rfl⟩)
theorem i_vc_div {k : Nat} {u : SX} {v : SY} (I : i_Rel k u v) (hk : k + 4 ≤ 2049) (v1 : Int32) (v2 : Int32) (v3 : Int32) : wpX_div (fun r u' => wpY_div (fun r' v' => r' = r ∧ i_Rel (k + 4) u' v') v v1 v2 v3) u v1 v2 v3 := by
  have J := I
  obtain ⟨p, how, fl, a, z, top, low, sq, un, ov, hu, ho, h2, h10, hh, hz, rfl, rfl⟩ := I
  unfold wpX_div
  dsimp only
  by_cases c : rf_R v1 ∧ rf_R v2 ∧ rf_R v3
  · obtain ⟨⟨i, hi, rfl⟩, ⟨x, hx, rfl⟩, ⟨y, hy, rfl⟩⟩ := c
    have Fx := (hz x hx).1
    have Fy := (hz y hy).1
    have bx := rf_zb h10 Fx
    have by' := rf_zb h10 Fy
    refine rf_xars1 hi hx hy (br_f rf_ne01 ⟨rf_vin hy, ?_⟩)
    rw [rf_cl hx, rf_cl hy, (hz x hx).2, (hz y hy).2, rf_0, rf_eq (rf_Bn (by omega)) rf_b0]
    by_cases d : z y = 0
    · exact br_t d (rf_xinv hi (rf_ydiv1 hi hx hy d ⟨rfl, rf_mk h2 h10 hh hz (rf_F_0 p)⟩))
    · refine br_f d ⟨rf_vin hx, rf_vin hy, ?_⟩
      have w := rf_wb_b (((z x).natAbs * 16384 : Nat) : Int) ((z y).natAbs : Int)
      have w1 := Int.ediv_nonneg (a := (((z x).natAbs * 16384 : Nat) : Int)) (b := ((z y).natAbs : Int)) (by omega) (by omega)
      have w2 := Int.ediv_le_self (a := (((z x).natAbs * 16384 : Nat) : Int)) ((z y).natAbs : Int) (by omega)
      refine rf_xquo bx by' d (fun s => ?_) (fun s => ?_)
      · refine rf_xput h2 h10 hh hi (by omega) (fun r f hO => ?_)
        exact rf_ydiv h2 h10 hh hi hx hy Fx Fy d (fun _ => rfl) (fun n => absurd s n) (fun r' f' top low sq un ov hu ho hO' => rf_fin h2 h10 hh hz hO hO')
      · refine rf_xput h2 h10 hh hi (by omega) (fun r f hO => ?_)
        exact rf_ydiv h2 h10 hh hi hx hy Fx Fy d (fun n => absurd n s) (fun _ => rfl) (fun r' f' top low sq un ov hu ho hO' => rf_fin h2 h10 hh hz hO hO')
  · exact rf_xars0 c (br_t rfl (rf_ydiv0 c ⟨rfl, J⟩))

def i_Rel (k : Nat) (u : SX) (v : SY) : Prop :=
  ∃ (p how : Nat) (fl : Int32) (a : Nat → Int64) (z : Nat → Int) (top low : Int64) (sq : Int32) (un ov : Int64) (hu ho : Int32), 2 ≤ p ∧ p ≤ 10 ∧ how < 4 ∧ (∀ j, j < 4 → rf_F p (z j) ∧ a j = rf_l (z j)) ∧
    u = (nI p, rf_l (rf_Gr p : Int), nI how, fl, a) ∧ v = (nI p, nI how, fl, rf_l (z 0), rf_l (z 1), rf_l (z 2), rf_l (z 3), top, low, sq, un, ov, hu, ho)
theorem i_up {k : Nat} {u : SX} {v : SY} (h : i_Rel k u v) : i_Rel (k + 4) u v := h
theorem rf_mk {k p how i : Nat} {fl : Int32} {a : Nat → Int64} {z : Nat → Int} {r : Int} {top low un ov : Int64} {sq hu ho : Int32} (h2 : 2 ≤ p) (h10 : p ≤ 10) (hh : how < 4) (hz : ∀ j, j < 4 → rf_F p (z j) ∧ a j = rf_l (z j)) (hF : rf_F p r) :
    i_Rel k (nI p, rf_l (rf_Gr p : Int), nI how, fl, vp_updL a i (rf_l r)) (nI p, nI how, fl, rf_l (rf_up z i r 0), rf_l (rf_up z i r 1), rf_l (rf_up z i r 2), rf_l (rf_up z i r 3), top, low, sq, un, ov, hu, ho) := by
  refine ⟨p, how, fl, vp_updL a i (rf_l r), rf_up z i r, top, low, sq, un, ov, hu, ho, h2, h10, hh, fun j hj => ?_, rfl, rfl⟩
  unfold rf_up vp_updL
  by_cases c : j = i
  · rw [if_pos c, if_pos c]
    exact ⟨hF, rfl⟩
  · rw [if_neg c, if_neg c]
    exact hz j hj
theorem rf_fin {k p how i f f' : Nat} {fl : Int32} {a : Nat → Int64} {z : Nat → Int} {q r r' : Int} {top low un ov : Int64} {sq hu ho : Int32} (h2 : 2 ≤ p) (h10 : p ≤ 10) (hh : how < 4) (hz : ∀ j, j < 4 → rf_F p (z j) ∧ a j = rf_l (z j))
    (hO : rf_Out p how q r f) (hO' : rf_Out p how q r' f') :
    nI f' = nI f ∧ i_Rel k (nI p, rf_l (rf_Gr p : Int), nI how, fl ||| nI f, vp_updL a i (rf_l r)) (nI p, nI how, fl ||| nI f', rf_l (rf_up z i r' 0), rf_l (rf_up z i r' 1), rf_l (rf_up z i r' 2), rf_l (rf_up z i r' 3), top, low, sq, un, ov, hu, ho) := by
  obtain ⟨e1, e2⟩ := rf_Out_u hO hO'
  subst e1 e2
  exact ⟨rfl, rf_mk h2 h10 hh hz (rf_Out_F hO).1⟩
theorem rf_zb {p : Nat} {x : Int} (h10 : p ≤ 10) (h : rf_F p x) : x.natAbs < 8589934592 := by
  have a := rf_F_le h
  have b := rf_Gr_lt h10
  omega
theorem rf_x29 {post : SX → Prop} {p : Nat} {D md fl : Int32} {G : Int64} {a : Nat → Int64} (hp : p ≤ 10) (h : post (nI p, rf_l (rf_Gr p : Int), 0, 0, a)) : wX_init_29 post (nI p) D G md fl a := by
  unfold wX_init_29
  refine nm_r (e' := rf_l (rf_Gr p : Int)) ?_ h
  have b := Nat.two_pow_pos p
  rw [rf_1, rf_shlc _ _ p (by omega) rfl, Int.one_mul, rf_sub, rf_shlc _ 23 23 (by decide) rfl]
  congr 1
  unfold rf_Gr
  omega
theorem rf_st0 {p : Nat} (h2 : 2 ≤ p) (h10 : p ≤ 10) : i_Rel 1 (nI p, rf_l (rf_Gr p : Int), 0, 0, fun _ => 0) (nI p, 0, 0, 0, 0, 0, 0, 0, 0, 0, 0, 0, 0, 0) := by
  refine ⟨p, 0, 0, fun _ => 0, fun _ => 0, 0, 0, 0, 0, 0, 0, 0, h2, h10, by omega, fun j _ => ⟨rf_F_0 p, rf_0⟩, rfl, ?_⟩
  show _ = (nI p, nI 0, (0 : Int32), rf_l 0, rf_l 0, rf_l 0, rf_l 0, _, _, _, _, _, _, _)
  rw [← rf_0]
  rfl
theorem i_vc0 (k0 : Int32) : wpX_init (fun u => wpY_init (fun v => i_Rel 1 u v) k0) k0 := by
  by_cases c : (2 : Int32) ≤ k0
  · by_cases d : k0 ≤ 10
    · obtain ⟨j, hj, e⟩ := nI_of (x := k0) (Int32.not_lt.mpr (Int32.le_trans (by decide) c))
      subst e
      have c' := (nI_leI (a := 2) (b := j) (by omega) hj).mp c
      have d' := (nI_leI (a := j) (b := 10) hj (by omega)).mp d
      exact br_t c (br_t d (rf_x29 d' (br_t c (br_t d (rf_st0 c' d')))))
    · exact br_t c (br_f d (rf_x29 (p := 10) (by omega) (br_t c (br_f d (rf_st0 (p := 10) (by omega) (by omega))))))
  · exact br_f c (br_t (by decide) (rf_x29 (p := 2) (by omega) (br_f c (rf_st0 (p := 2) (by omega) (by omega)))))
theorem i_vc_precision {k : Nat} {u : SX} {v : SY} (I : i_Rel k u v) (hk : k + 4 ≤ 2049) : wpX_precision (fun r => wpY_precision (fun r' => r' = r ∧ i_Rel (k + 4) u v) v) u := by
  have J := I
  obtain ⟨p, how, fl, a, z, top, low, sq, un, ov, hu, ho, h2, h10, hh, hz, rfl, rfl⟩ := I
  exact ⟨rfl, J⟩
theorem i_vc_setMode {k : Nat} {u : SX} {v : SY} (I : i_Rel k u v) (hk : k + 4 ≤ 2049) (v1 : Int32) : wpX_setMode (fun r u' => wpY_setMode (fun r' v' => r' = r ∧ i_Rel (k + 4) u' v') v v1) u v1 := by
  have J := I
  obtain ⟨p, how, fl, a, z, top, low, sq, un, ov, hu, ho, h2, h10, hh, hz, rfl, rfl⟩ := I
  by_cases c : v1 < 0
  · exact br_t c (br_t c ⟨rfl, J⟩)
  · by_cases d : v1 ≤ 3
    · obtain ⟨j, hj, e⟩ := nI_of c
      subst e
      have d' := (nI_leI (a := j) (b := 3) hj (by omega)).mp d
      exact br_f c (br_t d (br_f c (br_t d ⟨rfl, ⟨p, j, fl, a, z, top, low, sq, un, ov, hu, ho, h2, h10, by omega, hz, rfl, rfl⟩⟩)))
    · exact br_f c (br_f d (br_f c (br_f d ⟨rfl, J⟩)))
theorem i_vc_takeFlags {k : Nat} {u : SX} {v : SY} (I : i_Rel k u v) (hk : k + 4 ≤ 2049) : wpX_takeFlags (fun r u' => wpY_takeFlags (fun r' v' => r' = r ∧ i_Rel (k + 4) u' v') v) u := by
  obtain ⟨p, how, fl, a, z, top, low, sq, un, ov, hu, ho, h2, h10, hh, hz, rfl, rfl⟩ := I
  exact ⟨rfl, ⟨p, how, 0, a, z, top, low, sq, un, ov, hu, ho, h2, h10, hh, hz, rfl, rfl⟩⟩
theorem rf_cl {j : Nat} (hj : j < 4) : (nI j).toNatClampNeg = j := nI_clamp (by omega)
theorem rf_vin {j : Nat} (hj : j < 4) : vp_in (nI j) 4 := vp_in_nI hj (by omega)
theorem i_vc_mantissa {k : Nat} {u : SX} {v : SY} (I : i_Rel k u v) (hk : k + 4 ≤ 2049) (v1 : Int32) : wpX_mantissa (fun r => wpY_mantissa (fun r' => r' = r ∧ i_Rel (k + 4) u v) v v1) u v1 := by
  have J := I
  obtain ⟨p, how, fl, a, z, top, low, sq, un, ov, hu, ho, h2, h10, hh, hz, rfl, rfl⟩ := I
  unfold wpX_mantissa
  dsimp only
  by_cases c : rf_R v1
  · obtain ⟨i, hi, rfl⟩ := c
    obtain ⟨hF, ha⟩ := hz i hi
    obtain ⟨m, kk, M⟩ := rf_MK_ex h10 hF
    have zb := rf_zb h10 hF
    refine rf_xreg1 hi (br_f rf_ne01 ⟨rf_vin hi, ?_⟩)
    rw [rf_cl hi, ha]
    refine nm_e ?_
    by_cases x0 : z i = 0
    · unfold wpX_twosIn
      rw [rf_0, rf_eq (rf_Bn (by omega)) rf_b0]
      refine br_t x0 (rf_ymant hi M ⟨?_, J⟩)
      have m0 : m = 0 := by
        have h := M.1
        rcases M.2.1 with o | o
        · exact absurd (h.symm.trans x0) (rf_nz o kk)
        · exact o.2.1
      rw [m0, x0]
      decide
    · refine rf_xtw x0 M (rf_ymant hi M ⟨?_, J⟩)
      have hk := M.2.2.2
      rw [rf_shrc (rf_Bn (by omega)) _ kk (by omega) rfl, M.1, rf_ed (Nat.le_refl _), Nat.sub_self, show ((2 ^ 0 : Nat) : Int) = 1 from rfl, Int.mul_one, rf_li]
  · refine rf_xreg0 c (br_t rfl ?_)
    unfold wpY_mantissa
    dsimp only
    exact rf_yis0 c (br_t rfl ⟨1, br_f (by decide) (br_t rfl ⟨rfl, J⟩)⟩)
theorem i_vc_exponent {k : Nat} {u : SX} {v : SY} (I : i_Rel k u v) (hk : k + 4 ≤ 2049) (v1 : Int32) : wpX_exponent (fun r => wpY_exponent (fun r' => r' = r ∧ i_Rel (k + 4) u v) v v1) u v1 := by
  have J := I
  obtain ⟨p, how, fl, a, z, top, low, sq, un, ov, hu, ho, h2, h10, hh, hz, rfl, rfl⟩ := I
  unfold wpX_exponent
  dsimp only
  by_cases c : rf_R v1
  · obtain ⟨i, hi, rfl⟩ := c
    obtain ⟨hF, ha⟩ := hz i hi
    obtain ⟨m, kk, M⟩ := rf_MK_ex h10 hF
    have zb := rf_zb h10 hF
    refine rf_xreg1 hi (br_f rf_ne01 ⟨rf_vin hi, ?_⟩)
    rw [rf_cl hi, ha, rf_0, rf_eq (rf_Bn (by omega)) rf_b0]
    by_cases x0 : z i = 0
    · refine br_t x0 (rf_yexp hi M ⟨?_, J⟩)
      have k0 : kk = 12 := by
        have h := M.1
        rcases M.2.1 with o | o
        · exact absurd (h.symm.trans x0) (rf_nz o kk)
        · exact o.2.2
      rw [k0]
      decide
    · refine br_f x0 ⟨rf_vin hi, rf_xtw x0 M (rf_yexp hi M ⟨?_, J⟩)⟩
      have e12 : (12 : Int32) = rf_i 12 := by decide
      rw [rf_inI, e12, rf_isub]
  · refine rf_xreg0 c (br_t rfl ?_)
    unfold wpY_exponent
    dsimp only
    exact rf_yis0 c (br_t rfl (br_t rfl ⟨1, br_f (by decide) (br_t rfl ⟨rfl, J⟩)⟩))
theorem rf_ycm {post : Int32 → Prop} {b w fl sq hu ho : Int32} {r0 r1 r2 r3 top low un ov : Int64} {x y : Int} (hx : x.natAbs < 8589934592) (hy : y.natAbs < 8589934592)
    (h0 : x = y → post 0) (h1 : y < x → post 1) (h2 : x < y → post (-1)) : wY_compare_51 post (rf_l x) (rf_l y) b w fl r0 r1 r2 r3 top low sq un ov hu ho := by
  unfold wY_compare_51
  rw [rf_le (rf_Bn (by omega)) (rf_Bn (by omega)), rf_le (rf_Bn (by omega)) (rf_Bn (by omega))]
  exact br_c (fun c => br_c (fun d => h0 (by omega)) (fun d => h1 (by omega))) (fun c => h2 (by omega))
theorem rf_ycm0 {post : Int32 → Prop} {b w fl sq hu ho : Int32} {r0 r1 r2 r3 top low un ov : Int64} {v1 v2 : Int32} (c : ¬ (rf_R v1 ∧ rf_R v2)) (h : post 0) : wY_compare_24 post v1 v2 b w fl r0 r1 r2 r3 top low sq un ov hu ho := by
  have h51 : wY_compare_51 post 0 0 b w fl r0 r1 r2 r3 top low sq un ov hu ho := br_t (by decide) (br_t (by decide) h)
  unfold wY_compare_24 wY_compare_25 wY_compare_50
  by_cases c1 : rf_R v1
  · by_cases c2 : rf_R v2
    · exact absurd ⟨c1, c2⟩ c
    · obtain ⟨i, hi, rfl⟩ := c1
      exact rf_yis1 hi (br_f rf_ne01 (rf_yis0 c2 (br_t rfl h51)))
  · exact rf_yis0 c1 (br_t rfl h51)
theorem i_vc_compare {k : Nat} {u : SX} {v : SY} (I : i_Rel k u v) (hk : k + 4 ≤ 2049) (v1 : Int32) (v2 : Int32) : wpX_compare (fun r => wpY_compare (fun r' => r' = r ∧ i_Rel (k + 4) u v) v v1 v2) u v1 v2 := by
  have J := I
  obtain ⟨p, how, fl, a, z, top, low, sq, un, ov, hu, ho, h2, h10, hh, hz, rfl, rfl⟩ := I
  unfold wpX_compare wpY_compare
  dsimp only
  by_cases c1 : rf_R v1
  · by_cases c2 : rf_R v2
    · obtain ⟨i, hi, rfl⟩ := c1
      obtain ⟨j, hj, rfl⟩ := c2
      obtain ⟨hF, ha⟩ := hz i hi
      obtain ⟨hG, hb⟩ := hz j hj
      have zb := rf_zb h10 hF
      have zc := rf_zb h10 hG
      have YY : ∀ r : Int32, (z i = z j → 0 = r) → (z j < z i → 1 = r) → (z i < z j → -1 = r) → wpY_is (fun r_1 => (r_1 = 0 → wY_compare_24 (fun r' => r' = r ∧ i_Rel (k + 4) (nI p, rf_l (rf_Gr p : Int), nI how, fl, a) (nI p, nI how, fl, rf_l (z 0), rf_l (z 1), rf_l (z 2), rf_l (z 3), top, low, sq, un, ov, hu, ho)) (nI i) (nI j) (nI p) (nI how) fl (rf_l (z 0)) (rf_l (z 1)) (rf_l (z 2)) (rf_l (z 3)) top low sq un ov hu ho) ∧ (¬ r_1 = 0 → wpY_is (fun r_66 => (r_66 = 0 → wY_compare_24 (fun r' => r' = r ∧ i_Rel (k + 4) (nI p, rf_l (rf_Gr p : Int), nI how, fl, a) (nI p, nI how, fl, rf_l (z 0), rf_l (z 1), rf_l (z 2), rf_l (z 3), top, low, sq, un, ov, hu, ho)) (nI i) (nI j) (nI p) (nI how) fl (rf_l (z 0)) (rf_l (z 1)) (rf_l (z 2)) (rf_l (z 3)) top low sq un ov hu ho) ∧ (¬ r_66 = 0 → wpY_get (fun r_82 => wY_compare_25 (fun r' => r' = r ∧ i_Rel (k + 4) (nI p, rf_l (rf_Gr p : Int), nI how, fl, a) (nI p, nI how, fl, rf_l (z 0), rf_l (z 1), rf_l (z 2), rf_l (z 3), top, low, sq, un, ov, hu, ho)) (nI i) (nI j) r_82 (nI p) (nI how) fl (rf_l (z 0)) (rf_l (z 1)) (rf_l (z 2)) (rf_l (z 3)) top low sq un ov hu ho) (nI p, nI how, fl, rf_l (z 0), rf_l (z 1), rf_l (z 2), rf_l (z 3), top, low, sq, un, ov, hu, ho) (nI i))) (nI p, nI how, fl, rf_l (z 0), rf_l (z 1), rf_l (z 2), rf_l (z 3), top, low, sq, un, ov, hu, ho) (nI j))) (nI p, nI how, fl, rf_l (z 0), rf_l (z 1), rf_l (z 2), rf_l (z 3), top, low, sq, un, ov, hu, ho) (nI i) := by
        intro r q0 q1 q2
        refine rf_yis1 hi (br_f rf_ne01 (rf_yis1 hj (br_f rf_ne01 (rf_yget hi ?_))))
        unfold wY_compare_25
        refine rf_yis1 hi (br_f rf_ne01 (rf_yis1 hj (br_f rf_ne01 (rf_yget hj ?_))))
        exact rf_ycm zb zc (fun e => ⟨q0 e, J⟩) (fun e => ⟨q1 e, J⟩) (fun e => ⟨q2 e, J⟩)
      refine rf_xreg1 hi (br_f rf_ne01 (rf_xreg1 hj (br_f rf_ne01 ⟨rf_vin hi, rf_vin hj, ?_⟩)))
      rw [rf_cl hi, rf_cl hj, ha, hb, rf_eq (rf_Bn (by omega)) (rf_Bn (by omega)), rf_le (rf_Bn (by omega)) (rf_Bn (by omega))]
      refine br_c (fun e => YY 0 (fun _ => rfl) (fun d => by omega) (fun d => by omega)) (fun e => ⟨rf_vin hi, rf_vin hj, br_c (fun d => YY 1 (fun d => by omega) (fun _ => rfl) (fun d => by omega)) (fun d => YY (-1) (fun d => by omega) (fun d => by omega) (fun _ => rfl))⟩)
    · obtain ⟨i, hi, rfl⟩ := c1
      exact rf_xreg1 hi (br_f rf_ne01 (rf_xreg0 c2 (br_t rfl (rf_yis1 hi (br_f rf_ne01 (rf_yis0 c2 (br_t rfl (rf_ycm0 (fun h => c2 h.2) ⟨rfl, J⟩))))))))
  · exact rf_xreg0 c1 (br_t rfl (rf_yis0 c1 (br_t rfl (rf_ycm0 (fun h => c1 h.1) ⟨rfl, J⟩))))

theorem rf_yp94 {post : SY → Prop} {b w fl sq hu ho : Int32} {r0 r1 r2 r3 t0 l0 un ov : Int64} {m C : Int} {K : Nat} (hK : K < 64)
    (h : post (b, w, fl, r0, r1, r2, r3, rf_l (m * ((2 ^ K : Nat) : Int) + C * 4096), rf_l 4096, 0, un, ov, hu, ho)) :
    wY_product_94 post (rf_l C) (rf_l m) (rf_i ((K : Int) - 24)) b w fl r0 r1 r2 r3 t0 l0 sq un ov hu ho := by
  unfold wY_product_94
  have e1 : rf_i ((K : Int) - 24) + 24 = nI K := by
    have e2 : rf_i ((K : Int) - 24) + 24 = rf_i ((K : Int) - 24 + 24) := rf_iadd _ 24
    rw [e2, rf_inI]
    congr 1
    omega
  rw [e1, rf_shlc _ _ K hK rfl, rf_shlc _ 12 12 (by decide) rfl, rf_add]
  exact h
theorem rf_yp70 {post : SY → Prop} {b w fl sq hu ho : Int32} {r0 r1 r2 r3 t0 l0 un ov : Int64} {m : Int} (hm : m.natAbs ≤ 1048576)
    (h0 : 0 ≤ m → post (b, w, fl, r0, r1, r2, r3, rf_l 8796093022208, rf_l 1, 0, un, ov, hu, ho)) (h1 : m < 0 → post (b, w, fl, r0, r1, r2, r3, rf_l (-8796093022208), rf_l 1, 0, un, ov, hu, ho)) :
    wY_product_70 post (rf_l m) b w fl r0 r1 r2 r3 t0 l0 sq un ov hu ho := by
  unfold wY_product_70 wY_product_87
  rw [rf_0, rf_le rf_b0 (rf_Bn (by omega))]
  exact br_c (fun c => h0 c) (fun c => h1 (by omega))
def rf_TL (P C top low : Int) : Prop := (36028797018963968 ≤ P.natAbs ∧ low = 1 ∧ ((0 < P ∧ top = 8796093022208) ∨ (P < 0 ∧ top = -8796093022208))) ∨ (P.natAbs < 36028797018963968 ∧ low = 4096 ∧ top = P + C * 4096)
theorem rf_yp43 {post : SY → Prop} {b w fl sq hu ho : Int32} {r0 r1 r2 r3 t0 l0 un ov : Int64} {m C : Int} {K : Nat} (hm : m.natAbs ≤ 1048576) (hK : K < 65) (h0 : m = 0 → K < 55)
    (h : ∀ top low, rf_TL (m * ((2 ^ K : Nat) : Int)) C top low → post (b, w, fl, r0, r1, r2, r3, rf_l top, rf_l low, 0, un, ov, hu, ho)) :
    wY_product_43 post (rf_l C) (rf_l m) (rf_i ((K : Int) - 24)) (rf_l (m.natAbs : Int)) b w fl r0 r1 r2 r3 t0 l0 sq un ov hu ho := by
  unfold wY_product_43
  have sg := rf_sgn (m := m) K
  have i31 : (31 : Int32) = rf_i 31 := by decide
  have i0 : (0 : Int32) = rf_i 0 := by decide
  have sat : 36028797018963968 ≤ (m * ((2 ^ K : Nat) : Int)).natAbs → wY_product_70 post (rf_l m) b w fl r0 r1 r2 r3 t0 l0 sq un ov hu ho := fun c =>
    rf_yp70 hm (fun d => h _ _ (Or.inl ⟨c, rfl, Or.inl ⟨by omega, rfl⟩⟩)) (fun d => h _ _ (Or.inl ⟨c, rfl, Or.inr ⟨by omega, rfl⟩⟩))
  have nsat : K < 64 → (m * ((2 ^ K : Nat) : Int)).natAbs < 36028797018963968 → wY_product_94 post (rf_l C) (rf_l m) (rf_i ((K : Int) - 24)) b w fl r0 r1 r2 r3 t0 l0 sq un ov hu ho := fun hk c =>
    rf_yp94 hk (h _ _ (Or.inr ⟨c, rfl, rfl⟩))
  by_cases c1 : 55 ≤ K
  · refine br_t ?_ (sat (rf_sat1 (by omega) c1))
    rw [i31, rf_ile (by omega) (by omega)]
    omega
  · refine br_f ?_ ?_
    · rw [i31, rf_ile (by omega) (by omega)]
      omega
    · by_cases c2 : K < 24
      · refine br_t ?_ (nsat (by omega) (rf_sat3 hm (by omega)))
        rw [i0, rf_ilt (by omega) (by omega)]
        omega
      · refine br_f ?_ ?_
        · rw [i0, rf_ilt (by omega) (by omega)]
          omega
        · have e1 : (31 : Int32) - rf_i ((K : Int) - 24) = nI (55 - K) := by
            rw [i31, rf_isub, rf_inI]
            congr 1
            omega
          have b55 : 2 ^ (55 - K) ≤ 2 ^ 31 := Nat.pow_le_pow_right (by decide) (by omega)
          rw [e1, rf_1, rf_shlc _ _ (55 - K) (by omega) rfl, Int.one_mul, rf_lt (rf_BN (by omega)) (rf_BN (by omega))]
          have s2 := rf_sat2 (m := m) (show K ≤ 55 by omega)
          exact br_c (fun c => nsat (by omega) (by omega)) (fun c => sat (s2.1 (by omega)))
theorem rf_mul0 {a b : Int} (h : a * b = 0) : a = 0 ∨ b = 0 := Int.mul_eq_zero.mp h
theorem rf_yprod {post : SY → Prop} {b w fl sq hu ho : Int32} {t0 l0 un ov : Int64} {z : Nat → Int} {i j p : Nat} {C : Int} (hp : p ≤ 10) (hi : i < 4) (hj : j < 4) (hFi : rf_F p (z i)) (hFj : rf_F p (z j))
    (h : ∀ top low, rf_TL (z i * z j) C top low → post (b, w, fl, rf_l (z 0), rf_l (z 1), rf_l (z 2), rf_l (z 3), rf_l top, rf_l low, 0, un, ov, hu, ho)) :
    wpY_product post (b, w, fl, rf_l (z 0), rf_l (z 1), rf_l (z 2), rf_l (z 3), t0, l0, sq, un, ov, hu, ho) (nI i) (nI j) (rf_l C) := by
  unfold wpY_product
  dsimp only
  obtain ⟨m1, k1, M1⟩ := rf_MK_ex hp hFi
  obtain ⟨m2, k2, M2⟩ := rf_MK_ex hp hFj
  have eP : z i * z j = m1 * m2 * ((2 ^ (k1 + k2) : Nat) : Int) := by
    rw [M1.1, M2.1, rf_p2]
    generalize ((2 ^ k1 : Nat) : Int) = x
    generalize ((2 ^ k2 : Nat) : Int) = y
    grind
  rw [eP] at h
  have b1 := M1.2.2.1
  have b2 := M2.2.2.1
  have k1b := M1.2.2.2
  have k2b := M2.2.2.2
  have mb := rf_mb (a := m1) (b := m2) (A := 1024) (B := 1024) (by omega) (by omega)
  have m0 : m1 * m2 = 0 → k1 + k2 < 55 := by
    intro z0
    have o1 := M1.2.1
    have o2 := M2.2.1
    rcases rf_mul0 z0 with e | e
    · omega
    · omega
  refine rf_ymant hi M1 (rf_ymant hj M2 ?_)
  rw [rf_il (by omega), rf_il (by omega), rf_mul]
  refine nm_e (rf_yexp hi M1 (rf_yexp hj M2 ?_))
  refine nm_r (e' := rf_i (((k1 + k2 : Nat) : Int) - 24)) ?_ ?_
  · rw [rf_iadd]
    congr 1
    omega
  · rw [rf_0, rf_le rf_b0 (rf_Bn (by omega)), rf_neg]
    refine br_c (fun c => ?_) (fun c => ?_)
    · have e : m1 * m2 = ((m1 * m2).natAbs : Int) := by omega
      have G := rf_yp43 (post := post) (b := b) (w := w) (fl := fl) (sq := sq) (hu := hu) (ho := ho) (r0 := rf_l (z 0)) (r1 := rf_l (z 1)) (r2 := rf_l (z 2)) (r3 := rf_l (z 3)) (t0 := t0) (l0 := l0) (un := un) (ov := ov) (m := m1 * m2) (C := C) (K := k1 + k2) (by omega) (by omega) m0 h
      rw [← e] at G
      exact G
    · have e : -(m1 * m2) = ((m1 * m2).natAbs : Int) := by omega
      rw [e]
      exact rf_yp43 (by omega) (by omega) m0 h
theorem rf_xprod {post : Int64 → Prop} {a b : Int} (ha : a.natAbs < 8589934592) (hb : b.natAbs < 8589934592) (h1 : (a * b).natAbs ≤ 1125899906842624 → post (rf_l (a * b)))
    (h2 : 1125899906842624 < (a * b).natAbs → 0 < a * b → post (rf_l 1125899906842624)) (h3 : 1125899906842624 < (a * b).natAbs → a * b < 0 → post (rf_l (-1125899906842624))) :
    wpX_productOf post (rf_l a) (rf_l b) := by
  unfold wpX_productOf
  refine rf_xsize (by omega) (rf_xsize (by omega) ?_)
  have en := Int.natAbs_mul a b
  have eF : (1125899906842624 : Int64) = rf_l 1125899906842624 := by decide
  rw [eF, rf_mul, rf_0, rf_eq (a := (b.natAbs : Int)) (rf_BN (by omega)) rf_b0]
  by_cases cb : b.natAbs = 0
  · refine br_t (by omega) (h1 ?_)
    rw [en, cb]
    omega
  · refine br_f (by omega) ⟨by omega, ?_⟩
    have ed : rf_l 1125899906842624 / rf_l (b.natAbs : Int) = rf_l ((1125899906842624 / b.natAbs : Nat) : Int) := by
      rw [rf_div (rf_Bn (by omega)) (rf_BN (by omega)), Int.tdiv_eq_ediv_of_nonneg (by omega), Int.natCast_ediv]
      rfl
    have dl : 1125899906842624 / b.natAbs ≤ 1125899906842624 := Nat.div_le_self _ _
    rw [ed, rf_le (rf_BN (by omega)) (rf_BN (by omega))]
    have iff := Nat.le_div_iff_mul_le (x := a.natAbs) (y := 1125899906842624) (k := b.natAbs) (by omega)
    by_cases c : a.natAbs ≤ 1125899906842624 / b.natAbs
    · exact br_t (by omega) (h1 (by rw [en]; exact iff.1 c))
    · refine br_f (by omega) ?_
      have big : 1125899906842624 < (a * b).natAbs := by
        rw [en]
        have c2 : ¬ a.natAbs * b.natAbs ≤ 1125899906842624 := fun z => c (iff.2 z)
        omega
      have h2' := h2 big
      have h3' := h3 big
      unfold wX_productOf_42 wX_productOf_53
      rw [rf_le rf_b0 (rf_Bn (z := a) (by omega)), rf_0, rf_le rf_b0 (rf_Bn (z := b) (by omega)), eF, rf_neg]
      by_cases sa : 0 ≤ a
      · by_cases sb : 0 ≤ b
        · have := Int.mul_nonneg sa sb
          exact br_t sa (br_t sb (br_t rfl (h2' (by omega))))
        · have t := Int.mul_nonneg sa (show 0 ≤ -b by omega)
          rw [Int.mul_neg] at t
          exact br_t sa (br_f sb (br_f (by decide) (h3' (by omega))))
      · by_cases sb : 0 ≤ b
        · have t := Int.mul_nonneg (show 0 ≤ -a by omega) sb
          rw [Int.neg_mul] at t
          exact br_f sa (br_t sb (br_f (by decide) (h3' (by omega))))
        · have t := Int.mul_nonneg (show 0 ≤ -a by omega) (show 0 ≤ -b by omega)
          rw [Int.neg_mul_neg] at t
          exact br_f sa (br_f sb (br_t rfl (h2' (by omega))))
theorem rf_Ag_mul {P C Q top low : Int} (hC : C.natAbs ≤ 8589934592) (hT : rf_TL P C top low)
    (hQ : (P.natAbs ≤ 1125899906842624 ∧ Q = P) ∨ (1125899906842624 < P.natAbs ∧ 0 < P ∧ Q = 1125899906842624) ∨ (1125899906842624 < P.natAbs ∧ P < 0 ∧ Q = -1125899906842624)) :
    rf_Ag (rf_wb (Q + C * 4096) 1024) (rf_l top) (rf_l low) 0 := by
  unfold rf_TL at hT
  rcases hQ with ⟨h1, rfl⟩ | ⟨h1, h2, rfl⟩ | ⟨h1, h2, rfl⟩
  · rcases hT with hT | ⟨_, rfl, rfl⟩
    · omega
    · exact rf_Ag_m (by omega)
  · exact rf_Ag_mp (by omega) (by omega)
  · exact rf_Ag_mn (by omega) (by omega)
theorem rf_xq47 {post : Int64 → Prop} {a b x : Int} (ha : a.natAbs < 8589934592) (hb : b.natAbs < 8589934592) (h1 : (a < 0 ↔ b < 0) → post (rf_l x)) (h2 : ¬ (a < 0 ↔ b < 0) → post (rf_l (-x))) :
    wX_quotientOf_47 post (rf_l a) (rf_l b) (rf_l x) := by
  unfold wX_quotientOf_47 wX_quotientOf_58 wX_quotientOf_69
  rw [rf_0, rf_le rf_b0 (rf_Bn (by omega)), rf_le rf_b0 (rf_Bn (by omega)), rf_neg]
  by_cases sa : 0 ≤ a
  · by_cases sb : 0 ≤ b
    · exact br_t sa (br_t sb (br_t rfl (h1 (by omega))))
    · exact br_t sa (br_f sb (br_f (by decide) (h2 (by omega))))
  · by_cases sb : 0 ≤ b
    · exact br_f sa (br_t sb (br_f (by decide) (h2 (by omega))))
    · exact br_f sa (br_f sb (br_t rfl (h1 (by omega))))
theorem rf_xquo {post : Int64 → Prop} {a b : Int} (ha : a.natAbs < 8589934592) (hb : b.natAbs < 8589934592) (hb0 : b ≠ 0)
    (h1 : (a < 0 ↔ b < 0) → post (rf_l (rf_wb ((a.natAbs * 16384 : Nat) : Int) (b.natAbs : Int)))) (h2 : ¬ (a < 0 ↔ b < 0) → post (rf_l (-rf_wb ((a.natAbs * 16384 : Nat) : Int) (b.natAbs : Int)))) :
    wpX_quotientOf post (rf_l a) (rf_l b) := by
  unfold wpX_quotientOf
  rw [rf_0, rf_eq (rf_Bn (by omega)) rf_b0]
  refine br_f hb0 (rf_xsize (by omega) ?_)
  refine nm_r (rf_shlN _ 14 14 (by decide) rfl) (rf_xsize (by omega) ?_)
  rw [rf_eq (rf_BN (by omega)) rf_b0]
  refine ⟨by omega, ?_⟩
  have e14 : a.natAbs * 2 ^ 14 = a.natAbs * 16384 := rfl
  rw [e14]
  have ed : rf_l ((a.natAbs * 16384 : Nat) : Int) / rf_l (b.natAbs : Int) = rf_l (((a.natAbs * 16384 : Nat) : Int) / (b.natAbs : Int)) := by
    rw [rf_div (rf_BN (by omega)) (rf_BN (by omega)), Int.tdiv_eq_ediv_of_nonneg (by omega)]
  refine nm_r ed ?_
  have e1 := Int.ediv_mul_add_emod ((a.natAbs * 16384 : Nat) : Int) (b.natAbs : Int)
  have e2 := Int.emod_nonneg ((a.natAbs * 16384 : Nat) : Int) (b := (b.natAbs : Int)) (by omega)
  have e3 := Int.emod_lt_of_pos ((a.natAbs * 16384 : Nat) : Int) (b := (b.natAbs : Int)) (by omega)
  rw [rf_mul, rf_eq (by unfold rf_B; omega) (rf_BN (by omega)), rf_or1]
  unfold rf_wb at h1 h2
  refine br_c (fun c => ?_) (fun c => nm_e ?_)
  · rw [if_pos c] at h1 h2
    exact rf_xq47 ha hb h1 h2
  · rw [if_neg c] at h1 h2
    exact rf_xq47 ha hb h1 h2
theorem rf_xr12 {post : Int64 → Prop} {s : Nat} (hs : s < 1125899906842624) (h : ∀ f : Nat, f < 33554432 → f * f ≤ s → s < (f + 1) * (f + 1) → post (rf_l (rf_rq (f : Int) (s : Int)))) :
    ∀ j f, j ≤ 25 → rf_RI s j f → wX_rootOf_12 post (rf_l (s : Int)) (j + 1) (rf_l (f : Int)) (rf_i ((j : Int) - 1)) := by
  have i0 : (0 : Int32) = rf_i 0 := by decide
  intro j
  induction j with
  | zero =>
    intro f hj hR
    have hf := rf_RI_b hR hs
    have hm := Nat.mul_le_mul (show f ≤ 33554432 by omega) (show f ≤ 33554432 by omega)
    have hh := h f hf hR.2.1 hR.2.2
    unfold wX_rootOf_12
    refine br_t ?_ ?_
    · rw [i0, rf_ilt (by omega) (by omega)]
      omega
    · rw [rf_mul, rf_or1, ← Int.natCast_mul, rf_eq (rf_BN (by omega)) (rf_BN (by omega))]
      unfold rf_rq at hh
      rw [← Int.natCast_mul] at hh
      refine br_c (fun c => ?_) (fun c => ?_)
      · rw [if_pos c] at hh
        exact hh
      · rw [if_neg c] at hh
        exact hh
  | succ j ih =>
    intro f hj hR
    have hf := rf_RI_b hR hs
    have hp : 2 ^ j ≤ 2 ^ 24 := Nat.pow_le_pow_right (by decide) (by omega)
    have hm := Nat.mul_le_mul (show f + 2 ^ j ≤ 67108864 by omega) (show f + 2 ^ j ≤ 67108864 by omega)
    unfold wX_rootOf_12
    have ei : rf_i (((j + 1 : Nat) : Int) - 1) = nI j := by
      rw [rf_inI]
      congr 1
      omega
    have em : nI j + (-1) = rf_i ((j : Int) - 1) := by
      have e2 : (-1 : Int32) = rf_i (-1) := by decide
      rw [rf_inI, e2, rf_iadd]
      congr 1
    rw [ei]
    refine br_f (nI_pos (by omega)) ?_
    refine nm_r (e' := rf_l ((f + 2 ^ j : Nat) : Int)) ?_ ?_
    · rw [rf_1, rf_shlc _ _ j (by omega) rfl, Int.one_mul]
      exact rf_or_f hR.1 hf (by omega)
    · rw [rf_mul, ← Int.natCast_mul, rf_lt (rf_BN (by omega)) (rf_BN (by omega))]
      refine br_c (fun c => nm_r em ?_) (fun c => nm_r em ?_)
      · exact ih f (by omega) (rf_RI_f hR (by omega))
      · exact ih (f + 2 ^ j) (by omega) (rf_RI_t hR (by omega))
theorem rf_xroot {post : Int64 → Prop} {n : Nat} (hn : n < 8589934592) (h : ∀ f : Nat, f < 33554432 → f * f ≤ n * 65536 → n * 65536 < (f + 1) * (f + 1) → post (rf_l (rf_rq (f : Int) ((n * 65536 : Nat) : Int)))) :
    wpX_rootOf post (rf_l (n : Int)) := by
  unfold wpX_rootOf
  refine nm_r (rf_shlN _ 16 16 (by decide) rfl) ⟨26, ?_⟩
  have e16 : n * 2 ^ 16 = n * 65536 := rfl
  rw [e16]
  exact rf_xr12 (by omega) h 25 0 (by omega) ⟨⟨0, by omega⟩, by omega, by omega⟩
theorem rf_f3 : ∀ t, t < 64 → nI t &&& 3 = nI (t % 4) ∧ (nI t >>> ((2 : Int32) &&& 31)) &&& 3 = nI (t / 4 % 4) ∧ (nI t >>> ((4 : Int32) &&& 31)) &&& 3 = nI (t / 16) ∧ nI t >>> ((4 : Int32) &&& 31) = nI (t / 16) := by decide +kernel

theorem rf_yadd {post : Int32 → SY → Prop} {p how i x y : Nat} {fl sq hu ho : Int32} {top low un ov : Int64} {z : Nat → Int} {q : Int} (h2 : 2 ≤ p) (h10 : p ≤ 10) (hh : how < 4) (hi : i < 4) (hx : x < 4) (hy : y < 4) (A : rf_Ag q (rf_l (z x + z y)) (rf_l 1) 0)
    (h : ∀ r f top low sq un ov hu ho, rf_Out p how q r f → post (nI f) (nI p, nI how, fl ||| nI f, rf_l (rf_up z i r 0), rf_l (rf_up z i r 1), rf_l (rf_up z i r 2), rf_l (rf_up z i r 3), top, low, sq, un, ov, hu, ho)) : wpY_add post (nI p, nI how, fl, rf_l (z 0), rf_l (z 1), rf_l (z 2), rf_l (z 3), top, low, sq, un, ov, hu, ho) (nI i) (nI x) (nI y) := by
  unfold wpY_add
  dsimp only
  refine rf_yis1 hi (br_f rf_ne01 (rf_yis1 hx (br_f rf_ne01 (rf_yis1 hy (br_f rf_ne01 (rf_yget hx (rf_yget hy ?_)))))))
  unfold wpY_exact
  dsimp only
  rw [rf_add, rf_1]
  exact rf_yround h2 h10 hh hi A (fun r f un ov hu ho hO => h _ _ _ _ _ _ _ _ _ hO)
theorem rf_yadd0 {post : Int32 → SY → Prop} {v : SY} {v1 v2 v3 : Int32} (c : ¬ (rf_R v1 ∧ rf_R v2 ∧ rf_R v3)) (h : post (-1) v) : wpY_add post v v1 v2 v3 := by
  obtain ⟨b, w, fl, r0, r1, r2, r3, top, low, sq, un, ov, hu, ho⟩ := v
  unfold wpY_add
  dsimp only
  by_cases c1 : rf_R v1
  · by_cases c2 : rf_R v2
    · by_cases c3 : rf_R v3
      · exact absurd ⟨c1, c2, c3⟩ c
      · obtain ⟨i, hi, rfl⟩ := c1
        obtain ⟨j, hj, rfl⟩ := c2
        exact rf_yis1 hi (br_f rf_ne01 (rf_yis1 hj (br_f rf_ne01 (rf_yis0 c3 (br_t rfl h)))))
    · obtain ⟨i, hi, rfl⟩ := c1
      exact rf_yis1 hi (br_f rf_ne01 (rf_yis0 c2 (br_t rfl h)))
  · exact rf_yis0 c1 (br_t rfl h)
theorem rf_ysub {post : Int32 → SY → Prop} {p how i x y : Nat} {fl sq hu ho : Int32} {top low un ov : Int64} {z : Nat → Int} {q : Int} (h2 : 2 ≤ p) (h10 : p ≤ 10) (hh : how < 4) (hi : i < 4) (hx : x < 4) (hy : y < 4) (A : rf_Ag q (rf_l (z x - z y)) (rf_l 1) 0)
    (h : ∀ r f top low sq un ov hu ho, rf_Out p how q r f → post (nI f) (nI p, nI how, fl ||| nI f, rf_l (rf_up z i r 0), rf_l (rf_up z i r 1), rf_l (rf_up z i r 2), rf_l (rf_up z i r 3), top, low, sq, un, ov, hu, ho)) : wpY_sub post (nI p, nI how, fl, rf_l (z 0), rf_l (z 1), rf_l (z 2), rf_l (z 3), top, low, sq, un, ov, hu, ho) (nI i) (nI x) (nI y) := by
  unfold wpY_sub
  dsimp only
  refine rf_yis1 hi (br_f rf_ne01 (rf_yis1 hx (br_f rf_ne01 (rf_yis1 hy (br_f rf_ne01 (rf_yget hx (rf_yget hy ?_)))))))
  unfold wpY_exact
  dsimp only
  rw [rf_sub, rf_1]
  exact rf_yround h2 h10 hh hi A (fun r f un ov hu ho hO => h _ _ _ _ _ _ _ _ _ hO)
theorem rf_ysub0 {post : Int32 → SY → Prop} {v : SY} {v1 v2 v3 : Int32} (c : ¬ (rf_R v1 ∧ rf_R v2 ∧ rf_R v3)) (h : post (-1) v) : wpY_sub post v v1 v2 v3 := by
  obtain ⟨b, w, fl, r0, r1, r2, r3, top, low, sq, un, ov, hu, ho⟩ := v
  unfold wpY_sub
  dsimp only
  by_cases c1 : rf_R v1
  · by_cases c2 : rf_R v2
    · by_cases c3 : rf_R v3
      · exact absurd ⟨c1, c2, c3⟩ c
      · obtain ⟨i, hi, rfl⟩ := c1
        obtain ⟨j, hj, rfl⟩ := c2
        exact rf_yis1 hi (br_f rf_ne01 (rf_yis1 hj (br_f rf_ne01 (rf_yis0 c3 (br_t rfl h)))))
    · obtain ⟨i, hi, rfl⟩ := c1
      exact rf_yis1 hi (br_f rf_ne01 (rf_yis0 c2 (br_t rfl h)))
  · exact rf_yis0 c1 (br_t rfl h)
theorem rf_ymul0 {post : Int32 → SY → Prop} {v : SY} {v1 v2 v3 : Int32} (c : ¬ (rf_R v1 ∧ rf_R v2 ∧ rf_R v3)) (h : post (-1) v) : wpY_mul post v v1 v2 v3 := by
  obtain ⟨b, w, fl, r0, r1, r2, r3, top, low, sq, un, ov, hu, ho⟩ := v
  unfold wpY_mul
  dsimp only
  by_cases c1 : rf_R v1
  · by_cases c2 : rf_R v2
    · by_cases c3 : rf_R v3
      · exact absurd ⟨c1, c2, c3⟩ c
      · obtain ⟨i, hi, rfl⟩ := c1
        obtain ⟨j, hj, rfl⟩ := c2
        exact rf_yis1 hi (br_f rf_ne01 (rf_yis1 hj (br_f rf_ne01 (rf_yis0 c3 (br_t rfl h)))))
    · obtain ⟨i, hi, rfl⟩ := c1
      exact rf_yis1 hi (br_f rf_ne01 (rf_yis0 c2 (br_t rfl h)))
  · exact rf_yis0 c1 (br_t rfl h)
theorem rf_ydiv0 {post : Int32 → SY → Prop} {v : SY} {v1 v2 v3 : Int32} (c : ¬ (rf_R v1 ∧ rf_R v2 ∧ rf_R v3)) (h : post (-1) v) : wpY_div post v v1 v2 v3 := by
  obtain ⟨b, w, fl, r0, r1, r2, r3, top, low, sq, un, ov, hu, ho⟩ := v
  unfold wpY_div
  dsimp only
  by_cases c1 : rf_R v1
  · by_cases c2 : rf_R v2
    · by_cases c3 : rf_R v3
      · exact absurd ⟨c1, c2, c3⟩ c
      · obtain ⟨i, hi, rfl⟩ := c1
        obtain ⟨j, hj, rfl⟩ := c2
        exact rf_yis1 hi (br_f rf_ne01 (rf_yis1 hj (br_f rf_ne01 (rf_yis0 c3 (br_t rfl h)))))
    · obtain ⟨i, hi, rfl⟩ := c1
      exact rf_yis1 hi (br_f rf_ne01 (rf_yis0 c2 (br_t rfl h)))
  · exact rf_yis0 c1 (br_t rfl h)
theorem i_vc_add {k : Nat} {u : SX} {v : SY} (I : i_Rel k u v) (hk : k + 4 ≤ 2049) (v1 : Int32) (v2 : Int32) (v3 : Int32) : wpX_add (fun r u' => wpY_add (fun r' v' => r' = r ∧ i_Rel (k + 4) u' v') v v1 v2 v3) u v1 v2 v3 := by
  have J := I
  obtain ⟨p, how, fl, a, z, top, low, sq, un, ov, hu, ho, h2, h10, hh, hz, rfl, rfl⟩ := I
  unfold wpX_add
  dsimp only
  by_cases c : rf_R v1 ∧ rf_R v2 ∧ rf_R v3
  · obtain ⟨⟨i, hi, rfl⟩, ⟨x, hx, rfl⟩, ⟨y, hy, rfl⟩⟩ := c
    have bx := rf_zb h10 (hz x hx).1
    have by' := rf_zb h10 (hz y hy).1
    refine rf_xars1 hi hx hy (br_f rf_ne01 ⟨rf_vin hx, rf_vin hy, ?_⟩)
    rw [rf_cl hx, rf_cl hy, (hz x hx).2, (hz y hy).2, rf_add]
    refine nm_e ?_
    rw [rf_shlc _ 2 2 (by decide) rfl]
    have e4 : (z x + z y) * ((2 ^ 2 : Nat) : Int) = 4 * (z x + z y) := by omega
    rw [e4]
    refine rf_xput h2 h10 hh hi (by omega) (fun r f hO => ?_)
    exact rf_yadd h2 h10 hh hi hx hy (rf_Ag_s (by omega) (by omega)) (fun r' f' top low sq un ov hu ho hO' => rf_fin h2 h10 hh hz hO hO')
  · exact rf_xars0 c (br_t rfl (rf_yadd0 c ⟨rfl, J⟩))
theorem i_vc_sub {k : Nat} {u : SX} {v : SY} (I : i_Rel k u v) (hk : k + 4 ≤ 2049) (v1 : Int32) (v2 : Int32) (v3 : Int32) : wpX_sub (fun r u' => wpY_sub (fun r' v' => r' = r ∧ i_Rel (k + 4) u' v') v v1 v2 v3) u v1 v2 v3 := by
  have J := I
  obtain ⟨p, how, fl, a, z, top, low, sq, un, ov, hu, ho, h2, h10, hh, hz, rfl, rfl⟩ := I
  unfold wpX_sub
  dsimp only
  by_cases c : rf_R v1 ∧ rf_R v2 ∧ rf_R v3
  · obtain ⟨⟨i, hi, rfl⟩, ⟨x, hx, rfl⟩, ⟨y, hy, rfl⟩⟩ := c
    have bx := rf_zb h10 (hz x hx).1
    have by' := rf_zb h10 (hz y hy).1
    refine rf_xars1 hi hx hy (br_f rf_ne01 ⟨rf_vin hx, rf_vin hy, ?_⟩)
    rw [rf_cl hx, rf_cl hy, (hz x hx).2, (hz y hy).2, rf_sub]
    refine nm_e ?_
    rw [rf_shlc _ 2 2 (by decide) rfl]
    have e4 : (z x - z y) * ((2 ^ 2 : Nat) : Int) = 4 * (z x - z y) := by omega
    rw [e4]
    refine rf_xput h2 h10 hh hi (by omega) (fun r f hO => ?_)
    exact rf_ysub h2 h10 hh hi hx hy (rf_Ag_s (by omega) (by omega)) (fun r' f' top low sq un ov hu ho hO' => rf_fin h2 h10 hh hz hO hO')
  · exact rf_xars0 c (br_t rfl (rf_ysub0 c ⟨rfl, J⟩))

theorem rf_ynd {post : Int32 → SY → Prop} {p : Nat} {w fl sq hu ho : Int32} {top low un ov : Int64} {z : Nat → Int} {i : Nat} (h2 : 2 ≤ p) (h10 : p ≤ 10) (hi : i < 4) (hb : (z i).natAbs < 8589934592)
    (h0 : (∀ x, rf_F p x → 4 * z i - 1 < 4 * x) → ∀ top low sq un ov hu ho, post 0 (nI p, w, fl, rf_l (z 0), rf_l (z 1), rf_l (z 2), rf_l (z 3), top, low, sq, un, ov, hu, ho))
    (h1 : ∀ r, rf_Un p (4 * z i - 1) r → ∀ top low sq un ov hu ho, post 1 (nI p, w, fl, rf_l (rf_up z i r 0), rf_l (rf_up z i r 1), rf_l (rf_up z i r 2), rf_l (rf_up z i r 3), top, low, sq, un, ov, hu, ho)) :
    wpY_next post (nI p, w, fl, rf_l (z 0), rf_l (z 1), rf_l (z 2), rf_l (z 3), top, low, sq, un, ov, hu, ho) (nI i) 0 := by
  unfold wpY_next
  dsimp only
  refine rf_yis1 hi (br_f rf_ne01 (rf_yget hi (br_t rfl ?_)))
  unfold wY_next_38 wpY_exact
  dsimp only
  rw [rf_2, rf_1, rf_mul, rf_sub]
  refine rf_ysearch (by omega) h10 (rf_Ag_n (x := z i) (by omega) (by omega)).2 (fun un ov hu ho hU hO => br_t rfl ?_)
  unfold wY_next_63 wY_next_87
  dsimp only
  rcases rf_IU_F hU with ⟨rfl, n⟩ | ⟨rfl, r, rfl, hr⟩
  · exact br_t rfl ⟨rfl, h0 n _ _ _ _ _ _ _⟩
  · exact br_f rf_ne01 (br_t rfl (rf_yput hi ⟨rfl, h1 r hr _ _ _ _ _ _ _⟩))
theorem rf_ynu {post : Int32 → SY → Prop} {p : Nat} {w fl sq hu ho : Int32} {top low un ov : Int64} {z : Nat → Int} {i : Nat} (h2 : 2 ≤ p) (h10 : p ≤ 10) (hi : i < 4) (hb : (z i).natAbs < 8589934592)
    (h0 : (∀ x, rf_F p x → 4 * x < 4 * z i + 1) → ∀ top low sq un ov hu ho, post 0 (nI p, w, fl, rf_l (z 0), rf_l (z 1), rf_l (z 2), rf_l (z 3), top, low, sq, un, ov, hu, ho))
    (h1 : ∀ r, rf_Ov p (4 * z i + 1) r → ∀ top low sq un ov hu ho, post 1 (nI p, w, fl, rf_l (rf_up z i r 0), rf_l (rf_up z i r 1), rf_l (rf_up z i r 2), rf_l (rf_up z i r 3), top, low, sq, un, ov, hu, ho)) :
    wpY_next post (nI p, w, fl, rf_l (z 0), rf_l (z 1), rf_l (z 2), rf_l (z 3), top, low, sq, un, ov, hu, ho) (nI i) 1 := by
  unfold wpY_next
  dsimp only
  refine rf_yis1 hi (br_f rf_ne01 (rf_yget hi (br_f rf_ne01 ?_)))
  unfold wY_next_38 wpY_exact
  dsimp only
  rw [rf_2, rf_1, rf_mul, rf_add]
  refine rf_ysearch (by omega) h10 (rf_Ag_n (x := z i) (by omega) (by omega)).1 (fun un ov hu ho hU hO => br_f rf_ne01 ?_)
  unfold wY_next_63 wY_next_87
  dsimp only
  rcases rf_IO_F hO with ⟨rfl, n⟩ | ⟨rfl, r, rfl, hr⟩
  · exact br_t rfl ⟨rfl, h0 n _ _ _ _ _ _ _⟩
  · exact br_f rf_ne01 (br_f rf_ne01 (rf_yput hi ⟨rfl, h1 r hr _ _ _ _ _ _ _⟩))
theorem rf_ynext0 {post : Int32 → SY → Prop} {v : SY} {v1 v2 : Int32} (c : ¬ rf_R v1) (h : post 0 v) : wpY_next post v v1 v2 := by
  obtain ⟨b, w, fl, r0, r1, r2, r3, top, low, sq, un, ov, hu, ho⟩ := v
  unfold wpY_next
  dsimp only
  exact rf_yis0 c (br_t rfl h)
theorem i_vc_next {k : Nat} {u : SX} {v : SY} (I : i_Rel k u v) (hk : k + 4 ≤ 2049) (v1 : Int32) (v2 : Int32) : wpX_next (fun r u' => wpY_next (fun r' v' => r' = r ∧ i_Rel (k + 4) u' v') v v1 (lw_bz v2)) u v1 (lw_bz v2) := by
  have J := I
  obtain ⟨p, how, fl, a, z, top, low, sq, un, ov, hu, ho, h2, h10, hh, hz, rfl, rfl⟩ := I
  unfold wpX_next
  dsimp only
  by_cases c1 : rf_R v1
  · obtain ⟨i, hi, rfl⟩ := c1
    have Fi := (hz i hi).1
    have bi := rf_zb h10 Fi
    have gl := rf_Gr_lt h10
    have gb := rf_F_b Fi
    have GF := rf_F_nat (rf_F_Gr (p := p) (by omega))
    refine rf_xreg1 hi (br_f rf_ne01 ⟨rf_vin hi, ?_⟩)
    rw [rf_cl hi, (hz i hi).2]
    refine nm_e ?_
    unfold wX_next_33 wX_next_51 wX_next_72
    have m1 : (-1 : Int32).toInt64 = rf_l (-1) := by decide
    have p1 : (1 : Int32).toInt64 = rf_l 1 := by decide
    rw [rf_neg, rf_shlc _ 2 2 (by decide) rfl, m1, p1, rf_add, rf_add, rf_eq (a := z i) (b := -(rf_Gr p : Int)) (rf_Bn (by omega)) (rf_Bn (by omega)), rf_eq (a := z i) (b := (rf_Gr p : Int)) (rf_Bn (by omega)) (rf_Bn (by omega))]
    have e1 : z i * ((2 ^ 2 : Nat) : Int) + -1 = 4 * z i - 1 := by omega
    have e2 : z i * ((2 ^ 2 : Nat) : Int) + 1 = 4 * z i + 1 := by omega
    rw [e1, e2]
    rcases lw_bz_01 v2 with e | e
    · rw [e]
      refine br_t rfl ?_
      by_cases g : z i = -(rf_Gr p : Int)
      · refine br_t g (rf_ynd h2 h10 hi bi (fun n top low sq un ov hu ho => ⟨rfl, p, how, fl, a, z, top, low, sq, un, ov, hu, ho, h2, h10, hh, hz, rfl, rfl⟩) (fun r hr => ?_))
        have t1 := hr.2.1
        have t2 := (rf_F_b hr.1).1
        omega
      · refine br_f g (br_t rfl (nm_e (br_t rfl ?_)))
        refine rf_xrnd (how := 1) h2 h10 (by omega) (by omega) (fun c => by omega) (fun c => by omega) (fun c r hr => ⟨rf_vin hi, nm_e ?_⟩)
        rw [rf_cl hi]
        obtain ⟨u, o, hu1, ho1, ⟨a1, b1, d1⟩ | ⟨a1, b1, d1⟩⟩ := hr
        · omega
        · have er : r = u := b1
          subst er
          refine rf_ynd h2 h10 hi bi (fun n => ?_) (fun r' hr' top low sq un ov hu ho => ?_)
          · have := n _ (rf_F_neg GF)
            omega
          · cases rf_Un_u hu1 hr'
            exact ⟨rfl, rf_mk h2 h10 hh hz hu1.1⟩
    · rw [e]
      refine br_f rf_ne01 ?_
      by_cases g : z i = (rf_Gr p : Int)
      · refine br_t g (rf_ynu h2 h10 hi bi (fun n top low sq un ov hu ho => ⟨rfl, p, how, fl, a, z, top, low, sq, un, ov, hu, ho, h2, h10, hh, hz, rfl, rfl⟩) (fun r hr => ?_))
        have t1 := hr.2.1
        have t2 := (rf_F_b hr.1).2
        omega
      · refine br_f g (br_f rf_ne01 (nm_e (br_f rf_ne01 ?_)))
        refine rf_xrnd (how := 2) h2 h10 (by omega) (by omega) (fun c => by omega) (fun c => by omega) (fun c r hr => ⟨rf_vin hi, nm_e ?_⟩)
        rw [rf_cl hi]
        obtain ⟨u, o, hu1, ho1, ⟨a1, b1, d1⟩ | ⟨a1, b1, d1⟩⟩ := hr
        · omega
        · have er : r = o := b1
          subst er
          refine rf_ynu h2 h10 hi bi (fun n => ?_) (fun r' hr' top low sq un ov hu ho => ?_)
          · have := n _ GF
            omega
          · cases rf_Ov_u ho1 hr'
            exact ⟨rfl, rf_mk h2 h10 hh hz ho1.1⟩
  · exact rf_xreg0 c1 (br_t rfl (rf_ynext0 c1 ⟨rfl, J⟩))

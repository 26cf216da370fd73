theorem rf_ymul {post : Int32 → SY → Prop} {p how i : Nat} {fl sq hu ho : Int32} {top low un ov : Int64} {z : Nat → Int} {q : Int} (h2 : 2 ≤ p) (h10 : p ≤ 10) (hh : how < 4) (hi : i < 4) {x y : Nat} (hx : x < 4) (hy : y < 4) (Fx : rf_F p (z x)) (Fy : rf_F p (z y)) (A : ∀ t l, rf_TL (z x * z y) 0 t l → rf_Ag q (rf_l t) (rf_l l) 0)
    (h : ∀ r f top low sq un ov hu ho, rf_Out p how q r f → post (nI f) (nI p, nI how, fl ||| nI f, rf_l (rf_up z i r 0), rf_l (rf_up z i r 1), rf_l (rf_up z i r 2), rf_l (rf_up z i r 3), top, low, sq, un, ov, hu, ho)) : wpY_mul post (nI p, nI how, fl, rf_l (z 0), rf_l (z 1), rf_l (z 2), rf_l (z 3), top, low, sq, un, ov, hu, ho) (nI i) (nI x) (nI y) := by
  unfold wpY_mul
  dsimp only
  refine rf_yis1 hi (br_f rf_ne01 (rf_yis1 hx (br_f rf_ne01 (rf_yis1 hy (br_f rf_ne01 ?_)))))
  rw [rf_0]
  exact rf_yprod h10 hx hy Fx Fy (fun t l hT => rf_yround h2 h10 hh hi (A t l hT) (fun r f un ov hu ho hO => h _ _ _ _ _ _ _ _ _ hO))
theorem rf_yfuse {post : Int32 → SY → Prop} {p how i : Nat} {fl sq hu ho : Int32} {top low un ov : Int64} {z : Nat → Int} {q : Int} (h2 : 2 ≤ p) (h10 : p ≤ 10) (hh : how < 4) (hi : i < 4) {x y c t : Nat} (hx : x < 4) (hy : y < 4) (hc : c < 4) (ht : t < 64) (ex : nI t &&& 3 = nI x) (ey : (nI t >>> ((2 : Int32) &&& 31)) &&& 3 = nI y) (ec : nI t >>> ((4 : Int32) &&& 31) = nI c) (Fx : rf_F p (z x)) (Fy : rf_F p (z y)) (A : ∀ t l, rf_TL (z x * z y) (z c) t l → rf_Ag q (rf_l t) (rf_l l) 0)
    (h : ∀ r f top low sq un ov hu ho, rf_Out p how q r f → post (nI f) (nI p, nI how, fl ||| nI f, rf_l (rf_up z i r 0), rf_l (rf_up z i r 1), rf_l (rf_up z i r 2), rf_l (rf_up z i r 3), top, low, sq, un, ov, hu, ho)) : wpY_fuse post (nI p, nI how, fl, rf_l (z 0), rf_l (z 1), rf_l (z 2), rf_l (z 3), top, low, sq, un, ov, hu, ho) (nI i) (nI t) := by
  unfold wpY_fuse
  dsimp only
  refine rf_yis1 hi (br_f rf_ne01 (br_f (nI_pos (by omega)) (br_t (nI_le (a := t) (b := 63) (by omega) (by omega)) ?_)))
  rw [ex, ey, ec]
  exact rf_yget hc (rf_yprod h10 hx hy Fx Fy (fun t l hT => rf_yround h2 h10 hh hi (A t l hT) (fun r f un ov hu ho hO => h _ _ _ _ _ _ _ _ _ hO)))
theorem rf_yfuse0 {post : Int32 → SY → Prop} {v : SY} {v1 v2 : Int32} (c : ¬ (rf_R v1 ∧ ¬ v2 < 0 ∧ v2 ≤ 63)) (h : post (-1) v) : wpY_fuse post v v1 v2 := by
  obtain ⟨b, w, fl, r0, r1, r2, r3, top, low, sq, un, ov, hu, ho⟩ := v
  unfold wpY_fuse
  dsimp only
  by_cases c1 : rf_R v1
  · obtain ⟨i, hi, rfl⟩ := c1
    refine rf_yis1 hi (br_f rf_ne01 (br_c (fun _ => h) (fun c2 => br_c (fun c3 => ?_) (fun _ => h))))
    exact absurd ⟨⟨i, hi, rfl⟩, c2, c3⟩ c
  · exact rf_yis0 c1 (br_t rfl h)
theorem rf_wbb {N : Int} (h : N.natAbs ≤ 2251799813685248) : (rf_wb N 1024).natAbs < 4611686018427387904 := by
  have := rf_wb_b N 1024
  omega
theorem i_vc_mul {k : Nat} {u : SX} {v : SY} (I : i_Rel k u v) (hk : k + 4 ≤ 2049) (v1 : Int32) (v2 : Int32) (v3 : Int32) : wpX_mul (fun r u' => wpY_mul (fun r' v' => r' = r ∧ i_Rel (k + 4) u' v') v v1 v2 v3) u v1 v2 v3 := by
  have J := I
  obtain ⟨p, how, fl, a, z, top, low, sq, un, ov, hu, ho, h2, h10, hh, hz, rfl, rfl⟩ := I
  unfold wpX_mul
  dsimp only
  by_cases c : rf_R v1 ∧ rf_R v2 ∧ rf_R v3
  · obtain ⟨⟨i, hi, rfl⟩, ⟨x, hx, rfl⟩, ⟨y, hy, rfl⟩⟩ := c
    have Fx := (hz x hx).1
    have Fy := (hz y hy).1
    have bx := rf_zb h10 Fx
    have by' := rf_zb h10 Fy
    refine rf_xars1 hi hx hy (br_f rf_ne01 ⟨rf_vin hx, rf_vin hy, ?_⟩)
    rw [rf_cl hx, rf_cl hy, (hz x hx).2, (hz y hy).2]
    have key : ∀ Q : Int, Q.natAbs ≤ 1125899906842624 → ((z x * z y).natAbs ≤ 1125899906842624 ∧ Q = z x * z y) ∨ (1125899906842624 < (z x * z y).natAbs ∧ 0 < z x * z y ∧ Q = 1125899906842624) ∨ (1125899906842624 < (z x * z y).natAbs ∧ z x * z y < 0 ∧ Q = -1125899906842624) → ∀ r f, rf_Out p how (rf_wb Q 1024) r f →
        wpY_mul (fun r' v' => r' = nI f ∧ i_Rel (k + 4) (nI p, rf_l (rf_Gr p : Int), nI how, fl ||| nI f, vp_updL a i (rf_l r)) v') (nI p, nI how, fl, rf_l (z 0), rf_l (z 1), rf_l (z 2), rf_l (z 3), top, low, sq, un, ov, hu, ho) (nI i) (nI x) (nI y) := by
      intro Q hQb hQ r f hO
      refine rf_ymul h2 h10 hh hi hx hy Fx Fy (fun t l hT => ?_) (fun r' f' top low sq un ov hu ho hO' => rf_fin h2 h10 hh hz hO hO')
      have A := rf_Ag_mul (P := z x * z y) (C := 0) (by omega) hT hQ
      rw [show Q + 0 * 4096 = Q by omega] at A
      exact A
    refine rf_xprod bx by' (fun c => ?_) (fun c d => ?_) (fun c d => ?_)
    · refine rf_xwb (by omega) 10 10 (by omega) rfl (rf_xput h2 h10 hh hi (rf_wbb (by omega)) (fun r f hO => ?_))
      exact key _ c (Or.inl ⟨c, rfl⟩) r f hO
    · refine rf_xwb (by omega) 10 10 (by omega) rfl (rf_xput h2 h10 hh hi (rf_wbb (by omega)) (fun r f hO => ?_))
      exact key 1125899906842624 (by omega) (Or.inr (Or.inl ⟨c, d, rfl⟩)) r f hO
    · refine rf_xwb (by omega) 10 10 (by omega) rfl (rf_xput h2 h10 hh hi (rf_wbb (by omega)) (fun r f hO => ?_))
      exact key (-1125899906842624) (by omega) (Or.inr (Or.inr ⟨c, d, rfl⟩)) r f hO
  · exact rf_xars0 c (br_t rfl (rf_ymul0 c ⟨rfl, J⟩))
theorem i_vc_fuse {k : Nat} {u : SX} {v : SY} (I : i_Rel k u v) (hk : k + 4 ≤ 2049) (v1 : Int32) (v2 : Int32) : wpX_fuse (fun r u' => wpY_fuse (fun r' v' => r' = r ∧ i_Rel (k + 4) u' v') v v1 v2) u v1 v2 := by
  have J := I
  obtain ⟨p, how, fl, a, z, top, low, sq, un, ov, hu, ho, h2, h10, hh, hz, rfl, rfl⟩ := I
  unfold wpX_fuse
  dsimp only
  by_cases c : rf_R v1 ∧ ¬ v2 < 0 ∧ v2 ≤ 63
  · obtain ⟨⟨i, hi, rfl⟩, c2, c3⟩ := c
    obtain ⟨t, ht, rfl⟩ := nI_of c2
    have t63 := (nI_leI (a := t) (b := 63) ht (by omega)).mp c3
    obtain ⟨ex, ey, ec1, ec⟩ := rf_f3 t (by omega)
    have hx : t % 4 < 4 := by omega
    have hy : t / 4 % 4 < 4 := by omega
    have hc : t / 16 < 4 := by omega
    generalize t % 4 = x at *
    generalize t / 4 % 4 = y at *
    generalize t / 16 = c at *
    have Fx := (hz x hx).1
    have Fy := (hz y hy).1
    have Fc := (hz c hc).1
    have bx := rf_zb h10 Fx
    have by' := rf_zb h10 Fy
    have bc := rf_zb h10 Fc
    have key : ∀ Q : Int, Q.natAbs ≤ 1125899906842624 → ((z x * z y).natAbs ≤ 1125899906842624 ∧ Q = z x * z y) ∨ (1125899906842624 < (z x * z y).natAbs ∧ 0 < z x * z y ∧ Q = 1125899906842624) ∨ (1125899906842624 < (z x * z y).natAbs ∧ z x * z y < 0 ∧ Q = -1125899906842624) → ∀ r f, rf_Out p how (rf_wb (Q + z c * 4096) 1024) r f →
        wpY_fuse (fun r' v' => r' = nI f ∧ i_Rel (k + 4) (nI p, rf_l (rf_Gr p : Int), nI how, fl ||| nI f, vp_updL a i (rf_l r)) v') (nI p, nI how, fl, rf_l (z 0), rf_l (z 1), rf_l (z 2), rf_l (z 3), top, low, sq, un, ov, hu, ho) (nI i) (nI t) := by
      intro Q hQb hQ r f hO
      exact rf_yfuse h2 h10 hh hi hx hy hc (by omega) ex ey ec Fx Fy (fun t l hT => rf_Ag_mul (P := z x * z y) (C := z c) (by omega) hT hQ) (fun r' f' top low sq un ov hu ho hO' => rf_fin h2 h10 hh hz hO hO')
    refine rf_xreg1 hi (br_f rf_ne01 (br_f c2 (br_t c3 (nm_r ex (nm_r ey (nm_r ec1 ⟨rf_vin hx, rf_vin hy, ?_⟩))))))
    rw [rf_cl hx, rf_cl hy, rf_cl hc, (hz x hx).2, (hz y hy).2, (hz c hc).2, rf_shlc _ 12 12 (by decide) rfl]
    have e12 : z c * ((2 ^ 12 : Nat) : Int) = z c * 4096 := rfl
    rw [e12]
    refine rf_xprod bx by' (fun c => ⟨rf_vin hc, ?_⟩) (fun c d => ⟨rf_vin hc, ?_⟩) (fun c d => ⟨rf_vin hc, ?_⟩)
    · refine nm_r (rf_add _ _) (rf_xwb (by omega) 10 10 (by omega) rfl (rf_xput h2 h10 hh hi (rf_wbb (by omega)) (fun r f hO => ?_)))
      exact key _ c (Or.inl ⟨c, rfl⟩) r f hO
    · refine nm_r (rf_add _ _) (rf_xwb (by omega) 10 10 (by omega) rfl (rf_xput h2 h10 hh hi (rf_wbb (by omega)) (fun r f hO => ?_)))
      exact key 1125899906842624 (by omega) (Or.inr (Or.inl ⟨c, d, rfl⟩)) r f hO
    · refine nm_r (rf_add _ _) (rf_xwb (by omega) 10 10 (by omega) rfl (rf_xput h2 h10 hh hi (rf_wbb (by omega)) (fun r f hO => ?_)))
      exact key (-1125899906842624) (by omega) (Or.inr (Or.inr ⟨c, d, rfl⟩)) r f hO
  · have Y : ∀ X : SX, X = (nI p, rf_l (rf_Gr p : Int), nI how, fl, a) → wpY_fuse (fun r' v' => r' = -1 ∧ i_Rel (k + 4) X v') (nI p, nI how, fl, rf_l (z 0), rf_l (z 1), rf_l (z 2), rf_l (z 3), top, low, sq, un, ov, hu, ho) v1 v2 := by
      intro X hX
      subst hX
      exact rf_yfuse0 c ⟨rfl, J⟩
    by_cases c1 : rf_R v1
    · obtain ⟨i, hi, rfl⟩ := c1
      refine rf_xreg1 hi (br_f rf_ne01 (br_c (fun _ => Y _ rfl) (fun c2 => br_c (fun c3 => ?_) (fun _ => Y _ rfl))))
      exact absurd ⟨⟨i, hi, rfl⟩, c2, c3⟩ c
    · exact rf_xreg0 c1 (br_t rfl (Y _ rfl))

theorem rf_yl70 {post : Int32 → SY → Prop} {p how i : Nat} {fl sq hu ho : Int32} {top low un ov : Int64} {z : Nat → Int} {q : Int} (h2 : 2 ≤ p) (h10 : p ≤ 10) (hh : how < 4) (hi : i < 4) {T L : Int} (A : rf_Ag q (rf_l T) (rf_l L) 0)
    (h : ∀ r f top low sq un ov hu ho, rf_Out p how q r f → post (nI f) (nI p, nI how, fl ||| nI f, rf_l (rf_up z i r 0), rf_l (rf_up z i r 1), rf_l (rf_up z i r 2), rf_l (rf_up z i r 3), top, low, sq, un, ov, hu, ho)) : wY_load_70 post (nI i) (rf_l L) (rf_l T) (nI p) (nI how) fl (rf_l (z 0)) (rf_l (z 1)) (rf_l (z 2)) (rf_l (z 3)) top low sq un ov hu ho := by
  unfold wY_load_70 wpY_exact
  dsimp only
  exact rf_yround h2 h10 hh hi A (fun r f un ov hu ho hO => h _ _ _ _ _ _ _ _ _ hO)
def rf_L (v2 v3 : Int32) : Prop := ¬ v2 < (-1000000) ∧ ¬ 1000000 < v2 ∧ ¬ v3 < (-20) ∧ ¬ 20 < v3
theorem rf_xld1 {post : Int32 → Prop} {v2 v3 : Int32} (c : rf_L v2 v3) (h : post 1) : wpX_isLoadable post v2 v3 :=
  br_f c.1 (br_f c.2.1 (br_f c.2.2.1 (br_f c.2.2.2 h)))
theorem rf_xld0 {post : Int32 → Prop} {v2 v3 : Int32} (c : ¬ rf_L v2 v3) (h : post 0) : wpX_isLoadable post v2 v3 :=
  br_c (fun _ => h) (fun c1 => br_c (fun _ => h) (fun c2 => br_c (fun _ => h) (fun c3 => br_c (fun _ => h) (fun c4 => absurd ⟨c1, c2, c3, c4⟩ c))))
theorem rf_yload0 {post : Int32 → SY → Prop} {v : SY} {v1 v2 v3 : Int32} (c : ¬ (rf_R v1 ∧ rf_L v2 v3)) (h : post (-1) v) : wpY_load post v v1 v2 v3 := by
  obtain ⟨b, w, fl, r0, r1, r2, r3, top, low, sq, un, ov, hu, ho⟩ := v
  unfold wpY_load
  dsimp only
  by_cases c1 : rf_R v1
  · obtain ⟨i, hi, rfl⟩ := c1
    refine rf_yis1 hi (br_f rf_ne01 (br_c (fun _ => h) (fun c1 => br_c (fun _ => h) (fun c2 => br_c (fun _ => h) (fun c3 => br_c (fun c4 => ?_) (fun _ => h))))))
    exact absurd ⟨⟨i, hi, rfl⟩, c1, c2, c3, Int32.not_lt.mpr c4⟩ c
  · exact rf_yis0 c1 (br_t rfl h)
theorem rf_yload {post : Int32 → SY → Prop} {p how i : Nat} {fl sq hu ho : Int32} {top low un ov : Int64} {z : Nat → Int} {q : Int} (h2 : 2 ≤ p) (h10 : p ≤ 10) (hh : how < 4) (hi : i < 4) {m e : Int} (hm : m.natAbs ≤ 1000000) (he : e.natAbs ≤ 20) (c : rf_L (rf_i m) (rf_i e)) (hq : q = rf_wb (m * ((2 ^ (e + 20).toNat : Nat) : Int)) 64)
    (h : ∀ r f top low sq un ov hu ho, rf_Out p how q r f → post (nI f) (nI p, nI how, fl ||| nI f, rf_l (rf_up z i r 0), rf_l (rf_up z i r 1), rf_l (rf_up z i r 2), rf_l (rf_up z i r 3), top, low, sq, un, ov, hu, ho)) : wpY_load post (nI p, nI how, fl, rf_l (z 0), rf_l (z 1), rf_l (z 2), rf_l (z 3), top, low, sq, un, ov, hu, ho) (nI i) (rf_i m) (rf_i e) := by
  unfold wpY_load
  dsimp only
  refine rf_yis1 hi (br_f rf_ne01 (br_f c.1 (br_f c.2.1 (br_f c.2.2.1 (br_t (Int32.not_lt.mp c.2.2.2) ?_)))))
  have e12 : rf_i e + 12 = rf_i (e + 12) := rf_iadd e 12
  have i0 : (0 : Int32) = rf_i 0 := by decide
  refine nm_r e12 ?_
  unfold wY_load_56
  rw [rf_il (by omega)]
  by_cases d : e + 12 < 0
  · have cc : rf_i (e + 12) < 0 := by
      rw [i0, rf_ilt (by omega) (by omega)]
      exact d
    have en : -rf_i (e + 12) = nI (-(e + 12)).toNat := by
      rw [rf_ineg, rf_inI]
      congr 1
      omega
    refine br_t cc (br_t cc ?_)
    rw [en, rf_1, rf_shlc _ _ (-(e + 12)).toNat (by omega) rfl, Int.one_mul]
    refine rf_yl70 h2 h10 hh hi ?_ h
    have A := rf_Ag_l2 (m := m) (j := (-(e + 12)).toNat) hm (by omega)
    rw [show 8 - (-(e + 12)).toNat = (e + 20).toNat by omega] at A
    rw [hq]
    exact A
  · have cc : ¬ rf_i (e + 12) < 0 := by
      rw [i0, rf_ilt (by omega) (by omega)]
      exact d
    have en : rf_i (e + 12) = nI (e + 12).toNat := by
      rw [rf_inI]
      congr 1
      omega
    refine br_f cc (br_f cc ?_)
    rw [en, rf_1, rf_shlc _ _ (e + 12).toNat (by omega) rfl]
    refine rf_yl70 h2 h10 hh hi ?_ h
    have A := rf_Ag_l1 (m := m) (j := (e + 12).toNat) hm (by omega)
    rw [show (e + 12).toNat + 8 = (e + 20).toNat by omega] at A
    rw [hq]
    exact A
theorem i_vc_load {k : Nat} {u : SX} {v : SY} (I : i_Rel k u v) (hk : k + 4 ≤ 2049) (v1 : Int32) (v2 : Int32) (v3 : Int32) : wpX_load (fun r u' => wpY_load (fun r' v' => r' = r ∧ i_Rel (k + 4) u' v') v v1 v2 v3) u v1 v2 v3 := by
  have J := I
  obtain ⟨p, how, fl, a, z, top, low, sq, un, ov, hu, ho, h2, h10, hh, hz, rfl, rfl⟩ := I
  unfold wpX_load
  dsimp only
  by_cases c1 : rf_R v1
  · by_cases c2 : rf_L v2 v3
    · obtain ⟨i, hi, rfl⟩ := c1
      obtain ⟨m, rfl, m1, m2⟩ := rf_iof v2
      obtain ⟨e, rfl, e1, e2⟩ := rf_iof v3
      have L := c2
      unfold rf_L at L
      have i1 : (-1000000 : Int32) = rf_i (-1000000) := by decide
      have i2 : (1000000 : Int32) = rf_i 1000000 := by decide
      have i3 : (-20 : Int32) = rf_i (-20) := by decide
      have i4 : (20 : Int32) = rf_i 20 := by decide
      rw [Int32.lt_iff_toInt_lt, Int32.lt_iff_toInt_lt, Int32.lt_iff_toInt_lt, Int32.lt_iff_toInt_lt, i1, i2, i3, i4, rf_iti (a := -1000000) (by decide), rf_iti (a := 1000000) (by decide), rf_iti (a := -20) (by decide), rf_iti (a := 20) (by decide)] at L
      have t1 : (rf_i m).toInt = m := Int32.toInt_ofInt_of_le (by omega) (by omega)
      have t2 : (rf_i e).toInt = e := Int32.toInt_ofInt_of_le (by omega) (by omega)
      rw [t1, t2] at L
      have b := rf_pb (m := m) (j := (e + 20).toNat) (A := 1000000) (J := 40) (by omega) (by omega)
      have w := rf_wb_b (m * ((2 ^ (e + 20).toNat : Nat) : Int)) 64
      refine rf_xreg1 hi (br_f rf_ne01 (rf_xld1 c2 (br_f rf_ne01 ?_)))
      refine nm_r (e' := rf_l (m * ((2 ^ (e + 20).toNat : Nat) : Int))) ?_ ?_
      · rw [rf_il (by omega)]
        refine rf_shlc _ _ _ (by omega) ?_
        rw [i4, rf_iadd, rf_inI]
        congr 1
        omega
      · refine rf_xwb (by omega) 6 6 (by omega) rfl (rf_xput h2 h10 hh hi (q := rf_wb (m * ((2 ^ (e + 20).toNat : Nat) : Int)) 64) (by omega) (fun r f hO => ?_))
        exact rf_yload h2 h10 hh hi (by omega) (by omega) c2 rfl (fun r' f' top low sq un ov hu ho hO' => rf_fin h2 h10 hh hz hO hO')
    · obtain ⟨i, hi, rfl⟩ := c1
      exact rf_xreg1 hi (br_f rf_ne01 (rf_xld0 c2 (br_t rfl (rf_yload0 (fun z => c2 z.2) ⟨rfl, J⟩))))
  · exact rf_xreg0 c1 (br_t rfl (rf_yload0 (fun z => c1 z.1) ⟨rfl, J⟩))
theorem rf_yinv {post : Int32 → SY → Prop} {b w fl sq hu ho : Int32} {top low un ov : Int64} {z : Nat → Int} {i : Nat} (hi : i < 4)
    (h : post 4 (b, w, fl ||| 4, rf_l (rf_up z i 0 0), rf_l (rf_up z i 0 1), rf_l (rf_up z i 0 2), rf_l (rf_up z i 0 3), top, low, sq, un, ov, hu, ho)) : wpY_invalid post (b, w, fl, rf_l (z 0), rf_l (z 1), rf_l (z 2), rf_l (z 3), top, low, sq, un, ov, hu, ho) (nI i) := by
  unfold wpY_invalid
  dsimp only
  rw [rf_0]
  exact rf_yput hi (nm_e h)
theorem rf_xinv {post : Int32 → SX → Prop} {D md fl : Int32} {G : Int64} {a : Nat → Int64} {i : Nat} (hi : i < 4) (h : post 4 (D, G, md, fl ||| 4, vp_updL a i (rf_l 0))) : wpX_putInvalid post (D, G, md, fl, a) (nI i) := by
  unfold wpX_putInvalid
  dsimp only
  refine ⟨rf_vin hi, nm_e (nm_e ?_)⟩
  rw [rf_cl hi, rf_0]
  exact h
theorem rf_yroot {post : Int32 → SY → Prop} {p how i : Nat} {fl sq hu ho : Int32} {top low un ov : Int64} {z : Nat → Int} {q : Int} (h2 : 2 ≤ p) (h10 : p ≤ 10) (hh : how < 4) (hi : i < 4) {x : Nat} (hx : x < 4) (hb : (z x).natAbs < 8589934592) (h0 : 0 ≤ z x) (A : ∀ low, rf_Ag q (rf_l (z x * 4096)) low 1)
    (h : ∀ r f top low sq un ov hu ho, rf_Out p how q r f → post (nI f) (nI p, nI how, fl ||| nI f, rf_l (rf_up z i r 0), rf_l (rf_up z i r 1), rf_l (rf_up z i r 2), rf_l (rf_up z i r 3), top, low, sq, un, ov, hu, ho)) : wpY_root post (nI p, nI how, fl, rf_l (z 0), rf_l (z 1), rf_l (z 2), rf_l (z 3), top, low, sq, un, ov, hu, ho) (nI i) (nI x) := by
  unfold wpY_root
  dsimp only
  refine rf_yis1 hi (br_f rf_ne01 (rf_yis1 hx (br_f rf_ne01 (rf_yget hx ?_))))
  refine br_t ?_ (rf_yget hx ?_)
  · rw [rf_0, rf_le rf_b0 (rf_Bn (by omega))]
    exact h0
  · unfold wpY_exact
    dsimp only
    rw [rf_shlc _ 12 12 (by decide) rfl]
    exact rf_yround h2 h10 hh hi (A _) (fun r f un ov hu ho hO => h _ _ _ _ _ _ _ _ _ hO)
theorem rf_yroot1 {post : Int32 → SY → Prop} {b w fl sq hu ho : Int32} {top low un ov : Int64} {z : Nat → Int} {i x : Nat} (hi : i < 4) (hx : x < 4) (hb : (z x).natAbs < 8589934592) (h0 : ¬ 0 ≤ z x)
    (h : post 4 (b, w, fl ||| 4, rf_l (rf_up z i 0 0), rf_l (rf_up z i 0 1), rf_l (rf_up z i 0 2), rf_l (rf_up z i 0 3), top, low, sq, un, ov, hu, ho)) : wpY_root post (b, w, fl, rf_l (z 0), rf_l (z 1), rf_l (z 2), rf_l (z 3), top, low, sq, un, ov, hu, ho) (nI i) (nI x) := by
  unfold wpY_root
  dsimp only
  refine rf_yis1 hi (br_f rf_ne01 (rf_yis1 hx (br_f rf_ne01 (rf_yget hx ?_))))
  refine br_f ?_ (rf_yinv hi h)
  rw [rf_0, rf_le rf_b0 (rf_Bn (by omega))]
  exact h0
theorem rf_yroot0 {post : Int32 → SY → Prop} {v : SY} {v1 v2 : Int32} (c : ¬ (rf_R v1 ∧ rf_R v2)) (h : post (-1) v) : wpY_root post v v1 v2 := by
  obtain ⟨b, w, fl, r0, r1, r2, r3, top, low, sq, un, ov, hu, ho⟩ := v
  unfold wpY_root
  dsimp only
  by_cases c1 : rf_R v1
  · by_cases c2 : rf_R v2
    · exact absurd ⟨c1, c2⟩ c
    · obtain ⟨i, hi, rfl⟩ := c1
      exact rf_yis1 hi (br_f rf_ne01 (rf_yis0 c2 (br_t rfl h)))
  · exact rf_yis0 c1 (br_t rfl h)
theorem i_vc_root {k : Nat} {u : SX} {v : SY} (I : i_Rel k u v) (hk : k + 4 ≤ 2049) (v1 : Int32) (v2 : Int32) : wpX_root (fun r u' => wpY_root (fun r' v' => r' = r ∧ i_Rel (k + 4) u' v') v v1 v2) u v1 v2 := by
  have J := I
  obtain ⟨p, how, fl, a, z, top, low, sq, un, ov, hu, ho, h2, h10, hh, hz, rfl, rfl⟩ := I
  unfold wpX_root
  dsimp only
  by_cases c1 : rf_R v1
  · by_cases c2 : rf_R v2
    · obtain ⟨i, hi, rfl⟩ := c1
      obtain ⟨x, hx, rfl⟩ := c2
      have Fx := (hz x hx).1
      have bx := rf_zb h10 Fx
      refine rf_xreg1 hi (br_f rf_ne01 (rf_xreg1 hx (br_f rf_ne01 ⟨rf_vin hx, ?_⟩)))
      rw [rf_cl hx, (hz x hx).2, rf_0, rf_le rf_b0 (rf_Bn (by omega))]
      by_cases d : 0 ≤ z x
      · obtain ⟨n, hn⟩ : ∃ n : Nat, z x = (n : Int) := ⟨(z x).natAbs, by omega⟩
        refine br_t d ⟨rf_vin hx, ?_⟩
        have R : ∀ f : Nat, f < 33554432 → f * f ≤ n * 65536 → n * 65536 < (f + 1) * (f + 1) → ∀ low, rf_Ag (rf_rq (f : Int) ((n * 65536 : Nat) : Int)) (rf_l (z x * 4096)) low 1 := by
          intro f f1 f2 f3 low
          rw [hn]
          have g2 : ((f * f : Nat) : Int) ≤ ((n * 65536 : Nat) : Int) := Int.ofNat_le.mpr f2
          have g3 : ((n * 65536 : Nat) : Int) < (((f + 1) * (f + 1) : Nat) : Int) := Int.ofNat_lt.mpr f3
          rw [Int.natCast_mul, Int.natCast_mul] at g2 g3
          exact rf_Ag_r (n := (n : Int)) (f := (f : Int)) (by omega) (by omega) (by omega) (by omega) g2 g3
        rw [hn]
        refine rf_xroot (by omega) (fun f f1 f2 f3 => rf_xput h2 h10 hh hi ?_ (fun r g hO => ?_))
        · unfold rf_rq
          split
          · omega
          · omega
        · exact rf_yroot h2 h10 hh hi hx bx d (R f f1 f2 f3) (fun r' f' top low sq un ov hu ho hO' => rf_fin h2 h10 hh hz hO hO')
      · exact br_f d (rf_xinv hi (rf_yroot1 hi hx bx d ⟨rfl, rf_mk h2 h10 hh hz (rf_F_0 p)⟩))
    · obtain ⟨i, hi, rfl⟩ := c1
      exact rf_xreg1 hi (br_f rf_ne01 (rf_xreg0 c2 (br_t rfl (rf_yroot0 (fun z => c2 z.2) ⟨rfl, J⟩))))
  · exact rf_xreg0 c1 (br_t rfl (rf_yroot0 (fun z => c1 z.1) ⟨rfl, J⟩))

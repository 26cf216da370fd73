theorem rf_b0 : rf_B 0 := by
  unfold rf_B
  omega
theorem rf_Bn {z : Int} (h : z.natAbs < 9223372036854775808) : rf_B z := by
  unfold rf_B
  omega
theorem rf_xsize {post : Int64 → Prop} {z : Int} (hz : z.natAbs < 9223372036854775808) (h : post (rf_l (z.natAbs : Int))) : wpX_sizeOf post (rf_l z) := by
  unfold wpX_sizeOf
  rw [rf_0, rf_le rf_b0 (rf_Bn hz)]
  refine br_c (fun c => ?_) (fun c => ?_)
  · have e : (z.natAbs : Int) = z := by omega
    rw [e] at h
    exact h
  · have e : (z.natAbs : Int) = -z := by omega
    rw [e] at h
    rw [rf_neg]
    exact h
def rf_R (r : Int32) : Prop := ∃ j : Nat, j < 4 ∧ r = nI j
theorem rf_R4 {r : Int32} (c : ¬ r < 0) (d : ¬ (4 : Int32) ≤ r) : rf_R r := by
  obtain ⟨j, hj, rfl⟩ := nI_of c
  refine ⟨j, ?_, rfl⟩
  by_cases h : j < 4
  · exact h
  · exact absurd (nI_le (a := 4) (b := j) (by omega) hj) d
theorem rf_xreg1 {post : Int32 → Prop} {j : Nat} (hj : j < 4) (h : post 1) : wpX_isRegister post (nI j) :=
  br_f (nI_pos (by omega)) (br_f (nI_ge (b := 4) hj (by decide)) h)
theorem rf_xreg0 {post : Int32 → Prop} {r : Int32} (hr : ¬ rf_R r) (h : post 0) : wpX_isRegister post r :=
  br_c (fun _ => h) (fun c => br_c (fun _ => h) (fun d => absurd (rf_R4 c d) hr))
theorem rf_xars1 {post : Int32 → Prop} {i j k : Nat} (hi : i < 4) (hj : j < 4) (hk : k < 4) (h : post 1) : wpX_areRegisters post (nI i) (nI j) (nI k) := by
  unfold wpX_areRegisters
  exact rf_xreg1 hi (br_f rf_ne01 (rf_xreg1 hj (br_f rf_ne01 (rf_xreg1 hk (br_f rf_ne01 h)))))
theorem rf_xars0 {post : Int32 → Prop} {r s t : Int32} (hr : ¬ (rf_R r ∧ rf_R s ∧ rf_R t)) (h : post 0) : wpX_areRegisters post r s t := by
  unfold wpX_areRegisters
  by_cases c1 : rf_R r
  · by_cases c2 : rf_R s
    · by_cases c3 : rf_R t
      · exact absurd ⟨c1, c2, c3⟩ hr
      · obtain ⟨i, hi, rfl⟩ := c1
        obtain ⟨j, hj, rfl⟩ := c2
        exact rf_xreg1 hi (br_f rf_ne01 (rf_xreg1 hj (br_f rf_ne01 (rf_xreg0 c3 (br_t rfl h)))))
    · obtain ⟨i, hi, rfl⟩ := c1
      exact rf_xreg1 hi (br_f rf_ne01 (rf_xreg0 c2 (br_t rfl h)))
  · exact rf_xreg0 c1 (br_t rfl h)
theorem rf_xwb {post : Int64 → Prop} {N : Int} (hN : N.natAbs ≤ 4611686018427387904) (y : Int32) (k : Nat) (hk : k ≤ 20) (hy : y = nI k) (h : post (rf_l (rf_wb N ((2 ^ k : Nat) : Int)))) : wpX_withoutBits post (rf_l N) y := by
  unfold wpX_withoutBits
  have hd := Nat.two_pow_pos k
  have hd2 : 2 ^ k ≤ 2 ^ 20 := Nat.pow_le_pow_right (by decide) hk
  have e1 := Int.ediv_mul_add_emod N ((2 ^ k : Nat) : Int)
  have e2 := Int.emod_nonneg N (b := ((2 ^ k : Nat) : Int)) (by omega)
  have e3 := Int.emod_lt_of_pos N (b := ((2 ^ k : Nat) : Int)) (by omega)
  refine nm_r (rf_shrc (rf_Bn (by omega)) y k (by omega) hy) ?_
  rw [rf_shlc _ y k (by omega) hy, rf_or1, rf_eq (by unfold rf_B; omega) (rf_Bn (by omega))]
  unfold rf_wb at h
  refine br_c (fun c => ?_) (fun c => ?_)
  · rw [if_pos c] at h
    exact h
  · rw [if_neg c] at h
    exact h
theorem rf_xbey {post : Int32 → Prop} {p : Nat} {md fl : Int32} {a : Nat → Int64} {q : Int} (hp : p ≤ 10) (hq : q.natAbs < 4611686018427387904) (h0 : q.natAbs ≤ 4 * rf_Gr p → post 0) (h1 : 4 * rf_Gr p < q.natAbs → post 1) :
    wpX_isBeyond post (nI p, rf_l (rf_Gr p : Int), md, fl, a) (rf_l q) := by
  unfold wpX_isBeyond
  dsimp only
  have hg := rf_Gr_lt hp
  refine rf_xsize (by omega) ?_
  rw [rf_shlN _ 2 2 (by decide) rfl, rf_le (rf_BN (by omega)) (rf_BN (by omega))]
  exact br_c (fun c => h0 (by omega)) (fun c => h1 (by omega))
theorem rf_xgap5 {post : Int32 → Prop} {p s : Nat} {G : Int64} {md fl : Int32} {a : Nat → Int64} (hp : p ≤ 10) (hs : s < 2 ^ (p + 25)) (hb : s < 4611686018427387904)
    (h : ∀ t, t ≤ 23 → s < 2 ^ (p + t + 2) → (0 < t → 2 ^ (p + t + 1) ≤ s) → post (nI (t + 2))) :
    ∀ d t, t + d = 23 → (0 < t → 2 ^ (p + t + 1) ≤ s) → wX_gapBitsAt_5 post (rf_l (s : Int)) (nI p) G md fl a (d + 1) (nI (t + 2)) (nI t) := by
  intro d
  induction d with
  | zero =>
    intro t ht hl
    have e : t = 23 := by omega
    subst e
    exact br_t (nI_le (a := 23) (b := 23) (by omega) (by omega)) (h 23 (by omega) hs hl)
  | succ d ih =>
    intro t ht hl
    have h23 : ¬ (23 : Int32) ≤ nI t := nI_ge (a := t) (b := 23) (by omega) (by omega)
    have d1 : s / 2 ^ (t + 2) ≤ s := Nat.div_le_self _ _
    have d2 : s / 2 ^ (t + 2) / 2 ^ p ≤ s / 2 ^ (t + 2) := Nat.div_le_self _ _
    have e : (rf_l (s : Int) >>> ((nI (t + 2)).toInt64 &&& 63)) >>> ((nI p).toInt64 &&& 63) = rf_l ((s / 2 ^ (t + 2) / 2 ^ p : Nat) : Int) := by
      rw [rf_shrN (by omega) _ (t + 2) (by omega) rfl, rf_shrN (by omega) _ p (by omega) rfl]
    have cnd : (rf_l (s : Int) >>> ((nI (t + 2)).toInt64 &&& 63)) >>> ((nI p).toInt64 &&& 63) = 0 ↔ s < 2 ^ (p + t + 2) := by
      rw [e, rf_0, rf_eq (rf_BN (by omega)) rf_b0, ← rf_gq]
      omega
    by_cases c : s < 2 ^ (p + t + 2)
    · exact br_f h23 (br_t (cnd.2 c) (h t (by omega) c hl))
    · exact br_f h23 (br_f (fun z => c (cnd.1 z)) (nm_r (nI_1 _) (nm_r (nI_1 _) (ih (t + 1) (by omega) (fun _ => by
        rw [show p + (t + 1) + 1 = p + t + 2 by omega]
        omega)))))
theorem rf_xgap {post : Int32 → Prop} {p s : Nat} {G : Int64} {md fl : Int32} {a : Nat → Int64} (hp : p ≤ 10) (hs : s < 2 ^ (p + 25)) (hb : s < 4611686018427387904)
    (h : ∀ t, t ≤ 23 → s < 2 ^ (p + t + 2) → (0 < t → 2 ^ (p + t + 1) ≤ s) → post (nI (t + 2))) : wpX_gapBitsAt post (nI p, G, md, fl, a) (rf_l (s : Int)) := by
  unfold wpX_gapBitsAt
  dsimp only
  exact ⟨24, rf_xgap5 hp hs hb h 23 0 rfl (by omega)⟩
theorem rf_xgo {post : Int32 → Prop} {how neg M R G : Nat} (hn : neg = 0 ∨ neg = 1) (hh : how < 4) (hR : R < 2305843009213693952) (hG : G < 2305843009213693952)
    (h1 : rf_go how neg M R G → post 1) (h0 : ¬ rf_go how neg M R G → post 0) : wpX_goesOutward post (nI neg) (rf_l (M : Int)) (rf_l (R : Int)) (rf_l (G : Int)) (nI how) := by
  unfold wpX_goesOutward
  unfold rf_go at h1 h0
  have hs : how = 0 ∨ how = 1 ∨ how = 2 ∨ how = 3 := by omega
  rcases hs with rfl | rfl | rfl | rfl
  · refine br_f (by decide) (br_f (by decide) (br_f (by decide) ?_))
    rw [rf_add, rf_and1, rf_0, rf_eq (a := (R : Int) + R) (rf_Bn (by omega)) (rf_BN (by omega)), rf_le (rf_Bn (by omega)) (rf_BN (by omega)), rf_eq (a := (M : Int) % 2) (rf_Bn (by omega)) rf_b0]
    exact br_c (fun c => br_c (fun d => h0 (by omega)) (fun d => h1 (by omega))) (fun c => br_c (fun d => h0 (by omega)) (fun d => h1 (by omega)))
  · rcases hn with rfl | rfl
    · exact br_t rfl ⟨rfl, h0 (by omega)⟩
    · exact br_t rfl ⟨rfl, h1 (by omega)⟩
  · rcases hn with rfl | rfl
    · exact br_f (by decide) (br_t rfl (br_t rfl (h1 (by omega))))
    · exact br_f (by decide) (br_t rfl (br_f (by decide) (h0 (by omega))))
  · exact br_f (by decide) (br_f (by decide) (br_t rfl (h0 (by omega))))
theorem rf_xr100 {post : Int64 → Prop} {n t neg : Nat} {D : Int32} {G : Int64} {md fl : Int32} {a : Nat → Int64} (hn : n ≤ 1024) (ht : t ≤ 23) (hneg : neg = 0 ∨ neg = 1)
    (h0 : neg = 0 → post (rf_l ((n * 2 ^ t : Nat) : Int))) (h1 : neg = 1 → post (rf_l (-((n * 2 ^ t : Nat) : Int)))) : wX_rounded_100 post (nI neg) (nI (t + 2)) (rf_l (n : Int)) D G md fl a := by
  unfold wX_rounded_100
  have b : n * 2 ^ (t + 2) ≤ 1024 * 2 ^ 25 := Nat.mul_le_mul hn (Nat.pow_le_pow_right (by decide) (by omega))
  refine nm_r (e' := rf_l ((n * 2 ^ t : Nat) : Int)) ?_ ?_
  · rw [rf_shlN _ _ (t + 2) (by omega) rfl, rf_shrN (by omega) 2 2 (by decide) rfl, rf_q4]
  · rcases hneg with rfl | rfl
    · exact br_t rfl (h0 rfl)
    · rw [rf_neg]
      exact br_f (by decide) (h1 rfl)
theorem rf_xr11 {post : Int64 → Prop} {p how neg : Nat} {md fl : Int32} {a : Nat → Int64} {q : Int} (hp1 : 2 ≤ p) (hp : p ≤ 10) (hh : how < 4) (hq : q.natAbs < 4611686018427387904)
    (hneg : (q < 0 ∧ neg = 1) ∨ (0 ≤ q ∧ neg = 0))
    (hi : 4 * (rf_Gr p : Int) < q → post (rf_l (rf_Gr p : Int))) (lo : q < -(4 * (rf_Gr p : Int)) → post (rf_l (-(rf_Gr p : Int))))
    (ok : q.natAbs ≤ 4 * rf_Gr p → ∀ r, (∃ u o, rf_Un p q u ∧ rf_Ov p q o ∧ ((u = o ∧ r = u ∧ 4 * r = q) ∨ (u ≠ o ∧ r = rf_ch how q u o ∧ 4 * r ≠ q))) → post (rf_l r)) :
    wX_rounded_11 post (rf_l q) (nI how) (nI neg) (nI p) (rf_l (rf_Gr p : Int)) md fl a := by
  unfold wX_rounded_11
  refine rf_xbey hp hq (fun c => br_t rfl ?_) (fun c => br_f rf_ne01 ?_)
  · have hg : q.natAbs ≤ (2 ^ p - 1) * 2 ^ 25 := by
      unfold rf_Gr at c
      omega
    have hP := Nat.two_pow_pos p
    have hs25 : q.natAbs < 2 ^ (p + 25) := by
      rw [Nat.pow_add]
      omega
    refine rf_xsize (by omega) ?_
    refine rf_xgap hp hs25 hq (fun t ht hs hlo => ?_)
    have e1 := Nat.div_add_mod' q.natAbs (2 ^ (t + 2))
    have e2 := Nat.mod_lt q.natAbs (Nat.two_pow_pos (t + 2))
    have e3 : q.natAbs / 2 ^ (t + 2) * 2 ^ (t + 2) = 4 * (q.natAbs / 2 ^ (t + 2) * 2 ^ t) := by
      rw [rf_t4]
      exact Nat.mul_left_comm _ _ _
    have e4 : (q.natAbs / 2 ^ (t + 2) + 1) * 2 ^ t = q.natAbs / 2 ^ (t + 2) * 2 ^ t + 2 ^ t := by rw [Nat.add_mul, Nat.one_mul]
    have hM := rf_A0 hs
    have hP2 : 2 ^ p ≤ 2 ^ 10 := Nat.pow_le_pow_right (by decide) hp
    have hT2 : 2 ^ (t + 2) ≤ 2 ^ 25 := Nat.pow_le_pow_right (by decide) (by omega)
    obtain ⟨P1, P2, P3⟩ := rf_ps (by omega) ht hs hlo hg
    rw [e4] at P3
    refine nm_r (rf_shrN (by omega) _ (t + 2) (by omega) rfl) ?_
    refine nm_r (e' := rf_l ((q.natAbs % 2 ^ (t + 2) : Nat) : Int)) ?_ ?_
    · rw [rf_shlN _ _ (t + 2) (by omega) rfl, rf_sub]
      congr 1
      omega
    · have key : ∀ n, (q.natAbs % 2 ^ (t + 2) ≠ 0 ∧ rf_go how neg (q.natAbs / 2 ^ (t + 2)) (q.natAbs % 2 ^ (t + 2)) (4 * 2 ^ t) ∧ n = q.natAbs / 2 ^ (t + 2) + 1) ∨ ((q.natAbs % 2 ^ (t + 2) = 0 ∨ ¬ rf_go how neg (q.natAbs / 2 ^ (t + 2)) (q.natAbs % 2 ^ (t + 2)) (4 * 2 ^ t)) ∧ n = q.natAbs / 2 ^ (t + 2)) →
          wX_rounded_100 post (nI neg) (nI (t + 2)) (rf_l (n : Int)) (nI p) (rf_l (rf_Gr p : Int)) md fl a := by
        intro n hn
        have hT := Nat.two_pow_pos t
        have e5 := rf_t4 t
        refine rf_xr100 (by omega) ht (by omega) (fun z => ?_) (fun z => ?_)
        · exact ok c _ (rf_xok hT (by omega) (by omega) hh P1 P2 P3 hneg hn (Or.inr ⟨by omega, rfl⟩))
        · exact ok c _ (rf_xok hT (by omega) (by omega) hh P1 P2 P3 hneg hn (Or.inl ⟨by omega, rfl⟩))
      by_cases cR : q.natAbs % 2 ^ (t + 2) = 0
      · refine br_t ?_ (key _ (Or.inr ⟨Or.inl cR, rfl⟩))
        rw [cR]
        rfl
      · refine br_f ?_ ?_
        · rw [rf_0, rf_eq (rf_BN (by omega)) rf_b0]
          omega
        · have e6 : (1 : Int64) <<< ((nI (t + 2)).toInt64 &&& 63) = rf_l ((4 * 2 ^ t : Nat) : Int) := by
            rw [rf_1, rf_shlc _ _ (t + 2) (by omega) rfl, Int.one_mul, rf_t4]
          rw [e6]
          have e5 := rf_t4 t
          refine rf_xgo (by omega) hh (by omega) (by omega) (fun g => br_f rf_ne01 ?_) (fun g => br_t rfl (key _ (Or.inr ⟨Or.inr g, rfl⟩)))
          refine nm_r (e' := rf_l ((q.natAbs / 2 ^ (t + 2) + 1 : Nat) : Int)) ?_ (key _ (Or.inl ⟨cR, g, rfl⟩))
          rw [rf_1, rf_add]
          rfl
  · rcases hneg with ⟨c2, rfl⟩ | ⟨c2, rfl⟩
    · rw [rf_neg]
      exact br_f (by decide) (lo (by omega))
    · exact br_t rfl (hi (by omega))
theorem rf_xrnd {post : Int64 → Prop} {p how : Nat} {md fl : Int32} {a : Nat → Int64} {q : Int} (hp1 : 2 ≤ p) (hp : p ≤ 10) (hh : how < 4) (hq : q.natAbs < 4611686018427387904)
    (hi : 4 * (rf_Gr p : Int) < q → post (rf_l (rf_Gr p : Int))) (lo : q < -(4 * (rf_Gr p : Int)) → post (rf_l (-(rf_Gr p : Int))))
    (ok : q.natAbs ≤ 4 * rf_Gr p → ∀ r, (∃ u o, rf_Un p q u ∧ rf_Ov p q o ∧ ((u = o ∧ r = u ∧ 4 * r = q) ∨ (u ≠ o ∧ r = rf_ch how q u o ∧ 4 * r ≠ q))) → post (rf_l r)) :
    wpX_rounded post (nI p, rf_l (rf_Gr p : Int), md, fl, a) (rf_l q) (nI how) := by
  unfold wpX_rounded
  dsimp only
  rw [rf_0, rf_le rf_b0 (rf_Bn (by omega))]
  exact br_c (fun c => rf_xr11 (neg := 0) hp1 hp hh hq (Or.inr ⟨c, rfl⟩) hi lo ok) (fun c => rf_xr11 (neg := 1) hp1 hp hh hq (Or.inl ⟨by omega, rfl⟩) hi lo ok)
theorem rf_xp43 {post : Int32 → SX → Prop} {i : Nat} {D : Int32} {G r : Int64} {md fl f : Int32} {a : Nat → Int64} (hi : i < 4) (h : post f (D, G, md, fl ||| f, vp_updL a i r)) : wX_putRounded_43 post (nI i) r f D G md fl a := by
  unfold wX_putRounded_43
  refine ⟨vp_in_nI hi (by omega), nm_e (nm_e ?_)⟩
  rw [nI_clamp (by omega)]
  exact h
theorem rf_xput {post : Int32 → SX → Prop} {p how i : Nat} {fl : Int32} {a : Nat → Int64} {q : Int} (hp1 : 2 ≤ p) (hp : p ≤ 10) (hh : how < 4) (hi : i < 4) (hq : q.natAbs < 4611686018427387904)
    (h : ∀ r f, rf_Out p how q r f → post (nI f) (nI p, rf_l (rf_Gr p : Int), nI how, fl ||| nI f, vp_updL a i (rf_l r))) :
    wpX_putRounded post (nI p, rf_l (rf_Gr p : Int), nI how, fl, a) (nI i) (rf_l q) := by
  unfold wpX_putRounded
  dsimp only
  have hg := rf_Gr_lt hp
  have n1 : (0 : Int32) ||| 1 = nI 1 := by decide
  have n3 : nI 1 ||| 2 = nI 3 := by decide
  refine rf_xrnd hp1 hp hh hq (fun c => ?_) (fun c => ?_) (fun c r hr => ?_)
  · rw [rf_shlc _ 2 2 (by decide) rfl, rf_eq (rf_Bn (by omega)) (rf_Bn (by omega))]
    refine br_f (by omega) (nm_r n1 ?_)
    unfold wX_putRounded_29
    refine rf_xbey hp hq (fun z => by omega) (fun z => br_f rf_ne01 (nm_r n3 ?_))
    exact rf_xp43 hi (h _ 3 (rf_Out_hi (by omega) c))
  · rw [rf_shlc _ 2 2 (by decide) rfl, rf_eq (rf_Bn (by omega)) (rf_Bn (by omega))]
    refine br_f (by omega) (nm_r n1 ?_)
    unfold wX_putRounded_29
    refine rf_xbey hp hq (fun z => by omega) (fun z => br_f rf_ne01 (nm_r n3 ?_))
    exact rf_xp43 hi (h _ 3 (rf_Out_lo (by omega) c))
  · have hO := rf_Out_x hr
    have hb : r.natAbs ≤ rf_Gr p := by
      obtain ⟨u, o, hu, ho, ⟨a1, b1, c1⟩ | ⟨a1, b1, c1⟩⟩ := hr
      · rw [b1]
        exact rf_F_le hu.1
      · rcases rf_ch_or how q u o with e | e
        · rw [b1, e]
          exact rf_F_le hu.1
        · rw [b1, e]
          exact rf_F_le ho.1
    rw [rf_shlc _ 2 2 (by decide) rfl, rf_eq (rf_Bn (by omega)) (rf_Bn (by omega))]
    by_cases d : 4 * r = q
    · refine br_t (by omega) ?_
      unfold wX_putRounded_29
      refine rf_xbey hp hq (fun z => br_t rfl ?_) (fun z => by omega)
      exact rf_xp43 hi (h r 0 (hO.1 d))
    · refine br_f (by omega) (nm_r n1 ?_)
      unfold wX_putRounded_29
      refine rf_xbey hp hq (fun z => br_t rfl ?_) (fun z => by omega)
      exact rf_xp43 hi (h r 1 (hO.2 d))

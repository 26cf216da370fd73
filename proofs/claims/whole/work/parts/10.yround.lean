theorem rf_tm (w : Int) : w - w.tdiv 2 * 2 = 0 ↔ w % 2 = 0 := by
  by_cases h : 0 ≤ w
  · rw [Int.tdiv_eq_ediv_of_nonneg h]
    omega
  · have e : w.tdiv 2 = -((-w) / 2) := by
      rw [← Int.tdiv_eq_ediv_of_nonneg (show 0 ≤ -w by omega), Int.neg_tdiv, Int.neg_neg]
    rw [e]
    omega
theorem rf_ych {post : Int64 → Prop} {p how : Nat} {b fl sq hu ho : Int32} {r0 r1 r2 r3 top low : Int64} {q u o : Int} (hp : p ≤ 10) (hh : how < 4) (hu1 : rf_Un p q u) (ho1 : rf_Ov p q o) (hne : u ≠ o)
    (A : rf_Ag q top low sq) (h : post (rf_l (rf_ch how q u o))) : wpY_choose post (b, nI how, fl, r0, r1, r2, r3, top, low, sq, rf_l u, rf_l o, hu, ho) := by
  unfold wpY_choose
  dsimp only
  have hg := rf_Gr_lt hp
  have bu := rf_F_b hu1.1
  have bo := rf_F_b ho1.1
  have l1 := hu1.2.1
  have l2 := ho1.2.1
  have huo : u < o := by omega
  unfold rf_ch at h
  have hs : how = 0 ∨ how = 1 ∨ how = 2 ∨ how = 3 := by omega
  rcases hs with rfl | rfl | rfl | rfl
  · rw [if_neg (by decide), if_neg (by decide), if_neg (by decide)] at h
    refine br_f (by decide) (br_f (by decide) (br_f (by decide) ?_))
    rw [rf_add]
    refine rf_yag ?_
    rw [A (u + o) (by omega) (by omega)]
    have s := rf_sgl (q - 2 * (u + o))
    have wb := Int.natAbs_tdiv_le_natAbs u (o - u)
    refine nm_r (rf_sub o u) ?_
    have ew : rf_l u / rf_l (o - u) = rf_l (u.tdiv (o - u)) := rf_div (rf_Bn (by omega)) (rf_Bn (by omega))
    rw [ew, rf_2, rf_0, rf_div (a := u.tdiv (o - u)) (rf_Bn (by omega)) (rf_Bn (by omega)), rf_mul, rf_sub]
    have wb2 := Int.natAbs_tdiv_le_natAbs (u.tdiv (o - u)) 2
    rw [rf_le (rf_Bn (by omega)) rf_b0, rf_eq (a := o - u) (rf_Bn (by omega)) rf_b0, rf_eq (a := 2) (rf_Bn (by omega)) rf_b0, rf_eq (a := u.tdiv (o - u) - (u.tdiv (o - u)).tdiv 2 * 2) (rf_Bn (by omega)) rf_b0, rf_tm]
    refine br_f (by omega) ⟨by omega, by omega, ?_⟩
    generalize u.tdiv (o - u) % 2 = y at *
    refine br_c (fun c => ?_) (fun c => ?_)
    · unfold wY_choose_105
      refine br_c (fun d => ?_) (fun d => br_c (fun e => br_f rf_ne01 ?_) (fun e => ?_))
      · have d' := s.1.1 d
        rw [if_pos (by omega)] at h
        exact h
      · have e' := s.2.2.1 e
        rw [if_pos (by omega)] at h
        exact h
      · have d' : ¬ q - 2 * (u + o) < 0 := fun z => d (s.1.2 z)
        have e' : ¬ q - 2 * (u + o) = 0 := fun z => e (s.2.2.2 z)
        rw [if_neg (by omega)] at h
        exact h
    · unfold wY_choose_104 wY_choose_105
      refine br_c (fun d => ?_) (fun d => br_c (fun e => br_t rfl ?_) (fun e => ?_))
      · have d' := s.1.1 d
        rw [if_pos (by omega)] at h
        exact h
      · have e' := s.2.2.1 e
        rw [if_neg (by omega)] at h
        exact h
      · have d' : ¬ q - 2 * (u + o) < 0 := fun z => d (s.1.2 z)
        have e' : ¬ q - 2 * (u + o) = 0 := fun z => e (s.2.2.2 z)
        rw [if_neg (by omega)] at h
        exact h
  · exact br_t rfl h
  · exact br_f (by decide) (br_t rfl h)
  · refine br_f (by decide) (br_f (by decide) (br_t rfl ?_))
    rw [if_neg (by decide), if_neg (by decide), if_pos rfl] at h
    rw [rf_0, rf_lt (rf_Bn (by omega)) rf_b0]
    refine br_c (fun c => ?_) (fun c => ?_)
    · rw [if_neg (by omega)] at h
      exact h
    · rw [if_pos (by omega)] at h
      exact h
def rf_up (z : Nat → Int) (i : Nat) (r : Int) : Nat → Int := fun j => if j = i then r else z j
theorem rf_yput {post : SY → Prop} {b w fl sq hu ho : Int32} {top low un ov : Int64} {z : Nat → Int} {i : Nat} {r : Int} (hi : i < 4)
    (h : post (b, w, fl, rf_l (rf_up z i r 0), rf_l (rf_up z i r 1), rf_l (rf_up z i r 2), rf_l (rf_up z i r 3), top, low, sq, un, ov, hu, ho)) :
    wpY_put post (b, w, fl, rf_l (z 0), rf_l (z 1), rf_l (z 2), rf_l (z 3), top, low, sq, un, ov, hu, ho) (nI i) (rf_l r) := by
  have hs : i = 0 ∨ i = 1 ∨ i = 2 ∨ i = 3 := by omega
  rcases hs with rfl | rfl | rfl | rfl
  · exact br_t rfl (br_f (by decide) (br_f (by decide) (br_f (by decide) h)))
  · exact br_f (by decide) (br_t rfl (br_f (by decide) (br_f (by decide) h)))
  · exact br_f (by decide) (br_f (by decide) (br_t rfl (br_f (by decide) h)))
  · exact br_f (by decide) (br_f (by decide) (br_f (by decide) (br_t rfl h)))
theorem rf_y68 {post : Int32 → SY → Prop} {b w fl sq hu ho f : Int32} {top low un ov : Int64} {z : Nat → Int} {i : Nat} {r : Int} (hi : i < 4)
    (h : post f (b, w, fl ||| f, rf_l (rf_up z i r 0), rf_l (rf_up z i r 1), rf_l (rf_up z i r 2), rf_l (rf_up z i r 3), top, low, sq, un, ov, hu, ho)) :
    wY_round_68 post (nI i) f (rf_l r) b w fl (rf_l (z 0)) (rf_l (z 1)) (rf_l (z 2)) (rf_l (z 3)) top low sq un ov hu ho := by
  unfold wY_round_68
  exact rf_yput hi (nm_e h)
theorem rf_yround {post : Int32 → SY → Prop} {p how i : Nat} {fl sq hu ho : Int32} {top low un ov : Int64} {z : Nat → Int} {q : Int} (hp1 : 2 ≤ p) (hp : p ≤ 10) (hh : how < 4) (hi : i < 4) (A : rf_Ag q top low sq)
    (h : ∀ r f un ov hu ho, rf_Out p how q r f → post (nI f) (nI p, nI how, fl ||| nI f, rf_l (rf_up z i r 0), rf_l (rf_up z i r 1), rf_l (rf_up z i r 2), rf_l (rf_up z i r 3), top, low, sq, un, ov, hu, ho)) :
    wpY_round post (nI p, nI how, fl, rf_l (z 0), rf_l (z 1), rf_l (z 2), rf_l (z 3), top, low, sq, un, ov, hu, ho) (nI i) := by
  unfold wpY_round
  dsimp only
  have hg := rf_Gr_lt hp
  refine rf_ysearch (by omega) hp (rf_Ag_2 A) (fun un' ov' hu' ho' hU hO => ?_)
  rcases rf_IU_F hU with ⟨rfl, nU⟩ | ⟨rfl, u, rfl, hu1⟩
  · rcases rf_IO_F hO with ⟨rfl, nO⟩ | ⟨rfl, o, rfl, ho1⟩
    · have a1 := nU 0 (rf_F_0 p)
      have a2 := nO 0 (rf_F_0 p)
      omega
    · exact br_f rf_ne01 (br_t rfl (br_t rfl (rf_y68 hi (h o 3 _ _ _ _ (Or.inr (Or.inr ⟨nU, ho1, rfl⟩))))))
  · rcases rf_IO_F hO with ⟨rfl, nO⟩ | ⟨rfl, o, rfl, ho1⟩
    · exact br_t rfl (br_f rf_ne01 (rf_y68 hi (h u 3 _ _ _ _ (Or.inr (Or.inl ⟨nO, hu1, rfl⟩)))))
    · refine br_f rf_ne01 (br_f rf_ne01 ?_)
      have bu := rf_F_b hu1.1
      have bo := rf_F_b ho1.1
      rw [rf_eq (rf_Bn (by omega)) (rf_Bn (by omega))]
      refine br_c (fun c => ?_) (fun c => ?_)
      · exact rf_y68 hi (h u 0 _ _ _ _ (Or.inl ⟨u, o, hu1, ho1, Or.inl ⟨c, rfl, rfl⟩⟩))
      · exact rf_ych hp hh hu1 ho1 c A (rf_y68 hi (h _ 1 _ _ _ _ (Or.inl ⟨u, o, hu1, ho1, Or.inr ⟨c, rfl, rfl⟩⟩)))
theorem rf_R3 {r : Int32} (c : ¬ r < 0) (d : ¬ (3 : Int32) < r) : rf_R r := by
  obtain ⟨j, hj, rfl⟩ := nI_of c
  refine ⟨j, ?_, rfl⟩
  by_cases h : j < 4
  · exact h
  · exact absurd (nI_lt (a := 3) (b := j) (by omega) hj) d
theorem rf_yis1 {post : Int32 → Prop} {v : SY} {j : Nat} (hj : j < 4) (h : post 1) : wpY_is post v (nI j) := by
  obtain ⟨b, w, fl, r0, r1, r2, r3, top, low, sq, un, ov, hu, ho⟩ := v
  exact br_f (nI_pos (by omega)) (br_f (nI_nlt (a := 3) (b := j) (by omega) (by omega)) h)
theorem rf_yis0 {post : Int32 → Prop} {v : SY} {r : Int32} (hr : ¬ rf_R r) (h : post 0) : wpY_is post v r := by
  obtain ⟨b, w, fl, r0, r1, r2, r3, top, low, sq, un, ov, hu, ho⟩ := v
  exact br_c (fun _ => h) (fun c => br_c (fun _ => h) (fun d => absurd (rf_R3 c d) hr))
theorem rf_yget {post : Int64 → Prop} {b w fl sq hu ho : Int32} {top low un ov : Int64} {z : Nat → Int} {j : Nat} (hj : j < 4) (h : post (rf_l (z j))) :
    wpY_get post (b, w, fl, rf_l (z 0), rf_l (z 1), rf_l (z 2), rf_l (z 3), top, low, sq, un, ov, hu, ho) (nI j) := by
  have hs : j = 0 ∨ j = 1 ∨ j = 2 ∨ j = 3 := by omega
  rcases hs with rfl | rfl | rfl | rfl
  · exact br_t rfl h
  · exact br_f (by decide) (br_t rfl h)
  · exact br_f (by decide) (br_f (by decide) (br_t rfl h))
  · exact br_f (by decide) (br_f (by decide) (br_f (by decide) h))

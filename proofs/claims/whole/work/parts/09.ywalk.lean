theorem rf_yag {post : Int32 → Prop} {b w fl sq hu ho : Int32} {r0 r1 r2 r3 top low un ov x : Int64} (h : post (rf_ag top low sq x)) :
    wpY_against post (b, w, fl, r0, r1, r2, r3, top, low, sq, un, ov, hu, ho) x := by
  unfold wpY_against
  dsimp only
  unfold rf_ag at h
  by_cases c : sq = 0
  · rw [if_pos c] at h
    refine br_t c (nm_e (nm_e (br_c (fun d => br_c (fun e => ?_) (fun e => ?_)) (fun d => ?_))))
    · rw [if_neg (Int64.not_lt.mpr d), if_neg (Int64.not_lt.mpr e)] at h
      exact h
    · rw [if_neg (Int64.not_lt.mpr d), if_pos (Int64.not_le.mp e)] at h
      exact h
    · rw [if_pos (Int64.not_le.mp d)] at h
      exact h
  · rw [if_neg c] at h
    refine br_f c (nm_e (br_c (fun d => ?_) (fun d => br_c (fun e => br_c (fun g => br_c (fun k => ?_) (fun k => ?_)) (fun g => ?_)) (fun e => ?_))))
    · rw [if_pos d] at h
      exact br_f (Int64.not_le.mpr d) h
    · rw [if_neg d, if_neg (Int64.not_lt.mpr e), if_neg (Int64.not_lt.mpr g), if_neg (Int64.not_lt.mpr k)] at h
      exact h
    · rw [if_neg d, if_neg (Int64.not_lt.mpr e), if_neg (Int64.not_lt.mpr g), if_pos (Int64.not_le.mp k)] at h
      exact h
    · rw [if_neg d, if_neg (Int64.not_lt.mpr e), if_pos (Int64.not_le.mp g)] at h
      exact h
    · rw [if_neg d, if_pos (Int64.not_le.mp e)] at h
      exact br_t (Int64.not_lt.mp d) h
theorem rf_sgl (z : Int) : (rf_sg z < 0 ↔ z < 0) ∧ (0 < rf_sg z ↔ 0 < z) ∧ (rf_sg z = 0 ↔ z = 0) := by
  unfold rf_sg
  have d1 : (-1 : Int32) < 0 := by decide
  have d2 : ¬ (0 : Int32) < -1 := by decide
  have d3 : ¬ (-1 : Int32) = 0 := by decide
  have d4 : ¬ (1 : Int32) < 0 := by decide
  have d5 : (0 : Int32) < 1 := by decide
  have d6 : ¬ (1 : Int32) = 0 := by decide
  have d7 : ¬ (0 : Int32) < 0 := by decide
  by_cases c : z < 0
  · rw [if_pos c]
    exact ⟨⟨fun _ => c, fun _ => d1⟩, ⟨fun z => absurd z d2, fun _ => by omega⟩, ⟨fun z => absurd z d3, fun _ => by omega⟩⟩
  · rw [if_neg c]
    by_cases e : 0 < z
    · rw [if_pos e]
      exact ⟨⟨fun z => absurd z d4, fun _ => by omega⟩, ⟨fun _ => e, fun _ => d5⟩, ⟨fun z => absurd z d6, fun _ => by omega⟩⟩
    · rw [if_neg e]
      exact ⟨⟨fun z => absurd z d7, fun _ => by omega⟩, ⟨fun z => absurd z d7, fun _ => by omega⟩, ⟨fun _ => by omega, fun _ => rfl⟩⟩
theorem rf_yl40 {post : SY → Prop} {b w fl sq hu ho : Int32} {r0 r1 r2 r3 top low un ov : Int64} {q x : Int} {S S' : Int → Prop}
    (e : ∀ y, S' y ↔ S y ∨ y = x) (hx : rf_B x) (hS : ∀ z, S z → rf_B z) (hU : rf_IU q S' hu un) (hO : rf_IO q S ho ov)
    (h : ∀ un' ov' hu' ho', rf_IU q S' hu' un' → rf_IO q S' ho' ov' → post (b, w, fl, r0, r1, r2, r3, top, low, sq, un', ov', hu', ho')) :
    wY_look_40 post (rf_l x) (rf_sg (q - 4 * x)) b w fl r0 r1 r2 r3 top low sq un ov hu ho := by
  unfold wY_look_40
  have s := rf_sgl (q - 4 * x)
  refine br_c (fun c => ?_) (fun c => br_c (fun d => ?_) (fun d => br_c (fun g => ?_) (fun g => ?_)))
  · have c' := s.2.1.1 c
    exact h _ _ _ _ hU (rf_IO_keep e hO (Or.inl (by omega)))
  · have c' : ¬ 0 < q - 4 * x := fun z => c (s.2.1.2 z)
    exact h _ _ _ _ hU (rf_IO_set e hO (by omega) (Or.inl d))
  · refine h _ _ _ _ hU (rf_IO_keep e hO (Or.inr ⟨d, fun z hz hSz => ?_⟩))
    rw [hz, rf_le (hS z hSz) hx] at g
    exact g
  · have c' : ¬ 0 < q - 4 * x := fun z => c (s.2.1.2 z)
    refine h _ _ _ _ hU (rf_IO_set e hO (by omega) (Or.inr fun z hz hSz => ?_))
    rw [hz, rf_le (hS z hSz) hx] at g
    omega
theorem rf_ylook {post : SY → Prop} {b w fl sq hu ho : Int32} {r0 r1 r2 r3 top low un ov : Int64} {q x : Int} {S S' : Int → Prop}
    (e : ∀ y, S' y ↔ S y ∨ y = x) (hx1 : -17179869184 ≤ x) (hx2 : x ≤ 17179869184) (hS : ∀ z, S z → rf_B z) (A : rf_Ag2 q top low sq) (hU : rf_IU q S hu un) (hO : rf_IO q S ho ov)
    (h : ∀ un' ov' hu' ho', rf_IU q S' hu' un' → rf_IO q S' ho' ov' → post (b, w, fl, r0, r1, r2, r3, top, low, sq, un', ov', hu', ho')) :
    wpY_look post (b, w, fl, r0, r1, r2, r3, top, low, sq, un, ov, hu, ho) (rf_l x) := by
  unfold wpY_look
  dsimp only
  have hx : rf_B x := by
    unfold rf_B
    omega
  have e2 : 2 * rf_l x = rf_l (2 * x) := by rw [rf_2, rf_mul]
  rw [e2]
  refine rf_yag ?_
  rw [A x hx1 hx2]
  have s := rf_sgl (q - 4 * x)
  refine br_c (fun c => ?_) (fun c => br_c (fun d => ?_) (fun d => br_c (fun g => ?_) (fun g => ?_)))
  · have c' := s.1.1 c
    exact rf_yl40 e hx hS (rf_IU_keep e hU (Or.inl (by omega))) hO h
  · have c' : ¬ q - 4 * x < 0 := fun z => c (s.1.2 z)
    exact rf_yl40 e hx hS (rf_IU_set e hU (by omega) (Or.inl d)) hO h
  · refine rf_yl40 e hx hS (rf_IU_keep e hU (Or.inr ⟨d, fun z hz hSz => ?_⟩)) hO h
    rw [hz, rf_le hx (hS z hSz)] at g
    exact g
  · have c' : ¬ q - 4 * x < 0 := fun z => c (s.1.2 z)
    refine rf_yl40 e hx hS (rf_IU_set e hU (by omega) (Or.inr fun z hz hSz => ?_)) hO h
    rw [hz, rf_le hx (hS z hSz)] at g
    omega
theorem rf_sh1 : ∀ p, p < 11 → (1 : Int32) <<< (nI p &&& 31) = nI (2 ^ p) := by decide +kernel
theorem rf_sh2 : ∀ p, p < 11 → 1 ≤ p → (1 : Int32) <<< ((nI p - 1) &&& 31) = nI (2 ^ (p - 1)) := by decide +kernel
theorem rf_ys35 {post : SY → Prop} {p e : Nat} {w fl sq : Int32} {r0 r1 r2 r3 top low : Int64} {q : Int} {J : Int32 → Int32 → Int32 → Int32 → Int64 → Int64 → Int64 → Int64 → Int64 → Int64 → Int32 → Int64 → Int64 → Int32 → Int32 → Prop}
    (hp : p ≤ 10) (he : e ≤ 23) (A : rf_Ag2 q top low sq)
    (h : ∀ un ov hu ho, rf_IU q (rf_V p e (2 ^ p)) hu un → rf_IO q (rf_V p e (2 ^ p)) ho ov → J (nI (e + 1)) (nI p) w fl r0 r1 r2 r3 top low sq un ov hu ho) :
    ∀ d m, m + d = 2 ^ p → (e = 0 ∨ 2 ^ (p - 1) ≤ m) → ∀ un ov hu ho, rf_IU q (rf_V p e m) hu un → rf_IO q (rf_V p e m) ho ov →
      wY_search_35 post J (nI e) (d + 1) (nI m) (nI p) w fl r0 r1 r2 r3 top low sq un ov hu ho := by
  have hP : 2 ^ p ≤ 2 ^ 10 := Nat.pow_le_pow_right (by decide) hp
  have hs := rf_sh1 p (by omega)
  intro d
  induction d with
  | zero =>
    intro m hm hme un ov hu ho hU hO
    have em : m = 2 ^ p := by omega
    subst em
    unfold wY_search_35
    rw [hs]
    exact br_t (nI_le (by omega) (by omega)) (nm_r (nI_1 e) (h _ _ _ _ hU hO))
  | succ d ih =>
    intro m hm hme un ov hu ho hU hO
    have hb := rf_mV hp (show e ≤ 24 by omega) (show m < 2 ^ p by omega)
    have ex : (nI m).toInt64 <<< ((nI e).toInt64 &&& 63) = rf_l ((m * 2 ^ e : Nat) : Int) := by
      rw [nI_l (by omega), rf_lN, rf_shlN _ _ e (by omega) rfl]
    unfold wY_search_35
    rw [hs, ex, rf_neg]
    refine br_f (nI_ge (by omega) (by omega)) ?_
    refine rf_ylook (S' := fun y => rf_V p e m y ∨ y = ((m * 2 ^ e : Nat) : Int)) (fun y => Iff.rfl) (by omega) (by omega) (fun z hz => ?_) A hU hO (fun un' ov' hu' ho' hU' hO' => ?_)
    · have := rf_V_B hp (by omega) hz
      unfold rf_B
      omega
    · refine rf_ylook (S' := rf_V p e (m + 1)) (fun y => rf_V_s (by omega) hme y) (by omega) (by omega) (fun z hz => ?_) A hU' hO' (fun un2 ov2 hu2 ho2 hU2 hO2 => ?_)
      · rcases hz with hz | hz
        · have := rf_V_B hp (by omega) hz
          unfold rf_B
          omega
        · unfold rf_B
          omega
      · exact nm_r (nI_1 m) (ih (m + 1) (by omega) (by omega) _ _ _ _ hU2 hO2)
theorem rf_ys12 {post : SY → Prop} {p : Nat} {w fl sq : Int32} {r0 r1 r2 r3 top low : Int64} {q : Int} (hp1 : 1 ≤ p) (hp : p ≤ 10) (A : rf_Ag2 q top low sq)
    (h : ∀ un ov hu ho, rf_IU q (rf_F p) hu un → rf_IO q (rf_F p) ho ov → post (nI p, w, fl, r0, r1, r2, r3, top, low, sq, un, ov, hu, ho)) :
    ∀ d e, e + d = 24 → ∀ un ov hu ho, rf_IU q (rf_V p e (if e = 0 then 0 else 2 ^ (p - 1))) hu un → rf_IO q (rf_V p e (if e = 0 then 0 else 2 ^ (p - 1))) ho ov →
      wY_search_12 post (d + 1) (nI e) (nI p) w fl r0 r1 r2 r3 top low sq un ov hu ho := by
  have hd := rf_pd hp1
  intro d
  induction d with
  | zero =>
    intro e he un ov hu ho hU hO
    have e24 : e = 24 := by omega
    subst e24
    rw [if_neg (by decide)] at hU hO
    exact br_t (nI_lt (a := 23) (b := 24) (by omega) (by omega)) (h _ _ _ _ (rf_IU_iff rf_V_24 hU) (rf_IO_iff rf_V_24 hO))
  | succ d ih =>
    intro e he un ov hu ho hU hO
    have h23 : ¬ (23 : Int32) < nI e := nI_nlt (a := 23) (b := e) (by omega) (by omega)
    have nx : ∀ un ov hu ho, rf_IU q (rf_V p e (2 ^ p)) hu un → rf_IO q (rf_V p e (2 ^ p)) ho ov → wY_search_12 post (d + 1) (nI (e + 1)) (nI p) w fl r0 r1 r2 r3 top low sq un ov hu ho := by
      intro un ov hu ho hU hO
      refine ih (e + 1) (by omega) _ _ _ _ ?_ ?_
      · rw [if_neg (by omega)]
        exact rf_IU_iff rf_V_e hU
      · rw [if_neg (by omega)]
        exact rf_IO_iff rf_V_e hO
    unfold wY_search_12
    refine br_f h23 ?_
    by_cases e0 : e = 0
    · subst e0
      rw [if_pos rfl] at hU hO
      exact br_t rfl ⟨2 ^ p + 1, rf_ys35 hp (by omega) A nx (2 ^ p) 0 (by omega) (Or.inl rfl) _ _ _ _ hU hO⟩
    · rw [if_neg e0] at hU hO
      refine br_f (nI_ne0 (by omega) (by omega)) (nm_r (rf_sh2 p (by omega) hp1) ?_)
      exact ⟨2 ^ (p - 1) + 1, rf_ys35 hp (by omega) A nx (2 ^ (p - 1)) (2 ^ (p - 1)) (by omega) (Or.inr (Nat.le_refl _)) _ _ _ _ hU hO⟩
theorem rf_ysearch {post : SY → Prop} {p : Nat} {w fl sq hu ho : Int32} {r0 r1 r2 r3 top low un ov : Int64} {q : Int} (hp1 : 1 ≤ p) (hp : p ≤ 10) (A : rf_Ag2 q top low sq)
    (h : ∀ un ov hu ho, rf_IU q (rf_F p) hu un → rf_IO q (rf_F p) ho ov → post (nI p, w, fl, r0, r1, r2, r3, top, low, sq, un, ov, hu, ho)) :
    wpY_search post (nI p, w, fl, r0, r1, r2, r3, top, low, sq, un, ov, hu, ho) := by
  unfold wpY_search
  dsimp only
  refine ⟨25, rf_ys12 hp1 hp A h 24 0 rfl _ _ _ _ (Or.inl ⟨rfl, fun x hx => absurd hx (rf_V_0 x)⟩) (Or.inl ⟨rfl, fun x hx => absurd hx (rf_V_0 x)⟩)⟩

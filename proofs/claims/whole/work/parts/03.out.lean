def rf_ch (how : Nat) (q u o : Int) : Int :=
  if how = 1 then u else if how = 2 then o else if how = 3 then (if 0 ≤ u then u else o)
  else if q < 2 * (u + o) ∨ (q = 2 * (u + o) ∧ u.tdiv (o - u) % 2 = 0) then u else o
theorem rf_ch_or (how : Nat) (q u o : Int) : rf_ch how q u o = u ∨ rf_ch how q u o = o := by
  unfold rf_ch
  repeat' split
  all_goals simp
def rf_go (how neg M R G : Nat) : Prop := (how = 1 ∧ neg = 1) ∨ (how = 2 ∧ neg = 0) ∨ (how = 0 ∧ (G < 2 * R ∨ (2 * R = G ∧ M % 2 = 1)))
theorem rf_chp {how M T R : Nat} (hT : 0 < T) (hh : how < 4) {q u o : Int} (hq : q = ((4 * (M * T) + R : Nat) : Int)) (hu : u = ((M * T : Nat) : Int)) (ho : o = ((M * T + T : Nat) : Int)) :
    (rf_go how 0 M R (4 * T) → rf_ch how q u o = o) ∧ (¬ rf_go how 0 M R (4 * T) → rf_ch how q u o = u) := by
  have hd : u.tdiv (o - u) = (M : Int) := by
    have e1 : o - u = (T : Int) := by omega
    have e2 : u = (M : Int) * (T : Int) := by
      rw [hu]
      exact Int.natCast_mul M T
    rw [e1, e2]
    exact Int.mul_tdiv_cancel _ (by omega)
  have h0 : (0 : Int) ≤ u := by omega
  have hs : how = 0 ∨ how = 1 ∨ how = 2 ∨ how = 3 := by omega
  unfold rf_go rf_ch
  rcases hs with rfl | rfl | rfl | rfl
  · refine ⟨fun g => ?_, fun g => ?_⟩
    · rw [if_neg (by decide), if_neg (by decide), if_neg (by decide), if_neg (by rw [hd]; omega)]
    · rw [if_neg (by decide), if_neg (by decide), if_neg (by decide), if_pos (by rw [hd]; omega)]
  · exact ⟨fun g => absurd g (by omega), fun g => if_pos rfl⟩
  · exact ⟨fun g => by rw [if_neg (by decide), if_pos rfl], fun g => absurd g (by omega)⟩
  · exact ⟨fun g => absurd g (by omega), fun g => by rw [if_neg (by decide), if_neg (by decide), if_pos rfl, if_pos h0]⟩
theorem rf_chn {how M T R : Nat} (hT : 0 < T) (hh : how < 4) {q u o : Int} (hq : q = -((4 * (M * T) + R : Nat) : Int)) (hu : u = -((M * T + T : Nat) : Int)) (ho : o = -((M * T : Nat) : Int)) :
    (rf_go how 1 M R (4 * T) → rf_ch how q u o = u) ∧ (¬ rf_go how 1 M R (4 * T) → rf_ch how q u o = o) := by
  have hd : u.tdiv (o - u) = -((M : Int) + 1) := by
    have e1 : o - u = (T : Int) := by omega
    have e2 : u = (-((M : Int) + 1)) * (T : Int) := by
      rw [hu, Int.neg_mul, Int.add_mul, Int.one_mul, Int.natCast_add, Int.natCast_mul]
    rw [e1, e2]
    exact Int.mul_tdiv_cancel _ (by omega)
  have h0 : ¬ (0 : Int) ≤ u := by omega
  have hs : how = 0 ∨ how = 1 ∨ how = 2 ∨ how = 3 := by omega
  unfold rf_go rf_ch
  rcases hs with rfl | rfl | rfl | rfl
  · refine ⟨fun g => ?_, fun g => ?_⟩
    · rw [if_neg (by decide), if_neg (by decide), if_neg (by decide), if_pos (by rw [hd]; omega)]
    · rw [if_neg (by decide), if_neg (by decide), if_neg (by decide), if_neg (by rw [hd]; omega)]
  · exact ⟨fun g => if_pos rfl, fun g => absurd g (by omega)⟩
  · exact ⟨fun g => absurd g (by omega), fun g => by rw [if_neg (by decide), if_pos rfl]⟩
  · exact ⟨fun g => absurd g (by omega), fun g => by rw [if_neg (by decide), if_neg (by decide), if_pos rfl, if_neg h0]⟩
theorem rf_xok {p how M R T n neg : Nat} {q r : Int} (hT : 0 < T) (hR4 : R < 4 * T) (hqs : q.natAbs = 4 * (M * T) + R) (hh : how < 4)
    (P1 : rf_Un p (q.natAbs : Int) ((M * T : Nat) : Int)) (P2 : R = 0 → rf_Ov p (q.natAbs : Int) ((M * T : Nat) : Int)) (P3 : R ≠ 0 → rf_Ov p (q.natAbs : Int) ((M * T + T : Nat) : Int))
    (hneg : (q < 0 ∧ neg = 1) ∨ (0 ≤ q ∧ neg = 0))
    (hn : (R ≠ 0 ∧ rf_go how neg M R (4 * T) ∧ n = M + 1) ∨ ((R = 0 ∨ ¬ rf_go how neg M R (4 * T)) ∧ n = M))
    (hr : (q < 0 ∧ r = -((n * T : Nat) : Int)) ∨ (0 ≤ q ∧ r = ((n * T : Nat) : Int))) :
    ∃ u o, rf_Un p q u ∧ rf_Ov p q o ∧ ((u = o ∧ r = u ∧ 4 * r = q) ∨ (u ≠ o ∧ r = rf_ch how q u o ∧ 4 * r ≠ q)) := by
  have en : (M + 1) * T = M * T + T := by rw [Nat.add_mul, Nat.one_mul]
  rcases hneg with ⟨hq, rfl⟩ | ⟨hq, rfl⟩
  · have eq : -(q.natAbs : Int) = q := by omega
    have O1 : rf_Ov p q (-((M * T : Nat) : Int)) := by
      have h := rf_uo P1
      rwa [eq] at h
    by_cases c : R = 0
    · have U1 : rf_Un p q (-((M * T : Nat) : Int)) := by
        have h := rf_ou (P2 c)
        rwa [eq] at h
      have hnM : n = M := by
        rcases hn with ⟨h, _⟩ | ⟨_, h⟩
        · exact absurd c h
        · exact h
      subst hnM
      exact ⟨_, _, U1, O1, Or.inl ⟨rfl, by omega, by omega⟩⟩
    · have U1 : rf_Un p q (-((M * T + T : Nat) : Int)) := by
        have h := rf_ou (P3 c)
        rwa [eq] at h
      have C := rf_chn (how := how) (M := M) (T := T) (R := R) (q := q) hT hh (by omega) rfl rfl
      refine ⟨_, _, U1, O1, Or.inr ⟨by omega, ?_⟩⟩
      rcases hn with ⟨_, g, rfl⟩ | ⟨h, rfl⟩
      · rw [en] at hr
        rw [C.1 g]
        omega
      · rw [C.2 (h.resolve_left c)]
        omega
  · have eq : (q.natAbs : Int) = q := by omega
    rw [eq] at P1 P2 P3
    by_cases c : R = 0
    · have hnM : n = M := by
        rcases hn with ⟨h, _⟩ | ⟨_, h⟩
        · exact absurd c h
        · exact h
      subst hnM
      exact ⟨_, _, P1, P2 c, Or.inl ⟨rfl, by omega, by omega⟩⟩
    · have C := rf_chp (how := how) (M := M) (T := T) (R := R) (q := q) hT hh (by omega) rfl rfl
      refine ⟨_, _, P1, P3 c, Or.inr ⟨by omega, ?_⟩⟩
      rcases hn with ⟨_, g, rfl⟩ | ⟨h, rfl⟩
      · rw [en] at hr
        rw [C.1 g]
        omega
      · rw [C.2 (h.resolve_left c)]
        omega
def rf_Out (p how : Nat) (q r : Int) (f : Nat) : Prop :=
  (∃ u o, rf_Un p q u ∧ rf_Ov p q o ∧ ((u = o ∧ r = u ∧ f = 0) ∨ (u ≠ o ∧ r = rf_ch how q u o ∧ f = 1))) ∨
  ((∀ x, rf_F p x → 4 * x < q) ∧ rf_Un p q r ∧ f = 3) ∨ ((∀ x, rf_F p x → q < 4 * x) ∧ rf_Ov p q r ∧ f = 3)
theorem rf_Out_F {p how : Nat} {q r : Int} {f : Nat} (h : rf_Out p how q r f) : rf_F p r ∧ (f = 0 ∨ f = 1 ∨ f = 3) := by
  rcases h with ⟨u, o, hu, ho, ⟨_, rfl, hf⟩ | ⟨_, hr, hf⟩⟩ | ⟨_, hu, hf⟩ | ⟨_, ho, hf⟩
  · exact ⟨hu.1, Or.inl hf⟩
  · refine ⟨?_, Or.inr (Or.inl hf)⟩
    rcases rf_ch_or how q u o with e | e
    · rw [hr, e]
      exact hu.1
    · rw [hr, e]
      exact ho.1
  · exact ⟨hu.1, Or.inr (Or.inr hf)⟩
  · exact ⟨ho.1, Or.inr (Or.inr hf)⟩
theorem rf_Out_u {p how : Nat} {q r r' : Int} {f f' : Nat} (h : rf_Out p how q r f) (h' : rf_Out p how q r' f') : r = r' ∧ f = f' := by
  rcases h with ⟨u, o, hu, ho, d⟩ | ⟨na, hu, hf⟩ | ⟨na, ho, hf⟩
  · rcases h' with ⟨u', o', hu', ho', d'⟩ | ⟨na', hu', hf'⟩ | ⟨na', ho', hf'⟩
    · cases rf_Un_u hu hu'
      cases rf_Ov_u ho ho'
      rcases d with ⟨a, b, c⟩ | ⟨a, b, c⟩
      · rcases d' with ⟨a', b', c'⟩ | ⟨a', b', c'⟩
        · exact ⟨b.trans b'.symm, c.trans c'.symm⟩
        · exact absurd a a'
      · rcases d' with ⟨a', b', c'⟩ | ⟨a', b', c'⟩
        · exact absurd a' a
        · exact ⟨b.trans b'.symm, c.trans c'.symm⟩
    · have := na' o ho.1
      have := ho.2.1
      omega
    · have := na' u hu.1
      have := hu.2.1
      omega
  · rcases h' with ⟨u', o', hu', ho', d'⟩ | ⟨na', hu', hf'⟩ | ⟨na', ho', hf'⟩
    · have := na o' ho'.1
      have := ho'.2.1
      omega
    · exact ⟨rf_Un_u hu hu', hf.trans hf'.symm⟩
    · have := na 0 (rf_F_0 p)
      have := na' 0 (rf_F_0 p)
      omega
  · rcases h' with ⟨u', o', hu', ho', d'⟩ | ⟨na', hu', hf'⟩ | ⟨na', ho', hf'⟩
    · have := na u' hu'.1
      have := hu'.2.1
      omega
    · have := na 0 (rf_F_0 p)
      have := na' 0 (rf_F_0 p)
      omega
    · exact ⟨rf_Ov_u ho ho', hf.trans hf'.symm⟩
theorem rf_Out_x {p how : Nat} {q r : Int} (h : ∃ u o, rf_Un p q u ∧ rf_Ov p q o ∧ ((u = o ∧ r = u ∧ 4 * r = q) ∨ (u ≠ o ∧ r = rf_ch how q u o ∧ 4 * r ≠ q))) :
    (4 * r = q → rf_Out p how q r 0) ∧ (4 * r ≠ q → rf_Out p how q r 1) := by
  obtain ⟨u, o, hu, ho, ⟨a, b, c⟩ | ⟨a, b, c⟩⟩ := h
  · exact ⟨fun _ => Or.inl ⟨u, o, hu, ho, Or.inl ⟨a, b, rfl⟩⟩, fun z => absurd c z⟩
  · exact ⟨fun z => absurd z c, fun _ => Or.inl ⟨u, o, hu, ho, Or.inr ⟨a, b, rfl⟩⟩⟩
theorem rf_Out_hi {p how : Nat} {q : Int} (hp : 1 ≤ p) (h : 4 * (rf_Gr p : Int) < q) : rf_Out p how q (rf_Gr p : Int) 3 := by
  refine Or.inr (Or.inl ⟨fun x hx => ?_, ⟨rf_F_nat (rf_F_Gr hp), by omega, fun x hx _ => (rf_F_b hx).2⟩, rfl⟩)
  have := (rf_F_b hx).2
  omega
theorem rf_Out_lo {p how : Nat} {q : Int} (hp : 1 ≤ p) (h : q < -(4 * (rf_Gr p : Int))) : rf_Out p how q (-(rf_Gr p : Int)) 3 := by
  refine Or.inr (Or.inr ⟨fun x hx => ?_, ⟨rf_F_neg (rf_F_nat (rf_F_Gr hp)), by omega, fun x hx _ => (rf_F_b hx).1⟩, rfl⟩)
  have := (rf_F_b hx).1
  omega

def rf_IU (q : Int) (S : Int → Prop) (hu : Int32) (un : Int64) : Prop :=
  (hu = 0 ∧ ∀ x, S x → q < 4 * x) ∨ (hu = 1 ∧ ∃ z, un = rf_l z ∧ S z ∧ 4 * z ≤ q ∧ ∀ x, S x → 4 * x ≤ q → x ≤ z)
def rf_IO (q : Int) (S : Int → Prop) (ho : Int32) (ov : Int64) : Prop :=
  (ho = 0 ∧ ∀ x, S x → 4 * x < q) ∨ (ho = 1 ∧ ∃ z, ov = rf_l z ∧ S z ∧ q ≤ 4 * z ∧ ∀ x, S x → q ≤ 4 * x → z ≤ x)
theorem rf_ne01 : ¬ (1 : Int32) = 0 := by decide
theorem rf_IU_set {q x : Int} {S S' : Int → Prop} {hu : Int32} {un : Int64} (e : ∀ y, S' y ↔ S y ∨ y = x) (h : rf_IU q S hu un) (hx : 4 * x ≤ q)
    (hb : hu = 0 ∨ ∀ z, un = rf_l z → S z → z ≤ x) : rf_IU q S' 1 (rf_l x) := by
  refine Or.inr ⟨rfl, x, rfl, (e x).2 (Or.inr rfl), hx, fun y hy h4 => ?_⟩
  rcases (e y).1 hy with hS | hS
  · rcases h with ⟨h0, h1⟩ | ⟨h0, z, hz, hSz, h2, h3⟩
    · have := h1 y hS
      omega
    · have a := h3 y hS h4
      rcases hb with hb | hb
      · exact absurd (h0.symm.trans hb) rf_ne01
      · have := hb z hz hSz
        omega
  · omega
theorem rf_IU_keep {q x : Int} {S S' : Int → Prop} {hu : Int32} {un : Int64} (e : ∀ y, S' y ↔ S y ∨ y = x) (h : rf_IU q S hu un)
    (hb : q < 4 * x ∨ (hu ≠ 0 ∧ ∀ z, un = rf_l z → S z → x ≤ z)) : rf_IU q S' hu un := by
  rcases h with ⟨h0, h1⟩ | ⟨h0, z, hz, hSz, h2, h3⟩
  · refine Or.inl ⟨h0, fun y hy => ?_⟩
    rcases (e y).1 hy with hS | hS
    · exact h1 y hS
    · rcases hb with hb | hb
      · omega
      · exact absurd h0 hb.1
  · refine Or.inr ⟨h0, z, hz, (e z).2 (Or.inl hSz), h2, fun y hy h4 => ?_⟩
    rcases (e y).1 hy with hS | hS
    · exact h3 y hS h4
    · rcases hb with hb | hb
      · omega
      · have := hb.2 z hz hSz
        omega
theorem rf_IO_set {q x : Int} {S S' : Int → Prop} {ho : Int32} {ov : Int64} (e : ∀ y, S' y ↔ S y ∨ y = x) (h : rf_IO q S ho ov) (hx : q ≤ 4 * x)
    (hb : ho = 0 ∨ ∀ z, ov = rf_l z → S z → x ≤ z) : rf_IO q S' 1 (rf_l x) := by
  refine Or.inr ⟨rfl, x, rfl, (e x).2 (Or.inr rfl), hx, fun y hy h4 => ?_⟩
  rcases (e y).1 hy with hS | hS
  · rcases h with ⟨h0, h1⟩ | ⟨h0, z, hz, hSz, h2, h3⟩
    · have := h1 y hS
      omega
    · have a := h3 y hS h4
      rcases hb with hb | hb
      · exact absurd (h0.symm.trans hb) rf_ne01
      · have := hb z hz hSz
        omega
  · omega
theorem rf_IO_keep {q x : Int} {S S' : Int → Prop} {ho : Int32} {ov : Int64} (e : ∀ y, S' y ↔ S y ∨ y = x) (h : rf_IO q S ho ov)
    (hb : 4 * x < q ∨ (ho ≠ 0 ∧ ∀ z, ov = rf_l z → S z → z ≤ x)) : rf_IO q S' ho ov := by
  rcases h with ⟨h0, h1⟩ | ⟨h0, z, hz, hSz, h2, h3⟩
  · refine Or.inl ⟨h0, fun y hy => ?_⟩
    rcases (e y).1 hy with hS | hS
    · exact h1 y hS
    · rcases hb with hb | hb
      · omega
      · exact absurd h0 hb.1
  · refine Or.inr ⟨h0, z, hz, (e z).2 (Or.inl hSz), h2, fun y hy h4 => ?_⟩
    rcases (e y).1 hy with hS | hS
    · exact h3 y hS h4
    · rcases hb with hb | hb
      · omega
      · have := hb.2 z hz hSz
        omega
theorem rf_IU_iff {q : Int} {S S' : Int → Prop} {hu : Int32} {un : Int64} (e : ∀ y, S' y ↔ S y) (h : rf_IU q S hu un) : rf_IU q S' hu un := by
  have e' : S' = S := funext fun y => propext (e y)
  rw [e']
  exact h
theorem rf_IO_iff {q : Int} {S S' : Int → Prop} {hu : Int32} {un : Int64} (e : ∀ y, S' y ↔ S y) (h : rf_IO q S hu un) : rf_IO q S' hu un := by
  have e' : S' = S := funext fun y => propext (e y)
  rw [e']
  exact h
def rf_V (p e m : Nat) (x : Int) : Prop := ∃ m' e' : Nat, m' < 2 ^ p ∧ (e' = 0 ∨ 2 ^ (p - 1) ≤ m') ∧ (e' < e ∨ (e' = e ∧ m' < m)) ∧ x.natAbs = m' * 2 ^ e'
theorem rf_V_s {p e m : Nat} (hm : m < 2 ^ p) (hme : e = 0 ∨ 2 ^ (p - 1) ≤ m) (x : Int) : rf_V p e (m + 1) x ↔ (rf_V p e m x ∨ x = ((m * 2 ^ e : Nat) : Int)) ∨ x = -((m * 2 ^ e : Nat) : Int) := by
  constructor
  · intro h
    obtain ⟨m', e', h1, h2, h3, h4⟩ := h
    by_cases c : e' < e ∨ (e' = e ∧ m' < m)
    · exact Or.inl (Or.inl ⟨m', e', h1, h2, c, h4⟩)
    · have e1 : e' = e := by omega
      have e2 : m' = m := by omega
      subst e1 e2
      by_cases c2 : x < 0
      · exact Or.inr (by omega)
      · exact Or.inl (Or.inr (by omega))
  · intro h
    rcases h with (⟨m', e', h1, h2, h3, h4⟩ | h) | h
    · exact ⟨m', e', h1, h2, by omega, h4⟩
    · exact ⟨m, e, hm, hme, by omega, by omega⟩
    · exact ⟨m, e, hm, hme, by omega, by omega⟩
theorem rf_V_e {p e : Nat} (x : Int) : rf_V p (e + 1) (2 ^ (p - 1)) x ↔ rf_V p e (2 ^ p) x := by
  constructor
  · intro h
    obtain ⟨m', e', h1, h2, h3, h4⟩ := h
    exact ⟨m', e', h1, h2, by omega, h4⟩
  · intro h
    obtain ⟨m', e', h1, h2, h3, h4⟩ := h
    exact ⟨m', e', h1, h2, by omega, h4⟩
theorem rf_V_0 {p : Nat} (x : Int) : ¬ rf_V p 0 0 x := by
  intro h
  obtain ⟨m', e', h1, h2, h3, h4⟩ := h
  omega
theorem rf_V_24 {p : Nat} (x : Int) : rf_F p x ↔ rf_V p 24 (2 ^ (p - 1)) x := by
  constructor
  · intro h
    obtain ⟨m', e', h1, h2, h3, h4⟩ := h
    exact ⟨m', e', h1, h3, by omega, h4⟩
  · intro h
    obtain ⟨m', e', h1, h2, h3, h4⟩ := h
    exact ⟨m', e', h1, by omega, h2, h4⟩
theorem rf_V_B {p e m : Nat} {x : Int} (hp : p ≤ 10) (he : e ≤ 24) (h : rf_V p e m x) : -17179869184 ≤ x ∧ x ≤ 17179869184 := by
  obtain ⟨m', e', h1, h2, h3, h4⟩ := h
  have a : 2 ^ p ≤ 2 ^ 10 := Nat.pow_le_pow_right (by decide) hp
  have b : m' * 2 ^ e' ≤ 2 ^ 10 * 2 ^ 24 := Nat.mul_le_mul (by omega) (Nat.pow_le_pow_right (by decide) (by omega))
  omega
theorem rf_mV {p e m : Nat} (hp : p ≤ 10) (he : e ≤ 24) (hm : m < 2 ^ p) : m * 2 ^ e ≤ 17179869184 := by
  have a : 2 ^ p ≤ 2 ^ 10 := Nat.pow_le_pow_right (by decide) hp
  have b : m * 2 ^ e ≤ 2 ^ 10 * 2 ^ 24 := Nat.mul_le_mul (by omega) (Nat.pow_le_pow_right (by decide) (by omega))
  omega
theorem rf_IU_F {p : Nat} {q : Int} {hu : Int32} {un : Int64} (h : rf_IU q (rf_F p) hu un) : (hu = 0 ∧ ∀ x, rf_F p x → q < 4 * x) ∨ (hu = 1 ∧ ∃ z, un = rf_l z ∧ rf_Un p q z) := by
  rcases h with h | ⟨h0, z, hz, hSz, h2, h3⟩
  · exact Or.inl h
  · exact Or.inr ⟨h0, z, hz, hSz, h2, h3⟩
theorem rf_IO_F {p : Nat} {q : Int} {hu : Int32} {un : Int64} (h : rf_IO q (rf_F p) hu un) : (hu = 0 ∧ ∀ x, rf_F p x → 4 * x < q) ∨ (hu = 1 ∧ ∃ z, un = rf_l z ∧ rf_Ov p q z) := by
  rcases h with h | ⟨h0, z, hz, hSz, h2, h3⟩
  · exact Or.inl h
  · exact Or.inr ⟨h0, z, hz, hSz, h2, h3⟩

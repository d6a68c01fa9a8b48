/-! the fraction: both divisors alike -/
theorem i64_rem (a b : Int64) (hb : b ≠ 0) : (a - a / b * b).toInt = a.toInt.tmod b.toInt := by
  have hb' : b.toInt ≠ 0 := fun h => hb (by rw [← Int64.toInt_inj, h]; rfl)
  have h1 : (a - a / b * b).toInt = (a.toInt - a.toInt.tdiv b.toInt * b.toInt).bmod (2 ^ 64) := by
    simp [Int64.toInt_sub, Int64.toInt_mul, Int64.toInt_div]
  have h2 : a.toInt - a.toInt.tdiv b.toInt * b.toInt = a.toInt.tmod b.toInt := by
    have := Int.mul_tdiv_add_tmod a.toInt b.toInt
    rw [Int.mul_comm] at this
    omega
  have h3 := Int64.toInt_lt b
  have h4 := Int64.le_toInt b
  have h5 : (a.toInt.tmod b.toInt).natAbs < b.toInt.natAbs := by
    rw [Int.natAbs_tmod]
    exact Nat.mod_lt _ (by omega)
  rw [h1, h2]
  exact Int.bmod_eq_of_le (by omega) (by omega)
theorem nat_half {a b : Nat} (hb : 0 < b) (h : b ≤ a) : 2 * (a % b) < a := by
  have h1 := Nat.mod_lt a hb
  have h2 := Nat.div_add_mod a b
  have h3 : 1 ≤ a / b := (Nat.one_le_div_iff hb).mpr h
  have h4 : b ≤ b * (a / b) := Nat.le_mul_of_pos_right b h3
  omega
theorem dzl_ok {α : Type} {b : Int64} {r : Option α} (h : b ≠ 0) : tn_dzl b r = r := by
  unfold tn_dzl
  rw [if_neg h]
def tn_dv2 (K : Nat) (a b g : Int64) : Prop := ∀ n m x8 (σ τ : tn_M), K < n → K < m → x8 + K ≤ 200 → F_X4_divisor_9 n a b (nI x8) σ = some (g, σ) ∧ F_X5_divisor_17 m a b τ = some (g, τ)
theorem dv2_0 (a : Int64) (K : Nat) : tn_dv2 K a 0 a := by
  intro n m x8 σ τ h1 h2 h3
  obtain ⟨n, rfl⟩ : ∃ k, n = k + 1 := ⟨n - 1, by omega⟩
  obtain ⟨m, rfl⟩ : ∃ k, m = k + 1 := ⟨m - 1, by omega⟩
  constructor
  · rw [F_X4_divisor_9]
    split
    · rfl
    · rw [if_pos rfl]
  · rw [F_X5_divisor_17, if_pos rfl]
theorem dv2_s {K : Nat} {a b g : Int64} (hb : b ≠ 0) (h : tn_dv2 K b (a - a / b * b) g) : tn_dv2 (K + 1) a b g := by
  intro n m x8 σ τ h1 h2 h3
  obtain ⟨n, rfl⟩ : ∃ k, n = k + 1 := ⟨n - 1, by omega⟩
  obtain ⟨m, rfl⟩ : ∃ k, m = k + 1 := ⟨m - 1, by omega⟩
  obtain ⟨e1, e2⟩ := h n m (x8 + 1) σ τ (by omega) (by omega) (by omega)
  constructor
  · rw [F_X4_divisor_9, tn_L 200, if_neg (nI_ge (by omega) (by omega)), if_neg hb, dzl_ok hb, nI_1]
    exact e1
  · rw [F_X5_divisor_17, if_neg hb, dzl_ok hb]
    exact e2
theorem dv2_all : ∀ j (a b : Int64), b.toInt.natAbs < 2 ^ j → (a ≠ 0 ∨ b ≠ 0) → ∃ g, g ≠ 0 ∧ tn_dv2 (2 * j + 1) a b g := by
  intro j
  induction j with
  | zero =>
    intro a b h h0
    have hb : b = 0 := by
      rw [← Int64.toInt_inj]
      have : (0 : Int64).toInt = 0 := rfl
      omega
    subst hb
    refine ⟨a, ?_, dv2_0 a _⟩
    rcases h0 with h0 | h0
    · exact h0
    · exact absurd rfl h0
  | succ j ih =>
    intro a b h h0
    by_cases hb : b = 0
    · subst hb
      refine ⟨a, ?_, dv2_0 a _⟩
      rcases h0 with h0 | h0
      · exact h0
      · exact absurd rfl h0
    · by_cases hr : a - a / b * b = 0
      · refine ⟨b, hb, dv2_s hb ?_⟩
        rw [hr]
        exact dv2_0 b _
      · have hb' : b.toInt ≠ 0 := fun q => hb (by rw [← Int64.toInt_inj, q]; rfl)
        have hr' : (a - a / b * b).toInt ≠ 0 := fun q => hr (by rw [← Int64.toInt_inj, q]; rfl)
        have e1 := i64_rem a b hb
        have e2 := i64_rem b (a - a / b * b) hr
        have l1 : (a - a / b * b).toInt.natAbs < b.toInt.natAbs := by
          rw [e1, Int.natAbs_tmod]
          exact Nat.mod_lt _ (by omega)
        have l2 : (b - b / (a - a / b * b) * (a - a / b * b)).toInt.natAbs < 2 ^ j := by
          rw [e2, Int.natAbs_tmod]
          have := nat_half (a := b.toInt.natAbs) (b := (a - a / b * b).toInt.natAbs) (by omega) (by omega)
          rw [Nat.pow_succ] at h
          omega
        obtain ⟨g, hg, hd⟩ := ih _ _ l2 (Or.inl hr)
        exact ⟨g, hg, dv2_s hb (dv2_s hr hd)⟩
theorem abs_same (x : Int64) : (if 0 < x then x else -x) = (if 0 ≤ x then x else -x) := by
  by_cases c : 0 < x
  · rw [if_pos c, if_pos (Int64.le_of_lt c)]
  · by_cases d : 0 ≤ x
    · have : x = 0 := by
        rw [← Int64.toInt_inj]
        rw [tn_lt64] at c
        rw [tn_le64] at d
        omega
      subst this
      rfl
    · rw [if_neg c, if_neg d]
theorem big_lt : (11808276480 : Int64).toInt.natAbs < 2 ^ 34 := by
  have : (11808276480 : Int64).toInt = 11808276480 := by decide
  rw [this]
  decide
theorem big_ne : (11808276480 : Int64) ≠ 0 := by decide
theorem fuel_k : 2 * 34 + 1 < tn_fuel := by unfold tn_fuel; omega
theorem nI_zero : nI 0 = 0 := rfl
theorem s_frc0 (x b : Int64) (h1 : b.toInt.natAbs < 2 ^ 34) (h2 : b ≠ 0) (fu : Nat) (hfu : 2 * 34 + 1 < fu) : ∃ g, g ≠ 0 ∧ ∀ σ : tn_M, F_X4_divisor_9 fu (if 0 < x then x else -x) b 0 σ = some (g, σ) ∧ F_X5_divisor_17 fu (if 0 ≤ x then x else -x) b σ = some (g, σ) := by
  obtain ⟨g, hg, hd⟩ := dv2_all 34 (if 0 < x then x else -x) b h1 (Or.inr h2)
  refine ⟨g, hg, fun σ => ?_⟩
  have h := hd fu fu 0 σ σ hfu hfu (by omega)
  rw [nI_zero] at h
  refine ⟨h.1, ?_⟩
  rw [← abs_same]
  exact h.2
theorem frA {x g : Int64} {side : Int32} {σ : tn_M} (hg : g ≠ 0) (h : f_X4_divisor (if 0 < x then x else -x) 11808276480 σ = some (g, σ)) : f_X4_fraction x side σ = some (if side = 0 then x / g else 11808276480 / g, σ) := by
  unfold f_X4_fraction
  rw [h, tn_bds, if_neg hg]
  by_cases c : side = 0
  · rw [if_pos c, if_pos c, dzl_ok hg]
  · rw [if_neg c, if_neg c, dzl_ok hg]
theorem frB {x g b : Int64} {side : Int32} {σ : tn_M} (hg : g ≠ 0) (h : f_X5_divisor x b σ = some (g, σ)) : f_X5_part x b side σ = some (if side = 0 then x / g else b / g, σ) := by
  unfold f_X5_part
  rw [h]
  unfold tn_lt
  dsimp only
  rw [tn_bds, dzl_ok hg]
  by_cases c : side = 0
  · rw [if_pos c, if_pos c]
  · rw [if_neg c, if_neg c]
theorem frA0 (a b : Int64) (σ : tn_M) : f_X4_divisor a b σ = F_X4_divisor_9 tn_fuel a b 0 σ := by
  unfold f_X4_divisor
  rfl
theorem frB0 (a b : Int64) (σ : tn_M) : f_X5_divisor a b σ = F_X5_divisor_17 tn_fuel (if 0 ≤ a then a else -a) b σ := by
  unfold f_X5_divisor tn_lt
  rfl
theorem s_frc1 (x : Int64) (side : Int32) : ∃ r, ∀ σ : tn_M, f_X4_fraction x side σ = some (r, σ) ∧ f_X5_part x 11808276480 side σ = some (r, σ) := by
  obtain ⟨g, hg, hd⟩ := s_frc0 x 11808276480 big_lt big_ne tn_fuel fuel_k
  refine ⟨if side = 0 then x / g else 11808276480 / g, fun σ => ⟨frA hg ?_, frB hg ?_⟩⟩
  · rw [frA0]
    exact (hd σ).1
  · rw [frB0]
    exact (hd σ).2
noncomputable def tn_frc (x : Int64) (side : Int32) : Int64 := Classical.choose (s_frc1 x side)
theorem s_frc (x : Int64) (side : Int32) (σ : tn_M) : f_X4_fraction x side σ = some (tn_frc x side, σ) ∧ f_X5_part x 11808276480 side σ = some (tn_frc x side, σ) := Classical.choose_spec (s_frc1 x side) σ

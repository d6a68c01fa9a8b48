/-! the calls: weeks, back -/
def tn_wks (e : tEc) : Nat → (Nat → Nat) × (Nat → Nat) → (Nat → Nat) × (Nat → Nat)
  | 0, p => p
  | d + 1, p => tn_wks e d (tn_wh e p.1 p.2, tn_wu e p.1 p.2)
section CY
variable {A : tA} {σ : tn_M}
def tn_hh (p : (Nat → Nat) × (Nat → Nat)) (j : Nat) : Nat := if 5 ≤ j then p.1 (j - 4) else p.2 j
theorem k_after (hA : tW A) {w : Nat} (hw : w ≤ 50) (h : CI A σ) : tq (f_X4_sceneAfter (nI w) σ) (fun _ σ' => kC A (tn_eA A) (tn_wks (tn_eA A) w (tn_hA A, aH A)).1 (tn_wks (tn_eA A) w (tn_hA A, aH A)).2 (tn_lm (tn_eA A) 3) (-1) σ') := by
  have hV := tVe_A hA
  have lp : ∀ d n k (p : (Nat → Nat) × (Nat → Nat)) (τ : tn_M), k + d = w → d < n → kC A (tn_eA A) p.1 p.2 (tn_lm (tn_eA A) 3) (-1) τ → tq (F_X4_sceneAfter_7 n (nI w) (nI k) τ) (fun _ σ' => kC A (tn_eA A) (tn_wks (tn_eA A) d p).1 (tn_wks (tn_eA A) d p).2 (tn_lm (tn_eA A) 3) (-1) σ') := by
    intro d
    induction d with
    | zero =>
      intro n k p τ h1 h2 q
      obtain ⟨m, rfl⟩ : ∃ m, n = m + 1 := ⟨n - 1, by omega⟩
      rw [F_X4_sceneAfter_7, if_pos (nI_le (by omega) (by omega))]
      exact tq_some q
    | succ d ih =>
      intro n k p τ h1 h2 q
      obtain ⟨m, rfl⟩ : ∃ m, n = m + 1 := ⟨n - 1, by omega⟩
      rw [F_X4_sceneAfter_7, if_neg (nI_ge (by omega) (by omega)), nI_1]
      unfold tn_wks
      exact tq_bd (k_passWeek hV q) (fun _ τ1 q1 => ih m (k + 1) (_, _) τ1 (by omega) (by omega) q1)
  unfold f_X4_sceneAfter
  exact tq_bd (k_scene hA h) (fun _ σ1 q => lp w tn_fuel 0 (_, _) σ1 (by omega) (by unfold tn_fuel; omega) q)
theorem s_hourOrHabit {e : tEc} {p : (Nat → Nat) × (Nat → Nat)} {lim : Nat → Nat} {held : Int32} (h : cSc e p.1 p.2 lim held σ) {j : Nat} (hj : j < 8) : f_X0_hourOrHabit (nI j) σ = some (nI (tn_hh p j), σ) := by
  unfold f_X0_hourOrHabit tn_hh
  by_cases c : 5 ≤ j
  · rw [if_pos (show (5 : Int32) ≤ nI j from nI_le (a := 5) c (by omega)), if_pos c, tn_L 5, pk_sub c, nI_1, tn_ckn (by omega) (by decide), tn_xn (by omega), show j - 5 + 1 = j - 4 by omega, h.ha (by omega) (by omega)]
  · rw [if_neg (show ¬ (5 : Int32) ≤ nI j from nI_ge (b := 5) (by omega) (by omega)), if_neg c, tn_ckn (by omega) (by decide), tn_xn (by omega), h.un (by omega)]
theorem m_weeksOf (hA : tW A) {w j : Nat} (hw : w ≤ 50) (hj : j < 8) (h : M0 A σ) : tq (f_X5_weeksOf (nI w) (nI j) σ) (fun r σ' => r = nI (tn_hh (tn_wks (tn_eA A) w (tn_hA A, aH A)) j) ∧ M0 A σ') := by
  have hV := tVe_A hA
  have lp : ∀ d n k (p : (Nat → Nat) × (Nat → Nat)) (τ : tn_M), k + d = w → d < n → kM A (tn_eA A) p.1 p.2 3 (-1) τ → tq (F_X5_weeksOf_6 n (nI w) (nI j) (nI k) τ) (fun r σ' => r = nI (tn_hh (tn_wks (tn_eA A) d p) j) ∧ M0 A σ') := by
    intro d
    induction d with
    | zero =>
      intro n k p τ h1 h2 q
      obtain ⟨m, rfl⟩ : ∃ m, n = m + 1 := ⟨n - 1, by omega⟩
      rw [F_X5_weeksOf_6, if_pos (nI_le (by omega) (by omega))]
      unfold F_X5_weeksOf_21 tn_wks tn_hh
      by_cases c : 5 ≤ j
      · rw [if_pos (show (5 : Int32) ≤ nI j from nI_le (a := 5) c (by omega)), if_pos c, tn_L 4, pk_sub (by omega), tn_ckn (by omega) (by decide), tn_xn (by omega), q.1.ha (by omega) (by omega)]
        exact tq_some ⟨rfl, q.2⟩
      · rw [if_neg (show ¬ (5 : Int32) ≤ nI j from nI_ge (b := 5) (by omega) (by omega)), if_neg c, tn_ckn (by omega) (by decide), tn_xn (by omega), q.1.un (by omega)]
        exact tq_some ⟨rfl, q.2⟩
    | succ d ih =>
      intro n k p τ h1 h2 q
      obtain ⟨m, rfl⟩ : ∃ m, n = m + 1 := ⟨n - 1, by omega⟩
      rw [F_X5_weeksOf_6, if_neg (nI_ge (by omega) (by omega)), nI_1]
      unfold tn_wks
      exact tq_bd (m_weekGoes hV q) (fun _ τ1 q1 => ih m (k + 1) (_, _) τ1 (by omega) (by omega) q1)
  unfold f_X5_weeksOf
  exact tq_bd (m_tries hA h) (fun _ σ1 q => lp w tn_fuel 0 (_, _) σ1 (by omega) (by unfold tn_fuel; omega) q)
theorem c_weeks (hA : tW A) (x y : Int32) : tn_P A A (f_X4_weeks x y) (f_X5_weeks x y) := by
  have t0 : (0 : Int32).toInt = 0 := rfl
  have t50 : (50 : Int32).toInt = 50 := rfl
  have t8 : (8 : Int32).toInt = 8 := rfl
  by_cases c : 0 ≤ x.toInt ∧ x.toInt ≤ 50
  · have n1 : ¬ x < 0 := by rw [tn_lt32]; omega
    have n2 : ¬ 50 < x := by rw [tn_lt32]; omega
    by_cases d : 0 ≤ y.toInt ∧ y.toInt ≤ 7
    · have n3 : ¬ y < 0 := by rw [tn_lt32]; omega
      have n4 : y < 8 := by rw [tn_lt32]; omega
      obtain ⟨w, hw, rfl⟩ := tn_nat (n := 51) c.1 (by omega)
      obtain ⟨j, hj, rfl⟩ := tn_nat (n := 8) d.1 (by omega)
      refine ⟨nI (tn_hh (tn_wks (tn_eA A) w (tn_hA A, aH A)) j), fun σ h => ?_, fun σ h => ?_⟩
      · unfold f_X4_weeks
        rw [if_neg n1, if_neg n2, if_neg n3, if_pos n4]
        refine tq_bd (k_after hA (w := w) (by omega) h) (fun _ σ1 q => ?_)
        rw [s_hourOrHabit q.1 hj, tn_bds]
        exact tq_some ⟨rfl, q.2⟩
      · unfold f_X5_weeks
        rw [tn_inI _ _ _ σ (a := 0) (b := 50) rfl rfl, tn_bds, if_neg (by rw [if_pos c]; decide), tn_inI _ _ _ σ (a := 0) (b := 7) rfl rfl, tn_bds, if_neg (by rw [if_pos d]; decide)]
        exact tq_bd (m_weeksOf hA (by omega) hj h) (fun r σ1 q => tq_some q)
    · refine ⟨-2, fun σ h => ?_, fun σ h => ?_⟩
      · unfold f_X4_weeks
        rw [if_neg n1, if_neg n2]
        by_cases f : y < 0
        · rw [if_pos f]; exact tq_some ⟨rfl, h⟩
        · rw [if_neg f, if_neg (by rw [tn_lt32] at *; omega)]; exact tq_some ⟨rfl, h⟩
      · unfold f_X5_weeks
        rw [tn_inI _ _ _ σ (a := 0) (b := 50) rfl rfl, tn_bds, if_neg (by rw [if_pos c]; decide), tn_inI _ _ _ σ (a := 0) (b := 7) rfl rfl, tn_bds, if_pos (by rw [if_neg d])]
        exact tq_some ⟨rfl, h⟩
  · refine ⟨-2, fun σ h => ?_, fun σ h => ?_⟩
    · unfold f_X4_weeks
      by_cases f : x < 0
      · rw [if_pos f]; exact tq_some ⟨rfl, h⟩
      · rw [if_neg f, if_pos (by rw [tn_lt32] at *; omega)]; exact tq_some ⟨rfl, h⟩
    · unfold f_X5_weeks
      rw [tn_inI _ _ _ σ (a := 0) (b := 50) rfl rfl, tn_bds, if_pos (by rw [if_neg c])]
      exact tq_some ⟨rfl, h⟩
end CY

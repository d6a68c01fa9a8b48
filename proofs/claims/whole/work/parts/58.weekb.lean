section CE
variable {A : tA}
theorem m_wk (hA : tW A) {k w : Nat} (hk : k < sn (tn_SA A)) : ∀ d n t z (τ : tn_M), t + d = 6 → d < n → M0 A τ → tq (F_X5_week_26 n (nI k) (nI w) z (nI t) τ) (fun r σ' => r = tn_frc (tn_wk A k d t z) (nI w) ∧ M0 A σ') := by
  have hV := tVe_A hA
  have hn := (tV_A A).1
  intro d
  induction d with
  | zero =>
    intro n t z τ h1 h2 q
    obtain ⟨m, rfl⟩ : ∃ m, n = m + 1 := ⟨n - 1, by omega⟩
    have : t = 6 := by omega
    subst this
    unfold tn_wk
    rw [F_X5_week_26, if_pos (by decide)]
    unfold F_X5_week_58
    rw [(s_frc _ _ _).2, tn_bds]
    exact tq_some ⟨rfl, q⟩
  | succ d ih =>
    intro n t z τ h1 h2 q
    obtain ⟨m, rfl⟩ : ∃ m, n = m + 1 := ⟨n - 1, by omega⟩
    unfold tn_wk
    rw [F_X5_week_26, tn_L 6, if_neg (nI_ge (by omega) (by omega))]
    refine tq_bd (m_layTurn hA (t := t) (by omega) q) (fun _ τ1 q1 => tq_bd (m_earnAll hV q1) (fun _ τ2 ⟨q2, _, q4⟩ => ?_))
    rw [tn_ckn (by omega) (by decide), tn_xn (by omega), q2 k hk, nI_1]
    exact tq_lt (ih m (t + 1) _ τ2 (by omega) (by omega) q4.2)
end CE

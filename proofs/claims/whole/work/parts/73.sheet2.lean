section DK
variable {A : tA} {σ : tn_M}
theorem m_renew (hA : tW A) (h : M0 A σ) {s f z : Nat} (hs : s < 4) (hz : z ≤ 60) : tq (F_X5_sheet_55 tn_fuel (nI s) (nI z) 0 (tn_si (tn_si σ 33 s (nI f)) 34 s (nI z))) (fun r σ' => r = nI z ∧ M0 (tn_As A s f z) σ') := by
  have hZ := hA.2.2.2.2.2
  obtain ⟨g1, g2, g3, g4, g5, g6, g7, g8, g9⟩ := h
  have lp : ∀ d n j (τ : tn_M), j + d = z → d < n → (∀ b, b < j → τ.1 35 (60 * s + b) = 0) → (∀ a b, ¬ (a = 35 ∧ 60 * s ≤ b ∧ b < 60 * s + 60) → τ.1 a b = (tn_si (tn_si σ 33 s (nI f)) 34 s (nI z)).1 a b) → tq (F_X5_sheet_55 n (nI s) (nI z) (nI j) τ) (fun r σ' => r = nI z ∧ M0 (tn_As A s f z) σ') := by
    intro d
    induction d with
    | zero =>
      intro n j τ h1 h2 h3 h4
      obtain ⟨m, rfl⟩ : ∃ m, n = m + 1 := ⟨n - 1, by omega⟩
      rw [F_X5_sheet_55, if_pos (nI_le (by omega) (by omega))]
      have ee : ∀ a b, a ≠ 33 → a ≠ 34 → a ≠ 35 → τ.1 a b = σ.1 a b := fun a b q1 q2 q3 => by rw [h4 a b (by omega), tn_si_1, if_neg (by omega), tn_si_1, if_neg (by omega)]
      refine tq_some ⟨rfl, by rw [ee _ _ (by omega) (by omega) (by omega)]; exact g1, fun j hj => by rw [ee _ _ (by omega) (by omega) (by omega)]; exact g2 j hj, fun j hj => by rw [ee _ _ (by omega) (by omega) (by omega)]; exact g3 j hj, fun j hj => by rw [ee _ _ (by omega) (by omega) (by omega)]; exact g4 j hj, fun j hj => by rw [ee _ _ (by omega) (by omega) (by omega)]; exact g5 j hj, fun j hj => ?_, fun j hj => ?_, fun a ha b hb => ?_, by rw [ee _ _ (by omega) (by omega) (by omega)]; exact g9⟩
      · show _ = va_up (aF A) s (nI f) j
        unfold va_up
        rw [h4 33 j (by omega), tn_si_1, if_neg (by omega), tn_si_1]
        by_cases c : j = s
        · rw [if_pos ⟨rfl, c⟩, if_pos c]
        · rw [if_neg (fun w => c w.2), if_neg c]; exact g6 j hj
      · show _ = nI (va_up (aZ A) s z j)
        unfold va_up
        rw [h4 34 j (by omega), tn_si_1]
        by_cases c : j = s
        · rw [if_pos ⟨rfl, c⟩, if_pos c]
        · rw [if_neg (fun w => c w.2), if_neg c, tn_si_1, if_neg (by omega)]; exact g7 j hj
      · show _ = if a = s then 0 else aI A a b
        have hb : b < va_up (aZ A) s z a := hb
        unfold va_up at hb
        by_cases c : a = s
        · subst c
          rw [if_pos rfl] at hb
          rw [if_pos rfl]
          exact h3 b (by omega)
        · rw [if_neg c] at hb
          have := hZ a ha
          rw [if_neg c, h4 35 _ (by omega), tn_si_1, if_neg (by omega), tn_si_1, if_neg (by omega)]
          exact g8 a ha b hb
    | succ d ih =>
      intro n j τ h1 h2 h3 h4
      obtain ⟨m, rfl⟩ : ∃ m, n = m + 1 := ⟨n - 1, by omega⟩
      rw [F_X5_sheet_55, if_neg (nI_ge (by omega) (by omega)), tn_L 60, pk_mul, nI_add, tn_ckn (by omega) (by decide), tn_xn (by omega), nI_1]
      refine tq_lt (ih m (j + 1) _ (by omega) (by omega) (fun b hb => ?_) (fun a b hab => ?_))
      · rw [tn_si_1]
        split
        · rfl
        · exact h3 b (by omega)
      · rw [tn_si_1, if_neg (by omega)]; exact h4 a b hab
  exact lp z tn_fuel 0 _ (by omega) (by unfold tn_fuel; omega) (fun b hb => absurd hb (Nat.not_lt_zero b)) (fun a b _ => rfl)
end DK

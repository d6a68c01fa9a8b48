section DL
variable {A : tA} {σ : tn_M}
theorem c_sheet (hA : tW A) (x f z : Int32) : ∃ A', tW A' ∧ tn_P A A' (f_X4_sheet x f z) (f_X5_sheet x f z) := by
  have t0 : (0 : Int32).toInt = 0 := rfl
  have t60 : (60 : Int32).toInt = 60 := rfl
  rcases sheet_cases x with c | ⟨s, hs, rfl, c⟩
  · refine ⟨A, hA, -2, fun σ h => ?_, fun σ h => ?_⟩
    · unfold f_X4_sheet
      rw [s_noSheet, tn_bds, if_neg c, if_neg (by decide)]
      exact tq_some ⟨rfl, h⟩
    · unfold f_X5_sheet
      rw [s_isSheet, tn_bds, if_neg c, if_pos rfl]
      exact tq_some ⟨rfl, h⟩
  · by_cases hf : 0 ≤ f.toInt ∧ f.toInt ≤ 2
    · by_cases d : z ≤ 60
      · by_cases e : 0 ≤ z
        · obtain ⟨g, hg, rfl⟩ := tn_nat (n := 3) hf.1 (by omega)
          obtain ⟨w, hw, rfl⟩ := tn_nat (x := z) (n := 61) (by rw [tn_le32] at e; omega) (by rw [tn_le32] at d; omega)
          refine ⟨tn_As A s g w, tW_s hA (by omega) (by omega), nI w, fun σ h => ?_, fun σ h => ?_⟩
          · unfold f_X4_sheet
            rw [s_noSheet, tn_bds, if_pos c, if_pos rfl, s_noForm, tn_bds, if_pos hf, if_pos rfl, if_pos d, if_pos e]
            exact tq_bd (k_renew h hs (by omega)) (fun _ σ1 q => tq_some ⟨rfl, q⟩)
          · unfold f_X5_sheet
            rw [s_isSheet, tn_bds, if_pos c, if_neg (by decide), tn_inI _ _ _ σ (a := 0) (b := 2) rfl rfl, tn_bds, if_neg (by rw [if_pos hf]; decide), if_pos d, if_pos e, tn_ckn hs (by decide), tn_xn (show s < 2 ^ 31 by omega)]
            refine tq_lt ?_
            rw [tn_ckn hs (by decide)]
            exact tq_lt (m_renew hA h hs (by omega))
        · refine ⟨tn_An A 5, tW_n hA 5, -15, fun σ h => ?_, fun σ h => ?_⟩
          · unfold f_X4_sheet
            rw [s_noSheet, tn_bds, if_pos c, if_pos rfl, s_noForm, tn_bds, if_pos hf, if_pos rfl, if_pos d, if_neg e]
            exact tq_bd (k_find h 5) (fun _ σ1 q => tq_some q)
          · unfold f_X5_sheet
            rw [s_isSheet, tn_bds, if_pos c, if_neg (by decide), tn_inI _ _ _ σ (a := 0) (b := 2) rfl rfl, tn_bds, if_neg (by rw [if_pos hf]; decide), if_pos d, if_neg e]
            exact tq_bd (m_met h 5) (fun _ σ1 q => tq_some q)
      · refine ⟨A, hA, -2, fun σ h => ?_, fun σ h => ?_⟩
        · unfold f_X4_sheet
          rw [s_noSheet, tn_bds, if_pos c, if_pos rfl, s_noForm, tn_bds, if_pos hf, if_pos rfl, if_neg d]
          exact tq_some ⟨rfl, h⟩
        · unfold f_X5_sheet
          rw [s_isSheet, tn_bds, if_pos c, if_neg (by decide), tn_inI _ _ _ σ (a := 0) (b := 2) rfl rfl, tn_bds, if_neg (by rw [if_pos hf]; decide), if_neg d]
          exact tq_some ⟨rfl, h⟩
    · refine ⟨A, hA, -2, fun σ h => ?_, fun σ h => ?_⟩
      · unfold f_X4_sheet
        rw [s_noSheet, tn_bds, if_pos c, if_pos rfl, s_noForm, tn_bds, if_neg hf, if_neg (by decide)]
        exact tq_some ⟨rfl, h⟩
      · unfold f_X5_sheet
        rw [s_isSheet, tn_bds, if_pos c, if_neg (by decide), tn_inI _ _ _ σ (a := 0) (b := 2) rfl rfl, tn_bds, if_pos (by rw [if_neg hf])]
        exact tq_some ⟨rfl, h⟩
end DL

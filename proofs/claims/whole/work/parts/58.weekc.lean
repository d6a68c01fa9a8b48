section CE
variable {A : tA}
theorem c_week (hA : tW A) (x y : Int32) : tn_P A A (f_X4_week x y) (f_X5_week x y) := by
  have hV := tVe_A hA
  have hn := (tV_A A).1
  rcases shop_cases A x with c | ⟨k, hk, rfl, c⟩
  · refine ⟨-9223372036854775808 - Int32.toInt64 (-2), fun σ h => ?_, fun σ h => ?_⟩
    · unfold f_X4_week
      rw [s_noShop h.2.2.1, tn_bds, if_neg c, if_neg (by decide)]
      exact tq_some ⟨rfl, h⟩
    · unfold f_X5_week
      refine tq_bd (s_isShop hA h x) (fun r σ1 ⟨q1, _, q3⟩ => ?_)
      rw [q1, if_neg c, if_pos rfl]
      exact tq_some ⟨rfl, q3⟩
  · rcases side_cases y with d | ⟨w, hw, rfl, d⟩
    · refine ⟨-9223372036854775808 - Int32.toInt64 (-2), fun σ h => ?_, fun σ h => ?_⟩
      · unfold f_X4_week
        rw [s_noShop h.2.2.1, tn_bds, if_pos c, if_pos rfl, s_noSide, tn_bds, if_neg d, if_neg (by decide)]
        exact tq_some ⟨rfl, h⟩
      · unfold f_X5_week
        refine tq_bd (s_isShop hA h _) (fun r σ1 ⟨q1, _, q3⟩ => ?_)
        rw [q1, if_pos c, if_neg (by decide), s_isTwo, tn_bds, if_neg d, if_pos rfl]
        exact tq_some ⟨rfl, q3⟩
    · refine ⟨tn_frc (tn_wk A k 6 0 0) (nI w), fun σ h => ?_, fun σ h => ?_⟩
      · unfold f_X4_week
        rw [s_noShop h.2.2.1, tn_bds, if_pos c, if_pos rfl, s_noSide, tn_bds, if_pos d, if_pos rfl]
        exact tq_bd (k_scene hA h) (fun _ σ1 q => k_wk hA hk 6 tn_fuel 0 0 _ σ1 (by omega) (by unfold tn_fuel; omega) (fun _ => rfl) q)
      · unfold f_X5_week
        refine tq_bd (s_isShop hA h _) (fun r σ1 ⟨q1, _, q3⟩ => ?_)
        rw [q1, if_pos c, if_neg (by decide), s_isTwo, tn_bds, if_pos d, if_neg (by decide)]
        exact m_wk hA hk 6 tn_fuel 0 0 σ1 (by omega) (by unfold tn_fuel; omega) q3
end CE

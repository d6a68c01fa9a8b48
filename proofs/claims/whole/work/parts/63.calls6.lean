/-! the calls: fault, shop, sort, set, hours, turn, type, wipe -/
section DA
variable {A : tA} {σ : tn_M}
theorem c_fault (hA : tW A) : tn_P A A f_X4_fault f_X5_fault := ⟨(tn_prs (aT A) (aL A)).1, fun σ h => tq_some ⟨h.2.1, h⟩, fun σ h => by
  unfold f_X5_fault
  exact tq_bd (s_rd hA h) (fun r σ1 q => tq_some ⟨q.1, q.2.2⟩)⟩
theorem c_hours (hA : tW A) (x y : Int32) : ∃ A', tW A' ∧ tn_P A A' (f_X4_hours x y) (f_X5_hours x y) := by
  have t0 : (0 : Int32).toInt = 0 := rfl
  have t5 : (5 : Int32).toInt = 5 := rfl
  have t3 : (3 : Int32).toInt = 3 := rfl
  by_cases c : (0 ≤ x.toInt ∧ x.toInt ≤ 4) ∧ (0 ≤ y.toInt ∧ y.toInt ≤ 3)
  · obtain ⟨k, hk, rfl⟩ := tn_nat (n := 5) c.1.1 (by omega)
    obtain ⟨v, hv, rfl⟩ := tn_nat (n := 4) c.2.1 (by omega)
    have n1 : ¬ nI k < 0 := by rw [tn_lt32]; omega
    have n2 : ¬ 5 ≤ nI k := by rw [tn_le32]; omega
    have n3 : ¬ nI v < 0 := by rw [tn_lt32]; omega
    have n4 : nI v ≤ 3 := by rw [tn_le32]; omega
    have hup : ∀ j, nI (va_up (aH A) k v j) = if j = k then nI v else nI (aH A j) := fun j => by unfold va_up; split <;> rfl
    refine ⟨(aL A, aT A, aG A, va_up (aH A) k v, aU A, aF A, aZ A, aI A, aN A), ⟨hA.1, hA.2.1, fun j hj => ?_, hA.2.2.2⟩, nI (aH A k), fun σ h => ?_, fun σ h => ?_⟩
    · show va_up (aH A) k v j ≤ 3
      unfold va_up
      split
      · omega
      · exact hA.2.2.1 j hj
    · unfold f_X4_hours
      rw [if_neg n1, if_neg n2, if_neg n3, if_pos n4, tn_ckn (by omega) (by decide), tn_xn (by omega), h.1.2.2.2.1 k (by omega)]
      refine tq_lt ?_
      rw [tn_ckn (by omega) (by decide)]
      have ee : ∀ a b, a ≠ 7 → (tn_si σ 7 k (nI v)).1 a b = σ.1 a b := fun a b hab => by rw [tn_si_1, if_neg (by omega)]
      obtain ⟨⟨g1, g2, g3, g4, g5⟩, p2, p3, p4⟩ := h
      refine tq_lt (tq_some ⟨rfl, ⟨by rw [ee _ _ (by omega)]; exact g1, fun j hj => by rw [ee _ _ (by omega)]; exact g2 j hj, fun j hj => by rw [ee _ _ (by omega)]; exact g3 j hj, fun j hj => ?_, fun j hj => by rw [ee _ _ (by omega)]; exact g5.1 j hj, fun j hj => by rw [ee _ _ (by omega)]; exact g5.2.1 j hj, fun j hj => by rw [ee _ _ (by omega)]; exact g5.2.2.1 j hj, fun s hs i hi => by rw [ee _ _ (by omega)]; exact g5.2.2.2.1 s hs i hi, by rw [ee _ _ (by omega)]; exact g5.2.2.2.2⟩, by rw [ee _ _ (by omega)]; exact p2, cSt_same p3 (fun a b hab => ee a b (by omega)) (tV_A A).2.1, by rw [ee _ _ (by omega)]; exact p4⟩)
      rw [tn_si_1]
      show _ = nI (va_up (aH A) k v j)
      rw [hup j]
      by_cases d : j = k
      · rw [if_pos ⟨rfl, d⟩, if_pos d]
      · rw [if_neg (fun w => d w.2), if_neg d]; exact g4 j hj
    · unfold f_X5_hours
      rw [tn_inI _ _ _ σ (a := 0) (b := 4) rfl rfl, tn_bds, if_neg (by rw [if_pos c.1]; decide), tn_inI _ _ _ σ (a := 0) (b := 3) rfl rfl, tn_bds, if_neg (by rw [if_pos c.2]; decide), tn_ckn (by omega) (by decide), tn_xn (by omega), h.2.2.2.1 k (by omega)]
      refine tq_lt ?_
      rw [tn_ckn (by omega) (by decide)]
      have ee : ∀ a b, a ≠ 42 → (tn_si σ 42 k (nI v)).1 a b = σ.1 a b := fun a b hab => by rw [tn_si_1, if_neg (by omega)]
      obtain ⟨g1, g2, g3, g4, g5⟩ := h
      refine tq_lt (tq_some ⟨rfl, by rw [ee _ _ (by omega)]; exact g1, fun j hj => by rw [ee _ _ (by omega)]; exact g2 j hj, fun j hj => by rw [ee _ _ (by omega)]; exact g3 j hj, fun j hj => ?_, fun j hj => by rw [ee _ _ (by omega)]; exact g5.1 j hj, fun j hj => by rw [ee _ _ (by omega)]; exact g5.2.1 j hj, fun j hj => by rw [ee _ _ (by omega)]; exact g5.2.2.1 j hj, fun s hs i hi => by rw [ee _ _ (by omega)]; exact g5.2.2.2.1 s hs i hi, by rw [ee _ _ (by omega)]; exact g5.2.2.2.2⟩)
      rw [tn_si_1]
      show _ = nI (va_up (aH A) k v j)
      rw [hup j]
      by_cases d : j = k
      · rw [if_pos ⟨rfl, d⟩, if_pos d]
      · rw [if_neg (fun w => d w.2), if_neg d]; exact g4 j hj
  · refine ⟨A, hA, -2, fun σ h => ?_, fun σ h => ?_⟩
    · unfold f_X4_hours
      by_cases d1 : x < 0
      · rw [if_pos d1]; exact tq_some ⟨rfl, h⟩
      · rw [if_neg d1]
        by_cases d2 : 5 ≤ x
        · rw [if_pos d2]; exact tq_some ⟨rfl, h⟩
        · rw [if_neg d2]
          by_cases d3 : y < 0
          · rw [if_pos d3]; exact tq_some ⟨rfl, h⟩
          · rw [if_neg d3, if_neg (by rw [tn_lt32] at *; rw [tn_le32] at *; omega)]; exact tq_some ⟨rfl, h⟩
    · unfold f_X5_hours
      rw [tn_inI _ _ _ σ (a := 0) (b := 4) rfl rfl, tn_bds]
      by_cases d1 : 0 ≤ x.toInt ∧ x.toInt ≤ 4
      · rw [if_neg (by rw [if_pos d1]; decide), tn_inI _ _ _ σ (a := 0) (b := 3) rfl rfl, tn_bds, if_pos (by rw [if_neg (fun w => c ⟨d1, w⟩)])]
        exact tq_some ⟨rfl, h⟩
      · rw [if_pos (by rw [if_neg d1])]; exact tq_some ⟨rfl, h⟩
theorem c_turn (hA : tW A) (x y : Int32) : ∃ A', tW A' ∧ tn_P A A' (f_X4_turn x y) (f_X5_turn x y) := by
  have t0 : (0 : Int32).toInt = 0 := rfl
  have t6 : (6 : Int32).toInt = 6 := rfl
  have t32 : (32 : Int32).toInt = 32 := rfl
  by_cases c : (0 ≤ x.toInt ∧ x.toInt ≤ 5) ∧ (0 ≤ y.toInt ∧ y.toInt ≤ 31)
  · obtain ⟨k, hk, rfl⟩ := tn_nat (n := 6) c.1.1 (by omega)
    obtain ⟨v, hv, rfl⟩ := tn_nat (n := 32) c.2.1 (by omega)
    have n1 : ¬ nI k < 0 := by rw [tn_lt32]; omega
    have n2 : ¬ 6 ≤ nI k := by rw [tn_le32]; omega
    have n3 : ¬ nI v < 0 := by rw [tn_lt32]; omega
    have n4 : nI v < 32 := by rw [tn_lt32]; omega
    have hup : ∀ j, nI (va_up (aU A) k v j) = if j = k then nI v else nI (aU A j) := fun j => by unfold va_up; split <;> rfl
    refine ⟨(aL A, aT A, aG A, aH A, va_up (aU A) k v, aF A, aZ A, aI A, aN A), ⟨hA.1, hA.2.1, hA.2.2.1, fun j hj => ?_, hA.2.2.2.2⟩, nI (aU A k), fun σ h => ?_, fun σ h => ?_⟩
    · show va_up (aU A) k v j ≤ 31
      unfold va_up
      split
      · omega
      · exact hA.2.2.2.1 j hj
    · unfold f_X4_turn
      rw [if_neg n1, if_neg n2, if_neg n3, if_pos n4, tn_ckn (by omega) (by decide), tn_xn (by omega), h.1.2.2.2.2.1 k (by omega)]
      refine tq_lt ?_
      rw [tn_ckn (by omega) (by decide)]
      have ee : ∀ a b, a ≠ 8 → (tn_si σ 8 k (nI v)).1 a b = σ.1 a b := fun a b hab => by rw [tn_si_1, if_neg (by omega)]
      obtain ⟨⟨g1, g2, g3, g4, g5⟩, p2, p3, p4⟩ := h
      refine tq_lt (tq_some ⟨rfl, ⟨by rw [ee _ _ (by omega)]; exact g1, fun j hj => by rw [ee _ _ (by omega)]; exact g2 j hj, fun j hj => by rw [ee _ _ (by omega)]; exact g3 j hj, fun j hj => by rw [ee _ _ (by omega)]; exact g4 j hj, fun j hj => ?_, fun j hj => by rw [ee _ _ (by omega)]; exact g5.2.1 j hj, fun j hj => by rw [ee _ _ (by omega)]; exact g5.2.2.1 j hj, fun s hs i hi => by rw [ee _ _ (by omega)]; exact g5.2.2.2.1 s hs i hi, by rw [ee _ _ (by omega)]; exact g5.2.2.2.2⟩, by rw [ee _ _ (by omega)]; exact p2, cSt_same p3 (fun a b hab => ee a b (by omega)) (tV_A A).2.1, by rw [ee _ _ (by omega)]; exact p4⟩)
      rw [tn_si_1]
      show _ = nI (va_up (aU A) k v j)
      rw [hup j]
      by_cases d : j = k
      · rw [if_pos ⟨rfl, d⟩, if_pos d]
      · rw [if_neg (fun w => d w.2), if_neg d]; exact g5.1 j hj
    · unfold f_X5_turn
      rw [tn_inI _ _ _ σ (a := 0) (b := 5) rfl rfl, tn_bds, if_neg (by rw [if_pos c.1]; decide), tn_inI _ _ _ σ (a := 0) (b := 31) rfl rfl, tn_bds, if_neg (by rw [if_pos c.2]; decide), tn_ckn (by omega) (by decide), tn_xn (by omega), h.2.2.2.2.1 k (by omega)]
      refine tq_lt ?_
      rw [tn_ckn (by omega) (by decide)]
      have ee : ∀ a b, a ≠ 43 → (tn_si σ 43 k (nI v)).1 a b = σ.1 a b := fun a b hab => by rw [tn_si_1, if_neg (by omega)]
      obtain ⟨g1, g2, g3, g4, g5⟩ := h
      refine tq_lt (tq_some ⟨rfl, by rw [ee _ _ (by omega)]; exact g1, fun j hj => by rw [ee _ _ (by omega)]; exact g2 j hj, fun j hj => by rw [ee _ _ (by omega)]; exact g3 j hj, fun j hj => by rw [ee _ _ (by omega)]; exact g4 j hj, fun j hj => ?_, fun j hj => by rw [ee _ _ (by omega)]; exact g5.2.1 j hj, fun j hj => by rw [ee _ _ (by omega)]; exact g5.2.2.1 j hj, fun s hs i hi => by rw [ee _ _ (by omega)]; exact g5.2.2.2.1 s hs i hi, by rw [ee _ _ (by omega)]; exact g5.2.2.2.2⟩)
      rw [tn_si_1]
      show _ = nI (va_up (aU A) k v j)
      rw [hup j]
      by_cases d : j = k
      · rw [if_pos ⟨rfl, d⟩, if_pos d]
      · rw [if_neg (fun w => d w.2), if_neg d]; exact g5.1 j hj
  · refine ⟨A, hA, -2, fun σ h => ?_, fun σ h => ?_⟩
    · unfold f_X4_turn
      by_cases d1 : x < 0
      · rw [if_pos d1]; exact tq_some ⟨rfl, h⟩
      · rw [if_neg d1]
        by_cases d2 : 6 ≤ x
        · rw [if_pos d2]; exact tq_some ⟨rfl, h⟩
        · rw [if_neg d2]
          by_cases d3 : y < 0
          · rw [if_pos d3]; exact tq_some ⟨rfl, h⟩
          · rw [if_neg d3, if_neg (by rw [tn_lt32] at *; rw [tn_le32] at *; omega)]; exact tq_some ⟨rfl, h⟩
    · unfold f_X5_turn
      rw [tn_inI _ _ _ σ (a := 0) (b := 5) rfl rfl, tn_bds]
      by_cases d1 : 0 ≤ x.toInt ∧ x.toInt ≤ 5
      · rw [if_neg (by rw [if_pos d1]; decide), tn_inI _ _ _ σ (a := 0) (b := 31) rfl rfl, tn_bds, if_pos (by rw [if_neg (fun w => c ⟨d1, w⟩)])]
        exact tq_some ⟨rfl, h⟩
      · rw [if_pos (by rw [if_neg d1])]; exact tq_some ⟨rfl, h⟩
end DA

/-! the calls: set, shop, sort -/
section DC
variable {A : tA} {σ : tn_M}
theorem hi_N : ∀ j, j < 8 → tn_hi j = nI (tn_hN j) ∧ (f_X5_high (nI j) (fun _ _ => 0, fun _ _ => 0)).map (fun q => q.1) = some (nI (tn_hN j)) ∧ tn_hN j < 1000 := by decide +kernel
theorem s_high {j : Nat} (hj : j < 8) (σ : tn_M) : f_X5_high (nI j) σ = some (nI (tn_hN j), σ) := by
  have : j = 0 ∨ j = 1 ∨ j = 2 ∨ j = 3 ∨ j = 4 ∨ j = 5 ∨ j = 6 ∨ j = 7 := by omega
  rcases this with rfl | rfl | rfl | rfl | rfl | rfl | rfl | rfl <;> rfl
theorem c_set (hA : tW A) (x y : Int32) : ∃ A', tW A' ∧ tn_P A A' (f_X4_set x y) (f_X5_set x y) := by
  have t0 : (0 : Int32).toInt = 0 := rfl
  have t8 : (8 : Int32).toInt = 8 := rfl
  by_cases c : 0 ≤ x.toInt ∧ x.toInt ≤ 7
  · obtain ⟨k, hk, rfl⟩ := tn_nat (n := 8) c.1 (by omega)
    have n1 : ¬ nI k < 0 := by rw [tn_lt32]; omega
    have n2 : ¬ 8 ≤ nI k := by rw [tn_le32]; omega
    obtain ⟨hh1, _, hh3⟩ := hi_N k hk
    by_cases d : 0 ≤ y.toInt ∧ y.toInt ≤ (tn_hN k : Int)
    · obtain ⟨v, hv, rfl⟩ := tn_nat (n := tn_hN k + 1) d.1 (by omega)
      have n3 : ¬ nI v < 0 := by rw [tn_lt32]; omega
      have n4 : nI v ≤ tn_hi k := by rw [hh1]; exact nI_le (by omega) (by omega)
      have hup : ∀ j, nI (va_up (aG A) k v j) = if j = k then nI v else nI (aG A j) := fun j => by unfold va_up; split <;> rfl
      refine ⟨(aL A, aT A, va_up (aG A) k v, aH A, aU A, aF A, aZ A, aI A, aN A), ⟨hA.1, fun j hj => ?_, hA.2.2⟩, nI (aG A k), fun σ h => ?_, fun σ h => ?_⟩
      · show va_up (aG A) k v j ≤ tn_hN j
        unfold va_up
        split
        · next q => subst q; omega
        · exact hA.2.1 j hj
      · unfold f_X4_set
        rw [if_neg n1, if_neg n2, if_neg n3, tn_ckn hk (by decide), tn_xn (by omega), if_pos n4, tn_ckn hk (by decide), h.1.2.2.1 k hk]
        refine tq_lt ?_
        rw [tn_ckn hk (by decide)]
        refine tq_lt ?_
        have ee : ∀ a b, a ≠ 6 → (tn_si σ 6 k (nI v)).1 a b = σ.1 a b := fun a b hab => by rw [tn_si_1, if_neg (by omega)]
        obtain ⟨⟨g1, g2, g3, g4⟩, p2, p3, p4⟩ := h
        have hc : C0 (aL A, aT A, va_up (aG A) k v, aH A, aU A, aF A, aZ A, aI A, aN A) (tn_si σ 6 k (nI v)) := by
          refine ⟨by rw [ee _ _ (by omega)]; exact g1, fun j hj => by rw [ee _ _ (by omega)]; exact g2 j hj, fun j hj => ?_, fun j hj => by rw [ee _ _ (by omega)]; exact g4.1 j hj, fun j hj => by rw [ee _ _ (by omega)]; exact g4.2.1 j hj, fun j hj => by rw [ee _ _ (by omega)]; exact g4.2.2.1 j hj, fun j hj => by rw [ee _ _ (by omega)]; exact g4.2.2.2.1 j hj, fun s hs i hi => by rw [ee _ _ (by omega)]; exact g4.2.2.2.2.1 s hs i hi, by rw [ee _ _ (by omega)]; exact g4.2.2.2.2.2⟩
          rw [tn_si_1]
          show _ = nI (va_up (aG A) k v j)
          rw [hup j]
          by_cases f : j = k
          · rw [if_pos ⟨rfl, f⟩, if_pos f]
          · rw [if_neg (fun w => f w.2), if_neg f]; exact g3 j hj
        have hs : cSt (tn_SA A) (tn_si σ 6 k (nI v)) := cSt_same p3 (fun a b hab => ee a b (by omega)) (tV_A A).2.1
        by_cases f : k = 0
        · subst f
          rw [if_pos (show nI 0 = 0 from rfl)]
          have e2 : ∀ a b, a ≠ 2 → (tn_si (tn_si σ 6 0 (nI v)) 2 1 1).1 a b = (tn_si σ 6 0 (nI v)).1 a b := fun a b hab => by rw [tn_si_1, if_neg (by omega)]
          exact tq_lt (tq_some ⟨rfl, C0_same hc (fun a b hab => e2 a b (by omega)), by rw [e2 _ _ (by omega), ee _ _ (by omega)]; exact p2, cSt_same hs (fun a b hab => e2 a b (by omega)) (tV_A A).2.1, Or.inl (by rw [tn_si_1, if_pos ⟨rfl, rfl⟩])⟩)
        · rw [if_neg (show ¬ nI k = 0 by rw [show (0 : Int32) = nI 0 from rfl, nI_eq (by omega) (by omega)]; exact f)]
          refine tq_some ⟨rfl, hc, by rw [ee _ _ (by omega)]; exact p2, hs, ?_⟩
          have e0 : va_up (aG A) k v 0 = aG A 0 := by unfold va_up; rw [if_neg (fun q => f q.symm)]
          rw [ee _ _ (by omega)]
          show _ ∨ (_ ∧ cTb (tn_SA A) (va_up (aG A) k v 0) _)
          rw [e0]
          exact p4
      · unfold f_X5_set
        rw [tn_inI _ _ _ σ (a := 0) (b := 7) rfl rfl, tn_bds, if_neg (by rw [if_pos c]; decide), s_high hk, tn_bds, tn_inI _ _ _ σ (a := 0) (b := tn_hN k) rfl (by rw [tn_t64, tn_t (by omega)]), tn_bds, if_neg (by rw [if_pos d]; decide), tn_ckn hk (by decide), tn_xn (by omega), h.2.2.1 k hk]
        refine tq_lt ?_
        rw [tn_ckn hk (by decide)]
        have ee : ∀ a b, a ≠ 41 → (tn_si σ 41 k (nI v)).1 a b = σ.1 a b := fun a b hab => by rw [tn_si_1, if_neg (by omega)]
        obtain ⟨g1, g2, g3, g4⟩ := h
        refine tq_lt (tq_some ⟨rfl, by rw [ee _ _ (by omega)]; exact g1, fun j hj => by rw [ee _ _ (by omega)]; exact g2 j hj, fun j hj => ?_, fun j hj => by rw [ee _ _ (by omega)]; exact g4.1 j hj, fun j hj => by rw [ee _ _ (by omega)]; exact g4.2.1 j hj, fun j hj => by rw [ee _ _ (by omega)]; exact g4.2.2.1 j hj, fun j hj => by rw [ee _ _ (by omega)]; exact g4.2.2.2.1 j hj, fun s hs i hi => by rw [ee _ _ (by omega)]; exact g4.2.2.2.2.1 s hs i hi, by rw [ee _ _ (by omega)]; exact g4.2.2.2.2.2⟩)
        rw [tn_si_1]
        show _ = nI (va_up (aG A) k v j)
        rw [hup j]
        by_cases f : j = k
        · rw [if_pos ⟨rfl, f⟩, if_pos f]
        · rw [if_neg (fun w => f w.2), if_neg f]; exact g3 j hj
    · refine ⟨A, hA, -2, fun σ h => ?_, fun σ h => ?_⟩
      · unfold f_X4_set
        rw [if_neg n1, if_neg n2]
        by_cases f : y < 0
        · rw [if_pos f]; exact tq_some ⟨rfl, h⟩
        · rw [if_neg f, tn_ckn hk (by decide), tn_xn (by omega), hh1, if_neg (by rw [tn_lt32] at f; rw [tn_le32, tn_t (by omega)]; omega)]; exact tq_some ⟨rfl, h⟩
      · unfold f_X5_set
        rw [tn_inI _ _ _ σ (a := 0) (b := 7) rfl rfl, tn_bds, if_neg (by rw [if_pos c]; decide), s_high hk, tn_bds, tn_inI _ _ _ σ (a := 0) (b := tn_hN k) rfl (by rw [tn_t64, tn_t (by omega)]), tn_bds, if_pos (by rw [if_neg d])]
        exact tq_some ⟨rfl, h⟩
  · refine ⟨A, hA, -2, fun σ h => ?_, fun σ h => ?_⟩
    · unfold f_X4_set
      by_cases f : x < 0
      · rw [if_pos f]; exact tq_some ⟨rfl, h⟩
      · rw [if_neg f, if_pos (by rw [tn_lt32] at f; rw [tn_le32]; omega)]; exact tq_some ⟨rfl, h⟩
    · unfold f_X5_set
      rw [tn_inI _ _ _ σ (a := 0) (b := 7) rfl rfl, tn_bds, if_pos (by rw [if_neg c])]
      exact tq_some ⟨rfl, h⟩
theorem c_sort (hA : tW A) (x y : Int32) : tn_P A A (f_X4_sort x y) (f_X5_sort x y) := by
  have hm := (tV_A A).2.1
  have t0 : (0 : Int32).toInt = 0 := rfl
  have t5 : (5 : Int32).toInt = 5 := rfl
  by_cases c : (0 ≤ x.toInt ∧ x.toInt < sm (tn_SA A)) ∧ (0 ≤ y.toInt ∧ y.toInt ≤ 5)
  · obtain ⟨i, hi, rfl⟩ := tn_nat c.1.1 c.1.2
    obtain ⟨j, hj, rfl⟩ := tn_nat (n := 6) c.2.1 (by omega)
    refine ⟨tn_er (sr (tn_SA A) i) j, fun σ h => ?_, fun σ h => ?_⟩
    · unfold f_X4_sort
      rw [if_neg (by rw [tn_lt32]; omega), h.2.2.1.2.1, if_neg (nI_ge hi (by omega)), if_neg (by rw [tn_lt32]; omega), if_pos (by rw [tn_le32]; omega), tn_ckn (by omega) (by decide), tn_ckn hj (by decide), tn_xn (by omega), tn_xn (by omega)]
      exact tq_some ⟨h.2.2.1.2.2.2 i hi j hj, h⟩
    · unfold f_X5_sort
      refine tq_bd (s_rd hA h) (fun _ σ1 ⟨_, q2, q3⟩ => ?_)
      rw [tn_inI _ _ _ σ1 (a := 0) (b := (sm (tn_SA A) : Int) - 1) rfl (by rw [tn_t64, q2.2.1]; exact tn_sub1 (by omega)), tn_bds, if_neg (by rw [if_pos (by omega)]; decide), tn_inI _ _ _ σ1 (a := 0) (b := 5) rfl rfl, tn_bds, if_neg (by rw [if_pos c.2]; decide), tn_L 6, pk_mul, nI_add, tn_ckn (by omega) (by decide), tn_xn (by omega)]
      exact tq_some ⟨q2.2.2.2 i hi j hj, q3⟩
  · refine ⟨-2, fun σ h => ?_, fun σ h => ?_⟩
    · unfold f_X4_sort
      rw [h.2.2.1.2.1]
      by_cases d1 : x < 0
      · rw [if_pos d1]; exact tq_some ⟨rfl, h⟩
      · rw [if_neg d1]
        by_cases d2 : nI (sm (tn_SA A)) ≤ x
        · rw [if_pos d2]; exact tq_some ⟨rfl, h⟩
        · rw [if_neg d2]
          by_cases d3 : y < 0
          · rw [if_pos d3]; exact tq_some ⟨rfl, h⟩
          · rw [if_neg d3, if_neg (by rw [tn_le32, tn_t (by omega)] at d2; rw [tn_lt32] at *; rw [tn_le32]; omega)]; exact tq_some ⟨rfl, h⟩
    · unfold f_X5_sort
      refine tq_bd (s_rd hA h) (fun _ σ1 ⟨_, q2, q3⟩ => ?_)
      rw [tn_inI _ _ _ σ1 (a := 0) (b := (sm (tn_SA A) : Int) - 1) rfl (by rw [tn_t64, q2.2.1]; exact tn_sub1 (by omega)), tn_bds]
      by_cases d1 : 0 ≤ x.toInt ∧ x.toInt ≤ (sm (tn_SA A) : Int) - 1
      · rw [if_neg (by rw [if_pos d1]; decide), tn_inI _ _ _ σ1 (a := 0) (b := 5) rfl rfl, tn_bds, if_pos (by rw [if_neg (by omega)])]
        exact tq_some ⟨rfl, q3⟩
      · rw [if_pos (by rw [if_neg d1])]; exact tq_some ⟨rfl, q3⟩
end DC

/-! the calls: type, wipe, set -/
section DB
variable {A : tA} {σ : tn_M}
/-- the class reads anew: any text -/
theorem k_parse {t : Nat → Int32} {len : Nat} (h150 : len ≤ 150) {G H U : Nat → Nat} {F : Nat → Int32} {Z : Nat → Nat} {I : Nat → Nat → Int32} {N : Int32} (h : C0 (len, t, G, H, U, F, Z, I, N) σ) : tq (f_X2_parse σ) (fun _ σ' => CI (len, t, G, H, U, F, Z, I, N) (tn_si σ' 2 1 1)) := by
  refine tq_mono (tq_fr (fr_X2_parse σ) (s_parse (t := t) (len := len) h.1 h150 h.2.1)) (fun _ σ' ⟨⟨q1, q2⟩, f⟩ => ?_)
  have ee : ∀ a b, ((a = 1 ∧ b = 4) ∨ a = 9 ∨ a = 6 ∨ a = 7 ∨ a = 8 ∨ (26 ≤ a ∧ a ≤ 32) ∨ a = 4) → (tn_si σ' 2 1 1).1 a b = σ.1 a b := fun a b hab => by
    rw [tn_si_1, if_neg (by omega)]
    exact f.i a b (by unfold tn_ms; simp; omega)
  refine ⟨C0_same h ee, by rw [tn_si_1, if_neg (by omega)]; exact q1, cSt_same q2 (fun a b hab => by rw [tn_si_1, if_neg (by omega)]) (prs_V t len).2.1, Or.inl (by rw [tn_si_1, if_pos ⟨rfl, rfl⟩])⟩
theorem c_wipe (hA : tW A) : ∃ A', tW A' ∧ tn_P A A' f_X4_wipe f_X5_wipe := by
  refine ⟨(0, aT A, aG A, aH A, aU A, aF A, aZ A, aI A, aN A), ⟨by show 0 ≤ 150; omega, hA.2⟩, nI (aL A), fun σ h => ?_, fun σ h => ?_⟩
  · unfold f_X4_wipe f_X2_clear
    rw [h.1.1]
    refine tq_bd (P := fun _ σ' => CI (0, aT A, aG A, aH A, aU A, aF A, aZ A, aI A, aN A) (tn_si σ' 2 1 1)) (tq_lt (tq_bd (k_parse (by omega) ?_) (fun _ σ1 q => tq_some q))) (fun _ σ1 q => tq_lt (tq_some ⟨rfl, q⟩))
    obtain ⟨g1, g2, g3⟩ := h.1
    have ee : ∀ a b, ¬ (a = 1 ∧ b = 4) → (tn_si σ 1 4 0).1 a b = σ.1 a b := fun a b hab => by rw [tn_si_1, if_neg hab]
    exact ⟨by rw [tn_si_1, if_pos ⟨rfl, rfl⟩]; rfl, fun j hj => absurd hj (Nat.not_lt_zero j), fun j hj => by rw [ee _ _ (by omega)]; exact g3.1 j hj, fun j hj => by rw [ee _ _ (by omega)]; exact g3.2.1 j hj, fun j hj => by rw [ee _ _ (by omega)]; exact g3.2.2.1 j hj, fun j hj => by rw [ee _ _ (by omega)]; exact g3.2.2.2.1 j hj, fun j hj => by rw [ee _ _ (by omega)]; exact g3.2.2.2.2.1 j hj, fun s hs i hi => by rw [ee _ _ (by omega)]; exact g3.2.2.2.2.2.1 s hs i hi, by rw [ee _ _ (by omega)]; exact g3.2.2.2.2.2.2⟩
  · unfold f_X5_wipe
    rw [h.1]
    obtain ⟨g1, g2, g3⟩ := h
    have ee : ∀ a b, ¬ (a = 5 ∧ b = 6) → (tn_si σ 5 6 0).1 a b = σ.1 a b := fun a b hab => by rw [tn_si_1, if_neg hab]
    exact tq_lt (tq_some ⟨rfl, by rw [tn_si_1, if_pos ⟨rfl, rfl⟩]; rfl, fun j hj => absurd hj (Nat.not_lt_zero j), fun j hj => by rw [ee _ _ (by omega)]; exact g3.1 j hj, fun j hj => by rw [ee _ _ (by omega)]; exact g3.2.1 j hj, fun j hj => by rw [ee _ _ (by omega)]; exact g3.2.2.1 j hj, fun j hj => by rw [ee _ _ (by omega)]; exact g3.2.2.2.1 j hj, fun j hj => by rw [ee _ _ (by omega)]; exact g3.2.2.2.2.1 j hj, fun s hs i hi => by rw [ee _ _ (by omega)]; exact g3.2.2.2.2.2.1 s hs i hi, by rw [ee _ _ (by omega)]; exact g3.2.2.2.2.2.2⟩)
theorem c_type (hA : tW A) (x : Int32) : ∃ A', tW A' ∧ tn_P A A' (f_X4_type x) (f_X5_type x) := by
  have h150 := hA.1
  have t0 : (0 : Int32).toInt = 0 := rfl
  have t255 : (255 : Int32).toInt = 255 := rfl
  by_cases c : 0 ≤ x.toInt ∧ x.toInt ≤ 255
  · have n1 : ¬ x < 0 := by rw [tn_lt32]; omega
    have n2 : x ≤ 255 := by rw [tn_le32]; omega
    by_cases d : aL A < 150
    · have hup : ∀ j, va_up (aT A) (aL A) x j = if j = aL A then x else aT A j := fun j => rfl
      refine ⟨(aL A + 1, va_up (aT A) (aL A) x, aG A, aH A, aU A, aF A, aZ A, aI A, aN A), ⟨by show aL A + 1 ≤ 150; omega, hA.2⟩, nI (aL A + 1), fun σ h => ?_, fun σ h => ?_⟩
      · unfold f_X4_type f_X2_append
        rw [if_neg n1, if_pos n2, h.1.1, if_pos (show nI (aL A) < (150 : Int32) from nI_lt (b := 150) d (by omega)), if_neg (show ¬ (150 : Int32) ≤ nI (aL A) from nI_ge (b := 150) d (by omega)), tn_ckn d (by decide), tn_xn (by omega)]
        have e14 : (tn_si σ 9 (aL A) x).1 1 4 = nI (aL A) := by rw [tn_si_1, if_neg (by omega)]; exact h.1.1
        refine tq_bd (P := fun _ σ' => CI (aL A + 1, va_up (aT A) (aL A) x, aG A, aH A, aU A, aF A, aZ A, aI A, aN A) (tn_si σ' 2 1 1)) (tq_lt (tq_lt ?_)) (fun _ σ1 q => tq_lt (tq_some ⟨?_, q⟩))
        · rw [e14, nI_1]
          refine tq_bd (k_parse (by omega) ?_) (fun _ σ1 q => tq_some q)
          obtain ⟨g1, g2, g3⟩ := h.1
          have ee : ∀ a b, ¬ (a = 1 ∧ b = 4) → ¬ (a = 9 ∧ b = aL A) → (tn_si (tn_si σ 9 (aL A) x) 1 4 (nI (aL A + 1))).1 a b = σ.1 a b := fun a b h1 h2 => by rw [tn_si_1, if_neg h1, tn_si_1, if_neg h2]
          refine ⟨by rw [tn_si_1, if_pos ⟨rfl, rfl⟩], fun j hj => ?_, fun j hj => by rw [ee _ _ (by omega) (by omega)]; exact g3.1 j hj, fun j hj => by rw [ee _ _ (by omega) (by omega)]; exact g3.2.1 j hj, fun j hj => by rw [ee _ _ (by omega) (by omega)]; exact g3.2.2.1 j hj, fun j hj => by rw [ee _ _ (by omega) (by omega)]; exact g3.2.2.2.1 j hj, fun j hj => by rw [ee _ _ (by omega) (by omega)]; exact g3.2.2.2.2.1 j hj, fun s hs i hi => by rw [ee _ _ (by omega) (by omega)]; exact g3.2.2.2.2.2.1 s hs i hi, by rw [ee _ _ (by omega) (by omega)]; exact g3.2.2.2.2.2.2⟩
          show _ = va_up (aT A) (aL A) x j
          have hj : j < aL A + 1 := hj
          rw [hup j, tn_si_1, if_neg (by omega), tn_si_1]
          by_cases f : j = aL A
          · rw [if_pos ⟨rfl, f⟩, if_pos f]
          · rw [if_neg (fun w => f w.2), if_neg f]; exact g2 j (by omega)
        · exact q.1.1
      · unfold f_X5_type
        rw [tn_inI _ _ _ σ (a := 0) (b := 255) rfl rfl, tn_bds, if_neg (by rw [if_pos c]; decide), h.1, if_neg (show ¬ nI (aL A) = (150 : Int32) by rw [tn_L 150, nI_eq (by omega) (by omega)]; omega), tn_ckn d (by decide), tn_xn (by omega)]
        have e56 : (tn_si σ 37 (aL A) x).1 5 6 = nI (aL A) := by rw [tn_si_1, if_neg (by omega)]; exact h.1
        refine tq_lt ?_
        rw [e56, nI_1]
        obtain ⟨g1, g2, g3⟩ := h
        have ee : ∀ a b, ¬ (a = 5 ∧ b = 6) → ¬ (a = 37 ∧ b = aL A) → (tn_si (tn_si σ 37 (aL A) x) 5 6 (nI (aL A + 1))).1 a b = σ.1 a b := fun a b h1 h2 => by rw [tn_si_1, if_neg h1, tn_si_1, if_neg h2]
        have e5 : (tn_si (tn_si σ 37 (aL A) x) 5 6 (nI (aL A + 1))).1 5 6 = nI (aL A + 1) := by rw [tn_si_1, if_pos ⟨rfl, rfl⟩]
        refine tq_lt (tq_some ⟨e5, e5, fun j hj => ?_, fun j hj => by rw [ee _ _ (by omega) (by omega)]; exact g3.1 j hj, fun j hj => by rw [ee _ _ (by omega) (by omega)]; exact g3.2.1 j hj, fun j hj => by rw [ee _ _ (by omega) (by omega)]; exact g3.2.2.1 j hj, fun j hj => by rw [ee _ _ (by omega) (by omega)]; exact g3.2.2.2.1 j hj, fun j hj => by rw [ee _ _ (by omega) (by omega)]; exact g3.2.2.2.2.1 j hj, fun s hs i hi => by rw [ee _ _ (by omega) (by omega)]; exact g3.2.2.2.2.2.1 s hs i hi, by rw [ee _ _ (by omega) (by omega)]; exact g3.2.2.2.2.2.2⟩)
        show _ = va_up (aT A) (aL A) x j
        have hj : j < aL A + 1 := hj
        rw [hup j, tn_si_1, if_neg (by omega), tn_si_1]
        by_cases f : j = aL A
        · rw [if_pos ⟨rfl, f⟩, if_pos f]
        · rw [if_neg (fun w => f w.2), if_neg f]; exact g2 j (by omega)
    · have e150 : aL A = 150 := by omega
      refine ⟨A, hA, -4, fun σ h => ?_, fun σ h => ?_⟩
      · unfold f_X4_type
        rw [if_neg n1, if_pos n2, h.1.1, e150, if_neg (by decide)]
        exact tq_some ⟨rfl, h⟩
      · unfold f_X5_type
        rw [tn_inI _ _ _ σ (a := 0) (b := 255) rfl rfl, tn_bds, if_neg (by rw [if_pos c]; decide), h.1, e150, if_pos (by decide)]
        exact tq_some ⟨rfl, h⟩
  · refine ⟨A, hA, -2, fun σ h => ?_, fun σ h => ?_⟩
    · unfold f_X4_type
      by_cases d : x < 0
      · rw [if_pos d]; exact tq_some ⟨rfl, h⟩
      · rw [if_neg d, if_neg (by rw [tn_lt32] at d; rw [tn_le32]; omega)]; exact tq_some ⟨rfl, h⟩
    · unfold f_X5_type
      rw [tn_inI _ _ _ σ (a := 0) (b := 255) rfl rfl, tn_bds, if_pos (by rw [if_neg c])]
      exact tq_some ⟨rfl, h⟩
end DB

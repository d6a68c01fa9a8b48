/-! sheets: guards, findings, lose -/
section DE
variable {A : tA} {σ : tn_M}
theorem s_noSheet (x : Int32) (σ : tn_M) : f_X1_noSheet x σ = some (if 0 ≤ x.toInt ∧ x.toInt ≤ 3 then 0 else 1, σ) := by
  have t0 : (0 : Int32).toInt = 0 := rfl
  have t4 : (4 : Int32).toInt = 4 := rfl
  unfold f_X1_noSheet
  by_cases c : x < 0
  · rw [if_pos c, if_neg (by rw [tn_lt32] at c; omega)]
  · rw [if_neg c]
    by_cases d : x < 4
    · rw [if_pos d, if_pos (by rw [tn_lt32] at *; omega)]
    · rw [if_neg d, if_neg (by rw [tn_lt32] at *; omega)]
theorem s_isSheet (x : Int32) (σ : tn_M) : f_X5_isSheet x σ = some (if 0 ≤ x.toInt ∧ x.toInt ≤ 3 then 1 else 0, σ) := by
  unfold f_X5_isSheet
  rw [tn_inI x _ _ σ (a := 0) (b := 3) rfl rfl, tn_bds, tn_zr10]
theorem sheet_cases (x : Int32) : (¬ (0 ≤ x.toInt ∧ x.toInt ≤ 3)) ∨ ∃ s, s < 4 ∧ x = nI s ∧ (0 ≤ x.toInt ∧ x.toInt ≤ 3) := by
  by_cases c : 0 ≤ x.toInt ∧ x.toInt ≤ 3
  · obtain ⟨j, hj, e⟩ := tn_nat (n := 4) c.1 (by omega)
    exact Or.inr ⟨j, hj, e, c⟩
  · exact Or.inl c
def tn_An (A : tA) (n : Int32) : tA := (aL A, aT A, aG A, aH A, aU A, aF A, aZ A, aI A, n)
theorem tW_n (hA : tW A) (n : Int32) : tW (tn_An A n) := hA
theorem CI_n (h : CI A σ) (n : Int32) : CI (tn_An A n) (tn_si σ 4 3 n) := by
  obtain ⟨⟨g1, g2, g3, g4, g5, g6, g7, g8, g9⟩, p2, p3, p4⟩ := h
  have ee : ∀ a b, a ≠ 4 → (tn_si σ 4 3 n).1 a b = σ.1 a b := fun a b hab => by rw [tn_si_1, if_neg (by omega)]
  exact ⟨⟨by rw [ee _ _ (by omega)]; exact g1, fun j hj => by rw [ee _ _ (by omega)]; exact g2 j hj, fun j hj => by rw [ee _ _ (by omega)]; exact g3 j hj, fun j hj => by rw [ee _ _ (by omega)]; exact g4 j hj, fun j hj => by rw [ee _ _ (by omega)]; exact g5 j hj, fun j hj => by rw [ee _ _ (by omega)]; exact g6 j hj, fun j hj => by rw [ee _ _ (by omega)]; exact g7 j hj, fun s hs i hi => by rw [ee _ _ (by omega)]; exact g8 s hs i hi, by rw [tn_si_1, if_pos ⟨rfl, rfl⟩]; rfl⟩, by rw [ee _ _ (by omega)]; exact p2, cSt_same p3 (fun a b hab => ee a b (by omega)) (tV_A A).2.1, by rw [ee _ _ (by omega)]; exact p4⟩
theorem M0_n (h : M0 A σ) (n : Int32) : M0 (tn_An A n) (tn_si σ 5 4 n) := by
  obtain ⟨g1, g2, g3, g4, g5, g6, g7, g8, g9⟩ := h
  have ee : ∀ a b, ¬ (a = 5 ∧ b = 4) → (tn_si σ 5 4 n).1 a b = σ.1 a b := fun a b hab => by rw [tn_si_1, if_neg hab]
  exact ⟨by rw [ee _ _ (by omega)]; exact g1, fun j hj => by rw [ee _ _ (by omega)]; exact g2 j hj, fun j hj => by rw [ee _ _ (by omega)]; exact g3 j hj, fun j hj => by rw [ee _ _ (by omega)]; exact g4 j hj, fun j hj => by rw [ee _ _ (by omega)]; exact g5 j hj, fun j hj => by rw [ee _ _ (by omega)]; exact g6 j hj, fun j hj => by rw [ee _ _ (by omega)]; exact g7 j hj, fun s hs i hi => by rw [ee _ _ (by omega)]; exact g8 s hs i hi, by rw [tn_si_1, if_pos ⟨rfl, rfl⟩]; rfl⟩
theorem k_find (h : CI A σ) (n : Int32) : tq (f_X1_finding n σ) (fun r σ' => r = -10 - n ∧ CI (tn_An A n) σ') := tq_some ⟨rfl, CI_n h n⟩
theorem m_met (h : M0 A σ) (n : Int32) : tq (f_X5_met n σ) (fun r σ' => r = -10 - n ∧ M0 (tn_An A n) σ') := tq_some ⟨rfl, M0_n h n⟩
/-- a form is there, or it is not -/
theorem form_iff (hA : tW A) {s : Nat} (hs : s < 4) : (0 ≤ aF A s) ↔ ¬ (aF A s = -1) := by
  rcases hA.2.2.2.2.1 s hs with h | ⟨f, hf, h⟩
  · rw [h]; decide
  · rw [h]
    constructor
    · intro _; exact tn_m1ne (by omega)
    · intro _; exact nI_pos' (by omega)
theorem k_refusal (hA : tW A) {s : Nat} (hs : s < 4) (h : CI A σ) : tq (f_X1_refusal (nI s) σ) (fun r σ' => (aF A s = -1 ∧ r = -11 ∧ CI (tn_An A 1) σ') ∨ (aF A s ≠ -1 ∧ r = 0 ∧ CI A σ')) := by
  unfold f_X1_refusal
  rw [s_noSheet, tn_bds, if_pos (by rw [if_pos (by rw [tn_t (by omega)]; omega)]), tn_ckn hs (by decide), tn_xn (by omega), h.1.2.2.2.2.2.1 s hs]
  by_cases c : aF A s = -1
  · rw [if_pos c]
    exact tq_bd (k_find h 1) (fun r σ1 q => tq_some (Or.inl ⟨c, q.1, q.2⟩))
  · rw [if_neg c]
    exact tq_some (Or.inr ⟨c, rfl, h⟩)
def tn_Af (A : tA) (s : Nat) (f : Int32) : tA := (aL A, aT A, aG A, aH A, aU A, va_up (aF A) s f, aZ A, aI A, aN A)
theorem c_lose (hA : tW A) (x : Int32) : ∃ A', tW A' ∧ tn_P A A' (f_X4_lose x) (f_X5_lose x) := by
  rcases sheet_cases x with c | ⟨s, hs, rfl, c⟩
  · refine ⟨A, hA, -2, fun σ h => ?_, fun σ h => ?_⟩
    · unfold f_X4_lose f_X1_refusal
      rw [s_noSheet, tn_bds, if_neg c, if_neg (by decide), tn_bds, if_neg (by decide)]
      exact tq_some ⟨rfl, h⟩
    · unfold f_X5_lose
      rw [s_isSheet, tn_bds, if_neg c, if_pos rfl]
      exact tq_some ⟨rfl, h⟩
  · have fi := form_iff hA hs
    by_cases d : aF A s = -1
    · refine ⟨tn_An A 1, tW_n hA 1, -11, fun σ h => ?_, fun σ h => ?_⟩
      · unfold f_X4_lose
        refine tq_bd (k_refusal hA hs h) (fun r σ1 q => ?_)
        rcases q with ⟨_, q1, q2⟩ | ⟨q0, _, _⟩
        · rw [q1, if_neg (by decide)]; exact tq_some ⟨rfl, q2⟩
        · exact absurd d q0
      · unfold f_X5_lose
        rw [s_isSheet, tn_bds, if_pos c, if_neg (by decide), tn_ckn hs (by decide), tn_xn (by omega), h.2.2.2.2.2.1 s hs, if_neg (fun w => fi.mp w d)]
        exact tq_bd (m_met h 1) (fun r σ1 q => tq_some ⟨q.1, q.2⟩)
    · refine ⟨tn_Af A s (-1), ⟨hA.1, hA.2.1, hA.2.2.1, hA.2.2.2.1, fun j hj => ?_, hA.2.2.2.2.2⟩, nI (aZ A s), fun σ h => ?_, fun σ h => ?_⟩
      · show va_up (aF A) s (-1) j = -1 ∨ ∃ f, f ≤ 2 ∧ va_up (aF A) s (-1) j = nI f
        unfold va_up
        split
        · exact Or.inl rfl
        · exact hA.2.2.2.2.1 j hj
      · unfold f_X4_lose
        refine tq_bd (k_refusal hA hs h) (fun r σ1 q => ?_)
        rcases q with ⟨q0, _, _⟩ | ⟨_, q1, q2⟩
        · exact absurd q0 d
        · rw [q1, if_pos rfl, tn_ckn hs (by decide), tn_xn (by omega)]
          refine tq_lt ?_
          obtain ⟨⟨g1, g2, g3, g4, g5, g6, g7, g8, g9⟩, p2, p3, p4⟩ := q2
          have ee : ∀ a b, a ≠ 26 → (tn_si σ1 26 s (-1)).1 a b = σ1.1 a b := fun a b hab => by rw [tn_si_1, if_neg (by omega)]
          rw [tn_ckn hs (by decide), ee 27 s (by omega), g7 s hs]
          refine tq_some ⟨rfl, ⟨by rw [ee _ _ (by omega)]; exact g1, fun j hj => by rw [ee _ _ (by omega)]; exact g2 j hj, fun j hj => by rw [ee _ _ (by omega)]; exact g3 j hj, fun j hj => by rw [ee _ _ (by omega)]; exact g4 j hj, fun j hj => by rw [ee _ _ (by omega)]; exact g5 j hj, fun j hj => ?_, fun j hj => by rw [ee _ _ (by omega)]; exact g7 j hj, fun s hs i hi => by rw [ee _ _ (by omega)]; exact g8 s hs i hi, by rw [ee _ _ (by omega)]; exact g9⟩, by rw [ee _ _ (by omega)]; exact p2, cSt_same p3 (fun a b hab => ee a b (by omega)) (tV_A A).2.1, by rw [ee _ _ (by omega)]; exact p4⟩
          show _ = va_up (aF A) s (-1) j
          unfold va_up
          rw [tn_si_1]
          by_cases f : j = s
          · rw [if_pos ⟨rfl, f⟩, if_pos f]
          · rw [if_neg (fun w => f w.2), if_neg f]; exact g6 j hj
      · unfold f_X5_lose
        rw [s_isSheet, tn_bds, if_pos c, if_neg (by decide), tn_ckn hs (by decide), tn_xn (by omega), h.2.2.2.2.2.1 s hs, if_pos (fi.mpr d), tn_ckn hs (by decide)]
        refine tq_lt ?_
        obtain ⟨g1, g2, g3, g4, g5, g6, g7, g8, g9⟩ := h
        have ee : ∀ a b, a ≠ 33 → (tn_si σ 33 s (-1)).1 a b = σ.1 a b := fun a b hab => by rw [tn_si_1, if_neg (by omega)]
        rw [tn_ckn hs (by decide), ee 34 s (by omega), g7 s hs]
        refine tq_some ⟨rfl, by rw [ee _ _ (by omega)]; exact g1, fun j hj => by rw [ee _ _ (by omega)]; exact g2 j hj, fun j hj => by rw [ee _ _ (by omega)]; exact g3 j hj, fun j hj => by rw [ee _ _ (by omega)]; exact g4 j hj, fun j hj => by rw [ee _ _ (by omega)]; exact g5 j hj, fun j hj => ?_, fun j hj => by rw [ee _ _ (by omega)]; exact g7 j hj, fun s hs i hi => by rw [ee _ _ (by omega)]; exact g8 s hs i hi, by rw [ee _ _ (by omega)]; exact g9⟩
        show _ = va_up (aF A) s (-1) j
        unfold va_up
        rw [tn_si_1]
        by_cases f : j = s
        · rw [if_pos ⟨rfl, f⟩, if_pos f]
        · rw [if_neg (fun w => f w.2), if_neg f]; exact g6 j hj
end DE

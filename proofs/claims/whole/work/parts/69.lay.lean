/-! the call: lay -/
section DG
variable {A : tA} {σ : tn_M}
def tn_cut (f v : Int32) : Int32 := if f = 0 then (Int32.toInt8 v).toInt32 else if f = 1 then (Int32.toInt16 v).toInt32 else v
theorem s_cut (f v : Int32) (σ : tn_M) : f_X5_cut f v σ = some (tn_cut f v, σ) := by
  unfold f_X5_cut tn_cut
  split
  · rfl
  · split <;> rfl
def tn_Ai (A : tA) (s j : Nat) (v : Int32) : tA := (aL A, aT A, aG A, aH A, aU A, aF A, aZ A, fun a b => if a = s ∧ b = j then v else aI A a b, aN A)
theorem CI_i (h : CI A σ) {s j : Nat} (hs : s < 4) (v : Int32) : CI (tn_Ai A s j v) (tn_si σ (28 + 1 + s) j v) := by
  obtain ⟨⟨g1, g2, g3, g4, g5, g6, g7, g8, g9⟩, p2, p3, p4⟩ := h
  have ee : ∀ a b, a < 29 → (tn_si σ (28 + 1 + s) j v).1 a b = σ.1 a b := fun a b hab => by rw [tn_si_1, if_neg (by omega)]
  refine ⟨⟨by rw [ee _ _ (by omega)]; exact g1, fun j hj => by rw [ee _ _ (by omega)]; exact g2 j hj, fun j hj => by rw [ee _ _ (by omega)]; exact g3 j hj, fun j hj => by rw [ee _ _ (by omega)]; exact g4 j hj, fun j hj => by rw [ee _ _ (by omega)]; exact g5 j hj, fun j hj => by rw [ee _ _ (by omega)]; exact g6 j hj, fun j hj => by rw [ee _ _ (by omega)]; exact g7 j hj, fun a ha b hb => ?_, by rw [ee _ _ (by omega)]; exact g9⟩, by rw [ee _ _ (by omega)]; exact p2, cSt_same p3 (fun a b hab => ee a b (by omega)) (tV_A A).2.1, by rw [ee _ _ (by omega)]; exact p4⟩
  show _ = if a = s ∧ b = j then v else aI A a b
  rw [tn_si_1]
  by_cases c : a = s ∧ b = j
  · rw [if_pos (by omega), if_pos c]
  · rw [if_neg (by omega), if_neg c]; exact g8 a ha b hb
theorem M0_i (h : M0 A σ) {s j : Nat} (hs : s < 4) (hj : j < 60) (hZ : ∀ a, a < 4 → aZ A a ≤ 60) (v : Int32) : M0 (tn_Ai A s j v) (tn_si σ 35 (60 * s + j) v) := by
  obtain ⟨g1, g2, g3, g4, g5, g6, g7, g8, g9⟩ := h
  have ee : ∀ a b, a ≠ 35 → (tn_si σ 35 (60 * s + j) v).1 a b = σ.1 a b := fun a b hab => by rw [tn_si_1, if_neg (by omega)]
  refine ⟨by rw [ee _ _ (by omega)]; exact g1, fun j hj => by rw [ee _ _ (by omega)]; exact g2 j hj, fun j hj => by rw [ee _ _ (by omega)]; exact g3 j hj, fun j hj => by rw [ee _ _ (by omega)]; exact g4 j hj, fun j hj => by rw [ee _ _ (by omega)]; exact g5 j hj, fun j hj => by rw [ee _ _ (by omega)]; exact g6 j hj, fun j hj => by rw [ee _ _ (by omega)]; exact g7 j hj, fun a ha b hb => ?_, by rw [ee _ _ (by omega)]; exact g9⟩
  show _ = if a = s ∧ b = j then v else aI A a b
  have hb' : b < aZ A a := hb
  have := hZ a ha
  rw [tn_si_1]
  by_cases c : a = s ∧ b = j
  · rw [if_pos (by omega), if_pos c]
  · rw [if_neg (by omega), if_neg c]; exact g8 a ha b hb
theorem k_put (h : CI A σ) {s j : Nat} (hs : s < 4) (hj : j < 60) (v : Int32) : tq (f_X1_put (nI s) (nI j) v σ) (fun _ σ' => CI (tn_Ai A s j (tn_cut (aF A s) v)) σ') := by
  unfold f_X1_put tn_cut
  rw [tn_ckn hs (by decide), tn_xn (show s < 2 ^ 31 by omega), h.1.2.2.2.2.2.1 s hs]
  by_cases c : aF A s = 0
  · rw [if_pos c, if_pos c, tn_ckn hs (by decide), tn_ckn hj (by decide), tn_xn (by omega)]
    exact tq_lt (tq_some (CI_i h hs _))
  · rw [if_neg c, if_neg c, tn_ckn hs (by decide)]
    by_cases d : aF A s = 1
    · rw [if_pos d, if_pos d, tn_ckn hs (by decide), tn_ckn hj (by decide), tn_xn (by omega)]
      exact tq_lt (tq_some (CI_i h hs _))
    · rw [if_neg d, if_neg d, tn_ckn hs (by decide), tn_ckn hj (by decide), tn_xn (by omega)]
      exact tq_lt (tq_some (CI_i h hs _))
theorem c_lay (hA : tW A) (x f i v : Int32) : ∃ A', tW A' ∧ tn_P A A' (f_X4_lay x f i v) (f_X5_lay x f i v) := by
  rcases sheet_cases x with c | ⟨s, hs, rfl, c⟩
  · refine ⟨A, hA, -2, fun σ h => ?_, fun σ h => ?_⟩
    · unfold f_X4_lay f_X1_refusalOfItem
      rw [s_noSheet, tn_bds, if_neg c, if_neg (by decide), tn_bds, if_neg (by decide)]
      exact tq_some ⟨rfl, h⟩
    · unfold f_X5_lay
      rw [s_isSheet, tn_bds, if_neg c, if_pos rfl]
      exact tq_some ⟨rfl, h⟩
  · by_cases hf : 0 ≤ f.toInt ∧ f.toInt ≤ 2
    · have hz := hA.2.2.2.2.2 s hs
      rcases lk_cases A s f i with ⟨l0, l1, l2, l3⟩ | l0
      · obtain ⟨j, hj, rfl⟩ := tn_nat l2 l3
        refine ⟨tn_Ai A s j (tn_cut (aF A s) v), hA, 1, fun σ h => ?_, fun σ h => ?_⟩
        · unfold f_X4_lay
          refine tq_bd (k_item hA hs hf h) (fun r σ1 ⟨q1, q2⟩ => ?_)
          rw [l0] at q1 q2
          rw [q1, if_pos (by decide)]
          have q2 : CI A σ1 := q2
          exact tq_bd (k_put q2 hs (by omega) v) (fun _ σ2 q => tq_some ⟨rfl, q⟩)
        · unfold f_X5_lay
          rw [s_isSheet, tn_bds, if_pos c, if_neg (by decide), tn_inI _ _ _ σ (a := 0) (b := 2) rfl rfl, tn_bds, if_neg (by rw [if_pos hf]; decide)]
          refine tq_bd (m_lacks hA hs h) (fun r σ1 ⟨q1, q2⟩ => ?_)
          rw [l0] at q1 q2
          rw [q1, if_pos (by decide), s_cut, tn_bds, tn_L 60, pk_mul, nI_add, tn_ckn (by omega) (by decide), tn_xn (by omega), ← l1]
          have q2 : M0 A σ1 := q2
          exact tq_lt (tq_some ⟨rfl, M0_i q2 hs (by omega) hA.2.2.2.2.2 _⟩)
      · refine ⟨_, tW_l hA (tn_lk2 A s f i), tn_lr (tn_lk2 A s f i), fun σ h => ?_, fun σ h => ?_⟩
        · unfold f_X4_lay
          refine tq_bd (k_item hA hs hf h) (fun r σ1 ⟨q1, q2⟩ => ?_)
          rw [q1, if_neg l0]
          exact tq_some ⟨rfl, q2⟩
        · unfold f_X5_lay
          rw [s_isSheet, tn_bds, if_pos c, if_neg (by decide), tn_inI _ _ _ σ (a := 0) (b := 2) rfl rfl, tn_bds, if_neg (by rw [if_pos hf]; decide)]
          refine tq_bd (m_lacks hA hs h) (fun r σ1 ⟨q1, q2⟩ => ?_)
          rw [q1, if_neg l0]
          exact tq_some ⟨rfl, q2⟩
    · refine ⟨A, hA, -2, fun σ h => ?_, fun σ h => ?_⟩
      · unfold f_X4_lay f_X1_refusalOfItem
        rw [s_noSheet, tn_bds, if_pos c, if_pos rfl, s_noForm, tn_bds, if_neg hf, if_neg (by decide), tn_bds, if_neg (by decide)]
        exact tq_some ⟨rfl, h⟩
      · unfold f_X5_lay
        rw [s_isSheet, tn_bds, if_pos c, if_neg (by decide), tn_inI _ _ _ σ (a := 0) (b := 2) rfl rfl, tn_bds, if_pos (by rw [if_neg hf])]
        exact tq_some ⟨rfl, h⟩
end DG

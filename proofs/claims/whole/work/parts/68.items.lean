/-! items: get, lay -/
section DF
variable {A : tA} {σ : tn_M}
theorem s_noForm (x : Int32) (σ : tn_M) : f_X1_noForm x σ = some (if 0 ≤ x.toInt ∧ x.toInt ≤ 2 then 0 else 1, σ) := by
  have t0 : (0 : Int32).toInt = 0 := rfl
  have t2 : (2 : Int32).toInt = 2 := rfl
  unfold f_X1_noForm
  by_cases c : x < 0
  · rw [if_pos c, if_neg (by rw [tn_lt32] at c; omega)]
  · rw [if_neg c]
    by_cases d : x ≤ 2
    · rw [if_pos d, if_pos (by rw [tn_lt32] at c; rw [tn_le32] at d; omega)]
    · rw [if_neg d, if_neg (by rw [tn_le32] at d; omega)]
/-- what hinders an item: 0 nothing, else a finding -/
def tn_lk2 (A : tA) (s : Nat) (f i : Int32) : Int32 := if aF A s = -1 then 1 else if aF A s = f then (if 0 ≤ i.toInt ∧ i.toInt < aZ A s then 0 else 2) else 3
def tn_Al (A : tA) (n : Int32) : tA := if n = 0 then A else tn_An A n
def tn_lr (n : Int32) : Int32 := if n = 0 then 0 else -10 - n
theorem k_item (hA : tW A) {s : Nat} (hs : s < 4) {f i : Int32} (hf : 0 ≤ f.toInt ∧ f.toInt ≤ 2) (h : CI A σ) : tq (f_X1_refusalOfItem (nI s) f i σ) (fun r σ' => r = tn_lr (tn_lk2 A s f i) ∧ CI (tn_Al A (tn_lk2 A s f i)) σ') := by
  have hz := hA.2.2.2.2.2 s hs
  have t0 : (0 : Int32).toInt = 0 := rfl
  unfold f_X1_refusalOfItem tn_lk2
  rw [s_noSheet, tn_bds, if_pos (by rw [if_pos (by rw [tn_t (by omega)]; omega)]), s_noForm, tn_bds, if_pos (by rw [if_pos hf]), tn_ckn hs (by decide), tn_xn (by omega), h.1.2.2.2.2.2.1 s hs]
  by_cases c : aF A s = -1
  · rw [if_pos c, if_pos c]
    exact tq_bd (k_find h 1) (fun r σ1 q => tq_some q)
  · rw [if_neg c, if_neg c, tn_ckn hs (by decide)]
    by_cases d : aF A s = f
    · rw [if_pos d, if_pos d]
      by_cases e : i < 0
      · rw [if_pos e, if_neg (by rw [tn_lt32] at e; omega)]
        exact tq_bd (k_find h 2) (fun r σ1 q => tq_some q)
      · rw [if_neg e, tn_ckn hs (by decide), h.1.2.2.2.2.2.2.1 s hs]
        by_cases g : i < nI (aZ A s)
        · rw [if_pos g, if_pos (by rw [tn_lt32, tn_t (by omega)] at g; rw [tn_lt32] at e; omega)]
          exact tq_some ⟨rfl, h⟩
        · rw [if_neg g, if_neg (by rw [tn_lt32, tn_t (by omega)] at g; omega)]
          exact tq_bd (k_find h 2) (fun r σ1 q => tq_some q)
    · rw [if_neg d, if_neg d]
      exact tq_bd (k_find h 3) (fun r σ1 q => tq_some q)
theorem m_lacks (hA : tW A) {s : Nat} (hs : s < 4) {f i : Int32} (h : M0 A σ) : tq (f_X5_lacks (nI s) f i σ) (fun r σ' => r = tn_lr (tn_lk2 A s f i) ∧ M0 (tn_Al A (tn_lk2 A s f i)) σ') := by
  have hz := hA.2.2.2.2.2 s hs
  have fi := form_iff hA hs
  unfold f_X5_lacks tn_lk2
  rw [tn_ckn hs (by decide), tn_xn (by omega), h.2.2.2.2.2.1 s hs]
  by_cases c : aF A s = -1
  · rw [if_pos c, if_neg (fun w => fi.mp w c)]
    exact tq_bd (m_met h 1) (fun r σ1 q => tq_some q)
  · rw [if_neg c, if_pos (fi.mpr c), tn_ckn hs (by decide)]
    by_cases d : aF A s = f
    · rw [if_pos d, if_pos d, tn_ckn hs (by decide), h.2.2.2.2.2.2.1 s hs, tn_inI _ _ _ σ (a := 0) (b := (aZ A s : Int) - 1) rfl (by rw [tn_t64]; exact tn_sub1 (by omega)), tn_bds]
      by_cases g : 0 ≤ i.toInt ∧ i.toInt < aZ A s
      · rw [if_pos g, if_neg (by rw [if_pos (by omega)]; decide)]
        exact tq_some ⟨rfl, h⟩
      · rw [if_neg g, if_pos (by rw [if_neg (by omega)])]
        exact tq_bd (m_met h 2) (fun r σ1 q => tq_some q)
    · rw [if_neg d, if_neg d]
      exact tq_bd (m_met h 3) (fun r σ1 q => tq_some q)
theorem lk_cases (A : tA) (s : Nat) (f i : Int32) : (tn_lk2 A s f i = 0 ∧ aF A s = f ∧ 0 ≤ i.toInt ∧ i.toInt < aZ A s) ∨ (tn_lr (tn_lk2 A s f i) ≠ 0) := by
  unfold tn_lk2
  split
  · exact Or.inr (by decide)
  · split
    · next h =>
      split
      · next g => exact Or.inl ⟨rfl, h, g.1, g.2⟩
      · exact Or.inr (by decide)
    · exact Or.inr (by decide)
theorem tW_l (hA : tW A) (n : Int32) : tW (tn_Al A n) := by
  unfold tn_Al
  split
  · exact hA
  · exact tW_n hA n
theorem c_get (hA : tW A) (x f i : Int32) : ∃ A', tW A' ∧ tn_P A A' (f_X4_get x f i) (f_X5_get x f i) := by
  rcases sheet_cases x with c | ⟨s, hs, rfl, c⟩
  · refine ⟨A, hA, -2147483648, fun σ h => ?_, fun σ h => ?_⟩
    · unfold f_X4_get f_X1_refusalOfItem
      rw [s_noSheet, tn_bds, if_neg c, if_neg (by decide), tn_bds, if_neg (by decide)]
      exact tq_some ⟨rfl, h⟩
    · unfold f_X5_get
      rw [s_isSheet, tn_bds, if_neg c, if_pos rfl]
      exact tq_some ⟨rfl, h⟩
  · by_cases hf : 0 ≤ f.toInt ∧ f.toInt ≤ 2
    · have hz := hA.2.2.2.2.2 s hs
      rcases lk_cases A s f i with ⟨l0, l1, l2, l3⟩ | l0
      · obtain ⟨j, hj, rfl⟩ := tn_nat l2 l3
        refine ⟨A, hA, aI A s j, fun σ h => ?_, fun σ h => ?_⟩
        · unfold f_X4_get
          refine tq_bd (k_item hA hs hf h) (fun r σ1 ⟨q1, q2⟩ => ?_)
          rw [l0] at q1 q2
          rw [q1, if_pos (by decide), tn_ckn hs (by decide), tn_ckn (by omega) (by decide), tn_xn (by omega), tn_xn (by omega)]
          have q2 : CI A σ1 := q2
          exact tq_some ⟨q2.1.2.2.2.2.2.2.2.1 s hs j hj, q2⟩
        · unfold f_X5_get
          rw [s_isSheet, tn_bds, if_pos c, if_neg (by decide), tn_inI _ _ _ σ (a := 0) (b := 2) rfl rfl, tn_bds, if_neg (by rw [if_pos hf]; decide)]
          refine tq_bd (m_lacks hA hs h) (fun r σ1 ⟨q1, q2⟩ => ?_)
          rw [l0] at q1 q2
          rw [q1, if_pos (by decide), tn_L 60, pk_mul, nI_add, tn_ckn (by omega) (by decide), tn_xn (by omega)]
          have q2 : M0 A σ1 := q2
          exact tq_some ⟨q2.2.2.2.2.2.2.2.1 s hs j hj, q2⟩
      · refine ⟨_, tW_l hA (tn_lk2 A s f i), -2147483648, fun σ h => ?_, fun σ h => ?_⟩
        · unfold f_X4_get
          refine tq_bd (k_item hA hs hf h) (fun r σ1 ⟨q1, q2⟩ => ?_)
          rw [q1, if_neg l0]
          exact tq_some ⟨rfl, q2⟩
        · unfold f_X5_get
          rw [s_isSheet, tn_bds, if_pos c, if_neg (by decide), tn_inI _ _ _ σ (a := 0) (b := 2) rfl rfl, tn_bds, if_neg (by rw [if_pos hf]; decide)]
          refine tq_bd (m_lacks hA hs h) (fun r σ1 ⟨q1, q2⟩ => ?_)
          rw [q1, if_neg l0]
          exact tq_some ⟨rfl, q2⟩
    · refine ⟨A, hA, -2147483648, fun σ h => ?_, fun σ h => ?_⟩
      · unfold f_X4_get f_X1_refusalOfItem
        rw [s_noSheet, tn_bds, if_pos c, if_pos rfl, s_noForm, tn_bds, if_neg hf, if_neg (by decide), tn_bds, if_neg (by decide)]
        exact tq_some ⟨rfl, h⟩
      · unfold f_X5_get
        rw [s_isSheet, tn_bds, if_pos c, if_neg (by decide), tn_inI _ _ _ σ (a := 0) (b := 2) rfl rfl, tn_bds, if_pos (by rw [if_neg hf])]
        exact tq_some ⟨rfl, h⟩
end DF

/-! the call: read -/
section ED
variable {A : tA} {σ : tn_M}
def tn_Ah (A : tA) (k v : Nat) : tA := (aL A, aT A, aG A, va_up (aH A) k v, aU A, aF A, aZ A, aI A, aN A)
theorem tW_h (hA : tW A) {k v : Nat} (hv : v ≤ 3) : tW (tn_Ah A k v) := by
  refine ⟨hA.1, hA.2.1, fun j hj => ?_, hA.2.2.2⟩
  show va_up (aH A) k v j ≤ 3
  unfold va_up
  split
  · exact hv
  · exact hA.2.2.1 j hj
theorem up_nI (f : Nat → Nat) (k v j : Nat) : nI (va_up f k v j) = if j = k then nI v else nI (f j) := by
  unfold va_up
  split <;> rfl
theorem CI_h (h : CI A σ) (k v : Nat) : CI (tn_Ah A k v) (tn_si σ 7 k (nI v)) := by
  have ee : ∀ a b, a ≠ 7 → (tn_si σ 7 k (nI v)).1 a b = σ.1 a b := fun a b hab => by rw [tn_si_1, if_neg (by omega)]
  obtain ⟨⟨g1, g2, g3, g4, g5⟩, p2, p3, p4⟩ := h
  refine ⟨⟨by rw [ee _ _ (by omega)]; exact g1, fun j hj => by rw [ee _ _ (by omega)]; exact g2 j hj, fun j hj => by rw [ee _ _ (by omega)]; exact g3 j hj, fun j hj => ?_, fun j hj => by rw [ee _ _ (by omega)]; exact g5.1 j hj, fun j hj => by rw [ee _ _ (by omega)]; exact g5.2.1 j hj, fun j hj => by rw [ee _ _ (by omega)]; exact g5.2.2.1 j hj, fun s hs i hi => by rw [ee _ _ (by omega)]; exact g5.2.2.2.1 s hs i hi, by rw [ee _ _ (by omega)]; exact g5.2.2.2.2⟩, by rw [ee _ _ (by omega)]; exact p2, cSt_same p3 (fun a b hab => ee a b (by omega)) (tV_A A).2.1, by rw [ee _ _ (by omega)]; exact p4⟩
  rw [tn_si_1]
  show _ = nI (va_up (aH A) k v j)
  rw [up_nI]
  by_cases d : j = k
  · rw [if_pos ⟨rfl, d⟩, if_pos d]
  · rw [if_neg (fun w => d w.2), if_neg d]; exact g4 j hj
theorem M0_h (h : M0 A σ) (k v : Nat) : M0 (tn_Ah A k v) (tn_si σ 42 k (nI v)) := by
  have ee : ∀ a b, a ≠ 42 → (tn_si σ 42 k (nI v)).1 a b = σ.1 a b := fun a b hab => by rw [tn_si_1, if_neg (by omega)]
  obtain ⟨g1, g2, g3, g4, g5⟩ := h
  refine ⟨by rw [ee _ _ (by omega)]; exact g1, fun j hj => by rw [ee _ _ (by omega)]; exact g2 j hj, fun j hj => by rw [ee _ _ (by omega)]; exact g3 j hj, fun j hj => ?_, fun j hj => by rw [ee _ _ (by omega)]; exact g5.1 j hj, fun j hj => by rw [ee _ _ (by omega)]; exact g5.2.1 j hj, fun j hj => by rw [ee _ _ (by omega)]; exact g5.2.2.1 j hj, fun s hs i hi => by rw [ee _ _ (by omega)]; exact g5.2.2.2.1 s hs i hi, by rw [ee _ _ (by omega)]; exact g5.2.2.2.2⟩
  rw [tn_si_1]
  show _ = nI (va_up (aH A) k v j)
  rw [up_nI]
  by_cases d : j = k
  · rw [if_pos ⟨rfl, d⟩, if_pos d]
  · rw [if_neg (fun w => d w.2), if_neg d]; exact g4 j hj
theorem m_hbad {k : Int32} {v : Int32} (c : ¬ ((0 ≤ k.toInt ∧ k.toInt ≤ 4) ∧ (0 ≤ v.toInt ∧ v.toInt ≤ 3))) : f_X5_hours k v σ = some (-2, σ) := by
  unfold f_X5_hours
  rw [tn_inI _ _ _ σ (a := 0) (b := 4) rfl rfl, tn_bds]
  by_cases d1 : 0 ≤ k.toInt ∧ k.toInt ≤ 4
  · rw [if_neg (by rw [if_pos d1]; decide), tn_inI _ _ _ σ (a := 0) (b := 3) rfl rfl, tn_bds, if_pos (by rw [if_neg (fun w => c ⟨d1, w⟩)])]
  · rw [if_pos (by rw [if_neg d1])]
theorem m_hgood (h : M0 A σ) {k v : Nat} (hk : k < 5) (hv : v ≤ 3) : f_X5_hours (nI k) (nI v) σ = some (nI (aH A k), tn_si σ 42 k (nI v)) := by
  have tk := tn_t (j := k) (by omega)
  have tv := tn_t (j := v) (by omega)
  unfold f_X5_hours
  rw [tn_inI _ _ _ σ (a := 0) (b := 4) rfl rfl, tn_bds, if_neg (by rw [if_pos (by omega)]; decide), tn_inI _ _ _ σ (a := 0) (b := 3) rfl rfl, tn_bds, if_neg (by rw [if_pos (by omega)]; decide), tn_ckn hk (by decide), tn_xn (by omega), h.2.2.2.1 k hk]
  unfold tn_lt
  dsimp only
  rw [tn_ckn hk (by decide)]
def tn_m5 (z : Nat) : Nat := if z < 5 then z else 5
theorem r_loop {s : Nat} (hs : s < 4) : ∀ d j (A : tA), tW A → j + d = 5 → j ≤ aZ A s → ∃ r A', tW A' ∧ (∀ n σ, d < n → CI A σ → tq (F_X4_read_32 n (nI s) (nI (tn_m5 (aZ A s))) (nI j) σ) (fun x σ' => x = r ∧ CI A' σ')) ∧ (∀ n σ, d < n → M0 A σ → tq (F_X5_read_27 n (nI s) (nI j) σ) (fun x σ' => x = r ∧ M0 A' σ')) := by
  have t0 : (0 : Int32).toInt = 0 := rfl
  have t3 : (3 : Int32).toInt = 3 := rfl
  intro d
  induction d with
  | zero =>
    intro j A hA h1 h2
    have hz := hA.2.2.2.2.2 s hs
    have : j = 5 := by omega
    subst this
    have e5 : tn_m5 (aZ A s) = 5 := by unfold tn_m5; rw [if_neg (by omega)]
    refine ⟨nI 5, A, hA, fun n σ hn h => ?_, fun n σ hn h => ?_⟩
    · obtain ⟨m, rfl⟩ : ∃ m, n = m + 1 := ⟨n - 1, by omega⟩
      rw [F_X4_read_32, e5, if_pos (nI_le (Nat.le_refl _) (by omega))]
      exact tq_some ⟨rfl, h⟩
    · obtain ⟨m, rfl⟩ : ∃ m, n = m + 1 := ⟨n - 1, by omega⟩
      rw [F_X5_read_27, tn_ckn hs (by decide), tn_xn (show s < 2 ^ 31 by omega), h.2.2.2.2.2.2.1 s hs]
      by_cases w : aZ A s ≤ 5
      · rw [if_pos (nI_le w (by omega))]
        exact tq_some ⟨rfl, h⟩
      · rw [if_neg (nI_ge (by omega) (by omega)), tn_L 60, pk_mul, nI_add, tn_ckn (by omega) (by decide), m_hbad (by rw [tn_t (by omega)]; omega), tn_bds, if_pos (by decide)]
        exact tq_some ⟨rfl, h⟩
  | succ d ih =>
    intro j A hA h1 h2
    have hz := hA.2.2.2.2.2 s hs
    have m5 : tn_m5 (aZ A s) ≤ 5 := by unfold tn_m5; split <;> omega
    by_cases w : aZ A s = j
    · have e5 : tn_m5 (aZ A s) = j := by unfold tn_m5; rw [if_pos (by omega), w]
      refine ⟨nI j, A, hA, fun n σ hn h => ?_, fun n σ hn h => ?_⟩
      · obtain ⟨m, rfl⟩ : ∃ m, n = m + 1 := ⟨n - 1, by omega⟩
        rw [F_X4_read_32, e5, if_pos (nI_le (Nat.le_refl _) (by omega))]
        exact tq_some ⟨rfl, h⟩
      · obtain ⟨m, rfl⟩ : ∃ m, n = m + 1 := ⟨n - 1, by omega⟩
        rw [F_X5_read_27, tn_ckn hs (by decide), tn_xn (show s < 2 ^ 31 by omega), h.2.2.2.2.2.2.1 s hs, if_pos (nI_le (by omega) (by omega))]
        exact tq_some ⟨rfl, h⟩
    · have hj : j < aZ A s := by omega
      have jm : j < tn_m5 (aZ A s) := by unfold tn_m5; split <;> omega
      by_cases hv : 0 ≤ (aI A s j).toInt ∧ (aI A s j).toInt ≤ 3
      · obtain ⟨v, hv4, ev⟩ := tn_nat (n := 4) hv.1 (by omega)
        obtain ⟨r, A', hA', q1, q2⟩ := ih (j + 1) (tn_Ah A j v) (tW_h hA (by omega)) (by omega) (show j + 1 ≤ aZ A s by omega)
        refine ⟨r, A', hA', fun n σ hn h => ?_, fun n σ hn h => ?_⟩
        · obtain ⟨m, rfl⟩ : ∃ m, n = m + 1 := ⟨n - 1, by omega⟩
          have e1 : σ.1 (28 + 1 + s) j = nI v := by rw [← ev]; exact h.1.2.2.2.2.2.2.2.1 s hs j hj
          rw [F_X4_read_32, if_neg (nI_ge jm (by omega)), tn_ckn hs (by decide), tn_ckn (show j < 60 by omega) (by decide), tn_xn (show s < 2 ^ 31 by omega), tn_xn (show j < 2 ^ 31 by omega), e1, nI_1]
          refine tq_lt ?_
          rw [if_neg (nI_pos (by omega)), tn_L 3, if_pos (nI_le (by omega) (by omega)), tn_ckn (show j < 5 by omega) (by decide)]
          exact tq_lt (q1 m _ (by omega) (CI_h h j v))
        · obtain ⟨m, rfl⟩ : ∃ m, n = m + 1 := ⟨n - 1, by omega⟩
          have e1 : σ.1 35 (60 * s + j) = nI v := by rw [← ev]; exact h.2.2.2.2.2.2.2.1 s hs j hj
          have hk := hA.2.2.1 j (by omega)
          rw [F_X5_read_27, tn_ckn hs (by decide), tn_xn (show s < 2 ^ 31 by omega), h.2.2.2.2.2.2.1 s hs, if_neg (nI_ge hj (by omega)), tn_L 60, pk_mul, nI_add, tn_ckn (by omega) (by decide), tn_xn (by omega), e1, m_hgood h (by omega) (by omega), tn_bds, if_neg (nI_pos (by omega)), nI_1]
          exact q2 m _ (by omega) (M0_h h j v)
      · refine ⟨nI j, A, hA, fun n σ hn h => ?_, fun n σ hn h => ?_⟩
        · obtain ⟨m, rfl⟩ : ∃ m, n = m + 1 := ⟨n - 1, by omega⟩
          have e1 : σ.1 (28 + 1 + s) j = aI A s j := h.1.2.2.2.2.2.2.2.1 s hs j hj
          rw [F_X4_read_32, if_neg (nI_ge jm (by omega)), tn_ckn hs (by decide), tn_ckn (show j < 60 by omega) (by decide), tn_xn (show s < 2 ^ 31 by omega), tn_xn (show j < 2 ^ 31 by omega), e1]
          refine tq_lt ?_
          by_cases c0 : aI A s j < 0
          · rw [if_pos c0]; exact tq_some ⟨rfl, h⟩
          · rw [if_neg c0, if_neg (by rw [tn_lt32] at c0; rw [tn_le32]; omega)]; exact tq_some ⟨rfl, h⟩
        · obtain ⟨m, rfl⟩ : ∃ m, n = m + 1 := ⟨n - 1, by omega⟩
          have e1 : σ.1 35 (60 * s + j) = aI A s j := h.2.2.2.2.2.2.2.1 s hs j hj
          rw [F_X5_read_27, tn_ckn hs (by decide), tn_xn (show s < 2 ^ 31 by omega), h.2.2.2.2.2.2.1 s hs, if_neg (nI_ge hj (by omega)), tn_L 60, pk_mul, nI_add, tn_ckn (by omega) (by decide), tn_xn (by omega), e1, m_hbad (fun q => hv q.2), tn_bds, if_pos (by decide)]
          exact tq_some ⟨rfl, h⟩
theorem c_read (hA : tW A) (x : Int32) : ∃ A', tW A' ∧ tn_P A A' (f_X4_read x) (f_X5_read x) := by
  rcases sheet_cases x with c | ⟨s, hs, rfl, c⟩
  · refine ⟨A, hA, -2, fun σ h => ?_, fun σ h => ?_⟩
    · unfold f_X4_read f_X1_refusal
      rw [s_noSheet, tn_bds, if_neg c, if_neg (by decide), tn_bds, if_neg (by decide)]
      exact tq_some ⟨rfl, h⟩
    · unfold f_X5_read
      rw [s_isSheet, tn_bds, if_neg c, if_pos rfl]
      exact tq_some ⟨rfl, h⟩
  · have fi := form_iff hA hs
    have hz := hA.2.2.2.2.2 s hs
    by_cases d : aF A s = -1
    · refine ⟨tn_An A 1, tW_n hA 1, -11, fun σ h => ?_, fun σ h => ?_⟩
      · unfold f_X4_read
        refine tq_bd (k_refusal hA hs h) (fun r σ1 q => ?_)
        rcases q with ⟨_, q1, q2⟩ | ⟨q0, _, _⟩
        · rw [q1, if_neg (by decide)]; exact tq_some ⟨rfl, q2⟩
        · exact absurd d q0
      · unfold f_X5_read
        rw [s_isSheet, tn_bds, if_pos c, if_neg (by decide), tn_ckn hs (by decide), tn_xn (by omega), h.2.2.2.2.2.1 s hs, if_neg (fun w => fi.mp w d)]
        exact tq_bd (m_met h 1) (fun r σ1 q => tq_some ⟨q.1, q.2⟩)
    · obtain ⟨r, A', hA', q1, q2⟩ := r_loop hs 5 0 A hA (by omega) (by omega)
      refine ⟨A', hA', r, fun σ h => ?_, fun σ h => ?_⟩
      · unfold f_X4_read
        refine tq_bd (k_refusal hA hs h) (fun r σ1 q => ?_)
        rcases q with ⟨q0, _, _⟩ | ⟨_, p1, p2⟩
        · exact absurd q0 d
        · have e27 : σ1.1 27 s = nI (aZ A s) := p2.1.2.2.2.2.2.2.1 s hs
          have ev : (if nI (aZ A s) < 5 then nI (aZ A s) else 5) = nI (tn_m5 (aZ A s)) := by
            unfold tn_m5
            rw [tn_L 5]
            by_cases w : aZ A s < 5
            · rw [if_pos (nI_lt w (by omega)), if_pos w]
            · rw [if_neg (nI_nlt (by omega) (by omega)), if_neg w]
          rw [p1, if_pos rfl, tn_ckn hs (by decide), tn_xn (show s < 2 ^ 31 by omega), e27, ev]
          exact tq_lt (q1 tn_fuel σ1 (by unfold tn_fuel; omega) p2)
      · unfold f_X5_read
        rw [s_isSheet, tn_bds, if_pos c, if_neg (by decide), tn_ckn hs (by decide), tn_xn (show s < 2 ^ 31 by omega), h.2.2.2.2.2.1 s hs, if_pos (fi.mpr d)]
        exact q2 tn_fuel σ (by unfold tn_fuel; omega) h
end ED

section EP
variable {A : tA} {σ : tn_M}
/-! the model -/
theorem m_d6 (hA : tW A) (x : Int64) (h : M0 A σ) : tq (F_X5_digest_262 x σ) (fun r σ' => r = tn_d6 A x ∧ M0 A σ') := by
  unfold F_X5_digest_262
  refine tq_bd (m_back hA h) (fun r σ1 ⟨q1, q2⟩ => ?_)
  rw [q1]
  exact tq_some ⟨rfl, q2⟩
theorem m_d5 (hA : tW A) : ∀ d n j x (τ : tn_M), j + d = 8 → d < n → M0 A τ → tq (F_X5_digest_236 n x (nI j) τ) (fun r σ' => r = tn_d6 A (tn_d5 A d j x) ∧ M0 A σ') := by
  intro d
  induction d with
  | zero =>
    intro n j x τ h1 h2 q
    obtain ⟨w, rfl⟩ : ∃ w, n = w + 1 := ⟨n - 1, by omega⟩
    have : j = 8 := by omega
    subst this
    rw [F_X5_digest_236, if_pos (by decide)]
    unfold tn_d5
    exact m_d6 hA x q
  | succ d ih =>
    intro n j x τ h1 h2 q
    obtain ⟨w, rfl⟩ : ∃ w, n = w + 1 := ⟨n - 1, by omega⟩
    rw [F_X5_digest_236, tn_L 8, if_neg (nI_ge (by omega) (by omega)), nI_1]
    refine tq_bd (m_weeksOf hA (w := 5) (j := j) (by omega) (by omega) q) (fun r τ1 ⟨q1, h1⟩ => ?_)
    rw [q1]
    unfold tn_d5
    exact tq_lt (ih w (j + 1) _ τ1 (by omega) (by omega) h1)
theorem m_d4 (hA : tW A) (x : Int64) (h : M0 A σ) : tq (F_X5_digest_169 x σ) (fun r σ' => r = tn_d6 A (tn_d5 A 8 0 (tn_d4 A x)) ∧ M0 A σ') := by
  unfold F_X5_digest_169 tn_d4
  refine tq_bd (m_restOf hA (Or.inl rfl) h) (fun r σ1 ⟨q1, h1⟩ => tq_lt ?_)
  refine tq_bd (m_stillOf hA (k := 0) (Or.inl rfl) h1) (fun r2 σ2 ⟨q2, h2⟩ => tq_lt ?_)
  refine tq_bd (m_leastNow hA h2) (fun r3 σ3 ⟨q3, h3⟩ => tq_lt ?_)
  refine tq_bd (m_keepsOf hA 0 h3) (fun r4 σ4 ⟨q4, h4⟩ => tq_lt ?_)
  refine tq_bd (m_keepsOf hA 1 h4) (fun r5 σ5 ⟨q5, h5⟩ => tq_lt ?_)
  rw [q1, q2, q3, q4, q5]
  exact m_d5 hA 8 tn_fuel 0 _ σ5 (by omega) (by unfold tn_fuel; omega) h5
theorem m_d3 (hA : tW A) (x : Int64) (h : M0 A σ) : tq (F_X5_digest_139 x σ) (fun r σ' => r = tn_d6 A (tn_d5 A 8 0 (tn_d4 A (tn_d3 A x))) ∧ M0 A σ') := by
  unfold F_X5_digest_139 tn_d3
  obtain ⟨w, hw⟩ : ∃ w, tn_fuel = w + 5 := ⟨1995, rfl⟩
  have a0 : (0 : Int32) / 2 = nI 0 ∧ (0 : Int32) - 0 / 2 * 2 = 0 := by decide
  have a1 : ((0 : Int32) + 1) / 2 = nI 0 ∧ ((0 : Int32) + 1) - (0 + 1) / 2 * 2 = 1 := by decide
  have a2 : ((0 : Int32) + 1 + 1) / 2 = nI 1 ∧ ((0 : Int32) + 1 + 1) - (0 + 1 + 1) / 2 * 2 = 0 := by decide
  have a3 : ((0 : Int32) + 1 + 1 + 1) / 2 = nI 1 ∧ ((0 : Int32) + 1 + 1 + 1) - (0 + 1 + 1 + 1) / 2 * 2 = 1 := by decide
  rw [hw, F_X5_digest_141, if_neg (by decide), a0.2, a0.1]
  refine tq_bd (m_allOf hA (w := 0) (by omega) 0 h) (fun r σ1 ⟨q1, h1⟩ => tq_lt ?_)
  rw [F_X5_digest_141, if_neg (by decide), a1.2, a1.1]
  refine tq_bd (m_allOf hA (w := 0) (by omega) 1 h1) (fun r2 σ2 ⟨q2, h2⟩ => tq_lt ?_)
  rw [F_X5_digest_141, if_neg (by decide), a2.2, a2.1]
  refine tq_bd (m_allOf hA (w := 1) (by omega) 0 h2) (fun r3 σ3 ⟨q3, h3⟩ => tq_lt ?_)
  rw [F_X5_digest_141, if_neg (by decide), a3.2, a3.1]
  refine tq_bd (m_allOf hA (w := 1) (by omega) 1 h3) (fun r4 σ4 ⟨q4, h4⟩ => tq_lt ?_)
  rw [F_X5_digest_141, if_pos (by decide), q1, q2, q3, q4]
  exact m_d4 hA _ h4
theorem m_bestOf8 (hA : tW A) {w k : Nat} (hw : w < 2) (hk : k < sn (tn_SA A)) (h : M0 A σ) : tq (f_X5_bestOf (nI w) (nI k) σ) (fun r σ' => r = nI (tn_pf (sn (tn_SA A)) (tn_bA A w).1 (aH A) k) ∧ M0 A σ' ∧ σ'.1 5 8 = nI (sn (tn_SA A))) := by
  have hV := tVe_A hA
  have hn := (tV_A A).1
  have hb := bA_lt A w
  unfold f_X5_bestOf
  refine tq_bd (m_findBest hA hw h) (fun r σ1 ⟨q1, _, v, q3, q4⟩ => ?_)
  rw [q1]
  refine tq_bd (m_lays hV q3 (c := (tn_bA A w).1) (by omega)) (fun _ σ2 q5 => ?_)
  rw [tn_ckn (by omega) (by decide), tn_xn (by omega), q5.1.un (by omega)]
  have := q4 (tn_bA A w).1
  refine tq_some ⟨?_, q5.2, q5.1.st.1⟩
  show nI (tn_pf (sn (tn_SA A)) _ v k) = _
  rw [this]
/-- the model's street stands behind each of its answers -/
theorem m_d2 (hA : tW A) : ∀ d n k x (τ : tn_M), k + d = sn (tn_SA A) → d < n → M0 A τ → τ.1 5 8 = nI (sn (tn_SA A)) → tq (F_X5_digest_45 n x (nI k) τ) (fun r σ' => r = tn_d6 A (tn_d5 A 8 0 (tn_d4 A (tn_d3 A (tn_d2 A d k x)))) ∧ M0 A σ') := by
  have hn := (tV_A A).1
  have hV := tVe_A hA
  intro d
  induction d with
  | zero =>
    intro n k x τ h1 h2 q h8
    obtain ⟨w, rfl⟩ : ∃ w, n = w + 1 := ⟨n - 1, by omega⟩
    have : k = sn (tn_SA A) := by omega
    subst this
    rw [F_X5_digest_45, h8, if_pos (nI_le (Nat.le_refl _) (by omega))]
    unfold tn_d2
    exact m_d3 hA x q
  | succ d ih =>
    intro n k x τ h1 h2 q h8
    obtain ⟨w, rfl⟩ : ∃ w, n = w + 1 := ⟨n - 1, by omega⟩
    have hk : k < sn (tn_SA A) := by omega
    rw [F_X5_digest_45, h8, if_neg (nI_ge (by omega) (by omega)), nI_1]
    refine tq_bd (m_earnsOf hA hk 0 q) (fun r σ1 ⟨q1, h1⟩ => tq_lt ?_)
    refine tq_bd (m_earnsOf hA hk 1 h1) (fun r2 σ2 ⟨q2, h2⟩ => tq_lt ?_)
    refine tq_bd (m_answerNow hA hk h2) (fun r3 σ3 ⟨q3, h3⟩ => tq_lt ?_)
    refine tq_bd (m_restOf hA (Or.inr ⟨k, hk, rfl⟩) h3) (fun r4 σ4 ⟨q4, h4⟩ => tq_lt ?_)
    refine tq_bd (m_bestOf hA (w := 0) (by omega) hk h4) (fun r5 σ5 ⟨q5, h5⟩ => tq_lt ?_)
    refine tq_bd (m_bestOf8 hA (w := 1) (by omega) hk h5) (fun r6 σ6 ⟨q6, h6, h7⟩ => tq_lt ?_)
    unfold tn_d2 tn_d2s
    rw [q1, q2, q3, q4, q5, q6]
    exact ih w (k + 1) _ σ6 (by omega) (by omega) h6 h7
theorem m_d1 (hA : tW A) : ∀ d n j x (τ : tn_M), j + d = 8 → d < n → M0 A τ → tq (F_X5_digest_6 n x (nI j) τ) (fun r σ' => r = tn_d6 A (tn_d5 A 8 0 (tn_d4 A (tn_d3 A (tn_d2 A (sn (tn_SA A)) 0 (31 * tn_d1 A d j x + Int32.toInt64 (tn_prs (aT A) (aL A)).1))))) ∧ M0 A σ') := by
  have hn := (tV_A A).1
  intro d
  induction d with
  | zero =>
    intro n j x τ h1 h2 q
    obtain ⟨w, rfl⟩ : ∃ w, n = w + 1 := ⟨n - 1, by omega⟩
    have : j = 8 := by omega
    subst this
    rw [F_X5_digest_6, if_pos (by decide)]
    unfold F_X5_digest_31 tn_d1
    refine tq_bd (s_rd hA q) (fun r σ1 ⟨q1, q2, q3⟩ => tq_lt ?_)
    rw [q1]
    exact m_d2 hA (sn (tn_SA A)) tn_fuel 0 _ σ1 (by omega) (by unfold tn_fuel; omega) q3 q2.1
  | succ d ih =>
    intro n j x τ h1 h2 q
    obtain ⟨w, rfl⟩ : ∃ w, n = w + 1 := ⟨n - 1, by omega⟩
    rw [F_X5_digest_6, tn_L 8, if_neg (nI_ge (by omega) (by omega)), nI_1]
    refine tq_bd (m_count hA (nI j) q) (fun r τ1 ⟨q1, h1⟩ => ?_)
    rw [q1]
    unfold tn_d1
    exact tq_lt (ih w (j + 1) _ τ1 (by omega) (by omega) h1)
theorem c_digest (hA : tW A) : tn_P A A f_X4_digest f_X5_digest := ⟨_, fun σ h => k_d1 hA 8 tn_fuel 0 17 σ (by omega) (by unfold tn_fuel; omega) h, fun σ h => m_d1 hA 8 tn_fuel 0 17 σ (by omega) (by unfold tn_fuel; omega) h⟩
end EP

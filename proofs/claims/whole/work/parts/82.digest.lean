/-! the call: digest -/
section EO
variable {A : tA} {σ : tn_M}
theorem in_nI {k : Nat} (hk : k < sn (tn_SA A)) : 0 ≤ (nI k).toInt ∧ (nI k).toInt < sn (tn_SA A) := by
  have hn := (tV_A A).1
  rw [tn_t (by omega)]
  omega
theorem k_earns (hA : tW A) {k : Nat} (hk : k < sn (tn_SA A)) (y : Int32) (hy : 0 ≤ y.toInt ∧ y.toInt ≤ 1) (h : CI A σ) : tq (f_X4_earns (nI k) y σ) (fun r σ' => r = tn_frc (tn_ea (tn_eA A) (tn_hA A) (aH A) k) y ∧ CI A σ') := by
  unfold f_X4_earns
  rw [s_noShop h.2.2.1, tn_bds, if_pos (in_nI hk), if_pos rfl, s_noSide, tn_bds, if_pos hy, if_pos rfl]
  refine tq_bd (k_scene hA h) (fun _ σ1 q => ?_)
  rw [s_earning (tVe_A hA) q.1 hk, tn_bds, (s_frc _ _ _).1, tn_bds]
  exact tq_some ⟨rfl, q.2⟩
theorem k_answer (hA : tW A) {k : Nat} (hk : k < sn (tn_SA A)) (h : CI A σ) : tq (f_X4_answer (nI k) σ) (fun r σ' => r = nI (tn_rp (tn_eA A) (tn_hA A) (aH A) (tn_lm (tn_eA A) 3) k) ∧ CI A σ') := by
  unfold f_X4_answer
  rw [s_noShop h.2.2.1, tn_bds, if_pos (in_nI hk), if_pos rfl]
  exact tq_bd (k_scene hA h) (fun _ σ1 q => tq_bd (k_reply (tVe_A hA) q hk) (fun r σ2 q2 => tq_some ⟨q2.1, q2.2.2⟩))
theorem k_all (hA : tW A) {w : Nat} (hw : w < 2) (y : Int32) (hy : 0 ≤ y.toInt ∧ y.toInt ≤ 1) (h : CI A σ) : tq (f_X4_all (nI w) y σ) (fun r σ' => r = tn_frc (tn_aim (tn_eA A) (tn_hA A) (aH A) w) y ∧ CI A σ') := by
  have n1 : ¬ nI w < 0 := nI_pos (by omega)
  have n2 : ¬ 1 < nI w := nI_nlt (a := 1) (b := w) (by omega) (by omega)
  unfold f_X4_all
  rw [if_neg n1, if_neg n2, s_noSide, tn_bds, if_pos hy, if_pos rfl]
  refine tq_bd (k_scene hA h) (fun _ σ1 q => ?_)
  rw [s_aim (tVe_A hA) q.1 (by omega), tn_bds, (s_frc _ _ _).1, tn_bds]
  exact tq_some ⟨rfl, q.2⟩
/-- the digest's folds -/
def tn_d1 (A : tA) : Nat → Nat → Int64 → Int64
  | 0, _, x => x
  | d + 1, j, x => tn_d1 A d (j + 1) (31 * x + Int32.toInt64 (tn_ct A (nI j)))
noncomputable def tn_d2s (A : tA) (k : Nat) (x : Int64) : Int64 :=
  31 * (31 * (31 * (31 * (31 * (31 * x + tn_frc (tn_ea (tn_eA A) (tn_hA A) (aH A) k) 0) + tn_frc (tn_ea (tn_eA A) (tn_hA A) (aH A) k) 1) + Int32.toInt64 (nI (tn_rp (tn_eA A) (tn_hA A) (aH A) (tn_lm (tn_eA A) 3) k))) + Int32.toInt64 (tn_rs A (nI k))) + Int32.toInt64 (nI (tn_pf (sn (tn_SA A)) (tn_bA A 0).1 (aH A) k))) + Int32.toInt64 (nI (tn_pf (sn (tn_SA A)) (tn_bA A 1).1 (aH A) k))
noncomputable def tn_d2 (A : tA) : Nat → Nat → Int64 → Int64
  | 0, _, x => x
  | d + 1, k, x => tn_d2 A d (k + 1) (tn_d2s A k x)
noncomputable def tn_d3 (A : tA) (x : Int64) : Int64 :=
  31 * (31 * (31 * (31 * x + tn_frc (tn_aim (tn_eA A) (tn_hA A) (aH A) 0) 0) + tn_frc (tn_aim (tn_eA A) (tn_hA A) (aH A) 0) 1) + tn_frc (tn_aim (tn_eA A) (tn_hA A) (aH A) 1) 0) + tn_frc (tn_aim (tn_eA A) (tn_hA A) (aH A) 1) 1
noncomputable def tn_d4 (A : tA) (x : Int64) : Int64 :=
  31 * (31 * (31 * (31 * (31 * x + Int32.toInt64 (tn_rs A (-1))) + Int32.toInt64 (tn_sA A (-1) 0)) + Int32.toInt64 (tn_lF A)) + Int32.toInt64 (tn_kq A 0 6 0)) + Int32.toInt64 (tn_kq A 1 6 0)
def tn_d5 (A : tA) : Nat → Nat → Int64 → Int64
  | 0, _, x => x
  | d + 1, j, x => tn_d5 A d (j + 1) (31 * x + Int32.toInt64 (nI (tn_hh (tn_wks (tn_eA A) 5 (tn_hA A, aH A)) j)))
def tn_d6 (A : tA) (x : Int64) : Int64 := 31 * x + Int32.toInt64 (tn_bk (tn_eA A) 51 0 (tn_hA A, aH A))
/-! the class -/
theorem k_d6 (hA : tW A) (x : Int64) (h : CI A σ) : tq (F_X4_digest_314 x σ) (fun r σ' => r = tn_d6 A x ∧ CI A σ') := by
  unfold F_X4_digest_314
  refine tq_bd (k_back hA h) (fun r σ1 ⟨q1, q2⟩ => ?_)
  rw [q1]
  exact tq_some ⟨rfl, q2⟩
theorem k_d5 (hA : tW A) : ∀ d n j x (τ : tn_M), j + d = 8 → d < n → kC A (tn_eA A) (tn_wks (tn_eA A) 5 (tn_hA A, aH A)).1 (tn_wks (tn_eA A) 5 (tn_hA A, aH A)).2 (tn_lm (tn_eA A) 3) (-1) τ → tq (F_X4_digest_286 n x (nI j) τ) (fun r σ' => r = tn_d6 A (tn_d5 A d j x) ∧ CI A σ') := by
  intro d
  induction d with
  | zero =>
    intro n j x τ h1 h2 q
    obtain ⟨w, rfl⟩ : ∃ w, n = w + 1 := ⟨n - 1, by omega⟩
    have : j = 8 := by omega
    subst this
    rw [F_X4_digest_286, if_pos (by decide)]
    unfold tn_d5
    exact k_d6 hA x q.2
  | succ d ih =>
    intro n j x τ h1 h2 q
    obtain ⟨w, rfl⟩ : ∃ w, n = w + 1 := ⟨n - 1, by omega⟩
    rw [F_X4_digest_286, tn_L 8, if_neg (nI_ge (by omega) (by omega)), s_hourOrHabit q.1 (by omega), tn_bds, nI_1]
    unfold tn_d5
    exact tq_lt (ih w (j + 1) _ τ (by omega) (by omega) q)
theorem k_d4 (hA : tW A) (x : Int64) (h : CI A σ) : tq (F_X4_digest_213 x σ) (fun r σ' => r = tn_d6 A (tn_d5 A 8 0 (tn_d4 A x)) ∧ CI A σ') := by
  unfold F_X4_digest_213 tn_d4
  refine tq_bd (k_rest hA (Or.inl rfl) h) (fun r σ1 ⟨q1, h1⟩ => tq_lt ?_)
  refine tq_bd (k_countStill hA h1) (fun r2 σ2 ⟨q2, h2⟩ => tq_lt ?_)
  refine tq_bd (k_leastFine hA h2) (fun r3 σ3 ⟨q3, h3⟩ => tq_lt ?_)
  refine tq_bd (k_keeps hA (w := 0) (by omega) h3) (fun r4 σ4 ⟨q4, h4⟩ => tq_lt ?_)
  refine tq_bd (k_keeps hA (w := 1) (by omega) h4) (fun r5 σ5 ⟨q5, h5⟩ => tq_lt ?_)
  refine tq_bd (k_after hA (w := 5) (by omega) h5) (fun _ σ6 h6 => ?_)
  rw [q1, q2, q3, q4, q5]
  exact k_d5 hA 8 tn_fuel 0 _ σ6 (by omega) (by unfold tn_fuel; omega) h6
theorem k_d3 (hA : tW A) (x : Int64) (h : CI A σ) : tq (F_X4_digest_170 x σ) (fun r σ' => r = tn_d6 A (tn_d5 A 8 0 (tn_d4 A (tn_d3 A x))) ∧ CI A σ') := by
  unfold F_X4_digest_170 tn_d3
  obtain ⟨w, hw⟩ : ∃ w, tn_fuel = w + 3 := ⟨1997, rfl⟩
  rw [hw, F_X4_digest_173, if_neg (by decide)]
  refine tq_bd (k_all hA (w := 0) (by omega) 0 (by decide) h) (fun r σ1 ⟨q1, h1⟩ => tq_lt ?_)
  refine tq_bd (k_all hA (w := 0) (by omega) 1 (by decide) h1) (fun r2 σ2 ⟨q2, h2⟩ => tq_lt ?_)
  rw [F_X4_digest_173, if_neg (by decide)]
  refine tq_bd (k_all hA (w := 1) (by omega) 0 (by decide) h2) (fun r3 σ3 ⟨q3, h3⟩ => tq_lt ?_)
  refine tq_bd (k_all hA (w := 1) (by omega) 1 (by decide) h3) (fun r4 σ4 ⟨q4, h4⟩ => tq_lt ?_)
  rw [F_X4_digest_173, if_pos (by decide), q1, q2, q3, q4]
  exact k_d4 hA _ h4
theorem k_d2 (hA : tW A) {b0 b1 : Nat} (e0 : b0 = (tn_bA A 0).1) (e1 : b1 = (tn_bA A 1).1) : ∀ d n k x (τ : tn_M), k + d = sn (tn_SA A) → d < n → CI A τ → tq (F_X4_digest_59 n x (nI b0) (nI b1) (nI k) τ) (fun r σ' => r = tn_d6 A (tn_d5 A 8 0 (tn_d4 A (tn_d3 A (tn_d2 A d k x)))) ∧ CI A σ') := by
  have hn := (tV_A A).1
  have hV := tVe_A hA
  have l0 := bA_lt A 0
  have l1 := bA_lt A 1
  intro d
  induction d with
  | zero =>
    intro n k x τ h1 h2 q
    obtain ⟨w, rfl⟩ : ∃ w, n = w + 1 := ⟨n - 1, by omega⟩
    have : k = sn (tn_SA A) := by omega
    subst this
    rw [F_X4_digest_59, q.2.2.1.1, if_pos (nI_le (Nat.le_refl _) (by omega))]
    unfold tn_d2
    exact k_d3 hA x q
  | succ d ih =>
    intro n k x τ h1 h2 q
    obtain ⟨w, rfl⟩ : ∃ w, n = w + 1 := ⟨n - 1, by omega⟩
    have hk : k < sn (tn_SA A) := by omega
    rw [F_X4_digest_59, q.2.2.1.1, if_neg (nI_ge (by omega) (by omega)), nI_1]
    refine tq_bd (k_earns hA hk 0 (by decide) q) (fun r σ1 ⟨q1, h1⟩ => tq_lt ?_)
    refine tq_bd (k_earns hA hk 1 (by decide) h1) (fun r2 σ2 ⟨q2, h2⟩ => tq_lt ?_)
    refine tq_bd (k_answer hA hk h2) (fun r3 σ3 ⟨q3, h3⟩ => tq_lt ?_)
    refine tq_bd (k_rest hA (Or.inr ⟨k, hk, rfl⟩) h3) (fun r4 σ4 ⟨q4, h4⟩ => tq_lt ?_)
    have p0 : tn_pf (sn (tn_SA A)) (tn_bA A 0).1 (aH A) k = b0 / 4 ^ (sn (tn_SA A) - 1 - k) % 4 := by rw [e0]; exact if_pos hk
    have p1 : tn_pf (sn (tn_SA A)) (tn_bA A 1).1 (aH A) k = b1 / 4 ^ (sn (tn_SA A) - 1 - k) % 4 := by rw [e1]; exact if_pos hk
    have d0 : f_X0_digit (nI b0) (nI k) σ4 = some (nI (b0 / 4 ^ (sn (tn_SA A) - 1 - k) % 4), σ4) := s_digit hV h4.2.2.1 hk (by omega)
    have d1 : f_X0_digit (nI b1) (nI k) σ4 = some (nI (b1 / 4 ^ (sn (tn_SA A) - 1 - k) % 4), σ4) := s_digit hV h4.2.2.1 hk (by omega)
    rw [d0, tn_bds]
    refine tq_lt ?_
    rw [d1, tn_bds]
    refine tq_lt ?_
    unfold tn_d2 tn_d2s
    rw [q1, q2, q3, q4, ← p0, ← p1]
    exact ih w (k + 1) _ σ4 (by omega) (by omega) h4
theorem k_d1 (hA : tW A) : ∀ d n j x (τ : tn_M), j + d = 8 → d < n → CI A τ → tq (F_X4_digest_6 n x (nI j) τ) (fun r σ' => r = tn_d6 A (tn_d5 A 8 0 (tn_d4 A (tn_d3 A (tn_d2 A (sn (tn_SA A)) 0 (31 * tn_d1 A d j x + Int32.toInt64 (tn_prs (aT A) (aL A)).1))))) ∧ CI A σ') := by
  have hn := (tV_A A).1
  intro d
  induction d with
  | zero =>
    intro n j x τ h1 h2 q
    obtain ⟨w, rfl⟩ : ∃ w, n = w + 1 := ⟨n - 1, by omega⟩
    have : j = 8 := by omega
    subst this
    rw [F_X4_digest_6, if_pos (by decide)]
    unfold F_X4_digest_31 tn_d1
    have ef : f_X4_fault τ = some ((tn_prs (aT A) (aL A)).1, τ) := by
      unfold f_X4_fault
      rw [q.2.1]
    rw [ef, tn_bds]
    refine tq_lt ?_
    refine tq_bd (k_bestCode hA (w := 0) (by omega) q) (fun r σ1 ⟨q1, h1⟩ => ?_)
    refine tq_bd (k_bestCode hA (w := 1) (by omega) h1.2) (fun r2 σ2 ⟨q2, h2⟩ => ?_)
    rw [q1, q2]
    exact k_d2 hA rfl rfl (sn (tn_SA A)) tn_fuel 0 _ σ2 (by omega) (by unfold tn_fuel; omega) h2.2
  | succ d ih =>
    intro n j x τ h1 h2 q
    obtain ⟨w, rfl⟩ : ∃ w, n = w + 1 := ⟨n - 1, by omega⟩
    rw [F_X4_digest_6, tn_L 7, if_neg (nI_nlt (by omega) (by omega)), s_count q, tn_bds, nI_1]
    unfold tn_d1
    exact tq_lt (ih w (j + 1) _ τ (by omega) (by omega) q)
end EO

section EC
variable {A : tA} {σ : tn_M}
/-- hours, shops and forms stand while answers are laid -/
theorem Aw_F (A : tA) (s j : Nat) : aF (tn_Aw A s j) = aF A := (Aw_same A s j).2.2.2.2.2.1
theorem k_write44 (hA : tW A) {s W : Nat} (hs : s < 4) (hW : W ≤ sn (tn_SA A)) : ∀ d n j (τ : tn_M), j + d = W → d < n → kC (tn_Aw A s j) (tn_eA A) (tn_hA A) (aH A) (tn_lm (tn_eA A) 3) (-1) τ → tq (F_X4_write_44 n (nI s) (nI W) (nI j) τ) (fun r σ' => r = nI W ∧ CI (tn_Aw A s W) σ') := by
  have hn := (tV_A A).1
  have hV := tVe_A hA
  intro d
  induction d with
  | zero =>
    intro n j τ h1 h2 q
    obtain ⟨m, rfl⟩ : ∃ m, n = m + 1 := ⟨n - 1, by omega⟩
    have : j = W := by omega
    subst this
    rw [F_X4_write_44, if_pos (nI_le (Nat.le_refl _) (by omega))]
    exact tq_some ⟨rfl, q.2⟩
  | succ d ih =>
    intro n j τ h1 h2 q
    obtain ⟨m, rfl⟩ : ∃ m, n = m + 1 := ⟨n - 1, by omega⟩
    have hj : j < sn (eS (tn_eA A)) := by show j < sn (tn_SA A); omega
    rw [F_X4_write_44, if_neg (nI_ge (by omega) (by omega)), nI_1]
    refine tq_bd (k_reply hV q hj) (fun r τ1 ⟨q1, q2⟩ => ?_)
    rw [q1]
    refine tq_bd (tq_fr (fr_X1_put _ _ _ _) (k_put q2.2 hs (show j < 60 by omega) _)) (fun _ τ2 ⟨q3, f3⟩ => ?_)
    rw [Aw_F] at q3
    have ms : ∀ a b, a < 29 → tn_ms [(29, 999), (30, 999), (31, 999), (32, 999)] a b = false := fun a b h => by unfold tn_ms; simp; omega
    exact ih m (j + 1) τ2 (by omega) (by omega) ⟨cSc_sh hV q2.1 (fun a b h => f3.i a b (ms a b h)) (fun a b h => f3.l a b (ms a b h)), q3⟩
theorem mTr_35 {e : tEc} {hb u : Nat → Nat} {L : Nat} {fixed : Int32} (h : mTr e hb u L fixed σ) (j : Nat) (v : Int32) : mTr e hb u L fixed (tn_si σ 35 j v) := by
  obtain ⟨p1, p2, p3, p4, p5, p6, p7, p8, p9, p10⟩ := h
  have ee : ∀ a b, a ≠ 35 → (tn_si σ 35 j v).1 a b = σ.1 a b := fun a b hab => by rw [tn_si_1, if_neg (by omega)]
  exact ⟨mSt_same p1 (fun a b hab => ee a b (by omega)), by rw [ee _ _ (by omega)]; exact p2, by rw [ee _ _ (by omega)]; exact p3, by rw [ee _ _ (by omega)]; exact p4, fun k hk => by rw [ee _ _ (by omega)]; exact p5 k hk, fun k h1 h3 => by rw [ee _ _ (by omega)]; exact p6 k h1 h3, fun k hk => by rw [ee _ _ (by omega)]; exact p7 k hk, by rw [ee _ _ (by omega)]; exact p8, by rw [ee _ _ (by omega)]; exact p9, mFi_same p10 (ee _ _ (by omega)) (ee _ _ (by omega)) (ee _ _ (by omega))⟩
theorem m_write58 (hA : tW A) {s W : Nat} (hs : s < 4) (hW : W ≤ sn (tn_SA A)) : ∀ d n j (τ : tn_M), j + d = W → d < n → kM (tn_Aw A s j) (tn_eA A) (tn_hA A) (aH A) 3 (-1) τ → tq (F_X5_write_58 n (nI s) (nI W) (nI j) τ) (fun r σ' => r = nI W ∧ M0 (tn_Aw A s W) σ') := by
  have hn := (tV_A A).1
  have hV := tVe_A hA
  intro d
  induction d with
  | zero =>
    intro n j τ h1 h2 q
    obtain ⟨m, rfl⟩ : ∃ m, n = m + 1 := ⟨n - 1, by omega⟩
    have : j = W := by omega
    subst this
    rw [F_X5_write_58, if_pos (nI_le (Nat.le_refl _) (by omega))]
    exact tq_some ⟨rfl, q.2⟩
  | succ d ih =>
    intro n j τ h1 h2 q
    obtain ⟨m, rfl⟩ : ∃ m, n = m + 1 := ⟨n - 1, by omega⟩
    have hj : j < sn (eS (tn_eA A)) := by show j < sn (tn_SA A); omega
    have hF : τ.1 33 s = aF A s := by rw [q.2.2.2.2.2.2.1 s hs, Aw_F]
    have hZ := (tW_w hA s j).2.2.2.2.2
    rw [F_X5_write_58, if_neg (nI_ge (by omega) (by omega)), nI_1, tn_ckn hs (by decide), tn_xn (show s < 2 ^ 31 by omega), hF]
    refine tq_bd (m_answerOf hV q hj) (fun r τ1 ⟨q1, q2⟩ => ?_)
    rw [q1, s_cut, tn_bds, tn_L 60, pk_mul, nI_add, tn_ckn (by omega) (by decide), tn_xn (by omega)]
    exact tq_lt (ih m (j + 1) _ (by omega) (by omega) ⟨mTr_35 q2.1 _ _, M0_i q2.2 hs (show j < 60 by omega) hZ _⟩)
def tn_mn (a b : Nat) : Nat := if a ≤ b then a else b
theorem c_write (hA : tW A) (x : Int32) : ∃ A', tW A' ∧ tn_P A A' (f_X4_write x) (f_X5_write x) := by
  have hn := (tV_A A).1
  have hV := tVe_A hA
  rcases sheet_cases x with c | ⟨s, hs, rfl, c⟩
  · refine ⟨A, hA, -2, fun σ h => ?_, fun σ h => ?_⟩
    · unfold f_X4_write f_X1_refusal
      rw [s_noSheet, tn_bds, if_neg c, if_neg (by decide), tn_bds, if_neg (by decide)]
      exact tq_some ⟨rfl, h⟩
    · unfold f_X5_write
      rw [s_isSheet, tn_bds, if_neg c, if_pos rfl]
      exact tq_some ⟨rfl, h⟩
  · have fi := form_iff hA hs
    have hz := hA.2.2.2.2.2 s hs
    by_cases d : aF A s = -1
    · refine ⟨tn_An A 1, tW_n hA 1, -11, fun σ h => ?_, fun σ h => ?_⟩
      · unfold f_X4_write
        refine tq_bd (k_refusal hA hs h) (fun r σ1 q => ?_)
        rcases q with ⟨_, q1, q2⟩ | ⟨q0, _, _⟩
        · rw [q1, if_neg (by decide)]; exact tq_some ⟨rfl, q2⟩
        · exact absurd d q0
      · unfold f_X5_write
        rw [s_isSheet, tn_bds, if_pos c, if_neg (by decide), tn_ckn hs (by decide), tn_xn (by omega), h.2.2.2.2.2.1 s hs, if_neg (fun w => fi.mp w d)]
        exact tq_bd (m_met h 1) (fun r σ1 q => tq_some ⟨q.1, q.2⟩)
    · have hWn : tn_mn (sn (tn_SA A)) (aZ A s) ≤ sn (tn_SA A) := by unfold tn_mn; split <;> omega
      refine ⟨tn_Aw A s (tn_mn (sn (tn_SA A)) (aZ A s)), tW_w hA s _, nI (tn_mn (sn (tn_SA A)) (aZ A s)), fun σ h => ?_, fun σ h => ?_⟩
      · unfold f_X4_write
        refine tq_bd (k_refusal hA hs h) (fun r σ1 q => ?_)
        rcases q with ⟨q0, _, _⟩ | ⟨_, q1, q2⟩
        · exact absurd q0 d
        · rw [q1, if_pos rfl]
          refine tq_bd (k_scene hA q2) (fun _ σ2 q3 => ?_)
          have e5 : σ2.1 1 5 = nI (sn (tn_SA A)) := q3.1.st.1
          have e27 : σ2.1 27 s = nI (aZ A s) := q3.2.1.2.2.2.2.2.2.1 s hs
          have ev : (if nI (sn (tn_SA A)) < nI (aZ A s) then nI (sn (tn_SA A)) else nI (aZ A s)) = nI (tn_mn (sn (tn_SA A)) (aZ A s)) := by
            unfold tn_mn
            by_cases w : sn (tn_SA A) < aZ A s
            · rw [if_pos (nI_lt w (by omega)), if_pos (by omega)]
            · rw [if_neg (nI_nlt (by omega) (by omega))]
              by_cases w2 : sn (tn_SA A) ≤ aZ A s
              · rw [if_pos w2, show aZ A s = sn (tn_SA A) by omega]
              · rw [if_neg w2]
          rw [tn_ckn hs (by decide), tn_xn (show s < 2 ^ 31 by omega), e5, e27, ev]
          exact tq_lt (k_write44 hA hs hWn (tn_mn (sn (tn_SA A)) (aZ A s)) tn_fuel 0 σ2 (by omega) (by unfold tn_fuel; omega) q3)
      · unfold f_X5_write
        rw [s_isSheet, tn_bds, if_pos c, if_neg (by decide), tn_ckn hs (by decide), tn_xn (show s < 2 ^ 31 by omega), h.2.2.2.2.2.1 s hs, if_pos (fi.mpr d)]
        refine tq_bd (m_tries hA h) (fun _ σ2 q3 => ?_)
        have e5 : σ2.1 5 8 = nI (sn (tn_SA A)) := q3.1.st.1
        have e27 : σ2.1 34 s = nI (aZ A s) := q3.2.2.2.2.2.2.2.1 s hs
        have go : tq (F_X5_write_55 (nI s) (nI (tn_mn (sn (tn_SA A)) (aZ A s))) σ2) (fun r σ' => r = nI (tn_mn (sn (tn_SA A)) (aZ A s)) ∧ M0 (tn_Aw A s (tn_mn (sn (tn_SA A)) (aZ A s))) σ') := m_write58 hA hs hWn (tn_mn (sn (tn_SA A)) (aZ A s)) tn_fuel 0 σ2 (by omega) (by unfold tn_fuel; omega) q3
        rw [tn_ckn hs (by decide), e5, e27]
        by_cases w : sn (tn_SA A) ≤ aZ A s
        · have ew : tn_mn (sn (tn_SA A)) (aZ A s) = sn (tn_SA A) := if_pos w
          rw [if_pos (nI_le w (by omega))]
          rw [ew] at go ⊢
          exact go
        · have ew : tn_mn (sn (tn_SA A)) (aZ A s) = aZ A s := if_neg w
          rw [if_neg (nI_ge (by omega) (by omega)), tn_ckn hs (by decide)]
          rw [ew] at go ⊢
          exact go
end EC

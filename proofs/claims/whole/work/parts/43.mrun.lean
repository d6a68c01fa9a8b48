/-! the model's answer, round, run -/
def tn_lm (e : tEc) (L : Nat) (k : Nat) : Nat := if sz (eS e) k ≤ eM e then 3 else L
section MR
variable {e : tEc} {hb u : Nat → Nat} {L : Nat} {fixed : Int32} {σ : tn_M}
theorem lm_3 (hL : L ≤ 3) (k : Nat) : tn_lm e L k ≤ 3 := by
  unfold tn_lm
  split <;> omega
theorem s_answerOf (hV : tVe e) (hs : mTr e hb u L fixed σ) {k : Nat} (hk : k < sn (eS e)) : tq (f_X5_answerOf (nI k) σ) (fun r σ' => r = nI (tn_rp e hb u (tn_lm e L) k) ∧ mTr e hb u L fixed σ' ∧ tn_fr [(5, 23), (44, 999), (47, 999)] σ σ') := by
  have hn := hV.1.1
  have hl3 := lm_3 (e := e) hs.l3 k
  unfold f_X5_answerOf
  rw [s_isBound hV hs hk, tn_bds]
  refine tq_lt ?_
  have ev : (if (if sz (eS e) k ≤ eM e then (0 : Int32) else 1) = 0 then (3 : Int32) else σ.1 5 19) = nI (tn_lm e L k) := by
    unfold tn_lm
    rw [hs.lm]
    by_cases c : sz (eS e) k ≤ eM e
    · rw [if_pos c, if_pos rfl, if_pos c]; rfl
    · rw [if_neg c, if_neg (by decide), if_neg c]
  rw [ev]
  have h0 := s_earnsBy hV hs hk (v := 0) (by omega)
  refine tq_bd h0 (fun r σ4 hq => ?_)
  obtain ⟨rfl, hs4, hf4⟩ := hq
  have lp : ∀ d n h (τ : tn_M), h + d = tn_lm e L k → d < n → mTr e hb u L fixed τ → tn_fr [(5, 23), (44, 999), (47, 999)] σ τ → tq (F_X5_answerOf_30 n (nI k) (nI (tn_lm e L k)) (nI (tn_an (fun v => tn_ea e hb (va_up u k v) k) h)) (tn_ea e hb (va_up u k (tn_an (fun v => tn_ea e hb (va_up u k v) k) h)) k) (nI (h + 1)) τ) (fun r σ' => r = nI (tn_rp e hb u (tn_lm e L) k) ∧ mTr e hb u L fixed σ' ∧ tn_fr [(5, 23), (44, 999), (47, 999)] σ σ') := by
    intro d
    induction d with
    | zero =>
      intro n h τ h1 h2 ht hf
      obtain ⟨m, rfl⟩ : ∃ m, n = m + 1 := ⟨n - 1, by omega⟩
      have : h = tn_lm e L k := by omega
      subst this
      rw [F_X5_answerOf_30, if_pos (nI_lt (by omega) (by omega))]
      exact tq_some ⟨rfl, ht, hf⟩
    | succ d ih =>
      intro n h τ h1 h2 ht hf
      obtain ⟨m, rfl⟩ : ∃ m, n = m + 1 := ⟨n - 1, by omega⟩
      rw [F_X5_answerOf_30, if_neg (nI_nlt (by omega) (by omega))]
      refine tq_bd (s_earnsBy hV ht hk (v := h + 1) (by omega)) (fun r τ1 hq => ?_)
      obtain ⟨rfl, ht1, hf1⟩ := hq
      refine tq_lt (tq_lt ?_)
      rw [nI_1]
      have hi := ih m (h + 1) τ1 (by omega) (by omega) ht1 (hf.tr hf1)
      unfold tn_an at hi
      by_cases c : tn_ea e hb (va_up u k (h + 1)) k ≤ tn_ea e hb (va_up u k (tn_an (fun v => tn_ea e hb (va_up u k v) k) h)) k
      · rw [if_pos c, if_pos c]
        rw [if_neg (Int64.not_lt.mpr c)] at hi
        exact hi
      · rw [if_neg c, if_neg c]
        rw [if_pos (Int64.not_le.mp c)] at hi
        exact hi
  exact lp (tn_lm e L k) tn_fuel 0 σ4 (by omega) (by unfold tn_fuel; omega) hs4 hf4
theorem s_roundGoes (hV : tVe e) (hs : mTr e hb u L fixed σ) : tq (f_X5_roundGoes σ) (fun r σ' => r = tn_I (tn_rd e hb (tn_lm e L) fixed u (sn (eS e))).2 ∧ mTr e hb (tn_rd e hb (tn_lm e L) fixed u (sn (eS e))).1 L fixed σ' ∧ tn_fr [(5, 23), (44, 999), (47, 999)] σ σ') := by
  have hn := hV.1.1
  have lp : ∀ d n k (τ : tn_M), k + d = sn (eS e) → d < n → mTr e hb (tn_rd e hb (tn_lm e L) fixed u k).1 L fixed τ → tn_fr [(5, 23), (44, 999), (47, 999)] σ τ → tq (F_X5_roundGoes_4 n (tn_I (tn_rd e hb (tn_lm e L) fixed u k).2) (nI k) τ) (fun r σ' => r = tn_I (tn_rd e hb (tn_lm e L) fixed u (sn (eS e))).2 ∧ mTr e hb (tn_rd e hb (tn_lm e L) fixed u (sn (eS e))).1 L fixed σ' ∧ tn_fr [(5, 23), (44, 999), (47, 999)] σ σ') := by
    intro d
    induction d with
    | zero =>
      intro n k τ h1 h2 ht hf
      obtain ⟨m, rfl⟩ : ∃ m, n = m + 1 := ⟨n - 1, by omega⟩
      have : k = sn (eS e) := by omega
      subst this
      rw [F_X5_roundGoes_4, ht.st.1, if_pos (nI_le (Nat.le_refl _) (by omega))]
      unfold tn_zr
      rw [if_pos (by unfold tn_I; split <;> simp)]
      exact tq_some ⟨rfl, ht, hf⟩
    | succ d ih =>
      intro n k τ h1 h2 ht hf
      obtain ⟨m, rfl⟩ : ∃ m, n = m + 1 := ⟨n - 1, by omega⟩
      have hk : k < sn (eS e) := by omega
      rw [F_X5_roundGoes_4, ht.st.1, if_neg (nI_ge (by omega) (by omega)), ht.fx, nI_1]
      generalize hu : (tn_rd e hb (tn_lm e L) fixed u k).1 = w at *
      have hr3 : tn_rp e hb w (tn_lm e L) k ≤ 3 := Nat.le_trans (an_le _ _) (lm_3 ht.l3 k)
      have hw3 := ht.u3 (k := k) (by omega)
      by_cases ch : nI k = fixed
      · rw [if_pos ch]
        have e1 : tn_rd e hb (tn_lm e L) fixed u (k + 1) = tn_rd e hb (tn_lm e L) fixed u k := by
          rw [rd_s, if_neg (by simp [tn_mv, ch])]
        have := ih m (k + 1) τ (by omega) (by omega) (by rw [e1, hu]; exact ht) hf
        rw [e1] at this
        exact this
      · rw [if_neg ch]
        refine tq_bd (s_answerOf hV ht hk) (fun r τ1 hq => ?_)
        obtain ⟨rfl, ht1, hf1⟩ := hq
        refine tq_bd (s_earnsBy hV ht1 hk hr3) (fun r τ2 hq => ?_)
        obtain ⟨rfl, ht2, hf2⟩ := hq
        rw [tn_ckn (by omega) (by decide), tn_xn (by omega), ht2.un (by omega)]
        refine tq_bd (s_earnsBy hV ht2 hk hw3) (fun r τ3 hq => ?_)
        obtain ⟨rfl, ht3, hf3⟩ := hq
        rw [up_self]
        refine tq_lt ?_
        have hf4 := ((hf.tr hf1).tr hf2).tr hf3
        by_cases cg : tn_ea e hb (va_up w k (tn_rp e hb w (tn_lm e L) k)) k ≤ tn_ea e hb w k
        · rw [if_pos cg, if_pos rfl, tn_ckn (by omega) (by decide), ht3.un (by omega)]
          have e1 : tn_rd e hb (tn_lm e L) fixed u (k + 1) = tn_rd e hb (tn_lm e L) fixed u k := by
            rw [rd_s, if_neg (by simp [tn_mv, tn_gn, hu, Int64.not_lt.mpr cg])]
          unfold F_X5_roundGoes_74
          rw [tn_ckn (by omega) (by decide), tn_xn (by omega)]
          refine tq_lt ?_
          have ht5 : mTr e hb w L fixed (tn_si τ3 44 k (nI (w k))) := mTr_fr ht3 (tn_fr.si (by simp [tn_ms]) tn_fr.rf) (fun j hj => by
            rw [tn_si_1]
            by_cases c : j = k
            · subst c
              rw [if_pos ⟨rfl, rfl⟩]; exact ⟨rfl, ht.u3 hj⟩
            · rw [if_neg (fun q => c q.2)]; exact ⟨ht3.un hj, ht.u3 hj⟩)
          have := ih m (k + 1) _ (by omega) (by omega) (by rw [e1, hu]; exact ht5) (hf4.tr (tn_fr.si (by simp [tn_ms]) tn_fr.rf))
          rw [e1] at this
          cases hb2 : (tn_rd e hb (tn_lm e L) fixed u k).2 with
          | false =>
            rw [hb2] at this
            rw [if_pos (show tn_I false = 0 from rfl), if_pos rfl, nI_1]
            exact this
          | true =>
            rw [hb2] at this
            rw [if_neg (show ¬ tn_I true = 0 by decide)]
            unfold F_X5_roundGoes_84
            rw [nI_1]
            exact this
        · rw [if_neg cg, if_neg (by decide)]
          have e1 : tn_rd e hb (tn_lm e L) fixed u (k + 1) = (va_up w k (tn_rp e hb w (tn_lm e L) k), true) := by
            rw [rd_s, if_pos (by simp [tn_mv, tn_gn, hu, ch, Int64.not_le.mp cg]), hu]
          unfold F_X5_roundGoes_74
          rw [tn_ckn (by omega) (by decide), tn_xn (by omega)]
          refine tq_lt ?_
          have ht5 : mTr e hb (va_up w k (tn_rp e hb w (tn_lm e L) k)) L fixed (tn_si τ3 44 k (nI (tn_rp e hb w (tn_lm e L) k))) := mTr_fr ht3 (tn_fr.si (by simp [tn_ms]) tn_fr.rf) (fun j hj => by
            rw [tn_si_1]
            unfold va_up
            by_cases c : j = k
            · simp [c, hr3]
            · simp only [c, and_false, if_false]; exact ⟨ht3.un hj, ht.u3 hj⟩)
          have := ih m (k + 1) _ (by omega) (by omega) (by rw [e1]; exact ht5) (hf4.tr (tn_fr.si (by simp [tn_ms]) tn_fr.rf))
          rw [e1] at this
          have e84 : ∀ x1 : Int32, (if x1 = 0 then if (1 : Int32) = 0 then F_X5_roundGoes_4 m 0 (nI k + 1) (tn_si τ3 44 k (nI (tn_rp e hb w (tn_lm e L) k))) else F_X5_roundGoes_84 (fun z0 z1 zs => F_X5_roundGoes_4 m z0 z1 zs) (nI k) (tn_si τ3 44 k (nI (tn_rp e hb w (tn_lm e L) k))) else F_X5_roundGoes_84 (fun z0 z1 zs => F_X5_roundGoes_4 m z0 z1 zs) (nI k) (tn_si τ3 44 k (nI (tn_rp e hb w (tn_lm e L) k)))) = F_X5_roundGoes_4 m 1 (nI (k + 1)) (tn_si τ3 44 k (nI (tn_rp e hb w (tn_lm e L) k))) := by
            intro x1
            rw [if_neg (show ¬ (1 : Int32) = 0 by decide)]
            unfold F_X5_roundGoes_84
            rw [nI_1]
            split <;> rfl
          rw [e84]
          exact this
  unfold f_X5_roundGoes
  exact lp (sn (eS e)) tn_fuel 0 σ (by omega) (by unfold tn_fuel; omega) hs tn_fr.rf
theorem s_runsDown (hV : tVe e) (hs : mTr e hb u L fixed σ) : tq (f_X5_runsDown σ) (fun r σ' => r = tn_I (tn_go40 e hb (tn_lm e L) fixed u).2.2 ∧ mTr e hb (tn_go40 e hb (tn_lm e L) fixed u).1 L fixed σ' ∧ σ'.1 5 24 = nI (tn_go40 e hb (tn_lm e L) fixed u).2.1 ∧ tn_fr [(5, 23), (5, 24), (44, 999), (47, 999)] σ σ') := by
  have lp : ∀ j n c (v : Nat → Nat) (τ : tn_M), c + (j + 1) = 40 → j < n → mTr e hb v L fixed τ → τ.1 5 24 = nI c → tn_fr [(5, 23), (5, 24), (44, 999), (47, 999)] σ τ → tq (F_X5_runsDown_5 n τ) (fun r σ' => r = tn_I (tn_rn e hb (tn_lm e L) fixed (j + 1) v c).2.2 ∧ mTr e hb (tn_rn e hb (tn_lm e L) fixed (j + 1) v c).1 L fixed σ' ∧ σ'.1 5 24 = nI (tn_rn e hb (tn_lm e L) fixed (j + 1) v c).2.1 ∧ tn_fr [(5, 23), (5, 24), (44, 999), (47, 999)] σ σ') := by
    intro j
    induction j with
    | zero =>
      intro n c v τ h1 h2 ht h3 hf
      obtain ⟨m, rfl⟩ : ∃ m, n = m + 1 := ⟨n - 1, by omega⟩
      rw [F_X5_runsDown_5]
      refine tq_bd (s_roundGoes hV ht) (fun r τ1 hq => ?_)
      obtain ⟨rfl, ht1, hf1⟩ := hq
      have e24 : τ1.1 5 24 = nI c := by rw [hf1.i 5 24 rfl]; exact h3
      unfold tn_rn
      by_cases cb : (tn_rd e hb (tn_lm e L) fixed v (sn (eS e))).2 = true
      · rw [if_neg (by rw [tn_I0, cb]; simp), e24, nI_1]
        refine tq_lt ?_
        rw [if_pos (by rw [tn_si_1, if_pos ⟨rfl, rfl⟩, show c + 1 = 40 by omega]; rfl)]
        simp only [cb, if_true]
        exact tq_some ⟨rfl, mTr_keep ht1 (tn_fr.si (by rfl) tn_fr.rf), by rw [tn_si_1, if_pos ⟨rfl, rfl⟩]; rfl, (hf.tr (hf1.mono (by decide))).tr (tn_fr.si (by rfl) tn_fr.rf)⟩
      · rw [if_pos (by rw [tn_I0]; exact Bool.eq_false_iff.mpr cb)]
        simp only [cb, Bool.false_eq_true, if_false]
        exact tq_some ⟨rfl, ht1, e24, hf.tr (hf1.mono (by decide))⟩
    | succ j ih =>
      intro n c v τ h1 h2 ht h3 hf
      obtain ⟨m, rfl⟩ : ∃ m, n = m + 1 := ⟨n - 1, by omega⟩
      rw [F_X5_runsDown_5]
      refine tq_bd (s_roundGoes hV ht) (fun r τ1 hq => ?_)
      obtain ⟨rfl, ht1, hf1⟩ := hq
      have e24 : τ1.1 5 24 = nI c := by rw [hf1.i 5 24 rfl]; exact h3
      rw [tn_rn]
      by_cases cb : (tn_rd e hb (tn_lm e L) fixed v (sn (eS e))).2 = true
      · rw [if_neg (by rw [tn_I0, cb]; simp), e24, nI_1]
        refine tq_lt ?_
        rw [if_neg (by rw [tn_si_1, if_pos ⟨rfl, rfl⟩, tn_L 40, nI_eq (by omega) (by omega)]; omega)]
        simp only [cb, if_true]
        exact ih m (c + 1) _ _ (by omega) (by omega) (mTr_keep ht1 (tn_fr.si (by rfl) tn_fr.rf)) (by rw [tn_si_1, if_pos ⟨rfl, rfl⟩]) ((hf.tr (hf1.mono (by decide))).tr (tn_fr.si (by rfl) tn_fr.rf))
      · rw [if_pos (by rw [tn_I0]; exact Bool.eq_false_iff.mpr cb)]
        simp only [cb, Bool.false_eq_true, if_false]
        exact tq_some ⟨rfl, ht1, e24, hf.tr (hf1.mono (by decide))⟩
  unfold f_X5_runsDown
  exact tq_lt (lp 39 tn_fuel 0 u _ (by omega) (by unfold tn_fuel; omega) (mTr_keep hs (tn_fr.si (by rfl) tn_fr.rf)) (by rw [tn_si_1, if_pos ⟨rfl, rfl⟩]; rfl) (tn_fr.si (by rfl) tn_fr.rf))
end MR

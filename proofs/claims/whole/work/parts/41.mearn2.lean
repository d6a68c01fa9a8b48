section M2
variable {e : tEc} {hb u : Nat → Nat} {lim : Nat} {fixed : Int32} {σ : tn_M}
theorem s_isBound (hV : tVe e) (hs : mTr e hb u lim fixed σ) {k : Nat} (hk : k < sn (eS e)) : f_X5_isBound (nI k) σ = some (if sz (eS e) k ≤ eM e then 0 else 1, σ) := by
  have hn := hV.1.1
  have hz := hV.1.2.2.1 k hk
  have hm := hV.2.2.2.1
  unfold f_X5_isBound
  rw [tn_ckn (by omega) (by decide), tn_xn (by omega), (hs.st.2.2.1 k hk).1, hs.sma]
  show tn_zr (if nI (sz (eS e) k) ≤ nI (eM e) then 0 else 1) σ = _
  rw [tn_zr01]
  congr 2
  simp only [nI_leI (show sz (eS e) k < 2 ^ 31 by omega) (show eM e < 2 ^ 31 by omega)]
theorem s_earnAll (hV : tVe e) (hs : mTr e hb u lim fixed σ) : tq (f_X5_earnAll σ) (fun _ σ' => (∀ k, k < sn (eS e) → σ'.2 47 k = tn_ea e hb u k) ∧ σ'.2 5 23 = lN (tn_srv (eS e) (eL e) hb u) ∧ mTr e hb u lim fixed σ' ∧ tn_fr [(5, 23), (47, 999)] σ σ') := by
  have hn := hV.1.1
  have hm := hV.1.2.1
  -- the last loop: costs and fines
  have l48 : ∀ d n k (τ : tn_M), k + d = sn (eS e) → d < n → mTr e hb u lim fixed τ → τ.2 5 23 = lN (tn_srv (eS e) (eL e) hb u) → (∀ j, j < sn (eS e) → τ.2 47 j = if j < k then tn_ea e hb u j else lN (tn_inc (eS e) (eL e) hb u j)) → tq (F_X5_earnAll_48 n (nI k) τ) (fun _ σ' => (∀ k, k < sn (eS e) → σ'.2 47 k = tn_ea e hb u k) ∧ σ'.2 5 23 = lN (tn_srv (eS e) (eL e) hb u)) := by
    intro d
    induction d with
    | zero =>
      intro n k τ h1 h2 ht h3 h4
      obtain ⟨m, rfl⟩ : ∃ m, n = m + 1 := ⟨n - 1, by omega⟩
      have : k = sn (eS e) := by omega
      subst this
      rw [F_X5_earnAll_48, ht.st.1, if_pos (nI_le (Nat.le_refl _) (by omega))]
      exact tq_some ⟨fun j hj => by rw [h4 j hj, if_pos hj], h3⟩
    | succ d ih =>
      intro n k τ h1 h2 ht h3 h4
      obtain ⟨m, rfl⟩ : ∃ m, n = m + 1 := ⟨n - 1, by omega⟩
      have hk : k < sn (eS e) := by omega
      have hu := ht.u3 (k := k) (by omega)
      have hp := hV.2.2.2.2 k hk
      have hc := hV.2.2.1
      rw [F_X5_earnAll_48, ht.st.1, if_neg (nI_ge (by omega) (by omega)), tn_ckn (by omega) (by decide), tn_ckn (by omega) (by decide), tn_ckn (by omega) (by decide), tn_ckn (by omega) (by decide), tn_xn (by omega), ht.co hk, ht.un (by omega), tn_l (by omega), tn_l (by omega), tn_LL 11808276480, lN_mul, lN_mul, h4 k hk, if_neg (by omega)]
      refine tq_lt ?_
      generalize hτ1 : tn_sl τ 47 k (lN (tn_inc (eS e) (eL e) hb u k) - lN (11808276480 * eP e k * u k)) = τ1
      have hf1 : tn_fr [(5, 23), (47, 999)] τ τ1 := by rw [← hτ1]; exact tn_fr.sl (by simp [tn_ms]) tn_fr.rf
      have ht1 : mTr e hb u lim fixed τ1 := mTr_keep ht (hf1.mono (by decide))
      have hk1 : τ1.2 47 k = lN (tn_inc (eS e) (eL e) hb u k) - lN (11808276480 * eP e k * u k) := by rw [← hτ1, tn_sl_2, if_pos ⟨rfl, rfl⟩]
      have ho1 : ∀ j, j ≠ k → τ1.2 47 j = τ.2 47 j := fun j hj => by rw [← hτ1, tn_sl_2, if_neg (fun q => hj q.2)]
      have h31 : τ1.2 5 23 = lN (tn_srv (eS e) (eL e) hb u) := by rw [← hτ1, tn_sl_2, if_neg (by omega)]; exact h3
      have fin : ∀ y : Int64, lN (tn_inc (eS e) (eL e) hb u k) - lN (11808276480 * eP e k * u k) - y = tn_ea e hb u k → tq (F_X5_earnAll_154 (fun z0 zs => F_X5_earnAll_48 m z0 zs) (nI k) (nI k) (τ1.2 47 (tn_x (nI k))) y τ1) (fun _ σ' => (∀ k, k < sn (eS e) → σ'.2 47 k = tn_ea e hb u k) ∧ σ'.2 5 23 = lN (tn_srv (eS e) (eL e) hb u)) := by
        intro y hy
        unfold F_X5_earnAll_154
        rw [tn_ckn (by omega) (by decide), tn_xn (by omega), hk1, hy, nI_1]
        refine tq_lt (ih m (k + 1) _ (by omega) (by omega) (mTr_keep ht1 (tn_fr.sl (by simp [tn_ms]) tn_fr.rf)) ?_ (fun j hj => ?_))
        · rw [tn_sl_2, if_neg (by omega)]; exact h31
        · rw [tn_sl_2]
          by_cases c : j = k
          · subst c
            rw [if_pos ⟨rfl, rfl⟩, if_pos (by omega)]
          · rw [if_neg (fun q => c q.2), ho1 j c, h4 j hj]
            have : (j < k + 1) ↔ (j < k) := by omega
            simp only [this]
      have cost : lN (11808276480 * eP e k * u k) = lN (eP e k * u k * 11808276480) := by
        congr 1
        ac_rfl
      have noFine : ¬ (eC e < u k ∧ eM e < sz (eS e) k) → lN (tn_inc (eS e) (eL e) hb u k) - lN (11808276480 * eP e k * u k) - 0 = tn_ea e hb u k := by
        intro h
        unfold tn_ea tn_bu
        rw [if_neg h, cost, Int64.add_zero, Int64.sub_zero]
      have e118 : F_X5_earnAll_118 (fun z0 zs => F_X5_earnAll_48 m z0 zs) (nI k) τ1 = F_X5_earnAll_154 (fun z0 zs => F_X5_earnAll_48 m z0 zs) (nI k) (nI k) (τ1.2 47 (tn_x (nI k))) 0 τ1 := by
        unfold F_X5_earnAll_118 F_X5_earnAll_119
        rw [tn_ckn (by omega) (by decide), if_pos rfl]
      rcases ht1.fi with ⟨f1, f2⟩ | ⟨f1, F, N, hF, hN, f3, f4, f5⟩
      · rw [if_pos f1, e118]
        refine fin 0 ?_
        unfold tn_ea tn_bu
        rw [f2, cost, Int64.sub_zero]
        simp
      · rw [if_neg (by rw [f1]; decide), s_isBound hV ht1 hk, tn_bds]
        by_cases c2 : sz (eS e) k ≤ eM e
        · rw [if_pos (by rw [if_pos c2]), e118]
          exact fin 0 (noFine (by omega))
        · rw [if_neg (by rw [if_neg c2]; decide), tn_ckn (by omega) (by decide), ht1.un (by omega), ht1.cap]
          by_cases c1 : u k ≤ eC e
          · rw [if_pos (nI_le c1 (by omega)), e118]
            exact fin 0 (noFine (by omega))
          · rw [if_neg (nI_ge (by omega) (by omega))]
            unfold F_X5_earnAll_119
            rw [tn_ckn (by omega) (by decide), if_neg (by decide), f3, f4, tn_l (by omega), tn_l (by omega), tn_LL 738017280, lN_mul, lN_mul]
            refine fin _ ?_
            unfold tn_ea tn_bu
            rw [if_pos (by omega), f5, cost, show 738017280 * F * N = F * N * 738017280 by ac_rfl]
            exact Int64.sub_sub _ _ _
  have l27 : ∀ d n i (τ : tn_M), i + d = sm (eS e) → d < n → mTr e hb u lim fixed τ → τ.2 5 23 = lN (tn_S (fun i => tn_s (eS e) (eL e) (sr (eS e) i) (tn_mk (sn (eS e)) u (sr (eS e) i).1) * (8 + hb (sr (eS e) i).1)) i) → (∀ j, j < sn (eS e) → τ.2 47 j = lN (tn_S (fun i => tn_c (eS e) (eL e) (sr (eS e) i) (tn_mk (sn (eS e)) u (sr (eS e) i).1) j * (8 + hb (sr (eS e) i).1)) i)) → tq (F_X5_earnAll_27 n (nI i) τ) (fun _ σ' => (∀ k, k < sn (eS e) → σ'.2 47 k = tn_ea e hb u k) ∧ σ'.2 5 23 = lN (tn_srv (eS e) (eL e) hb u)) := by
    intro d
    induction d with
    | zero =>
      intro n i τ h1 h2 ht h3 h4
      obtain ⟨m, rfl⟩ : ∃ m, n = m + 1 := ⟨n - 1, by omega⟩
      have : i = sm (eS e) := by omega
      subst this
      rw [F_X5_earnAll_27, ht.st.2.1, if_pos (nI_le (Nat.le_refl _) (by omega))]
      unfold F_X5_earnAll_46
      exact l48 (sn (eS e)) tn_fuel 0 τ (by omega) (by unfold tn_fuel; omega) ht h3 (fun j hj => by rw [h4 j hj, if_neg (by omega)]; rfl)
    | succ d ih =>
      intro n i τ h1 h2 ht h3 h4
      obtain ⟨m, rfl⟩ : ∃ m, n = m + 1 := ⟨n - 1, by omega⟩
      rw [F_X5_earnAll_27, ht.st.2.1, if_neg (nI_ge (by omega) (by omega))]
      refine tq_bd (tq_fr (fr_X5_buys _ _) (s_buys hV ht (by omega : i < sm (eS e)))) (fun _ τ1 hq => ?_)
      obtain ⟨⟨q1, q2⟩, qf⟩ := hq
      rw [nI_1]
      refine ih m (i + 1) τ1 (by omega) (by omega) (mTr_keep ht (qf.mono (by decide))) ?_ (fun j hj => ?_)
      · rw [q2, h3, lN_add]; rfl
      · rw [q1 j hj, h4 j hj, lN_add]; rfl
  have l7 : ∀ d n k (τ : tn_M), k + d = 5 → d < n → mTr e hb u lim fixed τ → τ.2 5 23 = 0 → (∀ j, j < k → τ.2 47 j = 0) → tq (F_X5_earnAll_7 n (nI k) τ) (fun _ σ' => (∀ k, k < sn (eS e) → σ'.2 47 k = tn_ea e hb u k) ∧ σ'.2 5 23 = lN (tn_srv (eS e) (eL e) hb u)) := by
    intro d
    induction d with
    | zero =>
      intro n k τ h1 h2 ht h3 h4
      obtain ⟨m, rfl⟩ : ∃ m, n = m + 1 := ⟨n - 1, by omega⟩
      have : k = 5 := by omega
      subst this
      rw [F_X5_earnAll_7, if_pos (by decide)]
      unfold F_X5_earnAll_25
      exact l27 (sm (eS e)) tn_fuel 0 τ (by omega) (by unfold tn_fuel; omega) ht (by rw [h3]; rfl) (fun j hj => by rw [h4 j (by omega)]; rfl)
    | succ d ih =>
      intro n k τ h1 h2 ht h3 h4
      obtain ⟨m, rfl⟩ : ∃ m, n = m + 1 := ⟨n - 1, by omega⟩
      rw [F_X5_earnAll_7, tn_L 5, if_neg (nI_ge (by omega) (by omega)), tn_ckn (by omega) (by decide), tn_xn (by omega), nI_1]
      refine tq_lt (ih m (k + 1) _ (by omega) (by omega) (mTr_keep ht (tn_fr.sl (by simp [tn_ms]) tn_fr.rf)) ?_ (fun j hj => ?_))
      · rw [tn_sl_2, if_neg (by omega)]; exact h3
      · rw [tn_sl_2]
        by_cases c : j = k
        · rw [if_pos ⟨rfl, c⟩]
        · rw [if_neg (fun q => c q.2)]
          exact h4 j (by omega)
  have key : tq (f_X5_earnAll σ) (fun _ σ' => (∀ k, k < sn (eS e) → σ'.2 47 k = tn_ea e hb u k) ∧ σ'.2 5 23 = lN (tn_srv (eS e) (eL e) hb u)) := by
    unfold f_X5_earnAll
    exact tq_lt (l7 5 tn_fuel 0 _ (by omega) (by unfold tn_fuel; omega) (mTr_keep hs (tn_fr.sl (by rfl) tn_fr.rf)) (by rw [tn_sl_2, if_pos ⟨rfl, rfl⟩]) (fun j hj => by omega))
  exact tq_mono (tq_fr (fr_X5_earnAll _) key) (fun _ σ' h => ⟨h.1.1, h.1.2, mTr_keep hs (h.2.mono (by decide)), h.2⟩)
theorem s_earnsBy (hV : tVe e) (hs : mTr e hb u lim fixed σ) {k v : Nat} (hk : k < sn (eS e)) (hv : v ≤ 3) : tq (f_X5_earnsBy (nI k) (nI v) σ) (fun r σ' => r = tn_ea e hb (va_up u k v) k ∧ mTr e hb u lim fixed σ' ∧ tn_fr [(5, 23), (44, 999), (47, 999)] σ σ') := by
  have hn := hV.1.1
  have key : tq (f_X5_earnsBy (nI k) (nI v) σ) (fun r σ' => r = tn_ea e hb (va_up u k v) k ∧ mTr e hb u lim fixed σ') := by
    unfold f_X5_earnsBy
    rw [tn_ckn (by omega) (by decide), tn_xn (by omega), hs.un (by omega)]
    refine tq_lt ?_
    rw [tn_ckn (by omega) (by decide)]
    refine tq_lt ?_
    have h1 : mTr e hb (va_up u k v) lim fixed (tn_si σ 44 k (nI v)) := mTr_fr hs (tn_fr.si (by simp [tn_ms]) tn_fr.rf) (fun j hj => by
      rw [tn_si_1]
      unfold va_up
      by_cases c : j = k
      · simp [c, hv]
      · simp only [c, and_false, if_false]
        exact ⟨hs.un hj, hs.u3 hj⟩)
    refine tq_bd (s_earnAll hV h1) (fun _ σ3 hq => ?_)
    obtain ⟨q1, q2, q3, qf⟩ := hq
    rw [tn_ckn (by omega) (by decide)]
    refine tq_lt ?_
    rw [tn_ckn (by omega) (by decide)]
    refine tq_some ⟨?_, mTr_fr q3 (tn_fr.si (by simp [tn_ms]) tn_fr.rf) (fun j hj => ?_)⟩
    · rw [tn_si_2]; exact q1 k hk
    · rw [tn_si_1]
      by_cases c : j = k
      · subst c
        rw [if_pos ⟨rfl, rfl⟩]
        exact ⟨rfl, hs.u3 hj⟩
      · rw [if_neg (fun q => c q.2), q3.un hj]
        have : va_up u k v j = u j := by simp [va_up, c]
        rw [this]
        exact ⟨rfl, hs.u3 hj⟩
  exact tq_mono (tq_fr (fr_X5_earnsBy _ _ _) key) (fun _ σ' h => ⟨h.1.1, h.1.2, h.2⟩)
end M2

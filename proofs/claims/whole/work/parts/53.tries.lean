/-! the model's try -/
def tn_mf : List (Nat × Nat) := [(5, 7), (5, 8), (5, 11), (5, 18), (5, 19), (5, 20), (5, 23), (5, 24), (5, 25), (38, 999), (39, 999), (40, 999), (44, 999), (45, 999), (46, 999), (47, 999), (48, 999)]
theorem ms_mf {a b : Nat} (h : (a = 5 ∧ (b = 6 ∨ b = 4)) ∨ a = 37 ∨ a = 41 ∨ a = 42 ∨ a = 43 ∨ a = 33 ∨ a = 34 ∨ a = 35) : tn_ms tn_mf a b = false := by
  unfold tn_ms tn_mf
  simp
  omega
theorem M0_same {A : tA} {σ σ' : tn_M} (h : M0 A σ) (e : ∀ a b, (a = 5 ∧ (b = 6 ∨ b = 4)) ∨ a = 37 ∨ a = 41 ∨ a = 42 ∨ a = 43 ∨ a = 33 ∨ a = 34 ∨ a = 35 → σ'.1 a b = σ.1 a b) : M0 A σ' := by
  obtain ⟨h1, h2, h3, h4, h5, h6, h7, h8, h9⟩ := h
  refine ⟨by rw [e 5 6 (by omega)]; exact h1, fun j hj => by rw [e 37 j (by omega)]; exact h2 j hj, fun j hj => by rw [e 41 j (by omega)]; exact h3 j hj, fun j hj => by rw [e 42 j (by omega)]; exact h4 j hj, fun j hj => by rw [e 43 j (by omega)]; exact h5 j hj, fun j hj => by rw [e 33 j (by omega)]; exact h6 j hj, fun j hj => by rw [e 34 j (by omega)]; exact h7 j hj, fun s hs i hi => by rw [e 35 (60 * s + i) (by omega)]; exact h8 s hs i hi, by rw [e 5 4 (by omega)]; exact h9⟩
theorem M0_fr {A : tA} {σ σ' : tn_M} (h : M0 A σ) (hf : tn_fr tn_mf σ σ') : M0 A σ' := M0_same h (fun a b hab => hf.i a b (ms_mf hab))
theorem s_rd {A : tA} (hA : tW A) {σ : tn_M} (h : M0 A σ) : tq (f_X5_reads σ) (fun r σ' => r = (tn_prs (aT A) (aL A)).1 ∧ mSt (tn_SA A) σ' ∧ M0 A σ') :=
  tq_mono (s_reads (t := aT A) (len := aL A) h.1 hA.1 h.2.1) (fun r σ' q => ⟨q.1, q.2.1, M0_fr h (fr_sub q.2.2 (ms_sub (by decide)))⟩)
theorem s_tries {A : tA} (hA : tW A) {σ : tn_M} (h : M0 A σ) : tq (f_X5_tries σ) (fun _ σ' => mTr (tn_eA A) (tn_hA A) (aH A) 3 (-1) σ' ∧ M0 A σ') := by
  have hn := (tV_A A).1
  have hN := hN_ok
  have g3 := hA.2.1 3 (by omega)
  have g4 := hA.2.1 4 (by omega)
  unfold f_X5_tries
  refine tq_bd (s_rd hA h) (fun _ σ1 ⟨_, hS, hM⟩ => ?_)
  have l69 : ∀ τ : tn_M, (∀ j, j < 5 → τ.1 44 j = nI (aH A j) ∧ τ.1 46 j = σ1.1 39 j) → (∀ j, 1 ≤ j → j ≤ 3 → τ.1 45 j = nI (aG A (4 + j))) → tn_fr [(44, 999), (45, 999), (46, 999)] σ1 τ → tq (F_X5_tries_69 τ) (fun _ σ' => mTr (tn_eA A) (tn_hA A) (aH A) 3 (-1) σ' ∧ M0 A σ') := by
    intro τ t1 t2 t3
    unfold F_X5_tries_69
    refine tq_lt (tq_lt (tq_lt (tq_some ?_)))
    have hM' : M0 A (tn_si (tn_si (tn_si τ 5 18 1) 5 19 3) 5 20 (-1)) := M0_fr hM ((fr_sub t3 (ms_sub (by decide))).tr (tn_fr.si (by rfl) (tn_fr.si (by rfl) (tn_fr.si (by rfl) tn_fr.rf))))
    have ee : ∀ a b, ¬ (a = 5 ∧ (b = 18 ∨ b = 19 ∨ b = 20)) → (tn_si (tn_si (tn_si τ 5 18 1) 5 19 3) 5 20 (-1)).1 a b = τ.1 a b := by
      intro a b hab
      simp only [tn_si_1]
      rw [if_neg (by omega), if_neg (by omega), if_neg (by omega)]
    have e3 : ∀ a b, a ≠ 44 → a ≠ 45 → a ≠ 46 → τ.1 a b = σ1.1 a b := fun a b q1 q2 q3 => t3.i a b (by unfold tn_ms; simp; omega)
    refine ⟨⟨mSt_same hS (fun a b hab => by rw [ee a b (by omega), e3 a b (by omega) (by omega) (by omega)]), hM'.2.2.1 0 (by omega), hM'.2.2.1 1 (by omega), hM'.2.2.1 2 (by omega), fun k hk => ⟨by rw [ee 44 k (by omega)]; exact (t1 k hk).1, hA.2.2.1 k hk⟩, fun j j1 j3 => ⟨by rw [ee 45 j (by omega)]; exact t2 j j1 j3, hA_8 hA j1 j3⟩, fun k hk => ?_, ⟨?_, by omega⟩, ?_, Or.inr ⟨?_, aG A 3, aG A 4, by omega, by omega, hM'.2.2.1 3 (by omega), hM'.2.2.1 4 (by omega), rfl⟩⟩, hM'⟩
    · have hk : k < sn (tn_SA A) := hk
      rw [ee 46 k (by omega), (t1 k (by omega)).2]
      exact (hS.2.2.1 k hk).2
    · rw [tn_si_1, if_neg (by omega), tn_si_1, if_pos ⟨rfl, rfl⟩]; rfl
    · rw [tn_si_1, if_pos ⟨rfl, rfl⟩]
    · rw [tn_si_1, if_neg (by omega), tn_si_1, if_neg (by omega), tn_si_1, if_pos ⟨rfl, rfl⟩]
  have l44 : ∀ d n k (τ : tn_M), k + d = 4 → d < n → 1 ≤ k → (∀ j, j < 5 → τ.1 44 j = nI (aH A j) ∧ τ.1 46 j = σ1.1 39 j) → (∀ j, 1 ≤ j → j < k → τ.1 45 j = nI (aG A (4 + j))) → tn_fr [(44, 999), (45, 999), (46, 999)] σ1 τ → tq (F_X5_tries_44 n (nI k) τ) (fun _ σ' => mTr (tn_eA A) (tn_hA A) (aH A) 3 (-1) σ' ∧ M0 A σ') := by
    intro d
    induction d with
    | zero =>
      intro n k τ h1 h2 h3 t1 t2 t3
      obtain ⟨m, rfl⟩ : ∃ m, n = m + 1 := ⟨n - 1, by omega⟩
      have : k = 4 := by omega
      subst this
      rw [F_X5_tries_44, if_pos (by decide)]
      exact l69 τ t1 (fun j j1 j3 => t2 j j1 (by omega)) t3
    | succ d ih =>
      intro n k τ h1 h2 h3 t1 t2 t3
      obtain ⟨m, rfl⟩ : ∃ m, n = m + 1 := ⟨n - 1, by omega⟩
      have e4 : τ.1 41 (4 + k) = nI (aG A (4 + k)) := by rw [t3.i 41 _ (by rfl)]; exact hM.2.2.1 _ (by omega)
      rw [F_X5_tries_44, tn_L 4, if_neg (nI_ge (by omega) (by omega)), nI_add, tn_ckn (by omega) (by decide), tn_ckn (by omega) (by decide), tn_xn (by omega), tn_xn (by omega), e4, nI_1]
      refine tq_lt (ih m (k + 1) _ (by omega) (by omega) (by omega) (fun j hj => ?_) (fun j j1 j2 => ?_) (t3.tr (tn_fr.si (by rfl) tn_fr.rf)))
      · rw [tn_si_1, if_neg (by omega), tn_si_1, if_neg (by omega)]; exact t1 j hj
      · rw [tn_si_1]
        split
        · next c => rw [c.2]
        · next c => exact t2 j j1 (by omega)
  have l7 : ∀ d n k (τ : tn_M), k + d = 5 → d < n → (∀ j, j < k → τ.1 44 j = nI (aH A j) ∧ τ.1 46 j = σ1.1 39 j) → tn_fr [(44, 999), (45, 999), (46, 999)] σ1 τ → tq (F_X5_tries_7 n (nI k) τ) (fun _ σ' => mTr (tn_eA A) (tn_hA A) (aH A) 3 (-1) σ' ∧ M0 A σ') := by
    intro d
    induction d with
    | zero =>
      intro n k τ h1 h2 t1 t3
      obtain ⟨m, rfl⟩ : ∃ m, n = m + 1 := ⟨n - 1, by omega⟩
      have : k = 5 := by omega
      subst this
      rw [F_X5_tries_7, if_pos (by decide)]
      unfold F_X5_tries_42
      exact l44 3 tn_fuel 1 τ (by omega) (by unfold tn_fuel; omega) (by omega) t1 (fun j j1 j2 => by omega) t3
    | succ d ih =>
      intro n k τ h1 h2 t1 t3
      obtain ⟨m, rfl⟩ : ∃ m, n = m + 1 := ⟨n - 1, by omega⟩
      have e4 : τ.1 42 k = nI (aH A k) := by rw [t3.i 42 _ (by rfl)]; exact hM.2.2.2.1 _ (by omega)
      rw [F_X5_tries_7, tn_L 5, if_neg (nI_ge (by omega) (by omega)), tn_ckn (by omega) (by decide), tn_ckn (by omega) (by decide), tn_xn (by omega), e4, nI_1]
      refine tq_lt ?_
      rw [tn_ckn (by omega) (by decide), tn_ckn (by omega) (by decide)]
      refine tq_lt (ih m (k + 1) _ (by omega) (by omega) (fun j hj => ?_) (t3.tr (tn_fr.si (by rfl) (tn_fr.si (by rfl) tn_fr.rf))))
      have e39 : (tn_si τ 44 k (nI (aH A k))).1 39 k = σ1.1 39 k := by rw [tn_si_1, if_neg (by omega)]; exact t3.i 39 _ (by rfl)
      rw [e39]
      by_cases c : j = k
      · subst c
        rw [tn_si_1, if_neg (by omega), tn_si_1, if_pos ⟨rfl, rfl⟩, tn_si_1, if_pos ⟨rfl, rfl⟩]
        exact ⟨rfl, rfl⟩
      · rw [tn_si_1, if_neg (by omega), tn_si_1, if_neg (by omega), tn_si_1, if_neg (by omega), tn_si_1, if_neg (by omega)]
        exact t1 j (by omega)
  exact l7 5 tn_fuel 0 σ1 (by omega) (by unfold tn_fuel; omega) (fun j hj => absurd hj (Nat.not_lt_zero j)) tn_fr.rf
/-! the guards -/
theorem s_noShop {A : tA} {σ : tn_M} (h : cSt (tn_SA A) σ) (x : Int32) : f_X4_noShop x σ = some (if 0 ≤ x.toInt ∧ x.toInt < sn (tn_SA A) then 0 else 1, σ) := by
  have hn := (tV_A A).1
  have t0 : (0 : Int32).toInt = 0 := rfl
  unfold f_X4_noShop
  rw [h.1]
  by_cases c : x < 0
  · rw [if_pos c, if_neg (by rw [tn_lt32] at c; omega)]
  · rw [if_neg c]
    by_cases d : x < nI (sn (tn_SA A))
    · rw [if_pos d, if_pos (by rw [tn_lt32, tn_t (by omega)] at d; rw [tn_lt32] at c; omega)]
    · rw [if_neg d, if_neg (by rw [tn_lt32, tn_t (by omega)] at d; omega)]
theorem s_isShop {A : tA} (hA : tW A) {σ : tn_M} (h : M0 A σ) (x : Int32) : tq (f_X5_isShop x σ) (fun r σ' => r = (if 0 ≤ x.toInt ∧ x.toInt < sn (tn_SA A) then 1 else 0) ∧ mSt (tn_SA A) σ' ∧ M0 A σ') := by
  have hn := (tV_A A).1
  unfold f_X5_isShop
  refine tq_bd (s_rd hA h) (fun _ σ1 ⟨_, q2, q3⟩ => ?_)
  rw [tn_inI x _ _ σ1 (a := 0) (b := (sn (tn_SA A) : Int) - 1) rfl (by rw [tn_t64, q2.1]; exact tn_sub1 (by omega)), tn_bds, tn_zr10]
  refine tq_some ⟨?_, q2, q3⟩
  have : (0 ≤ x.toInt ∧ x.toInt ≤ (sn (tn_SA A) : Int) - 1) ↔ (0 ≤ x.toInt ∧ x.toInt < sn (tn_SA A)) := by omega
  simp only [this]
theorem s_noSide (x : Int32) (σ : tn_M) : f_X4_noSide x σ = some (if 0 ≤ x.toInt ∧ x.toInt ≤ 1 then 0 else 1, σ) := by
  have t0 : (0 : Int32).toInt = 0 := rfl
  have t1 : (1 : Int32).toInt = 1 := rfl
  unfold f_X4_noSide
  by_cases c : x < 0
  · rw [if_pos c, if_neg (by rw [tn_lt32] at c; omega)]
  · rw [if_neg c]
    by_cases d : x ≤ 1
    · rw [if_pos d, if_pos (by rw [tn_le32] at d; rw [tn_lt32] at c; omega)]
    · rw [if_neg d, if_neg (by rw [tn_le32] at d; omega)]
theorem s_isTwo (x : Int32) (σ : tn_M) : f_X5_isTwo x σ = some (if 0 ≤ x.toInt ∧ x.toInt ≤ 1 then 1 else 0, σ) := by
  unfold f_X5_isTwo
  rw [tn_inI x _ _ σ (a := 0) (b := 1) rfl rfl, tn_bds, tn_zr10]

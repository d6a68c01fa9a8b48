/-! the call: count -/
section EB
variable {A : tA} {σ : tn_M}
theorem s_sum5 {k0 len i0 m : Nat} {f : Nat → Nat} (hl : tn_len k0 = len) (h2 : len < 1000) (he : i0 + m ≤ len) (hf : ∀ j, j < m → σ.1 k0 (i0 + j) = nI (f (i0 + j))) : ∀ d n k, k + d = m → d < n → F_X4_sum_5 n k0 (nI (i0 + m)) (nI (tn_S (fun i => f (i0 + i)) k)) (nI (i0 + k)) σ = some (nI (tn_S (fun i => f (i0 + i)) m), σ) := by
  intro d
  induction d with
  | zero =>
    intro n k h1 h3
    obtain ⟨q, rfl⟩ : ∃ q, n = q + 1 := ⟨n - 1, by omega⟩
    have : k = m := by omega
    subst this
    rw [F_X4_sum_5, if_pos (nI_le (Nat.le_refl _) (by omega))]
  | succ d ih =>
    intro n k h1 h3
    obtain ⟨q, rfl⟩ : ∃ q, n = q + 1 := ⟨n - 1, by omega⟩
    have e1 : ¬ (Int32.ofNat len ≤ nI (i0 + k)) := nI_ge (a := i0 + k) (b := len) (by omega) (by omega)
    rw [F_X4_sum_5, if_neg (nI_ge (by omega) (by omega)), hl, if_neg e1, tn_ckn (by omega) (by omega), tn_xn (by omega), hf k (by omega), nI_1, nI_add]
    exact ih q (k + 1) (by omega) (by omega)
theorem s_acc {F : Nat → Int32 → Int32 → tn_M → Option (Int32 × tn_M)} {m : Nat} {f : Nat → Nat} (hx : ∀ n x k, m ≤ k → k < 1000 → F (n + 1) (nI x) (nI k) σ = some (nI x, σ)) (hs : ∀ n x k, k < m → F (n + 1) (nI x) (nI k) σ = F n (nI (x + f k)) (nI (k + 1)) σ) (hm : m < 1000) : F tn_fuel 0 0 σ = some (nI (tn_S f m), σ) := by
  have lp : ∀ d n k, k + d = m → d < n → F n (nI (tn_S f k)) (nI k) σ = some (nI (tn_S f m), σ) := by
    intro d
    induction d with
    | zero =>
      intro n k h1 h3
      obtain ⟨q, rfl⟩ : ∃ q, n = q + 1 := ⟨n - 1, by omega⟩
      have : k = m := by omega
      subst this
      exact hx q _ _ (Nat.le_refl _) hm
    | succ d ih =>
      intro n k h1 h3
      obtain ⟨q, rfl⟩ : ∃ q, n = q + 1 := ⟨n - 1, by omega⟩
      rw [hs q _ k (by omega)]
      exact ih q (k + 1) (by omega) (by omega)
  exact lp m tn_fuel 0 (by omega) (by unfold tn_fuel; omega)
def tn_ct (A : tA) (x : Int32) : Int32 := if x = 0 then nI (sn (tn_SA A)) else if x = 1 then nI (sm (tn_SA A)) else if x = 2 then nI (aL A) else if x = 3 then nI (tn_S (aH A) (sn (tn_SA A))) else if x = 4 then nI (tn_S (aU A) 6) else if x = 5 then nI (tn_S (fun i => aG A (5 + i)) 3) else if x = 6 then nI (aG A 1) else if x = 7 then nI (tn_S (fun i => (sr (tn_SA A) i).2.1) (sm (tn_SA A))) else if x = 8 then aN A else -2
theorem s_count (h : CI A σ) (x : Int32) : f_X4_count x σ = some (tn_ct A x, σ) := by
  have hn := (tV_A A).1
  have hm := (tV_A A).2.1
  obtain ⟨⟨g1, g2, g3, g4, g5, g6, g7, g8, g9⟩, p2, p3, p4⟩ := h
  unfold f_X4_count tn_ct
  by_cases c0 : x = 0
  · rw [if_pos c0, if_pos c0, p3.1]
  rw [if_neg c0, if_neg c0]
  by_cases c1 : x = 1
  · rw [if_pos c1, if_pos c1, p3.2.1]
  rw [if_neg c1, if_neg c1]
  by_cases c2 : x = 2
  · rw [if_pos c2, if_pos c2, g1]
  rw [if_neg c2, if_neg c2]
  by_cases c3 : x = 3
  · rw [if_pos c3, if_pos c3, p3.1]
    have e := s_sum5 (σ := σ) (k0 := 7) (len := 5) (i0 := 0) (m := sn (tn_SA A)) (f := aH A) rfl (by omega) (by omega) (fun j hj => by rw [Nat.zero_add]; exact g4 j (by omega)) (sn (tn_SA A)) tn_fuel 0 (by omega) (by unfold tn_fuel; omega)
    simp only [Nat.zero_add] at e
    have e2 : f_X4_sum 7 0 (nI (sn (tn_SA A))) σ = some (nI (tn_S (aH A) (sn (tn_SA A))), σ) := e
    rw [e2, tn_bds]
  rw [if_neg c3, if_neg c3]
  by_cases c4 : x = 4
  · rw [if_pos c4, if_pos c4]
    have e := s_sum5 (σ := σ) (k0 := 8) (len := 6) (i0 := 0) (m := 6) (f := aU A) rfl (by omega) (by omega) (fun j hj => by rw [Nat.zero_add]; exact g5 j (by omega)) 6 tn_fuel 0 (by omega) (by unfold tn_fuel; omega)
    simp only [Nat.zero_add] at e
    have e2 : f_X4_sum 8 0 6 σ = some (nI (tn_S (aU A) 6), σ) := e
    rw [e2, tn_bds]
  rw [if_neg c4, if_neg c4]
  by_cases c5 : x = 5
  · rw [if_pos c5, if_pos c5]
    have e := s_sum5 (σ := σ) (k0 := 6) (len := 8) (i0 := 5) (m := 3) (f := aG A) rfl (by omega) (by omega) (fun j hj => g3 (5 + j) (by omega)) 3 tn_fuel 0 (by omega) (by unfold tn_fuel; omega)
    have e2 : f_X4_sum 6 5 8 σ = some (nI (tn_S (fun i => aG A (5 + i)) 3), σ) := e
    rw [e2, tn_bds]
  rw [if_neg c5, if_neg c5]
  by_cases c6 : x = 6
  · rw [if_pos c6, if_pos c6, g3 1 (by omega)]
  rw [if_neg c6, if_neg c6]
  by_cases c7 : x = 7
  · rw [if_pos c7, if_pos c7]
    have e : f_X2_crowd σ = some (nI (tn_S (fun i => (sr (tn_SA A) i).2.1) (sm (tn_SA A))), σ) := by
      unfold f_X2_crowd
      refine s_acc (F := F_X2_crowd_4) (f := fun i => (sr (tn_SA A) i).2.1) (fun n x k h1 h2 => ?_) (fun n x k h1 => ?_) (by omega)
      · rw [F_X2_crowd_4, p3.2.1, if_pos (nI_le h1 (by omega))]
      · have e1 : σ.1 (12 + 1 + k) 1 = nI (sr (tn_SA A) k).2.1 := p3.2.2.2 k h1 1 (by omega)
        rw [F_X2_crowd_4, p3.2.1, if_neg (nI_ge h1 (by omega)), tn_ckn (by omega) (by decide), tn_xn (by omega), e1, nI_1, nI_add]
        rfl
    rw [e, tn_bds]
  rw [if_neg c7, if_neg c7]
  by_cases c8 : x = 8
  · rw [if_pos c8, if_pos c8, g9]
  rw [if_neg c8, if_neg c8]
theorem m_count (hA : tW A) (x : Int32) (h : M0 A σ) : tq (f_X5_count x σ) (fun r σ' => r = tn_ct A x ∧ M0 A σ') := by
  have hn := (tV_A A).1
  have hm := (tV_A A).2.1
  unfold f_X5_count
  refine tq_bd (s_rd hA h) (fun _ σ1 ⟨_, hS, hM⟩ => ?_)
  have hM' := hM
  obtain ⟨g1, g2, g3, g4, g5, g6, g7, g8, g9⟩ := hM
  unfold tn_ct
  by_cases c0 : x = 0
  · rw [if_pos c0, if_pos c0]; exact tq_some ⟨hS.1, hM'⟩
  rw [if_neg c0, if_neg c0]
  by_cases c1 : x = 1
  · rw [if_pos c1, if_pos c1]; exact tq_some ⟨hS.2.1, hM'⟩
  rw [if_neg c1, if_neg c1]
  by_cases c2 : x = 2
  · rw [if_pos c2, if_pos c2]; exact tq_some ⟨g1, hM'⟩
  rw [if_neg c2, if_neg c2]
  by_cases c3 : x = 3
  · rw [if_pos c3, if_pos c3]
    have e : F_X5_count_77 tn_fuel 0 0 σ1 = some (nI (tn_S (aH A) (sn (tn_SA A))), σ1) := by
      refine s_acc (F := F_X5_count_77) (f := aH A) (fun n x k h1 h2 => ?_) (fun n x k h1 => ?_) (by omega)
      · rw [F_X5_count_77, hS.1, if_pos (nI_le h1 (by omega))]
      · rw [F_X5_count_77, hS.1, if_neg (nI_ge h1 (by omega)), tn_ckn (by omega) (by decide), tn_xn (by omega), g4 k (by omega), nI_1, nI_add]
        rfl
    rw [e]; exact tq_some ⟨rfl, hM'⟩
  rw [if_neg c3, if_neg c3]
  by_cases c4 : x = 4
  · rw [if_pos c4, if_pos c4]
    have e : F_X5_count_104 tn_fuel 0 0 σ1 = some (nI (tn_S (aU A) 6), σ1) := by
      refine s_acc (F := F_X5_count_104) (f := aU A) (fun n x k h1 h2 => ?_) (fun n x k h1 => ?_) (by omega)
      · rw [F_X5_count_104, tn_L 6, if_pos (nI_le h1 (by omega))]
      · rw [F_X5_count_104, tn_L 6, if_neg (nI_ge h1 (by omega)), tn_ckn (by omega) (by decide), tn_xn (by omega), g5 k (by omega), nI_1, nI_add]
        rfl
    rw [e]; exact tq_some ⟨rfl, hM'⟩
  rw [if_neg c4, if_neg c4]
  by_cases c5 : x = 5
  · rw [if_pos c5, if_pos c5]
    refine tq_some ⟨?_, hM'⟩
    rw [g3 5 (by omega), g3 6 (by omega), g3 7 (by omega), nI_add, nI_add]
    show _ = nI (0 + aG A 5 + aG A 6 + aG A 7)
    rw [Nat.zero_add]
  rw [if_neg c5, if_neg c5]
  by_cases c6 : x = 6
  · rw [if_pos c6, if_pos c6]; exact tq_some ⟨g3 1 (by omega), hM'⟩
  rw [if_neg c6, if_neg c6]
  by_cases c7 : x = 7
  · rw [if_pos c7, if_pos c7]
    have e : F_X5_count_159 tn_fuel 0 0 σ1 = some (nI (tn_S (fun i => (sr (tn_SA A) i).2.1) (sm (tn_SA A))), σ1) := by
      refine s_acc (F := F_X5_count_159) (f := fun i => (sr (tn_SA A) i).2.1) (fun n x k h1 h2 => ?_) (fun n x k h1 => ?_) (by omega)
      · rw [F_X5_count_159, hS.2.1, if_pos (nI_le h1 (by omega))]
      · have e1 : σ1.1 40 (6 * k + 1) = nI (sr (tn_SA A) k).2.1 := hS.2.2.2 k h1 1 (by omega)
        rw [F_X5_count_159, hS.2.1, if_neg (nI_ge h1 (by omega)), tn_L 6, pk_mul, nI_1 (6 * k), tn_ckn (by omega) (by decide), tn_xn (by omega), e1, nI_1 k, nI_add]
        rfl
    rw [e]; exact tq_some ⟨rfl, hM'⟩
  rw [if_neg c7, if_neg c7]
  by_cases c8 : x = 8
  · rw [if_pos c8, if_pos c8]; exact tq_some ⟨g9, hM'⟩
  rw [if_neg c8, if_neg c8]
  exact tq_some ⟨rfl, hM'⟩
theorem c_count (hA : tW A) (x : Int32) : tn_P A A (f_X4_count x) (f_X5_count x) := ⟨tn_ct A x, fun σ h => ⟨_, _, s_count h x, rfl, h⟩, fun σ h => m_count hA x h⟩
end EB

section CX
variable {A : tA} {e : tEc} {hb u lim : Nat → Nat} {held : Int32} {σ : tn_M} {L : Nat} {fixed : Int32}
/-- the model keeps and restores the hours -/
theorem m_cell48 (h : kM A e hb u L fixed σ) {k : Nat} {x : Int32} : kM A e hb u L fixed (tn_si σ 48 k x) := by
  have hf : tn_fr [(48, 999)] σ (tn_si σ 48 k x) := tn_fr.si (by simp [tn_ms]) tn_fr.rf
  exact ⟨mTr_keep h.1 (fr_sub hf (ms_sub (by decide))), M0_sub h.2 hf (by decide)⟩
theorem m_keep2 {ρ : Type} {Q : ρ → tn_M → Prop} (F : Nat → Int32 → tn_M → Option (ρ × tn_M)) (G : tn_M → Option (ρ × tn_M)) (hF : ∀ n x σ, F (n + 1) x σ = if 5 ≤ x then G σ else tn_ck x 5 <| tn_ck x 5 <| tn_lt (tn_si σ 48 (tn_x x) (σ.1 44 (tn_x x))) fun σ1 => F n (x + 1) σ1) (hG : ∀ τ, kM A e hb u L fixed τ → (∀ j, j < 5 → τ.1 48 j = nI (u j)) → tq (G τ) Q) : ∀ d n k (τ : tn_M), k + d = 5 → d < n → kM A e hb u L fixed τ → (∀ j, j < k → τ.1 48 j = nI (u j)) → tq (F n (nI k) τ) Q := by
  intro d
  induction d with
  | zero =>
    intro n k τ h1 h2 q hk
    obtain ⟨m, rfl⟩ : ∃ m, n = m + 1 := ⟨n - 1, by omega⟩
    have : k = 5 := by omega
    subst this
    rw [hF, if_pos (by decide)]
    exact hG τ q hk
  | succ d ih =>
    intro n k τ h1 h2 q hk
    obtain ⟨m, rfl⟩ : ∃ m, n = m + 1 := ⟨n - 1, by omega⟩
    rw [hF, tn_L 5, if_neg (nI_ge (by omega) (by omega)), tn_ckn (by omega) (by decide), tn_ckn (by omega) (by decide), tn_xn (by omega), q.1.un (by omega), nI_1]
    refine tq_lt (ih m (k + 1) _ (by omega) (by omega) (m_cell48 q) (fun j hj => ?_))
    rw [tn_si_1]
    by_cases c : j = k
    · subst c; rw [if_pos ⟨rfl, rfl⟩]
    · rw [if_neg (fun w => c w.2)]; exact hk j (by omega)
theorem m_back2 {ρ : Type} {Q : ρ → tn_M → Prop} {v : Nat → Nat} (hv3 : ∀ j, j < 5 → v j ≤ 3) (F : Nat → Int32 → tn_M → Option (ρ × tn_M)) (G : tn_M → Option (ρ × tn_M)) (hF : ∀ n x σ, F (n + 1) x σ = if 5 ≤ x then G σ else tn_ck x 5 <| tn_ck x 5 <| tn_lt (tn_si σ 44 (tn_x x) (σ.1 48 (tn_x x))) fun σ1 => F n (x + 1) σ1) (hG : ∀ τ, kM A e hb v L fixed τ → tq (G τ) Q) : ∀ d n k (w : Nat → Nat) (τ : tn_M), k + d = 5 → d < n → kM A e hb w L fixed τ → (∀ j, j < 5 → τ.1 48 j = nI (v j)) → (∀ j, j < k → w j = v j) → tq (F n (nI k) τ) Q := by
  intro d
  induction d with
  | zero =>
    intro n k w τ h1 h2 q hk hw
    obtain ⟨m, rfl⟩ : ∃ m, n = m + 1 := ⟨n - 1, by omega⟩
    have : k = 5 := by omega
    subst this
    rw [hF, if_pos (by decide)]
    refine hG τ ⟨mTr_fr q.1 tn_fr.rf (fun j hj => ?_), q.2⟩
    rw [← hw j hj]
    exact ⟨q.1.un hj, q.1.u3 hj⟩
  | succ d ih =>
    intro n k w τ h1 h2 q hk hw
    obtain ⟨m, rfl⟩ : ∃ m, n = m + 1 := ⟨n - 1, by omega⟩
    rw [hF, tn_L 5, if_neg (nI_ge (by omega) (by omega)), tn_ckn (by omega) (by decide), tn_ckn (by omega) (by decide), tn_xn (by omega), hk k (by omega), nI_1]
    refine tq_lt (ih m (k + 1) _ _ (by omega) (by omega) (m_tried q (k := k) (v := v k) (hv3 k (by omega))) (fun j hj => ?_) (fun j hj => ?_))
    · rw [tn_si_1, if_neg (by omega)]; exact hk j hj
    · unfold va_up
      by_cases c : j = k
      · subst c; rw [if_pos rfl]
      · rw [if_neg c]; exact hw j (by omega)
theorem m_habits (hV : tVe e) (h : kM A e hb u L fixed σ) : tq (F_X5_weekGoes_57 σ) (fun _ σ' => kM A e (tn_hg e u hb) u L fixed σ') := by
  have hn := hV.1.1
  have lp : ∀ d n k (τ : tn_M), k + d = 4 → d < n → 1 ≤ k → kM A e (fun j => if j < k then tn_hg e u hb j else hb j) u L fixed τ → tq (F_X5_weekGoes_59 n (nI k) τ) (fun _ σ' => kM A e (tn_hg e u hb) u L fixed σ') := by
    intro d
    induction d with
    | zero =>
      intro n k τ h1 h2 hk q
      obtain ⟨m, rfl⟩ : ∃ m, n = m + 1 := ⟨n - 1, by omega⟩
      have : k = 4 := by omega
      subst this
      rw [F_X5_weekGoes_59, if_pos (by decide)]
      obtain ⟨⟨p1, p2, p3, p4, p5, p6, p7⟩, hc⟩ := q
      refine tq_some ⟨⟨p1, p2, p3, p4, p5, fun j a1 a2 => ?_, p7⟩, hc⟩
      have := p6 j a1 a2
      simp only [if_pos (show j < 4 by omega)] at this
      exact this
    | succ d ih =>
      intro n k τ h1 h2 hk q
      obtain ⟨m, rfl⟩ : ∃ m, n = m + 1 := ⟨n - 1, by omega⟩
      have hlt := mk_32 hn u k
      have ha : τ.1 45 k = nI (hb k) := by
        have := q.1.ha hk (by omega)
        simp only [if_neg (show ¬ k < k by omega)] at this
        exact this
      have h8 : hb k ≤ 8 := by
        have := q.1.h8 hk (by omega)
        simp only [if_neg (show ¬ k < k by omega)] at this
        exact this
      have put : ∀ y, y = tn_hg e u hb k → tq (F_X5_weekGoes_110 (fun z0 zs => F_X5_weekGoes_59 m z0 zs) (nI k) (nI k) (nI y) τ) (fun _ σ' => kM A e (tn_hg e u hb) u L fixed σ') := by
        intro y hy
        have hy8 : y ≤ 8 := by rw [hy]; unfold tn_hg; split <;> (try split) <;> omega
        unfold F_X5_weekGoes_110
        rw [tn_ckn (by omega) (by decide), tn_xn (by omega), nI_1]
        refine tq_lt (ih m (k + 1) _ (by omega) (by omega) (by omega) ?_)
        obtain ⟨⟨p1, p2, p3, p4, p5, p6, p7, p8, p9, p10⟩, hm⟩ := q
        have ee : ∀ a b, a ≠ 45 → (tn_si τ 45 k (nI y)).1 a b = τ.1 a b := fun a b hab => by rw [tn_si_1, if_neg (by omega)]
        refine ⟨⟨mSt_same p1 (fun a b hab => ee a b (by omega)), by rw [ee _ _ (by omega)]; exact p2, by rw [ee _ _ (by omega)]; exact p3, by rw [ee _ _ (by omega)]; exact p4, fun k hk => by rw [ee _ _ (by omega)]; exact p5 k hk, fun j a1 a2 => ?_, fun k hk => by rw [ee _ _ (by omega)]; exact p7 k hk, by rw [ee _ _ (by omega)]; exact p8, by rw [ee _ _ (by omega)]; exact p9, mFi_same p10 (ee _ _ (by omega)) (ee _ _ (by omega)) (ee _ _ (by omega))⟩, M0_sub (S := [(45, 999)]) hm (tn_fr.si (by simp [tn_ms]) tn_fr.rf) (by decide)⟩
        rw [tn_si_1]
        by_cases c : j = k
        · subst c
          simp only [true_and, if_pos (Nat.lt_succ_self j)]
          rw [if_pos trivial, ← hy]
          exact ⟨rfl, hy8⟩
        · rw [if_neg (fun w => c w.2)]
          have := p6 j a1 a2
          have hlt : (j < k + 1) ↔ (j < k) := by omega
          simp only [hlt]
          exact this
      rw [F_X5_weekGoes_59, tn_L 4, if_neg (nI_ge (by omega) (by omega)), tn_ckn (by omega) (by decide), tn_xn (by omega), s_openIn hV q.1 (by omega), tn_bds]
      refine tq_lt (tq_lt ?_)
      rw [ha]
      by_cases c : tn_mk (sn (eS e)) u k = 0
      · rw [c, if_pos (show nI 0 = 0 from rfl)]
        have hh : ∀ j, j ≤ 8 → (j = 0 ∧ ¬ (0 : Int32) ≤ nI j + (-1)) ∨ (1 ≤ j ∧ (0 : Int32) ≤ nI j + (-1) ∧ nI j + (-1) ≤ (8 : Int32) ∧ nI j + (-1) = nI (j - 1)) := by decide +kernel
        have hg : tn_hg e u hb k = hb k - 1 := by unfold tn_hg; rw [if_pos c]
        rcases hh _ h8 with ⟨z1, z2⟩ | ⟨z1, z2, z3, z4⟩
        · rw [if_neg z2]
          exact put 0 (by omega)
        · rw [if_pos z2, if_pos z3, z4]
          exact put _ hg.symm
      · rw [if_neg (show ¬ nI (tn_mk (sn (eS e)) u k) = 0 by rw [show (0 : Int32) = nI 0 from rfl, nI_eq (by omega) (by omega)]; exact c)]
        have hh : ∀ j, j ≤ 8 → (0 : Int32) ≤ nI j + 1 ∧ ((j = 8 ∧ ¬ nI j + 1 ≤ (8 : Int32)) ∨ (j ≤ 7 ∧ nI j + 1 ≤ (8 : Int32) ∧ nI j + 1 = nI (j + 1))) := by decide +kernel
        have hg : tn_hg e u hb k = if hb k + 1 ≤ 8 then hb k + 1 else 8 := by unfold tn_hg; rw [if_neg c]
        obtain ⟨z0, z1⟩ := hh _ h8
        rw [if_pos z0]
        rcases z1 with ⟨z1, z2⟩ | ⟨z1, z2, z3⟩
        · rw [if_neg z2]
          exact put 8 (by rw [hg, if_neg (by omega)])
        · rw [if_pos z2, z3]
          exact put _ (by rw [hg, if_pos (by omega)])
  unfold F_X5_weekGoes_57
  refine lp 3 tn_fuel 1 σ (by omega) (by unfold tn_fuel; omega) (by omega) ?_
  obtain ⟨⟨p1, p2, p3, p4, p5, p6, p7⟩, hc⟩ := h
  refine ⟨⟨p1, p2, p3, p4, p5, fun j a1 a2 => ?_, p7⟩, hc⟩
  simp only [if_neg (show ¬ j < 1 by omega)]
  exact p6 j a1 a2
theorem m_weekGoes (hV : tVe e) (h : kM A e hb u 3 (-1) σ) : tq (f_X5_weekGoes σ) (fun _ σ' => kM A e (tn_wh e hb u) (tn_wu e hb u) 3 (-1) σ') := by
  unfold f_X5_weekGoes
  refine m_keep2 (F := F_X5_weekGoes_2) (G := F_X5_weekGoes_25) (fun n x σ => by rw [F_X5_weekGoes_2]) (fun τ q hk => ?_) 5 tn_fuel 0 σ (by omega) (by unfold tn_fuel; omega) h (fun j hj => absurd hj (Nat.not_lt_zero j))
  unfold F_X5_weekGoes_25
  refine tq_bd (tq_fr (fr_X5_runsDown _) (m_runsDown hV q)) (fun r τ1 ⟨⟨q1, q2, _⟩, f1⟩ => ?_)
  rw [q1]
  unfold tn_wh tn_wu
  cases hg : (tn_go40 e hb (tn_lm e 3) (-1) u).2.2 with
  | false =>
    rw [if_pos (by decide)]
    simp only [Bool.false_eq_true, if_false]
    exact m_back2 (v := u) (fun j hj => h.1.u3 hj) F_X5_weekGoes_34 F_X5_weekGoes_57 (fun n x σ => by rw [F_X5_weekGoes_34]) (fun τ q => m_habits hV q) 5 tn_fuel 0 _ τ1 (by omega) (by unfold tn_fuel; omega) q2 (fun j hj => by rw [f1.i 48 j (by rfl)]; exact hk j hj) (fun j hj => absurd hj (Nat.not_lt_zero j))
  | true =>
    rw [if_neg (by decide)]
    simp only [if_true]
    exact m_habits hV q2
end CX

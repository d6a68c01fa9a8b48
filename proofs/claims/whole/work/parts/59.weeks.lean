/-! the weeks -/
/-- a run touches no hours behind the last shop -/
theorem rd_out (e : tEc) (hb lim : Nat → Nat) (held : Int32) (u : Nat → Nat) {j : Nat} : ∀ k, k ≤ j → (tn_rd e hb lim held u k).1 j = u j := by
  intro k
  induction k with
  | zero => intro _; rfl
  | succ k ih =>
    intro hk
    rw [rd_s]
    split
    · show va_up _ k _ j = _
      unfold va_up
      rw [if_neg (by omega)]
      exact ih (by omega)
    · exact ih (by omega)
theorem rn_out (e : tEc) (hb lim : Nat → Nat) (held : Int32) {j : Nat} (hj : sn (eS e) ≤ j) : ∀ d (u : Nat → Nat) c, (tn_rn e hb lim held d u c).1 j = u j := by
  intro d
  induction d with
  | zero => intro u c; rfl
  | succ d ih =>
    intro u c
    unfold tn_rn
    dsimp only
    split
    · rw [ih]; exact rd_out e hb lim held u _ hj
    · exact rd_out e hb lim held u _ hj
theorem go_out (e : tEc) (hb lim : Nat → Nat) (held : Int32) (u : Nat → Nat) {j : Nat} (hj : sn (eS e) ≤ j) : (tn_go40 e hb lim held u).1 j = u j := rn_out e hb lim held hj 40 u 0
section CW
variable {A : tA} {e : tEc} {hb u lim : Nat → Nat} {held : Int32} {σ : tn_M}
theorem k_remember (hV : tVe e) (h : kC A e hb u lim held σ) : tq (f_X0_remember σ) (fun _ σ' => kC A e hb u lim held σ' ∧ ∀ j, j < 5 → σ'.1 23 j = nI (u j)) := by
  unfold f_X0_remember
  rw [cck_a, show tn_x 0 = 0 by decide, show tn_x 5 = 5 by decide]
  obtain ⟨⟨p1, p2, p3, p4, p5, p6, p7, p8, p9, p10, p11⟩, hc⟩ := h
  have ee : ∀ a b, a ≠ 23 → (tn_cp σ 20 23 0 0 5).1 a b = σ.1 a b := fun a b hab => by rw [tn_cp_1, if_neg (by omega)]
  have hf : tn_fr [(23, 999)] σ (tn_cp σ 20 23 0 0 5) := fun a b hab => ⟨by refine ee a b (fun q => ?_); subst q; simp [tn_ms] at hab, by rw [tn_cp_2]⟩
  refine tq_lt (tq_some ⟨⟨⟨cSt_same p1 (fun a b hab => ee a b (by omega)) hV.1.2.1, p2, fun k hk => by rw [ee _ _ (by omega)]; exact p3 k hk, fun j a1 a2 => by rw [ee _ _ (by omega)]; exact p4 j a1 a2, fun j a1 a2 => by rw [ee _ _ (by omega)]; exact p5 j a1 a2, fun j hj => by rw [ee _ _ (by omega)]; exact p6 j hj, by rw [ee _ _ (by omega)]; exact p7, by rw [ee _ _ (by omega)]; exact p8, p9, by rw [ee _ _ (by omega)]; exact p10, p11⟩, CI_sub hc hf (by decide)⟩, fun j hj => ?_⟩)
  rw [tn_cp_1, if_pos (by omega)]
  simp only [Nat.zero_add, Nat.sub_zero]
  exact (p3 j hj).1
theorem k_recall (hV : tVe e) {v : Nat → Nat} (hv : ∀ k, k < 5 → v k ≤ 3) (ho : ∀ j, sn (eS e) ≤ j → u j = v j) (hk : ∀ j, j < 5 → σ.1 23 j = nI (v j)) (h : kC A e hb u lim held σ) : tq (f_X0_recall σ) (fun _ σ' => kC A e hb v lim held σ') := by
  have hn := hV.1.1
  have lp : ∀ d n k (τ : tn_M), k + d = sn (eS e) → d < n → (∀ j, j < 5 → τ.1 23 j = nI (v j)) → kC A e hb (fun j => if j < k then v j else u j) lim held τ → tq (F_X0_recall_2 n (nI k) τ) (fun _ σ' => kC A e hb v lim held σ') := by
    intro d
    induction d with
    | zero =>
      intro n k τ h1 h2 hk q
      obtain ⟨m, rfl⟩ : ∃ m, n = m + 1 := ⟨n - 1, by omega⟩
      have : k = sn (eS e) := by omega
      subst this
      rw [F_X0_recall_2, q.1.st.1, if_pos (nI_le (Nat.le_refl _) (by omega))]
      have : (fun j => if j < sn (eS e) then v j else u j) = v := by
        funext j
        by_cases c : j < sn (eS e)
        · rw [if_pos c]
        · rw [if_neg c]; exact ho j (by omega)
      rw [this] at q
      exact tq_some q
    | succ d ih =>
      intro n k τ h1 h2 hk q
      obtain ⟨m, rfl⟩ : ∃ m, n = m + 1 := ⟨n - 1, by omega⟩
      rw [F_X0_recall_2, q.1.st.1, if_neg (nI_ge (by omega) (by omega)), tn_ckn (by omega) (by decide), tn_xn (by omega), hk k (by omega), nI_1]
      refine tq_bd (tq_fr (fr_X0_become _ _ _) (k_become hV q (by omega) (hv k (by omega)))) (fun _ τ1 ⟨q1, f1⟩ => ?_)
      have : va_up (fun j => if j < k then v j else u j) k (v k) = (fun j => if j < k + 1 then v j else u j) := by
        funext j
        unfold va_up
        by_cases c : j = k
        · subst c
          rw [if_pos rfl, if_pos (show j < j + 1 by omega)]
        · rw [if_neg c]
          dsimp only
          by_cases d : j < k
          · rw [if_pos d, if_pos (show j < k + 1 by omega)]
          · rw [if_neg d, if_neg (show ¬ j < k + 1 by omega)]
      rw [this] at q1
      exact ih m (k + 1) τ1 (by omega) (by omega) (fun j hj => by rw [f1.i 23 j (by rfl)]; exact hk j hj) q1
  unfold f_X0_recall
  refine lp (sn (eS e)) tn_fuel 0 σ (by omega) (by unfold tn_fuel; omega) hk ?_
  have : (fun j => if j < 0 then v j else u j) = u := by
    funext j
    rw [if_neg (by omega)]
  rw [this]
  exact h
/-- a week: hours and habits after it -/
def tn_hg (e : tEc) (u hb : Nat → Nat) (h : Nat) : Nat := if tn_mk (sn (eS e)) u h = 0 then hb h - 1 else (if hb h + 1 ≤ 8 then hb h + 1 else 8)
def tn_wu (e : tEc) (hb u : Nat → Nat) : Nat → Nat := if (tn_go40 e hb (tn_lm e 3) (-1) u).2.2 then (tn_go40 e hb (tn_lm e 3) (-1) u).1 else u
def tn_wh (e : tEc) (hb u : Nat → Nat) : Nat → Nat := tn_hg e (tn_wu e hb u) hb
theorem k_habits (hV : tVe e) (h : kC A e hb u lim held σ) : tq (F_X0_passWeek_15 σ) (fun _ σ' => kC A e (tn_hg e u hb) u lim held σ') := by
  have hn := hV.1.1
  have lp : ∀ d n k (τ : tn_M), k + d = 4 → d < n → 1 ≤ k → kC A e (fun j => if j < k then tn_hg e u hb j else hb j) u lim held τ → tq (F_X0_passWeek_17 n (nI k) τ) (fun _ σ' => kC A e (tn_hg e u hb) u lim held σ') := by
    intro d
    induction d with
    | zero =>
      intro n k τ h1 h2 hk q
      obtain ⟨m, rfl⟩ : ∃ m, n = m + 1 := ⟨n - 1, by omega⟩
      have : k = 4 := by omega
      subst this
      rw [F_X0_passWeek_17, if_pos (by decide)]
      obtain ⟨⟨p1, p2, p3, p4, p5, p6⟩, hc⟩ := q
      refine tq_some ⟨⟨p1, p2, p3, p4, fun j a1 a2 => ?_, p6⟩, hc⟩
      have := p5 j a1 a2
      simp only [if_pos (show j < 4 by omega)] at this
      exact this
    | succ d ih =>
      intro n k τ h1 h2 hk q
      obtain ⟨m, rfl⟩ : ∃ m, n = m + 1 := ⟨n - 1, by omega⟩
      have hlt := mk_32 hn u k
      have ha : τ.1 22 k = nI (hb k) := by
        have := q.1.ha hk (by omega)
        simp only [if_neg (show ¬ k < k by omega)] at this
        exact this
      have h8 : hb k ≤ 8 := by
        have := q.1.h8 hk (by omega)
        simp only [if_neg (show ¬ k < k by omega)] at this
        exact this
      have put : ∀ y, y = tn_hg e u hb k → tq (F_X0_passWeek_64 (fun z0 zs => F_X0_passWeek_17 m z0 zs) (nI k) (nI k) (nI y) τ) (fun _ σ' => kC A e (tn_hg e u hb) u lim held σ') := by
        intro y hy
        have hy8 : y ≤ 8 := by rw [hy]; unfold tn_hg; split <;> (try split) <;> omega
        unfold F_X0_passWeek_64
        rw [tn_ckn (by omega) (by decide), tn_xn (by omega), nI_1]
        refine tq_lt (ih m (k + 1) _ (by omega) (by omega) (by omega) ?_)
        obtain ⟨⟨p1, p2, p3, p4, p5, p6, p7, p8, p9, p10, p11⟩, hc⟩ := q
        refine ⟨⟨cSt_same p1 (fun a b hab => by rw [tn_si_1, if_neg (by omega)]) hV.1.2.1, p2, fun k hk => by rw [tn_si_1, if_neg (by omega)]; exact p3 k hk, fun j a1 a2 => by rw [tn_si_1, if_neg (by omega)]; exact p4 j a1 a2, fun j a1 a2 => ?_, fun j hj => by rw [tn_si_1, if_neg (by omega)]; exact p6 j hj, by rw [tn_si_1, if_neg (by omega)]; exact p7, by rw [tn_si_1, if_neg (by omega)]; exact p8, p9, by rw [tn_si_1, if_neg (by omega)]; exact p10, p11⟩, CI_sub (S := [(22, 999)]) hc (tn_fr.si (by simp [tn_ms]) tn_fr.rf) (by decide)⟩
        rw [tn_si_1]
        by_cases c : j = k
        · subst c
          simp only [true_and, if_pos (Nat.lt_succ_self j)]
          rw [if_pos trivial, ← hy]
          exact ⟨rfl, hy8⟩
        · rw [if_neg (fun w => c w.2)]
          have := p5 j a1 a2
          have hlt : (j < k + 1) ↔ (j < k) := by omega
          simp only [hlt]
          exact this
      rw [F_X0_passWeek_17, tn_L 3, if_neg (nI_nlt (by omega) (by omega)), tn_ckn (by omega) (by decide), tn_xn (by omega), q.1.li hk (by omega)]
      by_cases c : tn_mk (sn (eS e)) u k = 0
      · rw [c, if_pos (by rfl), tn_ckn (by omega) (by decide), ha]
        have ev : (if (0 : Int32) < nI (hb k) - 1 then nI (hb k) - 1 else 0) = nI (hb k - 1) := by
          have hh : ∀ j, j ≤ 8 → (if (0 : Int32) < nI j - 1 then nI j - 1 else 0) = nI (j - 1) := by decide +kernel
          exact hh _ h8
        rw [ev]
        exact put _ (by unfold tn_hg; rw [if_pos c])
      · rw [if_neg (by rw [show (0 : Int32) = nI 0 from rfl, nI_eq (by omega) (by omega)]; exact c), tn_ckn (by omega) (by decide), ha]
        have ev : (if nI (hb k) + 1 < (8 : Int32) then nI (hb k) + 1 else 8) = nI (if hb k + 1 ≤ 8 then hb k + 1 else 8) := by
          have hh : ∀ j, j ≤ 8 → (if nI j + 1 < (8 : Int32) then nI j + 1 else 8) = nI (if j + 1 ≤ 8 then j + 1 else 8) := by decide +kernel
          exact hh _ h8
        rw [ev]
        exact put _ (by unfold tn_hg; rw [if_neg c])
  unfold F_X0_passWeek_15
  refine lp 3 tn_fuel 1 σ (by omega) (by unfold tn_fuel; omega) (by omega) ?_
  obtain ⟨⟨p1, p2, p3, p4, p5, p6⟩, hc⟩ := h
  refine ⟨⟨p1, p2, p3, p4, fun j a1 a2 => ?_, p6⟩, hc⟩
  simp only [if_neg (show ¬ j < 1 by omega)]
  exact p5 j a1 a2
theorem k_passWeek (hV : tVe e) (h : kC A e hb u (tn_lm e 3) (-1) σ) : tq (f_X0_passWeek σ) (fun _ σ' => kC A e (tn_wh e hb u) (tn_wu e hb u) (tn_lm e 3) (-1) σ') := by
  unfold f_X0_passWeek
  refine tq_bd (k_remember hV h) (fun _ σ1 ⟨q1, q2⟩ => tq_bd (tq_fr (fr_X0_runDown _) (k_runDown hV q1)) (fun r σ2 ⟨⟨q3, q4, _⟩, f2⟩ => ?_))
  rw [q3]
  unfold tn_wh tn_wu
  cases hg : (tn_go40 e hb (tn_lm e 3) (-1) u).2.2 with
  | false =>
    rw [if_pos (by decide)]
    simp only [Bool.false_eq_true, if_false]
    exact tq_bd (k_recall hV (v := u) (fun k hk => h.1.u3 hk) (fun j hj => go_out e hb _ _ u hj) (fun j hj => by rw [f2.i 23 j (by rfl)]; exact q2 j hj) q4) (fun _ σ3 q5 => k_habits hV q5)
  | true =>
    rw [if_neg (by decide)]
    simp only [if_true]
    exact k_habits hV q4
end CW

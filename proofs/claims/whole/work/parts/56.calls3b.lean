section CC
variable {A : tA} {e : tEc} {hb u lim : Nat → Nat} {held : Int32} {σ : tn_M}
/-- the economy without fines -/
def tn_e0 (A : tA) : tEc := (tn_SA A, aG A 0, aG A 1, aG A 2, 0, sc (tn_SA A))
theorem tVe_g {S : tS} {l c m : Nat} {F F' : Int64} {p : Nat → Nat} (h : tVe (S, l, c, m, F, p)) : tVe (S, l, c, m, F', p) := ⟨h.1, h.2.1, h.2.2.1, h.2.2.2.1, h.2.2.2.2⟩
theorem tVe_0 (hA : tW A) : tVe (tn_e0 A) := tVe_g (tVe_A hA)
theorem cSc_g {S : tS} {l c m : Nat} {F F' : Int64} {p : Nat → Nat} (h : cSc (S, l, c, m, F, p) hb u lim held σ) : cSc (S, l, c, m, F', p) hb u lim held (tn_sl σ 3 10 F') := by
  obtain ⟨h1, h2, h3, h4, h5, h6, h7, h8, h9, h10, h11⟩ := h
  refine ⟨h1, fun hh B c q1 q2 q3 q4 => ?_, h3, h4, h5, h6, h7, h8, ?_, h10, h11⟩
  · rw [tn_sl_2, if_neg (by omega)]; exact h2 hh B c q1 q2 q3 q4
  · rw [tn_sl_2, if_pos ⟨rfl, rfl⟩]
theorem k_fine0 (h : kC A (tn_eA A) hb u lim held σ) : kC A (tn_e0 A) hb u lim held (tn_sl σ 3 10 0) := ⟨cSc_g h.1, CI_sub (S := [(3, 10)]) h.2 (tn_fr.sl (by rfl) tn_fr.rf) (by decide)⟩
theorem mTr_g {S : tS} {l c m L L' : Nat} {F : Int64} {p : Nat → Nat} (hL : L' ≤ 3) (h : mTr (S, l, c, m, F, p) hb u L held σ) : mTr (S, l, c, m, 0, p) hb u L' held (tn_si (tn_si σ 5 18 0) 5 19 (nI L')) := by
  obtain ⟨p1, p2, p3, p4, p5, p6, p7, p8, p9, p10⟩ := h
  have ee : ∀ a b, ¬ (a = 5 ∧ (b = 18 ∨ b = 19)) → (tn_si (tn_si σ 5 18 0) 5 19 (nI L')).1 a b = σ.1 a b := by
    intro a b hab
    simp only [tn_si_1]
    rw [if_neg (by omega), if_neg (by omega)]
  refine ⟨mSt_same p1 (fun a b hab => ee a b (by omega)), by rw [ee _ _ (by omega)]; exact p2, by rw [ee _ _ (by omega)]; exact p3, by rw [ee _ _ (by omega)]; exact p4, fun k hk => by rw [ee _ _ (by omega)]; exact p5 k hk, fun k h1 h3 => by rw [ee _ _ (by omega)]; exact p6 k h1 h3, fun k hk => by rw [ee _ _ (by omega)]; exact p7 k hk, ⟨?_, hL⟩, by rw [ee _ _ (by omega)]; exact p9, Or.inl ⟨?_, rfl⟩⟩
  · rw [tn_si_1, if_pos ⟨rfl, rfl⟩]
  · rw [tn_si_1, if_neg (by omega), tn_si_1, if_pos ⟨rfl, rfl⟩]
theorem k_limitBound (hV : tVe e) {L : Nat} (hL : L ≤ 3) (h : kC A e hb u lim held σ) : tq (f_X0_limitBound (nI L) σ) (fun _ σ' => kC A e hb u (tn_lm e L) held σ') := by
  have hn := hV.1.1
  have lp : ∀ d n k (τ : tn_M), k + d = sn (eS e) → d < n → kC A e hb u (fun j => if j < k then tn_lm e L j else lim j) held τ → tq (F_X0_limitBound_2 n (nI L) (nI k) τ) (fun _ σ' => kC A e hb u (tn_lm e L) held σ') := by
    intro d
    induction d with
    | zero =>
      intro n k τ h1 h2 q
      obtain ⟨m, rfl⟩ : ∃ m, n = m + 1 := ⟨n - 1, by omega⟩
      have : k = sn (eS e) := by omega
      subst this
      rw [F_X0_limitBound_2, q.1.st.1, if_pos (nI_le (Nat.le_refl _) (by omega))]
      obtain ⟨⟨p1, p2, p3, p4, p5, p6, p7⟩, hc⟩ := q
      refine tq_some ⟨⟨p1, p2, p3, p4, p5, fun k hk => ?_, p7⟩, hc⟩
      have := p6 k hk
      simp only [if_pos hk] at this
      exact this
    | succ d ih =>
      intro n k τ h1 h2 q
      obtain ⟨m, rfl⟩ : ∃ m, n = m + 1 := ⟨n - 1, by omega⟩
      rw [F_X0_limitBound_2, q.1.st.1, if_neg (nI_ge (by omega) (by omega)), s_bound hV q.1 (by omega), tn_bds]
      refine tq_lt ?_
      have ev : (if (if sz (eS e) k ≤ eM e then (0 : Int32) else 1) = 0 then (3 : Int32) else nI L) = nI (tn_lm e L k) := by
        unfold tn_lm
        by_cases c : sz (eS e) k ≤ eM e
        · rw [if_pos c, if_pos c, if_pos rfl]; rfl
        · rw [if_neg c, if_neg c, if_neg (by decide)]
      rw [ev, tn_ckn (by omega) (by decide), tn_xn (by omega), nI_1]
      refine tq_lt (ih m (k + 1) _ (by omega) (by omega) ?_)
      obtain ⟨⟨p1, p2, p3, p4, p5, p6, p7, p8, p9, p10, p11⟩, hc⟩ := q
      refine ⟨⟨cSt_same p1 (fun a b hab => by rw [tn_si_1, if_neg (by omega)]) hV.1.2.1, p2, fun k hk => by rw [tn_si_1, if_neg (by omega)]; exact p3 k hk, fun j a1 a2 => by rw [tn_si_1, if_neg (by omega)]; exact p4 j a1 a2, fun j a1 a2 => by rw [tn_si_1, if_neg (by omega)]; exact p5 j a1 a2, fun j hj => ?_, by rw [tn_si_1, if_neg (by omega)]; exact p7, by rw [tn_si_1, if_neg (by omega)]; exact p8, p9, by rw [tn_si_1, if_neg (by omega)]; exact p10, p11⟩, CI_sub (S := [(21, 999)]) hc (tn_fr.si (by rfl) tn_fr.rf) (by decide)⟩
      rw [tn_si_1]
      by_cases c : j = k
      · subst c
        simp only [true_and, if_true, Nat.lt_succ_self, if_pos (Nat.lt_succ_self _)]
        exact lm_3 hL j
      · rw [if_neg (fun w => c w.2)]
        have := p6 j hj
        have hlt : (j < k + 1) ↔ (j < k) := by omega
        simp only [hlt]
        exact this
  unfold f_X0_limitBound
  refine lp (sn (eS e)) tn_fuel 0 σ (by omega) (by unfold tn_fuel; omega) ?_
  have : (fun j => if j < 0 then tn_lm e L j else lim j) = lim := by
    funext j
    rw [if_neg (by omega)]
  rw [this]
  exact h
end CC

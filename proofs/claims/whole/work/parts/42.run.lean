/-! running down: once for both -/
theorem up_self (u : Nat → Nat) (k : Nat) : va_up u k (u k) = u := by
  funext j
  unfold va_up
  by_cases c : j = k
  · simp [c]
  · simp [c]
def tn_gn (e : tEc) (hb lim u : Nat → Nat) (k : Nat) : Bool := decide (tn_ea e hb u k < tn_ea e hb (va_up u k (tn_rp e hb u lim k)) k)
def tn_mv (e : tEc) (hb lim : Nat → Nat) (held : Int32) (u : Nat → Nat) (k : Nat) : Bool := !decide (nI k = held) && tn_gn e hb lim u k
def tn_rd (e : tEc) (hb lim : Nat → Nat) (held : Int32) (u : Nat → Nat) : Nat → (Nat → Nat) × Bool
  | 0 => (u, false)
  | k + 1 => let q := tn_rd e hb lim held u k
    if tn_mv e hb lim held q.1 k then (va_up q.1 k (tn_rp e hb q.1 lim k), true) else (q.1, q.2)
theorem rd_s (e : tEc) (hb lim : Nat → Nat) (held : Int32) (u : Nat → Nat) (k : Nat) : tn_rd e hb lim held u (k + 1) = if tn_mv e hb lim held (tn_rd e hb lim held u k).1 k then (va_up (tn_rd e hb lim held u k).1 k (tn_rp e hb (tn_rd e hb lim held u k).1 lim k), true) else tn_rd e hb lim held u k := rfl
def tn_rn (e : tEc) (hb lim : Nat → Nat) (held : Int32) : Nat → (Nat → Nat) → Nat → (Nat → Nat) × Nat × Bool
  | 0, u, c => (u, c, false)
  | j + 1, u, c => let q := tn_rd e hb lim held u (sn (eS e))
    if q.2 then tn_rn e hb lim held j q.1 (c + 1) else (q.1, c, true)
def tn_go40 (e : tEc) (hb lim : Nat → Nat) (held : Int32) (u : Nat → Nat) : (Nat → Nat) × Nat × Bool := tn_rn e hb lim held 40 u 0
def tn_I (b : Bool) : Int32 := if b then 1 else 0
theorem tn_I0 (b : Bool) : (tn_I b = 0) ↔ b = false := by cases b <;> decide
section RC
variable {e : tEc} {hb u lim : Nat → Nat} {held : Int32} {σ : tn_M}
theorem s_round (hV : tVe e) {Q : Int32 → tn_M → Prop} (c2 : Int32 → tn_M → Option (Int32 × tn_M)) (x1 : Int32) (hc : ∀ τ, cSc e hb (tn_rd e hb lim held u (sn (eS e))).1 lim held τ → tn_fr [(3, 12), (20, 999), (24, 999), (25, 999)] σ τ → tq (F_X0_runDown_75 c2 x1 (tn_I (tn_rd e hb lim held u (sn (eS e))).2) τ) Q) : ∀ d n k (τ : tn_M), k + d = sn (eS e) → d < n → cSc e hb (tn_rd e hb lim held u k).1 lim held τ → tn_fr [(3, 12), (20, 999), (24, 999), (25, 999)] σ τ → tq (F_X0_runDown_12 c2 n x1 (tn_I (tn_rd e hb lim held u k).2) (nI k) τ) Q := by
  have hn := hV.1.1
  intro d
  induction d with
  | zero =>
    intro n k τ h1 h2 hs hf
    obtain ⟨m, rfl⟩ : ∃ m, n = m + 1 := ⟨n - 1, by omega⟩
    have : k = sn (eS e) := by omega
    subst this
    rw [F_X0_runDown_12, hs.st.1, if_pos (nI_le (Nat.le_refl _) (by omega))]
    exact hc τ hs hf
  | succ d ih =>
    intro n k τ h1 h2 hs hf
    obtain ⟨m, rfl⟩ : ∃ m, n = m + 1 := ⟨n - 1, by omega⟩
    have hk : k < sn (eS e) := by omega
    rw [F_X0_runDown_12, hs.st.1, if_neg (nI_ge (by omega) (by omega))]
    refine tq_bd (s_reply hV hs hk) (fun r τ1 hq => ?_)
    obtain ⟨rfl, ho, hs1, hf1⟩ := hq
    have hfa := hf.tr (hf1.mono (by decide))
    rw [hs1.hel, nI_1]
    generalize hu : (tn_rd e hb lim held u k).1 = w at *
    have hr3 : tn_rp e hb w lim k ≤ 3 := Nat.le_trans (an_le _ _) (hs.l3 hk)
    have hw3 := hs.u3 (k := k) (by omega)
    by_cases ch : nI k = held
    · rw [if_pos ch]
      have e1 : tn_rd e hb lim held u (k + 1) = tn_rd e hb lim held u k := by
        rw [rd_s, if_neg (by simp [tn_mv, ch])]
      have := ih m (k + 1) τ1 (by omega) (by omega) (by rw [e1, hu]; exact hs1) hfa
      rw [e1] at this
      exact this
    · rw [if_neg ch, tn_ckn (by omega) (by decide), tn_ckn (by omega) (by decide), tn_xn (show k < 2 ^ 31 by omega), hs1.un (by omega), tn_ckn (by omega) (by decide), tn_xn (by omega), tn_xn (by omega), ho _ hr3, ho _ hw3, up_self]
      by_cases cg : tn_ea e hb (va_up w k (tn_rp e hb w lim k)) k ≤ tn_ea e hb w k
      · rw [if_pos cg]
        have e1 : tn_rd e hb lim held u (k + 1) = tn_rd e hb lim held u k := by
          rw [rd_s, if_neg (by simp [tn_mv, tn_gn, hu, Int64.not_lt.mpr cg])]
        have := ih m (k + 1) τ1 (by omega) (by omega) (by rw [e1, hu]; exact hs1) hfa
        rw [e1] at this
        exact this
      · rw [if_neg cg]
        have e1 : tn_rd e hb lim held u (k + 1) = (va_up w k (tn_rp e hb w lim k), true) := by
          rw [rd_s, if_pos (by simp [tn_mv, tn_gn, hu, ch, Int64.not_le.mp cg]), hu]
        refine tq_bd (s_become hV hs1 hk hr3) (fun _ τ2 hq2 => ?_)
        have := ih m (k + 1) τ2 (by omega) (by omega) (by rw [e1]; exact hq2.1) (hfa.tr (hq2.2.mono (by decide)))
        rw [e1] at this
        exact this
theorem s_runDown (hV : tVe e) (hs : cSc e hb u lim held σ) : tq (f_X0_runDown σ) (fun r σ' => r = tn_I (tn_go40 e hb lim held u).2.2 ∧ cSc e hb (tn_go40 e hb lim held u).1 lim held σ' ∧ ((tn_go40 e hb lim held u).2.2 = true → σ'.1 3 12 = nI (tn_go40 e hb lim held u).2.1) ∧ tn_fr [(3, 12), (20, 999), (24, 999), (25, 999)] σ σ') := by
  have lp : ∀ j n c (v : Nat → Nat) (τ : tn_M), c + j = 40 → j < n → cSc e hb v lim held τ → tn_fr [(3, 12), (20, 999), (24, 999), (25, 999)] σ τ → tq (F_X0_runDown_2 n (nI c) τ) (fun r σ' => r = tn_I (tn_rn e hb lim held j v c).2.2 ∧ cSc e hb (tn_rn e hb lim held j v c).1 lim held σ' ∧ ((tn_rn e hb lim held j v c).2.2 = true → σ'.1 3 12 = nI (tn_rn e hb lim held j v c).2.1) ∧ tn_fr [(3, 12), (20, 999), (24, 999), (25, 999)] σ σ') := by
    intro j
    induction j with
    | zero =>
      intro n c v τ h1 h2 ht hf
      obtain ⟨m, rfl⟩ : ∃ m, n = m + 1 := ⟨n - 1, by omega⟩
      have : c = 40 := by omega
      subst this
      rw [F_X0_runDown_2, if_pos (by decide)]
      exact tq_some ⟨rfl, ht, fun h => by simp [tn_rn] at h, hf⟩
    | succ j ih =>
      intro n c v τ h1 h2 ht hf
      obtain ⟨m, rfl⟩ : ∃ m, n = m + 1 := ⟨n - 1, by omega⟩
      rw [F_X0_runDown_2, tn_L 40, if_neg (nI_ge (by omega) (by omega))]
      have hh := s_round (σ := σ) (u := v) (lim := lim) (held := held) (hb := hb) hV (Q := fun r σ' => r = tn_I (tn_rn e hb lim held (j + 1) v c).2.2 ∧ cSc e hb (tn_rn e hb lim held (j + 1) v c).1 lim held σ' ∧ ((tn_rn e hb lim held (j + 1) v c).2.2 = true → σ'.1 3 12 = nI (tn_rn e hb lim held (j + 1) v c).2.1) ∧ tn_fr [(3, 12), (20, 999), (24, 999), (25, 999)] σ σ') (fun z0 zs => F_X0_runDown_2 m z0 zs) (nI c) (fun τ1 ht1 hf1 => ?_) (sn (eS e)) tn_fuel 0 τ (by omega) (by have := hV.1.1; unfold tn_fuel; omega) ht hf
      · exact hh
      · unfold F_X0_runDown_75
        by_cases cb : (tn_rd e hb lim held v (sn (eS e))).2 = true
        · rw [if_neg (by rw [tn_I0, cb]; simp), nI_1]
          have := ih m (c + 1) _ τ1 (by omega) (by omega) ht1 hf1
          unfold tn_rn
          simp only [cb, if_true]
          exact this
        · rw [if_pos (by rw [tn_I0]; exact Bool.eq_false_iff.mpr cb)]
          unfold F_X0_runDown_79 tn_rn
          simp only [cb, Bool.false_eq_true, if_false]
          refine tq_lt (tq_some ⟨rfl, cSc_keep hV ht1 (tn_fr.si (by rfl) tn_fr.rf), fun _ => by rw [tn_si_1, if_pos ⟨rfl, rfl⟩], hf1.tr (tn_fr.si (by rfl) tn_fr.rf)⟩)
  unfold f_X0_runDown
  exact lp 40 tn_fuel 0 u σ (by omega) (by unfold tn_fuel; omega) hs tn_fr.rf
/-- the first shop that would earn more -/
def tn_fg (p : Nat → Bool) : Nat → Nat → Option Nat
  | _, 0 => none
  | k, d + 1 => if p k then some k else tn_fg p (k + 1) d
def tn_gi (o : Option Nat) : Int32 := tn_lki o
theorem s_firstGainer (hV : tVe e) (hs : cSc e hb u lim held σ) : tq (f_X0_firstGainer σ) (fun r σ' => r = tn_lki (tn_fg (tn_gn e hb lim u) 0 (sn (eS e))) ∧ cSc e hb u lim held σ' ∧ tn_fr [(25, 999)] σ σ') := by
  have hn := hV.1.1
  have lp : ∀ d n k (τ : tn_M), k + d = sn (eS e) → d < n → cSc e hb u lim held τ → tn_fr [(25, 999)] σ τ → tq (F_X0_firstGainer_2 n (nI k) τ) (fun r σ' => r = tn_lki (tn_fg (tn_gn e hb lim u) k d) ∧ cSc e hb u lim held σ' ∧ tn_fr [(25, 999)] σ σ') := by
    intro d
    induction d with
    | zero =>
      intro n k τ h1 h2 ht hf
      obtain ⟨m, rfl⟩ : ∃ m, n = m + 1 := ⟨n - 1, by omega⟩
      have : k = sn (eS e) := by omega
      subst this
      rw [F_X0_firstGainer_2, ht.st.1, if_pos (nI_le (Nat.le_refl _) (by omega))]
      exact tq_some ⟨rfl, ht, hf⟩
    | succ d ih =>
      intro n k τ h1 h2 ht hf
      obtain ⟨m, rfl⟩ : ∃ m, n = m + 1 := ⟨n - 1, by omega⟩
      have hk : k < sn (eS e) := by omega
      rw [F_X0_firstGainer_2, ht.st.1, if_neg (nI_ge (by omega) (by omega))]
      refine tq_bd (s_reply hV ht hk) (fun r τ1 hq => ?_)
      obtain ⟨rfl, ho, hs1, hf1⟩ := hq
      have hr3 : tn_rp e hb u lim k ≤ 3 := Nat.le_trans (an_le _ _) (hs.l3 hk)
      have hw3 := hs.u3 (k := k) (by omega)
      rw [nI_1, tn_ckn (by omega) (by decide), tn_ckn (by omega) (by decide), tn_xn (show k < 2 ^ 31 by omega), hs1.un (by omega), tn_ckn (by omega) (by decide), tn_xn (by omega), tn_xn (by omega), ho _ hr3, ho _ hw3, up_self]
      by_cases cg : tn_ea e hb (va_up u k (tn_rp e hb u lim k)) k ≤ tn_ea e hb u k
      · rw [if_pos cg]
        have := ih m (k + 1) τ1 (by omega) (by omega) hs1 (hf.tr hf1)
        unfold tn_fg
        rw [if_neg (by simp [tn_gn, Int64.not_lt.mpr cg])]
        exact this
      · rw [if_neg cg]
        unfold tn_fg
        rw [if_pos (by simp [tn_gn, Int64.not_le.mp cg])]
        exact tq_some ⟨rfl, hs1, hf.tr hf1⟩
  unfold f_X0_firstGainer
  exact lp (sn (eS e)) tn_fuel 0 σ (by omega) (by unfold tn_fuel; omega) hs tn_fr.rf
end RC

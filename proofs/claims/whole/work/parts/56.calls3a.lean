/-! the calls: best cap, always, keeps, week -/
/-- all till nine whose bit stands in a mask -/
def tn_ot (n M : Nat) (u : Nat → Nat) : Nat → Nat := fun j => if j < n then (if M.testBit j then 3 else 0) else u j
theorem ot_0 (n : Nat) (u : Nat → Nat) : tn_ot n 0 u = tn_pf n 0 u := by
  funext j
  unfold tn_ot tn_pf
  simp
theorem ot_ot (n M M' : Nat) (u : Nat → Nat) : tn_ot n M (tn_ot n M' u) = tn_ot n M u := by
  funext j
  unfold tn_ot
  by_cases h : j < n
  · rw [if_pos h, if_pos h]
  · rw [if_neg h, if_neg h, if_neg h]
def tn_otk (M : Nat) (u : Nat → Nat) (k : Nat) : Nat → Nat := fun j => if j < k then (if M.testBit j then 3 else 0) else u j
theorem otk_s (M : Nat) (u : Nat → Nat) (k : Nat) : va_up (tn_otk M u k) k (if M.testBit k then 3 else 0) = tn_otk M u (k + 1) := by
  funext j
  unfold va_up tn_otk
  by_cases c : j = k
  · subst c
    rw [if_pos rfl, if_pos (show j < j + 1 by omega)]
  · rw [if_neg c]
    by_cases d : j < k
    · rw [if_pos d, if_pos (show j < k + 1 by omega)]
    · rw [if_neg d, if_neg (show ¬ j < k + 1 by omega)]
section CC
variable {A : tA} {e : tEc} {hb u lim : Nat → Nat} {held : Int32} {σ : tn_M}
theorem b3 {B k : Nat} (hB : B < 32) (hk : k < 5) : ((nI B >>> (nI k &&& 31)) &&& 1) * 3 = nI (if B.testBit k then 3 else 0) := by
  rw [tn_b1 B hB k hk]
  split
  · rfl
  · rfl
theorem k_openTill (hV : tVe e) {M : Nat} (hM : M < 32) (h : kC A e hb u lim held σ) : tq (f_X0_openTillNine (nI M) σ) (fun _ σ' => kC A e hb (tn_ot (sn (eS e)) M u) lim held σ') := by
  have hn := hV.1.1
  have lp : ∀ d n k (τ : tn_M), k + d = sn (eS e) → d < n → kC A e hb (tn_otk M u k) lim held τ → tq (F_X0_openTillNine_2 n (nI M) (nI k) τ) (fun _ σ' => kC A e hb (tn_ot (sn (eS e)) M u) lim held σ') := by
    intro d
    induction d with
    | zero =>
      intro n k τ h1 h2 q
      obtain ⟨m, rfl⟩ : ∃ m, n = m + 1 := ⟨n - 1, by omega⟩
      have : k = sn (eS e) := by omega
      subst this
      rw [F_X0_openTillNine_2, q.1.st.1, if_pos (nI_le (Nat.le_refl _) (by omega))]
      exact tq_some q
    | succ d ih =>
      intro n k τ h1 h2 q
      obtain ⟨m, rfl⟩ : ∃ m, n = m + 1 := ⟨n - 1, by omega⟩
      rw [F_X0_openTillNine_2, q.1.st.1, if_neg (nI_ge (by omega) (by omega)), b3 hM (by omega), nI_1]
      refine tq_bd (k_become hV q (by omega) (by split <;> omega)) (fun _ τ1 q1 => ?_)
      rw [otk_s] at q1
      exact ih m (k + 1) τ1 (by omega) (by omega) q1
  unfold f_X0_openTillNine
  have : tn_otk M u 0 = u := by
    funext j
    unfold tn_otk
    rw [if_neg (by omega)]
  exact lp (sn (eS e)) tn_fuel 0 σ (by omega) (by unfold tn_fuel; omega) (by rw [this]; exact h)
theorem s_bound (hV : tVe e) (hs : cSc e hb u lim held σ) {k : Nat} (hk : k < sn (eS e)) : f_X0_bound (nI k) σ = some (if sz (eS e) k ≤ eM e then 0 else 1, σ) := by
  have hn := hV.1.1
  have h3 := (hV.1.2.2.1 k hk).2.1
  have hM := hV.2.2.2.1
  unfold f_X0_bound
  rw [tn_ckn (by omega) (by decide), tn_xn (by omega), hs.sma, (hs.st.2.2.1 k hk).1]
  unfold tn_lt
  by_cases c : sz (eS e) k ≤ eM e
  · rw [if_pos (nI_le c (by omega)), if_pos c]; rfl
  · rw [if_neg (nI_ge (by omega) (by omega)), if_neg c]; rfl
end CC

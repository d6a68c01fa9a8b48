/-! the call: leastFine -/
section EG
variable {A : tA} {e : tEc} {hb u lim : Nat → Nat} {held : Int32} {σ : tn_M} {L : Nat} {fixed : Int32}
/-- hours of the bound ones cut to the cap, shops below k -/
def tn_kw (e : tEc) (u : Nat → Nat) (k : Nat) : Nat → Nat := fun j => if j < k ∧ ¬ sz (eS e) j ≤ eM e ∧ eC e < u j then eC e else u j
theorem kl_0 (e : tEc) (u : Nat → Nat) : tn_kw e u 0 = u := by
  funext j
  unfold tn_kw
  rw [if_neg (by omega)]
theorem kl_at (e : tEc) (u : Nat → Nat) (k : Nat) : tn_kw e u k k = u k := by
  unfold tn_kw
  rw [if_neg (by omega)]
theorem kl_sN {e : tEc} {u : Nat → Nat} {k : Nat} (h : sz (eS e) k ≤ eM e ∨ u k ≤ eC e) : tn_kw e u (k + 1) = tn_kw e u k := by
  funext j
  unfold tn_kw
  by_cases c : j = k
  · subst c
    rw [if_neg (by omega), if_neg (by omega)]
  · have : (j < k + 1) ↔ (j < k) := by omega
    simp only [this]
theorem kl_sY {e : tEc} {u : Nat → Nat} {k : Nat} (h : ¬ sz (eS e) k ≤ eM e) (h2 : eC e < u k) : tn_kw e u (k + 1) = va_up (tn_kw e u k) k (eC e) := by
  funext j
  unfold tn_kw va_up
  by_cases c : j = k
  · subst c
    rw [if_pos ⟨by omega, h, h2⟩, if_pos rfl]
  · have : (j < k + 1) ↔ (j < k) := by omega
    rw [if_neg c]
    simp only [this]
theorem k_keepLaw (hV : tVe e) (h : kC A e hb u lim held σ) : tq (f_X0_keepLaw σ) (fun _ σ' => kC A e hb (tn_kw e u (sn (eS e))) lim held σ') := by
  have hn := hV.1.1
  have hc := hV.2.2.1
  have lp : ∀ d n k (τ : tn_M), k + d = sn (eS e) → d < n → kC A e hb (tn_kw e u k) lim held τ → tq (F_X0_keepLaw_2 n (nI k) τ) (fun _ σ' => kC A e hb (tn_kw e u (sn (eS e))) lim held σ') := by
    intro d
    induction d with
    | zero =>
      intro n k τ h1 h2 q
      obtain ⟨m, rfl⟩ : ∃ m, n = m + 1 := ⟨n - 1, by omega⟩
      have : k = sn (eS e) := by omega
      subst this
      rw [F_X0_keepLaw_2, q.1.st.1, if_pos (nI_le (Nat.le_refl _) (by omega))]
      exact tq_some q
    | succ d ih =>
      intro n k τ h1 h2 q
      obtain ⟨m, rfl⟩ : ∃ m, n = m + 1 := ⟨n - 1, by omega⟩
      have u3 := h.1.u3 (k := k) (by omega)
      rw [F_X0_keepLaw_2, q.1.st.1, if_neg (nI_ge (by omega) (by omega)), s_bound hV q.1 (by omega), tn_bds, nI_1]
      by_cases c : sz (eS e) k ≤ eM e
      · rw [if_pos c, if_pos rfl]
        exact ih m (k + 1) τ (by omega) (by omega) (by rw [kl_sN (Or.inl c)]; exact q)
      · rw [if_neg c, if_neg (by decide), tn_ckn (by omega) (by decide), tn_xn (by omega), q.1.cap, q.1.un (k := k) (by omega), kl_at]
        by_cases d2 : eC e < u k
        · rw [if_pos (nI_lt d2 (by omega))]
          refine tq_bd (k_become hV q (k := k) (v := eC e) (by omega) (by omega)) (fun _ τ1 q1 => ?_)
          exact ih m (k + 1) τ1 (by omega) (by omega) (by rw [kl_sY c d2]; exact q1)
        · rw [if_neg (nI_nlt (by omega) (by omega))]
          refine tq_bd (k_become hV q (k := k) (v := u k) (by omega) (by omega)) (fun _ τ1 q1 => ?_)
          have e1 : va_up (tn_kw e u k) k (u k) = tn_kw e u k := by
            have := up_self (tn_kw e u k) k
            rw [kl_at] at this
            exact this
          rw [e1] at q1
          exact ih m (k + 1) τ1 (by omega) (by omega) (by rw [kl_sN (Or.inr (by omega))]; exact q1)
  unfold f_X0_keepLaw
  exact lp (sn (eS e)) tn_fuel 0 σ (by omega) (by unfold tn_fuel; omega) (by rw [kl_0]; exact h)
/-- the greater of two -/
def tn_mx (x d : Int64) : Int64 := if d ≤ x then x else d
theorem mx_lt (x d : Int64) : (if d < x then x else d) = tn_mx x d := by
  unfold tn_mx
  by_cases c : d < x
  · rw [if_pos c, if_pos (Int64.le_of_lt c)]
  · rw [if_neg c]
    by_cases c2 : d ≤ x
    · rw [if_pos c2, ← Int64.toInt_inj]
      rw [tn_le64] at c2
      rw [tn_lt64] at c
      omega
    · rw [if_neg c2]
theorem mx_ge {x d : Int64} (h : 0 ≤ x) : 0 ≤ tn_mx x d := by
  unfold tn_mx
  by_cases c : d ≤ x
  · rw [if_pos c]; exact h
  · rw [if_neg c]
    rw [tn_le64] at *
    omega
def tn_l2 (e : tEc) (hb u : Nat → Nat) (k : Nat) : Nat → Nat → Int64 → Int64
  | 0, _, x => x
  | d + 1, h, x => tn_l2 e hb u k d (h + 1) (tn_mx x (tn_ea e hb (va_up u k h) k - tn_ea e hb u k))
def tn_l1 (e : tEc) (hb u : Nat → Nat) : Nat → Nat → Int64 → Int64
  | 0, _, x => x
  | d + 1, k, x => tn_l1 e hb u d (k + 1) (if sz (eS e) k ≤ eM e then x else tn_l2 e hb u k (3 - eC e) (eC e + 1) x)
theorem l2_ge (e : tEc) (hb u : Nat → Nat) (k : Nat) : ∀ d h x, 0 ≤ x → 0 ≤ tn_l2 e hb u k d h x
  | 0, _, _, hx => hx
  | d + 1, h, x, hx => by
    unfold tn_l2
    exact l2_ge e hb u k d (h + 1) _ (mx_ge hx)
theorem l1_ge (e : tEc) (hb u : Nat → Nat) : ∀ d k x, 0 ≤ x → 0 ≤ tn_l1 e hb u d k x
  | 0, _, _, hx => hx
  | d + 1, k, x, hx => by
    unfold tn_l1
    refine l1_ge e hb u d (k + 1) _ ?_
    split
    · exact hx
    · exact l2_ge e hb u k _ _ _ hx
end EG
section EH
variable {A : tA} {e : tEc} {hb u lim : Nat → Nat} {held : Int32} {σ : tn_M} {L : Nat} {fixed : Int32}
theorem k_lg36 {k : Nat} (hk : k < 5) (hu : u k ≤ 3) {τ : tn_M} (h20 : τ.1 20 k = nI (u k)) (ho : ∀ v, v ≤ 3 → τ.2 25 v = tn_ea e hb (va_up u k v) k) {Q : Int64 → tn_M → Prop} (c4 : Int64 → Int32 → tn_M → Option (Int64 × tn_M)) : ∀ d n h x, h + d = 4 → d < n → 1 ≤ h → tq (c4 (tn_l2 e hb u k d h x) (nI k + 1) τ) Q → tq (F_X0_lawlessGain_36 c4 n x (nI k) (nI h) τ) Q := by
  intro d
  induction d with
  | zero =>
    intro n h x h1 h2 h3 hQ
    obtain ⟨m, rfl⟩ : ∃ m, n = m + 1 := ⟨n - 1, by omega⟩
    have : h = 4 := by omega
    subst this
    rw [F_X0_lawlessGain_36, if_pos (by decide)]
    exact hQ
  | succ d ih =>
    intro n h x h1 h2 h3 hQ
    obtain ⟨m, rfl⟩ : ∃ m, n = m + 1 := ⟨n - 1, by omega⟩
    unfold tn_l2 at hQ
    rw [F_X0_lawlessGain_36, tn_L 3, if_neg (nI_nlt (by omega) (by omega)), tn_ckn (show h < 4 by omega) (by decide), tn_ckn hk (by decide), tn_xn (show k < 2 ^ 31 by omega), h20, tn_ckn (show u k < 4 by omega) (by decide), tn_xn (show h < 2 ^ 31 by omega), tn_xn (show u k < 2 ^ 31 by omega), ho h (by omega), ho (u k) hu, up_self, mx_lt, nI_1]
    exact tq_lt (ih m (h + 1) _ (by omega) (by omega) (by omega) hQ)
theorem k_weigh (hV : tVe e) (h : kC A e hb u lim held σ) {k : Nat} (hk : k < sn (eS e)) : tq (f_X0_weigh (nI k) σ) (fun _ σ' => (∀ v, v ≤ 3 → σ'.2 25 v = tn_ea e hb (va_up u k v) k) ∧ kC A e hb u lim held σ') :=
  tq_mono (s_weigh hV h.1 hk) (fun _ σ' q => ⟨q.1, cSc_keep hV h.1 (fr_sub q.2 (ms_sub (by decide))), CI_sub h.2 q.2 (by decide)⟩)
theorem k_lawless (hV : tVe e) (h : kC A e hb u lim held σ) : tq (f_X0_lawlessGain σ) (fun r σ' => r = tn_l1 e hb u (sn (eS e)) 0 0 ∧ kC A e hb u lim held σ') := by
  have hn := hV.1.1
  have hc := hV.2.2.1
  have lp : ∀ d n k x (τ : tn_M), k + d = sn (eS e) → d < n → kC A e hb u lim held τ → tq (F_X0_lawlessGain_4 n x (nI k) τ) (fun r σ' => r = tn_l1 e hb u d k x ∧ kC A e hb u lim held σ') := by
    intro d
    induction d with
    | zero =>
      intro n k x τ h1 h2 q
      obtain ⟨m, rfl⟩ : ∃ m, n = m + 1 := ⟨n - 1, by omega⟩
      have : k = sn (eS e) := by omega
      subst this
      rw [F_X0_lawlessGain_4, q.1.st.1, if_pos (nI_le (Nat.le_refl _) (by omega))]
      exact tq_some ⟨rfl, q⟩
    | succ d ih =>
      intro n k x τ h1 h2 q
      obtain ⟨m, rfl⟩ : ∃ m, n = m + 1 := ⟨n - 1, by omega⟩
      have hu := q.1.u3 (k := k) (by omega)
      rw [F_X0_lawlessGain_4, q.1.st.1, if_neg (nI_ge (by omega) (by omega)), s_bound hV q.1 (by omega), tn_bds]
      unfold tn_l1
      by_cases c : sz (eS e) k ≤ eM e
      · rw [if_pos c, if_pos rfl, nI_1]
        simp only [if_pos c]
        exact ih m (k + 1) x τ (by omega) (by omega) q
      · rw [if_neg c, if_neg (by decide)]
        simp only [if_neg c]
        refine tq_bd (k_weigh hV q (k := k) (by omega)) (fun _ τ1 ⟨q1, q2⟩ => ?_)
        rw [q2.1.cap, nI_1]
        refine tq_lt ?_
        refine k_lg36 (u := u) (by omega) hu (q2.1.un (by omega)) q1 _ (3 - eC e) tn_fuel (eC e + 1) x (by omega) (by unfold tn_fuel; omega) (by omega) ?_
        rw [nI_1]
        exact ih m (k + 1) _ τ1 (by omega) (by omega) q2
  unfold f_X0_lawlessGain
  exact lp (sn (eS e)) tn_fuel 0 0 σ (by omega) (by unfold tn_fuel; omega) h
end EH

/-! all hours by a code -/
def tn_pf (n c : Nat) (u : Nat → Nat) : Nat → Nat := fun j => if j < n then c / 4 ^ (n - 1 - j) % 4 else u j
theorem pf_0 (c : Nat) (u : Nat → Nat) : tn_pf 0 c u = u := by
  funext j
  simp [tn_pf]
theorem pf_s (n c : Nat) (u : Nat → Nat) : tn_pf (n + 1) c u = tn_pf n (c / 4) (va_up u n (c % 4)) := by
  funext j
  unfold tn_pf va_up
  by_cases h : j < n
  · rw [if_pos (by omega), if_pos h, Nat.div_div_eq_div_mul, show n + 1 - 1 - j = (n - 1 - j) + 1 by omega, Nat.pow_succ, Nat.mul_comm 4]
  · by_cases h2 : j = n
    · subst h2
      rw [if_pos (by omega), if_neg h, if_pos rfl]
      simp
    · rw [if_neg (by omega), if_neg h, if_neg h2]
theorem pf_le {n c : Nat} {u : Nat → Nat} (hu : ∀ k, k < 5 → u k ≤ 3) : ∀ k, k < 5 → tn_pf n c u k ≤ 3 := by
  intro k hk
  unfold tn_pf
  split
  · have := Nat.mod_lt (c / 4 ^ (n - 1 - k)) (by omega : 0 < 4)
    omega
  · exact hu k hk
def tn_av : Nat → (Nat → Nat) → (Nat → Nat)
  | 0, u => u
  | k + 1, u => if u k < 3 then va_up u k (u k + 1) else tn_av k (va_up u k 0)
theorem av_pf : ∀ (n c : Nat) (u : Nat → Nat), tn_av n (tn_pf n c u) = tn_pf n (c + 1) u
  | 0, c, u => by rw [pf_0, pf_0]; rfl
  | n + 1, c, u => by
    have hd : tn_pf (n + 1) c u n = c % 4 := by simp [tn_pf]
    have hlt := Nat.mod_lt c (by omega : 0 < 4)
    unfold tn_av
    rw [hd]
    by_cases h : c % 4 < 3
    · rw [if_pos h, pf_s n (c + 1), show (c + 1) / 4 = c / 4 by omega, show (c + 1) % 4 = c % 4 + 1 by omega]
      funext j
      unfold va_up
      by_cases e : j = n
      · subst e
        simp [tn_pf]
      · simp only [e, if_false]
        rw [pf_s]
        unfold tn_pf va_up
        simp [e]
    · rw [if_neg h, pf_s n (c + 1), show (c + 1) / 4 = c / 4 + 1 by omega, show (c + 1) % 4 = 0 by omega]
      have e1 : va_up (tn_pf (n + 1) c u) n 0 = tn_pf n (c / 4) (va_up u n 0) := by
        rw [pf_s]
        funext j
        unfold va_up tn_pf
        by_cases e : j = n
        · subst e
          simp
        · simp [e]
      rw [e1]
      exact av_pf n (c / 4) (va_up u n 0)
theorem tn_sm : ∀ m, m < 32 → ((nI m &&& 31 : Int32).toBitVec.smod 32).toNat = m := by decide +kernel
theorem tn_dig {n c k : Nat} (hn : n ≤ 5) (hk : k < n) (hc : c < 2 ^ 31) : (nI c >>> ((2 * ((nI n - 1) - nI k)) &&& 31)) &&& 3 = nI (c / 4 ^ (n - 1 - k) % 4) := by
  have e1 : (2 * ((nI n - 1) - nI k) : Int32) = nI (2 * (n - 1 - k)) := by
    rw [tn_L 1, pk_sub (by omega), pk_sub (by omega), tn_L 2, pk_mul]
  rw [e1, pk_shrN hc _ (2 * (n - 1 - k)) (tn_sm _ (by omega)), pk_andN (Nat.lt_of_le_of_lt (Nat.div_le_self _ _) (by omega)) 2 (by decide)]
  rw [show (4 : Nat) = 2 ^ 2 from rfl, ← Nat.pow_mul]
theorem tn_4n : ∀ n, n ≤ 5 → ((1 : Int32) <<< ((2 * nI n) &&& 31)) = nI (4 ^ n) := by decide +kernel
section PR
variable {e : tEc} {hb u lim : Nat → Nat} {held : Int32} {σ : tn_M}
theorem s_digit (hV : tVe e) (hs : cSt (eS e) σ) {c k : Nat} (hk : k < sn (eS e)) (hc : c < 2 ^ 31) : f_X0_digit (nI c) (nI k) σ = some (nI (c / 4 ^ (sn (eS e) - 1 - k) % 4), σ) := by
  unfold f_X0_digit
  rw [hs.1, tn_dig hV.1.1 hk hc]
theorem s_profiles (hV : tVe e) (hs : cSc e hb u lim held σ) : f_X0_profiles σ = some (nI (4 ^ sn (eS e)), σ) := by
  unfold f_X0_profiles
  rw [hs.st.1, tn_4n _ hV.1.1]
theorem s_place (hV : tVe e) (hs : cSc e hb u lim held σ) {c : Nat} (hc : c < 2 ^ 31) : tq (f_X0_place (nI c) σ) (fun _ σ' => cSc e hb (tn_pf (sn (eS e)) c u) lim held σ' ∧ tn_fr [(20, 999), (24, 999)] σ σ') := by
  have hn := hV.1.1
  have lp : ∀ d n k (τ : tn_M), k + d = sn (eS e) → d < n → cSc e hb (fun j => if j < k then c / 4 ^ (sn (eS e) - 1 - j) % 4 else u j) lim held τ → tn_fr [(20, 999), (24, 999)] σ τ → tq (F_X0_place_2 n (nI c) (nI k) τ) (fun _ σ' => cSc e hb (tn_pf (sn (eS e)) c u) lim held σ' ∧ tn_fr [(20, 999), (24, 999)] σ σ') := by
    intro d
    induction d with
    | zero =>
      intro n k τ h1 h2 ht hf
      obtain ⟨m, rfl⟩ : ∃ m, n = m + 1 := ⟨n - 1, by omega⟩
      have : k = sn (eS e) := by omega
      subst this
      rw [F_X0_place_2, ht.st.1, if_pos (nI_le (Nat.le_refl _) (by omega))]
      exact tq_some ⟨ht, hf⟩
    | succ d ih =>
      intro n k τ h1 h2 ht hf
      obtain ⟨m, rfl⟩ : ∃ m, n = m + 1 := ⟨n - 1, by omega⟩
      have h4 := Nat.mod_lt (c / 4 ^ (sn (eS e) - 1 - k)) (by omega : 0 < 4)
      rw [F_X0_place_2, ht.st.1, if_neg (nI_ge (by omega) (by omega)), s_digit hV ht.st (by omega) hc, tn_bds, nI_1]
      refine tq_bd (s_become hV ht (by omega) (by omega)) (fun _ τ1 hq => ?_)
      refine ih m (k + 1) τ1 (by omega) (by omega) ?_ (hf.tr hq.2)
      have e1 : va_up (fun j => if j < k then c / 4 ^ (sn (eS e) - 1 - j) % 4 else u j) k (c / 4 ^ (sn (eS e) - 1 - k) % 4) = (fun j => if j < k + 1 then c / 4 ^ (sn (eS e) - 1 - j) % 4 else u j) := by
        funext j
        unfold va_up
        by_cases c1 : j = k
        · subst c1
          simp
        · have : (j < k + 1) ↔ (j < k) := by omega
          simp only [c1, if_false, this]
      rw [e1] at hq
      exact hq.1
  unfold f_X0_place
  exact lp (sn (eS e)) tn_fuel 0 σ (by omega) (by unfold tn_fuel; omega) (by simpa using hs) tn_fr.rf
theorem s_advance (hV : tVe e) (hs : cSc e hb u lim held σ) : tq (f_X0_advance σ) (fun _ σ' => cSc e hb (tn_av (sn (eS e)) u) lim held σ' ∧ tn_fr [(20, 999), (24, 999)] σ σ') := by
  have hn := hV.1.1
  have lp : ∀ k n (v : Nat → Nat) (τ : tn_M), k < n → k ≤ sn (eS e) → cSc e hb v lim held τ → tn_fr [(20, 999), (24, 999)] σ τ → tq (F_X0_advance_10 n (nI k - 1) τ) (fun _ σ' => cSc e hb (tn_av k v) lim held σ' ∧ tn_fr [(20, 999), (24, 999)] σ σ') := by
    intro k
    induction k with
    | zero =>
      intro n v τ h1 h2 ht hf
      obtain ⟨m, rfl⟩ : ∃ m, n = m + 1 := ⟨n - 1, by omega⟩
      rw [F_X0_advance_10, if_pos (by decide)]
      exact tq_some ⟨ht, hf⟩
    | succ k ih =>
      intro n v τ h1 h2 ht hf
      obtain ⟨m, rfl⟩ : ∃ m, n = m + 1 := ⟨n - 1, by omega⟩
      rw [nI_pred, F_X0_advance_10, if_neg (nI_pos (by omega)), tn_ckn (by omega) (by decide), tn_xn (by omega), ht.un (by omega)]
      have h3 := ht.u3 (k := k) (by omega)
      unfold tn_av
      by_cases c : v k < 3
      · rw [tn_L 3, if_neg (nI_ge c (by omega)), if_pos c]
        unfold F_X0_advance_24
        rw [tn_ckn (by omega) (by decide), tn_xn (by omega), ht.un (by omega), nI_1]
        refine tq_bd (s_become hV ht (by omega) (by omega)) (fun _ τ1 hq => tq_some ⟨hq.1, hf.tr hq.2⟩)
      · rw [tn_L 3, if_pos (nI_le (by omega) (by omega)), if_neg c]
        refine tq_bd (s_become hV ht (by omega : k < sn (eS e)) (v := 0) (by omega)) (fun _ τ1 hq => ?_)
        have : nI k + (-1) = nI k - 1 := by
          rw [Int32.sub_eq_add_neg]
        rw [this]
        exact ih m _ τ1 (by omega) (by omega) hq.1 (hf.tr hq.2)
  unfold f_X0_advance
  rw [hs.st.1]
  exact tq_lt (lp (sn (eS e)) tn_fuel u σ (by unfold tn_fuel; omega) (Nat.le_refl _) hs tn_fr.rf)
end PR
/-! the model's way -/
section PM
variable {e : tEc} {hb u : Nat → Nat} {L : Nat} {fixed : Int32} {σ : tn_M}
theorem s_lays (hV : tVe e) (hs : mTr e hb u L fixed σ) {c : Nat} (hc : c < 2 ^ 31) : tq (f_X5_lays (nI c) σ) (fun _ σ' => mTr e hb (tn_pf (sn (eS e)) c u) L fixed σ' ∧ tn_fr [(44, 999)] σ σ') := by
  have hn := hV.1.1
  have lp : ∀ k n (v : Nat → Nat) (c : Nat) (τ : tn_M), c < 2 ^ 31 → k < n → k ≤ sn (eS e) → mTr e hb v L fixed τ → tn_fr [(44, 999)] σ τ → tq (F_X5_lays_9 n (nI c) (nI k - 1) τ) (fun _ σ' => mTr e hb (tn_pf k c v) L fixed σ' ∧ tn_fr [(44, 999)] σ σ') := by
    intro k
    induction k with
    | zero =>
      intro n v c τ hc h1 h2 ht hf
      obtain ⟨m, rfl⟩ : ∃ m, n = m + 1 := ⟨n - 1, by omega⟩
      rw [F_X5_lays_9, if_pos (by decide), pf_0]
      exact tq_some ⟨ht, hf⟩
    | succ k ih =>
      intro n v c τ hc h1 h2 ht hf
      obtain ⟨m, rfl⟩ : ∃ m, n = m + 1 := ⟨n - 1, by omega⟩
      have h4 := Nat.mod_lt c (by omega : 0 < 4)
      rw [nI_pred, F_X5_lays_9, if_neg (nI_pos (by omega)), tn_ckn (by omega) (by decide), tn_xn (by omega), tn_L 4, pk_rem hc (by omega) (by omega), pk_div hc (by omega) (by omega)]
      refine tq_lt ?_
      have ht1 : mTr e hb (va_up v k (c % 4)) L fixed (tn_si τ 44 k (nI (c % 4))) := mTr_fr ht (tn_fr.si (by simp [tn_ms]) tn_fr.rf) (fun j hj => by
        rw [tn_si_1]
        unfold va_up
        by_cases c1 : j = k
        · simp only [c1, and_self, if_true]; exact ⟨trivial, by omega⟩
        · simp only [c1, and_false, if_false]; exact ⟨ht.un hj, ht.u3 hj⟩)
      have : nI k + (-1) = nI k - 1 := by
        rw [Int32.sub_eq_add_neg]
      rw [this, pf_s]
      exact ih m _ (c / 4) _ (by omega) (by omega) (by omega) ht1 (hf.tr (tn_fr.si (by simp [tn_ms]) tn_fr.rf))
  unfold f_X5_lays
  rw [hs.st.1]
  exact tq_lt (lp (sn (eS e)) tn_fuel u c σ hc (by unfold tn_fuel; omega) (Nat.le_refl _) hs tn_fr.rf)
theorem an_max (o : Nat → Int64) : ∀ L h, h ≤ L → o h ≤ o (tn_an o L)
  | 0, h, hh => by
    have : h = 0 := by omega
    subst this
    exact Int64.le_refl _
  | L + 1, h, hh => by
    unfold tn_an
    by_cases c : o (tn_an o L) < o (L + 1)
    · rw [if_pos c]
      by_cases e : h = L + 1
      · subst e; exact Int64.le_refl _
      · exact Int64.le_trans (an_max o L h (by omega)) (Int64.le_of_lt c)
    · rw [if_neg c]
      by_cases e : h = L + 1
      · subst e; exact Int64.not_lt.mp c
      · exact an_max o L h (by omega)
theorem lm3 (e : tEc) (k : Nat) : tn_lm e 3 k = 3 := by
  unfold tn_lm
  split <;> rfl
def tn_stl (e : tEc) (hb u : Nat → Nat) : Bool := (tn_fg (tn_gn e hb (tn_lm e 3) u) 0 (sn (eS e))).isNone
theorem gn_iff (e : tEc) (hb u : Nat → Nat) (k : Nat) : tn_gn e hb (tn_lm e 3) u k = false ↔ ∀ h, h ≤ 3 → tn_ea e hb (va_up u k h) k ≤ tn_ea e hb u k := by
  unfold tn_gn tn_rp
  rw [lm3, decide_eq_false_iff_not, Int64.not_lt]
  constructor
  · intro h j hj
    exact Int64.le_trans (an_max (fun v => tn_ea e hb (va_up u k v) k) 3 j hj) h
  · intro h
    exact h _ (an_le _ 3)
theorem s_isStill (hV : tVe e) (hs : mTr e hb u L fixed σ) : tq (f_X5_isStill σ) (fun r σ' => r = tn_I (tn_stl e hb u) ∧ mTr e hb u L fixed σ' ∧ tn_fr [(5, 23), (44, 999), (47, 999)] σ σ') := by
  have hn := hV.1.1
  have inner : ∀ (k : Nat) (c2 : Int32 → tn_M → Option (Int32 × tn_M)) (Q : Int32 → tn_M → Prop), k < sn (eS e) → (tn_gn e hb (tn_lm e 3) u k = false → ∀ τ, mTr e hb u L fixed τ → tn_fr [(5, 23), (44, 999), (47, 999)] σ τ → tq (c2 (nI (k + 1)) τ) Q) → (tn_gn e hb (tn_lm e 3) u k = true → ∀ τ, mTr e hb u L fixed τ → tn_fr [(5, 23), (44, 999), (47, 999)] σ τ → Q 0 τ) → ∀ d n h (τ : tn_M), h + d = 4 → d < n → (∀ j, j < h → tn_ea e hb (va_up u k j) k ≤ tn_ea e hb u k) → mTr e hb u L fixed τ → tn_fr [(5, 23), (44, 999), (47, 999)] σ τ → tq (F_X5_isStill_25 c2 n (nI k) (tn_ea e hb u k) (nI h) τ) Q := by
    intro k c2 Q hk hc hq d
    induction d with
    | zero =>
      intro n h τ h1 h2 h3 ht hf
      obtain ⟨m, rfl⟩ : ∃ m, n = m + 1 := ⟨n - 1, by omega⟩
      have : h = 4 := by omega
      subst this
      rw [F_X5_isStill_25, if_pos (by decide), nI_1]
      exact hc ((gn_iff e hb u k).mpr (fun j hj => h3 j (by omega))) τ ht hf
    | succ d ih =>
      intro n h τ h1 h2 h3 ht hf
      obtain ⟨m, rfl⟩ : ∃ m, n = m + 1 := ⟨n - 1, by omega⟩
      rw [F_X5_isStill_25, tn_L 4, if_neg (nI_ge (by omega) (by omega))]
      refine tq_bd (s_earnsBy hV ht hk (v := h) (by omega)) (fun r τ1 hqq => ?_)
      obtain ⟨rfl, ht1, hf1⟩ := hqq
      by_cases c : tn_ea e hb (va_up u k h) k ≤ tn_ea e hb u k
      · rw [if_pos c, nI_1]
        exact ih m (h + 1) τ1 (by omega) (by omega) (fun j hj => by
          by_cases e1 : j = h
          · subst e1; exact c
          · exact h3 j (by omega)) ht1 (hf.tr hf1)
      · rw [if_neg c]
        refine tq_some (hq ?_ τ1 ht1 (hf.tr hf1))
        apply Decidable.byContradiction
        intro q
        exact c ((gn_iff e hb u k).mp (Bool.eq_false_iff.mpr q) h (by omega))
  have lp : ∀ d n k (τ : tn_M), k + d = sn (eS e) → d < n → mTr e hb u L fixed τ → tn_fr [(5, 23), (44, 999), (47, 999)] σ τ → tq (F_X5_isStill_2 n (nI k) τ) (fun r σ' => r = tn_I (tn_fg (tn_gn e hb (tn_lm e 3) u) k d).isNone ∧ mTr e hb u L fixed σ' ∧ tn_fr [(5, 23), (44, 999), (47, 999)] σ σ') := by
    intro d
    induction d with
    | zero =>
      intro n k τ h1 h2 ht hf
      obtain ⟨m, rfl⟩ : ∃ m, n = m + 1 := ⟨n - 1, by omega⟩
      have : k = sn (eS e) := by omega
      subst this
      rw [F_X5_isStill_2, ht.st.1, if_pos (nI_le (Nat.le_refl _) (by omega))]
      exact tq_some ⟨rfl, ht, hf⟩
    | succ d ih =>
      intro n k τ h1 h2 ht hf
      obtain ⟨m, rfl⟩ : ∃ m, n = m + 1 := ⟨n - 1, by omega⟩
      have hk : k < sn (eS e) := by omega
      rw [F_X5_isStill_2, ht.st.1, if_neg (nI_ge (by omega) (by omega)), tn_ckn (by omega) (by decide), tn_xn (by omega), ht.un (by omega)]
      refine tq_bd (s_earnsBy hV ht hk (ht.u3 (by omega))) (fun r τ1 hq => ?_)
      obtain ⟨rfl, ht1, hf1⟩ := hq
      rw [up_self]
      refine inner k _ _ hk (fun hg τ2 ht2 hf2 => ?_) (fun hg τ2 ht2 hf2 => ?_) 4 tn_fuel 0 τ1 (by omega) (by unfold tn_fuel; omega) (fun j hj => by omega) ht1 (hf.tr hf1)
      · have := ih m (k + 1) τ2 (by omega) (by omega) ht2 hf2
        unfold tn_fg
        rw [if_neg (by rw [hg]; decide)]
        exact this
      · unfold tn_fg
        rw [if_pos hg]
        exact ⟨rfl, ht2, hf2⟩
  unfold f_X5_isStill
  exact lp (sn (eS e)) tn_fuel 0 σ (by omega) (by unfold tn_fuel; omega) hs tn_fr.rf
end PM

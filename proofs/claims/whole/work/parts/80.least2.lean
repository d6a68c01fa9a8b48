section EI
variable {A : tA} {e : tEc} {hb u lim : Nat → Nat} {held : Int32} {σ : tn_M} {L : Nat} {fixed : Int32}
/-! the least fine, as a number -/
def tn_ce (G B : Nat) : Nat := if G = 0 then 0 else if B = 0 then 0 else (G - 1) / B + 1
theorem ce_le {G B p : Nat} (hB : 0 < B) : tn_ce G B ≤ p ↔ G ≤ p * B := by
  unfold tn_ce
  by_cases c : G = 0
  · rw [if_pos c]; omega
  · rw [if_neg c, if_neg (by omega)]
    constructor
    · intro h
      have h1 : (G - 1) / B < p := by omega
      have := (Nat.div_lt_iff_lt_mul hB).mp h1
      omega
    · intro h
      have h1 : (G - 1) / B < p := (Nat.div_lt_iff_lt_mul hB).mpr (by omega)
      omega
theorem ce_lt {G B : Nat} (h : G < 2 ^ 63) : tn_ce G B < 2 ^ 63 := by
  unfold tn_ce
  split
  · omega
  · split
    · omega
    · have := Nat.div_le_self (G - 1) B
      omega
theorem s_ceil {G B : Nat} (hG : G < 2 ^ 63) (hB : B < 2 ^ 63) (σ : tn_M) : f_X4_ceiling (lN G) (lN B) σ = some (lN (tn_ce G B), σ) := by
  unfold f_X4_ceiling tn_ce
  by_cases c : G = 0
  · subst c
    rw [if_pos (by decide), if_pos rfl]; rfl
  · have n1 : ¬ lN G ≤ 0 := by
      rw [show (0 : Int64) = lN 0 from rfl, pk_lLE hG (by omega)]
      omega
    rw [if_neg n1, if_neg c]
    by_cases d : B = 0
    · subst d
      rw [if_neg (by decide), if_pos rfl]; rfl
    · have n2 : 0 < lN B := by
        rw [show (0 : Int64) = lN 0 from rfl, pk_lLT (by omega) hB]
        omega
      have n3 : lN B ≠ 0 := by
        rw [show (0 : Int64) = lN 0 from rfl]
        intro w
        rw [pk_lEQ hB (by omega)] at w
        exact d w
      rw [if_pos n2, if_neg d, dzl_ok n3, show (1 : Int64) = lN 1 from rfl, lN_sub (by omega), pk_lDiv (by omega) (by omega) hB, lN_add]
def tn_lf (K N G : Nat) : Int32 := if tn_ce G (N * K) ≤ 999 ∧ (G = 0 ∨ N ≠ 0) then nI (tn_ce G (N * K)) else -1
theorem m_153 {N G K : Nat} (hK : (738017280 : Int64) = lN K) (hK0 : 0 < K) (hKb : K ≤ 2 ^ 30) (hN : N ≤ 16) (hG : G < 2 ^ 63) (h41 : σ.1 41 4 = nI N) : ∀ d n F, F + d = 1000 → d < n → (∀ F', F' < F → F' * (N * K) < G) → F_X5_leastNow_153 n (lN G) (nI F) σ = some (tn_lf K N G, σ) := by
  intro d
  induction d with
  | zero =>
    intro n F h1 h2 h3
    obtain ⟨m, rfl⟩ : ∃ m, n = m + 1 := ⟨n - 1, by omega⟩
    have : F = 1000 := by omega
    subst this
    rw [F_X5_leastNow_153, tn_L 1000, if_pos (nI_le (Nat.le_refl _) (by omega))]
    unfold tn_lf
    rw [if_neg]
    rintro ⟨a, b⟩
    have h9 := h3 999 (by omega)
    rcases b with b | b
    · omega
    · have hB : 0 < N * K := Nat.mul_pos (by omega) hK0
      have := (ce_le hB).mp a
      omega
  | succ d ih =>
    intro n F h1 h2 h3
    obtain ⟨m, rfl⟩ : ∃ m, n = m + 1 := ⟨n - 1, by omega⟩
    have eF : K * F * N = F * (N * K) := by
      rw [Nat.mul_comm K F, Nat.mul_assoc, Nat.mul_comm K N]
    have bF : F * (N * K) < 2 ^ 63 := by
      have : F * (N * K) ≤ 1000 * (16 * 2 ^ 30) := Nat.mul_le_mul (by omega) (Nat.mul_le_mul hN hKb)
      omega
    rw [F_X5_leastNow_153, tn_L 1000, if_neg (nI_ge (by omega) (by omega)), hK, h41, tn_l (show F < 2 ^ 31 by omega), tn_l (show N < 2 ^ 31 by omega), lN_mul, lN_mul, eF]
    by_cases c : F * (N * K) < G
    · rw [if_pos ((pk_lLT bF hG).mpr c), nI_1]
      refine ih m (F + 1) (by omega) (by omega) (fun F' hF' => ?_)
      by_cases w : F' = F
      · rw [w]; exact c
      · exact h3 F' (by omega)
    · rw [if_neg (fun w => c ((pk_lLT bF hG).mp w))]
      have key : tn_ce G (N * K) = F ∧ (G = 0 ∨ N ≠ 0) := by
        by_cases z : N = 0
        · subst z
          rw [Nat.zero_mul, Nat.mul_zero] at c
          have g0 : G = 0 := by omega
          subst g0
          refine ⟨?_, Or.inl rfl⟩
          have : F = 0 := by
            rcases Nat.eq_zero_or_pos F with w | w
            · exact w
            · have := h3 0 w
              omega
          rw [this]; rfl
        · have hB : 0 < N * K := Nat.mul_pos (by omega) hK0
          have a1 : tn_ce G (N * K) ≤ F := (ce_le hB).mpr (by omega)
          refine ⟨?_, Or.inr z⟩
          rcases Nat.lt_or_ge (tn_ce G (N * K)) F with w | w
          · have h4 := h3 _ w
            have h5 := (ce_le (G := G) (p := tn_ce G (N * K)) hB).mp (Nat.le_refl _)
            omega
          · omega
      unfold tn_lf
      rw [key.1, if_pos ⟨by omega, key.2⟩]
end EI
section EJ
variable {A : tA} {e : tEc} {hb u lim : Nat → Nat} {held : Int32} {σ : tn_M} {L : Nat} {fixed : Int32}
/-- no fine is paid -/
theorem mTr_h {S : tS} {l c m L : Nat} {F : Int64} {p : Nat → Nat} (h : mTr (S, l, c, m, F, p) hb u L fixed σ) : mTr (S, l, c, m, 0, p) hb u L fixed (tn_si σ 5 18 0) := by
  obtain ⟨p1, p2, p3, p4, p5, p6, p7, p8, p9, p10⟩ := h
  have ee : ∀ a b, ¬ (a = 5 ∧ b = 18) → (tn_si σ 5 18 0).1 a b = σ.1 a b := by
    intro a b hab
    rw [tn_si_1, if_neg hab]
  refine ⟨mSt_same p1 (fun a b hab => ee a b (by omega)), by rw [ee _ _ (by omega)]; exact p2, by rw [ee _ _ (by omega)]; exact p3, by rw [ee _ _ (by omega)]; exact p4, fun k hk => by rw [ee _ _ (by omega)]; exact p5 k hk, fun k h1 h3 => by rw [ee _ _ (by omega)]; exact p6 k h1 h3, fun k hk => by rw [ee _ _ (by omega)]; exact p7 k hk, by rw [ee _ _ (by omega)]; exact p8, by rw [ee _ _ (by omega)]; exact p9, Or.inl ⟨?_, rfl⟩⟩
  rw [tn_si_1, if_pos ⟨rfl, rfl⟩]
theorem m_nofine (h : kM A (tn_eA A) hb u L fixed σ) : kM A (tn_e0 A) hb u L fixed (tn_si σ 5 18 0) := ⟨mTr_h h.1, M0_sub (S := [(5, 18)]) h.2 (tn_fr.si (by rfl) tn_fr.rf) (by decide)⟩
theorem m_lg85 (hV : tVe e) {k : Nat} (hk : k < sn (eS e)) (hb2 : ¬ sz (eS e) k ≤ eM e) (x1 : Int32) {Q : Int32 → tn_M → Prop} (c71 : Int32 → Int64 → Int32 → tn_M → Option (Int32 × tn_M)) : ∀ d n h x (τ : tn_M), h + d = 4 → d < n → 1 ≤ h → kM A e hb u L fixed τ → (∀ τ', kM A e hb u L fixed τ' → tq (c71 x1 (tn_l2 e hb u k d h x) (nI k + 1) τ') Q) → tq (F_X5_leastNow_85 c71 n x1 x (nI k) (nI h) τ) Q := by
  have hn := hV.1.1
  intro d
  induction d with
  | zero =>
    intro n h x τ h1 h2 h3 q hQ
    obtain ⟨m, rfl⟩ : ∃ m, n = m + 1 := ⟨n - 1, by omega⟩
    have : h = 4 := by omega
    subst this
    rw [F_X5_leastNow_85, if_pos (by decide)]
    exact hQ τ q
  | succ d ih =>
    intro n h x τ h1 h2 h3 q hQ
    obtain ⟨m, rfl⟩ : ∃ m, n = m + 1 := ⟨n - 1, by omega⟩
    have u3 := q.1.u3 (k := k) (by omega)
    unfold tn_l2 at hQ
    rw [F_X5_leastNow_85, tn_L 4, if_neg (nI_ge (by omega) (by omega)), s_isBound hV q.1 hk, tn_bds, if_neg hb2, if_neg (by decide)]
    refine tq_bd (m_earnsBy hV q hk (v := h) (by omega)) (fun r τ1 ⟨q1, q2⟩ => ?_)
    rw [tn_ckn (by omega) (by decide), tn_xn (by omega), q2.1.un (k := k) (by omega)]
    refine tq_bd (m_earnsBy hV q2 hk (v := u k) u3) (fun r2 τ2 ⟨q3, q4⟩ => ?_)
    rw [up_self] at q3
    rw [q1, q3, nI_1]
    exact tq_lt (ih m (h + 1) _ τ2 (by omega) (by omega) (by omega) q4 hQ)
theorem m_lg71 (hV : tVe e) {Q : Int32 → tn_M → Prop} (hQ : ∀ τ', kM A e hb u L fixed τ' → tq (F_X5_leastNow_150 (tn_l1 e hb u (sn (eS e)) 0 0) τ') Q) {x1 : Int32} (hx : x1 = nI (eC e)) (h : kM A e hb u L fixed σ) : tq (F_X5_leastNow_71 tn_fuel x1 0 0 σ) Q := by
  subst hx
  have hn := hV.1.1
  have hc := hV.2.2.1
  have lp : ∀ d n k x (τ : tn_M), k + d = sn (eS e) → d < n → kM A e hb u L fixed τ → (∀ τ', kM A e hb u L fixed τ' → tq (F_X5_leastNow_150 (tn_l1 e hb u d k x) τ') Q) → tq (F_X5_leastNow_71 n (nI (eC e)) x (nI k) τ) Q := by
    intro d
    induction d with
    | zero =>
      intro n k x τ h1 h2 q hQ
      obtain ⟨m, rfl⟩ : ∃ m, n = m + 1 := ⟨n - 1, by omega⟩
      have : k = sn (eS e) := by omega
      subst this
      rw [F_X5_leastNow_71, q.1.st.1, if_pos (nI_le (Nat.le_refl _) (by omega))]
      exact hQ τ q
    | succ d ih =>
      intro n k x τ h1 h2 q hQ
      obtain ⟨m, rfl⟩ : ∃ m, n = m + 1 := ⟨n - 1, by omega⟩
      unfold tn_l1 at hQ
      rw [F_X5_leastNow_71, q.1.st.1, if_neg (nI_ge (by omega) (by omega)), nI_1]
      by_cases c : sz (eS e) k ≤ eM e
      · simp only [if_pos c] at hQ
        have go : ∀ τ', kM A e hb u L fixed τ' → tq (F_X5_leastNow_71 m (nI (eC e)) x (nI k + 1) τ') Q := fun τ' q' => by rw [nI_1]; exact ih m (k + 1) x τ' (by omega) (by omega) q' hQ
        obtain ⟨w, hw⟩ : ∃ w, tn_fuel = w + 1 := ⟨1999, rfl⟩
        rw [hw, F_X5_leastNow_85]
        by_cases c4 : 4 ≤ nI (eC e + 1)
        · rw [if_pos c4]
          exact go τ q
        · rw [if_neg c4, s_isBound hV q.1 (by omega), tn_bds, if_pos c, if_pos rfl]
          exact go τ q
      · simp only [if_neg c] at hQ
        refine m_lg85 hV (by omega) c (nI (eC e)) _ (3 - eC e) tn_fuel (eC e + 1) x τ (by omega) (by unfold tn_fuel; omega) (by omega) q (fun τ' q' => ?_)
        rw [nI_1]
        exact ih m (k + 1) _ τ' (by omega) (by omega) q' hQ
  exact lp (sn (eS e)) tn_fuel 0 0 σ (by omega) (by unfold tn_fuel; omega) h hQ
theorem m_lg13 (hV : tVe e) {Q : Int32 → tn_M → Prop} (hQ : ∀ τ', kM A e hb (tn_kw e u (sn (eS e))) L fixed τ' → tq (F_X5_leastNow_61 (nI (eC e)) τ') Q) (h : kM A e hb u L fixed σ) : tq (F_X5_leastNow_13 tn_fuel (nI (eC e)) 0 σ) Q := by
  have hn := hV.1.1
  have hc := hV.2.2.1
  have lp : ∀ d n k (τ : tn_M), k + d = sn (eS e) → d < n → kM A e hb (tn_kw e u k) L fixed τ → tq (F_X5_leastNow_13 n (nI (eC e)) (nI k) τ) Q := by
    intro d
    induction d with
    | zero =>
      intro n k τ h1 h2 q
      obtain ⟨m, rfl⟩ : ∃ m, n = m + 1 := ⟨n - 1, by omega⟩
      have : k = sn (eS e) := by omega
      subst this
      rw [F_X5_leastNow_13, q.1.st.1, if_pos (nI_le (Nat.le_refl _) (by omega))]
      exact hQ τ q
    | succ d ih =>
      intro n k τ h1 h2 q
      obtain ⟨m, rfl⟩ : ∃ m, n = m + 1 := ⟨n - 1, by omega⟩
      have u3 := h.1.u3 (k := k) (by omega)
      have e1 : va_up (tn_kw e u k) k (u k) = tn_kw e u k := by
        have := up_self (tn_kw e u k) k
        rw [kl_at] at this
        exact this
      have ek : τ.1 44 k = nI (u k) := by rw [q.1.un (k := k) (by omega), kl_at]
      have stay : (sz (eS e) k ≤ eM e ∨ u k ≤ eC e) → tq (F_X5_leastNow_48 (fun z0 z1 zs => F_X5_leastNow_13 m z0 z1 zs) (nI (eC e)) (nI k) (nI k) τ) Q := by
        intro w
        unfold F_X5_leastNow_48 F_X5_leastNow_54
        rw [tn_ckn (by omega) (by decide), tn_xn (by omega), ek, tn_ckn (by omega) (by decide), nI_1]
        refine tq_lt (ih m (k + 1) _ (by omega) (by omega) ?_)
        have := m_tried q (k := k) (v := u k) u3
        rw [e1] at this
        rw [kl_sN w]
        exact this
      rw [F_X5_leastNow_13, q.1.st.1, if_neg (nI_ge (by omega) (by omega)), s_isBound hV q.1 (by omega), tn_bds]
      by_cases c : sz (eS e) k ≤ eM e
      · rw [if_pos c, if_pos rfl]
        exact stay (Or.inl c)
      · rw [if_neg c, if_neg (by decide), tn_ckn (by omega) (by decide), tn_xn (by omega), ek]
        by_cases d2 : u k ≤ eC e
        · rw [if_pos (nI_le d2 (by omega))]
          exact stay (Or.inr d2)
        · rw [if_neg (nI_ge (by omega) (by omega))]
          unfold F_X5_leastNow_54
          rw [tn_ckn (by omega) (by decide), tn_xn (by omega), nI_1]
          refine tq_lt (ih m (k + 1) _ (by omega) (by omega) ?_)
          rw [kl_sY c (by omega)]
          exact m_tried q hc
  exact lp (sn (eS e)) tn_fuel 0 σ (by omega) (by unfold tn_fuel; omega) (by rw [kl_0]; exact h)
end EJ
section EK
variable {A : tA} {σ : tn_M}
/-- the economy of the law: costs and cap, with or without fines, cut alike -/
theorem kl_g {S : tS} {l c m : Nat} {F F' : Int64} {p u : Nat → Nat} {k : Nat} : tn_kw (S, l, c, m, F, p) u k = tn_kw (S, l, c, m, F', p) u k := rfl
theorem kl_e0 (A : tA) (u : Nat → Nat) (k : Nat) : tn_kw (tn_eA A) u k = tn_kw (tn_e0 A) u k := kl_g
def tn_gl (A : tA) : Int64 := tn_l1 (tn_e0 A) (tn_hA A) (tn_kw (tn_e0 A) (aH A) (sn (tn_SA A))) (sn (tn_SA A)) 0 0
theorem gl_nat (A : tA) : ∃ G, G < 2 ^ 63 ∧ tn_gl A = lN G := pk_lOf (by
  have := l1_ge (tn_e0 A) (tn_hA A) (tn_kw (tn_e0 A) (aH A) (sn (tn_SA A))) (sn (tn_SA A)) 0 0 (by decide)
  unfold tn_gl
  rw [tn_le64] at this
  rw [tn_lt64]
  omega)
noncomputable def tn_gG (A : tA) : Nat := Classical.choose (gl_nat A)
theorem gG_lt (A : tA) : tn_gG A < 2 ^ 63 := (Classical.choose_spec (gl_nat A)).1
theorem gG_eq (A : tA) : tn_gl A = lN (tn_gG A) := (Classical.choose_spec (gl_nat A)).2
noncomputable def tn_lF (A : tA) : Int32 := tn_lf 738017280 (aG A 4) (tn_gG A)
theorem seen_16 (hA : tW A) : aG A 4 ≤ 16 := by
  have h := hN_ok
  have g4 := hA.2.1 4 (by omega)
  omega
theorem k_leastFine (hA : tW A) (h : CI A σ) : tq (f_X4_leastFine σ) (fun r σ' => r = tn_lF A ∧ CI A σ') := by
  have hV := tVe_0 hA
  have h16 := seen_16 hA
  unfold f_X4_leastFine
  refine tq_bd (k_scene hA h) (fun _ σ1 q => tq_lt ?_)
  refine tq_bd (k_keepLaw hV (k_fine0 q)) (fun _ σ2 q2 => tq_bd (k_lawless hV q2) (fun r σ3 ⟨q3, q4⟩ => ?_))
  change r = tn_gl A at q3
  have hG := gG_lt A
  rw [gG_eq] at q3
  have e6 : σ3.1 6 4 = nI (aG A 4) := q4.2.1.2.2.1 4 (by omega)
  unfold tn_lF
  obtain ⟨K, hK⟩ : ∃ K : Nat, K = 738017280 := ⟨_, rfl⟩
  have hL : (738017280 : Int64) = lN K := by rw [hK]; rfl
  rw [← hK, q3, e6, hL]
  have hB : aG A 4 * K < 2 ^ 63 := by
    have : aG A 4 * K ≤ 16 * K := Nat.mul_le_mul_right K h16
    omega
  unfold tn_lf
  by_cases c : tn_gG A = 0
  · rw [c, if_neg (by decide)]
    have e0 : tn_ce 0 (aG A 4 * K) = 0 := rfl
    rw [e0, if_pos ⟨by omega, Or.inl rfl⟩]
    exact tq_some ⟨rfl, q4.2⟩
  · have n1 : 0 < lN (tn_gG A) := by
      rw [show (0 : Int64) = lN 0 from rfl, pk_lLT (by omega) hG]
      omega
    rw [if_pos n1]
    by_cases d : aG A 4 = 0
    · rw [d, if_pos nI_zero, if_neg (fun w => by rcases w.2 with w | w; exact c w; exact w rfl)]
      exact tq_some ⟨rfl, q4.2⟩
    · rw [if_neg (nI_ne0 (by omega) (by omega)), tn_l (by omega), lN_mul, s_ceil hG hB, tn_bds]
      have hc := ce_lt (B := aG A 4 * K) hG
      have e9 : Int32.toInt64 999 = lN 999 := rfl
      rw [e9, lN_i]
      refine tq_lt (tq_some ⟨?_, q4.2⟩)
      by_cases f : tn_ce (tn_gG A) (aG A 4 * K) ≤ 999
      · rw [if_pos ((pk_lLE hc (by omega)).mpr f), if_pos ⟨f, Or.inr d⟩]
      · rw [if_neg (fun w => f ((pk_lLE hc (by omega)).mp w)), if_neg (fun w => f w.1)]
theorem m_leastNow (hA : tW A) (h : M0 A σ) : tq (f_X5_leastNow σ) (fun r σ' => r = tn_lF A ∧ M0 A σ') := by
  have hV := tVe_0 hA
  have h16 := seen_16 hA
  unfold f_X5_leastNow
  refine tq_bd (m_tries hA h) (fun _ σ1 q => ?_)
  rw [q.1.cap]
  refine m_lg13 (tVe_A hA) (fun τ q1 => ?_) q
  unfold F_X5_leastNow_61
  refine tq_lt ?_
  have q2 := m_nofine q1
  rw [kl_e0] at q2
  change kM A (tn_e0 A) (tn_hA A) (tn_kw (tn_e0 A) (aH A) (sn (tn_SA A))) 3 (-1) _ at q2
  refine m_lg71 hV (fun τ' q3 => ?_) (show nI (aG A 1) = nI (aG A 1) from rfl) q2
  unfold F_X5_leastNow_150
  have e41 : τ'.1 41 4 = nI (aG A 4) := q3.2.2.2.1 4 (by omega)
  have eG : tn_l1 (tn_e0 A) (tn_hA A) (tn_kw (tn_e0 A) (aH A) (sn (tn_SA A))) (sn (eS (tn_e0 A))) 0 0 = lN (tn_gG A) := gG_eq A
  have := m_153 (σ := τ') (K := 738017280) rfl (by omega) (by omega) h16 (gG_lt A) e41 1000 tn_fuel 0 (by omega) (by unfold tn_fuel; omega) (fun F' hF' => absurd hF' (Nat.not_lt_zero _))
  rw [eG]
  exact ⟨_, _, this, rfl, q3.2⟩
theorem c_leastFine (hA : tW A) : tn_P A A f_X4_leastFine f_X5_leastFine := ⟨tn_lF A, fun σ h => k_leastFine hA h, fun σ h => by
  unfold f_X5_leastFine
  exact tq_bd (m_leastNow hA h) (fun r σ1 q => tq_some q)⟩
end EK

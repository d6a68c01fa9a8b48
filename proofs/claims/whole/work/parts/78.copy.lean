/-! the call: copy -/
section EE
variable {A : tA} {σ : tn_M}
theorem i64_add2 (x y : Int32) : (Int32.toInt64 x + Int32.toInt64 y).toInt = x.toInt + y.toInt := by
  have h1 := Int32.toInt_lt x
  have h2 := Int32.le_toInt x
  have h3 := Int32.toInt_lt y
  have h4 := Int32.le_toInt y
  rw [Int64.toInt_add, tn_t64, tn_t64]
  exact Int.bmod_eq_of_le (by omega) (by omega)
def tn_Ac (A : tA) (s i t j n : Nat) : tA := (aL A, aT A, aG A, aH A, aU A, aF A, aZ A, fun a b => if a = t ∧ j ≤ b ∧ b < j + n then aI A s (i + (b - j)) else aI A a b, aN A)
theorem Ac_0 (A : tA) (s i t j : Nat) : tn_Ac A s i t j 0 = A := by
  have e : (fun a b => if a = t ∧ j ≤ b ∧ b < j + 0 then aI A s (i + (b - j)) else aI A a b) = aI A := by
    funext a b
    rw [if_neg (by omega)]
  exact congrArg (fun I => ((aL A, aT A, aG A, aH A, aU A, aF A, aZ A, I, aN A) : tA)) e
theorem Ac_s (A : tA) (s i t j a : Nat) : tn_Ai (tn_Ac A s i t j a) t (j + a) (aI A s (i + a)) = tn_Ac A s i t j (a + 1) := by
  have e : (fun x y => if x = t ∧ y = j + a then aI A s (i + a) else (if x = t ∧ j ≤ y ∧ y < j + a then aI A s (i + (y - j)) else aI A x y)) = (fun x y => if x = t ∧ j ≤ y ∧ y < j + (a + 1) then aI A s (i + (y - j)) else aI A x y) := by
    funext x y
    by_cases c : x = t ∧ y = j + a
    · rw [if_pos c, if_pos (by omega), show y - j = a by omega]
    · rw [if_neg c]
      by_cases d : x = t ∧ j ≤ y ∧ y < j + a
      · rw [if_pos d, if_pos (by omega)]
      · rw [if_neg d, if_neg (by omega)]
  exact congrArg (fun I => ((aL A, aT A, aG A, aH A, aU A, aF A, aZ A, I, aN A) : tA)) e
theorem s_lacks {s : Nat} (hs : s < 4) (h : CI A σ) (hz : aZ A s ≤ 60) (i n : Int32) : f_X1_lacks (nI s) i n σ = some (if 0 ≤ i.toInt ∧ 0 ≤ n.toInt ∧ i.toInt + n.toInt ≤ aZ A s then 0 else 1, σ) := by
  have t0 : (0 : Int32).toInt = 0 := rfl
  have e27 : σ.1 27 s = nI (aZ A s) := h.1.2.2.2.2.2.2.1 s hs
  have tz := tn_t (j := aZ A s) (by omega)
  unfold f_X1_lacks
  by_cases c : i < 0
  · rw [if_pos c, if_neg (by rw [tn_lt32] at c; omega)]
  · rw [if_neg c]
    by_cases d : n < 0
    · rw [if_pos d, if_neg (by rw [tn_lt32] at d; omega)]
    · rw [if_neg d, tn_ckn hs (by decide), tn_xn (show s < 2 ^ 31 by omega), e27]
      by_cases f : (Int32.toInt64 i + Int32.toInt64 n) ≤ Int32.toInt64 (nI (aZ A s))
      · rw [if_pos f, if_pos]
        rw [tn_le64, i64_add2, tn_t64, tz] at f
        rw [tn_lt32] at c d
        omega
      · rw [if_neg f, if_neg]
        rw [tn_le64, i64_add2, tn_t64, tz] at f
        omega
theorem CI_c (h : CI A σ) {s i t j n : Nat} (hs : s < 4) (hi : i + n ≤ aZ A s) : CI (tn_Ac A s i t j n) (tn_cp σ (28 + 1 + s) (28 + 1 + t) i j n) := by
  obtain ⟨⟨g1, g2, g3, g4, g5, g6, g7, g8, g9⟩, p2, p3, p4⟩ := h
  have ee : ∀ a b, a < 29 → (tn_cp σ (28 + 1 + s) (28 + 1 + t) i j n).1 a b = σ.1 a b := fun a b hab => by rw [tn_cp_1, if_neg (by omega)]
  refine ⟨⟨by rw [ee _ _ (by omega)]; exact g1, fun j hj => by rw [ee _ _ (by omega)]; exact g2 j hj, fun j hj => by rw [ee _ _ (by omega)]; exact g3 j hj, fun j hj => by rw [ee _ _ (by omega)]; exact g4 j hj, fun j hj => by rw [ee _ _ (by omega)]; exact g5 j hj, fun j hj => by rw [ee _ _ (by omega)]; exact g6 j hj, fun j hj => by rw [ee _ _ (by omega)]; exact g7 j hj, fun a ha b hb => ?_, by rw [ee _ _ (by omega)]; exact g9⟩, by rw [ee _ _ (by omega)]; exact p2, cSt_same p3 (fun a b hab => ee a b (by omega)) (tV_A A).2.1, by rw [ee _ _ (by omega)]; exact p4⟩
  show _ = if a = t ∧ j ≤ b ∧ b < j + n then aI A s (i + (b - j)) else aI A a b
  rw [tn_cp_1]
  by_cases c : a = t ∧ j ≤ b ∧ b < j + n
  · rw [if_pos (by omega), if_pos c]; exact g8 s hs _ (by omega)
  · rw [if_neg (by omega), if_neg c]; exact g8 a ha b hb
theorem M0_36 (h : M0 A σ) (j : Nat) (v : Int32) : M0 A (tn_si σ 36 j v) := M0_same h (fun a b hab => by rw [tn_si_1, if_neg (by omega)])
theorem m_copy157 (hA : tW A) {s i t j n : Nat} (ht : t < 4) (hj : j + n ≤ aZ A t) : ∀ d m a (τ : tn_M), a + d = n → d < m → M0 (tn_Ac A s i t j a) τ → (∀ b, b < n → τ.1 36 b = aI A s (i + b)) → tq (F_X5_copy_157 m (nI t) (nI j) (nI n) (nI a) τ) (fun r σ' => r = 1 ∧ M0 (tn_Ac A s i t j n) σ') := by
  have hZ : ∀ a, a < 4 → aZ A a ≤ 60 := hA.2.2.2.2.2
  have hz := hZ t ht
  intro d
  induction d with
  | zero =>
    intro m a τ h1 h2 q1 q2
    obtain ⟨w, rfl⟩ : ∃ w, m = w + 1 := ⟨m - 1, by omega⟩
    have : a = n := by omega
    subst this
    rw [F_X5_copy_157, if_pos (nI_le (Nat.le_refl _) (by omega))]
    exact tq_some ⟨rfl, q1⟩
  | succ d ih =>
    intro m a τ h1 h2 q1 q2
    obtain ⟨w, rfl⟩ : ∃ w, m = w + 1 := ⟨m - 1, by omega⟩
    rw [F_X5_copy_157, if_neg (nI_ge (by omega) (by omega)), tn_ckn (show a < 60 by omega) (by decide), tn_L 60, pk_mul, nI_add, nI_add, tn_ckn (show 60 * t + j + a < 240 by omega) (by decide), tn_xn (show 60 * t + j + a < 2 ^ 31 by omega), tn_xn (show a < 2 ^ 31 by omega), q2 a (by omega), nI_1]
    refine tq_lt (ih w (a + 1) _ (by omega) (by omega) ?_ (fun b hb => by rw [tn_si_1, if_neg (by omega)]; exact q2 b hb))
    have := M0_i q1 ht (show j + a < 60 by omega) hZ (aI A s (i + a))
    rw [Ac_s] at this
    rw [Nat.add_assoc]
    exact this
theorem m_copy120 (hA : tW A) {s i t j n : Nat} (hs : s < 4) (ht : t < 4) (hi : i + n ≤ aZ A s) (hj : j + n ≤ aZ A t) : ∀ d m a (τ : tn_M), a + d = n → d < m → M0 A τ → (∀ b, b < a → τ.1 36 b = aI A s (i + b)) → tq (F_X5_copy_120 m (nI s) (nI i) (nI t) (nI j) (nI n) (nI a) τ) (fun r σ' => r = 1 ∧ M0 (tn_Ac A s i t j n) σ') := by
  have hZ : ∀ a, a < 4 → aZ A a ≤ 60 := hA.2.2.2.2.2
  have hz := hZ t ht
  have hz2 := hZ s hs
  intro d
  induction d with
  | zero =>
    intro m a τ h1 h2 q1 q2
    obtain ⟨w, rfl⟩ : ∃ w, m = w + 1 := ⟨m - 1, by omega⟩
    have : a = n := by omega
    subst this
    rw [F_X5_copy_120, if_pos (nI_le (Nat.le_refl _) (by omega))]
    unfold F_X5_copy_154
    exact m_copy157 hA ht hj a tn_fuel 0 τ (by omega) (by unfold tn_fuel; omega) (by rw [Ac_0]; exact q1) q2
  | succ d ih =>
    intro m a τ h1 h2 q1 q2
    obtain ⟨w, rfl⟩ : ∃ w, m = w + 1 := ⟨m - 1, by omega⟩
    have e1 : τ.1 35 (60 * s + i + a) = aI A s (i + a) := by rw [Nat.add_assoc]; exact q1.2.2.2.2.2.2.2.1 s hs (i + a) (by omega)
    rw [F_X5_copy_120, if_neg (nI_ge (by omega) (by omega)), tn_L 60, pk_mul, nI_add, nI_add, tn_ckn (show 60 * s + i + a < 240 by omega) (by decide), tn_ckn (show a < 60 by omega) (by decide), tn_xn (show 60 * s + i + a < 2 ^ 31 by omega), tn_xn (show a < 2 ^ 31 by omega), e1, nI_1]
    refine tq_lt (ih w (a + 1) _ (by omega) (by omega) (M0_36 q1 _ _) (fun b hb => ?_))
    rw [tn_si_1]
    by_cases c : b = a
    · rw [if_pos ⟨rfl, c⟩, c]
    · rw [if_neg (fun w => c w.2)]; exact q2 b (by omega)
end EE
section EF
variable {A : tA} {σ : tn_M}
/-- the model refuses, or goes on -/
theorem m_copyG (hA : tW A) {s t : Nat} (hs : s < 4) (ht : t < 4) (f1 : ¬ aF A s = -1) (f2 : ¬ aF A t = -1) (f3 : aF A s = aF A t) (i j n : Int32) (h : M0 A σ) : f_X5_copy (nI s) i (nI t) j n σ = if (0 ≤ i.toInt ∧ 0 ≤ n.toInt ∧ i.toInt + n.toInt ≤ aZ A s) ∧ (0 ≤ j.toInt ∧ 0 ≤ n.toInt ∧ j.toInt + n.toInt ≤ aZ A t) then F_X5_copy_120 tn_fuel (nI s) i (nI t) j n 0 σ else F_X5_copy_111 σ := by
  have t0 : (0 : Int32).toInt = 0 := rfl
  have hZ : ∀ a, a < 4 → aZ A a ≤ 60 := hA.2.2.2.2.2
  have z1 := hZ s hs
  have z2 := hZ t ht
  have tz := tn_t (j := aZ A s) (by omega)
  have tz2 := tn_t (j := aZ A t) (by omega)
  have k1 := form_iff hA hs
  have k2 := form_iff hA ht
  have n1 : ¬ aF A s < 0 := by
    have := k1.mpr f1
    rw [tn_lt32]; rw [tn_le32] at this; omega
  have c1 : 0 ≤ (nI s).toInt ∧ (nI s).toInt ≤ 3 := by rw [tn_t (by omega)]; omega
  have c2 : 0 ≤ (nI t).toInt ∧ (nI t).toInt ≤ 3 := by rw [tn_t (by omega)]; omega
  unfold f_X5_copy
  rw [s_isSheet, tn_bds, if_pos c1, if_neg (by decide), s_isSheet, tn_bds, if_pos c2, if_neg (by decide), tn_ckn hs (by decide), tn_xn (show s < 2 ^ 31 by omega), tn_xn (show t < 2 ^ 31 by omega), h.2.2.2.2.2.1 s hs, if_neg n1, tn_ckn ht (by decide), h.2.2.2.2.2.1 t ht, if_pos (k2.mpr f2), tn_ckn hs (by decide), tn_ckn ht (by decide), if_pos f3, h.2.2.2.2.2.2.1 s hs, h.2.2.2.2.2.2.1 t ht]
  by_cases c : i < 0
  · rw [if_pos c, if_neg (by rw [tn_lt32] at c; omega)]
  · rw [if_neg c]
    by_cases d : j < 0
    · rw [if_pos d, if_neg (by rw [tn_lt32] at d; omega)]
    · rw [if_neg d]
      by_cases e : n < 0
      · rw [if_pos e, if_neg (by rw [tn_lt32] at e; omega)]
      · rw [if_neg e, tn_ckn hs (by decide)]
        by_cases f : Int32.toInt64 (nI (aZ A s)) < (Int32.toInt64 i + Int32.toInt64 n)
        · rw [if_pos f, if_neg]
          rw [tn_lt64, i64_add2, tn_t64, tz] at f
          omega
        · rw [if_neg f, tn_ckn ht (by decide)]
          by_cases g : (Int32.toInt64 j + Int32.toInt64 n) ≤ Int32.toInt64 (nI (aZ A t))
          · rw [if_pos g, if_pos]
            rw [tn_le64, i64_add2, tn_t64, tz2] at g
            rw [tn_lt64, i64_add2, tn_t64, tz] at f
            rw [tn_lt32] at c d e
            omega
          · rw [if_neg g, if_neg]
            rw [tn_le64, i64_add2, tn_t64, tz2] at g
            omega
theorem c_copy (hA : tW A) (x i y j n : Int32) : ∃ A', tW A' ∧ tn_P A A' (f_X4_copy x i y j n) (f_X5_copy x i y j n) := by
  have hZ : ∀ a, a < 4 → aZ A a ≤ 60 := hA.2.2.2.2.2
  rcases sheet_cases x with c | ⟨s, hs, rfl, c⟩
  · refine ⟨A, hA, -2, fun σ h => ?_, fun σ h => ?_⟩
    · unfold f_X4_copy
      rw [s_noSheet, tn_bds, if_neg c, if_neg (by decide)]
      exact tq_some ⟨rfl, h⟩
    · unfold f_X5_copy
      rw [s_isSheet, tn_bds, if_neg c, if_pos rfl]
      exact tq_some ⟨rfl, h⟩
  rcases sheet_cases y with d | ⟨t, ht, rfl, d⟩
  · refine ⟨A, hA, -2, fun σ h => ?_, fun σ h => ?_⟩
    · unfold f_X4_copy
      rw [s_noSheet, tn_bds, if_pos c, if_pos rfl, s_noSheet, tn_bds, if_neg d, if_neg (by decide)]
      exact tq_some ⟨rfl, h⟩
    · unfold f_X5_copy
      rw [s_isSheet, tn_bds, if_pos c, if_neg (by decide), s_isSheet, tn_bds, if_neg d, if_pos rfl]
      exact tq_some ⟨rfl, h⟩
  have z1 := hZ s hs
  have z2 := hZ t ht
  have k1 := form_iff hA hs
  have k2 := form_iff hA ht
  have kn : (aF A s < 0) ↔ aF A s = -1 := by
    constructor
    · intro w
      by_cases e : aF A s = -1
      · exact e
      · have := k1.mpr e
        rw [tn_le32] at this; rw [tn_lt32] at w; omega
    · intro w; rw [w]; decide
  by_cases f1 : aF A s = -1
  · refine ⟨tn_An A 1, tW_n hA 1, -11, fun σ h => ?_, fun σ h => ?_⟩
    · unfold f_X4_copy
      rw [s_noSheet, tn_bds, if_pos c, if_pos rfl, s_noSheet, tn_bds, if_pos d, if_pos rfl, tn_ckn hs (by decide), tn_xn (show s < 2 ^ 31 by omega), h.1.2.2.2.2.2.1 s hs, if_pos f1]
      unfold F_X4_copy_43
      exact tq_bd (k_find h 1) (fun r σ1 q => tq_some q)
    · unfold f_X5_copy
      rw [s_isSheet, tn_bds, if_pos c, if_neg (by decide), s_isSheet, tn_bds, if_pos d, if_neg (by decide), tn_ckn hs (by decide), tn_xn (show s < 2 ^ 31 by omega), h.2.2.2.2.2.1 s hs, if_pos (kn.mpr f1)]
      unfold F_X5_copy_35
      exact tq_bd (m_met h 1) (fun r σ1 q => tq_some q)
  by_cases f2 : aF A t = -1
  · refine ⟨tn_An A 1, tW_n hA 1, -11, fun σ h => ?_, fun σ h => ?_⟩
    · unfold f_X4_copy
      rw [s_noSheet, tn_bds, if_pos c, if_pos rfl, s_noSheet, tn_bds, if_pos d, if_pos rfl, tn_ckn hs (by decide), tn_xn (show s < 2 ^ 31 by omega), tn_xn (show t < 2 ^ 31 by omega), h.1.2.2.2.2.2.1 s hs, if_neg f1, tn_ckn ht (by decide), h.1.2.2.2.2.2.1 t ht, if_pos f2]
      unfold F_X4_copy_43
      exact tq_bd (k_find h 1) (fun r σ1 q => tq_some q)
    · unfold f_X5_copy
      rw [s_isSheet, tn_bds, if_pos c, if_neg (by decide), s_isSheet, tn_bds, if_pos d, if_neg (by decide), tn_ckn hs (by decide), tn_xn (show s < 2 ^ 31 by omega), tn_xn (show t < 2 ^ 31 by omega), h.2.2.2.2.2.1 s hs, if_neg (fun w => f1 (kn.mp w)), tn_ckn ht (by decide), h.2.2.2.2.2.1 t ht, if_neg (fun w => k2.mp w f2)]
      unfold F_X5_copy_35
      exact tq_bd (m_met h 1) (fun r σ1 q => tq_some q)
  by_cases f3 : aF A s = aF A t
  · by_cases g : (0 ≤ i.toInt ∧ 0 ≤ n.toInt ∧ i.toInt + n.toInt ≤ aZ A s) ∧ (0 ≤ j.toInt ∧ 0 ≤ n.toInt ∧ j.toInt + n.toInt ≤ aZ A t)
    · obtain ⟨i, hi, rfl⟩ := tn_nat (n := 61) g.1.1 (by omega)
      obtain ⟨j, hj, rfl⟩ := tn_nat (n := 61) g.2.1 (by omega)
      obtain ⟨n, hn, rfl⟩ := tn_nat (n := 61) g.1.2.1 (by omega)
      have g' := g
      rw [tn_t (show i < 2 ^ 31 by omega), tn_t (show j < 2 ^ 31 by omega), tn_t (show n < 2 ^ 31 by omega)] at g'
      refine ⟨tn_Ac A s i t j n, hA, 1, fun σ h => ?_, fun σ h => ?_⟩
      · unfold f_X4_copy
        rw [s_noSheet, tn_bds, if_pos c, if_pos rfl, s_noSheet, tn_bds, if_pos d, if_pos rfl, tn_ckn hs (by decide), tn_xn (show s < 2 ^ 31 by omega), tn_xn (show t < 2 ^ 31 by omega), h.1.2.2.2.2.2.1 s hs, if_neg f1, tn_ckn ht (by decide), h.1.2.2.2.2.2.1 t ht, if_neg f2, tn_ckn hs (by decide), tn_ckn ht (by decide), if_pos f3, s_lacks hs h z1, tn_bds, if_pos g.1, if_pos rfl, s_lacks ht h z2, tn_bds, if_pos g.2, if_pos rfl, tn_ckn hs (by decide), tn_ckn ht (by decide), tn_xn (show i < 2 ^ 31 by omega), tn_xn (show j < 2 ^ 31 by omega), tn_xn (show n < 2 ^ 31 by omega)]
        have ck : ∀ r : Option (Int32 × tn_M), tn_cck (nI i) (nI j) (nI n) 60 60 r = r := by
          intro r
          unfold tn_cck
          rw [if_neg]
          rw [nI_clamp (show i < 2 ^ 31 by omega), nI_clamp (show j < 2 ^ 31 by omega), nI_clamp (show n < 2 ^ 31 by omega)]
          have a1 := nI_pos (n := i) (by omega)
          have a2 := nI_pos (n := j) (by omega)
          have a3 := nI_pos (n := n) (by omega)
          rintro (w | w | w | w | w)
          · exact a1 w
          · exact a2 w
          · exact a3 w
          · omega
          · omega
        rw [ck]
        exact tq_lt (tq_some ⟨rfl, CI_c h hs (by omega)⟩)
      · rw [m_copyG hA hs ht f1 f2 f3 _ _ _ h, if_pos g]
        exact m_copy120 hA hs ht (by omega) (by omega) n tn_fuel 0 σ (by omega) (by unfold tn_fuel; omega) h (fun b hb => absurd hb (Nat.not_lt_zero b))
    · refine ⟨tn_An A 2, tW_n hA 2, -12, fun σ h => ?_, fun σ h => ?_⟩
      · unfold f_X4_copy
        rw [s_noSheet, tn_bds, if_pos c, if_pos rfl, s_noSheet, tn_bds, if_pos d, if_pos rfl, tn_ckn hs (by decide), tn_xn (show s < 2 ^ 31 by omega), tn_xn (show t < 2 ^ 31 by omega), h.1.2.2.2.2.2.1 s hs, if_neg f1, tn_ckn ht (by decide), h.1.2.2.2.2.2.1 t ht, if_neg f2, tn_ckn hs (by decide), tn_ckn ht (by decide), if_pos f3, s_lacks hs h z1, tn_bds]
        by_cases w : 0 ≤ i.toInt ∧ 0 ≤ n.toInt ∧ i.toInt + n.toInt ≤ aZ A s
        · rw [if_pos w, if_pos rfl, s_lacks ht h z2, tn_bds, if_neg (fun v => g ⟨w, v⟩), if_neg (by decide)]
          unfold F_X4_copy_111
          exact tq_bd (k_find h 2) (fun r σ1 q => tq_some q)
        · rw [if_neg w, if_neg (by decide)]
          unfold F_X4_copy_111
          exact tq_bd (k_find h 2) (fun r σ1 q => tq_some q)
      · rw [m_copyG hA hs ht f1 f2 f3 _ _ _ h, if_neg g]
        unfold F_X5_copy_111
        exact tq_bd (m_met h 2) (fun r σ1 q => tq_some q)
  · refine ⟨tn_An A 4, tW_n hA 4, -14, fun σ h => ?_, fun σ h => ?_⟩
    · unfold f_X4_copy
      rw [s_noSheet, tn_bds, if_pos c, if_pos rfl, s_noSheet, tn_bds, if_pos d, if_pos rfl, tn_ckn hs (by decide), tn_xn (show s < 2 ^ 31 by omega), tn_xn (show t < 2 ^ 31 by omega), h.1.2.2.2.2.2.1 s hs, if_neg f1, tn_ckn ht (by decide), h.1.2.2.2.2.2.1 t ht, if_neg f2, tn_ckn hs (by decide), tn_ckn ht (by decide), if_neg f3]
      exact tq_bd (k_find h 4) (fun r σ1 q => tq_some q)
    · unfold f_X5_copy
      rw [s_isSheet, tn_bds, if_pos c, if_neg (by decide), s_isSheet, tn_bds, if_pos d, if_neg (by decide), tn_ckn hs (by decide), tn_xn (show s < 2 ^ 31 by omega), tn_xn (show t < 2 ^ 31 by omega), h.2.2.2.2.2.1 s hs, if_neg (fun w => f1 (kn.mp w)), tn_ckn ht (by decide), h.2.2.2.2.2.1 t ht, if_pos (k2.mpr f2), tn_ckn hs (by decide), tn_ckn ht (by decide), if_neg f3]
      exact tq_bd (m_met h 4) (fun r σ1 q => tq_some q)
end EF

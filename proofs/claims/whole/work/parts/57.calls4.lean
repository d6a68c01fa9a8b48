/-! the calls: always, keeps, week -/
section CD
variable {A : tA} {e : tEc} {hb u lim : Nat → Nat} {held : Int32} {σ : tn_M}
theorem k_held (hV : tVe e) (h : kC A e hb u lim held σ) (x : Int32) : kC A e hb u lim x (tn_si σ 3 11 x) := by
  obtain ⟨⟨p1, p2, p3, p4, p5, p6, p7, p8, p9, p10, p11⟩, hc⟩ := h
  refine ⟨⟨cSt_same p1 (fun a b hab => by rw [tn_si_1, if_neg (by omega)]) hV.1.2.1, p2, fun k hk => by rw [tn_si_1, if_neg (by omega)]; exact p3 k hk, fun j a1 a2 => by rw [tn_si_1, if_neg (by omega)]; exact p4 j a1 a2, fun j a1 a2 => by rw [tn_si_1, if_neg (by omega)]; exact p5 j a1 a2, fun j hj => by rw [tn_si_1, if_neg (by omega)]; exact p6 j hj, by rw [tn_si_1, if_neg (by omega)]; exact p7, by rw [tn_si_1, if_neg (by omega)]; exact p8, p9, by rw [tn_si_1, if_pos ⟨rfl, rfl⟩], p11⟩, CI_sub (S := [(3, 11)]) hc (tn_fr.si (by rfl) tn_fr.rf) (by decide)⟩
theorem m_tried {L : Nat} {fixed : Int32} (h : kM A e hb u L fixed σ) {k v : Nat} (hv : v ≤ 3) : kM A e hb (va_up u k v) L fixed (tn_si σ 44 k (nI v)) := by
  have hf : tn_fr [(44, 999)] σ (tn_si σ 44 k (nI v)) := tn_fr.si (by simp [tn_ms]) tn_fr.rf
  refine ⟨mTr_fr h.1 (fr_sub hf (ms_sub (by decide))) (fun j hj => ?_), M0_sub h.2 hf (by decide)⟩
  unfold va_up
  rw [tn_si_1]
  by_cases c : j = k
  · subst c
    rw [if_pos ⟨rfl, rfl⟩, if_pos rfl]
    exact ⟨rfl, hv⟩
  · rw [if_neg (fun w => c w.2), if_neg c]
    exact ⟨h.1.un hj, h.1.u3 hj⟩
theorem mFi_same {σ' : tn_M} (h : mFi e σ) (e1 : σ'.1 5 18 = σ.1 5 18) (e2 : σ'.1 41 3 = σ.1 41 3) (e3 : σ'.1 41 4 = σ.1 41 4) : mFi e σ' := by
  unfold mFi at *
  rw [e1, e2, e3]
  exact h
theorem m_fixed {L : Nat} {fixed : Int32} (h : kM A e hb u L fixed σ) (x : Int32) : kM A e hb u L x (tn_si σ 5 20 x) := by
  obtain ⟨⟨p1, p2, p3, p4, p5, p6, p7, p8, p9, p10⟩, hm⟩ := h
  have ee : ∀ a b, ¬ (a = 5 ∧ b = 20) → (tn_si σ 5 20 x).1 a b = σ.1 a b := by
    intro a b hab
    rw [tn_si_1, if_neg hab]
  exact ⟨⟨mSt_same p1 (fun a b hab => ee a b (by omega)), by rw [ee _ _ (by omega)]; exact p2, by rw [ee _ _ (by omega)]; exact p3, by rw [ee _ _ (by omega)]; exact p4, fun k hk => by rw [ee _ _ (by omega)]; exact p5 k hk, fun k h1 h3 => by rw [ee _ _ (by omega)]; exact p6 k h1 h3, fun k hk => by rw [ee _ _ (by omega)]; exact p7 k hk, by rw [ee _ _ (by omega)]; exact p8, by rw [tn_si_1, if_pos ⟨rfl, rfl⟩], mFi_same p10 (ee _ _ (by omega)) (ee _ _ (by omega)) (ee _ _ (by omega))⟩, M0_sub (S := [(5, 20)]) hm (tn_fr.si (by rfl) tn_fr.rf) (by decide)⟩
def tn_ga (A : tA) (k : Nat) : (Nat → Nat) × Nat × Bool := tn_go40 (tn_eA A) (tn_hA A) (tn_lm (tn_eA A) 3) (nI k) (va_up (aH A) k 3)
def tn_al (A : tA) (k w : Nat) : Bool := (tn_ga A k).2.2 && (tn_g0 A).2.2
theorem c_always (hA : tW A) (x y : Int32) : tn_P A A (f_X4_always x y) (f_X5_always x y) := by
  have hV := tVe_A hA
  have hn := (tV_A A).1
  rcases shop_cases A x with c | ⟨k, hk, rfl, c⟩
  · refine ⟨-9223372036854775808 - Int32.toInt64 (-2), fun σ h => ?_, fun σ h => ?_⟩
    · unfold f_X4_always
      rw [s_noShop h.2.2.1, tn_bds, if_neg c, if_neg (by decide)]
      exact tq_some ⟨rfl, h⟩
    · unfold f_X5_always
      refine tq_bd (s_isShop hA h x) (fun r σ1 ⟨q1, _, q3⟩ => ?_)
      rw [q1, if_neg c, if_pos rfl]
      exact tq_some ⟨rfl, q3⟩
  · rcases side_cases y with d | ⟨w, hw, rfl, d⟩
    · refine ⟨-9223372036854775808 - Int32.toInt64 (-2), fun σ h => ?_, fun σ h => ?_⟩
      · unfold f_X4_always
        rw [s_noShop h.2.2.1, tn_bds, if_pos c, if_pos rfl, s_noSide, tn_bds, if_neg d, if_neg (by decide)]
        exact tq_some ⟨rfl, h⟩
      · unfold f_X5_always
        refine tq_bd (s_isShop hA h _) (fun r σ1 ⟨q1, _, q3⟩ => ?_)
        rw [q1, if_pos c, if_neg (by decide), s_isTwo, tn_bds, if_neg d, if_pos rfl]
        exact tq_some ⟨rfl, q3⟩
    · refine ⟨if (tn_ga A k).2.2 then (if (tn_g0 A).2.2 then tn_frc (tn_ea (tn_eA A) (tn_hA A) (tn_ga A k).1 k - tn_ea (tn_eA A) (tn_hA A) (tn_g0 A).1 k) (nI w) else -9223372036854775808 - Int32.toInt64 (-3)) else -9223372036854775808 - Int32.toInt64 (-3), fun σ h => ?_, fun σ h => ?_⟩
      · unfold f_X4_always
        rw [s_noShop h.2.2.1, tn_bds, if_pos c, if_pos rfl, s_noSide, tn_bds, if_pos d, if_pos rfl]
        refine tq_bd (k_scene hA h) (fun _ σ1 q => tq_bd (k_become (v := 3) hV q hk (by omega)) (fun _ σ2 q2 => tq_lt (tq_bd (k_runDown hV (k_held hV q2 (nI k))) (fun r σ3 ⟨q3, q4, _⟩ => ?_))))
        change r = tn_I (tn_ga A k).2.2 at q3
        change kC A _ _ (tn_ga A k).1 _ _ _ at q4
        rw [q3]
        cases h1 : (tn_ga A k).2.2 with
        | false => exact tq_some ⟨rfl, q4.2⟩
        | true =>
          rw [if_neg (by decide), if_pos rfl, s_earning hV q4.1 hk, tn_bds]
          refine tq_bd (k_scene hA q4.2) (fun _ σ4 q5 => tq_bd (k_runDown hV q5) (fun r σ5 ⟨q6, q7, _⟩ => ?_))
          change r = tn_I (tn_g0 A).2.2 at q6
          change kC A _ _ (tn_g0 A).1 _ _ _ at q7
          rw [q6]
          cases h2 : (tn_g0 A).2.2 with
          | false => exact tq_some ⟨rfl, q7.2⟩
          | true =>
            rw [if_neg (by decide), if_pos rfl, s_earning hV q7.1 hk, tn_bds, (s_frc _ _ _).1, tn_bds]
            exact tq_some ⟨rfl, q7.2⟩
      · unfold f_X5_always
        refine tq_bd (s_isShop hA h _) (fun r σ1 ⟨q1, _, q3⟩ => ?_)
        rw [q1, if_pos c, if_neg (by decide), s_isTwo, tn_bds, if_pos d, if_neg (by decide)]
        refine tq_bd (m_tries hA q3) (fun _ σ2 q2 => ?_)
        rw [tn_ckn (by omega) (by decide), tn_xn (by omega)]
        refine tq_lt (tq_lt (tq_bd (m_runsDown hV (m_fixed (m_tried q2 (k := k) (v := 3) (by omega)) (nI k))) (fun r σ3 ⟨q5, q4, _⟩ => ?_)))
        change r = tn_I (tn_ga A k).2.2 at q5
        change kM A _ _ (tn_ga A k).1 _ _ _ at q4
        rw [q5]
        cases h1 : (tn_ga A k).2.2 with
        | false => exact tq_some ⟨rfl, q4.2⟩
        | true =>
          rw [if_neg (by decide), if_pos rfl]
          refine tq_bd (m_earnAll hV q4) (fun _ σ4 ⟨q6, _, q7⟩ => ?_)
          rw [tn_ckn (by omega) (by decide), q6 k hk]
          refine tq_lt (tq_bd (m_tries hA q7.2) (fun _ σ5 q8 => tq_bd (m_runsDown hV q8) (fun r σ6 ⟨q9, q10, _⟩ => ?_)))
          change r = tn_I (tn_g0 A).2.2 at q9
          change kM A _ _ (tn_g0 A).1 _ _ _ at q10
          rw [q9]
          cases h2 : (tn_g0 A).2.2 with
          | false => exact tq_some ⟨rfl, q10.2⟩
          | true =>
            rw [if_neg (by decide), if_pos rfl]
            refine tq_bd (m_earnAll hV q10) (fun _ σ7 ⟨q11, _, q12⟩ => ?_)
            rw [tn_ckn (by omega) (by decide), q11 k hk, (s_frc _ _ _).2, tn_bds]
            exact tq_some ⟨rfl, q12.2⟩
/-- the hours of a turn -/
def tn_tu (A : tA) (t : Nat) : Nat → Nat := tn_ot (sn (tn_SA A)) (aU A t) (aH A)
theorem m_layTurn (hA : tW A) {t : Nat} (ht : t < 6) (h : M0 A σ) : tq (f_X5_layTurn (nI t) σ) (fun _ σ' => kM A (tn_eA A) (tn_hA A) (tn_tu A t) 3 (-1) σ') := by
  have hn := (tV_A A).1
  have hU := hA.2.2.2.1 t ht
  unfold f_X5_layTurn
  refine tq_bd (m_tries hA h) (fun _ σ1 q => ?_)
  have lp : ∀ d n k (τ : tn_M), k + d = sn (tn_SA A) → d < n → kM A (tn_eA A) (tn_hA A) (tn_otk (aU A t) (aH A) k) 3 (-1) τ → tq (F_X5_layTurn_6 n (nI t) (nI k) τ) (fun _ σ' => kM A (tn_eA A) (tn_hA A) (tn_tu A t) 3 (-1) σ') := by
    intro d
    induction d with
    | zero =>
      intro n k τ h1 h2 q
      obtain ⟨m, rfl⟩ : ∃ m, n = m + 1 := ⟨n - 1, by omega⟩
      have hk : k = sn (tn_SA A) := by omega
      subst hk
      have e8 : τ.1 5 8 = nI (sn (tn_SA A)) := q.1.st.1
      rw [F_X5_layTurn_6, e8, if_pos (nI_le (Nat.le_refl _) (by omega))]
      exact tq_some q
    | succ d ih =>
      intro n k τ h1 h2 q
      obtain ⟨m, rfl⟩ : ∃ m, n = m + 1 := ⟨n - 1, by omega⟩
      have e8 : τ.1 5 8 = nI (sn (tn_SA A)) := q.1.st.1
      rw [F_X5_layTurn_6, e8, if_neg (nI_ge (by omega) (by omega)), tn_ckn (by omega) (by decide), tn_xn (show t < 2 ^ 31 by omega), q.2.2.2.2.2.1 t ht, tn_b1 _ (by omega) k (by omega)]
      refine tq_lt ?_
      have ev : (if (if (aU A t).testBit k = true then (1 : Int32) else 0) = 1 then (3 : Int32) else 0) = nI (if (aU A t).testBit k then 3 else 0) := by
        cases (aU A t).testBit k <;> rfl
      rw [ev, tn_ckn (by omega) (by decide), tn_xn (by omega), nI_1]
      have := m_tried q (k := k) (v := if (aU A t).testBit k then 3 else 0) (by split <;> omega)
      rw [otk_s] at this
      exact tq_lt (ih m (k + 1) _ (by omega) (by omega) this)
  have h0 : tn_otk (aU A t) (aH A) 0 = aH A := by
    funext j
    unfold tn_otk
    rw [if_neg (by omega)]
  exact lp (sn (tn_SA A)) tn_fuel 0 σ1 (by omega) (by unfold tn_fuel; omega) (by rw [h0]; exact q)
def tn_kq (A : tA) (x : Int32) : Nat → Nat → Int32
  | 0, _ => -1
  | d + 1, t => match tn_fg (tn_gn (tn_eA A) (tn_hA A) (tn_lm (tn_eA A) 3) (tn_tu A t)) 0 (sn (tn_SA A)) with
    | none => tn_kq A x d (t + 1)
    | some k => if x = 0 then nI t else nI k
theorem fg_lt (p : Nat → Bool) (n : Nat) : ∀ d k, k + d ≤ n → ∀ j, tn_fg p k d = some j → j < n := by
  intro d
  induction d with
  | zero => intro k _ j h; simp [tn_fg] at h
  | succ d ih =>
    intro k hk j h
    unfold tn_fg at h
    split at h
    · have := Option.some.inj h; omega
    · exact ih (k + 1) (by omega) j h
theorem k_keeps19 (hA : tW A) (x : Int32) : ∀ d n t (v : Nat → Nat) (τ : tn_M), t + d = 6 → d < n → (∀ M, tn_ot (sn (tn_SA A)) M v = tn_ot (sn (tn_SA A)) M (aH A)) → kC A (tn_eA A) (tn_hA A) v (tn_lm (tn_eA A) 3) (-1) τ → tq (F_X4_keeps_19 n x (nI t) τ) (fun r σ' => r = tn_kq A x d t ∧ CI A σ') := by
  have hV := tVe_A hA
  have hn := (tV_A A).1
  intro d
  induction d with
  | zero =>
    intro n t v τ h1 h2 hv q
    obtain ⟨m, rfl⟩ : ∃ m, n = m + 1 := ⟨n - 1, by omega⟩
    have : t = 6 := by omega
    subst this
    rw [F_X4_keeps_19, if_pos (by decide)]
    exact tq_some ⟨rfl, q.2⟩
  | succ d ih =>
    intro n t v τ h1 h2 hv q
    obtain ⟨m, rfl⟩ : ∃ m, n = m + 1 := ⟨n - 1, by omega⟩
    have hU := hA.2.2.2.1 t (by omega)
    rw [F_X4_keeps_19, tn_L 6, if_neg (nI_ge (by omega) (by omega)), tn_ckn (by omega) (by decide), tn_xn (by omega), q.2.1.2.2.2.2.1 t (by omega), nI_1]
    refine tq_bd (k_openTill hV (M := aU A t) (by omega) q) (fun _ τ1 q1 => ?_)
    have e1 : tn_ot (sn (eS (tn_eA A))) (aU A t) v = tn_tu A t := hv (aU A t)
    rw [e1] at q1
    refine tq_bd (k_firstGainer hV q1) (fun r τ2 ⟨q2, q3⟩ => ?_)
    have q2 : r = tn_lki (tn_fg (tn_gn (tn_eA A) (tn_hA A) (tn_lm (tn_eA A) 3) (tn_tu A t)) 0 (sn (tn_SA A))) := q2
    rw [q2]
    unfold tn_kq
    have hl := fg_lt (tn_gn (tn_eA A) (tn_hA A) (tn_lm (tn_eA A) 3) (tn_tu A t)) (sn (tn_SA A)) (sn (tn_SA A)) 0 (by omega)
    cases hf : tn_fg (tn_gn (tn_eA A) (tn_hA A) (tn_lm (tn_eA A) 3) (tn_tu A t)) 0 (sn (tn_SA A)) with
    | none =>
      rw [if_pos (show tn_lki none = -1 from rfl)]
      exact ih m (t + 1) _ τ2 (by omega) (by omega) (fun M => by unfold tn_tu; exact ot_ot _ _ _ _) q3
    | some k =>
      have := hl k hf
      rw [if_neg (show ¬ tn_lki (some k) = -1 from tn_m1ne (by omega))]
      exact tq_some ⟨rfl, q3.2⟩
theorem gn_of (e : tEc) (hb lim u : Nat → Nat) (k : Nat) : (tn_gn e hb lim u k = false) ↔ tn_ea e hb (va_up u k (tn_rp e hb u lim k)) k ≤ tn_ea e hb u k := by
  unfold tn_gn
  rw [decide_eq_false_iff_not, Int64.not_lt]
theorem m_keeps15 (hA : tW A) (x : Int32) {t : Nat} {Q : Int32 → tn_M → Prop} (c2 : Int32 → Int32 → tn_M → Option (Int32 × tn_M)) {v : Nat → Nat} (hnone : ∀ τ, kM A (tn_eA A) (tn_hA A) v 3 (-1) τ → tn_fg (tn_gn (tn_eA A) (tn_hA A) (tn_lm (tn_eA A) 3) v) 0 (sn (tn_SA A)) = none → tq (c2 x (nI t + 1) τ) Q) (hsome : ∀ τ k, M0 A τ → tn_fg (tn_gn (tn_eA A) (tn_hA A) (tn_lm (tn_eA A) 3) v) 0 (sn (tn_SA A)) = some k → Q (if x = 0 then nI t else nI k) τ) : ∀ d n k (τ : tn_M), k + d = sn (tn_SA A) → d < n → tn_fg (tn_gn (tn_eA A) (tn_hA A) (tn_lm (tn_eA A) 3) v) 0 (sn (tn_SA A)) = tn_fg (tn_gn (tn_eA A) (tn_hA A) (tn_lm (tn_eA A) 3) v) k d → kM A (tn_eA A) (tn_hA A) v 3 (-1) τ → tq (F_X5_keepsOf_15 c2 n x (nI t) (nI k) τ) Q := by
  have hV := tVe_A hA
  have hn := (tV_A A).1
  intro d
  induction d with
  | zero =>
    intro n k τ h1 h2 hf q
    obtain ⟨m, rfl⟩ : ∃ m, n = m + 1 := ⟨n - 1, by omega⟩
    have e8 : τ.1 5 8 = nI (sn (tn_SA A)) := q.1.st.1
    rw [F_X5_keepsOf_15, e8, if_pos (nI_le (by omega) (by omega))]
    exact hnone τ q hf
  | succ d ih =>
    intro n k τ h1 h2 hf q
    obtain ⟨m, rfl⟩ : ∃ m, n = m + 1 := ⟨n - 1, by omega⟩
    have e8 : τ.1 5 8 = nI (sn (tn_SA A)) := q.1.st.1
    have hk : k < sn (eS (tn_eA A)) := (by omega : k < sn (tn_SA A))
    have hr3 : tn_rp (tn_eA A) (tn_hA A) v (tn_lm (tn_eA A) 3) k ≤ 3 := Nat.le_trans (an_le _ _) (lm_3 (by omega) k)
    rw [F_X5_keepsOf_15, e8, if_neg (nI_ge (by omega) (by omega))]
    refine tq_bd (m_answerOf hV q hk) (fun r τ1 ⟨q1, q2⟩ => ?_)
    rw [q1]
    refine tq_bd (m_earnsBy hV q2 hk hr3) (fun r4 τ3 ⟨q3, q4⟩ => ?_)
    have h3 := q4.1.u3 (k := k) (by omega)
    rw [tn_ckn (by omega) (by decide), tn_xn (by omega), q4.1.un (by omega)]
    refine tq_bd (m_earnsBy hV q4 hk h3) (fun r6 τ5 ⟨q5, q6⟩ => ?_)
    rw [q3, q5, up_self, nI_1]
    have hg := gn_of (tn_eA A) (tn_hA A) (tn_lm (tn_eA A) 3) v k
    rw [show tn_fg (tn_gn (tn_eA A) (tn_hA A) (tn_lm (tn_eA A) 3) v) k (d + 1) = if tn_gn (tn_eA A) (tn_hA A) (tn_lm (tn_eA A) 3) v k then some k else tn_fg (tn_gn (tn_eA A) (tn_hA A) (tn_lm (tn_eA A) 3) v) (k + 1) d from rfl] at hf
    by_cases cg : tn_ea (tn_eA A) (tn_hA A) (va_up v k (tn_rp (tn_eA A) (tn_hA A) v (tn_lm (tn_eA A) 3) k)) k ≤ tn_ea (tn_eA A) (tn_hA A) v k
    · rw [if_pos cg]
      rw [hg.mpr cg, if_neg (by decide)] at hf
      exact ih m (k + 1) τ5 (by omega) (by omega) hf q6
    · rw [if_neg cg]
      have ht : tn_gn (tn_eA A) (tn_hA A) (tn_lm (tn_eA A) 3) v k = true := by
        cases hq : tn_gn (tn_eA A) (tn_hA A) (tn_lm (tn_eA A) 3) v k with
        | true => rfl
        | false => exact absurd (hg.mp hq) cg
      rw [ht, if_pos rfl] at hf
      exact tq_some (hsome τ5 k q6.2 hf)
theorem m_keepsOf (hA : tW A) (x : Int32) (h : M0 A σ) : tq (f_X5_keepsOf x σ) (fun r σ' => r = tn_kq A x 6 0 ∧ M0 A σ') := by
  have hn := (tV_A A).1
  have lp : ∀ d n t (τ : tn_M), t + d = 6 → d < n → M0 A τ → tq (F_X5_keepsOf_2 n x (nI t) τ) (fun r σ' => r = tn_kq A x d t ∧ M0 A σ') := by
    intro d
    induction d with
    | zero =>
      intro n t τ h1 h2 q
      obtain ⟨m, rfl⟩ : ∃ m, n = m + 1 := ⟨n - 1, by omega⟩
      have : t = 6 := by omega
      subst this
      rw [F_X5_keepsOf_2, if_pos (by decide)]
      exact tq_some ⟨rfl, q⟩
    | succ d ih =>
      intro n t τ h1 h2 q
      obtain ⟨m, rfl⟩ : ∃ m, n = m + 1 := ⟨n - 1, by omega⟩
      rw [F_X5_keepsOf_2, tn_L 6, if_neg (nI_ge (by omega) (by omega))]
      refine tq_bd (m_layTurn hA (t := t) (by omega) q) (fun _ τ1 q1 => ?_)
      refine m_keeps15 hA x (t := t) _ (fun τ2 q2 hf => ?_) (fun τ2 k q2 hf => ?_) (sn (tn_SA A)) tn_fuel 0 τ1 (by omega) (by unfold tn_fuel; omega) rfl q1
      · unfold tn_kq
        rw [hf, nI_1]
        exact ih m (t + 1) τ2 (by omega) (by omega) q2.2
      · unfold tn_kq
        rw [hf]
        exact ⟨rfl, q2⟩
  exact lp 6 tn_fuel 0 σ (by omega) (by unfold tn_fuel; omega) h
theorem k_keeps (hA : tW A) {w : Nat} (hw : w < 2) (h : CI A σ) : tq (f_X4_keeps (nI w) σ) (fun r σ' => r = tn_kq A (nI w) 6 0 ∧ CI A σ') := by
  unfold f_X4_keeps
  rw [if_neg (show ¬ nI w < 0 from nI_pos (by omega)), if_pos (show nI w ≤ 1 from nI_le (b := 1) (by omega) (by omega))]
  exact tq_bd (k_scene hA h) (fun _ σ1 q => k_keeps19 hA _ 6 tn_fuel 0 _ σ1 (by omega) (by unfold tn_fuel; omega) (fun _ => rfl) q)
theorem c_keeps (hA : tW A) (x : Int32) : tn_P A A (f_X4_keeps x) (f_X5_keeps x) := by
  have t0 : (0 : Int32).toInt = 0 := rfl
  have t1 : (1 : Int32).toInt = 1 := rfl
  rcases side_cases x with c | ⟨w, hw, rfl, c⟩
  · refine ⟨-2, fun σ h => ?_, fun σ h => ?_⟩
    · unfold f_X4_keeps
      by_cases d : x < 0
      · rw [if_pos d]; exact tq_some ⟨rfl, h⟩
      · rw [if_neg d, if_neg (by rw [tn_lt32] at d; rw [tn_le32]; omega)]; exact tq_some ⟨rfl, h⟩
    · unfold f_X5_keeps
      rw [s_isTwo, tn_bds, if_neg c, if_pos rfl]
      exact tq_some ⟨rfl, h⟩
  · refine ⟨tn_kq A (nI w) 6 0, fun σ h => k_keeps hA hw h, fun σ h => ?_⟩
    unfold f_X5_keeps
    rw [s_isTwo, tn_bds, if_pos c, if_neg (by decide)]
    exact tq_bd (m_keepsOf hA _ h) (fun r σ1 q => tq_some q)
end CD

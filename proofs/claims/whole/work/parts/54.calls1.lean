/-! both sides with their states -/
def kC (A : tA) (e : tEc) (hb u lim : Nat → Nat) (held : Int32) (σ : tn_M) : Prop := cSc e hb u lim held σ ∧ CI A σ
def kM (A : tA) (e : tEc) (hb u : Nat → Nat) (L : Nat) (fixed : Int32) (σ : tn_M) : Prop := mTr e hb u L fixed σ ∧ M0 A σ
/-- the same answer on both sides, and a state on both sides -/
def tn_P {ρ : Type} (A A' : tA) (fc fm : tn_M → Option (ρ × tn_M)) : Prop := ∃ r : ρ, (∀ σ, CI A σ → tq (fc σ) (fun x σ' => x = r ∧ CI A' σ')) ∧ (∀ σ, M0 A σ → tq (fm σ) (fun x σ' => x = r ∧ M0 A' σ'))
section K1
variable {A : tA} {e : tEc} {hb u lim : Nat → Nat} {held : Int32} {σ : tn_M}
theorem CI_sub {S : List (Nat × Nat)} {σ' : tn_M} (h : CI A σ) (hf : tn_fr S σ σ') (hs : S.all (fun q => tn_sf.any (fun p => p.1 == q.1 && (p.2 == 999 || p.2 == q.2))) = true) : CI A σ' := CI_fr h (fr_sub hf (ms_sub hs))
theorem M0_sub {S : List (Nat × Nat)} {σ' : tn_M} (h : M0 A σ) (hf : tn_fr S σ σ') (hs : S.all (fun q => tn_mf.any (fun p => p.1 == q.1 && (p.2 == 999 || p.2 == q.2))) = true) : M0 A σ' := M0_fr h (fr_sub hf (ms_sub hs))
theorem k_become (hV : tVe e) (h : kC A e hb u lim held σ) {k v : Nat} (hk : k < sn (eS e)) (hv : v ≤ 3) : tq (f_X0_become (nI k) (nI v) σ) (fun _ σ' => kC A e hb (va_up u k v) lim held σ') :=
  tq_mono (s_become hV h.1 hk hv) (fun _ σ' q => ⟨q.1, CI_sub h.2 q.2 (by decide)⟩)
theorem k_reply (hV : tVe e) (h : kC A e hb u lim held σ) {k : Nat} (hk : k < sn (eS e)) : tq (f_X0_reply (nI k) σ) (fun r σ' => r = nI (tn_rp e hb u lim k) ∧ kC A e hb u lim held σ') :=
  tq_mono (s_reply hV h.1 hk) (fun _ σ' q => ⟨q.1, q.2.2.1, CI_sub h.2 q.2.2.2 (by decide)⟩)
theorem k_runDown (hV : tVe e) (h : kC A e hb u lim held σ) : tq (f_X0_runDown σ) (fun r σ' => r = tn_I (tn_go40 e hb lim held u).2.2 ∧ kC A e hb (tn_go40 e hb lim held u).1 lim held σ' ∧ ((tn_go40 e hb lim held u).2.2 = true → σ'.1 3 12 = nI (tn_go40 e hb lim held u).2.1)) :=
  tq_mono (s_runDown hV h.1) (fun _ σ' q => ⟨q.1, ⟨q.2.1, CI_sub h.2 q.2.2.2 (by decide)⟩, q.2.2.1⟩)
theorem k_firstGainer (hV : tVe e) (h : kC A e hb u lim held σ) : tq (f_X0_firstGainer σ) (fun r σ' => r = tn_lki (tn_fg (tn_gn e hb lim u) 0 (sn (eS e))) ∧ kC A e hb u lim held σ') :=
  tq_mono (s_firstGainer hV h.1) (fun _ σ' q => ⟨q.1, q.2.1, CI_sub h.2 q.2.2 (by decide)⟩)
theorem k_place (hV : tVe e) (h : kC A e hb u lim held σ) {c : Nat} (hc : c < 2 ^ 31) : tq (f_X0_place (nI c) σ) (fun _ σ' => kC A e hb (tn_pf (sn (eS e)) c u) lim held σ') :=
  tq_mono (s_place hV h.1 hc) (fun _ σ' q => ⟨q.1, CI_sub h.2 q.2 (by decide)⟩)
theorem k_advance (hV : tVe e) (h : kC A e hb u lim held σ) : tq (f_X0_advance σ) (fun _ σ' => kC A e hb (tn_av (sn (eS e)) u) lim held σ') :=
  tq_mono (s_advance hV h.1) (fun _ σ' q => ⟨q.1, CI_sub h.2 q.2 (by decide)⟩)
theorem k_scene (hA : tW A) (h : CI A σ) : tq (f_X4_sceneNow σ) (fun _ σ' => kC A (tn_eA A) (tn_hA A) (aH A) (tn_lm (tn_eA A) 3) (-1) σ') := s_sceneNow hA h
end K1
section K2
variable {A : tA} {e : tEc} {hb u : Nat → Nat} {L : Nat} {fixed : Int32} {σ : tn_M}
theorem m_tries (hA : tW A) (h : M0 A σ) : tq (f_X5_tries σ) (fun _ σ' => kM A (tn_eA A) (tn_hA A) (aH A) 3 (-1) σ') := s_tries hA h
theorem m_earnAll (hV : tVe e) (h : kM A e hb u L fixed σ) : tq (f_X5_earnAll σ) (fun _ σ' => (∀ k, k < sn (eS e) → σ'.2 47 k = tn_ea e hb u k) ∧ σ'.2 5 23 = lN (tn_srv (eS e) (eL e) hb u) ∧ kM A e hb u L fixed σ') :=
  tq_mono (s_earnAll hV h.1) (fun _ σ' q => ⟨q.1, q.2.1, q.2.2.1, M0_sub h.2 q.2.2.2 (by decide)⟩)
theorem m_earnsBy (hV : tVe e) (h : kM A e hb u L fixed σ) {k v : Nat} (hk : k < sn (eS e)) (hv : v ≤ 3) : tq (f_X5_earnsBy (nI k) (nI v) σ) (fun r σ' => r = tn_ea e hb (va_up u k v) k ∧ kM A e hb u L fixed σ') :=
  tq_mono (s_earnsBy hV h.1 hk hv) (fun _ σ' q => ⟨q.1, q.2.1, M0_sub h.2 q.2.2 (by decide)⟩)
theorem m_answerOf (hV : tVe e) (h : kM A e hb u L fixed σ) {k : Nat} (hk : k < sn (eS e)) : tq (f_X5_answerOf (nI k) σ) (fun r σ' => r = nI (tn_rp e hb u (tn_lm e L) k) ∧ kM A e hb u L fixed σ') :=
  tq_mono (s_answerOf hV h.1 hk) (fun _ σ' q => ⟨q.1, q.2.1, M0_sub h.2 q.2.2 (by decide)⟩)
theorem m_runsDown (hV : tVe e) (h : kM A e hb u L fixed σ) : tq (f_X5_runsDown σ) (fun r σ' => r = tn_I (tn_go40 e hb (tn_lm e L) fixed u).2.2 ∧ kM A e hb (tn_go40 e hb (tn_lm e L) fixed u).1 L fixed σ' ∧ σ'.1 5 24 = nI (tn_go40 e hb (tn_lm e L) fixed u).2.1) :=
  tq_mono (s_runsDown hV h.1) (fun _ σ' q => ⟨q.1, ⟨q.2.1, M0_sub h.2 q.2.2.2 (by decide)⟩, q.2.2.1⟩)
theorem m_lays (hV : tVe e) (h : kM A e hb u L fixed σ) {c : Nat} (hc : c < 2 ^ 31) : tq (f_X5_lays (nI c) σ) (fun _ σ' => kM A e hb (tn_pf (sn (eS e)) c u) L fixed σ') :=
  tq_mono (s_lays hV h.1 hc) (fun _ σ' q => ⟨q.1, M0_sub h.2 q.2 (by decide)⟩)
theorem m_isStill (hV : tVe e) (h : kM A e hb u L fixed σ) : tq (f_X5_isStill σ) (fun r σ' => r = tn_I (tn_stl e hb u) ∧ kM A e hb u L fixed σ') :=
  tq_mono (s_isStill hV h.1) (fun _ σ' q => ⟨q.1, q.2.1, M0_sub h.2 q.2.2 (by decide)⟩)
/-- what all earn together -/
def tn_es (e : tEc) (hb u : Nat → Nat) : Nat → Int64
  | 0 => 0
  | n + 1 => tn_es e hb u n + tn_ea e hb u n
theorem i64_a (a b c d : Int64) : a + (b - c) + d = a + (b + d) - c := by grind
theorem i64_b (a b c : Int64) : a + (b + c) = a + b + c := by grind
theorem es_bus (e : tEc) (hb u : Nat → Nat) : ∀ n (y : Int64), tn_es e hb u n + y = tn_bus e u (lN (tn_S (tn_inc (eS e) (eL e) hb u) n) + y) n
  | 0, y => by
    show (0 : Int64) + y = lN 0 + y
    rfl
  | n + 1, y => by
    show tn_es e hb u n + (lN (tn_inc (eS e) (eL e) hb u n) - tn_bu e n (u n)) + y = tn_bus e u (lN (tn_S (tn_inc (eS e) (eL e) hb u) n + tn_inc (eS e) (eL e) hb u n) + y) n - tn_bu e n (u n)
    rw [i64_a, es_bus e hb u n, i64_b, lN_add]
theorem es_to (hV : tVe e) : tn_es e hb u (sn (eS e)) = tn_to e hb u := by
  have h := es_bus e hb u (sn (eS e)) 0
  rw [inc_sum hV.1, Int64.add_zero, Int64.add_zero] at h
  exact h
theorem m_together (hV : tVe e) (h : kM A e hb u L fixed σ) : tq (f_X5_together σ) (fun r σ' => r = tn_to e hb u ∧ σ'.2 5 23 = lN (tn_srv (eS e) (eL e) hb u) ∧ kM A e hb u L fixed σ') := by
  have hn := hV.1.1
  unfold f_X5_together
  refine tq_bd (m_earnAll hV h) (fun _ σ1 ⟨q1, q2, q3⟩ => ?_)
  have lp : ∀ d n k, k + d = sn (eS e) → d < n → F_X5_together_8 n (tn_es e hb u k) (nI k) σ1 = some (tn_es e hb u (sn (eS e)), σ1) := by
    intro d
    induction d with
    | zero =>
      intro n k h1 h2
      obtain ⟨m, rfl⟩ : ∃ m, n = m + 1 := ⟨n - 1, by omega⟩
      have : k = sn (eS e) := by omega
      subst this
      rw [F_X5_together_8, q3.1.st.1, if_pos (nI_le (Nat.le_refl _) (by omega))]
    | succ d ih =>
      intro n k h1 h2
      obtain ⟨m, rfl⟩ : ∃ m, n = m + 1 := ⟨n - 1, by omega⟩
      rw [F_X5_together_8, q3.1.st.1, if_neg (nI_ge (by omega) (by omega)), tn_ckn (by omega) (by decide), tn_xn (by omega), q1 k (by omega), nI_1]
      exact ih m (k + 1) (by omega) (by omega)
  have := lp (sn (eS e)) tn_fuel 0 (by omega) (by unfold tn_fuel; omega)
  exact ⟨_, _, this, es_to hV, q2, q3⟩
end K2
/-! the calls: open, earns, all, answer, rest -/
section CA
variable {A : tA}
theorem c_open (hA : tW A) (x : Int32) : tn_P A A (f_X4_open x) (f_X5_open x) := by
  have hV := tVe_A hA
  have t1 : (1 : Int32).toInt = 1 := rfl
  have t3 : (3 : Int32).toInt = 3 := rfl
  by_cases c : 1 ≤ x.toInt ∧ x.toInt ≤ 3
  · obtain ⟨j, hj, rfl⟩ := tn_nat (n := 4) (by omega) (by omega : x.toInt < (4 : Nat))
    rw [tn_t (by omega)] at c
    refine ⟨nI (tn_mk (sn (tn_SA A)) (aH A) j), fun σ h => ?_, fun σ h => ?_⟩
    · unfold f_X4_open
      rw [if_neg (by rw [tn_lt32, tn_t (by omega)]; omega), if_pos (by rw [tn_le32, tn_t (by omega)]; omega)]
      refine tq_bd (k_scene hA h) (fun _ σ1 q => ?_)
      rw [tn_ckn (by omega) (by decide), tn_xn (by omega)]
      exact tq_some ⟨q.1.li (by omega) (by omega), q.2⟩
    · unfold f_X5_open
      rw [tn_inI (nI j) _ _ σ (a := 1) (b := 3) rfl rfl, tn_bds, tn_t (by omega), if_neg (by rw [if_pos (by omega)]; decide)]
      refine tq_bd (m_tries hA h) (fun _ σ1 q => ?_)
      rw [s_openIn hV q.1 (by omega), tn_bds]
      exact tq_some ⟨rfl, q.2⟩
  · refine ⟨-2, fun σ h => ?_, fun σ h => ?_⟩
    · unfold f_X4_open
      by_cases d : x < 1
      · rw [if_pos d]; exact tq_some ⟨rfl, h⟩
      · rw [if_neg d, if_neg (by rw [tn_lt32] at d; rw [tn_le32]; omega)]; exact tq_some ⟨rfl, h⟩
    · unfold f_X5_open
      rw [tn_inI x _ _ σ (a := 1) (b := 3) rfl rfl, tn_bds, if_pos (by rw [if_neg (by omega)])]
      exact tq_some ⟨rfl, h⟩
/-- a call with a shop: no shop, or shop k -/
theorem shop_cases (A : tA) (x : Int32) : (¬ (0 ≤ x.toInt ∧ x.toInt < sn (tn_SA A))) ∨ ∃ k, k < sn (tn_SA A) ∧ x = nI k ∧ (0 ≤ x.toInt ∧ x.toInt < sn (tn_SA A)) := by
  by_cases c : 0 ≤ x.toInt ∧ x.toInt < sn (tn_SA A)
  · obtain ⟨j, hj, e⟩ := tn_nat c.1 c.2
    exact Or.inr ⟨j, hj, e, c⟩
  · exact Or.inl c
theorem side_cases (x : Int32) : (¬ (0 ≤ x.toInt ∧ x.toInt ≤ 1)) ∨ ∃ k, k < 2 ∧ x = nI k ∧ (0 ≤ x.toInt ∧ x.toInt ≤ 1) := by
  by_cases c : 0 ≤ x.toInt ∧ x.toInt ≤ 1
  · obtain ⟨j, hj, e⟩ := tn_nat (n := 2) c.1 (by omega)
    exact Or.inr ⟨j, hj, e, c⟩
  · exact Or.inl c
theorem m_earnsOf (hA : tW A) {k : Nat} (hk : k < sn (tn_SA A)) (y : Int32) {σ : tn_M} (h : M0 A σ) : tq (f_X5_earnsOf (nI k) y σ) (fun r σ' => r = tn_frc (tn_ea (tn_eA A) (tn_hA A) (aH A) k) y ∧ M0 A σ') := by
  have hn := (tV_A A).1
  unfold f_X5_earnsOf
  refine tq_bd (m_tries hA h) (fun _ σ1 q => tq_bd (m_earnAll (tVe_A hA) q) (fun _ σ2 q2 => ?_))
  rw [tn_ckn (by omega) (by decide), tn_xn (by omega), q2.1 k hk, (s_frc _ _ _).2, tn_bds]
  exact tq_some ⟨rfl, q2.2.2.2⟩
theorem c_earns (hA : tW A) (x y : Int32) : tn_P A A (f_X4_earns x y) (f_X5_earns x y) := by
  have hV := tVe_A hA
  rcases shop_cases A x with c | ⟨k, hk, rfl, c⟩
  · refine ⟨-9223372036854775808 - Int32.toInt64 (-2), fun σ h => ?_, fun σ h => ?_⟩
    · unfold f_X4_earns
      rw [s_noShop h.2.2.1, tn_bds, if_neg c, if_neg (by decide)]
      exact tq_some ⟨rfl, h⟩
    · unfold f_X5_earns
      refine tq_bd (s_isShop hA h x) (fun r σ1 ⟨q1, _, q3⟩ => ?_)
      rw [q1, if_neg c, if_pos rfl]
      exact tq_some ⟨rfl, q3⟩
  · rcases side_cases y with d | ⟨w, hw, rfl, d⟩
    · refine ⟨-9223372036854775808 - Int32.toInt64 (-2), fun σ h => ?_, fun σ h => ?_⟩
      · unfold f_X4_earns
        rw [s_noShop h.2.2.1, tn_bds, if_pos c, if_pos rfl, s_noSide, tn_bds, if_neg d, if_neg (by decide)]
        exact tq_some ⟨rfl, h⟩
      · unfold f_X5_earns
        refine tq_bd (s_isShop hA h _) (fun r σ1 ⟨q1, _, q3⟩ => ?_)
        rw [q1, if_pos c, if_neg (by decide), s_isTwo, tn_bds, if_neg d, if_pos rfl]
        exact tq_some ⟨rfl, q3⟩
    · refine ⟨tn_frc (tn_ea (tn_eA A) (tn_hA A) (aH A) k) (nI w), fun σ h => ?_, fun σ h => ?_⟩
      · unfold f_X4_earns
        rw [s_noShop h.2.2.1, tn_bds, if_pos c, if_pos rfl, s_noSide, tn_bds, if_pos d, if_pos rfl]
        refine tq_bd (k_scene hA h) (fun _ σ1 q => ?_)
        rw [s_earning hV q.1 hk, tn_bds, (s_frc _ _ _).1, tn_bds]
        exact tq_some ⟨rfl, q.2⟩
      · unfold f_X5_earns
        refine tq_bd (s_isShop hA h _) (fun r σ1 ⟨q1, _, q3⟩ => ?_)
        rw [q1, if_pos c, if_neg (by decide), s_isTwo, tn_bds, if_pos d, if_neg (by decide)]
        exact tq_bd (m_earnsOf hA hk _ q3) (fun r σ2 q => tq_some q)
theorem m_allOf (hA : tW A) {w : Nat} (hw : w < 2) (y : Int32) {σ : tn_M} (h : M0 A σ) : tq (f_X5_allOf (nI w) y σ) (fun r σ' => r = tn_frc (tn_aim (tn_eA A) (tn_hA A) (aH A) w) y ∧ M0 A σ') := by
  unfold f_X5_allOf
  refine tq_bd (m_tries hA h) (fun _ σ1 q => tq_bd (m_together (tVe_A hA) q) (fun _ σ2 ⟨q1, q2, q3⟩ => tq_lt ?_))
  have e : (if nI w = 0 then (tn_to (tn_eA A) (tn_hA A) (aH A)) else σ2.2 5 23) = tn_aim (tn_eA A) (tn_hA A) (aH A) w := by
    unfold tn_aim
    rw [q2]
    have : w = 0 ∨ w = 1 := by omega
    rcases this with rfl | rfl
    · rfl
    · rw [if_neg (by decide), if_neg (by decide)]
  rw [q1, e, (s_frc _ _ _).2, tn_bds]
  exact tq_some ⟨rfl, q3.2⟩
theorem c_all (hA : tW A) (x y : Int32) : tn_P A A (f_X4_all x y) (f_X5_all x y) := by
  have hV := tVe_A hA
  have t0 : (0 : Int32).toInt = 0 := rfl
  have t1 : (1 : Int32).toInt = 1 := rfl
  rcases side_cases x with c | ⟨k, hk, rfl, c⟩
  · refine ⟨-9223372036854775808 - Int32.toInt64 (-2), fun σ h => ?_, fun σ h => ?_⟩
    · unfold f_X4_all
      by_cases d : x < 0
      · rw [if_pos d]; exact tq_some ⟨rfl, h⟩
      · rw [if_neg d, if_pos (by rw [tn_lt32] at *; omega)]; exact tq_some ⟨rfl, h⟩
    · unfold f_X5_all
      rw [s_isTwo, tn_bds, if_neg c, if_pos rfl]
      exact tq_some ⟨rfl, h⟩
  · have n1 : ¬ nI k < 0 := by rw [tn_lt32]; omega
    have n2 : ¬ 1 < nI k := by rw [tn_lt32]; omega
    rcases side_cases y with d | ⟨w, hw, rfl, d⟩
    · refine ⟨-9223372036854775808 - Int32.toInt64 (-2), fun σ h => ?_, fun σ h => ?_⟩
      · unfold f_X4_all
        rw [if_neg n1, if_neg n2, s_noSide, tn_bds, if_neg d, if_neg (by decide)]
        exact tq_some ⟨rfl, h⟩
      · unfold f_X5_all
        rw [s_isTwo, tn_bds, if_pos c, if_neg (by decide), s_isTwo, tn_bds, if_neg d, if_pos rfl]
        exact tq_some ⟨rfl, h⟩
    · refine ⟨tn_frc (tn_aim (tn_eA A) (tn_hA A) (aH A) k) (nI w), fun σ h => ?_, fun σ h => ?_⟩
      · unfold f_X4_all
        rw [if_neg n1, if_neg n2, s_noSide, tn_bds, if_pos d, if_pos rfl]
        refine tq_bd (k_scene hA h) (fun _ σ1 q => ?_)
        rw [s_aim hV q.1 (by omega), tn_bds, (s_frc _ _ _).1, tn_bds]
        exact tq_some ⟨rfl, q.2⟩
      · unfold f_X5_all
        rw [s_isTwo, tn_bds, if_pos c, if_neg (by decide), s_isTwo, tn_bds, if_pos d, if_neg (by decide)]
        exact tq_bd (m_allOf hA hk _ h) (fun r σ2 q => tq_some q)
theorem m_answerNow (hA : tW A) {k : Nat} (hk : k < sn (tn_SA A)) {σ : tn_M} (h : M0 A σ) : tq (f_X5_answerNow (nI k) σ) (fun r σ' => r = nI (tn_rp (tn_eA A) (tn_hA A) (aH A) (tn_lm (tn_eA A) 3) k) ∧ M0 A σ') := by
  unfold f_X5_answerNow
  exact tq_bd (m_tries hA h) (fun _ σ1 q => tq_bd (m_answerOf (tVe_A hA) q hk) (fun _ σ2 q2 => tq_some ⟨q2.1, q2.2.2⟩))
theorem c_answer (hA : tW A) (x : Int32) : tn_P A A (f_X4_answer x) (f_X5_answer x) := by
  have hV := tVe_A hA
  rcases shop_cases A x with c | ⟨k, hk, rfl, c⟩
  · refine ⟨-2, fun σ h => ?_, fun σ h => ?_⟩
    · unfold f_X4_answer
      rw [s_noShop h.2.2.1, tn_bds, if_neg c, if_neg (by decide)]
      exact tq_some ⟨rfl, h⟩
    · unfold f_X5_answer
      refine tq_bd (s_isShop hA h x) (fun r σ1 ⟨q1, _, q3⟩ => ?_)
      rw [q1, if_neg c, if_pos rfl]
      exact tq_some ⟨rfl, q3⟩
  · refine ⟨nI (tn_rp (tn_eA A) (tn_hA A) (aH A) (tn_lm (tn_eA A) 3) k), fun σ h => ?_, fun σ h => ?_⟩
    · unfold f_X4_answer
      rw [s_noShop h.2.2.1, tn_bds, if_pos c, if_pos rfl]
      refine tq_bd (k_scene hA h) (fun _ σ1 q => tq_bd (k_reply hV q hk) (fun r σ2 q2 => tq_some ⟨q2.1, q2.2.2⟩))
    · unfold f_X5_answer
      refine tq_bd (s_isShop hA h _) (fun r σ1 ⟨q1, _, q3⟩ => ?_)
      rw [q1, if_pos c, if_neg (by decide)]
      exact tq_bd (m_answerNow hA hk q3) (fun r σ2 q => tq_some q)
/-- the street runs down from now -/
def tn_g0 (A : tA) : (Nat → Nat) × Nat × Bool := tn_go40 (tn_eA A) (tn_hA A) (tn_lm (tn_eA A) 3) (-1) (aH A)
def tn_rs (A : tA) (x : Int32) : Int32 := if (tn_g0 A).2.2 then (if x = -1 then nI (tn_g0 A).2.1 else nI ((tn_g0 A).1 (tn_x x))) else -3
theorem k_rest16 (hA : tW A) {x : Int32} (hx : x = -1 ∨ ∃ k, k < sn (tn_SA A) ∧ x = nI k) {σ : tn_M} (h : CI A σ) : tq (F_X4_rest_16 x σ) (fun r σ' => r = tn_rs A x ∧ CI A σ') := by
  have hn := (tV_A A).1
  unfold F_X4_rest_16
  refine tq_bd (k_scene hA h) (fun _ σ1 q => tq_bd (k_runDown (tVe_A hA) q) (fun r σ2 ⟨q1, q2, q3⟩ => ?_))
  change r = tn_I (tn_g0 A).2.2 at q1
  change (tn_g0 A).2.2 = true → _ = nI (tn_g0 A).2.1 at q3
  unfold tn_rs
  rw [q1]
  cases hb : (tn_g0 A).2.2 with
  | false => exact tq_some ⟨rfl, q2.2⟩
  | true =>
    rw [if_neg (by decide), if_pos rfl]
    rcases hx with rfl | ⟨k, hk, rfl⟩
    · rw [if_pos rfl, if_pos rfl, q3 hb]; exact tq_some ⟨rfl, q2.2⟩
    · rw [if_neg (tn_m1ne (by omega)), if_neg (tn_m1ne (by omega)), tn_ckn (by omega) (by decide), tn_xn (by omega), q2.1.un (by omega)]
      exact tq_some ⟨rfl, q2.2⟩
theorem m_restOf (hA : tW A) {x : Int32} (hx : x = -1 ∨ ∃ k, k < sn (tn_SA A) ∧ x = nI k) {σ : tn_M} (h : M0 A σ) : tq (f_X5_restOf x σ) (fun r σ' => r = tn_rs A x ∧ M0 A σ') := by
  have hn := (tV_A A).1
  unfold f_X5_restOf
  refine tq_bd (m_tries hA h) (fun _ σ1 q => tq_bd (m_runsDown (tVe_A hA) q) (fun r σ2 ⟨q1, q2, q3⟩ => ?_))
  change r = tn_I (tn_g0 A).2.2 at q1
  change _ = nI (tn_g0 A).2.1 at q3
  unfold tn_rs
  rw [q1]
  cases hb : (tn_g0 A).2.2 with
  | false => exact tq_some ⟨rfl, q2.2⟩
  | true =>
    rw [if_neg (by decide), if_pos rfl]
    rcases hx with rfl | ⟨k, hk, rfl⟩
    · rw [if_pos rfl, if_pos rfl, q3]; exact tq_some ⟨rfl, q2.2⟩
    · rw [if_neg (tn_m1ne (by omega)), if_neg (tn_m1ne (by omega)), tn_ckn (by omega) (by decide), tn_xn (by omega), q2.1.un (by omega)]
      exact tq_some ⟨rfl, q2.2⟩
theorem k_rest (hA : tW A) {x : Int32} (hx : x = -1 ∨ ∃ k, k < sn (tn_SA A) ∧ x = nI k) {σ : tn_M} (h : CI A σ) : tq (f_X4_rest x σ) (fun r σ' => r = tn_rs A x ∧ CI A σ') := by
  have hn := (tV_A A).1
  unfold f_X4_rest
  rcases hx with rfl | ⟨k, hk, rfl⟩
  · rw [if_pos rfl]; exact k_rest16 hA (Or.inl rfl) h
  · rw [if_neg (tn_m1ne (by omega)), s_noShop h.2.2.1, tn_bds, if_pos (by rw [if_pos (by rw [tn_t (by omega)]; omega)])]
    exact k_rest16 hA (Or.inr ⟨k, hk, rfl⟩) h
theorem c_rest (hA : tW A) (x : Int32) : tn_P A A (f_X4_rest x) (f_X5_rest x) := by
  have hn := (tV_A A).1
  by_cases c1 : x = -1
  · refine ⟨tn_rs A x, fun σ h => k_rest hA (Or.inl c1) h, fun σ h => ?_⟩
    unfold f_X5_rest
    rw [if_pos c1]
    exact tq_bd (m_restOf hA (Or.inl c1) h) (fun r σ2 q => tq_some q)
  · rcases shop_cases A x with c | ⟨k, hk, rfl, c⟩
    · refine ⟨-2, fun σ h => ?_, fun σ h => ?_⟩
      · unfold f_X4_rest
        rw [if_neg c1, s_noShop h.2.2.1, tn_bds, if_neg c, if_neg (by decide)]
        exact tq_some ⟨rfl, h⟩
      · unfold f_X5_rest
        rw [if_neg c1]
        refine tq_bd (s_isShop hA h x) (fun r σ1 ⟨q1, _, q3⟩ => ?_)
        rw [q1, if_neg c, if_pos rfl]
        exact tq_some ⟨rfl, q3⟩
    · refine ⟨tn_rs A (nI k), fun σ h => k_rest hA (Or.inr ⟨k, hk, rfl⟩) h, fun σ h => ?_⟩
      unfold f_X5_rest
      rw [if_neg c1]
      refine tq_bd (s_isShop hA h _) (fun r σ1 ⟨q1, _, q3⟩ => ?_)
      rw [q1, if_pos c, if_neg (by decide)]
      exact tq_bd (m_restOf hA (Or.inr ⟨k, hk, rfl⟩) q3) (fun r σ2 q => tq_some q)
end CA

/-! the call: back -/
section CZ
variable {A : tA} {e : tEc} {hb u lim : Nat → Nat} {σ : tn_M}
theorem zr_I (b : Bool) (σ : tn_M) : tn_zr (if b then (1 : Int32) else 0) σ = some (tn_I b, σ) := by
  cases b <;> rfl
theorem k_early (hV : tVe e) (h : kC A e hb u (tn_lm e 3) (-1) σ) : tq (f_X0_earlyIsStill σ) (fun r σ' => r = tn_I (tn_stl e hb (tn_pf (sn (eS e)) 0 u)) ∧ kC A e hb u (tn_lm e 3) (-1) σ') := by
  unfold f_X0_earlyIsStill
  refine tq_bd (k_remember hV h) (fun _ σ1 ⟨q1, q2⟩ => tq_bd (tq_fr (fr_X0_openTillNine _ _) (k_openTill hV (M := 0) (by omega) q1)) (fun _ σ2 ⟨q3, f2⟩ => tq_bd (tq_fr (fr_X0_firstGainer _) (k_firstGainer hV q3)) (fun r σ3 ⟨⟨q4, q5⟩, f3⟩ => tq_lt ?_)))
  refine tq_bd (k_recall hV (v := u) (fun k hk => h.1.u3 hk) (fun j hj => ?_) (fun j hj => by rw [f3.i 23 j (by rfl), f2.i 23 j (by rfl)]; exact q2 j hj) q5) (fun _ σ4 q6 => ?_)
  · unfold tn_ot
    rw [if_neg (by omega)]
  · rw [ot_0] at q4
    have es := stl_m1 e hb (tn_pf (sn (eS e)) 0 u) hV.1.1
    have e1 : (if r = -1 then (1 : Int32) else 0) = if tn_stl e hb (tn_pf (sn (eS e)) 0 u) then 1 else 0 := by
      rw [q4]
      by_cases c : tn_stl e hb (tn_pf (sn (eS e)) 0 u) = true
      · rw [if_pos (es.mpr c), if_pos c]
      · rw [if_neg (fun w => c (es.mp w)), if_neg c]
    rw [e1, zr_I]
    exact tq_some ⟨rfl, q6⟩
theorem m_noWay (hV : tVe e) (h : kM A e hb u 3 (-1) σ) : tq (f_X5_isNoWayBack σ) (fun r σ' => r = tn_I (!tn_stl e hb (tn_pf (sn (eS e)) 0 u)) ∧ kM A e hb u 3 (-1) σ') := by
  unfold f_X5_isNoWayBack
  refine m_keep2 (F := F_X5_isNoWayBack_2) (G := F_X5_isNoWayBack_25) (fun n x σ => by rw [F_X5_isNoWayBack_2]) (fun τ q hk => ?_) 5 tn_fuel 0 σ (by omega) (by unfold tn_fuel; omega) h (fun j hj => absurd hj (Nat.not_lt_zero j))
  unfold F_X5_isNoWayBack_25
  refine tq_bd (tq_fr (fr_X5_lays _ _) (m_lays hV q (c := 0) (by omega))) (fun _ τ1 ⟨q1, f1⟩ => tq_bd (tq_fr (fr_X5_isStill _) (m_isStill hV q1)) (fun r τ2 ⟨⟨q2, q3⟩, f2⟩ => ?_))
  refine m_back2 (v := u) (fun j hj => h.1.u3 hj) (fun n x σ => F_X5_isNoWayBack_37 n r x σ) (fun σ => F_X5_isNoWayBack_60 r σ) (fun n x σ => by rw [F_X5_isNoWayBack_37]) (fun τ q => ?_) 5 tn_fuel 0 _ τ2 (by omega) (by unfold tn_fuel; omega) q3 (fun j hj => by rw [f2.i 48 j (by rfl), f1.i 48 j (by rfl)]; exact hk j hj) (fun j hj => absurd hj (Nat.not_lt_zero j))
  show tq (F_X5_isNoWayBack_60 r τ) _
  unfold F_X5_isNoWayBack_60
  rw [q2]
  refine tq_lt ?_
  have : tn_zr (if tn_I (tn_stl e hb (tn_pf (sn (eS e)) 0 u)) = 0 then (1 : Int32) else 0) τ = some (tn_I (!tn_stl e hb (tn_pf (sn (eS e)) 0 u)), τ) := by
    cases tn_stl e hb (tn_pf (sn (eS e)) 0 u) <;> rfl
  rw [this]
  exact tq_some ⟨rfl, q⟩
def tn_bk (e : tEc) : Nat → Nat → (Nat → Nat) × (Nat → Nat) → Int32
  | 0, _, _ => -1
  | d + 1, c, p => if tn_stl e p.1 (tn_pf (sn (eS e)) 0 p.2) then tn_bk e d (c + 1) (tn_wh e p.1 p.2, tn_wu e p.1 p.2) else nI c
theorem k_back (hA : tW A) (h : CI A σ) : tq (f_X4_back σ) (fun r σ' => r = tn_bk (tn_eA A) 51 0 (tn_hA A, aH A) ∧ CI A σ') := by
  have hV := tVe_A hA
  have lp : ∀ d n c (p : (Nat → Nat) × (Nat → Nat)) (τ : tn_M), c + d = 51 → d < n → kC A (tn_eA A) p.1 p.2 (tn_lm (tn_eA A) 3) (-1) τ → tq (F_X4_back_7 n (nI c) τ) (fun r σ' => r = tn_bk (tn_eA A) d c p ∧ CI A σ') := by
    intro d
    induction d with
    | zero =>
      intro n c p τ h1 h2 q
      obtain ⟨m, rfl⟩ : ∃ m, n = m + 1 := ⟨n - 1, by omega⟩
      have : c = 51 := by omega
      subst this
      rw [F_X4_back_7, if_pos (by decide)]
      exact tq_some ⟨rfl, q.2⟩
    | succ d ih =>
      intro n c p τ h1 h2 q
      obtain ⟨m, rfl⟩ : ∃ m, n = m + 1 := ⟨n - 1, by omega⟩
      rw [F_X4_back_7, tn_L 50, if_neg (nI_nlt (by omega) (by omega)), nI_1]
      refine tq_bd (k_early hV q) (fun r τ1 ⟨q1, q2⟩ => ?_)
      rw [q1]
      unfold tn_bk
      cases hs : tn_stl (tn_eA A) p.1 (tn_pf (sn (eS (tn_eA A))) 0 p.2) with
      | false =>
        rw [if_pos (by decide), if_neg (by decide)]
        exact tq_some ⟨rfl, q2.2⟩
      | true =>
        rw [if_neg (by decide), if_pos rfl]
        exact tq_bd (k_passWeek hV q2) (fun _ τ2 q3 => ih m (c + 1) (_, _) τ2 (by omega) (by omega) q3)
  unfold f_X4_back
  exact tq_bd (k_scene hA h) (fun _ σ1 q => lp 51 tn_fuel 0 (_, _) σ1 (by omega) (by unfold tn_fuel; omega) q)
theorem m_back (hA : tW A) (h : M0 A σ) : tq (f_X5_backNow σ) (fun r σ' => r = tn_bk (tn_eA A) 51 0 (tn_hA A, aH A) ∧ M0 A σ') := by
  have hV := tVe_A hA
  have lp : ∀ d n c (p : (Nat → Nat) × (Nat → Nat)) (τ : tn_M), c + d = 51 → d < n → kM A (tn_eA A) p.1 p.2 3 (-1) τ → tq (F_X5_backNow_6 n (nI c) τ) (fun r σ' => r = tn_bk (tn_eA A) d c p ∧ M0 A σ') := by
    intro d
    induction d with
    | zero =>
      intro n c p τ h1 h2 q
      obtain ⟨m, rfl⟩ : ∃ m, n = m + 1 := ⟨n - 1, by omega⟩
      have : c = 51 := by omega
      subst this
      rw [F_X5_backNow_6, if_pos (by decide)]
      exact tq_some ⟨rfl, q.2⟩
    | succ d ih =>
      intro n c p τ h1 h2 q
      obtain ⟨m, rfl⟩ : ∃ m, n = m + 1 := ⟨n - 1, by omega⟩
      rw [F_X5_backNow_6, tn_L 50, if_neg (nI_nlt (by omega) (by omega)), nI_1]
      refine tq_bd (m_noWay hV q) (fun r τ1 ⟨q1, q2⟩ => ?_)
      rw [q1]
      unfold tn_bk
      cases hs : tn_stl (tn_eA A) p.1 (tn_pf (sn (eS (tn_eA A))) 0 p.2) with
      | false =>
        rw [if_neg (by decide), if_neg (by decide)]
        exact tq_some ⟨rfl, q2.2⟩
      | true =>
        rw [if_pos (by decide), if_pos rfl]
        exact tq_bd (m_weekGoes hV q2) (fun _ τ2 q3 => ih m (c + 1) (_, _) τ2 (by omega) (by omega) q3)
  unfold f_X5_backNow
  exact tq_bd (m_tries hA h) (fun _ σ1 q => lp 51 tn_fuel 0 (_, _) σ1 (by omega) (by unfold tn_fuel; omega) q)
theorem c_back (hA : tW A) : tn_P A A f_X4_back f_X5_back := ⟨_, fun _ h => k_back hA h, fun σ h => by
  unfold f_X5_back
  exact tq_bd (m_back hA h) (fun r σ1 q => tq_some q)⟩
end CZ

section CE
variable {A : tA} {e : tEc} {hb u lim : Nat → Nat} {held : Int32} {σ : tn_M}
def tn_wk (A : tA) (k : Nat) : Nat → Nat → Int64 → Int64
  | 0, _, x => x
  | d + 1, t, x => tn_wk A k d (t + 1) (x + tn_ea (tn_eA A) (tn_hA A) (tn_tu A t) k)
theorem k_wk (hA : tW A) {k w : Nat} (hk : k < sn (tn_SA A)) : ∀ d n t z (v : Nat → Nat) (τ : tn_M), t + d = 6 → d < n → (∀ M, tn_ot (sn (tn_SA A)) M v = tn_ot (sn (tn_SA A)) M (aH A)) → kC A (tn_eA A) (tn_hA A) v (tn_lm (tn_eA A) 3) (-1) τ → tq (F_X4_week_32 n (nI k) (nI w) z (nI t) τ) (fun r σ' => r = tn_frc (tn_wk A k d t z) (nI w) ∧ CI A σ') := by
  have hV := tVe_A hA
  have hn := (tV_A A).1
  intro d
  induction d with
  | zero =>
    intro n t z v τ h1 h2 hv q
    obtain ⟨m, rfl⟩ : ∃ m, n = m + 1 := ⟨n - 1, by omega⟩
    have : t = 6 := by omega
    subst this
    unfold tn_wk
    rw [F_X4_week_32, if_pos (by decide)]
    unfold F_X4_week_66
    rw [(s_frc _ _ _).1, tn_bds]
    exact tq_some ⟨rfl, q.2⟩
  | succ d ih =>
    intro n t z v τ h1 h2 hv q
    obtain ⟨m, rfl⟩ : ∃ m, n = m + 1 := ⟨n - 1, by omega⟩
    have hU := hA.2.2.2.1 t (by omega)
    unfold tn_wk
    rw [F_X4_week_32, tn_L 6, if_neg (nI_ge (by omega) (by omega)), tn_ckn (by omega) (by decide), tn_xn (by omega), q.2.1.2.2.2.2.1 t (by omega), nI_1]
    refine tq_bd (k_openTill hV (M := aU A t) (by omega) q) (fun _ τ1 q1 => ?_)
    have e1 : tn_ot (sn (eS (tn_eA A))) (aU A t) v = tn_tu A t := hv (aU A t)
    rw [e1] at q1
    rw [s_earning hV q1.1 hk, tn_bds]
    exact ih m (t + 1) _ _ τ1 (by omega) (by omega) (fun M => by unfold tn_tu; exact ot_ot _ _ _ _) q1
end CE

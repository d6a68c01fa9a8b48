section CC
variable {A : tA} {e : tEc} {hb u lim : Nat → Nat} {held : Int32} {σ : tn_M}
theorem m_cap25 (hA : tW A) (x : Int32) {Q : Int64 → tn_M → Prop} : ∀ d n L b (τ : tn_M), L + d = 4 → d < n → (∀ M, b = some M → M ≤ 3) → M0 A τ → (∀ τ', M0 A τ' → tq (F_X5_bestCap_88 x (tn_lki (tn_cq A d L b)) (tn_cv A (tn_cq A d L b)) τ') Q) → tq (F_X5_bestCap_25 n x (tn_lki b) (tn_cv A b) (nI L) τ) Q := by
  intro d
  induction d with
  | zero =>
    intro n L b τ h1 h2 hb q hQ
    obtain ⟨m, rfl⟩ : ∃ m, n = m + 1 := ⟨n - 1, by omega⟩
    have : L = 4 := by omega
    subst this
    rw [F_X5_bestCap_25, if_pos (by decide)]
    exact hQ τ q
  | succ d ih =>
    intro n L b τ h1 h2 hb q hQ
    obtain ⟨m, rfl⟩ : ∃ m, n = m + 1 := ⟨n - 1, by omega⟩
    have hs : ∀ M, some L = some M → M ≤ 3 := fun M q => by have := Option.some.inj q; omega
    rw [F_X5_bestCap_25, tn_L 4, if_neg (nI_ge (by omega) (by omega))]
    refine tq_bd (m_tries hA q) (fun _ τ1 q1 => tq_lt (tq_lt ?_))
    have k0 : kM A (tn_e0 A) (tn_hA A) (aH A) L (-1) (tn_si (tn_si τ1 5 18 0) 5 19 (nI L)) := ⟨mTr_g (by omega) q1.1, M0_sub (S := [(5, 18), (5, 19)]) q1.2 (tn_fr.si (by rfl) (tn_fr.si (by rfl) tn_fr.rf)) (by decide)⟩
    refine tq_bd (m_lays (tVe_0 hA) k0 (c := 0) (by omega)) (fun _ τ2 q2 => tq_bd (m_runsDown (tVe_0 hA) q2) (fun r τ3 ⟨q3, q4, _⟩ => ?_))
    change r = tn_I (tn_gc A L).2.2 at q3
    change kM A (tn_e0 A) (tn_hA A) (tn_gc A L).1 L (-1) τ3 at q4
    rw [q3, nI_1]
    unfold tn_cq at hQ
    cases hr : (tn_gc A L).2.2 with
    | false =>
      rw [if_pos (by decide)]
      rw [hr] at hQ
      simp only [Bool.false_eq_true, if_false] at hQ
      exact ih m (L + 1) b τ3 (by omega) (by omega) hb q4.2 hQ
    | true =>
      rw [if_neg (by decide)]
      rw [hr] at hQ
      simp only [if_true] at hQ
      refine tq_bd (m_together (tVe_0 hA) q4) (fun r4 τ4 ⟨q5, _, q6⟩ => ?_)
      rw [q5]
      unfold F_X5_bestCap_76
      cases b with
      | none =>
        rw [if_pos (show tn_lki none = -1 from rfl)]
        have := ih m (L + 1) (some L) τ4 (by omega) (by omega) hs q6.2 hQ
        rw [nI_1]
        exact this
      | some M =>
        have hM := hb M rfl
        rw [if_neg (show ¬ tn_lki (some M) = -1 from tn_m1ne (by omega))]
        by_cases c : tn_to (tn_e0 A) (tn_hA A) (tn_gc A L).1 ≤ tn_to (tn_e0 A) (tn_hA A) (tn_gc A M).1
        · rw [if_pos (show _ ≤ tn_cv A (some M) from c)]
          simp only [if_pos c] at hQ
          exact ih m (L + 1) (some M) τ4 (by omega) (by omega) hb q6.2 hQ
        · rw [if_neg (show ¬ _ ≤ tn_cv A (some M) from c)]
          simp only [if_neg c] at hQ
          have := ih m (L + 1) (some L) τ4 (by omega) (by omega) hs q6.2 hQ
          rw [nI_1]
          exact this
end CC

section CC
variable {A : tA} {e : tEc} {hb u lim : Nat → Nat} {held : Int32} {σ : tn_M}
theorem cq_ok (A : tA) : ∀ d L b, (∀ M, b = some M → (tn_gc A M).2.2 = true) → ∀ M, tn_cq A d L b = some M → (tn_gc A M).2.2 = true := by
  intro d
  induction d with
  | zero => intro L b h2 M h; exact h2 M h
  | succ d ih =>
    intro L b h2 M h
    unfold tn_cq at h
    split at h
    · next hc =>
      have hs : ∀ M, some L = some M → (tn_gc A M).2.2 = true := fun M q => by have := Option.some.inj q; rw [← this]; exact hc
      split at h
      · exact ih _ _ hs M h
      · split at h
        · exact ih _ _ h2 M h
        · exact ih _ _ hs M h
    · exact ih _ _ h2 M h
theorem c_bestCap (hA : tW A) (x : Int32) : tn_P A A (f_X4_bestCap x) (f_X5_bestCap x) := by
  have t0 : (0 : Int32).toInt = 0 := rfl
  have t2 : (2 : Int32).toInt = 2 := rfl
  have hnone : ∀ M, (none : Option Nat) = some M → M ≤ 3 := fun M q => by cases q
  by_cases c : 0 ≤ x.toInt ∧ x.toInt ≤ 2
  · have n1 : ¬ x < 0 := by rw [tn_lt32]; omega
    have n2 : x ≤ 2 := by rw [tn_le32]; omega
    have hl := cq_lt A 4 0 none (by omega) hnone
    have hk := cq_ok A 4 0 none (fun M q => by cases q)
    refine ⟨if x = 2 then Int32.toInt64 (tn_lki (tn_cq A 4 0 none)) else if tn_lki (tn_cq A 4 0 none) = -1 then -9223372036854775808 - Int32.toInt64 (-3) else tn_frc (tn_cv A (tn_cq A 4 0 none)) x, fun σ h => ?_, fun σ h => ?_⟩
    · unfold f_X4_bestCap f_X4_bestCapNow
      rw [if_neg n1, if_pos n2]
      refine tq_bd (k_cap7 hA 4 tn_fuel 0 none σ (by omega) (by unfold tn_fuel; omega) hnone h) (fun r σ1 ⟨q1, q2⟩ => ?_)
      rw [q1]
      by_cases d : x = 2
      · rw [if_pos d, if_pos d]; exact tq_some ⟨rfl, q2⟩
      · rw [if_neg d, if_neg d]
        cases hq : tn_cq A 4 0 none with
        | none => rw [if_pos (show tn_lki none = -1 from rfl), if_pos (show tn_lki none = -1 from rfl)]; exact tq_some ⟨rfl, q2⟩
        | some M =>
          have hM := hl M hq
          rw [if_neg (show ¬ tn_lki (some M) = -1 from tn_m1ne (by omega)), if_neg (show ¬ tn_lki (some M) = -1 from tn_m1ne (by omega))]
          refine tq_bd (k_restsUnder hA hM q2) (fun r σ2 ⟨q3, q4⟩ => ?_)
          rw [q3, hk M hq, if_neg (by decide), s_together (tVe_0 hA) q4.1, tn_bds, (s_frc _ _ _).1, tn_bds]
          exact tq_some ⟨rfl, q4.2⟩
    · unfold f_X5_bestCap
      rw [tn_inI x _ _ σ (a := 0) (b := 2) rfl rfl, tn_bds, if_neg (by rw [if_pos c]; decide)]
      refine m_cap25 hA x 4 tn_fuel 0 none σ (by omega) (by unfold tn_fuel; omega) hnone h (fun τ q => ?_)
      unfold F_X5_bestCap_88
      by_cases d : x = 2
      · rw [if_pos d, if_pos d]; exact tq_some ⟨rfl, q⟩
      · rw [if_neg d, if_neg d]
        by_cases e1 : tn_lki (tn_cq A 4 0 none) = -1
        · rw [if_pos e1, if_pos e1]; exact tq_some ⟨rfl, q⟩
        · rw [if_neg e1, if_neg e1, (s_frc _ _ _).2, tn_bds]; exact tq_some ⟨rfl, q⟩
  · refine ⟨-9223372036854775808 - Int32.toInt64 (-2), fun σ h => ?_, fun σ h => ?_⟩
    · unfold f_X4_bestCap
      by_cases d : x < 0
      · rw [if_pos d]; exact tq_some ⟨rfl, h⟩
      · rw [if_neg d, if_neg (by rw [tn_lt32] at d; rw [tn_le32]; omega)]; exact tq_some ⟨rfl, h⟩
    · unfold f_X5_bestCap
      rw [tn_inI x _ _ σ (a := 0) (b := 2) rfl rfl, tn_bds, if_pos (by rw [if_neg c])]
      exact tq_some ⟨rfl, h⟩
end CC

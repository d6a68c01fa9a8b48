section CC
variable {A : tA} {e : tEc} {hb u lim : Nat → Nat} {held : Int32} {σ : tn_M}
/-- the run under a cap -/
def tn_gc (A : tA) (L : Nat) : (Nat → Nat) × Nat × Bool := tn_go40 (tn_e0 A) (tn_hA A) (tn_lm (tn_e0 A) L) (-1) (tn_pf (sn (tn_SA A)) 0 (aH A))
theorem k_restsUnder (hA : tW A) {L : Nat} (hL : L ≤ 3) (h : CI A σ) : tq (f_X4_restsUnder (nI L) σ) (fun r σ' => r = tn_I (tn_gc A L).2.2 ∧ kC A (tn_e0 A) (tn_hA A) (tn_gc A L).1 (tn_lm (tn_e0 A) L) (-1) σ') := by
  unfold f_X4_restsUnder
  refine tq_bd (k_scene hA h) (fun _ σ1 q => tq_lt ?_)
  refine tq_bd (k_openTill (tVe_0 hA) (M := 0) (by omega) (k_fine0 q)) (fun _ σ2 q2 => tq_bd (k_limitBound (tVe_0 hA) hL q2) (fun _ σ3 q3 => ?_))
  rw [ot_0] at q3
  refine tq_bd (k_runDown (tVe_0 hA) q3) (fun r σ4 ⟨q4, q5, _⟩ => ?_)
  change r = tn_I (tn_gc A L).2.2 at q4
  rw [q4]
  have : tn_zr (tn_I (tn_gc A L).2.2) σ4 = some (tn_I (tn_gc A L).2.2, σ4) := by
    unfold tn_zr tn_I
    cases (tn_gc A L).2.2 <;> rfl
  rw [this]
  exact tq_some ⟨rfl, q5⟩
/-- the best cap: −1 or the cap, as long as L stands -/
def tn_cq (A : tA) : Nat → Nat → Option Nat → Option Nat
  | 0, _, b => b
  | d + 1, L, b => if (tn_gc A L).2.2 then (match b with
      | none => tn_cq A d (L + 1) (some L)
      | some M => if tn_to (tn_e0 A) (tn_hA A) (tn_gc A L).1 ≤ tn_to (tn_e0 A) (tn_hA A) (tn_gc A M).1 then tn_cq A d (L + 1) b else tn_cq A d (L + 1) (some L)) else tn_cq A d (L + 1) b
theorem cq_lt (A : tA) : ∀ d L b, L + d ≤ 4 → (∀ M, b = some M → M ≤ 3) → ∀ M, tn_cq A d L b = some M → M ≤ 3 := by
  intro d
  induction d with
  | zero => intro L b h1 h2 M h; exact h2 M h
  | succ d ih =>
    intro L b h1 h2 M h
    have hs : ∀ M, some L = some M → M ≤ 3 := fun M q => by have := Option.some.inj q; omega
    unfold tn_cq at h
    split at h
    · split at h
      · exact ih _ _ (by omega) hs M h
      · split at h
        · exact ih _ _ (by omega) h2 M h
        · exact ih _ _ (by omega) hs M h
    · exact ih _ _ (by omega) h2 M h
def tn_cv (A : tA) (b : Option Nat) : Int64 := match b with
  | none => 0
  | some M => tn_to (tn_e0 A) (tn_hA A) (tn_gc A M).1
theorem k_cap7 (hA : tW A) : ∀ d n L b (τ : tn_M), L + d = 4 → d < n → (∀ M, b = some M → M ≤ 3) → CI A τ → tq (F_X4_bestCapNow_7 n (tn_lki b) (tn_cv A b) (nI L) τ) (fun r σ' => r = tn_lki (tn_cq A d L b) ∧ CI A σ') := by
  intro d
  induction d with
  | zero =>
    intro n L b τ h1 h2 hb q
    obtain ⟨m, rfl⟩ : ∃ m, n = m + 1 := ⟨n - 1, by omega⟩
    have : L = 4 := by omega
    subst this
    rw [F_X4_bestCapNow_7, if_pos (by decide)]
    exact tq_some ⟨rfl, q⟩
  | succ d ih =>
    intro n L b τ h1 h2 hb q
    obtain ⟨m, rfl⟩ : ∃ m, n = m + 1 := ⟨n - 1, by omega⟩
    have hs : ∀ M, some L = some M → M ≤ 3 := fun M q => by have := Option.some.inj q; omega
    rw [F_X4_bestCapNow_7, tn_L 3, if_neg (nI_nlt (by omega) (by omega))]
    refine tq_bd (k_restsUnder hA (L := L) (by omega) q) (fun r τ1 ⟨q1, q2⟩ => ?_)
    rw [q1, nI_1]
    unfold tn_cq
    cases hr : (tn_gc A L).2.2 with
    | false =>
      rw [if_pos (by decide), if_neg (by decide)]
      exact ih m (L + 1) b τ1 (by omega) (by omega) hb q2.2
    | true =>
      rw [if_neg (by decide), if_pos rfl, s_together (tVe_0 hA) q2.1, tn_bds]
      unfold F_X4_bestCapNow_43
      cases b with
      | none =>
        rw [if_pos (show tn_lki none = -1 from rfl)]
        have := ih m (L + 1) (some L) τ1 (by omega) (by omega) hs q2.2
        rw [nI_1]
        exact this
      | some M =>
        have hM := hb M rfl
        rw [if_neg (show ¬ tn_lki (some M) = -1 from tn_m1ne (by omega))]
        by_cases c : tn_to (tn_e0 A) (tn_hA A) (tn_gc A L).1 ≤ tn_to (tn_e0 A) (tn_hA A) (tn_gc A M).1
        · rw [if_pos (show _ ≤ tn_cv A (some M) from c)]
          simp only [if_pos c]
          exact ih m (L + 1) (some M) τ1 (by omega) (by omega) hb q2.2
        · rw [if_neg (show ¬ _ ≤ tn_cv A (some M) from c)]
          simp only [if_neg c]
          have := ih m (L + 1) (some L) τ1 (by omega) (by omega) hs q2.2
          rw [nI_1]
          exact this
end CC

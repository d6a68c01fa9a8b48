/-! the law's loop ends -/
section FA
variable {A A' : tA} {σ σ' : tn_M}
theorem ms_out {S : List (Nat × Nat)} (hS : S.all (fun q => !(q.1 == 5) && decide (q.1 < 33)) = true) {a b : Nat} (h : a = 5 ∨ 33 ≤ a) : tn_ms S a b = false := by
  unfold tn_ms
  rw [List.any_eq_false]
  intro q hq
  have := List.all_eq_true.mp hS q hq
  simp at this ⊢
  intro e
  omega
theorem ms_in {S : List (Nat × Nat)} (hS : S.all (fun q => q.1 == 5 || decide (33 ≤ q.1)) = true) {a b : Nat} (h : a ≠ 5 ∧ a < 33) : tn_ms S a b = false := by
  unfold tn_ms
  rw [List.any_eq_false]
  intro q hq
  have := List.all_eq_true.mp hS q hq
  simp at this ⊢
  intro e
  omega
theorem M0_out {S : List (Nat × Nat)} (hS : S.all (fun q => !(q.1 == 5) && decide (q.1 < 33)) = true) (hf : tn_fr S σ σ') (h : M0 A σ) : M0 A σ' := M0_same h (fun a b hab => hf.i a b (ms_out hS (by omega)))
theorem CI_in {S : List (Nat × Nat)} (hS : S.all (fun q => q.1 == 5 || decide (33 ≤ q.1)) = true) (hf : tn_fr S σ σ') (h : CI A σ) : CI A σ' := by
  obtain ⟨h1, h2, h3, h4⟩ := h
  have hm := (tV_A A).2.1
  refine ⟨C0_same h1 (fun a b hab => hf.i a b (ms_in hS (by omega))), by rw [hf.i 1 7 (ms_in hS (by omega))]; exact h2, cSt_same h3 (fun a b hab => hf.i a b (ms_in hS (by omega))) hm, ?_⟩
  rw [hf.i 2 1 (ms_in hS (by omega))]
  rcases h4 with h4 | ⟨h4, h5⟩
  · exact Or.inl h4
  · refine Or.inr ⟨h4, fun hh B c q1 q2 q3 q4 => ?_⟩
    rw [hf.l 19 _ (ms_in hS (by omega))]
    exact h5 hh B c q1 q2 q3 q4
/-- a call on both sides, alike -/
theorem two_calls {ρ : Type} [DecidableEq ρ] {fc fm : tn_M → Option (ρ × tn_M)} (hP : ∃ A', tW A' ∧ tn_P A A' fc fm) (SC SM : List (Nat × Nat)) (hSC : SC.all (fun q => !(q.1 == 5) && decide (q.1 < 33)) = true) (hSM : SM.all (fun q => q.1 == 5 || decide (33 ≤ q.1)) = true) (hfc : ∀ σ, tf SC σ (fc σ)) (hfm : ∀ σ, tf SM σ (fm σ)) {k : tn_M → Option (Unit × tn_M)} (hk : ∀ A' σ', tW A' → CI A' σ' → M0 A' σ' → tq (k σ') (fun _ _ => True)) (h1 : CI A σ) (h2 : M0 A σ) : tq (tn_bd (fc σ) fun r σ1 => tn_bd (fm σ1) fun r2 σ2 => if r = r2 then k σ2 else none) (fun _ _ => True) := by
  obtain ⟨A', hA', r, p1, p2⟩ := hP
  obtain ⟨x, σ1, e1, rfl, c1⟩ := p1 σ h1
  have m1 := M0_out hSC (hfc σ _ _ e1) h2
  obtain ⟨y, σ2, e2, rfl, m2⟩ := p2 σ1 m1
  have c2 := CI_in hSM (hfm σ1 _ _ e2) c1
  rw [e1, tn_bds, e2, tn_bds, if_pos rfl]
  exact hk A' σ2 hA' c2 m2
end FA
section FB
variable {A : tA} {σ : tn_M} {xs : Nat → Int32} {L : Nat}
theorem w_type (hA : tW A) (h1 : CI A σ) (h2 : M0 A σ) {i : Nat} (ck1 : ∀ r : Option (Unit × tn_M), tn_ck (nI i + 1) L r = r) (c18 : Int32 → tn_M → Option (Unit × tn_M)) (hk : ∀ A' σ', tW A' → CI A' σ' → M0 A' σ' → tq (c18 (nI i + 6) σ') (fun _ _ => True)) : tq (F_L_law_180 xs L c18 (nI i) σ) (fun _ _ => True) := by
  unfold F_L_law_180
  simp only [ck1]
  exact two_calls (c_type hA (xs (tn_x (nI i + 1)))) _ _ (by decide) (by decide) (fun σ => fr_X4_type (xs (tn_x (nI i + 1))) σ) (fun σ => fr_X5_type (xs (tn_x (nI i + 1))) σ) hk h1 h2
theorem w_wipe (hA : tW A) (h1 : CI A σ) (h2 : M0 A σ) {i : Nat} (c18 : Int32 → tn_M → Option (Unit × tn_M)) (hk : ∀ A' σ', tW A' → CI A' σ' → M0 A' σ' → tq (c18 (nI i + 6) σ') (fun _ _ => True)) : tq (F_L_law_203 xs L c18 (nI i) σ) (fun _ _ => True) := by
  unfold F_L_law_203
  exact two_calls (c_wipe hA) _ _ (by decide) (by decide) (fun σ => fr_X4_wipe σ) (fun σ => fr_X5_wipe σ) hk h1 h2
theorem w_fault (hA : tW A) (h1 : CI A σ) (h2 : M0 A σ) {i : Nat} (c18 : Int32 → tn_M → Option (Unit × tn_M)) (hk : ∀ A' σ', tW A' → CI A' σ' → M0 A' σ' → tq (c18 (nI i + 6) σ') (fun _ _ => True)) : tq (F_L_law_216 xs L c18 (nI i) σ) (fun _ _ => True) := by
  unfold F_L_law_216
  exact two_calls ⟨A, hA, c_fault hA⟩ _ _ (by decide) (by decide) (fun σ => fr_X4_fault σ) (fun σ => fr_X5_fault σ) hk h1 h2
theorem w_shop (hA : tW A) (h1 : CI A σ) (h2 : M0 A σ) {i : Nat} (ck1 : ∀ r : Option (Unit × tn_M), tn_ck (nI i + 1) L r = r) (ck2 : ∀ r : Option (Unit × tn_M), tn_ck (nI i + 2) L r = r) (c18 : Int32 → tn_M → Option (Unit × tn_M)) (hk : ∀ A' σ', tW A' → CI A' σ' → M0 A' σ' → tq (c18 (nI i + 6) σ') (fun _ _ => True)) : tq (F_L_law_229 xs L c18 (nI i) σ) (fun _ _ => True) := by
  unfold F_L_law_229
  simp only [ck1, ck2]
  exact two_calls ⟨A, hA, c_shop hA (xs (tn_x (nI i + 1))) (xs (tn_x (nI i + 2)))⟩ _ _ (by decide) (by decide) (fun σ => fr_X4_shop (xs (tn_x (nI i + 1))) (xs (tn_x (nI i + 2))) σ) (fun σ => fr_X5_shop (xs (tn_x (nI i + 1))) (xs (tn_x (nI i + 2))) σ) hk h1 h2
theorem w_sort (hA : tW A) (h1 : CI A σ) (h2 : M0 A σ) {i : Nat} (ck1 : ∀ r : Option (Unit × tn_M), tn_ck (nI i + 1) L r = r) (ck2 : ∀ r : Option (Unit × tn_M), tn_ck (nI i + 2) L r = r) (c18 : Int32 → tn_M → Option (Unit × tn_M)) (hk : ∀ A' σ', tW A' → CI A' σ' → M0 A' σ' → tq (c18 (nI i + 6) σ') (fun _ _ => True)) : tq (F_L_law_262 xs L c18 (nI i) σ) (fun _ _ => True) := by
  unfold F_L_law_262
  simp only [ck1, ck2]
  exact two_calls ⟨A, hA, c_sort hA (xs (tn_x (nI i + 1))) (xs (tn_x (nI i + 2)))⟩ _ _ (by decide) (by decide) (fun σ => fr_X4_sort (xs (tn_x (nI i + 1))) (xs (tn_x (nI i + 2))) σ) (fun σ => fr_X5_sort (xs (tn_x (nI i + 1))) (xs (tn_x (nI i + 2))) σ) hk h1 h2
theorem w_set (hA : tW A) (h1 : CI A σ) (h2 : M0 A σ) {i : Nat} (ck1 : ∀ r : Option (Unit × tn_M), tn_ck (nI i + 1) L r = r) (ck2 : ∀ r : Option (Unit × tn_M), tn_ck (nI i + 2) L r = r) (c18 : Int32 → tn_M → Option (Unit × tn_M)) (hk : ∀ A' σ', tW A' → CI A' σ' → M0 A' σ' → tq (c18 (nI i + 6) σ') (fun _ _ => True)) : tq (F_L_law_295 xs L c18 (nI i) σ) (fun _ _ => True) := by
  unfold F_L_law_295
  simp only [ck1, ck2]
  exact two_calls (c_set hA (xs (tn_x (nI i + 1))) (xs (tn_x (nI i + 2)))) _ _ (by decide) (by decide) (fun σ => fr_X4_set (xs (tn_x (nI i + 1))) (xs (tn_x (nI i + 2))) σ) (fun σ => fr_X5_set (xs (tn_x (nI i + 1))) (xs (tn_x (nI i + 2))) σ) hk h1 h2
theorem w_hours (hA : tW A) (h1 : CI A σ) (h2 : M0 A σ) {i : Nat} (ck1 : ∀ r : Option (Unit × tn_M), tn_ck (nI i + 1) L r = r) (ck2 : ∀ r : Option (Unit × tn_M), tn_ck (nI i + 2) L r = r) (c18 : Int32 → tn_M → Option (Unit × tn_M)) (hk : ∀ A' σ', tW A' → CI A' σ' → M0 A' σ' → tq (c18 (nI i + 6) σ') (fun _ _ => True)) : tq (F_L_law_328 xs L c18 (nI i) σ) (fun _ _ => True) := by
  unfold F_L_law_328
  simp only [ck1, ck2]
  exact two_calls (c_hours hA (xs (tn_x (nI i + 1))) (xs (tn_x (nI i + 2)))) _ _ (by decide) (by decide) (fun σ => fr_X4_hours (xs (tn_x (nI i + 1))) (xs (tn_x (nI i + 2))) σ) (fun σ => fr_X5_hours (xs (tn_x (nI i + 1))) (xs (tn_x (nI i + 2))) σ) hk h1 h2
theorem w_read (hA : tW A) (h1 : CI A σ) (h2 : M0 A σ) {i : Nat} (ck1 : ∀ r : Option (Unit × tn_M), tn_ck (nI i + 1) L r = r) (c18 : Int32 → tn_M → Option (Unit × tn_M)) (hk : ∀ A' σ', tW A' → CI A' σ' → M0 A' σ' → tq (c18 (nI i + 6) σ') (fun _ _ => True)) : tq (F_L_law_361 xs L c18 (nI i) σ) (fun _ _ => True) := by
  unfold F_L_law_361
  simp only [ck1]
  exact two_calls (c_read hA (xs (tn_x (nI i + 1)))) _ _ (by decide) (by decide) (fun σ => fr_X4_read (xs (tn_x (nI i + 1))) σ) (fun σ => fr_X5_read (xs (tn_x (nI i + 1))) σ) hk h1 h2
theorem w_open (hA : tW A) (h1 : CI A σ) (h2 : M0 A σ) {i : Nat} (ck1 : ∀ r : Option (Unit × tn_M), tn_ck (nI i + 1) L r = r) (c18 : Int32 → tn_M → Option (Unit × tn_M)) (hk : ∀ A' σ', tW A' → CI A' σ' → M0 A' σ' → tq (c18 (nI i + 6) σ') (fun _ _ => True)) : tq (F_L_law_384 xs L c18 (nI i) σ) (fun _ _ => True) := by
  unfold F_L_law_384
  simp only [ck1]
  exact two_calls ⟨A, hA, c_open hA (xs (tn_x (nI i + 1)))⟩ _ _ (by decide) (by decide) (fun σ => fr_X4_open (xs (tn_x (nI i + 1))) σ) (fun σ => fr_X5_open (xs (tn_x (nI i + 1))) σ) hk h1 h2
theorem w_earns (hA : tW A) (h1 : CI A σ) (h2 : M0 A σ) {i : Nat} (ck1 : ∀ r : Option (Unit × tn_M), tn_ck (nI i + 1) L r = r) (ck2 : ∀ r : Option (Unit × tn_M), tn_ck (nI i + 2) L r = r) (c18 : Int32 → tn_M → Option (Unit × tn_M)) (hk : ∀ A' σ', tW A' → CI A' σ' → M0 A' σ' → tq (c18 (nI i + 6) σ') (fun _ _ => True)) : tq (F_L_law_407 xs L c18 (nI i) σ) (fun _ _ => True) := by
  unfold F_L_law_407
  simp only [ck1, ck2]
  exact two_calls ⟨A, hA, c_earns hA (xs (tn_x (nI i + 1))) (xs (tn_x (nI i + 2)))⟩ _ _ (by decide) (by decide) (fun σ => fr_X4_earns (xs (tn_x (nI i + 1))) (xs (tn_x (nI i + 2))) σ) (fun σ => fr_X5_earns (xs (tn_x (nI i + 1))) (xs (tn_x (nI i + 2))) σ) hk h1 h2
theorem w_all (hA : tW A) (h1 : CI A σ) (h2 : M0 A σ) {i : Nat} (ck1 : ∀ r : Option (Unit × tn_M), tn_ck (nI i + 1) L r = r) (ck2 : ∀ r : Option (Unit × tn_M), tn_ck (nI i + 2) L r = r) (c18 : Int32 → tn_M → Option (Unit × tn_M)) (hk : ∀ A' σ', tW A' → CI A' σ' → M0 A' σ' → tq (c18 (nI i + 6) σ') (fun _ _ => True)) : tq (F_L_law_441 xs L c18 (nI i) σ) (fun _ _ => True) := by
  unfold F_L_law_441
  simp only [ck1, ck2]
  exact two_calls ⟨A, hA, c_all hA (xs (tn_x (nI i + 1))) (xs (tn_x (nI i + 2)))⟩ _ _ (by decide) (by decide) (fun σ => fr_X4_all (xs (tn_x (nI i + 1))) (xs (tn_x (nI i + 2))) σ) (fun σ => fr_X5_all (xs (tn_x (nI i + 1))) (xs (tn_x (nI i + 2))) σ) hk h1 h2
theorem w_answer (hA : tW A) (h1 : CI A σ) (h2 : M0 A σ) {i : Nat} (ck1 : ∀ r : Option (Unit × tn_M), tn_ck (nI i + 1) L r = r) (c18 : Int32 → tn_M → Option (Unit × tn_M)) (hk : ∀ A' σ', tW A' → CI A' σ' → M0 A' σ' → tq (c18 (nI i + 6) σ') (fun _ _ => True)) : tq (F_L_law_475 xs L c18 (nI i) σ) (fun _ _ => True) := by
  unfold F_L_law_475
  simp only [ck1]
  exact two_calls ⟨A, hA, c_answer hA (xs (tn_x (nI i + 1)))⟩ _ _ (by decide) (by decide) (fun σ => fr_X4_answer (xs (tn_x (nI i + 1))) σ) (fun σ => fr_X5_answer (xs (tn_x (nI i + 1))) σ) hk h1 h2
theorem w_rest (hA : tW A) (h1 : CI A σ) (h2 : M0 A σ) {i : Nat} (ck1 : ∀ r : Option (Unit × tn_M), tn_ck (nI i + 1) L r = r) (c18 : Int32 → tn_M → Option (Unit × tn_M)) (hk : ∀ A' σ', tW A' → CI A' σ' → M0 A' σ' → tq (c18 (nI i + 6) σ') (fun _ _ => True)) : tq (F_L_law_498 xs L c18 (nI i) σ) (fun _ _ => True) := by
  unfold F_L_law_498
  simp only [ck1]
  exact two_calls ⟨A, hA, c_rest hA (xs (tn_x (nI i + 1)))⟩ _ _ (by decide) (by decide) (fun σ => fr_X4_rest (xs (tn_x (nI i + 1))) σ) (fun σ => fr_X5_rest (xs (tn_x (nI i + 1))) σ) hk h1 h2
theorem w_still (hA : tW A) (h1 : CI A σ) (h2 : M0 A σ) {i : Nat} (ck1 : ∀ r : Option (Unit × tn_M), tn_ck (nI i + 1) L r = r) (ck2 : ∀ r : Option (Unit × tn_M), tn_ck (nI i + 2) L r = r) (c18 : Int32 → tn_M → Option (Unit × tn_M)) (hk : ∀ A' σ', tW A' → CI A' σ' → M0 A' σ' → tq (c18 (nI i + 6) σ') (fun _ _ => True)) : tq (F_L_law_521 xs L c18 (nI i) σ) (fun _ _ => True) := by
  unfold F_L_law_521
  simp only [ck1, ck2]
  exact two_calls ⟨A, hA, c_still hA (xs (tn_x (nI i + 1))) (xs (tn_x (nI i + 2)))⟩ _ _ (by decide) (by decide) (fun σ => fr_X4_still (xs (tn_x (nI i + 1))) (xs (tn_x (nI i + 2))) σ) (fun σ => fr_X5_still (xs (tn_x (nI i + 1))) (xs (tn_x (nI i + 2))) σ) hk h1 h2
theorem w_best (hA : tW A) (h1 : CI A σ) (h2 : M0 A σ) {i : Nat} (ck1 : ∀ r : Option (Unit × tn_M), tn_ck (nI i + 1) L r = r) (ck2 : ∀ r : Option (Unit × tn_M), tn_ck (nI i + 2) L r = r) (c18 : Int32 → tn_M → Option (Unit × tn_M)) (hk : ∀ A' σ', tW A' → CI A' σ' → M0 A' σ' → tq (c18 (nI i + 6) σ') (fun _ _ => True)) : tq (F_L_law_554 xs L c18 (nI i) σ) (fun _ _ => True) := by
  unfold F_L_law_554
  simp only [ck1, ck2]
  exact two_calls ⟨A, hA, c_best hA (xs (tn_x (nI i + 1))) (xs (tn_x (nI i + 2)))⟩ _ _ (by decide) (by decide) (fun σ => fr_X4_best (xs (tn_x (nI i + 1))) (xs (tn_x (nI i + 2))) σ) (fun σ => fr_X5_best (xs (tn_x (nI i + 1))) (xs (tn_x (nI i + 2))) σ) hk h1 h2
theorem w_loss (hA : tW A) (h1 : CI A σ) (h2 : M0 A σ) {i : Nat} (ck1 : ∀ r : Option (Unit × tn_M), tn_ck (nI i + 1) L r = r) (c18 : Int32 → tn_M → Option (Unit × tn_M)) (hk : ∀ A' σ', tW A' → CI A' σ' → M0 A' σ' → tq (c18 (nI i + 6) σ') (fun _ _ => True)) : tq (F_L_law_587 xs L c18 (nI i) σ) (fun _ _ => True) := by
  unfold F_L_law_587
  simp only [ck1]
  exact two_calls ⟨A, hA, c_loss hA (xs (tn_x (nI i + 1)))⟩ _ _ (by decide) (by decide) (fun σ => fr_X4_loss (xs (tn_x (nI i + 1))) σ) (fun σ => fr_X5_loss (xs (tn_x (nI i + 1))) σ) hk h1 h2
theorem w_leastFine (hA : tW A) (h1 : CI A σ) (h2 : M0 A σ) {i : Nat} (c18 : Int32 → tn_M → Option (Unit × tn_M)) (hk : ∀ A' σ', tW A' → CI A' σ' → M0 A' σ' → tq (c18 (nI i + 6) σ') (fun _ _ => True)) : tq (F_L_law_611 xs L c18 (nI i) σ) (fun _ _ => True) := by
  unfold F_L_law_611
  exact two_calls ⟨A, hA, c_leastFine hA⟩ _ _ (by decide) (by decide) (fun σ => fr_X4_leastFine σ) (fun σ => fr_X5_leastFine σ) hk h1 h2
theorem w_bestCap (hA : tW A) (h1 : CI A σ) (h2 : M0 A σ) {i : Nat} (ck1 : ∀ r : Option (Unit × tn_M), tn_ck (nI i + 1) L r = r) (c18 : Int32 → tn_M → Option (Unit × tn_M)) (hk : ∀ A' σ', tW A' → CI A' σ' → M0 A' σ' → tq (c18 (nI i + 6) σ') (fun _ _ => True)) : tq (F_L_law_624 xs L c18 (nI i) σ) (fun _ _ => True) := by
  unfold F_L_law_624
  simp only [ck1]
  exact two_calls ⟨A, hA, c_bestCap hA (xs (tn_x (nI i + 1)))⟩ _ _ (by decide) (by decide) (fun σ => fr_X4_bestCap (xs (tn_x (nI i + 1))) σ) (fun σ => fr_X5_bestCap (xs (tn_x (nI i + 1))) σ) hk h1 h2
theorem w_edge (hA : tW A) (h1 : CI A σ) (h2 : M0 A σ) {i : Nat} (ck1 : ∀ r : Option (Unit × tn_M), tn_ck (nI i + 1) L r = r) (c18 : Int32 → tn_M → Option (Unit × tn_M)) (hk : ∀ A' σ', tW A' → CI A' σ' → M0 A' σ' → tq (c18 (nI i + 6) σ') (fun _ _ => True)) : tq (F_L_law_648 xs L c18 (nI i) σ) (fun _ _ => True) := by
  unfold F_L_law_648
  simp only [ck1]
  exact two_calls ⟨A, hA, c_edge hA (xs (tn_x (nI i + 1)))⟩ _ _ (by decide) (by decide) (fun σ => fr_X4_edge (xs (tn_x (nI i + 1))) σ) (fun σ => fr_X5_edge (xs (tn_x (nI i + 1))) σ) hk h1 h2
theorem w_always (hA : tW A) (h1 : CI A σ) (h2 : M0 A σ) {i : Nat} (ck1 : ∀ r : Option (Unit × tn_M), tn_ck (nI i + 1) L r = r) (ck2 : ∀ r : Option (Unit × tn_M), tn_ck (nI i + 2) L r = r) (c18 : Int32 → tn_M → Option (Unit × tn_M)) (hk : ∀ A' σ', tW A' → CI A' σ' → M0 A' σ' → tq (c18 (nI i + 6) σ') (fun _ _ => True)) : tq (F_L_law_671 xs L c18 (nI i) σ) (fun _ _ => True) := by
  unfold F_L_law_671
  simp only [ck1, ck2]
  exact two_calls ⟨A, hA, c_always hA (xs (tn_x (nI i + 1))) (xs (tn_x (nI i + 2)))⟩ _ _ (by decide) (by decide) (fun σ => fr_X4_always (xs (tn_x (nI i + 1))) (xs (tn_x (nI i + 2))) σ) (fun σ => fr_X5_always (xs (tn_x (nI i + 1))) (xs (tn_x (nI i + 2))) σ) hk h1 h2
theorem w_turn (hA : tW A) (h1 : CI A σ) (h2 : M0 A σ) {i : Nat} (ck1 : ∀ r : Option (Unit × tn_M), tn_ck (nI i + 1) L r = r) (ck2 : ∀ r : Option (Unit × tn_M), tn_ck (nI i + 2) L r = r) (c18 : Int32 → tn_M → Option (Unit × tn_M)) (hk : ∀ A' σ', tW A' → CI A' σ' → M0 A' σ' → tq (c18 (nI i + 6) σ') (fun _ _ => True)) : tq (F_L_law_705 xs L c18 (nI i) σ) (fun _ _ => True) := by
  unfold F_L_law_705
  simp only [ck1, ck2]
  exact two_calls (c_turn hA (xs (tn_x (nI i + 1))) (xs (tn_x (nI i + 2)))) _ _ (by decide) (by decide) (fun σ => fr_X4_turn (xs (tn_x (nI i + 1))) (xs (tn_x (nI i + 2))) σ) (fun σ => fr_X5_turn (xs (tn_x (nI i + 1))) (xs (tn_x (nI i + 2))) σ) hk h1 h2
theorem w_keeps (hA : tW A) (h1 : CI A σ) (h2 : M0 A σ) {i : Nat} (ck1 : ∀ r : Option (Unit × tn_M), tn_ck (nI i + 1) L r = r) (c18 : Int32 → tn_M → Option (Unit × tn_M)) (hk : ∀ A' σ', tW A' → CI A' σ' → M0 A' σ' → tq (c18 (nI i + 6) σ') (fun _ _ => True)) : tq (F_L_law_738 xs L c18 (nI i) σ) (fun _ _ => True) := by
  unfold F_L_law_738
  simp only [ck1]
  exact two_calls ⟨A, hA, c_keeps hA (xs (tn_x (nI i + 1)))⟩ _ _ (by decide) (by decide) (fun σ => fr_X4_keeps (xs (tn_x (nI i + 1))) σ) (fun σ => fr_X5_keeps (xs (tn_x (nI i + 1))) σ) hk h1 h2
theorem w_week (hA : tW A) (h1 : CI A σ) (h2 : M0 A σ) {i : Nat} (ck1 : ∀ r : Option (Unit × tn_M), tn_ck (nI i + 1) L r = r) (ck2 : ∀ r : Option (Unit × tn_M), tn_ck (nI i + 2) L r = r) (c18 : Int32 → tn_M → Option (Unit × tn_M)) (hk : ∀ A' σ', tW A' → CI A' σ' → M0 A' σ' → tq (c18 (nI i + 6) σ') (fun _ _ => True)) : tq (F_L_law_761 xs L c18 (nI i) σ) (fun _ _ => True) := by
  unfold F_L_law_761
  simp only [ck1, ck2]
  exact two_calls ⟨A, hA, c_week hA (xs (tn_x (nI i + 1))) (xs (tn_x (nI i + 2)))⟩ _ _ (by decide) (by decide) (fun σ => fr_X4_week (xs (tn_x (nI i + 1))) (xs (tn_x (nI i + 2))) σ) (fun σ => fr_X5_week (xs (tn_x (nI i + 1))) (xs (tn_x (nI i + 2))) σ) hk h1 h2
theorem w_weeks (hA : tW A) (h1 : CI A σ) (h2 : M0 A σ) {i : Nat} (ck1 : ∀ r : Option (Unit × tn_M), tn_ck (nI i + 1) L r = r) (ck2 : ∀ r : Option (Unit × tn_M), tn_ck (nI i + 2) L r = r) (c18 : Int32 → tn_M → Option (Unit × tn_M)) (hk : ∀ A' σ', tW A' → CI A' σ' → M0 A' σ' → tq (c18 (nI i + 6) σ') (fun _ _ => True)) : tq (F_L_law_795 xs L c18 (nI i) σ) (fun _ _ => True) := by
  unfold F_L_law_795
  simp only [ck1, ck2]
  exact two_calls ⟨A, hA, c_weeks hA (xs (tn_x (nI i + 1))) (xs (tn_x (nI i + 2)))⟩ _ _ (by decide) (by decide) (fun σ => fr_X4_weeks (xs (tn_x (nI i + 1))) (xs (tn_x (nI i + 2))) σ) (fun σ => fr_X5_weeks (xs (tn_x (nI i + 1))) (xs (tn_x (nI i + 2))) σ) hk h1 h2
theorem w_back (hA : tW A) (h1 : CI A σ) (h2 : M0 A σ) {i : Nat} (c18 : Int32 → tn_M → Option (Unit × tn_M)) (hk : ∀ A' σ', tW A' → CI A' σ' → M0 A' σ' → tq (c18 (nI i + 6) σ') (fun _ _ => True)) : tq (F_L_law_828 xs L c18 (nI i) σ) (fun _ _ => True) := by
  unfold F_L_law_828
  exact two_calls ⟨A, hA, c_back hA⟩ _ _ (by decide) (by decide) (fun σ => fr_X4_back σ) (fun σ => fr_X5_back σ) hk h1 h2
theorem w_sheet (hA : tW A) (h1 : CI A σ) (h2 : M0 A σ) {i : Nat} (ck1 : ∀ r : Option (Unit × tn_M), tn_ck (nI i + 1) L r = r) (ck2 : ∀ r : Option (Unit × tn_M), tn_ck (nI i + 2) L r = r) (ck3 : ∀ r : Option (Unit × tn_M), tn_ck (nI i + 3) L r = r) (c18 : Int32 → tn_M → Option (Unit × tn_M)) (hk : ∀ A' σ', tW A' → CI A' σ' → M0 A' σ' → tq (c18 (nI i + 6) σ') (fun _ _ => True)) : tq (F_L_law_841 xs L c18 (nI i) σ) (fun _ _ => True) := by
  unfold F_L_law_841
  simp only [ck1, ck2, ck3]
  exact two_calls (c_sheet hA (xs (tn_x (nI i + 1))) (xs (tn_x (nI i + 2))) (xs (tn_x (nI i + 3)))) _ _ (by decide) (by decide) (fun σ => fr_X4_sheet (xs (tn_x (nI i + 1))) (xs (tn_x (nI i + 2))) (xs (tn_x (nI i + 3))) σ) (fun σ => fr_X5_sheet (xs (tn_x (nI i + 1))) (xs (tn_x (nI i + 2))) (xs (tn_x (nI i + 3))) σ) hk h1 h2
theorem w_lose (hA : tW A) (h1 : CI A σ) (h2 : M0 A σ) {i : Nat} (ck1 : ∀ r : Option (Unit × tn_M), tn_ck (nI i + 1) L r = r) (c18 : Int32 → tn_M → Option (Unit × tn_M)) (hk : ∀ A' σ', tW A' → CI A' σ' → M0 A' σ' → tq (c18 (nI i + 6) σ') (fun _ _ => True)) : tq (F_L_law_884 xs L c18 (nI i) σ) (fun _ _ => True) := by
  unfold F_L_law_884
  simp only [ck1]
  exact two_calls (c_lose hA (xs (tn_x (nI i + 1)))) _ _ (by decide) (by decide) (fun σ => fr_X4_lose (xs (tn_x (nI i + 1))) σ) (fun σ => fr_X5_lose (xs (tn_x (nI i + 1))) σ) hk h1 h2
theorem w_lay (hA : tW A) (h1 : CI A σ) (h2 : M0 A σ) {i : Nat} (ck1 : ∀ r : Option (Unit × tn_M), tn_ck (nI i + 1) L r = r) (ck2 : ∀ r : Option (Unit × tn_M), tn_ck (nI i + 2) L r = r) (ck3 : ∀ r : Option (Unit × tn_M), tn_ck (nI i + 3) L r = r) (ck4 : ∀ r : Option (Unit × tn_M), tn_ck (nI i + 4) L r = r) (c18 : Int32 → tn_M → Option (Unit × tn_M)) (hk : ∀ A' σ', tW A' → CI A' σ' → M0 A' σ' → tq (c18 (nI i + 6) σ') (fun _ _ => True)) : tq (F_L_law_907 xs L c18 (nI i) σ) (fun _ _ => True) := by
  unfold F_L_law_907
  simp only [ck1, ck2, ck3, ck4]
  exact two_calls (c_lay hA (xs (tn_x (nI i + 1))) (xs (tn_x (nI i + 2))) (xs (tn_x (nI i + 3))) (xs (tn_x (nI i + 4)))) _ _ (by decide) (by decide) (fun σ => fr_X4_lay (xs (tn_x (nI i + 1))) (xs (tn_x (nI i + 2))) (xs (tn_x (nI i + 3))) (xs (tn_x (nI i + 4))) σ) (fun σ => fr_X5_lay (xs (tn_x (nI i + 1))) (xs (tn_x (nI i + 2))) (xs (tn_x (nI i + 3))) (xs (tn_x (nI i + 4))) σ) hk h1 h2
theorem w_get (hA : tW A) (h1 : CI A σ) (h2 : M0 A σ) {i : Nat} (ck1 : ∀ r : Option (Unit × tn_M), tn_ck (nI i + 1) L r = r) (ck2 : ∀ r : Option (Unit × tn_M), tn_ck (nI i + 2) L r = r) (ck3 : ∀ r : Option (Unit × tn_M), tn_ck (nI i + 3) L r = r) (c18 : Int32 → tn_M → Option (Unit × tn_M)) (hk : ∀ A' σ', tW A' → CI A' σ' → M0 A' σ' → tq (c18 (nI i + 6) σ') (fun _ _ => True)) : tq (F_L_law_960 xs L c18 (nI i) σ) (fun _ _ => True) := by
  unfold F_L_law_960
  simp only [ck1, ck2, ck3]
  exact two_calls (c_get hA (xs (tn_x (nI i + 1))) (xs (tn_x (nI i + 2))) (xs (tn_x (nI i + 3)))) _ _ (by decide) (by decide) (fun σ => fr_X4_get (xs (tn_x (nI i + 1))) (xs (tn_x (nI i + 2))) (xs (tn_x (nI i + 3))) σ) (fun σ => fr_X5_get (xs (tn_x (nI i + 1))) (xs (tn_x (nI i + 2))) (xs (tn_x (nI i + 3))) σ) hk h1 h2
theorem w_copy (hA : tW A) (h1 : CI A σ) (h2 : M0 A σ) {i : Nat} (ck1 : ∀ r : Option (Unit × tn_M), tn_ck (nI i + 1) L r = r) (ck2 : ∀ r : Option (Unit × tn_M), tn_ck (nI i + 2) L r = r) (ck3 : ∀ r : Option (Unit × tn_M), tn_ck (nI i + 3) L r = r) (ck4 : ∀ r : Option (Unit × tn_M), tn_ck (nI i + 4) L r = r) (ck5 : ∀ r : Option (Unit × tn_M), tn_ck (nI i + 5) L r = r) (c18 : Int32 → tn_M → Option (Unit × tn_M)) (hk : ∀ A' σ', tW A' → CI A' σ' → M0 A' σ' → tq (c18 (nI i + 6) σ') (fun _ _ => True)) : tq (F_L_law_1003 xs L c18 (nI i) σ) (fun _ _ => True) := by
  unfold F_L_law_1003
  simp only [ck1, ck2, ck3, ck4, ck5]
  exact two_calls (c_copy hA (xs (tn_x (nI i + 1))) (xs (tn_x (nI i + 2))) (xs (tn_x (nI i + 3))) (xs (tn_x (nI i + 4))) (xs (tn_x (nI i + 5)))) _ _ (by decide) (by decide) (fun σ => fr_X4_copy (xs (tn_x (nI i + 1))) (xs (tn_x (nI i + 2))) (xs (tn_x (nI i + 3))) (xs (tn_x (nI i + 4))) (xs (tn_x (nI i + 5))) σ) (fun σ => fr_X5_copy (xs (tn_x (nI i + 1))) (xs (tn_x (nI i + 2))) (xs (tn_x (nI i + 3))) (xs (tn_x (nI i + 4))) (xs (tn_x (nI i + 5))) σ) hk h1 h2
theorem w_write (hA : tW A) (h1 : CI A σ) (h2 : M0 A σ) {i : Nat} (ck1 : ∀ r : Option (Unit × tn_M), tn_ck (nI i + 1) L r = r) (c18 : Int32 → tn_M → Option (Unit × tn_M)) (hk : ∀ A' σ', tW A' → CI A' σ' → M0 A' σ' → tq (c18 (nI i + 6) σ') (fun _ _ => True)) : tq (F_L_law_1066 xs L c18 (nI i) σ) (fun _ _ => True) := by
  unfold F_L_law_1066
  simp only [ck1]
  exact two_calls (c_write hA (xs (tn_x (nI i + 1)))) _ _ (by decide) (by decide) (fun σ => fr_X4_write (xs (tn_x (nI i + 1))) σ) (fun σ => fr_X5_write (xs (tn_x (nI i + 1))) σ) hk h1 h2
theorem w_count (hA : tW A) (h1 : CI A σ) (h2 : M0 A σ) {i : Nat} (ck1 : ∀ r : Option (Unit × tn_M), tn_ck (nI i + 1) L r = r) (c18 : Int32 → tn_M → Option (Unit × tn_M)) (hk : ∀ A' σ', tW A' → CI A' σ' → M0 A' σ' → tq (c18 (nI i + 6) σ') (fun _ _ => True)) : tq (F_L_law_1089 xs L c18 (nI i) σ) (fun _ _ => True) := by
  unfold F_L_law_1089
  simp only [ck1]
  exact two_calls ⟨A, hA, c_count hA (xs (tn_x (nI i + 1)))⟩ _ _ (by decide) (by decide) (fun σ => fr_X4_count (xs (tn_x (nI i + 1))) σ) (fun σ => fr_X5_count (xs (tn_x (nI i + 1))) σ) hk h1 h2
theorem w_digest (hA : tW A) (h1 : CI A σ) (h2 : M0 A σ) {i : Nat} (c18 : Int32 → tn_M → Option (Unit × tn_M)) (hk : ∀ A' σ', tW A' → CI A' σ' → M0 A' σ' → tq (c18 (nI i + 6) σ') (fun _ _ => True)) : tq (F_L_law_1112 xs L c18 (nI i) σ) (fun _ _ => True) := by
  unfold F_L_law_1112
  exact two_calls ⟨A, hA, c_digest hA⟩ _ _ (by decide) (by decide) (fun σ => fr_X4_digest σ) (fun σ => fr_X5_digest σ) hk h1 h2
end FB
section FC
variable {xs : Nat → Int32} {L : Nat}
theorem law_loop (hL : L ≤ 3072) : ∀ d n i (A : tA) (σ : tn_M), L < i + 6 * d + 6 → d < n → i ≤ 4000 → tW A → CI A σ → M0 A σ → tq (F_L_law_18 xs L n (nI i) σ) (fun _ _ => True) := by
  have ex : ∀ i, i ≤ 5000 → ((Int32.ofNat L - 6 < nI i) ↔ L < i + 6) := by
    intro i hi
    have e1 : (Int32.ofNat L - 6 : Int32) = nI L - nI 6 := rfl
    rw [e1, tn_lt32, pk_sub_toInt (by omega) (by omega), tn_t (by omega)]
    omega
  intro d
  induction d with
  | zero =>
    intro n i A σ h1 h2 h3 hA hC hM
    obtain ⟨m, rfl⟩ : ∃ m, n = m + 1 := ⟨n - 1, by omega⟩
    rw [F_L_law_18, if_pos ((ex i (by omega)).mpr (by omega))]
    exact tq_some trivial
  | succ d ih =>
    intro n i A σ h1 h2 h3 hA hC hM
    obtain ⟨m, rfl⟩ : ∃ m, n = m + 1 := ⟨n - 1, by omega⟩
    rw [F_L_law_18]
    by_cases c : L < i + 6
    · rw [if_pos ((ex i (by omega)).mpr c)]
      exact tq_some trivial
    rw [if_neg (fun w => c ((ex i (by omega)).mp w)), tn_ckn (by omega) (by omega)]
    refine tq_lt ?_
    have ck : ∀ j, j < 6 → ∀ r : Option (Unit × tn_M), tn_ck (nI i + nI j) L r = r := fun j hj r => by rw [nI_add, tn_ckn (by omega) (by omega)]
    have hk : ∀ A' σ', tW A' → CI A' σ' → M0 A' σ' → tq ((fun z0 zs => F_L_law_18 xs L m z0 zs) (nI i + 6) σ') (fun _ _ => True) := by
      intro A' σ' a b c'
      have e6 : nI i + 6 = nI (i + 6) := nI_add i 6
      show tq (F_L_law_18 xs L m (nI i + 6) σ') _
      rw [e6]
      exact ih m (i + 6) A' σ' (by omega) (by omega) (by omega) a b c'
    generalize (xs (tn_x (nI i)) &&& 63) = w
    by_cases c0 : w = 0
    · rw [if_pos c0]
      exact w_type hA hC hM (ck 1 (by omega)) _ hk
    rw [if_neg c0]
    by_cases c1 : w = 1
    · rw [if_pos c1]
      exact w_wipe hA hC hM _ hk
    rw [if_neg c1]
    by_cases c2 : w = 2
    · rw [if_pos c2]
      exact w_fault hA hC hM _ hk
    rw [if_neg c2]
    by_cases c3 : w = 3
    · rw [if_pos c3]
      exact w_shop hA hC hM (ck 1 (by omega)) (ck 2 (by omega)) _ hk
    rw [if_neg c3]
    by_cases c4 : w = 4
    · rw [if_pos c4]
      exact w_sort hA hC hM (ck 1 (by omega)) (ck 2 (by omega)) _ hk
    rw [if_neg c4]
    by_cases c5 : w = 5
    · rw [if_pos c5]
      exact w_set hA hC hM (ck 1 (by omega)) (ck 2 (by omega)) _ hk
    rw [if_neg c5]
    by_cases c6 : w = 6
    · rw [if_pos c6]
      exact w_hours hA hC hM (ck 1 (by omega)) (ck 2 (by omega)) _ hk
    rw [if_neg c6]
    by_cases c7 : w = 7
    · rw [if_pos c7]
      exact w_read hA hC hM (ck 1 (by omega)) _ hk
    rw [if_neg c7]
    by_cases c8 : w = 8
    · rw [if_pos c8]
      exact w_open hA hC hM (ck 1 (by omega)) _ hk
    rw [if_neg c8]
    by_cases c9 : w = 9
    · rw [if_pos c9]
      exact w_earns hA hC hM (ck 1 (by omega)) (ck 2 (by omega)) _ hk
    rw [if_neg c9]
    by_cases c10 : w = 10
    · rw [if_pos c10]
      exact w_all hA hC hM (ck 1 (by omega)) (ck 2 (by omega)) _ hk
    rw [if_neg c10]
    by_cases c11 : w = 11
    · rw [if_pos c11]
      exact w_answer hA hC hM (ck 1 (by omega)) _ hk
    rw [if_neg c11]
    by_cases c12 : w = 12
    · rw [if_pos c12]
      exact w_rest hA hC hM (ck 1 (by omega)) _ hk
    rw [if_neg c12]
    by_cases c13 : w = 13
    · rw [if_pos c13]
      exact w_still hA hC hM (ck 1 (by omega)) (ck 2 (by omega)) _ hk
    rw [if_neg c13]
    by_cases c14 : w = 14
    · rw [if_pos c14]
      exact w_best hA hC hM (ck 1 (by omega)) (ck 2 (by omega)) _ hk
    rw [if_neg c14]
    by_cases c15 : w = 15
    · rw [if_pos c15]
      exact w_loss hA hC hM (ck 1 (by omega)) _ hk
    rw [if_neg c15]
    by_cases c16 : w = 16
    · rw [if_pos c16]
      exact w_leastFine hA hC hM _ hk
    rw [if_neg c16]
    by_cases c17 : w = 17
    · rw [if_pos c17]
      exact w_bestCap hA hC hM (ck 1 (by omega)) _ hk
    rw [if_neg c17]
    by_cases c18 : w = 18
    · rw [if_pos c18]
      exact w_edge hA hC hM (ck 1 (by omega)) _ hk
    rw [if_neg c18]
    by_cases c19 : w = 19
    · rw [if_pos c19]
      exact w_always hA hC hM (ck 1 (by omega)) (ck 2 (by omega)) _ hk
    rw [if_neg c19]
    by_cases c20 : w = 20
    · rw [if_pos c20]
      exact w_turn hA hC hM (ck 1 (by omega)) (ck 2 (by omega)) _ hk
    rw [if_neg c20]
    by_cases c21 : w = 21
    · rw [if_pos c21]
      exact w_keeps hA hC hM (ck 1 (by omega)) _ hk
    rw [if_neg c21]
    by_cases c22 : w = 22
    · rw [if_pos c22]
      exact w_week hA hC hM (ck 1 (by omega)) (ck 2 (by omega)) _ hk
    rw [if_neg c22]
    by_cases c23 : w = 23
    · rw [if_pos c23]
      exact w_weeks hA hC hM (ck 1 (by omega)) (ck 2 (by omega)) _ hk
    rw [if_neg c23]
    by_cases c24 : w = 24
    · rw [if_pos c24]
      exact w_back hA hC hM _ hk
    rw [if_neg c24]
    by_cases c25 : w = 25
    · rw [if_pos c25]
      exact w_sheet hA hC hM (ck 1 (by omega)) (ck 2 (by omega)) (ck 3 (by omega)) _ hk
    rw [if_neg c25]
    by_cases c26 : w = 26
    · rw [if_pos c26]
      exact w_lose hA hC hM (ck 1 (by omega)) _ hk
    rw [if_neg c26]
    by_cases c27 : w = 27
    · rw [if_pos c27]
      exact w_lay hA hC hM (ck 1 (by omega)) (ck 2 (by omega)) (ck 3 (by omega)) (ck 4 (by omega)) _ hk
    rw [if_neg c27]
    by_cases c28 : w = 28
    · rw [if_pos c28]
      exact w_get hA hC hM (ck 1 (by omega)) (ck 2 (by omega)) (ck 3 (by omega)) _ hk
    rw [if_neg c28]
    by_cases c29 : w = 29
    · rw [if_pos c29]
      exact w_copy hA hC hM (ck 1 (by omega)) (ck 2 (by omega)) (ck 3 (by omega)) (ck 4 (by omega)) (ck 5 (by omega)) _ hk
    rw [if_neg c29]
    by_cases c30 : w = 30
    · rw [if_pos c30]
      exact w_write hA hC hM (ck 1 (by omega)) _ hk
    rw [if_neg c30]
    by_cases c31 : w = 31
    · rw [if_pos c31]
      exact w_count hA hC hM (ck 1 (by omega)) _ hk
    rw [if_neg c31]
    by_cases c32 : w = 32
    · rw [if_pos c32]
      exact w_digest hA hC hM _ hk
    rw [if_neg c32]
    exact hk A σ hA hC hM
end FC

/-! the scene of a state -/
def tn_SA (A : tA) : tS := (tn_prs (aT A) (aL A)).2
def tn_eA (A : tA) : tEc := (tn_SA A, aG A 0, aG A 1, aG A 2, lN (aG A 3 * aG A 4 * 738017280), sc (tn_SA A))
def tn_hA (A : tA) (h : Nat) : Nat := aG A (4 + h)
theorem tV_A (A : tA) : tV (tn_SA A) := prs_V _ _
theorem hN_ok : tn_hN 0 = 16 ∧ tn_hN 1 = 3 ∧ tn_hN 2 = 3 ∧ tn_hN 3 = 999 ∧ tn_hN 4 = 16 ∧ tn_hN 5 = 8 ∧ tn_hN 6 = 8 ∧ tn_hN 7 = 8 := by decide
theorem tVe_A {A : tA} (hA : tW A) : tVe (tn_eA A) := by
  have h := hN_ok
  have h0 := hA.2.1 0 (by omega)
  have h1 := hA.2.1 1 (by omega)
  have h2 := hA.2.1 2 (by omega)
  refine ⟨tV_A A, ?_, ?_, ?_, fun k hk => ((tV_A A).2.2.1 k hk).2.2⟩
  · show aG A 0 ≤ 16; omega
  · show aG A 1 ≤ 3; omega
  · show aG A 2 ≤ 3; omega
theorem hA_8 {A : tA} (hA : tW A) {h : Nat} (h1 : 1 ≤ h) (h3 : h ≤ 3) : tn_hA A h ≤ 8 := by
  have e := hN_ok
  have q := hA.2.1 (4 + h) (by omega)
  show aG A (4 + h) ≤ 8
  have : h = 1 ∨ h = 2 ∨ h = 3 := by omega
  rcases this with rfl | rfl | rfl <;> simp only [Nat.reduceAdd] at q ⊢ <;> omega
/-- the class between two calls -/
def CI (A : tA) (σ : tn_M) : Prop := C0 A σ ∧ σ.1 1 7 = (tn_prs (aT A) (aL A)).1 ∧ cSt (tn_SA A) σ ∧ (σ.1 2 1 = 1 ∨ (σ.1 2 1 = 0 ∧ cTb (tn_SA A) (aG A 0) σ))
theorem C0_same {A : tA} {σ σ' : tn_M} (h : C0 A σ) (e : ∀ a b, (a = 1 ∧ b = 4) ∨ a = 9 ∨ a = 6 ∨ a = 7 ∨ a = 8 ∨ (26 ≤ a ∧ a ≤ 32) ∨ a = 4 → σ'.1 a b = σ.1 a b) : C0 A σ' := by
  obtain ⟨h1, h2, h3, h4, h5, h6, h7, h8, h9⟩ := h
  refine ⟨by rw [e 1 4 (by omega)]; exact h1, fun j hj => by rw [e 9 j (by omega)]; exact h2 j hj, fun j hj => by rw [e 6 j (by omega)]; exact h3 j hj, fun j hj => by rw [e 7 j (by omega)]; exact h4 j hj, fun j hj => by rw [e 8 j (by omega)]; exact h5 j hj, fun j hj => by rw [e 26 j (by omega)]; exact h6 j hj, fun j hj => by rw [e 27 j (by omega)]; exact h7 j hj, fun s hs i hi => by rw [e (29 + s) i (by omega)]; exact h8 s hs i hi, by rw [e 4 3 (by omega)]; exact h9⟩
def tn_sf : List (Nat × Nat) := [(3, 999), (20, 999), (21, 999), (22, 999), (23, 999), (24, 999), (25, 999)]
theorem ms_sf {a b : Nat} (h : a ≠ 3 ∧ (a < 20 ∨ 25 < a)) : tn_ms tn_sf a b = false := by
  unfold tn_ms tn_sf
  simp
  omega
theorem CI_fr {A : tA} {σ σ' : tn_M} (h : CI A σ) (hf : tn_fr tn_sf σ σ') : CI A σ' := by
  obtain ⟨h1, h2, h3, h4⟩ := h
  have hm := (tV_A A).2.1
  refine ⟨C0_same h1 (fun a b hab => hf.i a b (ms_sf (by omega))), by rw [hf.i 1 7 (ms_sf (by omega))]; exact h2, cSt_same h3 (fun a b hab => hf.i a b (ms_sf (by omega))) hm, ?_⟩
  rw [hf.i 2 1 (ms_sf (by omega))]
  rcases h4 with h4 | ⟨h4, h5⟩
  · exact Or.inl h4
  · refine Or.inr ⟨h4, fun hh B c q1 q2 q3 q4 => ?_⟩
    rw [hf.l 19 _ (ms_sf (by omega))]
    exact h5 hh B c q1 q2 q3 q4
/-- frames grow -/
theorem fr_sub {S T : List (Nat × Nat)} {σ σ' : tn_M} (hf : tn_fr S σ σ') (h : ∀ a b, tn_ms T a b = false → tn_ms S a b = false) : tn_fr T σ σ' := fun a b q => hf a b (h a b q)
theorem ms_sub {S T : List (Nat × Nat)} (h : S.all (fun q => T.any (fun p => p.1 == q.1 && (p.2 == 999 || p.2 == q.2))) = true) : ∀ a b, tn_ms T a b = false → tn_ms S a b = false := by
  intro a b hT
  unfold tn_ms at *
  rw [List.any_eq_false] at *
  intro q hq
  rw [List.all_eq_true] at h
  have := h q hq
  rw [List.any_eq_true] at this
  obtain ⟨p, hp, hpq⟩ := this
  have h2 := hT p hp
  simp at hpq h2 ⊢
  intro e1
  have := h2 (by omega)
  omega
/-- a loop that fills an array of ints -/
theorem s_fillI {k0 : Nat} {x1 : Int32} {len : Nat} (hl : tn_len k0 = len) (h2 : len < 2000) : ∀ d n k (σ : tn_M), k + d = len → d < n → (∀ j, j < k → σ.1 k0 j = x1) → tq (F_J7_fill_53178_5 n k0 x1 (nI k) (nI len) σ) (fun _ σ' => ∀ j, j < len → σ'.1 k0 j = x1) := by
  intro d
  induction d with
  | zero =>
    intro n k σ h1 h2 h3
    obtain ⟨m, rfl⟩ : ∃ m, n = m + 1 := ⟨n - 1, by omega⟩
    have : k = len := by omega
    subst this
    rw [F_J7_fill_53178_5, if_pos (nI_le (Nat.le_refl _) (by omega))]
    exact tq_some h3
  | succ d ih =>
    intro n k σ h1 h2 h3
    obtain ⟨m, rfl⟩ : ∃ m, n = m + 1 := ⟨n - 1, by omega⟩
    rw [F_J7_fill_53178_5, if_neg (nI_ge (by omega) (by omega)), hl, tn_ckn (by omega) (by omega), tn_xn (by omega), nI_1]
    refine tq_lt (ih m (k + 1) _ (by omega) (by omega) (fun j hj => ?_))
    rw [tn_si_1]
    split
    · rfl
    · exact h3 j (by omega)
theorem s_fillA {k0 : Nat} {x1 : Int32} {len : Nat} (hl : tn_len k0 = len) (h2 : len < 2000) (σ : tn_M) : tq (f_J7_fill_53178 k0 x1 σ) (fun _ σ' => ∀ j, j < len → σ'.1 k0 j = x1) := by
  unfold f_J7_fill_53178
  refine tq_lt ?_
  rw [hl]
  exact s_fillI hl h2 len tn_fuel 0 σ (by omega) (by unfold tn_fuel; omega) (fun j hj => absurd hj (Nat.not_lt_zero j))

/-! the scene now -/
def tn_cu (u : Nat → Nat) (k j : Nat) : Nat := if j < k then u j else 0
theorem cu_s (u : Nat → Nat) (k : Nat) : va_up (tn_cu u k) k (u k) = tn_cu u (k + 1) := by
  funext j
  unfold va_up tn_cu
  by_cases c : j = k
  · subst c
    rw [if_pos rfl, if_pos (by omega)]
  · rw [if_neg c]
    by_cases d : j < k
    · rw [if_pos d, if_pos (by omega)]
    · rw [if_neg d, if_neg (by omega)]
theorem cu_0 (n : Nat) (u : Nat → Nat) {h : Nat} (h1 : 1 ≤ h) : tn_mk n (tn_cu u 0) h = 0 := mk_0.mpr (fun k _ => by unfold tn_cu; rw [if_neg (by omega)]; omega)
theorem cu_n (n : Nat) (u : Nat → Nat) (h : Nat) : tn_mk n (tn_cu u n) h = tn_mk n u h := mk_congr (fun k hk => by unfold tn_cu; rw [if_pos hk])
theorem mk_32 {n : Nat} (hn : n ≤ 5) (u : Nat → Nat) (h : Nat) : tn_mk n u h < 32 := Nat.lt_of_lt_of_le (mk_lt u h n) (Nat.pow_le_pow_right (by omega) (show n ≤ 5 from hn))
theorem s_begin80 {S : tS} (hn : sn S ≤ 5) {u : Nat → Nat} (hu : ∀ k, k < 5 → u k ≤ 3) (σ0 : tn_M) : ∀ d n k (τ : tn_M), k + d = sn S → d < n → τ.1 1 5 = nI (sn S) → (∀ j, j < 5 → τ.1 20 j = nI (u j)) → (∀ h, 1 ≤ h → h ≤ 3 → τ.1 24 h = nI (tn_mk (sn S) (tn_cu u k) h)) → tn_fr [(20, 999), (24, 999)] σ0 τ → tq (F_X0_begin_80 n (nI k) τ) (fun _ σ' => (∀ j, j < 5 → σ'.1 20 j = nI (u j)) ∧ (∀ h, 1 ≤ h → h ≤ 3 → σ'.1 24 h = nI (tn_mk (sn S) u h)) ∧ tn_fr [(20, 999), (24, 999)] σ0 σ') := by
  intro d
  induction d with
  | zero =>
    intro n k τ h1 h2 h3 h4 h5 h6
    obtain ⟨m, rfl⟩ : ∃ m, n = m + 1 := ⟨n - 1, by omega⟩
    have : k = sn S := by omega
    subst this
    rw [F_X0_begin_80, h3, if_pos (nI_le (Nat.le_refl _) (by omega))]
    exact tq_some ⟨h4, fun h a1 a2 => by rw [h5 h a1 a2, cu_n], h6⟩
  | succ d ih =>
    intro n k τ h1 h2 h3 h4 h5 h6
    obtain ⟨m, rfl⟩ : ∃ m, n = m + 1 := ⟨n - 1, by omega⟩
    rw [F_X0_begin_80, h3, if_neg (nI_ge (by omega) (by omega)), tn_ckn (by omega) (by decide), tn_xn (by omega), h4 k (by omega), nI_1]
    refine tq_bd (s_become0 (k := k) (v := u k) (by omega) (hu k (by omega)) (B := fun h => tn_mk (sn S) (tn_cu u k) h) (fun h _ _ => mk_32 hn _ _) h5) (fun _ τ1 ⟨q1, q2, q3⟩ => ?_)
    refine ih m (k + 1) τ1 (by omega) (by omega) (by rw [q3.i 1 5 (by rfl)]; exact h3) (fun j hj => ?_) (fun h a1 a2 => ?_) (h6.tr q3)
    · rw [q1 j]
      split
      · next c => rw [c]
      · exact h4 j hj
    · rw [q2 h a1 a2]
      split
      · next c => rw [mk_set hn _ (by omega) c, cu_s]
      · next c => rw [mk_clr hn _ (by omega) c, cu_s]
theorem cck_a {α : Type} {r : Option α} : tn_cck 0 0 5 5 5 r = r := by
  unfold tn_cck
  rw [if_neg (by decide)]
theorem cck_b {α : Type} {r : Option α} : tn_cck 5 1 3 8 4 r = r := by
  unfold tn_cck
  rw [if_neg (by decide)]
theorem s_begin {A : tA} (hA : tW A) {σ : tn_M} (h0 : C0 A σ) (hS : cSt (tn_SA A) σ) (hT : cTb (tn_SA A) (aG A 0) σ) : tq (f_X0_begin σ) (fun _ σ' => cSc (tn_eA A) (tn_hA A) (aH A) (tn_lm (tn_eA A) 3) (-1) σ' ∧ tn_fr tn_sf σ σ') := by
  have hn := (tV_A A).1
  have hm := (tV_A A).2.1
  have hN := hN_ok
  have g3 := hA.2.1 3 (by omega)
  have g4 := hA.2.1 4 (by omega)
  obtain ⟨_, _, c6, c7, _⟩ := h0
  refine tq_mono (tq_fr (Q := fun _ σ' => (∀ j, j < 5 → σ'.1 20 j = nI (aH A j)) ∧ (∀ h, 1 ≤ h → h ≤ 3 → σ'.1 24 h = nI (tn_mk (sn (tn_SA A)) (aH A) h)) ∧ (∀ j, j < 5 → σ'.1 21 j = 3) ∧ (∀ h, 1 ≤ h → h ≤ 3 → σ'.1 22 h = nI (aG A (4 + h))) ∧ σ'.1 3 8 = nI (aG A 1) ∧ σ'.1 3 9 = nI (aG A 2) ∧ σ'.2 3 10 = lN (aG A 3 * aG A 4 * 738017280) ∧ σ'.1 3 11 = -1) (fr_X0_begin σ) ?_) (fun r σ' q => ?_)
  · unfold f_X0_begin
    rw [cck_a]
    refine tq_lt (tq_bd (tq_fr (fr_J7_fill_53178 _ _ _) (s_fillA (k0 := 21) (len := 5) rfl (by omega) _)) (fun _ σ2 ⟨q2, f2⟩ => ?_))
    rw [cck_b]
    have x0 : tn_x 0 = 0 := by decide
    have x1 : tn_x 1 = 1 := by decide
    have x3 : tn_x 3 = 3 := by decide
    have x5 : tn_x 5 = 5 := by decide
    rw [x0, x5] at f2
    rw [x1, x3, x5]
    have e2 : ∀ a b, a ≠ 21 → σ2.1 a b = if a = 20 ∧ b < 5 then σ.1 7 b else σ.1 a b := by
      intro a b hab
      rw [f2.i a b (by unfold tn_ms; simp; omega), tn_cp_1]
      simp
    refine tq_lt (tq_lt (tq_lt (tq_lt (tq_lt (tq_lt ?_)))))
    have k6 : ∀ j, j < 8 → σ2.1 6 j = nI (aG A j) := fun j hj => by rw [e2 6 j (by omega), if_neg (by omega)]; exact c6 j hj
    refine tq_bd (tq_fr (fr_J7_fill_53178 _ _ _) (s_fillA (k0 := 24) (len := 4) rfl (by omega) _)) (fun _ σ9 ⟨q9, f9⟩ => ?_)
    have e9 : ∀ a b, a ≠ 24 → σ9.1 a b = if a = 3 ∧ b = 12 then 0 else if a = 3 ∧ b = 11 then -1 else if a = 3 ∧ b = 9 then nI (aG A 2) else if a = 3 ∧ b = 8 then nI (aG A 1) else if a = 22 ∧ 1 ≤ b ∧ b < 4 then nI (aG A (4 + b)) else σ2.1 a b := by
      intro a b hab
      rw [f9.i a b (by unfold tn_ms; simp; omega)]
      simp only [tn_si_1, tn_sl_1, tn_cp_1]
      by_cases c1 : a = 3 ∧ b = 12
      · rw [if_pos c1, if_pos c1]
      · rw [if_neg c1, if_neg c1]
        by_cases c2 : a = 3 ∧ b = 11
        · rw [if_pos c2, if_pos c2]
        · rw [if_neg c2, if_neg c2]
          by_cases c3 : a = 3 ∧ b = 9
          · rw [if_pos c3, if_pos c3, if_neg (by omega), if_neg (by omega), k6 2 (by omega)]
          · rw [if_neg c3, if_neg c3]
            by_cases c4 : a = 3 ∧ b = 8
            · rw [if_pos c4, if_pos c4, if_neg (by omega), k6 1 (by omega)]
            · rw [if_neg c4, if_neg c4]
              by_cases c5 : a = 22 ∧ 1 ≤ b ∧ b < 4
              · rw [if_pos c5, if_pos (by omega), k6 _ (by omega), show 5 + (b - 1) = 4 + b by omega]
              · rw [if_neg c5, if_neg (by omega)]
    have l9 : σ9.2 3 10 = lN (aG A 3 * aG A 4 * 738017280) := by
      rw [f9.l 3 10 (by unfold tn_ms; simp), tn_si_2, tn_si_2, tn_sl_2, if_pos ⟨rfl, rfl⟩]
      simp only [tn_si_1, tn_cp_1]
      rw [if_neg (by omega), if_neg (by omega), if_neg (by omega), if_neg (by omega), if_neg (by omega), if_neg (by omega), k6 3 (by omega), k6 4 (by omega), pk_mul]
      have hb : aG A 3 * aG A 4 ≤ 999 * 16 := Nat.mul_le_mul (by omega) (by omega)
      rw [tn_l (by omega), tn_LL 738017280, lN_mul]
    refine tq_mono (s_begin80 (S := tn_SA A) hn hA.2.2.1 σ9 (sn (tn_SA A)) tn_fuel 0 σ9 (by omega) (by unfold tn_fuel; omega) ?_ (fun j hj => ?_) (fun h a1 a2 => ?_) tn_fr.rf) (fun _ σ' ⟨r1, r2, r3⟩ => ⟨r1, r2, fun j hj => ?_, fun h a1 a2 => ?_, ?_, ?_, ?_, ?_⟩)
    · rw [e9 1 5 (by omega), if_neg (by omega), if_neg (by omega), if_neg (by omega), if_neg (by omega), if_neg (by omega), e2 1 5 (by omega), if_neg (by omega)]; exact hS.1
    · rw [e9 20 j (by omega), if_neg (by omega), if_neg (by omega), if_neg (by omega), if_neg (by omega), if_neg (by omega), e2 20 j (by omega), if_pos ⟨rfl, hj⟩]; exact c7 j hj
    · rw [q9 h (by omega), cu_0 _ _ a1]; rfl
    · rw [r3.i 21 j (by rfl), e9 21 j (by omega), if_neg (by omega), if_neg (by omega), if_neg (by omega), if_neg (by omega), if_neg (by omega)]; exact q2 j hj
    · rw [r3.i 22 h (by rfl), e9 22 h (by omega), if_neg (by omega), if_neg (by omega), if_neg (by omega), if_neg (by omega), if_pos (by omega)]
    · rw [r3.i 3 8 (by rfl), e9 3 8 (by omega), if_neg (by omega), if_neg (by omega), if_neg (by omega), if_pos ⟨rfl, rfl⟩]
    · rw [r3.i 3 9 (by rfl), e9 3 9 (by omega), if_neg (by omega), if_neg (by omega), if_pos ⟨rfl, rfl⟩]
    · rw [r3.l 3 10 (by rfl)]; exact l9
    · rw [r3.i 3 11 (by rfl), e9 3 11 (by omega), if_neg (by omega), if_pos ⟨rfl, rfl⟩]
  · obtain ⟨⟨r1, r2, r3, r4, r5, r6, r7, r8⟩, hf⟩ := q
    have hf' : tn_fr tn_sf σ σ' := fr_sub hf (ms_sub (by decide))
    refine ⟨⟨cSt_same hS (fun a b hab => hf'.i a b (ms_sf (by omega))) hm, fun hh B c p1 p2 p3 p4 => ?_, fun k hk => ⟨r1 k hk, hA.2.2.1 k hk⟩, r2, fun h a1 a2 => ⟨r4 h a1 a2, hA_8 hA a1 a2⟩, fun k hk => ?_, r5, r6, r7, r8, fun k => rfl⟩, hf'⟩
    · rw [hf'.l 19 _ (ms_sf (by omega))]
      exact hT hh B c p1 p2 p3 p4
    · rw [lm3]
      have hk : k < sn (tn_SA A) := hk
      exact ⟨r3 k (by omega), by omega⟩
theorem s_sceneNow {A : tA} (hA : tW A) {σ : tn_M} (h : CI A σ) : tq (f_X4_sceneNow σ) (fun _ σ' => cSc (tn_eA A) (tn_hA A) (aH A) (tn_lm (tn_eA A) 3) (-1) σ' ∧ CI A σ') := by
  obtain ⟨h1, h2, h3, h4⟩ := h
  have hm := (tV_A A).2.1
  have hN := hN_ok
  have g0 := hA.2.1 0 (by omega)
  have go : ∀ τ : tn_M, C0 A τ → τ.1 1 7 = (tn_prs (aT A) (aL A)).1 → cSt (tn_SA A) τ → τ.1 2 1 = 0 → cTb (tn_SA A) (aG A 0) τ → tq (F_X4_sceneNow_27 τ) (fun _ σ' => cSc (tn_eA A) (tn_hA A) (aH A) (tn_lm (tn_eA A) 3) (-1) σ' ∧ CI A σ') := by
    intro τ q1 q2 q3 q4 q5
    unfold F_X4_sceneNow_27
    exact tq_bd (s_begin hA q1 q3 q5) (fun _ σ' ⟨p1, p2⟩ => tq_some ⟨p1, CI_fr ⟨q1, q2, q3, Or.inr ⟨q4, q5⟩⟩ p2⟩)
  have full : ∀ (hne : σ.1 2 1 = 1), tq (f_X4_sceneNow σ) (fun _ σ' => cSc (tn_eA A) (tn_hA A) (aH A) (tn_lm (tn_eA A) 3) (-1) σ' ∧ CI A σ') := by
    intro hne
    unfold f_X4_sceneNow
    rw [hne, if_neg (by decide), h1.2.2.1 0 (by omega)]
    refine tq_bd (s_fill (tV_A A) (light := aG A 0) (by omega) h3) (fun _ σ1 ⟨q1, q2, q3⟩ => ?_)
    have ms : ∀ a b, a ≠ 2 → a ≠ 19 → tn_ms [(2, 1), (19, 999)] a b = false := fun a b h1 h2 => by unfold tn_ms; simp; omega
    exact go σ1 (C0_same h1 (fun a b hab => q3.i a b (ms a b (by omega) (by omega)))) (by rw [q3.i 1 7 (by rfl)]; exact h2) (cSt_same h3 (fun a b hab => q3.i a b (ms a b (by omega) (by omega))) hm) q2 q1
  rcases h4 with h4 | ⟨h4, h5⟩
  · exact full h4
  · unfold f_X4_sceneNow
    rw [h4, if_pos rfl]
    exact go σ h1 h2 h3 h4 h5

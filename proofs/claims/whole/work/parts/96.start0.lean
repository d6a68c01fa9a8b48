theorem wi_65 : Cond.initialized RX4 ∈ tn_T := tn_in 65 (by decide +kernel) (by decide +kernel)
theorem wi_70 : Cond.initialized RX5 ∈ tn_T := tn_in 70 (by decide +kernel) (by decide +kernel)
theorem wi_75 : Cond.classLink RL 7 RX4 ∈ tn_T := tn_in 75 (by decide +kernel) (by decide +kernel)
theorem wi_76 : Cond.instantiable RX4 7 ∈ tn_T := tn_in 76 (by decide +kernel) (by decide +kernel)
theorem wi_77 : Cond.methodLink RL 9 yX4_init ∈ tn_T := tn_in 77 (by decide +kernel) (by decide +kernel)
theorem wi_78 : Cond.instanceMethod yX4_init ∈ tn_T := tn_in 78 (by decide +kernel) (by decide +kernel)
theorem wi_79 : Cond.code yX4_init cX4_init 1 none ∈ tn_T := tn_in 79 (by decide +kernel) (by decide +kernel)
theorem wi_698 : Cond.classLink RL 10 RX5 ∈ tn_T := tn_in 698 (by decide +kernel) (by decide +kernel)
theorem wi_699 : Cond.instantiable RX5 27 ∈ tn_T := tn_in 699 (by decide +kernel) (by decide +kernel)
theorem wi_700 : Cond.methodLink RL 12 yX5_init ∈ tn_T := tn_in 700 (by decide +kernel) (by decide +kernel)
theorem wi_701 : Cond.instanceMethod yX5_init ∈ tn_T := tn_in 701 (by decide +kernel) (by decide +kernel)
theorem wi_702 : Cond.code yX5_init cX5_init 2 none ∈ tn_T := tn_in 702 (by decide +kernel) (by decide +kernel)
theorem ti_inj {D : va_G} {cI cL cA : ClassId} {hi q0 q5 : Nat} {u4 r4 t4 u5 : Nat → Nat} {A : Nat → Prop} (hD : va_D A (wX4 cI cL q0 (u4, r4, t4, cA) ++ wX5 cI cL q5 u5)) : (∀ i j, i < 49 → j < 49 → tn_ad (ti_E D cI cL cA hi q0 q5 u4 r4 t4 u5) i = tn_ad (ti_E D cI cL cA hi q0 q5 u4 r4 t4 u5) j → i = j) ∧ ∀ k, k < 49 → A (tn_ad (ti_E D cI cL cA hi q0 q5 u4 r4 t4 u5) k) := by
  have h1 := hD.set (p := 11) (e := .inl (cA, 6, .inr (.inr (.inr (.inr (fun i => some (tn_ad (ti_E D cI cL cA hi q0 q5 u4 r4 t4 u5) (12 + 1 + i)))))))) rfl
  have h2 := h1.set (p := 27) (e := .inl (cA, 4, .inr (.inr (.inr (.inr (fun i => some (tn_ad (ti_E D cI cL cA hi q0 q5 u4 r4 t4 u5) (28 + 1 + i)))))))) rfl
  have h3 : va_D A (tn_ws (ti_E D cI cL cA hi q0 q5 u4 r4 t4 u5) ti_σ) := h2.sub [0, 1, 2, 3, 4, 32, 5, 6, 7, 8, 9, 10, 11, 12, 13, 14, 15, 16, 17, 18, 19, 20, 21, 22, 23, 24, 25, 26, 27, 28, 29, 30, 31, 33, 34, 35, 36, 37, 38, 39, 40, 41, 42, 43, 44, 45, 46, 47, 48] (by decide) rfl
  exact ⟨fun i j hi hj e => h3.1 i j _ _ (tn_ws_at hi) (tn_ws_at hj) e, fun k hk => h3.2 k _ (tn_ws_at hk)⟩
theorem ti_stat {b : Nat} {s : State} (hts : ∀ w ∈ lw_tbl, w.before #[Value.ref b] s = true) (hgv : (Jvm.Cond.and given_1 narrow_1).before #[Value.ref b] s = true) : ∃ t : Nat, va_Z RX4 "HIGHEST" "[I" (.ref t) (fun q => s.heap.size ≤ q) s s.heap ∧ va_T .int t 8 (fun j => .int (tn_hi j)) (fun q => s.heap.size ≤ q) s s.heap := by
  have hs := flat_of_before _ hgv
  obtain ⟨t, ht, hT⟩ := va_Tof (tm := .static "TillNine" "HIGHEST" "[I") (ty := .int) (N := 8) (f := fun j => .int (tn_hi j)) (A := fun q => s.heap.size ≤ q) (by decide) (hs (Cond.arrayOf (.static "TillNine" "HIGHEST" "[I") .int) (by decide +kernel)) (va_eqt (z := 8) (hs (Cond.eq (.length (.static "TillNine" "HIGHEST" "[I")) (.int 8)) (by decide +kernel))) (fun j hj => by
    rcases (show j = 0 ∨ j = 1 ∨ j = 2 ∨ j = 3 ∨ j = 4 ∨ j = 5 ∨ j = 6 ∨ j = 7 by omega) with rfl | rfl | rfl | rfl | rfl | rfl | rfl | rfl
    · exact va_eqt (z := 16) (hs (Cond.eq (.elem (.static "TillNine" "HIGHEST" "[I") (.int 0)) (.int 16)) (by decide +kernel))
    · exact va_eqt (z := 3) (hs (Cond.eq (.elem (.static "TillNine" "HIGHEST" "[I") (.int 1)) (.int 3)) (by decide +kernel))
    · exact va_eqt (z := 3) (hs (Cond.eq (.elem (.static "TillNine" "HIGHEST" "[I") (.int 2)) (.int 3)) (by decide +kernel))
    · exact va_eqt (z := 999) (hs (Cond.eq (.elem (.static "TillNine" "HIGHEST" "[I") (.int 3)) (.int 999)) (by decide +kernel))
    · exact va_eqt (z := 16) (hs (Cond.eq (.elem (.static "TillNine" "HIGHEST" "[I") (.int 4)) (.int 16)) (by decide +kernel))
    · exact va_eqt (z := 8) (hs (Cond.eq (.elem (.static "TillNine" "HIGHEST" "[I") (.int 5)) (.int 8)) (by decide +kernel))
    · exact va_eqt (z := 8) (hs (Cond.eq (.elem (.static "TillNine" "HIGHEST" "[I") (.int 6)) (.int 8)) (by decide +kernel))
    · exact va_eqt (z := 8) (hs (Cond.eq (.elem (.static "TillNine" "HIGHEST" "[I") (.int 7)) (.int 8)) (by decide +kernel))) (fun a h => Nat.not_le.mpr h)
  exact ⟨t, va_Zof (hts (Cond.laysStatic "TillNine" "HIGHEST" "[I") (List.mem_of_getElem? (i := 327) (by decide +kernel))) (hts (Cond.initialized "TillNine") (List.mem_of_getElem? (i := 65) (by decide +kernel))) ht (fun a h => Nat.not_le.mpr h), hT⟩

def wX0 (cI cL : ClassId) (h0 h1 h2 : Nat) (u : Nat → Nat) : va_W := [(h0, .inr (0, [.ref h1, .ref h2, .ref (u 0), .ref (u 1), .ref (u 2), .ref (u 3), .ref (u 4), .ref (u 5), .int 0, .int 0, .long 0, .int 0, .int 0])), ((u 0), .inl (cI, 5, .inl (fun _ => 0))), ((u 1), .inl (cI, 5, .inl (fun _ => 0))), ((u 2), .inl (cI, 4, .inl (fun _ => 0))), ((u 3), .inl (cI, 5, .inl (fun _ => 0))), ((u 4), .inl (cI, 4, .inl (fun _ => 0))), ((u 5), .inl (cL, 4, .inr (.inl (fun _ => 0))))]
set_option maxHeartbeats 4000000 in
set_option maxRecDepth 100000 in
theorem k_X0_init (l : Launch) (D : va_G) (cI cL : ClassId) (h0 sz : Nat) (h1 : Nat) (h2 : Nat) : ti_C l yX0_init cX0_init 3 { frames := 1, cells := 6, slots := 27, locals := 12 } [.ref h0, .ref h1, .ref h2] D cI cL sz [(h0, .inr (0, [.null, .null, .null, .null, .null, .null, .null, .null, .int 0, .int 0, .long 0, .int 0, .int 0]))] (wX0 cI cL h0 h1 h2) (fun u => [(cI, .int), (cL, .long)]) 6 27 := by
  refine Met.ofW (cc := cX0_init) (maxL := 3) (ret := none) (by decide) rfl ?_
  intro p e s m args below meth c s₁ B hml hv
  obtain ⟨rfl, hsz, hP, hK, hD0, hN⟩ := hv
  have hx := B.exec
  have hb := B.bytes
  have hr := B.returns
  have hts := atoms_spec (ws := Cond.code yX0_init cX0_init 3 none :: tn_T) B.pre
  have hT : ∀ w ∈ tn_T, w.before _ s = true := fun w h => hts w (List.mem_cons_of_mem _ h)
  have hown : s.vm.findClass RX0 = some m.cls := findClass_of_methodNamed B.named
  have hlocks := B.notSynchronized
  have hin : meth.name = "<init>" := (name_of_methodNamed B.named B.method).1
  subst hsz
  have hD := hD0.self (sz := s.heap.size)
  generalize hAe : va_A [(h0, .inr (0, [.null, .null, .null, .null, .null, .null, .null, .null, .int 0, .int 0, .long 0, .int 0, .int 0]))] s.heap.size = A at hD ⊢
  have hA : ∀ q : Nat, s.heap.size ≤ q → A q := fun q h => by rw [← hAe]; exact Or.inr h
  have hS : va_S A s.heap s.heap [] := va_S.rf
  have hP : va_P D classes [(h0, .inr (0, [.null, .null, .null, .null, .null, .null, .null, .null, .int 0, .int 0, .long 0, .int 0, .int 0]))] s.heap := hP
  have hl := lv_entry ([.ref h0, .ref h1, .ref h2]) (n := 3) (Nat.le_of_ble_eq_true rfl)
  rw [lg_entry_eq]
  generalize (lg_sl ([.ref h0, .ref h1, .ref h2]) ++ List.replicate (3 - (lg_sl ([.ref h0, .ref h1, .ref h2])).length) Slot.unset).toArray = ls at hl ⊢
  have hl : lv_has ls 3 [(0, .ref h0), (1, .ref h1), (2, .ref h2)] := hl
  refine lv_aload_n hx hb dX0_init_0 rfl (lv_at hl 0 rfl) ?_
  refine W.objInit hx hb hown (hT _ wi_155) (hT _ wi_81) (hT _ wi_82) rfl (by rw [hml]; exact hl.1) rfl dX0_init_1 (Nat.le_of_ble_eq_true rfl) (Nat.le_of_ble_eq_true rfl) ?_
  refine W.eq (g2 := F0 m 4 ls []) rfl ?_
  refine lv_aload_n hx hb dX0_init_4 rfl (lv_at hl 0 rfl) ?_
  refine lv_iconst (v := 5) hx hb dX0_init_5 (by decide) ?_
  refine tw_newI hx hb (hT _ wi_133) hK 0 rfl hP hD hS hA (n := 5) (N := 5) (by decide) (by decide) (by decide) (Nat.le_of_ble_eq_true rfl) (Nat.le_of_ble_eq_true rfl) dX0_init_6 (fun q6 H hP hD hS => ?_)
  have hP : va_P D classes [(h0, .inr (0, [.null, .null, .null, .null, .null, .null, .null, .null, .int 0, .int 0, .long 0, .int 0, .int 0])), (q6, .inl (cI, 5, .inl (fun _ => 0)))] H := hP
  have hD : va_D A [(h0, .inr (0, [.null, .null, .null, .null, .null, .null, .null, .null, .int 0, .int 0, .long 0, .int 0, .int 0])), (q6, .inl (cI, 5, .inl (fun _ => 0)))] := hD
  refine W.widen (k := 1) (n := 5) (by omega) (by omega) ?_
  refine va_putF (D := D) (ci := 0) (v := .ref q6) (ty := .array .int) (C := RX0) (T := TX0) (N := 13) hx hb hT in_X0 tyX0 tyX0_ok nmX0 hown hK hP hD hS 0 rfl rfl 2 (by decide) (hT _ wi_158) (fun _ h9 => h9) rfl hin rfl (by decide +kernel) rfl rfl (Nat.le_of_ble_eq_true rfl) dX0_init_8 (fun H locs hP hD hS => ?_)
  have hP : va_P D classes [(h0, .inr (0, [.null, .null, .ref q6, .null, .null, .null, .null, .null, .int 0, .int 0, .long 0, .int 0, .int 0])), (q6, .inl (cI, 5, .inl (fun _ => 0)))] H := hP
  have hD : va_D A [(h0, .inr (0, [.null, .null, .ref q6, .null, .null, .null, .null, .null, .int 0, .int 0, .long 0, .int 0, .int 0])), (q6, .inl (cI, 5, .inl (fun _ => 0)))] := hD
  refine lv_aload_n hx hb dX0_init_11 rfl (lv_at hl 0 rfl) ?_
  refine lv_iconst (v := 5) hx hb dX0_init_12 (by decide) ?_
  refine tw_newI hx hb (hT _ wi_133) hK 0 rfl hP hD hS hA (n := 5) (N := 5) (by decide) (by decide) (by decide) (Nat.le_of_ble_eq_true rfl) (Nat.le_of_ble_eq_true rfl) dX0_init_13 (fun q13 H hP hD hS => ?_)
  have hP : va_P D classes [(h0, .inr (0, [.null, .null, .ref q6, .null, .null, .null, .null, .null, .int 0, .int 0, .long 0, .int 0, .int 0])), (q6, .inl (cI, 5, .inl (fun _ => 0))), (q13, .inl (cI, 5, .inl (fun _ => 0)))] H := hP
  have hD : va_D A [(h0, .inr (0, [.null, .null, .ref q6, .null, .null, .null, .null, .null, .int 0, .int 0, .long 0, .int 0, .int 0])), (q6, .inl (cI, 5, .inl (fun _ => 0))), (q13, .inl (cI, 5, .inl (fun _ => 0)))] := hD
  refine W.widen (k := 2) (n := 10) (by omega) (by omega) ?_
  refine va_putF (D := D) (ci := 0) (v := .ref q13) (ty := .array .int) (C := RX0) (T := TX0) (N := 13) hx hb hT in_X0 tyX0 tyX0_ok nmX0 hown hK hP hD hS 0 rfl rfl 3 (by decide) (hT _ wi_160) (fun _ h9 => h9) rfl hin rfl (by decide +kernel) rfl rfl (Nat.le_of_ble_eq_true rfl) dX0_init_15 (fun H locs hP hD hS => ?_)
  have hP : va_P D classes [(h0, .inr (0, [.null, .null, .ref q6, .ref q13, .null, .null, .null, .null, .int 0, .int 0, .long 0, .int 0, .int 0])), (q6, .inl (cI, 5, .inl (fun _ => 0))), (q13, .inl (cI, 5, .inl (fun _ => 0)))] H := hP
  have hD : va_D A [(h0, .inr (0, [.null, .null, .ref q6, .ref q13, .null, .null, .null, .null, .int 0, .int 0, .long 0, .int 0, .int 0])), (q6, .inl (cI, 5, .inl (fun _ => 0))), (q13, .inl (cI, 5, .inl (fun _ => 0)))] := hD
  refine lv_aload_n hx hb dX0_init_18 rfl (lv_at hl 0 rfl) ?_
  refine lv_iconst (v := 4) hx hb dX0_init_19 (by decide) ?_
  refine tw_newI hx hb (hT _ wi_133) hK 0 rfl hP hD hS hA (n := 4) (N := 4) (by decide) (by decide) (by decide) (Nat.le_of_ble_eq_true rfl) (Nat.le_of_ble_eq_true rfl) dX0_init_20 (fun q20 H hP hD hS => ?_)
  have hP : va_P D classes [(h0, .inr (0, [.null, .null, .ref q6, .ref q13, .null, .null, .null, .null, .int 0, .int 0, .long 0, .int 0, .int 0])), (q6, .inl (cI, 5, .inl (fun _ => 0))), (q13, .inl (cI, 5, .inl (fun _ => 0))), (q20, .inl (cI, 4, .inl (fun _ => 0)))] H := hP
  have hD : va_D A [(h0, .inr (0, [.null, .null, .ref q6, .ref q13, .null, .null, .null, .null, .int 0, .int 0, .long 0, .int 0, .int 0])), (q6, .inl (cI, 5, .inl (fun _ => 0))), (q13, .inl (cI, 5, .inl (fun _ => 0))), (q20, .inl (cI, 4, .inl (fun _ => 0)))] := hD
  refine W.widen (k := 3) (n := 14) (by omega) (by omega) ?_
  refine va_putF (D := D) (ci := 0) (v := .ref q20) (ty := .array .int) (C := RX0) (T := TX0) (N := 13) hx hb hT in_X0 tyX0 tyX0_ok nmX0 hown hK hP hD hS 0 rfl rfl 4 (by decide) (hT _ wi_161) (fun _ h9 => h9) rfl hin rfl (by decide +kernel) rfl rfl (Nat.le_of_ble_eq_true rfl) dX0_init_22 (fun H locs hP hD hS => ?_)
  have hP : va_P D classes [(h0, .inr (0, [.null, .null, .ref q6, .ref q13, .ref q20, .null, .null, .null, .int 0, .int 0, .long 0, .int 0, .int 0])), (q6, .inl (cI, 5, .inl (fun _ => 0))), (q13, .inl (cI, 5, .inl (fun _ => 0))), (q20, .inl (cI, 4, .inl (fun _ => 0)))] H := hP
  have hD : va_D A [(h0, .inr (0, [.null, .null, .ref q6, .ref q13, .ref q20, .null, .null, .null, .int 0, .int 0, .long 0, .int 0, .int 0])), (q6, .inl (cI, 5, .inl (fun _ => 0))), (q13, .inl (cI, 5, .inl (fun _ => 0))), (q20, .inl (cI, 4, .inl (fun _ => 0)))] := hD
  refine lv_aload_n hx hb dX0_init_25 rfl (lv_at hl 0 rfl) ?_
  refine lv_iconst (v := 5) hx hb dX0_init_26 (by decide) ?_
  refine tw_newI hx hb (hT _ wi_133) hK 0 rfl hP hD hS hA (n := 5) (N := 5) (by decide) (by decide) (by decide) (Nat.le_of_ble_eq_true rfl) (Nat.le_of_ble_eq_true rfl) dX0_init_27 (fun q27 H hP hD hS => ?_)
  have hP : va_P D classes [(h0, .inr (0, [.null, .null, .ref q6, .ref q13, .ref q20, .null, .null, .null, .int 0, .int 0, .long 0, .int 0, .int 0])), (q6, .inl (cI, 5, .inl (fun _ => 0))), (q13, .inl (cI, 5, .inl (fun _ => 0))), (q20, .inl (cI, 4, .inl (fun _ => 0))), (q27, .inl (cI, 5, .inl (fun _ => 0)))] H := hP
  have hD : va_D A [(h0, .inr (0, [.null, .null, .ref q6, .ref q13, .ref q20, .null, .null, .null, .int 0, .int 0, .long 0, .int 0, .int 0])), (q6, .inl (cI, 5, .inl (fun _ => 0))), (q13, .inl (cI, 5, .inl (fun _ => 0))), (q20, .inl (cI, 4, .inl (fun _ => 0))), (q27, .inl (cI, 5, .inl (fun _ => 0)))] := hD
  refine W.widen (k := 4) (n := 19) (by omega) (by omega) ?_
  refine va_putF (D := D) (ci := 0) (v := .ref q27) (ty := .array .int) (C := RX0) (T := TX0) (N := 13) hx hb hT in_X0 tyX0 tyX0_ok nmX0 hown hK hP hD hS 0 rfl rfl 5 (by decide) (hT _ wi_162) (fun _ h9 => h9) rfl hin rfl (by decide +kernel) rfl rfl (Nat.le_of_ble_eq_true rfl) dX0_init_29 (fun H locs hP hD hS => ?_)
  have hP : va_P D classes [(h0, .inr (0, [.null, .null, .ref q6, .ref q13, .ref q20, .ref q27, .null, .null, .int 0, .int 0, .long 0, .int 0, .int 0])), (q6, .inl (cI, 5, .inl (fun _ => 0))), (q13, .inl (cI, 5, .inl (fun _ => 0))), (q20, .inl (cI, 4, .inl (fun _ => 0))), (q27, .inl (cI, 5, .inl (fun _ => 0)))] H := hP
  have hD : va_D A [(h0, .inr (0, [.null, .null, .ref q6, .ref q13, .ref q20, .ref q27, .null, .null, .int 0, .int 0, .long 0, .int 0, .int 0])), (q6, .inl (cI, 5, .inl (fun _ => 0))), (q13, .inl (cI, 5, .inl (fun _ => 0))), (q20, .inl (cI, 4, .inl (fun _ => 0))), (q27, .inl (cI, 5, .inl (fun _ => 0)))] := hD
  refine lv_aload_n hx hb dX0_init_32 rfl (lv_at hl 0 rfl) ?_
  refine lv_iconst (v := 4) hx hb dX0_init_33 (by decide) ?_
  refine tw_newI hx hb (hT _ wi_133) hK 0 rfl hP hD hS hA (n := 4) (N := 4) (by decide) (by decide) (by decide) (Nat.le_of_ble_eq_true rfl) (Nat.le_of_ble_eq_true rfl) dX0_init_34 (fun q34 H hP hD hS => ?_)
  have hP : va_P D classes [(h0, .inr (0, [.null, .null, .ref q6, .ref q13, .ref q20, .ref q27, .null, .null, .int 0, .int 0, .long 0, .int 0, .int 0])), (q6, .inl (cI, 5, .inl (fun _ => 0))), (q13, .inl (cI, 5, .inl (fun _ => 0))), (q20, .inl (cI, 4, .inl (fun _ => 0))), (q27, .inl (cI, 5, .inl (fun _ => 0))), (q34, .inl (cI, 4, .inl (fun _ => 0)))] H := hP
  have hD : va_D A [(h0, .inr (0, [.null, .null, .ref q6, .ref q13, .ref q20, .ref q27, .null, .null, .int 0, .int 0, .long 0, .int 0, .int 0])), (q6, .inl (cI, 5, .inl (fun _ => 0))), (q13, .inl (cI, 5, .inl (fun _ => 0))), (q20, .inl (cI, 4, .inl (fun _ => 0))), (q27, .inl (cI, 5, .inl (fun _ => 0))), (q34, .inl (cI, 4, .inl (fun _ => 0)))] := hD
  refine W.widen (k := 5) (n := 23) (by omega) (by omega) ?_
  refine va_putF (D := D) (ci := 0) (v := .ref q34) (ty := .array .int) (C := RX0) (T := TX0) (N := 13) hx hb hT in_X0 tyX0 tyX0_ok nmX0 hown hK hP hD hS 0 rfl rfl 6 (by decide) (hT _ wi_163) (fun _ h9 => h9) rfl hin rfl (by decide +kernel) rfl rfl (Nat.le_of_ble_eq_true rfl) dX0_init_36 (fun H locs hP hD hS => ?_)
  have hP : va_P D classes [(h0, .inr (0, [.null, .null, .ref q6, .ref q13, .ref q20, .ref q27, .ref q34, .null, .int 0, .int 0, .long 0, .int 0, .int 0])), (q6, .inl (cI, 5, .inl (fun _ => 0))), (q13, .inl (cI, 5, .inl (fun _ => 0))), (q20, .inl (cI, 4, .inl (fun _ => 0))), (q27, .inl (cI, 5, .inl (fun _ => 0))), (q34, .inl (cI, 4, .inl (fun _ => 0)))] H := hP
  have hD : va_D A [(h0, .inr (0, [.null, .null, .ref q6, .ref q13, .ref q20, .ref q27, .ref q34, .null, .int 0, .int 0, .long 0, .int 0, .int 0])), (q6, .inl (cI, 5, .inl (fun _ => 0))), (q13, .inl (cI, 5, .inl (fun _ => 0))), (q20, .inl (cI, 4, .inl (fun _ => 0))), (q27, .inl (cI, 5, .inl (fun _ => 0))), (q34, .inl (cI, 4, .inl (fun _ => 0)))] := hD
  refine lv_aload_n hx hb dX0_init_39 rfl (lv_at hl 0 rfl) ?_
  refine lv_iconst (v := 4) hx hb dX0_init_40 (by decide) ?_
  refine tw_newL hx hb (hT _ wi_149) hK 1 rfl hP hD hS hA (n := 4) (N := 4) (by decide) (by decide) (by decide) (Nat.le_of_ble_eq_true rfl) (Nat.le_of_ble_eq_true rfl) dX0_init_41 (fun q41 H hP hD hS => ?_)
  have hP : va_P D classes [(h0, .inr (0, [.null, .null, .ref q6, .ref q13, .ref q20, .ref q27, .ref q34, .null, .int 0, .int 0, .long 0, .int 0, .int 0])), (q6, .inl (cI, 5, .inl (fun _ => 0))), (q13, .inl (cI, 5, .inl (fun _ => 0))), (q20, .inl (cI, 4, .inl (fun _ => 0))), (q27, .inl (cI, 5, .inl (fun _ => 0))), (q34, .inl (cI, 4, .inl (fun _ => 0))), (q41, .inl (cL, 4, .inr (.inl (fun _ => 0))))] H := hP
  have hD : va_D A [(h0, .inr (0, [.null, .null, .ref q6, .ref q13, .ref q20, .ref q27, .ref q34, .null, .int 0, .int 0, .long 0, .int 0, .int 0])), (q6, .inl (cI, 5, .inl (fun _ => 0))), (q13, .inl (cI, 5, .inl (fun _ => 0))), (q20, .inl (cI, 4, .inl (fun _ => 0))), (q27, .inl (cI, 5, .inl (fun _ => 0))), (q34, .inl (cI, 4, .inl (fun _ => 0))), (q41, .inl (cL, 4, .inr (.inl (fun _ => 0))))] := hD
  refine W.widen (k := 6) (n := 27) (by omega) (by omega) ?_
  refine va_putF (D := D) (ci := 0) (v := .ref q41) (ty := .array .long) (C := RX0) (T := TX0) (N := 13) hx hb hT in_X0 tyX0 tyX0_ok nmX0 hown hK hP hD hS 0 rfl rfl 7 (by decide) (hT _ wi_165) (fun _ h9 => h9) rfl hin rfl (by decide +kernel) rfl rfl (Nat.le_of_ble_eq_true rfl) dX0_init_43 (fun H locs hP hD hS => ?_)
  have hP : va_P D classes [(h0, .inr (0, [.null, .null, .ref q6, .ref q13, .ref q20, .ref q27, .ref q34, .ref q41, .int 0, .int 0, .long 0, .int 0, .int 0])), (q6, .inl (cI, 5, .inl (fun _ => 0))), (q13, .inl (cI, 5, .inl (fun _ => 0))), (q20, .inl (cI, 4, .inl (fun _ => 0))), (q27, .inl (cI, 5, .inl (fun _ => 0))), (q34, .inl (cI, 4, .inl (fun _ => 0))), (q41, .inl (cL, 4, .inr (.inl (fun _ => 0))))] H := hP
  have hD : va_D A [(h0, .inr (0, [.null, .null, .ref q6, .ref q13, .ref q20, .ref q27, .ref q34, .ref q41, .int 0, .int 0, .long 0, .int 0, .int 0])), (q6, .inl (cI, 5, .inl (fun _ => 0))), (q13, .inl (cI, 5, .inl (fun _ => 0))), (q20, .inl (cI, 4, .inl (fun _ => 0))), (q27, .inl (cI, 5, .inl (fun _ => 0))), (q34, .inl (cI, 4, .inl (fun _ => 0))), (q41, .inl (cL, 4, .inr (.inl (fun _ => 0))))] := hD
  refine lv_aload_n hx hb dX0_init_46 rfl (lv_at hl 0 rfl) ?_
  refine lv_aload_n hx hb dX0_init_47 rfl (lv_at hl 1 rfl) ?_
  refine va_putF (D := D) (ci := 0) (v := .ref h1) (ty := .object "TillNine$Street") (C := RX0) (T := TX0) (N := 13) hx hb hT in_X0 tyX0 tyX0_ok nmX0 hown hK hP hD hS 0 rfl rfl 0 (by decide) (hT _ wi_156) (fun _ h9 => h9) rfl hin rfl (by decide +kernel) rfl rfl (Nat.le_of_ble_eq_true rfl) dX0_init_48 (fun H locs hP hD hS => ?_)
  have hP : va_P D classes [(h0, .inr (0, [.ref h1, .null, .ref q6, .ref q13, .ref q20, .ref q27, .ref q34, .ref q41, .int 0, .int 0, .long 0, .int 0, .int 0])), (q6, .inl (cI, 5, .inl (fun _ => 0))), (q13, .inl (cI, 5, .inl (fun _ => 0))), (q20, .inl (cI, 4, .inl (fun _ => 0))), (q27, .inl (cI, 5, .inl (fun _ => 0))), (q34, .inl (cI, 4, .inl (fun _ => 0))), (q41, .inl (cL, 4, .inr (.inl (fun _ => 0))))] H := hP
  have hD : va_D A [(h0, .inr (0, [.ref h1, .null, .ref q6, .ref q13, .ref q20, .ref q27, .ref q34, .ref q41, .int 0, .int 0, .long 0, .int 0, .int 0])), (q6, .inl (cI, 5, .inl (fun _ => 0))), (q13, .inl (cI, 5, .inl (fun _ => 0))), (q20, .inl (cI, 4, .inl (fun _ => 0))), (q27, .inl (cI, 5, .inl (fun _ => 0))), (q34, .inl (cI, 4, .inl (fun _ => 0))), (q41, .inl (cL, 4, .inr (.inl (fun _ => 0))))] := hD
  refine lv_aload_n hx hb dX0_init_51 rfl (lv_at hl 0 rfl) ?_
  refine lv_aload_n hx hb dX0_init_52 rfl (lv_at hl 2 rfl) ?_
  refine va_putF (D := D) (ci := 0) (v := .ref h2) (ty := .object "TillNine$Trade") (C := RX0) (T := TX0) (N := 13) hx hb hT in_X0 tyX0 tyX0_ok nmX0 hown hK hP hD hS 0 rfl rfl 1 (by decide) (hT _ wi_157) (fun _ h9 => h9) rfl hin rfl (by decide +kernel) rfl rfl (Nat.le_of_ble_eq_true rfl) dX0_init_53 (fun H locs hP hD hS => ?_)
  have hP : va_P D classes [(h0, .inr (0, [.ref h1, .ref h2, .ref q6, .ref q13, .ref q20, .ref q27, .ref q34, .ref q41, .int 0, .int 0, .long 0, .int 0, .int 0])), (q6, .inl (cI, 5, .inl (fun _ => 0))), (q13, .inl (cI, 5, .inl (fun _ => 0))), (q20, .inl (cI, 4, .inl (fun _ => 0))), (q27, .inl (cI, 5, .inl (fun _ => 0))), (q34, .inl (cI, 4, .inl (fun _ => 0))), (q41, .inl (cL, 4, .inr (.inl (fun _ => 0))))] H := hP
  have hD : va_D A [(h0, .inr (0, [.ref h1, .ref h2, .ref q6, .ref q13, .ref q20, .ref q27, .ref q34, .ref q41, .int 0, .int 0, .long 0, .int 0, .int 0])), (q6, .inl (cI, 5, .inl (fun _ => 0))), (q13, .inl (cI, 5, .inl (fun _ => 0))), (q20, .inl (cI, 4, .inl (fun _ => 0))), (q27, .inl (cI, 5, .inl (fun _ => 0))), (q34, .inl (cI, 4, .inl (fun _ => 0))), (q41, .inl (cL, 4, .inr (.inl (fun _ => 0))))] := hD
  have hP9 : va_P D classes (wX0 cI cL h0 h1 h2 (fun k => ([q6, q13, q20, q27, q34, q41] : List Nat).getD k 0)) H := hP.sub [0, 1, 2, 3, 4, 5, 6] rfl
  have hD9 : va_D A (wX0 cI cL h0 h1 h2 (fun k => ([q6, q13, q20, q27, q34, q41] : List Nat).getD k 0)) := hD.sub [0, 1, 2, 3, 4, 5, 6] (by decide) rfl
  exact W.vret hx hb hr (fun t ht hW => ⟨⟨(fun k => ([q6, q13, q20, q27, q34, q41] : List Nat).getD k 0), rfl, trivial, by rw [ht]; exact hP9, va_K.moved hW.alike hK, hD9⟩, hS.F ht⟩) hS.2.2 dX0_init_56

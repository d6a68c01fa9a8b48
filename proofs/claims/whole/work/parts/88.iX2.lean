def wX2 (cI cL : ClassId) (h0 : Nat) (u : (Nat → Nat) × (Nat → Nat) × ClassId) : va_W := [(h0, .inr (2, [.ref (u.1 0), .ref (u.1 1), .ref (u.1 2), .ref (u.1 3), .int 0, .int 0, .int 0, .int (-1), .int 0])), ((u.1 0), .inl (cI, 150, .inl (fun _ => 0))), ((u.1 1), .inl (cI, 5, .inl (fun _ => 0))), ((u.1 2), .inl (cI, 5, .inl (fun _ => 0))), ((u.1 3), .inl (u.2.2, 6, .inr (.inr (.inr (.inr (fun i => some (u.2.1 i))))))), ((u.2.1 0), .inl (cI, 6, .inl (fun _ => 0))), ((u.2.1 1), .inl (cI, 6, .inl (fun _ => 0))), ((u.2.1 2), .inl (cI, 6, .inl (fun _ => 0))), ((u.2.1 3), .inl (cI, 6, .inl (fun _ => 0))), ((u.2.1 4), .inl (cI, 6, .inl (fun _ => 0))), ((u.2.1 5), .inl (cI, 6, .inl (fun _ => 0)))]
set_option maxHeartbeats 4000000 in
set_option maxRecDepth 100000 in
theorem k_X2_init (l : Launch) (D : va_G) (cI cL : ClassId) (h0 sz : Nat) : ti_C l yX2_init cX2_init 1 { frames := 1, cells := 10, slots := 202, locals := 12 } [.ref h0] D cI cL sz [(h0, .inr (2, [.null, .null, .null, .null, .int 0, .int 0, .int 0, .int 0, .int 0]))] (wX2 cI cL h0) (fun u => [(cI, .int), (cL, .long), (u.2.2, .array .int)]) 10 202 := by
  refine Met.ofW (cc := cX2_init) (maxL := 1) (ret := none) (by decide) rfl ?_
  intro p e s m args below meth c s₁ B hml hv
  obtain ⟨rfl, hsz, hP, hK, hD0, hN⟩ := hv
  have hx := B.exec
  have hb := B.bytes
  have hr := B.returns
  have hts := atoms_spec (ws := Cond.code yX2_init cX2_init 1 none :: tn_T) B.pre
  have hT : ∀ w ∈ tn_T, w.before _ s = true := fun w h => hts w (List.mem_cons_of_mem _ h)
  have hown : s.vm.findClass RX2 = some m.cls := findClass_of_methodNamed B.named
  have hlocks := B.notSynchronized
  have hin : meth.name = "<init>" := (name_of_methodNamed B.named B.method).1
  subst hsz
  have hD := hD0.self (sz := s.heap.size)
  generalize hAe : va_A [(h0, .inr (2, [.null, .null, .null, .null, .int 0, .int 0, .int 0, .int 0, .int 0]))] s.heap.size = A at hD ⊢
  have hA : ∀ q : Nat, s.heap.size ≤ q → A q := fun q h => by rw [← hAe]; exact Or.inr h
  have hS : va_S A s.heap s.heap [] := va_S.rf
  have hP : va_P D classes [(h0, .inr (2, [.null, .null, .null, .null, .int 0, .int 0, .int 0, .int 0, .int 0]))] s.heap := hP
  have hl := lv_entry ([.ref h0]) (n := 1) (Nat.le_of_ble_eq_true rfl)
  rw [lg_entry_eq]
  generalize (lg_sl ([.ref h0]) ++ List.replicate (1 - (lg_sl ([.ref h0])).length) Slot.unset).toArray = ls at hl ⊢
  have hl : lv_has ls 1 [(0, .ref h0)] := hl
  refine lv_aload_n hx hb dX2_init_0 rfl (lv_at hl 0 rfl) ?_
  refine W.objInit hx hb hown (hT _ wi_88) (hT _ wi_81) (hT _ wi_82) rfl (by rw [hml]; exact hl.1) rfl dX2_init_1 (Nat.le_of_ble_eq_true rfl) (Nat.le_of_ble_eq_true rfl) ?_
  refine W.eq (g2 := F0 m 4 ls []) rfl ?_
  refine lv_aload_n hx hb dX2_init_4 rfl (lv_at hl 0 rfl) ?_
  refine lv_sipush (v := 150) hx hb dX2_init_5 (by decide) ?_
  refine tw_newI hx hb (hT _ wi_133) hK 0 rfl hP hD hS hA (n := 150) (N := 150) (by decide) (by decide) (by decide) (Nat.le_of_ble_eq_true rfl) (Nat.le_of_ble_eq_true rfl) dX2_init_8 (fun q8 H hP hD hS => ?_)
  have hP : va_P D classes [(h0, .inr (2, [.null, .null, .null, .null, .int 0, .int 0, .int 0, .int 0, .int 0])), (q8, .inl (cI, 150, .inl (fun _ => 0)))] H := hP
  have hD : va_D A [(h0, .inr (2, [.null, .null, .null, .null, .int 0, .int 0, .int 0, .int 0, .int 0])), (q8, .inl (cI, 150, .inl (fun _ => 0)))] := hD
  refine W.widen (k := 1) (n := 150) (by omega) (by omega) ?_
  refine va_putF (D := D) (ci := 2) (v := .ref q8) (ty := .array .int) (C := RX2) (T := TX2) (N := 9) hx hb hT in_X2 tyX2 tyX2_ok nmX2 hown hK hP hD hS 0 rfl rfl 0 (by decide) (hT _ wi_91) (fun _ h9 => h9) rfl hin rfl (by decide +kernel) rfl rfl (Nat.le_of_ble_eq_true rfl) dX2_init_10 (fun H locs hP hD hS => ?_)
  have hP : va_P D classes [(h0, .inr (2, [.ref q8, .null, .null, .null, .int 0, .int 0, .int 0, .int 0, .int 0])), (q8, .inl (cI, 150, .inl (fun _ => 0)))] H := hP
  have hD : va_D A [(h0, .inr (2, [.ref q8, .null, .null, .null, .int 0, .int 0, .int 0, .int 0, .int 0])), (q8, .inl (cI, 150, .inl (fun _ => 0)))] := hD
  refine lv_aload_n hx hb dX2_init_13 rfl (lv_at hl 0 rfl) ?_
  refine lv_iconst (v := 5) hx hb dX2_init_14 (by decide) ?_
  refine tw_newI hx hb (hT _ wi_133) hK 0 rfl hP hD hS hA (n := 5) (N := 5) (by decide) (by decide) (by decide) (Nat.le_of_ble_eq_true rfl) (Nat.le_of_ble_eq_true rfl) dX2_init_15 (fun q15 H hP hD hS => ?_)
  have hP : va_P D classes [(h0, .inr (2, [.ref q8, .null, .null, .null, .int 0, .int 0, .int 0, .int 0, .int 0])), (q8, .inl (cI, 150, .inl (fun _ => 0))), (q15, .inl (cI, 5, .inl (fun _ => 0)))] H := hP
  have hD : va_D A [(h0, .inr (2, [.ref q8, .null, .null, .null, .int 0, .int 0, .int 0, .int 0, .int 0])), (q8, .inl (cI, 150, .inl (fun _ => 0))), (q15, .inl (cI, 5, .inl (fun _ => 0)))] := hD
  refine W.widen (k := 2) (n := 155) (by omega) (by omega) ?_
  refine va_putF (D := D) (ci := 2) (v := .ref q15) (ty := .array .int) (C := RX2) (T := TX2) (N := 9) hx hb hT in_X2 tyX2 tyX2_ok nmX2 hown hK hP hD hS 0 rfl rfl 1 (by decide) (hT _ wi_92) (fun _ h9 => h9) rfl hin rfl (by decide +kernel) rfl rfl (Nat.le_of_ble_eq_true rfl) dX2_init_17 (fun H locs hP hD hS => ?_)
  have hP : va_P D classes [(h0, .inr (2, [.ref q8, .ref q15, .null, .null, .int 0, .int 0, .int 0, .int 0, .int 0])), (q8, .inl (cI, 150, .inl (fun _ => 0))), (q15, .inl (cI, 5, .inl (fun _ => 0)))] H := hP
  have hD : va_D A [(h0, .inr (2, [.ref q8, .ref q15, .null, .null, .int 0, .int 0, .int 0, .int 0, .int 0])), (q8, .inl (cI, 150, .inl (fun _ => 0))), (q15, .inl (cI, 5, .inl (fun _ => 0)))] := hD
  refine lv_aload_n hx hb dX2_init_20 rfl (lv_at hl 0 rfl) ?_
  refine lv_iconst (v := 5) hx hb dX2_init_21 (by decide) ?_
  refine tw_newI hx hb (hT _ wi_133) hK 0 rfl hP hD hS hA (n := 5) (N := 5) (by decide) (by decide) (by decide) (Nat.le_of_ble_eq_true rfl) (Nat.le_of_ble_eq_true rfl) dX2_init_22 (fun q22 H hP hD hS => ?_)
  have hP : va_P D classes [(h0, .inr (2, [.ref q8, .ref q15, .null, .null, .int 0, .int 0, .int 0, .int 0, .int 0])), (q8, .inl (cI, 150, .inl (fun _ => 0))), (q15, .inl (cI, 5, .inl (fun _ => 0))), (q22, .inl (cI, 5, .inl (fun _ => 0)))] H := hP
  have hD : va_D A [(h0, .inr (2, [.ref q8, .ref q15, .null, .null, .int 0, .int 0, .int 0, .int 0, .int 0])), (q8, .inl (cI, 150, .inl (fun _ => 0))), (q15, .inl (cI, 5, .inl (fun _ => 0))), (q22, .inl (cI, 5, .inl (fun _ => 0)))] := hD
  refine W.widen (k := 3) (n := 160) (by omega) (by omega) ?_
  refine va_putF (D := D) (ci := 2) (v := .ref q22) (ty := .array .int) (C := RX2) (T := TX2) (N := 9) hx hb hT in_X2 tyX2 tyX2_ok nmX2 hown hK hP hD hS 0 rfl rfl 2 (by decide) (hT _ wi_96) (fun _ h9 => h9) rfl hin rfl (by decide +kernel) rfl rfl (Nat.le_of_ble_eq_true rfl) dX2_init_24 (fun H locs hP hD hS => ?_)
  have hP : va_P D classes [(h0, .inr (2, [.ref q8, .ref q15, .ref q22, .null, .int 0, .int 0, .int 0, .int 0, .int 0])), (q8, .inl (cI, 150, .inl (fun _ => 0))), (q15, .inl (cI, 5, .inl (fun _ => 0))), (q22, .inl (cI, 5, .inl (fun _ => 0)))] H := hP
  have hD : va_D A [(h0, .inr (2, [.ref q8, .ref q15, .ref q22, .null, .int 0, .int 0, .int 0, .int 0, .int 0])), (q8, .inl (cI, 150, .inl (fun _ => 0))), (q15, .inl (cI, 5, .inl (fun _ => 0))), (q22, .inl (cI, 5, .inl (fun _ => 0)))] := hD
  refine lv_aload_n hx hb dX2_init_27 rfl (lv_at hl 0 rfl) ?_
  refine lv_bipush (v := 6) hx hb dX2_init_28 (by decide) ?_
  refine lv_bipush (v := 6) hx hb dX2_init_30 (by decide) ?_
  refine tw_multi hx hb hown (hT _ wi_89) hN.1 (hT _ wi_133) hK 0 rfl hP hD hS hA (n := 6) (k := 6) (N := 6) (K := 6) (by decide) (by decide) (by decide) (by decide) (by decide) (by decide) (Nat.le_of_ble_eq_true rfl) (Nat.le_of_ble_eq_true rfl) dX2_init_32 (fun q32 r32 cA32 H hK hP hD hS => ?_)
  have hK : va_K D classes [(cI, .int), (cL, .long), (cA32, .array .int)] s := hK
  have hP : va_P D classes [(h0, .inr (2, [.ref q8, .ref q15, .ref q22, .null, .int 0, .int 0, .int 0, .int 0, .int 0])), (q8, .inl (cI, 150, .inl (fun _ => 0))), (q15, .inl (cI, 5, .inl (fun _ => 0))), (q22, .inl (cI, 5, .inl (fun _ => 0))), (q32, .inl (cA32, 6, .inr (.inr (.inr (.inr (fun i => some (r32 i))))))), ((r32 0), .inl (cI, 6, .inl (fun _ => 0))), ((r32 1), .inl (cI, 6, .inl (fun _ => 0))), ((r32 2), .inl (cI, 6, .inl (fun _ => 0))), ((r32 3), .inl (cI, 6, .inl (fun _ => 0))), ((r32 4), .inl (cI, 6, .inl (fun _ => 0))), ((r32 5), .inl (cI, 6, .inl (fun _ => 0)))] H := hP
  have hD : va_D A [(h0, .inr (2, [.ref q8, .ref q15, .ref q22, .null, .int 0, .int 0, .int 0, .int 0, .int 0])), (q8, .inl (cI, 150, .inl (fun _ => 0))), (q15, .inl (cI, 5, .inl (fun _ => 0))), (q22, .inl (cI, 5, .inl (fun _ => 0))), (q32, .inl (cA32, 6, .inr (.inr (.inr (.inr (fun i => some (r32 i))))))), ((r32 0), .inl (cI, 6, .inl (fun _ => 0))), ((r32 1), .inl (cI, 6, .inl (fun _ => 0))), ((r32 2), .inl (cI, 6, .inl (fun _ => 0))), ((r32 3), .inl (cI, 6, .inl (fun _ => 0))), ((r32 4), .inl (cI, 6, .inl (fun _ => 0))), ((r32 5), .inl (cI, 6, .inl (fun _ => 0)))] := hD
  refine W.widen (k := 10) (n := 202) (by omega) (by omega) ?_
  refine va_putF (D := D) (ci := 2) (v := .ref q32) (ty := .array (.array .int)) (C := RX2) (T := TX2) (N := 9) hx hb hT in_X2 tyX2 tyX2_ok nmX2 hown hK hP hD hS 0 rfl rfl 3 (by decide) (hT _ wi_99) (fun _ h9 => h9) rfl hin rfl (by decide +kernel) rfl rfl (Nat.le_of_ble_eq_true rfl) dX2_init_36 (fun H locs hP hD hS => ?_)
  have hP : va_P D classes [(h0, .inr (2, [.ref q8, .ref q15, .ref q22, .ref q32, .int 0, .int 0, .int 0, .int 0, .int 0])), (q8, .inl (cI, 150, .inl (fun _ => 0))), (q15, .inl (cI, 5, .inl (fun _ => 0))), (q22, .inl (cI, 5, .inl (fun _ => 0))), (q32, .inl (cA32, 6, .inr (.inr (.inr (.inr (fun i => some (r32 i))))))), ((r32 0), .inl (cI, 6, .inl (fun _ => 0))), ((r32 1), .inl (cI, 6, .inl (fun _ => 0))), ((r32 2), .inl (cI, 6, .inl (fun _ => 0))), ((r32 3), .inl (cI, 6, .inl (fun _ => 0))), ((r32 4), .inl (cI, 6, .inl (fun _ => 0))), ((r32 5), .inl (cI, 6, .inl (fun _ => 0)))] H := hP
  have hD : va_D A [(h0, .inr (2, [.ref q8, .ref q15, .ref q22, .ref q32, .int 0, .int 0, .int 0, .int 0, .int 0])), (q8, .inl (cI, 150, .inl (fun _ => 0))), (q15, .inl (cI, 5, .inl (fun _ => 0))), (q22, .inl (cI, 5, .inl (fun _ => 0))), (q32, .inl (cA32, 6, .inr (.inr (.inr (.inr (fun i => some (r32 i))))))), ((r32 0), .inl (cI, 6, .inl (fun _ => 0))), ((r32 1), .inl (cI, 6, .inl (fun _ => 0))), ((r32 2), .inl (cI, 6, .inl (fun _ => 0))), ((r32 3), .inl (cI, 6, .inl (fun _ => 0))), ((r32 4), .inl (cI, 6, .inl (fun _ => 0))), ((r32 5), .inl (cI, 6, .inl (fun _ => 0)))] := hD
  refine lv_aload_n hx hb dX2_init_39 rfl (lv_at hl 0 rfl) ?_
  refine lv_iconst (v := (-1)) hx hb dX2_init_40 (by decide) ?_
  refine va_put (D := D) (ci := 2) (v := .int (-1)) (ty := .int) (C := RX2) (T := TX2) (N := 9) hx hb hT in_X2 tyX2 tyX2_ok nmX2 hown hK hP hD hS 0 rfl rfl 7 (by decide) (hT _ wi_111) (fun _ h9 => h9) rfl (by decide +kernel) rfl rfl (Nat.le_of_ble_eq_true rfl) dX2_init_41 (fun H locs hP hD hS => ?_)
  have hP : va_P D classes [(h0, .inr (2, [.ref q8, .ref q15, .ref q22, .ref q32, .int 0, .int 0, .int 0, .int (-1), .int 0])), (q8, .inl (cI, 150, .inl (fun _ => 0))), (q15, .inl (cI, 5, .inl (fun _ => 0))), (q22, .inl (cI, 5, .inl (fun _ => 0))), (q32, .inl (cA32, 6, .inr (.inr (.inr (.inr (fun i => some (r32 i))))))), ((r32 0), .inl (cI, 6, .inl (fun _ => 0))), ((r32 1), .inl (cI, 6, .inl (fun _ => 0))), ((r32 2), .inl (cI, 6, .inl (fun _ => 0))), ((r32 3), .inl (cI, 6, .inl (fun _ => 0))), ((r32 4), .inl (cI, 6, .inl (fun _ => 0))), ((r32 5), .inl (cI, 6, .inl (fun _ => 0)))] H := hP
  have hD : va_D A [(h0, .inr (2, [.ref q8, .ref q15, .ref q22, .ref q32, .int 0, .int 0, .int 0, .int (-1), .int 0])), (q8, .inl (cI, 150, .inl (fun _ => 0))), (q15, .inl (cI, 5, .inl (fun _ => 0))), (q22, .inl (cI, 5, .inl (fun _ => 0))), (q32, .inl (cA32, 6, .inr (.inr (.inr (.inr (fun i => some (r32 i))))))), ((r32 0), .inl (cI, 6, .inl (fun _ => 0))), ((r32 1), .inl (cI, 6, .inl (fun _ => 0))), ((r32 2), .inl (cI, 6, .inl (fun _ => 0))), ((r32 3), .inl (cI, 6, .inl (fun _ => 0))), ((r32 4), .inl (cI, 6, .inl (fun _ => 0))), ((r32 5), .inl (cI, 6, .inl (fun _ => 0)))] := hD
  have hP9 : va_P D classes (wX2 cI cL h0 ((fun k => ([q8, q15, q22, q32] : List Nat).getD k 0), r32, cA32)) H := hP.sub [0, 1, 2, 3, 4, 5, 6, 7, 8, 9, 10] rfl
  have hD9 : va_D A (wX2 cI cL h0 ((fun k => ([q8, q15, q22, q32] : List Nat).getD k 0), r32, cA32)) := hD.sub [0, 1, 2, 3, 4, 5, 6, 7, 8, 9, 10] (by decide) rfl
  exact W.vret hx hb hr (fun t ht hW => ⟨⟨((fun k => ([q8, q15, q22, q32] : List Nat).getD k 0), r32, cA32), rfl, trivial, by rw [ht]; exact hP9, va_K.moved hW.alike hK, hD9⟩, hS.F ht⟩) hS.2.2 dX2_init_44

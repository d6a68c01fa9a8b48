def wX1 (cI cL : ClassId) (h0 : Nat) (u : (Nat → Nat) × (Nat → Nat) × ClassId) : va_W := [(h0, .inr (1, [.ref (u.1 0), .ref (u.1 1), .ref (u.1 2), .int 0])), ((u.1 0), .inl (cI, 4, .inl ti_f)), ((u.1 1), .inl (cI, 4, .inl (fun _ => 0))), ((u.1 2), .inl (u.2.2, 4, .inr (.inr (.inr (.inr (fun i => some (u.2.1 i))))))), ((u.2.1 0), .inl (cI, 60, .inl (fun _ => 0))), ((u.2.1 1), .inl (cI, 60, .inl (fun _ => 0))), ((u.2.1 2), .inl (cI, 60, .inl (fun _ => 0))), ((u.2.1 3), .inl (cI, 60, .inl (fun _ => 0)))]
set_option maxHeartbeats 4000000 in
set_option maxRecDepth 100000 in
theorem k_X1_init (l : Launch) (D : va_G) (cI cL : ClassId) (h0 sz : Nat) : ti_C l yX1_init cX1_init 1 { frames := 1, cells := 7, slots := 252, locals := 12 } [.ref h0] D cI cL sz [(h0, .inr (1, [.null, .null, .null, .int 0]))] (wX1 cI cL h0) (fun u => [(cI, .int), (cL, .long), (u.2.2, .array .int)]) 7 252 := by
  refine Met.ofW (cc := cX1_init) (maxL := 1) (ret := none) (by decide) rfl ?_
  intro p e s m args below meth c s₁ B hml hv
  obtain ⟨rfl, hsz, hP, hK, hD0, hN⟩ := hv
  have hx := B.exec
  have hb := B.bytes
  have hr := B.returns
  have hts := atoms_spec (ws := Cond.code yX1_init cX1_init 1 none :: tn_T) B.pre
  have hT : ∀ w ∈ tn_T, w.before _ s = true := fun w h => hts w (List.mem_cons_of_mem _ h)
  have hown : s.vm.findClass RX1 = some m.cls := findClass_of_methodNamed B.named
  have hlocks := B.notSynchronized
  have hin : meth.name = "<init>" := (name_of_methodNamed B.named B.method).1
  subst hsz
  have hD := hD0.self (sz := s.heap.size)
  generalize hAe : va_A [(h0, .inr (1, [.null, .null, .null, .int 0]))] s.heap.size = A at hD ⊢
  have hA : ∀ q : Nat, s.heap.size ≤ q → A q := fun q h => by rw [← hAe]; exact Or.inr h
  have hS : va_S A s.heap s.heap [] := va_S.rf
  have hP : va_P D classes [(h0, .inr (1, [.null, .null, .null, .int 0]))] s.heap := hP
  have hl := lv_entry ([.ref h0]) (n := 1) (Nat.le_of_ble_eq_true rfl)
  rw [lg_entry_eq]
  generalize (lg_sl ([.ref h0]) ++ List.replicate (1 - (lg_sl ([.ref h0])).length) Slot.unset).toArray = ls at hl ⊢
  have hl : lv_has ls 1 [(0, .ref h0)] := hl
  refine lv_aload_n hx hb dX1_init_0 rfl (lv_at hl 0 rfl) ?_
  refine W.objInit hx hb hown (hT _ wi_206) (hT _ wi_81) (hT _ wi_82) rfl (by rw [hml]; exact hl.1) rfl dX1_init_1 (Nat.le_of_ble_eq_true rfl) (Nat.le_of_ble_eq_true rfl) ?_
  refine W.eq (g2 := F0 m 4 ls []) rfl ?_
  refine lv_aload_n hx hb dX1_init_4 rfl (lv_at hl 0 rfl) ?_
  refine lv_iconst (v := 4) hx hb dX1_init_5 (by decide) ?_
  refine tw_newI hx hb (hT _ wi_133) hK 0 rfl hP hD hS hA (n := 4) (N := 4) (by decide) (by decide) (by decide) (Nat.le_of_ble_eq_true rfl) (Nat.le_of_ble_eq_true rfl) dX1_init_6 (fun q6 H hP hD hS => ?_)
  have hP : va_P D classes [(h0, .inr (1, [.null, .null, .null, .int 0])), (q6, .inl (cI, 4, .inl (fun _ => 0)))] H := hP
  have hD : va_D A [(h0, .inr (1, [.null, .null, .null, .int 0])), (q6, .inl (cI, 4, .inl (fun _ => 0)))] := hD
  refine W.widen (k := 1) (n := 4) (by omega) (by omega) ?_
  refine lv_dup hx hb dX1_init_8 rfl ?_
  refine lv_iconst (v := 0) hx hb dX1_init_9 (by decide) ?_
  refine lv_iconst (v := (-1)) hx hb dX1_init_10 (by decide) ?_
  refine va_iast hx hb hK hP hD hS 1 0 rfl rfl (i := 0) (x := (-1)) (by unfold vp_in; decide) dX1_init_11 (fun H locs hP hD hS => ?_)
  have hP : va_P D classes [(h0, .inr (1, [.null, .null, .null, .int 0])), (q6, .inl (cI, 4, .inl (upd (fun _ => 0) 0 (-1))))] H := hP
  have hD : va_D A [(h0, .inr (1, [.null, .null, .null, .int 0])), (q6, .inl (cI, 4, .inl (upd (fun _ => 0) 0 (-1))))] := hD
  refine lv_dup hx hb dX1_init_12 rfl ?_
  refine lv_iconst (v := 1) hx hb dX1_init_13 (by decide) ?_
  refine lv_iconst (v := (-1)) hx hb dX1_init_14 (by decide) ?_
  refine va_iast hx hb hK hP hD hS 1 0 rfl rfl (i := 1) (x := (-1)) (by unfold vp_in; decide) dX1_init_15 (fun H locs hP hD hS => ?_)
  have hP : va_P D classes [(h0, .inr (1, [.null, .null, .null, .int 0])), (q6, .inl (cI, 4, .inl (upd (upd (fun _ => 0) 0 (-1)) 1 (-1))))] H := hP
  have hD : va_D A [(h0, .inr (1, [.null, .null, .null, .int 0])), (q6, .inl (cI, 4, .inl (upd (upd (fun _ => 0) 0 (-1)) 1 (-1))))] := hD
  refine lv_dup hx hb dX1_init_16 rfl ?_
  refine lv_iconst (v := 2) hx hb dX1_init_17 (by decide) ?_
  refine lv_iconst (v := (-1)) hx hb dX1_init_18 (by decide) ?_
  refine va_iast hx hb hK hP hD hS 1 0 rfl rfl (i := 2) (x := (-1)) (by unfold vp_in; decide) dX1_init_19 (fun H locs hP hD hS => ?_)
  have hP : va_P D classes [(h0, .inr (1, [.null, .null, .null, .int 0])), (q6, .inl (cI, 4, .inl (upd (upd (upd (fun _ => 0) 0 (-1)) 1 (-1)) 2 (-1))))] H := hP
  have hD : va_D A [(h0, .inr (1, [.null, .null, .null, .int 0])), (q6, .inl (cI, 4, .inl (upd (upd (upd (fun _ => 0) 0 (-1)) 1 (-1)) 2 (-1))))] := hD
  refine lv_dup hx hb dX1_init_20 rfl ?_
  refine lv_iconst (v := 3) hx hb dX1_init_21 (by decide) ?_
  refine lv_iconst (v := (-1)) hx hb dX1_init_22 (by decide) ?_
  refine va_iast hx hb hK hP hD hS 1 0 rfl rfl (i := 3) (x := (-1)) (by unfold vp_in; decide) dX1_init_23 (fun H locs hP hD hS => ?_)
  have hP : va_P D classes [(h0, .inr (1, [.null, .null, .null, .int 0])), (q6, .inl (cI, 4, .inl (upd (upd (upd (upd (fun _ => 0) 0 (-1)) 1 (-1)) 2 (-1)) 3 (-1))))] H := hP
  have hD : va_D A [(h0, .inr (1, [.null, .null, .null, .int 0])), (q6, .inl (cI, 4, .inl (upd (upd (upd (upd (fun _ => 0) 0 (-1)) 1 (-1)) 2 (-1)) 3 (-1))))] := hD
  refine va_putF (D := D) (ci := 1) (v := .ref q6) (ty := .array .int) (C := RX1) (T := TX1) (N := 4) hx hb hT in_X1 tyX1 tyX1_ok nmX1 hown hK hP hD hS 0 rfl rfl 0 (by decide) (hT _ wi_208) (fun _ h9 => h9) rfl hin rfl (by decide +kernel) rfl rfl (Nat.le_of_ble_eq_true rfl) dX1_init_24 (fun H locs hP hD hS => ?_)
  have hP : va_P D classes [(h0, .inr (1, [.ref q6, .null, .null, .int 0])), (q6, .inl (cI, 4, .inl (upd (upd (upd (upd (fun _ => 0) 0 (-1)) 1 (-1)) 2 (-1)) 3 (-1))))] H := hP
  have hD : va_D A [(h0, .inr (1, [.ref q6, .null, .null, .int 0])), (q6, .inl (cI, 4, .inl (upd (upd (upd (upd (fun _ => 0) 0 (-1)) 1 (-1)) 2 (-1)) 3 (-1))))] := hD
  refine lv_aload_n hx hb dX1_init_27 rfl (lv_at hl 0 rfl) ?_
  refine lv_iconst (v := 4) hx hb dX1_init_28 (by decide) ?_
  refine tw_newI hx hb (hT _ wi_133) hK 0 rfl hP hD hS hA (n := 4) (N := 4) (by decide) (by decide) (by decide) (Nat.le_of_ble_eq_true rfl) (Nat.le_of_ble_eq_true rfl) dX1_init_29 (fun q29 H hP hD hS => ?_)
  have hP : va_P D classes [(h0, .inr (1, [.ref q6, .null, .null, .int 0])), (q6, .inl (cI, 4, .inl (upd (upd (upd (upd (fun _ => 0) 0 (-1)) 1 (-1)) 2 (-1)) 3 (-1)))), (q29, .inl (cI, 4, .inl (fun _ => 0)))] H := hP
  have hD : va_D A [(h0, .inr (1, [.ref q6, .null, .null, .int 0])), (q6, .inl (cI, 4, .inl (upd (upd (upd (upd (fun _ => 0) 0 (-1)) 1 (-1)) 2 (-1)) 3 (-1)))), (q29, .inl (cI, 4, .inl (fun _ => 0)))] := hD
  refine W.widen (k := 2) (n := 8) (by omega) (by omega) ?_
  refine va_putF (D := D) (ci := 1) (v := .ref q29) (ty := .array .int) (C := RX1) (T := TX1) (N := 4) hx hb hT in_X1 tyX1 tyX1_ok nmX1 hown hK hP hD hS 0 rfl rfl 1 (by decide) (hT _ wi_210) (fun _ h9 => h9) rfl hin rfl (by decide +kernel) rfl rfl (Nat.le_of_ble_eq_true rfl) dX1_init_31 (fun H locs hP hD hS => ?_)
  have hP : va_P D classes [(h0, .inr (1, [.ref q6, .ref q29, .null, .int 0])), (q6, .inl (cI, 4, .inl (upd (upd (upd (upd (fun _ => 0) 0 (-1)) 1 (-1)) 2 (-1)) 3 (-1)))), (q29, .inl (cI, 4, .inl (fun _ => 0)))] H := hP
  have hD : va_D A [(h0, .inr (1, [.ref q6, .ref q29, .null, .int 0])), (q6, .inl (cI, 4, .inl (upd (upd (upd (upd (fun _ => 0) 0 (-1)) 1 (-1)) 2 (-1)) 3 (-1)))), (q29, .inl (cI, 4, .inl (fun _ => 0)))] := hD
  refine lv_aload_n hx hb dX1_init_34 rfl (lv_at hl 0 rfl) ?_
  refine lv_iconst (v := 4) hx hb dX1_init_35 (by decide) ?_
  refine lv_bipush (v := 60) hx hb dX1_init_36 (by decide) ?_
  refine tw_multi hx hb hown (hT _ wi_207) hN.1 (hT _ wi_133) hK 0 rfl hP hD hS hA (n := 4) (k := 60) (N := 4) (K := 60) (by decide) (by decide) (by decide) (by decide) (by decide) (by decide) (Nat.le_of_ble_eq_true rfl) (Nat.le_of_ble_eq_true rfl) dX1_init_38 (fun q38 r38 cA38 H hK hP hD hS => ?_)
  have hK : va_K D classes [(cI, .int), (cL, .long), (cA38, .array .int)] s := hK
  have hP : va_P D classes [(h0, .inr (1, [.ref q6, .ref q29, .null, .int 0])), (q6, .inl (cI, 4, .inl (upd (upd (upd (upd (fun _ => 0) 0 (-1)) 1 (-1)) 2 (-1)) 3 (-1)))), (q29, .inl (cI, 4, .inl (fun _ => 0))), (q38, .inl (cA38, 4, .inr (.inr (.inr (.inr (fun i => some (r38 i))))))), ((r38 0), .inl (cI, 60, .inl (fun _ => 0))), ((r38 1), .inl (cI, 60, .inl (fun _ => 0))), ((r38 2), .inl (cI, 60, .inl (fun _ => 0))), ((r38 3), .inl (cI, 60, .inl (fun _ => 0)))] H := hP
  have hD : va_D A [(h0, .inr (1, [.ref q6, .ref q29, .null, .int 0])), (q6, .inl (cI, 4, .inl (upd (upd (upd (upd (fun _ => 0) 0 (-1)) 1 (-1)) 2 (-1)) 3 (-1)))), (q29, .inl (cI, 4, .inl (fun _ => 0))), (q38, .inl (cA38, 4, .inr (.inr (.inr (.inr (fun i => some (r38 i))))))), ((r38 0), .inl (cI, 60, .inl (fun _ => 0))), ((r38 1), .inl (cI, 60, .inl (fun _ => 0))), ((r38 2), .inl (cI, 60, .inl (fun _ => 0))), ((r38 3), .inl (cI, 60, .inl (fun _ => 0)))] := hD
  refine W.widen (k := 7) (n := 252) (by omega) (by omega) ?_
  refine va_putF (D := D) (ci := 1) (v := .ref q38) (ty := .array (.array .int)) (C := RX1) (T := TX1) (N := 4) hx hb hT in_X1 tyX1 tyX1_ok nmX1 hown hK hP hD hS 0 rfl rfl 2 (by decide) (hT _ wi_212) (fun _ h9 => h9) rfl hin rfl (by decide +kernel) rfl rfl (Nat.le_of_ble_eq_true rfl) dX1_init_42 (fun H locs hP hD hS => ?_)
  have hP : va_P D classes [(h0, .inr (1, [.ref q6, .ref q29, .ref q38, .int 0])), (q6, .inl (cI, 4, .inl (upd (upd (upd (upd (fun _ => 0) 0 (-1)) 1 (-1)) 2 (-1)) 3 (-1)))), (q29, .inl (cI, 4, .inl (fun _ => 0))), (q38, .inl (cA38, 4, .inr (.inr (.inr (.inr (fun i => some (r38 i))))))), ((r38 0), .inl (cI, 60, .inl (fun _ => 0))), ((r38 1), .inl (cI, 60, .inl (fun _ => 0))), ((r38 2), .inl (cI, 60, .inl (fun _ => 0))), ((r38 3), .inl (cI, 60, .inl (fun _ => 0)))] H := hP
  have hD : va_D A [(h0, .inr (1, [.ref q6, .ref q29, .ref q38, .int 0])), (q6, .inl (cI, 4, .inl (upd (upd (upd (upd (fun _ => 0) 0 (-1)) 1 (-1)) 2 (-1)) 3 (-1)))), (q29, .inl (cI, 4, .inl (fun _ => 0))), (q38, .inl (cA38, 4, .inr (.inr (.inr (.inr (fun i => some (r38 i))))))), ((r38 0), .inl (cI, 60, .inl (fun _ => 0))), ((r38 1), .inl (cI, 60, .inl (fun _ => 0))), ((r38 2), .inl (cI, 60, .inl (fun _ => 0))), ((r38 3), .inl (cI, 60, .inl (fun _ => 0)))] := hD
  have hP9 : va_P D classes (wX1 cI cL h0 ((fun k => ([q6, q29, q38] : List Nat).getD k 0), r38, cA38)) H := hP.sub [0, 1, 2, 3, 4, 5, 6, 7] rfl
  have hD9 : va_D A (wX1 cI cL h0 ((fun k => ([q6, q29, q38] : List Nat).getD k 0), r38, cA38)) := hD.sub [0, 1, 2, 3, 4, 5, 6, 7] (by decide) rfl
  exact W.vret hx hb hr (fun t ht hW => ⟨⟨((fun k => ([q6, q29, q38] : List Nat).getD k 0), r38, cA38), rfl, trivial, by rw [ht]; exact hP9, va_K.moved hW.alike hK, hD9⟩, hS.F ht⟩) hS.2.2 dX1_init_45

set_option maxHeartbeats 4000000 in
set_option maxRecDepth 100000 in
/-- THE LAW, from its entry -/
theorem whole_start {p : Program} {e : Env} {s : State} {m : MethodId} {below : List Frame} {meth : Method} {c : Code} (l : Launch) (hflags : l.flags = flags0) {b L : Nat} {xs : Nat → Int32} (hL : L ≤ 3072) (C0 : lw_At p s m meth c b L xs) : W p l e room_1 s m #[Value.ref b] below meth c s.heap [] 0 0 (lw_Z below #[Value.ref b] s) (entryFrame m ([Value.ref b] : List Value).toArray 4) := by
  obtain ⟨hx, hb, hr, hml, hown, hts, hX, hbl, hlocks, hgv⟩ := id C0
  have hown : s.vm.findClass RL = some m.cls := hown
  have hA : ∀ q : Nat, s.heap.size ≤ q → (fun q : Nat => s.heap.size ≤ q) q := fun _ h => h
  have hbA : ¬ (fun q : Nat => s.heap.size ≤ q) b := Nat.not_le.mpr hbl
  have hT : ∀ w ∈ tn_T, w.before #[Value.ref b] s = true := fun w h => hts w (List.mem_filter.mp h).1
  obtain ⟨c0, iS0, hKn0⟩ := u_known (C := RX0) (T := TX0) (N := 13) (n := 13) hT in_X0 (hT _ wi_151)
  obtain ⟨c1, iS1, hKn1⟩ := u_known (C := RX1) (T := TX1) (N := 4) (n := 4) hT in_X1 (hT _ wi_202)
  obtain ⟨c2, iS2, hKn2⟩ := u_known (C := RX2) (T := TX2) (N := 9) (n := 9) hT in_X2 (hT _ wi_84)
  obtain ⟨c3, iS3, hKn3⟩ := u_known (C := RX3) (T := TX3) (N := 2) (n := 2) hT in_X3 (hT _ wi_135)
  obtain ⟨c4, iS4, hKn4⟩ := u_known (C := RX4) (T := TX4) (N := 7) (n := 7) hT in_X4 (hT _ wi_76)
  obtain ⟨c5, iS5, hKn5⟩ := u_known (C := RX5) (T := TX5) (N := 27) (n := 27) hT in_X5 (hT _ wi_699)
  obtain ⟨D, hKc⟩ : ∃ D : va_G, ∀ (k : Nat) (q : vw_C), classes[k]? = some q → u_Kn s q.1 q.2.1 q.2.2 (D.1 k) (D.2 k) := by
    refine ⟨(fun k => if k = 0 then c0 else if k = 1 then c1 else if k = 2 then c2 else if k = 3 then c3 else if k = 4 then c4 else c5, fun k => if k = 0 then iS0 else if k = 1 then iS1 else if k = 2 then iS2 else if k = 3 then iS3 else if k = 4 then iS4 else iS5), ?_⟩
    intro k q hq
    match k, hq with
    | 0, hq => cases hq; exact hKn0
    | 1, hq => cases hq; exact hKn1
    | 2, hq => cases hq; exact hKn2
    | 3, hq => cases hq; exact hKn3
    | 4, hq => cases hq; exact hKn4
    | 5, hq => cases hq; exact hKn5
    | k + 6, hq => simp [classes] at hq
  obtain ⟨cI, kI, coI, fI, gI, jI⟩ := Cond.arrayClass_spec (hT _ wi_133)
  obtain ⟨cL, kL, coL, fL, gL, jL⟩ := Cond.arrayClass_spec (hT _ wi_149)
  have hK : va_K D classes [(cI, .int), (cL, .long)] s := by
    refine ⟨hKc, fun k q h => ?_⟩
    match k, h with
    | 0, h => cases h; exact ⟨fun n z => ⟨fun k h => (by cases h), kI, gI, coI, jI⟩, fI⟩
    | 1, h => cases h; exact ⟨fun n z => ⟨fun k h => (by cases h), kL, gL, coL, jL⟩, fL⟩
    | k + 2, h => simp at h
  have hN : ti_N s := ⟨aov_vm (u := s) rfl (hts (Cond.arrayOver (.array .int)) (List.mem_of_getElem? (i := 90) (by decide +kernel))), va_Nw.of rfl (hts (Cond.methodLinkNest RX4 11 yX2_init RX4) (List.mem_of_getElem? (i := 85) (by decide +kernel))), va_Nw.of rfl (hts (Cond.methodLinkNest RX4 18 yX3_init RX4) (List.mem_of_getElem? (i := 136) (by decide +kernel))), va_Nw.of rfl (hts (Cond.methodLinkNest RX4 34 yX1_init RX4) (List.mem_of_getElem? (i := 203) (by decide +kernel)))⟩
  have hNc : va_Nw (.methodLinkNest RX0 132 yX4_ceiling RX4) s := va_Nw.of rfl (hts (Cond.methodLinkNest RX0 132 yX4_ceiling RX4) (List.mem_of_getElem? (i := 565) (by decide +kernel)))
  obtain ⟨hi, hZ, hTT⟩ := ti_stat hts hgv
  have hS : va_S (fun q : Nat => s.heap.size ≤ q) s.heap s.heap [] := va_S.rf
  have hP : va_P D classes [] s.heap := fun k q h => by simp at h
  have hD : va_D (fun q : Nat => s.heap.size ≤ q) [] := ⟨fun i j p q h => by simp at h, fun k q h => by simp at h⟩
  have hl := lv_entry ([.ref b]) (n := 4) (Nat.le_of_ble_eq_true rfl)
  rw [lg_entry_eq]
  generalize (lg_sl ([.ref b]) ++ List.replicate (4 - (lg_sl ([.ref b])).length) Slot.unset).toArray = ls at hl ⊢
  have hl : lv_has ls 4 [(0, .ref b)] := hl
  refine va_new (ci := 4) (fs := [.null, .null, .null, .null, .null, .null, .null]) (C := RX4) (T := TX4) (N := 7) hx hb hT in_X4 tyX4 tyX4_ok hown (hT _ wi_75) (hT _ wi_76) (hT _ wi_65) hK hP hD hS hA rfl df_X4 (Nat.le_of_ble_eq_true rfl) (Nat.le_of_ble_eq_true rfl) dL_law_0 (fun q0 H hP hD hS => ?_)
  have hP : va_P D classes [(q0, .inr (4, [.null, .null, .null, .null, .null, .null, .null]))] H := hP
  have hD : va_D (fun q : Nat => s.heap.size ≤ q) [(q0, .inr (4, [.null, .null, .null, .null, .null, .null, .null]))] := hD
  refine W.widen (k := 1) (n := 7) (by omega) (by omega) ?_
  refine lv_dup hx hb dL_law_3 rfl ?_
  have hFc := va_free (wc := [(q0, .inr (4, [.null, .null, .null, .null, .null, .null, .null]))]) hD hS hA [0] rfl
  refine va_callv (va_runI (As := []) (rest := [.ref q0]) ⟨hx, hb, hml, hown, hT⟩ (k_X4_init l D cI cL q0 H.size) (cwI 0 hT (tn_goodIn wi_79) rfl rfl rfl (hT _ wi_65) (hT _ wi_77) (hT _ wi_78) rfl (by decide +kernel) ⟨Nat.le_of_ble_eq_true rfl, Nat.le_of_ble_eq_true rfl⟩) ⟨ti_blind, ti_at hP hK hD hN⟩ rfl rfl hl.1 rfl (lv_room (Nat.le_of_ble_eq_true rfl)) dL_law_4 ⟨Nat.le_of_ble_eq_true rfl, Nat.le_of_ble_eq_true rfl⟩) hS (fun q _ h => hFc q h) hFc (fun u t H1 locs ht hvm hw hB hz1 hk1 hS => ?_)
  obtain ⟨u4, r4, t4, cA⟩ := u
  obtain ⟨hP1, hK1, hD1⟩ := hB
  rw [ht] at hP1
  have hK1 := va_K.moved hvm.symm hK1
  obtain ⟨hP, hD⟩ := va_join (wr := []) (w1 := wX4 cI cL q0 (u4, r4, t4, cA)) hP hD [0] [] rfl rfl (by decide) (by decide) hk1 hFc hP1 hD1
  have hK3 : va_K D classes [(cI, .int), (cL, .long), (cA, .array .int)] s := hK1
  generalize H1 = H at hP hS ⊢
  have hP : va_P D classes (wX4 cI cL q0 (u4, r4, t4, cA)) H := hP
  have hD : va_D (fun q : Nat => s.heap.size ≤ q) (wX4 cI cL q0 (u4, r4, t4, cA)) := hD
  refine W.widen (k := 32) (n := 1207) (by omega) (by omega) ?_
  refine lv_astore_n (lv' := [(1, .ref q0), (0, .ref b)]) hx hb dL_law_7 rfl hl (by decide) rfl (fun ls hl => ?_)
  refine va_new (ci := 5) (fs := [.null, .null, .null, .null, .int 0, .null, .int 0, .int 0, .int 0, .null, .null, .int 0, .null, .null, .null, .null, .null, .null, .int 0, .int 0, .int 0, .null, .null, .long 0, .int 0, .long 0, .null]) (C := RX5) (T := TX5) (N := 27) hx hb hT in_X5 tyX5 tyX5_ok hown (hT _ wi_698) (hT _ wi_699) (hT _ wi_70) hK hP hD hS hA rfl df_X5 (Nat.le_of_ble_eq_true rfl) (Nat.le_of_ble_eq_true rfl) dL_law_8 (fun q5 H hP hD hS => ?_)
  refine W.widen (k := 33) (n := 1234) (by omega) (by omega) ?_
  refine lv_dup hx hb dL_law_11 rfl ?_
  have hPc := hP.sub (ws' := [(q5, .inr (5, [.null, .null, .null, .null, .int 0, .null, .int 0, .int 0, .int 0, .null, .null, .int 0, .null, .null, .null, .null, .null, .null, .int 0, .int 0, .int 0, .null, .null, .long 0, .int 0, .long 0, .null]))]) [32] rfl
  have hDc := hD.sub (ws' := [(q5, .inr (5, [.null, .null, .null, .null, .int 0, .null, .int 0, .int 0, .int 0, .null, .null, .int 0, .null, .null, .null, .null, .null, .null, .int 0, .int 0, .int 0, .null, .null, .long 0, .int 0, .long 0, .null]))]) [32] (by decide) rfl
  have hFc := va_free (wc := [(q5, .inr (5, [.null, .null, .null, .null, .int 0, .null, .int 0, .int 0, .int 0, .null, .null, .int 0, .null, .null, .null, .null, .null, .null, .int 0, .int 0, .int 0, .null, .null, .long 0, .int 0, .long 0, .null]))]) hD hS hA [32] rfl
  refine va_callv (va_runI (As := []) (rest := [.ref q5]) ⟨hx, hb, hml, hown, hT⟩ (k_X5_init l D cI cL q5 H.size) (cwI 0 hT (tn_goodIn wi_702) rfl rfl rfl (hT _ wi_70) (hT _ wi_700) (hT _ wi_701) rfl (by decide +kernel) ⟨Nat.le_of_ble_eq_true rfl, Nat.le_of_ble_eq_true rfl⟩) ⟨ti_blind, ti_at hPc hK hDc hN⟩ rfl rfl hl.1 rfl (lv_room (Nat.le_of_ble_eq_true rfl)) dL_law_12 ⟨Nat.le_of_ble_eq_true rfl, Nat.le_of_ble_eq_true rfl⟩) hS (fun q _ h => hFc q h) hFc (fun u5 t H1 locs ht hvm hw hB hz1 hk1 hS => ?_)
  obtain ⟨hP1, hK1, hD1⟩ := hB
  rw [ht] at hP1
  obtain ⟨hP, hD⟩ := va_join (wr := wX4 cI cL q0 (u4, r4, t4, cA)) (w1 := wX5 cI cL q5 u5) hP hD [32] [0, 1, 2, 3, 4, 5, 6, 7, 8, 9, 10, 11, 12, 13, 14, 15, 16, 17, 18, 19, 20, 21, 22, 23, 24, 25, 26, 27, 28, 29, 30, 31] rfl rfl (by decide) (by decide) hk1 hFc hP1 hD1
  generalize H1 = H at hP hS ⊢
  refine W.widen (k := 49) (n := 1781) (by omega) (by omega) ?_
  refine lv_astore_n (lv' := [(2, .ref q5), (1, .ref q0), (0, .ref b)]) hx hb dL_law_15 rfl hl (by decide) rfl (fun ls hl => ?_)
  refine lv_iconst (v := 0) hx hb dL_law_16 (by decide) ?_
  refine lv_istore_n (lv' := [(3, .int 0), (2, .ref q5), (1, .ref q0), (0, .ref b)]) hx hb dL_law_17 rfl hl (by decide) rfl (fun ls hl => ?_)
  have hPE := ti_world (hi := hi) hP
  obtain ⟨hinj, hAll⟩ := ti_inj (D := D) (hi := hi) hD
  obtain ⟨r, σ', he⟩ := law_ends (xs := xs) hL
  have G : tn_Ok (ti_E D cI cL cA hi q0 q5 u4 r4 t4 u5) (p, l, e, room_1, s, m, #[Value.ref b], below, meth, c, 49, 1781, 4, (fun q : Nat => s.heap.size ≤ q), (fun _ _ => lw_Z below #[Value.ref b] s)) cL_law RL 4 room_1 := ⟨hx, hb, hml, rfl, hown, hT, hK3, hinj, hAll, ⟨hZ, hTT, hNc⟩, rfl, Nat.le_of_ble_eq_true rfl, Nat.le_of_ble_eq_true rfl⟩
  refine b_L_law_18 G hX hbl hbA (fun pc lv σ hd => ?_) tn_fuel 0 ti_σ H locs ls hPE hS (lv_sub hl [3, 2, 1, 0] rfl) r σ' he
  intro H locs ls hP hS hl r σ' _
  exact va_forget (fun q hq => hS.2.2 q hq) (W.widen (k := 600000) (n := 7302250) (Nat.le_of_ble_eq_true rfl) (Nat.le_of_ble_eq_true rfl) (lw_ret hx hb hr hlocks hd))

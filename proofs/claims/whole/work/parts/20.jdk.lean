/-! J6_bitCount_0f7a4 -/
def f_J6_bitCount_0f7a4  (a0 : Int32) (σ : tn_M) : Option (Int32 × tn_M) :=
  tn_lt (α := Int32) (a0 - ((Int32.toUInt32 a0 >>> (Int32.toUInt32 1 &&& Int32.toUInt32 31)).toInt32 &&& 1431655765)) fun w1 =>
  tn_lt (α := Int32) ((w1 &&& 858993459) + ((Int32.toUInt32 w1 >>> (Int32.toUInt32 2 &&& Int32.toUInt32 31)).toInt32 &&& 858993459)) fun w2 =>
  tn_lt (α := Int32) ((w2 + (Int32.toUInt32 w2 >>> (Int32.toUInt32 4 &&& Int32.toUInt32 31)).toInt32) &&& 252645135) fun w3 =>
  tn_lt (α := Int32) (w3 + (Int32.toUInt32 w3 >>> (Int32.toUInt32 8 &&& Int32.toUInt32 31)).toInt32) fun w4 =>
  tn_lt (α := Int32) (w4 + (Int32.toUInt32 w4 >>> (Int32.toUInt32 16 &&& Int32.toUInt32 31)).toInt32) fun w5 =>
  some ((w5 &&& 63), σ)
set_option maxHeartbeats 4000000 in
set_option maxRecDepth 20000 in
theorem b_J6_bitCount_0f7a4 {E : tn_E} {G : tn_G} (g : tn_Ok E G cJ6_bitCount_0f7a4 RJ6 1 (tn_rm 0 0)) (o : tn_Om E G (some .int))  (a0 : Int32) (σ : tn_M) : tn_V E G tn_ie 0 [(0, .int a0)] [] σ (f_J6_bitCount_0f7a4 a0 σ) := by
  unfold f_J6_bitCount_0f7a4
  refine tr_iload_n g 0 1 dJ6_bitCount_0f7a4_0 rfl rfl rfl ?_
  refine tr_iload_n g 0 2 dJ6_bitCount_0f7a4_1 rfl rfl rfl ?_
  refine tr_iconst (v := 1) g 3 dJ6_bitCount_0f7a4_2 rfl rfl ?_
  refine tr_iushr g 4 dJ6_bitCount_0f7a4_3 rfl ?_
  refine tr_ldcw (v := 1431655765) g wd_375 7 dJ6_bitCount_0f7a4_4 rfl ?_
  refine tr_iand g 8 dJ6_bitCount_0f7a4_7 rfl ?_
  refine tr_isub g 9 dJ6_bitCount_0f7a4_8 rfl ?_
  refine tr_lti (fun w1 => ?_)
  refine tr_istore_n (lv' := [(0, .int w1)]) g 10 dJ6_bitCount_0f7a4_9 rfl rfl (by decide) rfl ?_
  refine tr_iload_n g 0 11 dJ6_bitCount_0f7a4_10 rfl rfl rfl ?_
  refine tr_ldcw (v := 858993459) g wd_376 14 dJ6_bitCount_0f7a4_11 rfl ?_
  refine tr_iand g 15 dJ6_bitCount_0f7a4_14 rfl ?_
  refine tr_iload_n g 0 16 dJ6_bitCount_0f7a4_15 rfl rfl rfl ?_
  refine tr_iconst (v := 2) g 17 dJ6_bitCount_0f7a4_16 rfl rfl ?_
  refine tr_iushr g 18 dJ6_bitCount_0f7a4_17 rfl ?_
  refine tr_ldcw (v := 858993459) g wd_376 21 dJ6_bitCount_0f7a4_18 rfl ?_
  refine tr_iand g 22 dJ6_bitCount_0f7a4_21 rfl ?_
  refine tr_iadd g 23 dJ6_bitCount_0f7a4_22 rfl ?_
  refine tr_lti (fun w2 => ?_)
  refine tr_istore_n (lv' := [(0, .int w2)]) g 24 dJ6_bitCount_0f7a4_23 rfl rfl (by decide) rfl ?_
  refine tr_iload_n g 0 25 dJ6_bitCount_0f7a4_24 rfl rfl rfl ?_
  refine tr_iload_n g 0 26 dJ6_bitCount_0f7a4_25 rfl rfl rfl ?_
  refine tr_iconst (v := 4) g 27 dJ6_bitCount_0f7a4_26 rfl rfl ?_
  refine tr_iushr g 28 dJ6_bitCount_0f7a4_27 rfl ?_
  refine tr_iadd g 29 dJ6_bitCount_0f7a4_28 rfl ?_
  refine tr_ldcw (v := 252645135) g wd_377 32 dJ6_bitCount_0f7a4_29 rfl ?_
  refine tr_iand g 33 dJ6_bitCount_0f7a4_32 rfl ?_
  refine tr_lti (fun w3 => ?_)
  refine tr_istore_n (lv' := [(0, .int w3)]) g 34 dJ6_bitCount_0f7a4_33 rfl rfl (by decide) rfl ?_
  refine tr_iload_n g 0 35 dJ6_bitCount_0f7a4_34 rfl rfl rfl ?_
  refine tr_iload_n g 0 36 dJ6_bitCount_0f7a4_35 rfl rfl rfl ?_
  refine tr_bipush (v := 8) g 38 dJ6_bitCount_0f7a4_36 rfl rfl ?_
  refine tr_iushr g 39 dJ6_bitCount_0f7a4_38 rfl ?_
  refine tr_iadd g 40 dJ6_bitCount_0f7a4_39 rfl ?_
  refine tr_lti (fun w4 => ?_)
  refine tr_istore_n (lv' := [(0, .int w4)]) g 41 dJ6_bitCount_0f7a4_40 rfl rfl (by decide) rfl ?_
  refine tr_iload_n g 0 42 dJ6_bitCount_0f7a4_41 rfl rfl rfl ?_
  refine tr_iload_n g 0 43 dJ6_bitCount_0f7a4_42 rfl rfl rfl ?_
  refine tr_bipush (v := 16) g 45 dJ6_bitCount_0f7a4_43 rfl rfl ?_
  refine tr_iushr g 46 dJ6_bitCount_0f7a4_45 rfl ?_
  refine tr_iadd g 47 dJ6_bitCount_0f7a4_46 rfl ?_
  refine tr_lti (fun w5 => ?_)
  refine tr_istore_n (lv' := [(0, .int w5)]) g 48 dJ6_bitCount_0f7a4_47 rfl rfl (by decide) rfl ?_
  refine tr_iload_n g 0 49 dJ6_bitCount_0f7a4_48 rfl rfl rfl ?_
  refine tr_bipush (v := 63) g 51 dJ6_bitCount_0f7a4_49 rfl rfl ?_
  refine tr_iand g 52 dJ6_bitCount_0f7a4_51 rfl ?_
  exact tr_iret g o dJ6_bitCount_0f7a4_52
theorem ok_J6_bitCount_0f7a4 {E : tn_E} {l : Launch}   (a0 : Int32) {σ : tn_M} {r : Int32} {σ' : tn_M} (h : f_J6_bitCount_0f7a4 a0 σ = some (r, σ')) : tn_C E l yJ6_bitCount_0f7a4 cJ6_bitCount_0f7a4 1 (some .int) (tn_rm 0 0) [.int a0] σ (tn_ie r) σ' :=
  tn_met (by decide) (Nat.le_of_ble_eq_true rfl) (fun G _ g o => b_J6_bitCount_0f7a4 g o  a0 σ) h
theorem yy_J6_bitCount_0f7a4 : tn_Ys yJ6_bitCount_0f7a4 cJ6_bitCount_0f7a4 1 (some .int) 1 := ⟨wd_374, wd_373, wd_73, by decide, by decide, by decide +kernel⟩
theorem kv_J6_bitCount_0f7a4 {E : tn_E} {G : tn_G} {cc : ByteArray} {own : String} {nL : Nat} {R : Room} {ρ : Type} {enc : ρ → Option Value} {pc : Nat} {lv : List (Nat × Value)} {st : List Value} {σ : tn_M} {kk : Int32 → tn_M → Option (ρ × tn_M)} {i : Nat}  {a0 : Int32} (g : tn_Ok E G cc own nL R)  (hw : Cond.methodLink own i yJ6_bitCount_0f7a4 ∈ tn_T) (hroom : 1 ≤ R.frames ∧ 20 ≤ R.locals) (hW : (st.map fun v => v.category).sum ≤ 8) (n : Nat) (hd : decode cc pc = .ok (.invokestatic i, 3)) (hn : pc + 3 = n) (k : ∀ r σ1, tn_V E G enc n lv (.int r :: st) σ1 (kk r σ1)) : tn_V E G enc pc lv (.int a0 :: st) σ (tn_bd (f_J6_bitCount_0f7a4 a0 σ) kk) :=
  tr_callS (As := [.int a0]) (enc1 := tn_ie) g yy_J6_bitCount_0f7a4 hw (fun r σ1 h => ok_J6_bitCount_0f7a4  a0 h) ⟨rfl, rfl⟩ ⟨hroom.1, by have h2 := hroom.2; show 8 + (1 + 11) + 0 ≤ R.locals; omega⟩ rfl rfl hW n hd hn k
/-! J7_fill_53178 -/
def F_J7_fill_53178_5  : Nat → Nat → Int32 → Int32 → Int32 → tn_M → Option (Unit × tn_M)
  | 0, _, _, _, _, _ => none
  | tn_n + 1, k0, x1, x2, x3, σ => 
    if x3 ≤ x2 then
      some ((), σ)
    else
      tn_ck x2 (tn_len k0) <|
      tn_lt (tn_si σ k0 (tn_x x2) x1) fun σ1 =>
      F_J7_fill_53178_5 tn_n k0 x1 (x2 + 1) x3 σ1
def f_J7_fill_53178  (k0 : Nat) (a1 : Int32) (σ : tn_M) : Option (Unit × tn_M) :=
  tn_lt (α := Int32) (Int32.ofNat (tn_len k0)) fun w1 =>
  F_J7_fill_53178_5 tn_fuel k0 a1 0 w1 σ
set_option maxHeartbeats 4000000 in
set_option maxRecDepth 20000 in
theorem b_J7_fill_53178_5 {E : tn_E} {G : tn_G} (g : tn_Ok E G cJ7_fill_53178 RJ7 4 (tn_rm 0 0)) (o : tn_Om E G none) {k0 : Nat} (hk0 : tn_kd k0 = 1)  : ∀ (n : Nat) (x1 : Int32) (x2 : Int32) (x3 : Int32) (σ : tn_M), tn_V E G tn_ve 5 [(0, .ref (tn_ad E k0)), (1, .int x1), (2, .int x2), (3, .int x3)] [] σ (F_J7_fill_53178_5 n k0 x1 x2 x3 σ) := by
  intro n
  induction n with
  | zero => intros; exact tr_none
  | succ tn_n ih =>
    intro x1 x2 x3 σ
    rw [F_J7_fill_53178_5]
    refine tr_iload_n g 2 6 dJ7_fill_53178_5 rfl rfl rfl ?_
    refine tr_iload_n g 3 7 dJ7_fill_53178_6 rfl rfl rfl ?_
    refine tr_icmp_ge g 20 10 dJ7_fill_53178_7 rfl rfl ?_ ?_
    · exact tr_vret g o dJ7_fill_53178_20
    · refine tr_aload_n g 0 11 dJ7_fill_53178_10 rfl rfl rfl ?_
      refine tr_iload_n g 2 12 dJ7_fill_53178_11 rfl rfl rfl ?_
      refine tr_iload_n g 1 13 dJ7_fill_53178_12 rfl rfl rfl ?_
      refine tr_iast (N := (tn_len k0)) g 14 hk0 rfl dJ7_fill_53178_13 rfl (fun σ1 => ?_)
      refine tr_iinc (lv' := [(2, .int (x2 + 1)), (0, .ref (tn_ad E k0)), (1, .int x1), (3, .int x3)]) (x := (x2 + 1)) g 2 17 dJ7_fill_53178_14 rfl rfl rfl (by decide) rfl ?_
      refine tr_goto g 5 dJ7_fill_53178_17 rfl ?_
      refine tr_sub [1, 2, 0, 3] (lv' := [(0, .ref (tn_ad E k0)), (1, .int x1), (2, .int (x2 + 1)), (3, .int x3)]) rfl ?_
      exact ih _ _ _ _
set_option maxHeartbeats 4000000 in
set_option maxRecDepth 20000 in
theorem b_J7_fill_53178 {E : tn_E} {G : tn_G} (g : tn_Ok E G cJ7_fill_53178 RJ7 4 (tn_rm 0 0)) (o : tn_Om E G none) {k0 : Nat} (hk0 : tn_kd k0 = 1)  (a1 : Int32) (σ : tn_M) : tn_V E G tn_ve 0 [(0, .ref (tn_ad E k0)), (1, .int a1)] [] σ (f_J7_fill_53178 k0 a1 σ) := by
  unfold f_J7_fill_53178
  refine tr_iconst (v := 0) g 1 dJ7_fill_53178_0 rfl rfl ?_
  refine tr_istore_n (lv' := [(2, .int 0), (0, .ref (tn_ad E k0)), (1, .int a1)]) g 2 dJ7_fill_53178_1 rfl rfl (by decide) rfl ?_
  refine tr_aload_n g 1 3 dJ7_fill_53178_2 rfl rfl rfl ?_
  refine tr_alen g 4 hk0 rfl dJ7_fill_53178_3 rfl ?_
  refine tr_lti (fun w1 => ?_)
  refine tr_istore_n (lv' := [(3, .int w1), (2, .int 0), (0, .ref (tn_ad E k0)), (1, .int a1)]) g 5 dJ7_fill_53178_4 rfl rfl (by decide) rfl ?_
  refine tr_sub [2, 3, 1, 0] (lv' := [(0, .ref (tn_ad E k0)), (1, .int a1), (2, .int 0), (3, .int w1)]) rfl ?_
  exact b_J7_fill_53178_5 g o hk0 tn_fuel _ _ _ _
theorem ok_J7_fill_53178 {E : tn_E} {l : Launch} {k0 : Nat} (hk0 : tn_kd k0 = 1) (a1 : Int32) {σ : tn_M} {r : Unit} {σ' : tn_M} (h : f_J7_fill_53178 k0 a1 σ = some (r, σ')) : tn_C E l yJ7_fill_53178 cJ7_fill_53178 4 none (tn_rm 0 0) [.ref (tn_ad E k0), .int a1] σ (tn_ve r) σ' :=
  tn_met (by decide) (Nat.le_of_ble_eq_true rfl) (fun G _ g o => b_J7_fill_53178 g o hk0 a1 σ) h
theorem yy_J7_fill_53178 : tn_Ys yJ7_fill_53178 cJ7_fill_53178 4 none 2 := ⟨wd_394, wd_393, wd_72, by decide, by decide, by decide +kernel⟩
theorem kv_J7_fill_53178 {E : tn_E} {G : tn_G} {cc : ByteArray} {own : String} {nL : Nat} {R : Room} {ρ : Type} {enc : ρ → Option Value} {pc : Nat} {lv : List (Nat × Value)} {st : List Value} {σ : tn_M} {kk : Unit → tn_M → Option (ρ × tn_M)} {i : Nat} {k0 : Nat} {a1 : Int32} (g : tn_Ok E G cc own nL R) (hk0 : tn_kd k0 = 1) (hw : Cond.methodLink own i yJ7_fill_53178 ∈ tn_T) (hroom : 1 ≤ R.frames ∧ 23 ≤ R.locals) (hW : (st.map fun v => v.category).sum ≤ 8) (n : Nat) (hd : decode cc pc = .ok (.invokestatic i, 3)) (hn : pc + 3 = n) (k : ∀ r σ1, tn_V E G enc n lv (st) σ1 (kk r σ1)) : tn_V E G enc pc lv (.int a1 :: .ref (tn_ad E k0) :: st) σ (tn_bd (f_J7_fill_53178 k0 a1 σ) kk) :=
  tr_callS (As := [.ref (tn_ad E k0), .int a1]) (enc1 := tn_ve) g yy_J7_fill_53178 hw (fun r σ1 h => ok_J7_fill_53178 hk0 a1 h) ⟨rfl, rfl⟩ ⟨hroom.1, by have h2 := hroom.2; show 8 + (4 + 11) + 0 ≤ R.locals; omega⟩ rfl rfl hW n hd hn k
/-! J7_fill_d0a16 -/
def F_J7_fill_d0a16_6  : Nat → Int64 → Int32 → Int32 → tn_M → Option (Unit × tn_M)
  | 0, _, _, _, _ => none
  | tn_n + 1, x1, x3, x4, σ => 
    if x4 ≤ x3 then
      some ((), σ)
    else
      tn_ck x3 672 <|
      tn_lt (tn_sl σ 19 (tn_x x3) x1) fun σ1 =>
      F_J7_fill_d0a16_6 tn_n x1 (x3 + 1) x4 σ1
def f_J7_fill_d0a16  (a1 : Int64) (σ : tn_M) : Option (Unit × tn_M) :=
  F_J7_fill_d0a16_6 tn_fuel a1 0 672 σ
set_option maxHeartbeats 4000000 in
set_option maxRecDepth 20000 in
theorem b_J7_fill_d0a16_6 {E : tn_E} {G : tn_G} (g : tn_Ok E G cJ7_fill_d0a16 RJ7 5 (tn_rm 0 0)) (o : tn_Om E G none)  : ∀ (n : Nat) (x1 : Int64) (x3 : Int32) (x4 : Int32) (σ : tn_M), tn_V E G tn_ve 6 [(0, .ref (tn_ad E 19)), (1, .long x1), (3, .int x3), (4, .int x4)] [] σ (F_J7_fill_d0a16_6 n x1 x3 x4 σ) := by
  intro n
  induction n with
  | zero => intros; exact tr_none
  | succ tn_n ih =>
    intro x1 x3 x4 σ
    rw [F_J7_fill_d0a16_6]
    refine tr_iload_n g 2 7 dJ7_fill_d0a16_6 rfl rfl rfl ?_
    refine tr_iload g 3 9 dJ7_fill_d0a16_7 rfl rfl ?_
    refine tr_icmp_ge g 22 12 dJ7_fill_d0a16_9 rfl rfl ?_ ?_
    · exact tr_vret g o dJ7_fill_d0a16_22
    · refine tr_aload_n g 0 13 dJ7_fill_d0a16_12 rfl rfl rfl ?_
      refine tr_iload_n g 2 14 dJ7_fill_d0a16_13 rfl rfl rfl ?_
      refine tr_lload_n g 1 15 dJ7_fill_d0a16_14 rfl rfl rfl ?_
      refine tr_last (N := 672) g 16 rfl rfl dJ7_fill_d0a16_15 rfl (fun σ1 => ?_)
      refine tr_iinc (lv' := [(3, .int (x3 + 1)), (0, .ref (tn_ad E 19)), (1, .long x1), (4, .int x4)]) (x := (x3 + 1)) g 2 19 dJ7_fill_d0a16_16 rfl rfl rfl (by decide) rfl ?_
      refine tr_goto g 6 dJ7_fill_d0a16_19 rfl ?_
      refine tr_sub [1, 2, 0, 3] (lv' := [(0, .ref (tn_ad E 19)), (1, .long x1), (3, .int (x3 + 1)), (4, .int x4)]) rfl ?_
      exact ih _ _ _ _
set_option maxHeartbeats 4000000 in
set_option maxRecDepth 20000 in
theorem b_J7_fill_d0a16 {E : tn_E} {G : tn_G} (g : tn_Ok E G cJ7_fill_d0a16 RJ7 5 (tn_rm 0 0)) (o : tn_Om E G none)  (a1 : Int64) (σ : tn_M) : tn_V E G tn_ve 0 [(0, .ref (tn_ad E 19)), (1, .long a1)] [] σ (f_J7_fill_d0a16 a1 σ) := by
  unfold f_J7_fill_d0a16
  refine tr_iconst (v := 0) g 1 dJ7_fill_d0a16_0 rfl rfl ?_
  refine tr_istore_n (lv' := [(3, .int 0), (0, .ref (tn_ad E 19)), (1, .long a1)]) g 2 dJ7_fill_d0a16_1 rfl rfl (by decide) rfl ?_
  refine tr_aload_n g 1 3 dJ7_fill_d0a16_2 rfl rfl rfl ?_
  refine tr_alenl (v := 672) g 4 rfl rfl dJ7_fill_d0a16_3 rfl ?_
  refine tr_istore (lv' := [(4, .int 672), (3, .int 0), (0, .ref (tn_ad E 19)), (1, .long a1)]) g 6 dJ7_fill_d0a16_4 rfl (by decide) rfl ?_
  refine tr_sub [2, 3, 1, 0] (lv' := [(0, .ref (tn_ad E 19)), (1, .long a1), (3, .int 0), (4, .int 672)]) rfl ?_
  exact b_J7_fill_d0a16_6 g o  tn_fuel _ _ _ _
theorem ok_J7_fill_d0a16 {E : tn_E} {l : Launch}   (a1 : Int64) {σ : tn_M} {r : Unit} {σ' : tn_M} (h : f_J7_fill_d0a16 a1 σ = some (r, σ')) : tn_C E l yJ7_fill_d0a16 cJ7_fill_d0a16 5 none (tn_rm 0 0) [.ref (tn_ad E 19), .long a1] σ (tn_ve r) σ' :=
  tn_met (by decide) (Nat.le_of_ble_eq_true rfl) (fun G _ g o => b_J7_fill_d0a16 g o  a1 σ) h
theorem yy_J7_fill_d0a16 : tn_Ys yJ7_fill_d0a16 cJ7_fill_d0a16 5 none 2 := ⟨wd_364, wd_363, wd_72, by decide, by decide, by decide +kernel⟩
theorem kv_J7_fill_d0a16 {E : tn_E} {G : tn_G} {cc : ByteArray} {own : String} {nL : Nat} {R : Room} {ρ : Type} {enc : ρ → Option Value} {pc : Nat} {lv : List (Nat × Value)} {st : List Value} {σ : tn_M} {kk : Unit → tn_M → Option (ρ × tn_M)} {i : Nat}  {a1 : Int64} (g : tn_Ok E G cc own nL R)  (hw : Cond.methodLink own i yJ7_fill_d0a16 ∈ tn_T) (hroom : 1 ≤ R.frames ∧ 24 ≤ R.locals) (hW : (st.map fun v => v.category).sum ≤ 8) (n : Nat) (hd : decode cc pc = .ok (.invokestatic i, 3)) (hn : pc + 3 = n) (k : ∀ r σ1, tn_V E G enc n lv (st) σ1 (kk r σ1)) : tn_V E G enc pc lv (.long a1 :: .ref (tn_ad E 19) :: st) σ (tn_bd (f_J7_fill_d0a16 a1 σ) kk) :=
  tr_callS (As := [.ref (tn_ad E 19), .long a1]) (enc1 := tn_ve) g yy_J7_fill_d0a16 hw (fun r σ1 h => ok_J7_fill_d0a16  a1 h) ⟨rfl, rfl⟩ ⟨hroom.1, by have h2 := hroom.2; show 8 + (5 + 11) + 0 ≤ R.locals; omega⟩ rfl rfl hW n hd hn k
/-! X4_ceiling -/
def f_X4_ceiling  (a0 : Int64) (a2 : Int64) (σ : tn_M) : Option (Int64 × tn_M) :=
  if a0 ≤ 0 then
    some (0, σ)
  else
    if 0 < a2 then
      tn_dzl a2 <|
      some ((((a0 - 1) / a2) + 1), σ)
    else
      some (0, σ)
set_option maxHeartbeats 4000000 in
set_option maxRecDepth 20000 in
theorem b_X4_ceiling {E : tn_E} {G : tn_G} (g : tn_Ok E G cX4_ceiling RX4 4 (tn_rm 0 0)) (o : tn_Om E G (some .long))  (a0 : Int64) (a2 : Int64) (σ : tn_M) : tn_V E G tn_le 0 [(0, .long a0), (2, .long a2)] [] σ (f_X4_ceiling a0 a2 σ) := by
  unfold f_X4_ceiling
  refine tr_lload_n g 0 1 dX4_ceiling_0 rfl rfl rfl ?_
  refine tr_lconst (v := 0) g 2 dX4_ceiling_1 rfl rfl ?_
  refine tr_lle g 12 6 dX4_ceiling_2 dX4_ceiling_3 rfl rfl ?_ ?_
  · refine tr_lconst (v := 0) g 13 dX4_ceiling_12 rfl rfl ?_
    exact tr_lret g o dX4_ceiling_13
  · refine tr_lload_n g 1 7 dX4_ceiling_6 rfl rfl rfl ?_
    refine tr_lconst (v := 0) g 8 dX4_ceiling_7 rfl rfl ?_
    refine tr_lgt g 14 12 dX4_ceiling_8 dX4_ceiling_9 rfl rfl ?_ ?_
    · refine tr_lload_n g 0 15 dX4_ceiling_14 rfl rfl rfl ?_
      refine tr_lconst (v := 1) g 16 dX4_ceiling_15 rfl rfl ?_
      refine tr_lsub g 17 dX4_ceiling_16 rfl ?_
      refine tr_lload_n g 1 18 dX4_ceiling_17 rfl rfl rfl ?_
      refine tr_ldiv g 19 dX4_ceiling_18 rfl ?_
      refine tr_lconst (v := 1) g 20 dX4_ceiling_19 rfl rfl ?_
      refine tr_ladd g 21 dX4_ceiling_20 rfl ?_
      exact tr_lret g o dX4_ceiling_21
    · refine tr_lconst (v := 0) g 13 dX4_ceiling_12 rfl rfl ?_
      exact tr_lret g o dX4_ceiling_13
theorem ok_X4_ceiling {E : tn_E} {l : Launch}   (a0 : Int64) (a2 : Int64) {σ : tn_M} {r : Int64} {σ' : tn_M} (h : f_X4_ceiling a0 a2 σ = some (r, σ')) : tn_C E l yX4_ceiling cX4_ceiling 4 (some .long) (tn_rm 0 0) [.long a0, .long a2] σ (tn_le r) σ' :=
  tn_met (by decide) (Nat.le_of_ble_eq_true rfl) (fun G _ g o => b_X4_ceiling g o  a0 a2 σ) h
theorem yy_X4_ceiling : tn_Ys yX4_ceiling cX4_ceiling 4 (some .long) 2 := ⟨wd_536, wd_535, wd_65, by decide, by decide, by decide +kernel⟩
theorem kv_X4_ceiling {E : tn_E} {G : tn_G} {cc : ByteArray} {own : String} {nL : Nat} {R : Room} {ρ : Type} {enc : ρ → Option Value} {pc : Nat} {lv : List (Nat × Value)} {st : List Value} {σ : tn_M} {kk : Int64 → tn_M → Option (ρ × tn_M)} {i : Nat}  {a0 : Int64} {a2 : Int64} (g : tn_Ok E G cc own nL R)  (hw : Cond.methodLink own i yX4_ceiling ∈ tn_T) (hroom : 1 ≤ R.frames ∧ 23 ≤ R.locals) (hW : (st.map fun v => v.category).sum ≤ 8) (n : Nat) (hd : decode cc pc = .ok (.invokestatic i, 3)) (hn : pc + 3 = n) (k : ∀ r σ1, tn_V E G enc n lv (.long r :: st) σ1 (kk r σ1)) : tn_V E G enc pc lv (.long a2 :: .long a0 :: st) σ (tn_bd (f_X4_ceiling a0 a2 σ) kk) :=
  tr_callS (As := [.long a0, .long a2]) (enc1 := tn_le) g yy_X4_ceiling hw (fun r σ1 h => ok_X4_ceiling  a0 a2 h) ⟨rfl, rfl⟩ ⟨hroom.1, by have h2 := hroom.2; show 8 + (4 + 11) + 0 ≤ R.locals; omega⟩ rfl rfl hW n hd hn k
theorem kn_X4_ceiling {E : tn_E} {G : tn_G} {cc : ByteArray}  {nL : Nat} {R : Room} {ρ : Type} {enc : ρ → Option Value} {pc : Nat} {lv : List (Nat × Value)} {st : List Value} {σ : tn_M} {kk : Int64 → tn_M → Option (ρ × tn_M)}   {a0 : Int64} {a2 : Int64} (g : tn_Ok E G cc RX0 nL R)  (hroom : 1 ≤ R.frames ∧ 23 ≤ R.locals) (hW : (st.map fun v => v.category).sum ≤ 8) (n : Nat) (hd : decode cc pc = .ok (.invokestatic 132, 3)) (hn : pc + 3 = n) (k : ∀ r σ1, tn_V E G enc n lv (.long r :: st) σ1 (kk r σ1)) : tn_V E G enc pc lv (.long a2 :: .long a0 :: st) σ (tn_bd (f_X4_ceiling a0 a2 σ) kk) :=
  tr_callN (As := [.long a0, .long a2]) (enc1 := tn_le) g yy_X4_ceiling (fun r σ1 h => ok_X4_ceiling  a0 a2 h) ⟨rfl, rfl⟩ ⟨hroom.1, by have h2 := hroom.2; show 8 + (4 + 11) + 0 ≤ R.locals; omega⟩ rfl rfl hW n hd hn k

/-! X2_next -/
def f_X2_next   (σ : tn_M) : Option (Int32 × tn_M) :=
  if (σ.1 1 8) < 0 then
    some ((-1), σ)
  else
    if (σ.1 1 4) ≤ (σ.1 1 8) then
      some ((-1), σ)
    else
      tn_ck (σ.1 1 8) 150 <|
      some ((σ.1 9 (tn_x (σ.1 1 8))), σ)
set_option maxHeartbeats 4000000 in
set_option maxRecDepth 20000 in
theorem b_X2_next {E : tn_E} {G : tn_G} (g : tn_Ok E G cX2_next RX2 1 (tn_rm 0 0)) (o : tn_Om E G (some .int))   (σ : tn_M) : tn_V E G tn_ie 0 [(0, .ref (tn_ad E 1))] [] σ (f_X2_next σ) := by
  unfold f_X2_next
  refine tr_aload_n g 0 1 dX2_next_0 rfl rfl rfl ?_
  refine gf_X2_8 g wd_113 4 dX2_next_1 rfl ?_
  refine tr_if_lt g 30 7 dX2_next_4 rfl rfl ?_ ?_
  · refine tr_iconst (v := (-1)) g 31 dX2_next_30 rfl rfl ?_
    exact tr_iret g o dX2_next_31
  · refine tr_aload_n g 0 8 dX2_next_7 rfl rfl rfl ?_
    refine gf_X2_8 g wd_113 11 dX2_next_8 rfl ?_
    refine tr_aload_n g 0 12 dX2_next_11 rfl rfl rfl ?_
    refine gf_X2_4 g wd_102 15 dX2_next_12 rfl ?_
    refine tr_icmp_ge g 30 18 dX2_next_15 rfl rfl ?_ ?_
    · refine tr_iconst (v := (-1)) g 31 dX2_next_30 rfl rfl ?_
      exact tr_iret g o dX2_next_31
    · refine tr_aload_n g 0 19 dX2_next_18 rfl rfl rfl ?_
      refine gf_X2_0 g wd_91 22 dX2_next_19 rfl ?_
      refine tr_aload_n g 0 23 dX2_next_22 rfl rfl rfl ?_
      refine gf_X2_8 g wd_113 26 dX2_next_23 rfl ?_
      refine tr_iald (N := 150) g 27 rfl rfl dX2_next_26 rfl ?_
      refine tr_goto g 31 dX2_next_27 rfl ?_
      exact tr_iret g o dX2_next_31
theorem ok_X2_next {E : tn_E} {l : Launch}    {σ : tn_M} {r : Int32} {σ' : tn_M} (h : f_X2_next  σ = some (r, σ')) : tn_C E l yX2_next cX2_next 1 (some .int) (tn_rm 0 0) [.ref (tn_ad E 1)] σ (tn_ie r) σ' :=
  tn_met (by decide) (Nat.le_of_ble_eq_true rfl) (fun G _ g o => b_X2_next g o   σ) h
theorem yy_X2_next : tn_Yv RX2 yX2_next cX2_next 1 (some .int) 0 := ⟨wd_266, wd_265, wd_2, wd_66, by decide, by decide, by decide +kernel⟩
theorem kv_X2_next {E : tn_E} {G : tn_G} {cc : ByteArray} {own : String} {nL : Nat} {R : Room} {ρ : Type} {enc : ρ → Option Value} {pc : Nat} {lv : List (Nat × Value)} {st : List Value} {σ : tn_M} {kk : Int32 → tn_M → Option (ρ × tn_M)} {i : Nat}   (g : tn_Ok E G cc own nL R)  (hw : Cond.methodLink own i yX2_next ∈ tn_T) (hroom : 1 ≤ R.frames ∧ 20 ≤ R.locals) (hW : (st.map fun v => v.category).sum ≤ 8) (n : Nat) (hd : decode cc pc = .ok (.invokevirtual i, 3)) (hn : pc + 3 = n) (k : ∀ r σ1, tn_V E G enc n lv (.int r :: st) σ1 (kk r σ1)) : tn_V E G enc pc lv (.ref (tn_ad E 1) :: st) σ (tn_bd (f_X2_next  σ) kk) :=
  tr_callV (As := []) (enc1 := tn_ie) g yy_X2_next hw (ci := 2) rfl (by decide) rfl (fun r σ1 h => ok_X2_next   h) ⟨rfl, rfl⟩ ⟨hroom.1, by have h2 := hroom.2; show 8 + (1 + 11) + 0 ≤ R.locals; omega⟩ rfl rfl hW n hd hn k
/-! X2_fail -/
def f_X2_fail  (a1 : Int32) (σ : tn_M) : Option (Unit × tn_M) :=
  if (σ.1 1 7) = (-1) then
    tn_lt (tn_si σ 1 7 a1) fun σ1 =>
    some ((), σ1)
  else
    some ((), σ)
set_option maxHeartbeats 4000000 in
set_option maxRecDepth 20000 in
theorem b_X2_fail {E : tn_E} {G : tn_G} (g : tn_Ok E G cX2_fail RX2 2 (tn_rm 0 0)) (o : tn_Om E G none)  (a1 : Int32) (σ : tn_M) : tn_V E G tn_ve 0 [(0, .ref (tn_ad E 1)), (1, .int a1)] [] σ (f_X2_fail a1 σ) := by
  unfold f_X2_fail
  refine tr_aload_n g 0 1 dX2_fail_0 rfl rfl rfl ?_
  refine gf_X2_7 g wd_111 4 dX2_fail_1 rfl ?_
  refine tr_iconst (v := (-1)) g 5 dX2_fail_4 rfl rfl ?_
  refine tr_icmp_ne g 13 8 dX2_fail_5 rfl rfl ?_ ?_
  · exact tr_vret g o dX2_fail_13
  · refine tr_aload_n g 0 9 dX2_fail_8 rfl rfl rfl ?_
    refine tr_iload_n g 1 10 dX2_fail_9 rfl rfl rfl ?_
    refine pf_X2_7 g wd_111 13 dX2_fail_10 rfl (fun σ1 => ?_)
    exact tr_vret g o dX2_fail_13
theorem ok_X2_fail {E : tn_E} {l : Launch}   (a1 : Int32) {σ : tn_M} {r : Unit} {σ' : tn_M} (h : f_X2_fail a1 σ = some (r, σ')) : tn_C E l yX2_fail cX2_fail 2 none (tn_rm 0 0) [.ref (tn_ad E 1), .int a1] σ (tn_ve r) σ' :=
  tn_met (by decide) (Nat.le_of_ble_eq_true rfl) (fun G _ g o => b_X2_fail g o  a1 σ) h
theorem yy_X2_fail : tn_Yv RX2 yX2_fail cX2_fail 2 none 1 := ⟨wd_278, wd_277, wd_5, wd_66, by decide, by decide, by decide +kernel⟩
theorem kv_X2_fail {E : tn_E} {G : tn_G} {cc : ByteArray} {own : String} {nL : Nat} {R : Room} {ρ : Type} {enc : ρ → Option Value} {pc : Nat} {lv : List (Nat × Value)} {st : List Value} {σ : tn_M} {kk : Unit → tn_M → Option (ρ × tn_M)} {i : Nat}  {a1 : Int32} (g : tn_Ok E G cc own nL R)  (hw : Cond.methodLink own i yX2_fail ∈ tn_T) (hroom : 1 ≤ R.frames ∧ 21 ≤ R.locals) (hW : (st.map fun v => v.category).sum ≤ 8) (n : Nat) (hd : decode cc pc = .ok (.invokevirtual i, 3)) (hn : pc + 3 = n) (k : ∀ r σ1, tn_V E G enc n lv (st) σ1 (kk r σ1)) : tn_V E G enc pc lv (.int a1 :: .ref (tn_ad E 1) :: st) σ (tn_bd (f_X2_fail a1 σ) kk) :=
  tr_callV (As := [.int a1]) (enc1 := tn_ve) g yy_X2_fail hw (ci := 2) rfl (by decide) rfl (fun r σ1 h => ok_X2_fail  a1 h) ⟨rfl, rfl⟩ ⟨hroom.1, by have h2 := hroom.2; show 8 + (2 + 11) + 0 ≤ R.locals; omega⟩ rfl rfl hW n hd hn k
/-! X2_takeFigure -/
def F_X2_takeFigure_18   (σ : tn_M) : Option (Int32 × tn_M) :=
  tn_bd (f_X2_fail (σ.1 1 8) σ) fun _ σ1 =>
  some (0, σ1)
def f_X2_takeFigure   (σ : tn_M) : Option (Int32 × tn_M) :=
  tn_bd (f_X2_next σ) fun r2 σ1 =>
  if (r2 - 48) < 1 then
    F_X2_takeFigure_18 σ1
  else
    if (r2 - 48) ≤ 3 then
      tn_lt (tn_si σ1 1 8 ((σ1.1 1 8) + 1)) fun σ3 =>
      some ((r2 - 48), σ3)
    else
      F_X2_takeFigure_18 σ1
set_option maxHeartbeats 4000000 in
set_option maxRecDepth 20000 in
theorem b_X2_takeFigure_18 {E : tn_E} {G : tn_G} (g : tn_Ok E G cX2_takeFigure RX2 2 (tn_rm 1 21)) (o : tn_Om E G (some .int))   (σ : tn_M) : tn_V E G tn_ie 18 [(0, .ref (tn_ad E 1))] [] σ (F_X2_takeFigure_18 σ) := by
  unfold F_X2_takeFigure_18
  refine tr_aload_n g 0 19 dX2_takeFigure_18 rfl rfl rfl ?_
  refine tr_aload_n g 0 20 dX2_takeFigure_19 rfl rfl rfl ?_
  refine gf_X2_8 g wd_113 23 dX2_takeFigure_20 rfl ?_
  refine kv_X2_fail g wd_275 ⟨Nat.le_of_ble_eq_true rfl, Nat.le_of_ble_eq_true rfl⟩ (Nat.le_of_ble_eq_true rfl) 26 dX2_takeFigure_23 rfl (fun _ σ1 => ?_)
  refine tr_iconst (v := 0) g 27 dX2_takeFigure_26 rfl rfl ?_
  exact tr_iret g o dX2_takeFigure_27
set_option maxHeartbeats 4000000 in
set_option maxRecDepth 20000 in
theorem b_X2_takeFigure {E : tn_E} {G : tn_G} (g : tn_Ok E G cX2_takeFigure RX2 2 (tn_rm 1 21)) (o : tn_Om E G (some .int))   (σ : tn_M) : tn_V E G tn_ie 0 [(0, .ref (tn_ad E 1))] [] σ (f_X2_takeFigure σ) := by
  unfold f_X2_takeFigure
  refine tr_aload_n g 0 1 dX2_takeFigure_0 rfl rfl rfl ?_
  refine kv_X2_next g wd_263 ⟨Nat.le_of_ble_eq_true rfl, Nat.le_of_ble_eq_true rfl⟩ (Nat.le_of_ble_eq_true rfl) 4 dX2_takeFigure_1 rfl (fun r2 σ1 => ?_)
  refine tr_bipush (v := 48) g 6 dX2_takeFigure_4 rfl rfl ?_
  refine tr_isub g 7 dX2_takeFigure_6 rfl ?_
  refine tr_istore_n (lv' := [(1, .int (r2 - 48)), (0, .ref (tn_ad E 1))]) g 8 dX2_takeFigure_7 rfl rfl (by decide) rfl ?_
  refine tr_iload_n g 0 9 dX2_takeFigure_8 rfl rfl rfl ?_
  refine tr_iconst (v := 1) g 10 dX2_takeFigure_9 rfl rfl ?_
  refine tr_icmp_lt g 18 13 dX2_takeFigure_10 rfl rfl ?_ ?_
  · refine tr_sub [1] (lv' := [(0, .ref (tn_ad E 1))]) rfl ?_
    exact b_X2_takeFigure_18 g o  _
  · refine tr_iload_n g 0 14 dX2_takeFigure_13 rfl rfl rfl ?_
    refine tr_iconst (v := 3) g 15 dX2_takeFigure_14 rfl rfl ?_
    refine tr_icmp_le g 28 18 dX2_takeFigure_15 rfl rfl ?_ ?_
    · refine tr_aload_n g 1 29 dX2_takeFigure_28 rfl rfl rfl ?_
      refine tr_dup g 30 dX2_takeFigure_29 rfl rfl ?_
      refine gf_X2_8 g wd_113 33 dX2_takeFigure_30 rfl ?_
      refine tr_iconst (v := 1) g 34 dX2_takeFigure_33 rfl rfl ?_
      refine tr_iadd g 35 dX2_takeFigure_34 rfl ?_
      refine pf_X2_8 g wd_113 38 dX2_takeFigure_35 rfl (fun σ3 => ?_)
      refine tr_iload_n g 0 39 dX2_takeFigure_38 rfl rfl rfl ?_
      exact tr_iret g o dX2_takeFigure_39
    · refine tr_sub [1] (lv' := [(0, .ref (tn_ad E 1))]) rfl ?_
      exact b_X2_takeFigure_18 g o  _
theorem ok_X2_takeFigure {E : tn_E} {l : Launch}    {σ : tn_M} {r : Int32} {σ' : tn_M} (h : f_X2_takeFigure  σ = some (r, σ')) : tn_C E l yX2_takeFigure cX2_takeFigure 2 (some .int) (tn_rm 1 21) [.ref (tn_ad E 1)] σ (tn_ie r) σ' :=
  tn_met (by decide) (Nat.le_of_ble_eq_true rfl) (fun G _ g o => b_X2_takeFigure g o   σ) h
theorem yy_X2_takeFigure : tn_Yv RX2 yX2_takeFigure cX2_takeFigure 2 (some .int) 0 := ⟨wd_274, wd_273, wd_4, wd_66, by decide, by decide, by decide +kernel⟩
theorem kv_X2_takeFigure {E : tn_E} {G : tn_G} {cc : ByteArray} {own : String} {nL : Nat} {R : Room} {ρ : Type} {enc : ρ → Option Value} {pc : Nat} {lv : List (Nat × Value)} {st : List Value} {σ : tn_M} {kk : Int32 → tn_M → Option (ρ × tn_M)} {i : Nat}   (g : tn_Ok E G cc own nL R)  (hw : Cond.methodLink own i yX2_takeFigure ∈ tn_T) (hroom : 2 ≤ R.frames ∧ 42 ≤ R.locals) (hW : (st.map fun v => v.category).sum ≤ 8) (n : Nat) (hd : decode cc pc = .ok (.invokevirtual i, 3)) (hn : pc + 3 = n) (k : ∀ r σ1, tn_V E G enc n lv (.int r :: st) σ1 (kk r σ1)) : tn_V E G enc pc lv (.ref (tn_ad E 1) :: st) σ (tn_bd (f_X2_takeFigure  σ) kk) :=
  tr_callV (As := []) (enc1 := tn_ie) g yy_X2_takeFigure hw (ci := 2) rfl (by decide) rfl (fun r σ1 h => ok_X2_takeFigure   h) ⟨rfl, rfl⟩ ⟨hroom.1, by have h2 := hroom.2; show 8 + (2 + 11) + 21 ≤ R.locals; omega⟩ rfl rfl hW n hd hn k
/-! X2_takeSign -/
def f_X2_takeSign  (a1 : Int32) (σ : tn_M) : Option (Unit × tn_M) :=
  tn_bd (f_X2_next σ) fun r2 σ1 =>
  if r2 = a1 then
    tn_lt (tn_si σ1 1 8 ((σ1.1 1 8) + 1)) fun σ4 =>
    some ((), σ4)
  else
    tn_bd (f_X2_fail (σ1.1 1 8) σ1) fun _ σ3 =>
    some ((), σ3)
set_option maxHeartbeats 4000000 in
set_option maxRecDepth 20000 in
theorem b_X2_takeSign {E : tn_E} {G : tn_G} (g : tn_Ok E G cX2_takeSign RX2 2 (tn_rm 1 21)) (o : tn_Om E G none)  (a1 : Int32) (σ : tn_M) : tn_V E G tn_ve 0 [(0, .ref (tn_ad E 1)), (1, .int a1)] [] σ (f_X2_takeSign a1 σ) := by
  unfold f_X2_takeSign
  refine tr_aload_n g 0 1 dX2_takeSign_0 rfl rfl rfl ?_
  refine kv_X2_next g wd_263 ⟨Nat.le_of_ble_eq_true rfl, Nat.le_of_ble_eq_true rfl⟩ (Nat.le_of_ble_eq_true rfl) 4 dX2_takeSign_1 rfl (fun r2 σ1 => ?_)
  refine tr_iload_n g 1 5 dX2_takeSign_4 rfl rfl rfl ?_
  refine tr_icmp_ne g 21 8 dX2_takeSign_5 rfl rfl ?_ ?_
  · refine tr_aload_n g 0 22 dX2_takeSign_21 rfl rfl rfl ?_
    refine tr_aload_n g 0 23 dX2_takeSign_22 rfl rfl rfl ?_
    refine gf_X2_8 g wd_113 26 dX2_takeSign_23 rfl ?_
    refine kv_X2_fail g wd_275 ⟨Nat.le_of_ble_eq_true rfl, Nat.le_of_ble_eq_true rfl⟩ (Nat.le_of_ble_eq_true rfl) 29 dX2_takeSign_26 rfl (fun _ σ3 => ?_)
    exact tr_vret g o dX2_takeSign_29
  · refine tr_aload_n g 0 9 dX2_takeSign_8 rfl rfl rfl ?_
    refine tr_dup g 10 dX2_takeSign_9 rfl rfl ?_
    refine gf_X2_8 g wd_113 13 dX2_takeSign_10 rfl ?_
    refine tr_iconst (v := 1) g 14 dX2_takeSign_13 rfl rfl ?_
    refine tr_iadd g 15 dX2_takeSign_14 rfl ?_
    refine pf_X2_8 g wd_113 18 dX2_takeSign_15 rfl (fun σ4 => ?_)
    refine tr_goto g 29 dX2_takeSign_18 rfl ?_
    exact tr_vret g o dX2_takeSign_29
theorem ok_X2_takeSign {E : tn_E} {l : Launch}   (a1 : Int32) {σ : tn_M} {r : Unit} {σ' : tn_M} (h : f_X2_takeSign a1 σ = some (r, σ')) : tn_C E l yX2_takeSign cX2_takeSign 2 none (tn_rm 1 21) [.ref (tn_ad E 1), .int a1] σ (tn_ve r) σ' :=
  tn_met (by decide) (Nat.le_of_ble_eq_true rfl) (fun G _ g o => b_X2_takeSign g o  a1 σ) h
theorem yy_X2_takeSign : tn_Yv RX2 yX2_takeSign cX2_takeSign 2 none 1 := ⟨wd_282, wd_281, wd_6, wd_66, by decide, by decide, by decide +kernel⟩
theorem kv_X2_takeSign {E : tn_E} {G : tn_G} {cc : ByteArray} {own : String} {nL : Nat} {R : Room} {ρ : Type} {enc : ρ → Option Value} {pc : Nat} {lv : List (Nat × Value)} {st : List Value} {σ : tn_M} {kk : Unit → tn_M → Option (ρ × tn_M)} {i : Nat}  {a1 : Int32} (g : tn_Ok E G cc own nL R)  (hw : Cond.methodLink own i yX2_takeSign ∈ tn_T) (hroom : 2 ≤ R.frames ∧ 42 ≤ R.locals) (hW : (st.map fun v => v.category).sum ≤ 8) (n : Nat) (hd : decode cc pc = .ok (.invokevirtual i, 3)) (hn : pc + 3 = n) (k : ∀ r σ1, tn_V E G enc n lv (st) σ1 (kk r σ1)) : tn_V E G enc pc lv (.int a1 :: .ref (tn_ad E 1) :: st) σ (tn_bd (f_X2_takeSign a1 σ) kk) :=
  tr_callV (As := [.int a1]) (enc1 := tn_ve) g yy_X2_takeSign hw (ci := 2) rfl (by decide) rfl (fun r σ1 h => ok_X2_takeSign  a1 h) ⟨rfl, rfl⟩ ⟨hroom.1, by have h2 := hroom.2; show 8 + (2 + 11) + 21 ≤ R.locals; omega⟩ rfl rfl hW n hd hn k
/-! X2_isFigure -/
def f_X2_isFigure  (a0 : Int32) (σ : tn_M) : Option (Int32 × tn_M) :=
  if a0 < 48 then
    some (0, σ)
  else
    if 57 < a0 then
      some (0, σ)
    else
      some (1, σ)
set_option maxHeartbeats 4000000 in
set_option maxRecDepth 20000 in
theorem b_X2_isFigure {E : tn_E} {G : tn_G} (g : tn_Ok E G cX2_isFigure RX2 1 (tn_rm 0 0)) (o : tn_Om E G (some .boolean))  (a0 : Int32) (σ : tn_M) : tn_V E G tn_ie 0 [(0, .int a0)] [] σ (f_X2_isFigure a0 σ) := by
  unfold f_X2_isFigure
  refine tr_iload_n g 0 1 dX2_isFigure_0 rfl rfl rfl ?_
  refine tr_bipush (v := 48) g 3 dX2_isFigure_1 rfl rfl ?_
  refine tr_icmp_lt g 16 6 dX2_isFigure_3 rfl rfl ?_ ?_
  · refine tr_iconst (v := 0) g 17 dX2_isFigure_16 rfl rfl ?_
    exact tr_zret g o rfl dX2_isFigure_17
  · refine tr_iload_n g 0 7 dX2_isFigure_6 rfl rfl rfl ?_
    refine tr_bipush (v := 57) g 9 dX2_isFigure_7 rfl rfl ?_
    refine tr_icmp_gt g 16 12 dX2_isFigure_9 rfl rfl ?_ ?_
    · refine tr_iconst (v := 0) g 17 dX2_isFigure_16 rfl rfl ?_
      exact tr_zret g o rfl dX2_isFigure_17
    · refine tr_iconst (v := 1) g 13 dX2_isFigure_12 rfl rfl ?_
      refine tr_goto g 17 dX2_isFigure_13 rfl ?_
      exact tr_zret g o rfl dX2_isFigure_17
theorem ok_X2_isFigure {E : tn_E} {l : Launch}   (a0 : Int32) {σ : tn_M} {r : Int32} {σ' : tn_M} (h : f_X2_isFigure a0 σ = some (r, σ')) : tn_C E l yX2_isFigure cX2_isFigure 1 (some .boolean) (tn_rm 0 0) [.int a0] σ (tn_ie r) σ' :=
  tn_met (by decide) (Nat.le_of_ble_eq_true rfl) (fun G _ g o => b_X2_isFigure g o  a0 σ) h
theorem yy_X2_isFigure : tn_Ys yX2_isFigure cX2_isFigure 1 (some .boolean) 1 := ⟨wd_289, wd_288, wd_66, by decide, by decide, by decide +kernel⟩
theorem kv_X2_isFigure {E : tn_E} {G : tn_G} {cc : ByteArray} {own : String} {nL : Nat} {R : Room} {ρ : Type} {enc : ρ → Option Value} {pc : Nat} {lv : List (Nat × Value)} {st : List Value} {σ : tn_M} {kk : Int32 → tn_M → Option (ρ × tn_M)} {i : Nat}  {a0 : Int32} (g : tn_Ok E G cc own nL R)  (hw : Cond.methodLink own i yX2_isFigure ∈ tn_T) (hroom : 1 ≤ R.frames ∧ 20 ≤ R.locals) (hW : (st.map fun v => v.category).sum ≤ 8) (n : Nat) (hd : decode cc pc = .ok (.invokestatic i, 3)) (hn : pc + 3 = n) (k : ∀ r σ1, tn_V E G enc n lv (.int r :: st) σ1 (kk r σ1)) : tn_V E G enc pc lv (.int a0 :: st) σ (tn_bd (f_X2_isFigure a0 σ) kk) :=
  tr_callS (As := [.int a0]) (enc1 := tn_ie) g yy_X2_isFigure hw (fun r σ1 h => ok_X2_isFigure  a0 h) ⟨rfl, rfl⟩ ⟨hroom.1, by have h2 := hroom.2; show 8 + (1 + 11) + 0 ≤ R.locals; omega⟩ rfl rfl hW n hd hn k
/-! X2_takeNumber -/
def F_X2_takeNumber_78  (x3 : Int32) (x4 : Int32) (σ : tn_M) : Option (Int32 × tn_M) :=
  tn_bd (f_X2_fail x3 σ) fun _ σ1 =>
  some (x4, σ1)
def F_X2_takeNumber_58  (x1 : Int32) (x2 : Int32) (x3 : Int32) (x4 : Int32) (σ : tn_M) : Option (Int32 × tn_M) :=
  if (σ.1 1 8) = x3 then
    F_X2_takeNumber_78 x3 x4 σ
  else
    if x4 < x1 then
      F_X2_takeNumber_78 x3 x4 σ
    else
      if x4 ≤ x2 then
        some (x4, σ)
      else
        F_X2_takeNumber_78 x3 x4 σ
def F_X2_takeNumber_11  : Nat → Int32 → Int32 → Int32 → Int32 → Int32 → tn_M → Option (Int32 × tn_M)
  | 0, _, _, _, _, _, _ => none
  | tn_n + 1, x1, x2, x3, x4, x5, σ => 
    if 2 ≤ x5 then
      F_X2_takeNumber_58 x1 x2 x3 x4 σ
    else
      tn_bd (f_X2_next σ) fun r2 σ1 =>
      tn_bd (f_X2_isFigure r2 σ1) fun r4 σ3 =>
      if r4 = 0 then
        F_X2_takeNumber_58 x1 x2 x3 x4 σ3
      else
        tn_bd (f_X2_next σ3) fun r6 σ5 =>
        tn_lt (α := Int32) (((10 * x4) + r6) - 48) fun w7 =>
        tn_lt (tn_si σ5 1 8 ((σ5.1 1 8) + 1)) fun σ8 =>
        F_X2_takeNumber_11 tn_n x1 x2 x3 w7 (x5 + 1) σ8
def f_X2_takeNumber  (a1 : Int32) (a2 : Int32) (σ : tn_M) : Option (Int32 × tn_M) :=
  F_X2_takeNumber_11 tn_fuel a1 a2 (σ.1 1 8) 0 0 σ
set_option maxHeartbeats 4000000 in
set_option maxRecDepth 20000 in
theorem b_X2_takeNumber_78 {E : tn_E} {G : tn_G} (g : tn_Ok E G cX2_takeNumber RX2 6 (tn_rm 1 21)) (o : tn_Om E G (some .int))  (x3 : Int32) (x4 : Int32) (σ : tn_M) : tn_V E G tn_ie 78 [(0, .ref (tn_ad E 1)), (3, .int x3), (4, .int x4)] [] σ (F_X2_takeNumber_78 x3 x4 σ) := by
  unfold F_X2_takeNumber_78
  refine tr_aload_n g 0 79 dX2_takeNumber_78 rfl rfl rfl ?_
  refine tr_iload_n g 1 80 dX2_takeNumber_79 rfl rfl rfl ?_
  refine kv_X2_fail g wd_275 ⟨Nat.le_of_ble_eq_true rfl, Nat.le_of_ble_eq_true rfl⟩ (Nat.le_of_ble_eq_true rfl) 83 dX2_takeNumber_80 rfl (fun _ σ1 => ?_)
  refine tr_iload g 2 85 dX2_takeNumber_83 rfl rfl ?_
  exact tr_iret g o dX2_takeNumber_85
set_option maxHeartbeats 4000000 in
set_option maxRecDepth 20000 in
theorem b_X2_takeNumber_58 {E : tn_E} {G : tn_G} (g : tn_Ok E G cX2_takeNumber RX2 6 (tn_rm 1 21)) (o : tn_Om E G (some .int))  (x1 : Int32) (x2 : Int32) (x3 : Int32) (x4 : Int32) (σ : tn_M) : tn_V E G tn_ie 58 [(0, .ref (tn_ad E 1)), (1, .int x1), (2, .int x2), (3, .int x3), (4, .int x4)] [] σ (F_X2_takeNumber_58 x1 x2 x3 x4 σ) := by
  unfold F_X2_takeNumber_58
  refine tr_aload_n g 0 59 dX2_takeNumber_58 rfl rfl rfl ?_
  refine gf_X2_8 g wd_113 62 dX2_takeNumber_59 rfl ?_
  refine tr_iload_n g 3 63 dX2_takeNumber_62 rfl rfl rfl ?_
  refine tr_icmp_eq g 78 66 dX2_takeNumber_63 rfl rfl ?_ ?_
  · refine tr_sub [0, 3, 4] (lv' := [(0, .ref (tn_ad E 1)), (3, .int x3), (4, .int x4)]) rfl ?_
    exact b_X2_takeNumber_78 g o  _ _ _
  · refine tr_iload g 4 68 dX2_takeNumber_66 rfl rfl ?_
    refine tr_iload_n g 1 69 dX2_takeNumber_68 rfl rfl rfl ?_
    refine tr_icmp_lt g 78 72 dX2_takeNumber_69 rfl rfl ?_ ?_
    · refine tr_sub [0, 3, 4] (lv' := [(0, .ref (tn_ad E 1)), (3, .int x3), (4, .int x4)]) rfl ?_
      exact b_X2_takeNumber_78 g o  _ _ _
    · refine tr_iload g 4 74 dX2_takeNumber_72 rfl rfl ?_
      refine tr_iload_n g 2 75 dX2_takeNumber_74 rfl rfl rfl ?_
      refine tr_icmp_le g 83 78 dX2_takeNumber_75 rfl rfl ?_ ?_
      · refine tr_iload g 4 85 dX2_takeNumber_83 rfl rfl ?_
        exact tr_iret g o dX2_takeNumber_85
      · refine tr_sub [0, 3, 4] (lv' := [(0, .ref (tn_ad E 1)), (3, .int x3), (4, .int x4)]) rfl ?_
        exact b_X2_takeNumber_78 g o  _ _ _
set_option maxHeartbeats 4000000 in
set_option maxRecDepth 20000 in
theorem b_X2_takeNumber_11 {E : tn_E} {G : tn_G} (g : tn_Ok E G cX2_takeNumber RX2 6 (tn_rm 1 21)) (o : tn_Om E G (some .int))  : ∀ (n : Nat) (x1 : Int32) (x2 : Int32) (x3 : Int32) (x4 : Int32) (x5 : Int32) (σ : tn_M), tn_V E G tn_ie 11 [(0, .ref (tn_ad E 1)), (1, .int x1), (2, .int x2), (3, .int x3), (4, .int x4), (5, .int x5)] [] σ (F_X2_takeNumber_11 n x1 x2 x3 x4 x5 σ) := by
  intro n
  induction n with
  | zero => intros; exact tr_none
  | succ tn_n ih =>
    intro x1 x2 x3 x4 x5 σ
    rw [F_X2_takeNumber_11]
    refine tr_iload g 5 13 dX2_takeNumber_11 rfl rfl ?_
    refine tr_iconst (v := 2) g 14 dX2_takeNumber_13 rfl rfl ?_
    refine tr_icmp_ge g 58 17 dX2_takeNumber_14 rfl rfl ?_ ?_
    · refine tr_sub [0, 1, 2, 3, 4] (lv' := [(0, .ref (tn_ad E 1)), (1, .int x1), (2, .int x2), (3, .int x3), (4, .int x4)]) rfl ?_
      exact b_X2_takeNumber_58 g o  _ _ _ _ _
    · refine tr_aload_n g 0 18 dX2_takeNumber_17 rfl rfl rfl ?_
      refine kv_X2_next g wd_263 ⟨Nat.le_of_ble_eq_true rfl, Nat.le_of_ble_eq_true rfl⟩ (Nat.le_of_ble_eq_true rfl) 21 dX2_takeNumber_18 rfl (fun r2 σ1 => ?_)
      refine kv_X2_isFigure g wd_287 ⟨Nat.le_of_ble_eq_true rfl, Nat.le_of_ble_eq_true rfl⟩ (Nat.le_of_ble_eq_true rfl) 24 dX2_takeNumber_21 rfl (fun r4 σ3 => ?_)
      refine tr_if_eq g 58 27 dX2_takeNumber_24 rfl rfl ?_ ?_
      · refine tr_sub [0, 1, 2, 3, 4] (lv' := [(0, .ref (tn_ad E 1)), (1, .int x1), (2, .int x2), (3, .int x3), (4, .int x4)]) rfl ?_
        exact b_X2_takeNumber_58 g o  _ _ _ _ _
      · refine tr_bipush (v := 10) g 29 dX2_takeNumber_27 rfl rfl ?_
        refine tr_iload g 4 31 dX2_takeNumber_29 rfl rfl ?_
        refine tr_imul g 32 dX2_takeNumber_31 rfl ?_
        refine tr_aload_n g 0 33 dX2_takeNumber_32 rfl rfl rfl ?_
        refine kv_X2_next g wd_263 ⟨Nat.le_of_ble_eq_true rfl, Nat.le_of_ble_eq_true rfl⟩ (Nat.le_of_ble_eq_true rfl) 36 dX2_takeNumber_33 rfl (fun r6 σ5 => ?_)
        refine tr_iadd g 37 dX2_takeNumber_36 rfl ?_
        refine tr_bipush (v := 48) g 39 dX2_takeNumber_37 rfl rfl ?_
        refine tr_isub g 40 dX2_takeNumber_39 rfl ?_
        refine tr_lti (fun w7 => ?_)
        refine tr_istore (lv' := [(4, .int w7), (0, .ref (tn_ad E 1)), (1, .int x1), (2, .int x2), (3, .int x3), (5, .int x5)]) g 42 dX2_takeNumber_40 rfl (by decide) rfl ?_
        refine tr_aload_n g 1 43 dX2_takeNumber_42 rfl rfl rfl ?_
        refine tr_dup g 44 dX2_takeNumber_43 rfl rfl ?_
        refine gf_X2_8 g wd_113 47 dX2_takeNumber_44 rfl ?_
        refine tr_iconst (v := 1) g 48 dX2_takeNumber_47 rfl rfl ?_
        refine tr_iadd g 49 dX2_takeNumber_48 rfl ?_
        refine pf_X2_8 g wd_113 52 dX2_takeNumber_49 rfl (fun σ8 => ?_)
        refine tr_iinc (lv' := [(5, .int (x5 + 1)), (4, .int w7), (0, .ref (tn_ad E 1)), (1, .int x1), (2, .int x2), (3, .int x3)]) (x := (x5 + 1)) g 5 55 dX2_takeNumber_52 rfl rfl rfl (by decide) rfl ?_
        refine tr_goto g 11 dX2_takeNumber_55 rfl ?_
        refine tr_sub [2, 3, 4, 5, 1, 0] (lv' := [(0, .ref (tn_ad E 1)), (1, .int x1), (2, .int x2), (3, .int x3), (4, .int w7), (5, .int (x5 + 1))]) rfl ?_
        exact ih _ _ _ _ _ _
set_option maxHeartbeats 4000000 in
set_option maxRecDepth 20000 in
theorem b_X2_takeNumber {E : tn_E} {G : tn_G} (g : tn_Ok E G cX2_takeNumber RX2 6 (tn_rm 1 21)) (o : tn_Om E G (some .int))  (a1 : Int32) (a2 : Int32) (σ : tn_M) : tn_V E G tn_ie 0 [(0, .ref (tn_ad E 1)), (1, .int a1), (2, .int a2)] [] σ (f_X2_takeNumber a1 a2 σ) := by
  unfold f_X2_takeNumber
  refine tr_aload_n g 0 1 dX2_takeNumber_0 rfl rfl rfl ?_
  refine gf_X2_8 g wd_113 4 dX2_takeNumber_1 rfl ?_
  refine tr_istore_n (lv' := [(3, .int (σ.1 1 8)), (0, .ref (tn_ad E 1)), (1, .int a1), (2, .int a2)]) g 5 dX2_takeNumber_4 rfl rfl (by decide) rfl ?_
  refine tr_iconst (v := 0) g 6 dX2_takeNumber_5 rfl rfl ?_
  refine tr_istore (lv' := [(4, .int 0), (3, .int (σ.1 1 8)), (0, .ref (tn_ad E 1)), (1, .int a1), (2, .int a2)]) g 8 dX2_takeNumber_6 rfl (by decide) rfl ?_
  refine tr_iconst (v := 0) g 9 dX2_takeNumber_8 rfl rfl ?_
  refine tr_istore (lv' := [(5, .int 0), (4, .int 0), (3, .int (σ.1 1 8)), (0, .ref (tn_ad E 1)), (1, .int a1), (2, .int a2)]) g 11 dX2_takeNumber_9 rfl (by decide) rfl ?_
  refine tr_sub [3, 4, 5, 2, 1, 0] (lv' := [(0, .ref (tn_ad E 1)), (1, .int a1), (2, .int a2), (3, .int (σ.1 1 8)), (4, .int 0), (5, .int 0)]) rfl ?_
  exact b_X2_takeNumber_11 g o  tn_fuel _ _ _ _ _ _
theorem ok_X2_takeNumber {E : tn_E} {l : Launch}   (a1 : Int32) (a2 : Int32) {σ : tn_M} {r : Int32} {σ' : tn_M} (h : f_X2_takeNumber a1 a2 σ = some (r, σ')) : tn_C E l yX2_takeNumber cX2_takeNumber 6 (some .int) (tn_rm 1 21) [.ref (tn_ad E 1), .int a1, .int a2] σ (tn_ie r) σ' :=
  tn_met (by decide) (Nat.le_of_ble_eq_true rfl) (fun G _ g o => b_X2_takeNumber g o  a1 a2 σ) h
theorem yy_X2_takeNumber : tn_Yv RX2 yX2_takeNumber cX2_takeNumber 6 (some .int) 2 := ⟨wd_286, wd_285, wd_7, wd_66, by decide, by decide, by decide +kernel⟩
theorem kv_X2_takeNumber {E : tn_E} {G : tn_G} {cc : ByteArray} {own : String} {nL : Nat} {R : Room} {ρ : Type} {enc : ρ → Option Value} {pc : Nat} {lv : List (Nat × Value)} {st : List Value} {σ : tn_M} {kk : Int32 → tn_M → Option (ρ × tn_M)} {i : Nat}  {a1 : Int32} {a2 : Int32} (g : tn_Ok E G cc own nL R)  (hw : Cond.methodLink own i yX2_takeNumber ∈ tn_T) (hroom : 2 ≤ R.frames ∧ 46 ≤ R.locals) (hW : (st.map fun v => v.category).sum ≤ 8) (n : Nat) (hd : decode cc pc = .ok (.invokevirtual i, 3)) (hn : pc + 3 = n) (k : ∀ r σ1, tn_V E G enc n lv (.int r :: st) σ1 (kk r σ1)) : tn_V E G enc pc lv (.int a2 :: .int a1 :: .ref (tn_ad E 1) :: st) σ (tn_bd (f_X2_takeNumber a1 a2 σ) kk) :=
  tr_callV (As := [.int a1, .int a2]) (enc1 := tn_ie) g yy_X2_takeNumber hw (ci := 2) rfl (by decide) rfl (fun r σ1 h => ok_X2_takeNumber  a1 a2 h) ⟨rfl, rfl⟩ ⟨hroom.1, by have h2 := hroom.2; show 8 + (6 + 11) + 21 ≤ R.locals; omega⟩ rfl rfl hW n hd hn k
/-! X2_takeShop -/
def f_X2_takeShop   (σ : tn_M) : Option (Unit × tn_M) :=
  tn_lt (tn_si σ 1 8 ((σ.1 1 8) + 1)) fun σ1 =>
  tn_bd (f_X2_takeFigure σ1) fun r3 σ2 =>
  tn_bd (f_X2_takeSign 44 σ2) fun _ σ4 =>
  tn_bd (f_X2_takeNumber 0 99 σ4) fun r6 σ5 =>
  if (σ5.1 1 7) = (-1) then
    tn_ck (σ5.1 1 5) 5 <|
    tn_lt (tn_si σ5 10 (tn_x (σ5.1 1 5)) r3) fun σ7 =>
    tn_ck (σ7.1 1 5) 5 <|
    tn_lt (tn_si σ7 11 (tn_x (σ7.1 1 5)) r6) fun σ8 =>
    tn_lt (tn_si σ8 1 5 ((σ8.1 1 5) + 1)) fun σ9 =>
    some ((), σ9)
  else
    some ((), σ5)
set_option maxHeartbeats 4000000 in
set_option maxRecDepth 20000 in
theorem b_X2_takeShop {E : tn_E} {G : tn_G} (g : tn_Ok E G cX2_takeShop RX2 3 (tn_rm 2 46)) (o : tn_Om E G none)   (σ : tn_M) : tn_V E G tn_ve 0 [(0, .ref (tn_ad E 1))] [] σ (f_X2_takeShop σ) := by
  unfold f_X2_takeShop
  refine tr_aload_n g 0 1 dX2_takeShop_0 rfl rfl rfl ?_
  refine tr_dup g 2 dX2_takeShop_1 rfl rfl ?_
  refine gf_X2_8 g wd_113 5 dX2_takeShop_2 rfl ?_
  refine tr_iconst (v := 1) g 6 dX2_takeShop_5 rfl rfl ?_
  refine tr_iadd g 7 dX2_takeShop_6 rfl ?_
  refine pf_X2_8 g wd_113 10 dX2_takeShop_7 rfl (fun σ1 => ?_)
  refine tr_aload_n g 0 11 dX2_takeShop_10 rfl rfl rfl ?_
  refine kv_X2_takeFigure g wd_271 ⟨Nat.le_of_ble_eq_true rfl, Nat.le_of_ble_eq_true rfl⟩ (Nat.le_of_ble_eq_true rfl) 14 dX2_takeShop_11 rfl (fun r3 σ2 => ?_)
  refine tr_istore_n (lv' := [(1, .int r3), (0, .ref (tn_ad E 1))]) g 15 dX2_takeShop_14 rfl rfl (by decide) rfl ?_
  refine tr_aload_n g 1 16 dX2_takeShop_15 rfl rfl rfl ?_
  refine tr_bipush (v := 44) g 18 dX2_takeShop_16 rfl rfl ?_
  refine kv_X2_takeSign g wd_279 ⟨Nat.le_of_ble_eq_true rfl, Nat.le_of_ble_eq_true rfl⟩ (Nat.le_of_ble_eq_true rfl) 21 dX2_takeShop_18 rfl (fun _ σ4 => ?_)
  refine tr_aload_n g 1 22 dX2_takeShop_21 rfl rfl rfl ?_
  refine tr_iconst (v := 0) g 23 dX2_takeShop_22 rfl rfl ?_
  refine tr_bipush (v := 99) g 25 dX2_takeShop_23 rfl rfl ?_
  refine kv_X2_takeNumber g wd_283 ⟨Nat.le_of_ble_eq_true rfl, Nat.le_of_ble_eq_true rfl⟩ (Nat.le_of_ble_eq_true rfl) 28 dX2_takeShop_25 rfl (fun r6 σ5 => ?_)
  refine tr_istore_n (lv' := [(2, .int r6), (1, .int r3), (0, .ref (tn_ad E 1))]) g 29 dX2_takeShop_28 rfl rfl (by decide) rfl ?_
  refine tr_aload_n g 2 30 dX2_takeShop_29 rfl rfl rfl ?_
  refine gf_X2_7 g wd_111 33 dX2_takeShop_30 rfl ?_
  refine tr_iconst (v := (-1)) g 34 dX2_takeShop_33 rfl rfl ?_
  refine tr_icmp_ne g 67 37 dX2_takeShop_34 rfl rfl ?_ ?_
  · exact tr_vret g o dX2_takeShop_67
  · refine tr_aload_n g 2 38 dX2_takeShop_37 rfl rfl rfl ?_
    refine gf_X2_1 g wd_92 41 dX2_takeShop_38 rfl ?_
    refine tr_aload_n g 2 42 dX2_takeShop_41 rfl rfl rfl ?_
    refine gf_X2_5 g wd_106 45 dX2_takeShop_42 rfl ?_
    refine tr_iload_n g 1 46 dX2_takeShop_45 rfl rfl rfl ?_
    refine tr_iast (N := 5) g 47 rfl rfl dX2_takeShop_46 rfl (fun σ7 => ?_)
    refine tr_aload_n g 2 48 dX2_takeShop_47 rfl rfl rfl ?_
    refine gf_X2_2 g wd_96 51 dX2_takeShop_48 rfl ?_
    refine tr_aload_n g 2 52 dX2_takeShop_51 rfl rfl rfl ?_
    refine gf_X2_5 g wd_106 55 dX2_takeShop_52 rfl ?_
    refine tr_iload_n g 0 56 dX2_takeShop_55 rfl rfl rfl ?_
    refine tr_iast (N := 5) g 57 rfl rfl dX2_takeShop_56 rfl (fun σ8 => ?_)
    refine tr_aload_n g 2 58 dX2_takeShop_57 rfl rfl rfl ?_
    refine tr_dup g 59 dX2_takeShop_58 rfl rfl ?_
    refine gf_X2_5 g wd_106 62 dX2_takeShop_59 rfl ?_
    refine tr_iconst (v := 1) g 63 dX2_takeShop_62 rfl rfl ?_
    refine tr_iadd g 64 dX2_takeShop_63 rfl ?_
    refine pf_X2_5 g wd_106 67 dX2_takeShop_64 rfl (fun σ9 => ?_)
    exact tr_vret g o dX2_takeShop_67
theorem ok_X2_takeShop {E : tn_E} {l : Launch}    {σ : tn_M} {r : Unit} {σ' : tn_M} (h : f_X2_takeShop  σ = some (r, σ')) : tn_C E l yX2_takeShop cX2_takeShop 3 none (tn_rm 2 46) [.ref (tn_ad E 1)] σ (tn_ve r) σ' :=
  tn_met (by decide) (Nat.le_of_ble_eq_true rfl) (fun G _ g o => b_X2_takeShop g o   σ) h
theorem yy_X2_takeShop : tn_Yv RX2 yX2_takeShop cX2_takeShop 3 none 0 := ⟨wd_270, wd_269, wd_3, wd_66, by decide, by decide, by decide +kernel⟩
theorem kv_X2_takeShop {E : tn_E} {G : tn_G} {cc : ByteArray} {own : String} {nL : Nat} {R : Room} {ρ : Type} {enc : ρ → Option Value} {pc : Nat} {lv : List (Nat × Value)} {st : List Value} {σ : tn_M} {kk : Unit → tn_M → Option (ρ × tn_M)} {i : Nat}   (g : tn_Ok E G cc own nL R)  (hw : Cond.methodLink own i yX2_takeShop ∈ tn_T) (hroom : 3 ≤ R.frames ∧ 68 ≤ R.locals) (hW : (st.map fun v => v.category).sum ≤ 8) (n : Nat) (hd : decode cc pc = .ok (.invokevirtual i, 3)) (hn : pc + 3 = n) (k : ∀ r σ1, tn_V E G enc n lv (st) σ1 (kk r σ1)) : tn_V E G enc pc lv (.ref (tn_ad E 1) :: st) σ (tn_bd (f_X2_takeShop  σ) kk) :=
  tr_callV (As := []) (enc1 := tn_ve) g yy_X2_takeShop hw (ci := 2) rfl (by decide) rfl (fun r σ1 h => ok_X2_takeShop   h) ⟨rfl, rfl⟩ ⟨hroom.1, by have h2 := hroom.2; show 8 + (3 + 11) + 46 ≤ R.locals; omega⟩ rfl rfl hW n hd hn k
/-! X2_takeLiked -/
def F_X2_takeLiked_48  (x2 : Int32) (σ : tn_M) : Option (Int32 × tn_M) :=
  tn_lt (tn_si σ 1 8 ((σ.1 1 8) + 1)) fun σ1 =>
  some (x2, σ1)
def F_X2_takeLiked_38   (σ : tn_M) : Option (Int32 × tn_M) :=
  tn_bd (f_X2_fail (σ.1 1 8) σ) fun _ σ1 =>
  some ((-1), σ1)
def f_X2_takeLiked   (σ : tn_M) : Option (Int32 × tn_M) :=
  tn_bd (f_X2_next σ) fun r2 σ1 =>
  tn_lt (α := Int32) (if r2 = 45 then (-1) else (r2 - 48)) fun v3 =>
  if r2 = 45 then
    F_X2_takeLiked_48 v3 σ1
  else
    if v3 < 0 then
      F_X2_takeLiked_38 σ1
    else
      if v3 < (σ1.1 1 5) then
        F_X2_takeLiked_48 v3 σ1
      else
        F_X2_takeLiked_38 σ1
set_option maxHeartbeats 4000000 in
set_option maxRecDepth 20000 in
theorem b_X2_takeLiked_48 {E : tn_E} {G : tn_G} (g : tn_Ok E G cX2_takeLiked RX2 3 (tn_rm 1 21)) (o : tn_Om E G (some .int))  (x2 : Int32) (σ : tn_M) : tn_V E G tn_ie 48 [(0, .ref (tn_ad E 1)), (2, .int x2)] [] σ (F_X2_takeLiked_48 x2 σ) := by
  unfold F_X2_takeLiked_48
  refine tr_aload_n g 0 49 dX2_takeLiked_48 rfl rfl rfl ?_
  refine tr_dup g 50 dX2_takeLiked_49 rfl rfl ?_
  refine gf_X2_8 g wd_113 53 dX2_takeLiked_50 rfl ?_
  refine tr_iconst (v := 1) g 54 dX2_takeLiked_53 rfl rfl ?_
  refine tr_iadd g 55 dX2_takeLiked_54 rfl ?_
  refine pf_X2_8 g wd_113 58 dX2_takeLiked_55 rfl (fun σ1 => ?_)
  refine tr_iload_n g 1 59 dX2_takeLiked_58 rfl rfl rfl ?_
  exact tr_iret g o dX2_takeLiked_59
set_option maxHeartbeats 4000000 in
set_option maxRecDepth 20000 in
theorem b_X2_takeLiked_38 {E : tn_E} {G : tn_G} (g : tn_Ok E G cX2_takeLiked RX2 3 (tn_rm 1 21)) (o : tn_Om E G (some .int))   (σ : tn_M) : tn_V E G tn_ie 38 [(0, .ref (tn_ad E 1))] [] σ (F_X2_takeLiked_38 σ) := by
  unfold F_X2_takeLiked_38
  refine tr_aload_n g 0 39 dX2_takeLiked_38 rfl rfl rfl ?_
  refine tr_aload_n g 0 40 dX2_takeLiked_39 rfl rfl rfl ?_
  refine gf_X2_8 g wd_113 43 dX2_takeLiked_40 rfl ?_
  refine kv_X2_fail g wd_275 ⟨Nat.le_of_ble_eq_true rfl, Nat.le_of_ble_eq_true rfl⟩ (Nat.le_of_ble_eq_true rfl) 46 dX2_takeLiked_43 rfl (fun _ σ1 => ?_)
  refine tr_iconst (v := (-1)) g 47 dX2_takeLiked_46 rfl rfl ?_
  exact tr_iret g o dX2_takeLiked_47
set_option maxHeartbeats 4000000 in
set_option maxRecDepth 20000 in
theorem b_X2_takeLiked {E : tn_E} {G : tn_G} (g : tn_Ok E G cX2_takeLiked RX2 3 (tn_rm 1 21)) (o : tn_Om E G (some .int))   (σ : tn_M) : tn_V E G tn_ie 0 [(0, .ref (tn_ad E 1))] [] σ (f_X2_takeLiked σ) := by
  unfold f_X2_takeLiked
  refine tr_aload_n g 0 1 dX2_takeLiked_0 rfl rfl rfl ?_
  refine kv_X2_next g wd_263 ⟨Nat.le_of_ble_eq_true rfl, Nat.le_of_ble_eq_true rfl⟩ (Nat.le_of_ble_eq_true rfl) 4 dX2_takeLiked_1 rfl (fun r2 σ1 => ?_)
  refine tr_istore_n (lv' := [(1, .int r2), (0, .ref (tn_ad E 1))]) g 5 dX2_takeLiked_4 rfl rfl (by decide) rfl ?_
  refine tr_iload_n g 0 6 dX2_takeLiked_5 rfl rfl rfl ?_
  refine tr_bipush (v := 45) g 8 dX2_takeLiked_6 rfl rfl ?_
  refine tr_icmp_neD (inj := fun z => Value.int z) g 19 15 11 dX2_takeLiked_8 rfl rfl (fun rs hj => ?_) (fun rs hj => ?_) (fun v3 => ?_)
  · refine tr_iload_n g 0 16 dX2_takeLiked_15 rfl rfl rfl ?_
    refine tr_bipush (v := 48) g 18 dX2_takeLiked_16 rfl rfl ?_
    refine tr_isub g 19 dX2_takeLiked_18 rfl ?_
    exact hj
  · refine tr_iconst (v := (-1)) g 12 dX2_takeLiked_11 rfl rfl ?_
    refine tr_goto g 19 dX2_takeLiked_12 rfl ?_
    exact hj
  · refine tr_istore_n (lv' := [(2, .int v3), (1, .int r2), (0, .ref (tn_ad E 1))]) g 20 dX2_takeLiked_19 rfl rfl (by decide) rfl ?_
    refine tr_iload_n g 1 21 dX2_takeLiked_20 rfl rfl rfl ?_
    refine tr_bipush (v := 45) g 23 dX2_takeLiked_21 rfl rfl ?_
    refine tr_icmp_eq g 48 26 dX2_takeLiked_23 rfl rfl ?_ ?_
    · refine tr_sub [2, 0] (lv' := [(0, .ref (tn_ad E 1)), (2, .int v3)]) rfl ?_
      exact b_X2_takeLiked_48 g o  _ _
    · refine tr_iload_n g 0 27 dX2_takeLiked_26 rfl rfl rfl ?_
      refine tr_if_lt g 38 30 dX2_takeLiked_27 rfl rfl ?_ ?_
      · refine tr_sub [2] (lv' := [(0, .ref (tn_ad E 1))]) rfl ?_
        exact b_X2_takeLiked_38 g o  _
      · refine tr_iload_n g 0 31 dX2_takeLiked_30 rfl rfl rfl ?_
        refine tr_aload_n g 2 32 dX2_takeLiked_31 rfl rfl rfl ?_
        refine gf_X2_5 g wd_106 35 dX2_takeLiked_32 rfl ?_
        refine tr_icmp_lt g 48 38 dX2_takeLiked_35 rfl rfl ?_ ?_
        · refine tr_sub [2, 0] (lv' := [(0, .ref (tn_ad E 1)), (2, .int v3)]) rfl ?_
          exact b_X2_takeLiked_48 g o  _ _
        · refine tr_sub [2] (lv' := [(0, .ref (tn_ad E 1))]) rfl ?_
          exact b_X2_takeLiked_38 g o  _
theorem ok_X2_takeLiked {E : tn_E} {l : Launch}    {σ : tn_M} {r : Int32} {σ' : tn_M} (h : f_X2_takeLiked  σ = some (r, σ')) : tn_C E l yX2_takeLiked cX2_takeLiked 3 (some .int) (tn_rm 1 21) [.ref (tn_ad E 1)] σ (tn_ie r) σ' :=
  tn_met (by decide) (Nat.le_of_ble_eq_true rfl) (fun G _ g o => b_X2_takeLiked g o   σ) h
theorem yy_X2_takeLiked : tn_Yv RX2 yX2_takeLiked cX2_takeLiked 3 (some .int) 0 := ⟨wd_297, wd_296, wd_9, wd_66, by decide, by decide, by decide +kernel⟩
theorem kv_X2_takeLiked {E : tn_E} {G : tn_G} {cc : ByteArray} {own : String} {nL : Nat} {R : Room} {ρ : Type} {enc : ρ → Option Value} {pc : Nat} {lv : List (Nat × Value)} {st : List Value} {σ : tn_M} {kk : Int32 → tn_M → Option (ρ × tn_M)} {i : Nat}   (g : tn_Ok E G cc own nL R)  (hw : Cond.methodLink own i yX2_takeLiked ∈ tn_T) (hroom : 2 ≤ R.frames ∧ 43 ≤ R.locals) (hW : (st.map fun v => v.category).sum ≤ 8) (n : Nat) (hd : decode cc pc = .ok (.invokevirtual i, 3)) (hn : pc + 3 = n) (k : ∀ r σ1, tn_V E G enc n lv (.int r :: st) σ1 (kk r σ1)) : tn_V E G enc pc lv (.ref (tn_ad E 1) :: st) σ (tn_bd (f_X2_takeLiked  σ) kk) :=
  tr_callV (As := []) (enc1 := tn_ie) g yy_X2_takeLiked hw (ci := 2) rfl (by decide) rfl (fun r σ1 h => ok_X2_takeLiked   h) ⟨rfl, rfl⟩ ⟨hroom.1, by have h2 := hroom.2; show 8 + (3 + 11) + 21 ≤ R.locals; omega⟩ rfl rfl hW n hd hn k
/-! X2_takeSort -/
def f_X2_takeSort   (σ : tn_M) : Option (Unit × tn_M) :=
  tn_lt (tn_si σ 1 8 ((σ.1 1 8) + 1)) fun σ1 =>
  tn_ck (σ1.1 1 6) 6 <|
  tn_bd (f_X2_takeFigure σ1) fun r4 σ3 =>
  tn_lt (tn_si σ3 (12 + 1 + tn_x (σ1.1 1 6)) 0 r4) fun σ5 =>
  tn_bd (f_X2_takeSign 44 σ5) fun _ σ6 =>
  tn_bd (f_X2_takeNumber 1 99 σ6) fun r8 σ7 =>
  tn_lt (tn_si σ7 (12 + 1 + tn_x (σ1.1 1 6)) 1 r8) fun σ9 =>
  tn_bd (f_X2_takeSign 44 σ9) fun _ σ10 =>
  tn_bd (f_X2_takeLiked σ10) fun r12 σ11 =>
  tn_lt (tn_si σ11 (12 + 1 + tn_x (σ1.1 1 6)) 2 r12) fun σ13 =>
  tn_bd (f_X2_takeSign 44 σ13) fun _ σ14 =>
  tn_bd (f_X2_takeNumber 0 16 σ14) fun r16 σ15 =>
  tn_lt (tn_si σ15 (12 + 1 + tn_x (σ1.1 1 6)) 3 r16) fun σ17 =>
  tn_bd (f_X2_takeSign 44 σ17) fun _ σ18 =>
  tn_bd (f_X2_takeNumber 0 16 σ18) fun r20 σ19 =>
  tn_lt (tn_si σ19 (12 + 1 + tn_x (σ1.1 1 6)) 4 r20) fun σ21 =>
  tn_bd (f_X2_takeSign 44 σ21) fun _ σ22 =>
  tn_bd (f_X2_takeNumber 1 99 σ22) fun r24 σ23 =>
  tn_lt (tn_si σ23 (12 + 1 + tn_x (σ1.1 1 6)) 5 r24) fun σ25 =>
  if (σ25.1 1 7) = (-1) then
    tn_lt (tn_si σ25 1 6 ((σ25.1 1 6) + 1)) fun σ26 =>
    some ((), σ26)
  else
    some ((), σ25)
set_option maxHeartbeats 4000000 in
set_option maxRecDepth 20000 in
theorem b_X2_takeSort {E : tn_E} {G : tn_G} (g : tn_Ok E G cX2_takeSort RX2 2 (tn_rm 2 46)) (o : tn_Om E G none)   (σ : tn_M) : tn_V E G tn_ve 0 [(0, .ref (tn_ad E 1))] [] σ (f_X2_takeSort σ) := by
  unfold f_X2_takeSort
  refine tr_aload_n g 0 1 dX2_takeSort_0 rfl rfl rfl ?_
  refine tr_dup g 2 dX2_takeSort_1 rfl rfl ?_
  refine gf_X2_8 g wd_113 5 dX2_takeSort_2 rfl ?_
  refine tr_iconst (v := 1) g 6 dX2_takeSort_5 rfl rfl ?_
  refine tr_iadd g 7 dX2_takeSort_6 rfl ?_
  refine pf_X2_8 g wd_113 10 dX2_takeSort_7 rfl (fun σ1 => ?_)
  refine tr_aload_n g 0 11 dX2_takeSort_10 rfl rfl rfl ?_
  refine gf_X2_3 g wd_99 14 dX2_takeSort_11 rfl ?_
  refine tr_aload_n g 0 15 dX2_takeSort_14 rfl rfl rfl ?_
  refine gf_X2_6 g wd_109 18 dX2_takeSort_15 rfl ?_
  refine tr_aald (N := 6) g 19 rfl rfl dX2_takeSort_18 rfl (fun h2 => ?_)
  refine tr_astore_n (lv' := [(1, .ref (tn_ad E (12 + 1 + tn_x (σ1.1 1 6)))), (0, .ref (tn_ad E 1))]) g 20 dX2_takeSort_19 rfl rfl (by decide) rfl ?_
  refine tr_aload_n g 0 21 dX2_takeSort_20 rfl rfl rfl ?_
  refine tr_iconst (v := 0) g 22 dX2_takeSort_21 rfl rfl ?_
  refine tr_aload_n g 1 23 dX2_takeSort_22 rfl rfl rfl ?_
  refine kv_X2_takeFigure g wd_271 ⟨Nat.le_of_ble_eq_true rfl, Nat.le_of_ble_eq_true rfl⟩ (Nat.le_of_ble_eq_true rfl) 26 dX2_takeSort_23 rfl (fun r4 σ3 => ?_)
  refine tr_iastK (N := 6) g 27 0 (tn_rowB h2).1 rfl (tn_rowB h2).2 (by decide) dX2_takeSort_26 rfl (fun σ5 => ?_)
  refine tr_aload_n g 1 28 dX2_takeSort_27 rfl rfl rfl ?_
  refine tr_bipush (v := 44) g 30 dX2_takeSort_28 rfl rfl ?_
  refine kv_X2_takeSign g wd_279 ⟨Nat.le_of_ble_eq_true rfl, Nat.le_of_ble_eq_true rfl⟩ (Nat.le_of_ble_eq_true rfl) 33 dX2_takeSort_30 rfl (fun _ σ6 => ?_)
  refine tr_aload_n g 0 34 dX2_takeSort_33 rfl rfl rfl ?_
  refine tr_iconst (v := 1) g 35 dX2_takeSort_34 rfl rfl ?_
  refine tr_aload_n g 1 36 dX2_takeSort_35 rfl rfl rfl ?_
  refine tr_iconst (v := 1) g 37 dX2_takeSort_36 rfl rfl ?_
  refine tr_bipush (v := 99) g 39 dX2_takeSort_37 rfl rfl ?_
  refine kv_X2_takeNumber g wd_283 ⟨Nat.le_of_ble_eq_true rfl, Nat.le_of_ble_eq_true rfl⟩ (Nat.le_of_ble_eq_true rfl) 42 dX2_takeSort_39 rfl (fun r8 σ7 => ?_)
  refine tr_iastK (N := 6) g 43 1 (tn_rowB h2).1 rfl (tn_rowB h2).2 (by decide) dX2_takeSort_42 rfl (fun σ9 => ?_)
  refine tr_aload_n g 1 44 dX2_takeSort_43 rfl rfl rfl ?_
  refine tr_bipush (v := 44) g 46 dX2_takeSort_44 rfl rfl ?_
  refine kv_X2_takeSign g wd_279 ⟨Nat.le_of_ble_eq_true rfl, Nat.le_of_ble_eq_true rfl⟩ (Nat.le_of_ble_eq_true rfl) 49 dX2_takeSort_46 rfl (fun _ σ10 => ?_)
  refine tr_aload_n g 0 50 dX2_takeSort_49 rfl rfl rfl ?_
  refine tr_iconst (v := 2) g 51 dX2_takeSort_50 rfl rfl ?_
  refine tr_aload_n g 1 52 dX2_takeSort_51 rfl rfl rfl ?_
  refine kv_X2_takeLiked g wd_294 ⟨Nat.le_of_ble_eq_true rfl, Nat.le_of_ble_eq_true rfl⟩ (Nat.le_of_ble_eq_true rfl) 55 dX2_takeSort_52 rfl (fun r12 σ11 => ?_)
  refine tr_iastK (N := 6) g 56 2 (tn_rowB h2).1 rfl (tn_rowB h2).2 (by decide) dX2_takeSort_55 rfl (fun σ13 => ?_)
  refine tr_aload_n g 1 57 dX2_takeSort_56 rfl rfl rfl ?_
  refine tr_bipush (v := 44) g 59 dX2_takeSort_57 rfl rfl ?_
  refine kv_X2_takeSign g wd_279 ⟨Nat.le_of_ble_eq_true rfl, Nat.le_of_ble_eq_true rfl⟩ (Nat.le_of_ble_eq_true rfl) 62 dX2_takeSort_59 rfl (fun _ σ14 => ?_)
  refine tr_aload_n g 0 63 dX2_takeSort_62 rfl rfl rfl ?_
  refine tr_iconst (v := 3) g 64 dX2_takeSort_63 rfl rfl ?_
  refine tr_aload_n g 1 65 dX2_takeSort_64 rfl rfl rfl ?_
  refine tr_iconst (v := 0) g 66 dX2_takeSort_65 rfl rfl ?_
  refine tr_bipush (v := 16) g 68 dX2_takeSort_66 rfl rfl ?_
  refine kv_X2_takeNumber g wd_283 ⟨Nat.le_of_ble_eq_true rfl, Nat.le_of_ble_eq_true rfl⟩ (Nat.le_of_ble_eq_true rfl) 71 dX2_takeSort_68 rfl (fun r16 σ15 => ?_)
  refine tr_iastK (N := 6) g 72 3 (tn_rowB h2).1 rfl (tn_rowB h2).2 (by decide) dX2_takeSort_71 rfl (fun σ17 => ?_)
  refine tr_aload_n g 1 73 dX2_takeSort_72 rfl rfl rfl ?_
  refine tr_bipush (v := 44) g 75 dX2_takeSort_73 rfl rfl ?_
  refine kv_X2_takeSign g wd_279 ⟨Nat.le_of_ble_eq_true rfl, Nat.le_of_ble_eq_true rfl⟩ (Nat.le_of_ble_eq_true rfl) 78 dX2_takeSort_75 rfl (fun _ σ18 => ?_)
  refine tr_aload_n g 0 79 dX2_takeSort_78 rfl rfl rfl ?_
  refine tr_iconst (v := 4) g 80 dX2_takeSort_79 rfl rfl ?_
  refine tr_aload_n g 1 81 dX2_takeSort_80 rfl rfl rfl ?_
  refine tr_iconst (v := 0) g 82 dX2_takeSort_81 rfl rfl ?_
  refine tr_bipush (v := 16) g 84 dX2_takeSort_82 rfl rfl ?_
  refine kv_X2_takeNumber g wd_283 ⟨Nat.le_of_ble_eq_true rfl, Nat.le_of_ble_eq_true rfl⟩ (Nat.le_of_ble_eq_true rfl) 87 dX2_takeSort_84 rfl (fun r20 σ19 => ?_)
  refine tr_iastK (N := 6) g 88 4 (tn_rowB h2).1 rfl (tn_rowB h2).2 (by decide) dX2_takeSort_87 rfl (fun σ21 => ?_)
  refine tr_aload_n g 1 89 dX2_takeSort_88 rfl rfl rfl ?_
  refine tr_bipush (v := 44) g 91 dX2_takeSort_89 rfl rfl ?_
  refine kv_X2_takeSign g wd_279 ⟨Nat.le_of_ble_eq_true rfl, Nat.le_of_ble_eq_true rfl⟩ (Nat.le_of_ble_eq_true rfl) 94 dX2_takeSort_91 rfl (fun _ σ22 => ?_)
  refine tr_aload_n g 0 95 dX2_takeSort_94 rfl rfl rfl ?_
  refine tr_iconst (v := 5) g 96 dX2_takeSort_95 rfl rfl ?_
  refine tr_aload_n g 1 97 dX2_takeSort_96 rfl rfl rfl ?_
  refine tr_iconst (v := 1) g 98 dX2_takeSort_97 rfl rfl ?_
  refine tr_bipush (v := 99) g 100 dX2_takeSort_98 rfl rfl ?_
  refine kv_X2_takeNumber g wd_283 ⟨Nat.le_of_ble_eq_true rfl, Nat.le_of_ble_eq_true rfl⟩ (Nat.le_of_ble_eq_true rfl) 103 dX2_takeSort_100 rfl (fun r24 σ23 => ?_)
  refine tr_iastK (N := 6) g 104 5 (tn_rowB h2).1 rfl (tn_rowB h2).2 (by decide) dX2_takeSort_103 rfl (fun σ25 => ?_)
  refine tr_aload_n g 1 105 dX2_takeSort_104 rfl rfl rfl ?_
  refine gf_X2_7 g wd_111 108 dX2_takeSort_105 rfl ?_
  refine tr_iconst (v := (-1)) g 109 dX2_takeSort_108 rfl rfl ?_
  refine tr_icmp_ne g 122 112 dX2_takeSort_109 rfl rfl ?_ ?_
  · exact tr_vret g o dX2_takeSort_122
  · refine tr_aload_n g 1 113 dX2_takeSort_112 rfl rfl rfl ?_
    refine tr_dup g 114 dX2_takeSort_113 rfl rfl ?_
    refine gf_X2_6 g wd_109 117 dX2_takeSort_114 rfl ?_
    refine tr_iconst (v := 1) g 118 dX2_takeSort_117 rfl rfl ?_
    refine tr_iadd g 119 dX2_takeSort_118 rfl ?_
    refine pf_X2_6 g wd_109 122 dX2_takeSort_119 rfl (fun σ26 => ?_)
    exact tr_vret g o dX2_takeSort_122
theorem ok_X2_takeSort {E : tn_E} {l : Launch}    {σ : tn_M} {r : Unit} {σ' : tn_M} (h : f_X2_takeSort  σ = some (r, σ')) : tn_C E l yX2_takeSort cX2_takeSort 2 none (tn_rm 2 46) [.ref (tn_ad E 1)] σ (tn_ve r) σ' :=
  tn_met (by decide) (Nat.le_of_ble_eq_true rfl) (fun G _ g o => b_X2_takeSort g o   σ) h
theorem yy_X2_takeSort : tn_Yv RX2 yX2_takeSort cX2_takeSort 2 none 0 := ⟨wd_293, wd_292, wd_8, wd_66, by decide, by decide, by decide +kernel⟩
theorem kv_X2_takeSort {E : tn_E} {G : tn_G} {cc : ByteArray} {own : String} {nL : Nat} {R : Room} {ρ : Type} {enc : ρ → Option Value} {pc : Nat} {lv : List (Nat × Value)} {st : List Value} {σ : tn_M} {kk : Unit → tn_M → Option (ρ × tn_M)} {i : Nat}   (g : tn_Ok E G cc own nL R)  (hw : Cond.methodLink own i yX2_takeSort ∈ tn_T) (hroom : 3 ≤ R.frames ∧ 67 ≤ R.locals) (hW : (st.map fun v => v.category).sum ≤ 8) (n : Nat) (hd : decode cc pc = .ok (.invokevirtual i, 3)) (hn : pc + 3 = n) (k : ∀ r σ1, tn_V E G enc n lv (st) σ1 (kk r σ1)) : tn_V E G enc pc lv (.ref (tn_ad E 1) :: st) σ (tn_bd (f_X2_takeSort  σ) kk) :=
  tr_callV (As := []) (enc1 := tn_ve) g yy_X2_takeSort hw (ci := 2) rfl (by decide) rfl (fun r σ1 h => ok_X2_takeSort   h) ⟨rfl, rfl⟩ ⟨hroom.1, by have h2 := hroom.2; show 8 + (2 + 11) + 46 ≤ R.locals; omega⟩ rfl rfl hW n hd hn k
/-! X2_takePart -/
def F_X2_takePart_48   (σ : tn_M) : Option (Unit × tn_M) :=
  tn_bd (f_X2_fail (σ.1 1 8) σ) fun _ σ1 =>
  some ((), σ1)
def F_X2_takePart_26  (x1 : Int32) (σ : tn_M) : Option (Unit × tn_M) :=
  if x1 = 98 then
    if 6 ≤ (σ.1 1 6) then
      F_X2_takePart_48 σ
    else
      tn_bd (f_X2_takeSort σ) fun _ σ1 =>
      some ((), σ1)
  else
    F_X2_takePart_48 σ
def f_X2_takePart   (σ : tn_M) : Option (Unit × tn_M) :=
  tn_bd (f_X2_next σ) fun r2 σ1 =>
  if r2 = 115 then
    if 5 ≤ (σ1.1 1 5) then
      F_X2_takePart_26 r2 σ1
    else
      tn_bd (f_X2_takeShop σ1) fun _ σ3 =>
      some ((), σ3)
  else
    F_X2_takePart_26 r2 σ1
set_option maxHeartbeats 4000000 in
set_option maxRecDepth 20000 in
theorem b_X2_takePart_48 {E : tn_E} {G : tn_G} (g : tn_Ok E G cX2_takePart RX2 2 (tn_rm 3 68)) (o : tn_Om E G none)   (σ : tn_M) : tn_V E G tn_ve 48 [(0, .ref (tn_ad E 1))] [] σ (F_X2_takePart_48 σ) := by
  unfold F_X2_takePart_48
  refine tr_aload_n g 0 49 dX2_takePart_48 rfl rfl rfl ?_
  refine tr_aload_n g 0 50 dX2_takePart_49 rfl rfl rfl ?_
  refine gf_X2_8 g wd_113 53 dX2_takePart_50 rfl ?_
  refine kv_X2_fail g wd_275 ⟨Nat.le_of_ble_eq_true rfl, Nat.le_of_ble_eq_true rfl⟩ (Nat.le_of_ble_eq_true rfl) 56 dX2_takePart_53 rfl (fun _ σ1 => ?_)
  exact tr_vret g o dX2_takePart_56
set_option maxHeartbeats 4000000 in
set_option maxRecDepth 20000 in
theorem b_X2_takePart_26 {E : tn_E} {G : tn_G} (g : tn_Ok E G cX2_takePart RX2 2 (tn_rm 3 68)) (o : tn_Om E G none)  (x1 : Int32) (σ : tn_M) : tn_V E G tn_ve 26 [(0, .ref (tn_ad E 1)), (1, .int x1)] [] σ (F_X2_takePart_26 x1 σ) := by
  unfold F_X2_takePart_26
  refine tr_iload_n g 1 27 dX2_takePart_26 rfl rfl rfl ?_
  refine tr_bipush (v := 98) g 29 dX2_takePart_27 rfl rfl ?_
  refine tr_icmp_ne g 48 32 dX2_takePart_29 rfl rfl ?_ ?_
  · refine tr_sub [0] (lv' := [(0, .ref (tn_ad E 1))]) rfl ?_
    exact b_X2_takePart_48 g o  _
  · refine tr_aload_n g 0 33 dX2_takePart_32 rfl rfl rfl ?_
    refine gf_X2_6 g wd_109 36 dX2_takePart_33 rfl ?_
    refine tr_bipush (v := 6) g 38 dX2_takePart_36 rfl rfl ?_
    refine tr_icmp_ge g 48 41 dX2_takePart_38 rfl rfl ?_ ?_
    · refine tr_sub [0] (lv' := [(0, .ref (tn_ad E 1))]) rfl ?_
      exact b_X2_takePart_48 g o  _
    · refine tr_aload_n g 0 42 dX2_takePart_41 rfl rfl rfl ?_
      refine kv_X2_takeSort g wd_290 ⟨Nat.le_of_ble_eq_true rfl, Nat.le_of_ble_eq_true rfl⟩ (Nat.le_of_ble_eq_true rfl) 45 dX2_takePart_42 rfl (fun _ σ1 => ?_)
      refine tr_goto g 56 dX2_takePart_45 rfl ?_
      exact tr_vret g o dX2_takePart_56
set_option maxHeartbeats 4000000 in
set_option maxRecDepth 20000 in
theorem b_X2_takePart {E : tn_E} {G : tn_G} (g : tn_Ok E G cX2_takePart RX2 2 (tn_rm 3 68)) (o : tn_Om E G none)   (σ : tn_M) : tn_V E G tn_ve 0 [(0, .ref (tn_ad E 1))] [] σ (f_X2_takePart σ) := by
  unfold f_X2_takePart
  refine tr_aload_n g 0 1 dX2_takePart_0 rfl rfl rfl ?_
  refine kv_X2_next g wd_263 ⟨Nat.le_of_ble_eq_true rfl, Nat.le_of_ble_eq_true rfl⟩ (Nat.le_of_ble_eq_true rfl) 4 dX2_takePart_1 rfl (fun r2 σ1 => ?_)
  refine tr_istore_n (lv' := [(1, .int r2), (0, .ref (tn_ad E 1))]) g 5 dX2_takePart_4 rfl rfl (by decide) rfl ?_
  refine tr_iload_n g 0 6 dX2_takePart_5 rfl rfl rfl ?_
  refine tr_bipush (v := 115) g 8 dX2_takePart_6 rfl rfl ?_
  refine tr_icmp_ne g 26 11 dX2_takePart_8 rfl rfl ?_ ?_
  · refine tr_sub [1, 0] (lv' := [(0, .ref (tn_ad E 1)), (1, .int r2)]) rfl ?_
    exact b_X2_takePart_26 g o  _ _
  · refine tr_aload_n g 1 12 dX2_takePart_11 rfl rfl rfl ?_
    refine gf_X2_5 g wd_106 15 dX2_takePart_12 rfl ?_
    refine tr_iconst (v := 5) g 16 dX2_takePart_15 rfl rfl ?_
    refine tr_icmp_ge g 26 19 dX2_takePart_16 rfl rfl ?_ ?_
    · refine tr_sub [1, 0] (lv' := [(0, .ref (tn_ad E 1)), (1, .int r2)]) rfl ?_
      exact b_X2_takePart_26 g o  _ _
    · refine tr_aload_n g 1 20 dX2_takePart_19 rfl rfl rfl ?_
      refine kv_X2_takeShop g wd_267 ⟨Nat.le_of_ble_eq_true rfl, Nat.le_of_ble_eq_true rfl⟩ (Nat.le_of_ble_eq_true rfl) 23 dX2_takePart_20 rfl (fun _ σ3 => ?_)
      refine tr_goto g 56 dX2_takePart_23 rfl ?_
      exact tr_vret g o dX2_takePart_56
theorem ok_X2_takePart {E : tn_E} {l : Launch}    {σ : tn_M} {r : Unit} {σ' : tn_M} (h : f_X2_takePart  σ = some (r, σ')) : tn_C E l yX2_takePart cX2_takePart 2 none (tn_rm 3 68) [.ref (tn_ad E 1)] σ (tn_ve r) σ' :=
  tn_met (by decide) (Nat.le_of_ble_eq_true rfl) (fun G _ g o => b_X2_takePart g o   σ) h
theorem yy_X2_takePart : tn_Yv RX2 yX2_takePart cX2_takePart 2 none 0 := ⟨wd_262, wd_261, wd_1, wd_66, by decide, by decide, by decide +kernel⟩
theorem kv_X2_takePart {E : tn_E} {G : tn_G} {cc : ByteArray} {own : String} {nL : Nat} {R : Room} {ρ : Type} {enc : ρ → Option Value} {pc : Nat} {lv : List (Nat × Value)} {st : List Value} {σ : tn_M} {kk : Unit → tn_M → Option (ρ × tn_M)} {i : Nat}   (g : tn_Ok E G cc own nL R)  (hw : Cond.methodLink own i yX2_takePart ∈ tn_T) (hroom : 4 ≤ R.frames ∧ 89 ≤ R.locals) (hW : (st.map fun v => v.category).sum ≤ 8) (n : Nat) (hd : decode cc pc = .ok (.invokevirtual i, 3)) (hn : pc + 3 = n) (k : ∀ r σ1, tn_V E G enc n lv (st) σ1 (kk r σ1)) : tn_V E G enc pc lv (.ref (tn_ad E 1) :: st) σ (tn_bd (f_X2_takePart  σ) kk) :=
  tr_callV (As := []) (enc1 := tn_ve) g yy_X2_takePart hw (ci := 2) rfl (by decide) rfl (fun r σ1 h => ok_X2_takePart   h) ⟨rfl, rfl⟩ ⟨hroom.1, by have h2 := hroom.2; show 8 + (2 + 11) + 68 ≤ R.locals; omega⟩ rfl rfl hW n hd hn k
/-! X2_parse -/
def F_X2_parse_105   (σ : tn_M) : Option (Unit × tn_M) :=
  if (σ.1 1 7) = (-1) then
    some ((), σ)
  else
    tn_lt (tn_si σ 1 5 0) fun σ1 =>
    tn_lt (tn_si σ1 1 6 0) fun σ2 =>
    some ((), σ2)
def F_X2_parse_74 (c35 : Int32 → Int32 → tn_M → Option (Unit × tn_M)) (x2 : Int32) (y0 : Int32) (σ : tn_M) : Option (Unit × tn_M) :=
  if y0 = 0 then
    c35 y0 (x2 + 1) σ
  else
    tn_bd (f_X2_takeSign 59 σ) fun _ σ1 =>
    tn_lt (α := Int32) (if (σ1.1 1 7) = (-1) then 1 else 0) fun v2 =>
    c35 v2 (x2 + 1) σ1
def F_X2_parse_73 (c35 : Int32 → Int32 → tn_M → Option (Unit × tn_M)) (x2 : Int32) (σ : tn_M) : Option (Unit × tn_M) :=
  F_X2_parse_74 c35 x2 0 σ
def F_X2_parse_35  : Nat → Int32 → Int32 → tn_M → Option (Unit × tn_M)
  | 0, _, _, _ => none
  | tn_n + 1, x1, x2, σ => 
    if 150 < x2 then
      F_X2_parse_105 σ
    else
      if x1 = 0 then
        F_X2_parse_105 σ
      else
        tn_bd (f_X2_takePart σ) fun _ σ1 =>
        if (σ1.1 1 7) = (-1) then
          if (σ1.1 1 4) ≤ (σ1.1 1 8) then
            F_X2_parse_73 (fun z0 z1 zs => F_X2_parse_35 tn_n z0 z1 zs) x2 σ1
          else
            F_X2_parse_74 (fun z0 z1 zs => F_X2_parse_35 tn_n z0 z1 zs) x2 1 σ1
        else
          F_X2_parse_73 (fun z0 z1 zs => F_X2_parse_35 tn_n z0 z1 zs) x2 σ1
def f_X2_parse   (σ : tn_M) : Option (Unit × tn_M) :=
  tn_lt (tn_si σ 1 5 0) fun σ1 =>
  tn_lt (tn_si σ1 1 6 0) fun σ2 =>
  tn_lt (tn_si σ2 1 7 (-1)) fun σ3 =>
  tn_lt (tn_si σ3 1 8 0) fun σ4 =>
  tn_lt (α := Int32) (if (σ4.1 1 4) ≤ 0 then 0 else 1) fun v5 =>
  F_X2_parse_35 tn_fuel v5 0 σ4
set_option maxHeartbeats 4000000 in
set_option maxRecDepth 20000 in
theorem b_X2_parse_105 {E : tn_E} {G : tn_G} (g : tn_Ok E G cX2_parse RX2 3 (tn_rm 4 89)) (o : tn_Om E G none)   (σ : tn_M) : tn_V E G tn_ve 105 [(0, .ref (tn_ad E 1))] [] σ (F_X2_parse_105 σ) := by
  unfold F_X2_parse_105
  refine tr_aload_n g 0 106 dX2_parse_105 rfl rfl rfl ?_
  refine gf_X2_7 g wd_111 109 dX2_parse_106 rfl ?_
  refine tr_iconst (v := (-1)) g 110 dX2_parse_109 rfl rfl ?_
  refine tr_icmp_eq g 123 113 dX2_parse_110 rfl rfl ?_ ?_
  · exact tr_vret g o dX2_parse_123
  · refine tr_aload_n g 0 114 dX2_parse_113 rfl rfl rfl ?_
    refine tr_iconst (v := 0) g 115 dX2_parse_114 rfl rfl ?_
    refine pf_X2_5 g wd_106 118 dX2_parse_115 rfl (fun σ1 => ?_)
    refine tr_aload_n g 0 119 dX2_parse_118 rfl rfl rfl ?_
    refine tr_iconst (v := 0) g 120 dX2_parse_119 rfl rfl ?_
    refine pf_X2_6 g wd_109 123 dX2_parse_120 rfl (fun σ2 => ?_)
    exact tr_vret g o dX2_parse_123
set_option maxHeartbeats 4000000 in
set_option maxRecDepth 20000 in
theorem b_X2_parse_74 {E : tn_E} {G : tn_G} (g : tn_Ok E G cX2_parse RX2 3 (tn_rm 4 89)) (o : tn_Om E G none) (c35 : Int32 → Int32 → tn_M → Option (Unit × tn_M)) (hc35 : ∀ (x1 : Int32) (x2 : Int32) (σ : tn_M), tn_V E G tn_ve 35 [(0, .ref (tn_ad E 1)), (1, .int x1), (2, .int x2)] [] σ (c35 x1 x2 σ)) (x2 : Int32) (y0 : Int32) (σ : tn_M) : tn_V E G tn_ve 74 [(0, .ref (tn_ad E 1)), (2, .int x2)] [.int y0] σ (F_X2_parse_74 c35 x2 y0 σ) := by
  unfold F_X2_parse_74
  refine tr_istore_n (lv' := [(1, .int y0), (0, .ref (tn_ad E 1)), (2, .int x2)]) g 75 dX2_parse_74 rfl rfl (by decide) rfl ?_
  refine tr_iload_n g 0 76 dX2_parse_75 rfl rfl rfl ?_
  refine tr_if_eq g 99 79 dX2_parse_76 rfl rfl ?_ ?_
  · refine tr_iinc (lv' := [(2, .int (x2 + 1)), (1, .int y0), (0, .ref (tn_ad E 1))]) (x := (x2 + 1)) g 2 102 dX2_parse_99 rfl rfl rfl (by decide) rfl ?_
    refine tr_goto g 35 dX2_parse_102 rfl ?_
    refine tr_sub [2, 1, 0] (lv' := [(0, .ref (tn_ad E 1)), (1, .int y0), (2, .int (x2 + 1))]) rfl ?_
    exact hc35 _ _ _
  · refine tr_aload_n g 1 80 dX2_parse_79 rfl rfl rfl ?_
    refine tr_bipush (v := 59) g 82 dX2_parse_80 rfl rfl ?_
    refine kv_X2_takeSign g wd_279 ⟨Nat.le_of_ble_eq_true rfl, Nat.le_of_ble_eq_true rfl⟩ (Nat.le_of_ble_eq_true rfl) 85 dX2_parse_82 rfl (fun _ σ1 => ?_)
    refine tr_aload_n g 1 86 dX2_parse_85 rfl rfl rfl ?_
    refine gf_X2_7 g wd_111 89 dX2_parse_86 rfl ?_
    refine tr_iconst (v := (-1)) g 90 dX2_parse_89 rfl rfl ?_
    refine tr_icmp_neD (inj := fun z => Value.int z) g 98 97 93 dX2_parse_90 rfl rfl (fun rs hj => ?_) (fun rs hj => ?_) (fun v2 => ?_)
    · refine tr_iconst (v := 0) g 98 dX2_parse_97 rfl rfl ?_
      exact hj
    · refine tr_iconst (v := 1) g 94 dX2_parse_93 rfl rfl ?_
      refine tr_goto g 98 dX2_parse_94 rfl ?_
      exact hj
    · refine tr_istore_n (lv' := [(1, .int v2), (0, .ref (tn_ad E 1)), (2, .int x2)]) g 99 dX2_parse_98 rfl rfl (by decide) rfl ?_
      refine tr_iinc (lv' := [(2, .int (x2 + 1)), (1, .int v2), (0, .ref (tn_ad E 1))]) (x := (x2 + 1)) g 2 102 dX2_parse_99 rfl rfl rfl (by decide) rfl ?_
      refine tr_goto g 35 dX2_parse_102 rfl ?_
      refine tr_sub [2, 1, 0] (lv' := [(0, .ref (tn_ad E 1)), (1, .int v2), (2, .int (x2 + 1))]) rfl ?_
      exact hc35 _ _ _
set_option maxHeartbeats 4000000 in
set_option maxRecDepth 20000 in
theorem b_X2_parse_73 {E : tn_E} {G : tn_G} (g : tn_Ok E G cX2_parse RX2 3 (tn_rm 4 89)) (o : tn_Om E G none) (c35 : Int32 → Int32 → tn_M → Option (Unit × tn_M)) (hc35 : ∀ (x1 : Int32) (x2 : Int32) (σ : tn_M), tn_V E G tn_ve 35 [(0, .ref (tn_ad E 1)), (1, .int x1), (2, .int x2)] [] σ (c35 x1 x2 σ)) (x2 : Int32) (σ : tn_M) : tn_V E G tn_ve 73 [(0, .ref (tn_ad E 1)), (2, .int x2)] [] σ (F_X2_parse_73 c35 x2 σ) := by
  unfold F_X2_parse_73
  refine tr_iconst (v := 0) g 74 dX2_parse_73 rfl rfl ?_
  exact b_X2_parse_74 g o c35 hc35 _ _ _
set_option maxHeartbeats 4000000 in
set_option maxRecDepth 20000 in
theorem b_X2_parse_35 {E : tn_E} {G : tn_G} (g : tn_Ok E G cX2_parse RX2 3 (tn_rm 4 89)) (o : tn_Om E G none)  : ∀ (n : Nat) (x1 : Int32) (x2 : Int32) (σ : tn_M), tn_V E G tn_ve 35 [(0, .ref (tn_ad E 1)), (1, .int x1), (2, .int x2)] [] σ (F_X2_parse_35 n x1 x2 σ) := by
  intro n
  induction n with
  | zero => intros; exact tr_none
  | succ tn_n ih =>
    intro x1 x2 σ
    rw [F_X2_parse_35]
    refine tr_iload_n g 2 36 dX2_parse_35 rfl rfl rfl ?_
    refine tr_sipush (v := 150) g 39 dX2_parse_36 rfl rfl ?_
    refine tr_icmp_gt g 105 42 dX2_parse_39 rfl rfl ?_ ?_
    · refine tr_sub [0] (lv' := [(0, .ref (tn_ad E 1))]) rfl ?_
      exact b_X2_parse_105 g o  _
    · refine tr_iload_n g 1 43 dX2_parse_42 rfl rfl rfl ?_
      refine tr_if_eq g 105 46 dX2_parse_43 rfl rfl ?_ ?_
      · refine tr_sub [0] (lv' := [(0, .ref (tn_ad E 1))]) rfl ?_
        exact b_X2_parse_105 g o  _
      · refine tr_aload_n g 0 47 dX2_parse_46 rfl rfl rfl ?_
        refine kv_X2_takePart g wd_259 ⟨Nat.le_of_ble_eq_true rfl, Nat.le_of_ble_eq_true rfl⟩ (Nat.le_of_ble_eq_true rfl) 50 dX2_parse_47 rfl (fun _ σ1 => ?_)
        refine tr_aload_n g 0 51 dX2_parse_50 rfl rfl rfl ?_
        refine gf_X2_7 g wd_111 54 dX2_parse_51 rfl ?_
        refine tr_iconst (v := (-1)) g 55 dX2_parse_54 rfl rfl ?_
        refine tr_icmp_ne g 73 58 dX2_parse_55 rfl rfl ?_ ?_
        · refine tr_sub [0, 2] (lv' := [(0, .ref (tn_ad E 1)), (2, .int x2)]) rfl ?_
          exact b_X2_parse_73 g o (fun z0 z1 zs => F_X2_parse_35 tn_n z0 z1 zs) (fun z0 z1 zs => ih z0 z1 zs) _ _
        · refine tr_aload_n g 0 59 dX2_parse_58 rfl rfl rfl ?_
          refine gf_X2_8 g wd_113 62 dX2_parse_59 rfl ?_
          refine tr_aload_n g 0 63 dX2_parse_62 rfl rfl rfl ?_
          refine gf_X2_4 g wd_102 66 dX2_parse_63 rfl ?_
          refine tr_icmp_ge g 73 69 dX2_parse_66 rfl rfl ?_ ?_
          · refine tr_sub [0, 2] (lv' := [(0, .ref (tn_ad E 1)), (2, .int x2)]) rfl ?_
            exact b_X2_parse_73 g o (fun z0 z1 zs => F_X2_parse_35 tn_n z0 z1 zs) (fun z0 z1 zs => ih z0 z1 zs) _ _
          · refine tr_iconst (v := 1) g 70 dX2_parse_69 rfl rfl ?_
            refine tr_goto g 74 dX2_parse_70 rfl ?_
            refine tr_sub [0, 2] (lv' := [(0, .ref (tn_ad E 1)), (2, .int x2)]) rfl ?_
            exact b_X2_parse_74 g o (fun z0 z1 zs => F_X2_parse_35 tn_n z0 z1 zs) (fun z0 z1 zs => ih z0 z1 zs) _ _ _
set_option maxHeartbeats 4000000 in
set_option maxRecDepth 20000 in
theorem b_X2_parse {E : tn_E} {G : tn_G} (g : tn_Ok E G cX2_parse RX2 3 (tn_rm 4 89)) (o : tn_Om E G none)   (σ : tn_M) : tn_V E G tn_ve 0 [(0, .ref (tn_ad E 1))] [] σ (f_X2_parse σ) := by
  unfold f_X2_parse
  refine tr_aload_n g 0 1 dX2_parse_0 rfl rfl rfl ?_
  refine tr_iconst (v := 0) g 2 dX2_parse_1 rfl rfl ?_
  refine pf_X2_5 g wd_106 5 dX2_parse_2 rfl (fun σ1 => ?_)
  refine tr_aload_n g 0 6 dX2_parse_5 rfl rfl rfl ?_
  refine tr_iconst (v := 0) g 7 dX2_parse_6 rfl rfl ?_
  refine pf_X2_6 g wd_109 10 dX2_parse_7 rfl (fun σ2 => ?_)
  refine tr_aload_n g 0 11 dX2_parse_10 rfl rfl rfl ?_
  refine tr_iconst (v := (-1)) g 12 dX2_parse_11 rfl rfl ?_
  refine pf_X2_7 g wd_111 15 dX2_parse_12 rfl (fun σ3 => ?_)
  refine tr_aload_n g 0 16 dX2_parse_15 rfl rfl rfl ?_
  refine tr_iconst (v := 0) g 17 dX2_parse_16 rfl rfl ?_
  refine pf_X2_8 g wd_113 20 dX2_parse_17 rfl (fun σ4 => ?_)
  refine tr_aload_n g 0 21 dX2_parse_20 rfl rfl rfl ?_
  refine gf_X2_4 g wd_102 24 dX2_parse_21 rfl ?_
  refine tr_if_leD (inj := fun z => Value.int z) g 32 31 27 dX2_parse_24 rfl rfl (fun rs hj => ?_) (fun rs hj => ?_) (fun v5 => ?_)
  · refine tr_iconst (v := 0) g 32 dX2_parse_31 rfl rfl ?_
    exact hj
  · refine tr_iconst (v := 1) g 28 dX2_parse_27 rfl rfl ?_
    refine tr_goto g 32 dX2_parse_28 rfl ?_
    exact hj
  · refine tr_istore_n (lv' := [(1, .int v5), (0, .ref (tn_ad E 1))]) g 33 dX2_parse_32 rfl rfl (by decide) rfl ?_
    refine tr_iconst (v := 0) g 34 dX2_parse_33 rfl rfl ?_
    refine tr_istore_n (lv' := [(2, .int 0), (1, .int v5), (0, .ref (tn_ad E 1))]) g 35 dX2_parse_34 rfl rfl (by decide) rfl ?_
    refine tr_sub [2, 1, 0] (lv' := [(0, .ref (tn_ad E 1)), (1, .int v5), (2, .int 0)]) rfl ?_
    exact b_X2_parse_35 g o  tn_fuel _ _ _
theorem ok_X2_parse {E : tn_E} {l : Launch}    {σ : tn_M} {r : Unit} {σ' : tn_M} (h : f_X2_parse  σ = some (r, σ')) : tn_C E l yX2_parse cX2_parse 3 none (tn_rm 4 89) [.ref (tn_ad E 1)] σ (tn_ve r) σ' :=
  tn_met (by decide) (Nat.le_of_ble_eq_true rfl) (fun G _ g o => b_X2_parse g o   σ) h
theorem yy_X2_parse : tn_Yv RX2 yX2_parse cX2_parse 3 none 0 := ⟨wd_258, wd_257, wd_0, wd_66, by decide, by decide, by decide +kernel⟩
theorem kv_X2_parse {E : tn_E} {G : tn_G} {cc : ByteArray} {own : String} {nL : Nat} {R : Room} {ρ : Type} {enc : ρ → Option Value} {pc : Nat} {lv : List (Nat × Value)} {st : List Value} {σ : tn_M} {kk : Unit → tn_M → Option (ρ × tn_M)} {i : Nat}   (g : tn_Ok E G cc own nL R)  (hw : Cond.methodLink own i yX2_parse ∈ tn_T) (hroom : 5 ≤ R.frames ∧ 111 ≤ R.locals) (hW : (st.map fun v => v.category).sum ≤ 8) (n : Nat) (hd : decode cc pc = .ok (.invokevirtual i, 3)) (hn : pc + 3 = n) (k : ∀ r σ1, tn_V E G enc n lv (st) σ1 (kk r σ1)) : tn_V E G enc pc lv (.ref (tn_ad E 1) :: st) σ (tn_bd (f_X2_parse  σ) kk) :=
  tr_callV (As := []) (enc1 := tn_ve) g yy_X2_parse hw (ci := 2) rfl (by decide) rfl (fun r σ1 h => ok_X2_parse   h) ⟨rfl, rfl⟩ ⟨hroom.1, by have h2 := hroom.2; show 8 + (3 + 11) + 89 ≤ R.locals; omega⟩ rfl rfl hW n hd hn k
/-! X2_append -/
def f_X2_append  (a1 : Int32) (σ : tn_M) : Option (Unit × tn_M) :=
  if 150 ≤ (σ.1 1 4) then
    some ((), σ)
  else
    tn_ck (σ.1 1 4) 150 <|
    tn_lt (tn_si σ 9 (tn_x (σ.1 1 4)) a1) fun σ1 =>
    tn_lt (tn_si σ1 1 4 ((σ1.1 1 4) + 1)) fun σ2 =>
    tn_bd (f_X2_parse σ2) fun _ σ3 =>
    some ((), σ3)
set_option maxHeartbeats 4000000 in
set_option maxRecDepth 20000 in
theorem b_X2_append {E : tn_E} {G : tn_G} (g : tn_Ok E G cX2_append RX2 2 (tn_rm 5 111)) (o : tn_Om E G none)  (a1 : Int32) (σ : tn_M) : tn_V E G tn_ve 0 [(0, .ref (tn_ad E 1)), (1, .int a1)] [] σ (f_X2_append a1 σ) := by
  unfold f_X2_append
  refine tr_aload_n g 0 1 dX2_append_0 rfl rfl rfl ?_
  refine gf_X2_4 g wd_102 4 dX2_append_1 rfl ?_
  refine tr_sipush (v := 150) g 7 dX2_append_4 rfl rfl ?_
  refine tr_icmp_ge g 34 10 dX2_append_7 rfl rfl ?_ ?_
  · exact tr_vret g o dX2_append_34
  · refine tr_aload_n g 0 11 dX2_append_10 rfl rfl rfl ?_
    refine gf_X2_0 g wd_91 14 dX2_append_11 rfl ?_
    refine tr_aload_n g 0 15 dX2_append_14 rfl rfl rfl ?_
    refine gf_X2_4 g wd_102 18 dX2_append_15 rfl ?_
    refine tr_iload_n g 1 19 dX2_append_18 rfl rfl rfl ?_
    refine tr_iast (N := 150) g 20 rfl rfl dX2_append_19 rfl (fun σ1 => ?_)
    refine tr_aload_n g 0 21 dX2_append_20 rfl rfl rfl ?_
    refine tr_dup g 22 dX2_append_21 rfl rfl ?_
    refine gf_X2_4 g wd_102 25 dX2_append_22 rfl ?_
    refine tr_iconst (v := 1) g 26 dX2_append_25 rfl rfl ?_
    refine tr_iadd g 27 dX2_append_26 rfl ?_
    refine pf_X2_4 g wd_102 30 dX2_append_27 rfl (fun σ2 => ?_)
    refine tr_aload_n g 0 31 dX2_append_30 rfl rfl rfl ?_
    refine kv_X2_parse g wd_255 ⟨Nat.le_of_ble_eq_true rfl, Nat.le_of_ble_eq_true rfl⟩ (Nat.le_of_ble_eq_true rfl) 34 dX2_append_31 rfl (fun _ σ3 => ?_)
    exact tr_vret g o dX2_append_34
theorem ok_X2_append {E : tn_E} {l : Launch}   (a1 : Int32) {σ : tn_M} {r : Unit} {σ' : tn_M} (h : f_X2_append a1 σ = some (r, σ')) : tn_C E l yX2_append cX2_append 2 none (tn_rm 5 111) [.ref (tn_ad E 1), .int a1] σ (tn_ve r) σ' :=
  tn_met (by decide) (Nat.le_of_ble_eq_true rfl) (fun G _ g o => b_X2_append g o  a1 σ) h
theorem yy_X2_append : tn_Yv RX2 yX2_append cX2_append 2 none 1 := ⟨wd_254, wd_252, wd_253, wd_66, by decide, by decide, by decide +kernel⟩
theorem kv_X2_append {E : tn_E} {G : tn_G} {cc : ByteArray} {own : String} {nL : Nat} {R : Room} {ρ : Type} {enc : ρ → Option Value} {pc : Nat} {lv : List (Nat × Value)} {st : List Value} {σ : tn_M} {kk : Unit → tn_M → Option (ρ × tn_M)} {i : Nat}  {a1 : Int32} (g : tn_Ok E G cc own nL R)  (hw : Cond.methodLink own i yX2_append ∈ tn_T) (hroom : 6 ≤ R.frames ∧ 132 ≤ R.locals) (hW : (st.map fun v => v.category).sum ≤ 8) (n : Nat) (hd : decode cc pc = .ok (.invokevirtual i, 3)) (hn : pc + 3 = n) (k : ∀ r σ1, tn_V E G enc n lv (st) σ1 (kk r σ1)) : tn_V E G enc pc lv (.int a1 :: .ref (tn_ad E 1) :: st) σ (tn_bd (f_X2_append a1 σ) kk) :=
  tr_callV (As := [.int a1]) (enc1 := tn_ve) g yy_X2_append hw (ci := 2) rfl (by decide) rfl (fun r σ1 h => ok_X2_append  a1 h) ⟨rfl, rfl⟩ ⟨hroom.1, by have h2 := hroom.2; show 8 + (2 + 11) + 111 ≤ R.locals; omega⟩ rfl rfl hW n hd hn k
/-! X2_clear -/
def f_X2_clear   (σ : tn_M) : Option (Unit × tn_M) :=
  tn_lt (tn_si σ 1 4 0) fun σ1 =>
  tn_bd (f_X2_parse σ1) fun _ σ2 =>
  some ((), σ2)
set_option maxHeartbeats 4000000 in
set_option maxRecDepth 20000 in
theorem b_X2_clear {E : tn_E} {G : tn_G} (g : tn_Ok E G cX2_clear RX2 1 (tn_rm 5 111)) (o : tn_Om E G none)   (σ : tn_M) : tn_V E G tn_ve 0 [(0, .ref (tn_ad E 1))] [] σ (f_X2_clear σ) := by
  unfold f_X2_clear
  refine tr_aload_n g 0 1 dX2_clear_0 rfl rfl rfl ?_
  refine tr_iconst (v := 0) g 2 dX2_clear_1 rfl rfl ?_
  refine pf_X2_4 g wd_102 5 dX2_clear_2 rfl (fun σ1 => ?_)
  refine tr_aload_n g 0 6 dX2_clear_5 rfl rfl rfl ?_
  refine kv_X2_parse g wd_255 ⟨Nat.le_of_ble_eq_true rfl, Nat.le_of_ble_eq_true rfl⟩ (Nat.le_of_ble_eq_true rfl) 9 dX2_clear_6 rfl (fun _ σ2 => ?_)
  exact tr_vret g o dX2_clear_9
theorem ok_X2_clear {E : tn_E} {l : Launch}    {σ : tn_M} {r : Unit} {σ' : tn_M} (h : f_X2_clear  σ = some (r, σ')) : tn_C E l yX2_clear cX2_clear 1 none (tn_rm 5 111) [.ref (tn_ad E 1)] σ (tn_ve r) σ' :=
  tn_met (by decide) (Nat.le_of_ble_eq_true rfl) (fun G _ g o => b_X2_clear g o   σ) h
theorem yy_X2_clear : tn_Yv RX2 yX2_clear cX2_clear 1 none 0 := ⟨wd_305, wd_303, wd_304, wd_66, by decide, by decide, by decide +kernel⟩
theorem kv_X2_clear {E : tn_E} {G : tn_G} {cc : ByteArray} {own : String} {nL : Nat} {R : Room} {ρ : Type} {enc : ρ → Option Value} {pc : Nat} {lv : List (Nat × Value)} {st : List Value} {σ : tn_M} {kk : Unit → tn_M → Option (ρ × tn_M)} {i : Nat}   (g : tn_Ok E G cc own nL R)  (hw : Cond.methodLink own i yX2_clear ∈ tn_T) (hroom : 6 ≤ R.frames ∧ 131 ≤ R.locals) (hW : (st.map fun v => v.category).sum ≤ 8) (n : Nat) (hd : decode cc pc = .ok (.invokevirtual i, 3)) (hn : pc + 3 = n) (k : ∀ r σ1, tn_V E G enc n lv (st) σ1 (kk r σ1)) : tn_V E G enc pc lv (.ref (tn_ad E 1) :: st) σ (tn_bd (f_X2_clear  σ) kk) :=
  tr_callV (As := []) (enc1 := tn_ve) g yy_X2_clear hw (ci := 2) rfl (by decide) rfl (fun r σ1 h => ok_X2_clear   h) ⟨rfl, rfl⟩ ⟨hroom.1, by have h2 := hroom.2; show 8 + (1 + 11) + 111 ≤ R.locals; omega⟩ rfl rfl hW n hd hn k
/-! X2_crowd -/
def F_X2_crowd_4  : Nat → Int32 → Int32 → tn_M → Option (Int32 × tn_M)
  | 0, _, _, _ => none
  | tn_n + 1, x1, x2, σ => 
    if (σ.1 1 6) ≤ x2 then
      some (x1, σ)
    else
      tn_ck x2 6 <|
      tn_lt (α := Int32) (x1 + (σ.1 (12 + 1 + tn_x x2) 1)) fun w2 =>
      F_X2_crowd_4 tn_n w2 (x2 + 1) σ
def f_X2_crowd   (σ : tn_M) : Option (Int32 × tn_M) :=
  F_X2_crowd_4 tn_fuel 0 0 σ
set_option maxHeartbeats 4000000 in
set_option maxRecDepth 20000 in
theorem b_X2_crowd_4 {E : tn_E} {G : tn_G} (g : tn_Ok E G cX2_crowd RX2 3 (tn_rm 0 0)) (o : tn_Om E G (some .int))  : ∀ (n : Nat) (x1 : Int32) (x2 : Int32) (σ : tn_M), tn_V E G tn_ie 4 [(0, .ref (tn_ad E 1)), (1, .int x1), (2, .int x2)] [] σ (F_X2_crowd_4 n x1 x2 σ) := by
  intro n
  induction n with
  | zero => intros; exact tr_none
  | succ tn_n ih =>
    intro x1 x2 σ
    rw [F_X2_crowd_4]
    refine tr_iload_n g 2 5 dX2_crowd_4 rfl rfl rfl ?_
    refine tr_aload_n g 0 6 dX2_crowd_5 rfl rfl rfl ?_
    refine gf_X2_6 g wd_109 9 dX2_crowd_6 rfl ?_
    refine tr_icmp_ge g 29 12 dX2_crowd_9 rfl rfl ?_ ?_
    · refine tr_iload_n g 1 30 dX2_crowd_29 rfl rfl rfl ?_
      exact tr_iret g o dX2_crowd_30
    · refine tr_iload_n g 1 13 dX2_crowd_12 rfl rfl rfl ?_
      refine tr_aload_n g 0 14 dX2_crowd_13 rfl rfl rfl ?_
      refine gf_X2_3 g wd_99 17 dX2_crowd_14 rfl ?_
      refine tr_iload_n g 2 18 dX2_crowd_17 rfl rfl rfl ?_
      refine tr_aald (N := 6) g 19 rfl rfl dX2_crowd_18 rfl (fun h1 => ?_)
      refine tr_iconst (v := 1) g 20 dX2_crowd_19 rfl rfl ?_
      refine tr_ialdK (N := 6) g 21 1 (tn_rowB h1).1 rfl (tn_rowB h1).2 (by decide) dX2_crowd_20 rfl ?_
      refine tr_iadd g 22 dX2_crowd_21 rfl ?_
      refine tr_lti (fun w2 => ?_)
      refine tr_istore_n (lv' := [(1, .int w2), (0, .ref (tn_ad E 1)), (2, .int x2)]) g 23 dX2_crowd_22 rfl rfl (by decide) rfl ?_
      refine tr_iinc (lv' := [(2, .int (x2 + 1)), (1, .int w2), (0, .ref (tn_ad E 1))]) (x := (x2 + 1)) g 2 26 dX2_crowd_23 rfl rfl rfl (by decide) rfl ?_
      refine tr_goto g 4 dX2_crowd_26 rfl ?_
      refine tr_sub [2, 1, 0] (lv' := [(0, .ref (tn_ad E 1)), (1, .int w2), (2, .int (x2 + 1))]) rfl ?_
      exact ih _ _ _
set_option maxHeartbeats 4000000 in
set_option maxRecDepth 20000 in
theorem b_X2_crowd {E : tn_E} {G : tn_G} (g : tn_Ok E G cX2_crowd RX2 3 (tn_rm 0 0)) (o : tn_Om E G (some .int))   (σ : tn_M) : tn_V E G tn_ie 0 [(0, .ref (tn_ad E 1))] [] σ (f_X2_crowd σ) := by
  unfold f_X2_crowd
  refine tr_iconst (v := 0) g 1 dX2_crowd_0 rfl rfl ?_
  refine tr_istore_n (lv' := [(1, .int 0), (0, .ref (tn_ad E 1))]) g 2 dX2_crowd_1 rfl rfl (by decide) rfl ?_
  refine tr_iconst (v := 0) g 3 dX2_crowd_2 rfl rfl ?_
  refine tr_istore_n (lv' := [(2, .int 0), (1, .int 0), (0, .ref (tn_ad E 1))]) g 4 dX2_crowd_3 rfl rfl (by decide) rfl ?_
  refine tr_sub [2, 1, 0] (lv' := [(0, .ref (tn_ad E 1)), (1, .int 0), (2, .int 0)]) rfl ?_
  exact b_X2_crowd_4 g o  tn_fuel _ _ _
theorem ok_X2_crowd {E : tn_E} {l : Launch}    {σ : tn_M} {r : Int32} {σ' : tn_M} (h : f_X2_crowd  σ = some (r, σ')) : tn_C E l yX2_crowd cX2_crowd 3 (some .int) (tn_rm 0 0) [.ref (tn_ad E 1)] σ (tn_ie r) σ' :=
  tn_met (by decide) (Nat.le_of_ble_eq_true rfl) (fun G _ g o => b_X2_crowd g o   σ) h
theorem yy_X2_crowd : tn_Yv RX2 yX2_crowd cX2_crowd 3 (some .int) 0 := ⟨wd_681, wd_679, wd_680, wd_66, by decide, by decide, by decide +kernel⟩
theorem kv_X2_crowd {E : tn_E} {G : tn_G} {cc : ByteArray} {own : String} {nL : Nat} {R : Room} {ρ : Type} {enc : ρ → Option Value} {pc : Nat} {lv : List (Nat × Value)} {st : List Value} {σ : tn_M} {kk : Int32 → tn_M → Option (ρ × tn_M)} {i : Nat}   (g : tn_Ok E G cc own nL R)  (hw : Cond.methodLink own i yX2_crowd ∈ tn_T) (hroom : 1 ≤ R.frames ∧ 22 ≤ R.locals) (hW : (st.map fun v => v.category).sum ≤ 8) (n : Nat) (hd : decode cc pc = .ok (.invokevirtual i, 3)) (hn : pc + 3 = n) (k : ∀ r σ1, tn_V E G enc n lv (.int r :: st) σ1 (kk r σ1)) : tn_V E G enc pc lv (.ref (tn_ad E 1) :: st) σ (tn_bd (f_X2_crowd  σ) kk) :=
  tr_callV (As := []) (enc1 := tn_ie) g yy_X2_crowd hw (ci := 2) rfl (by decide) rfl (fun r σ1 h => ok_X2_crowd   h) ⟨rfl, rfl⟩ ⟨hroom.1, by have h2 := hroom.2; show 8 + (3 + 11) + 0 ≤ R.locals; omega⟩ rfl rfl hW n hd hn k

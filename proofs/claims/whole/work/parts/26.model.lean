/-! X5_in -/
def f_X5_in  (a0 : Int64) (a2 : Int64) (a4 : Int64) (σ : tn_M) : Option (Int32 × tn_M) :=
  if a0 < a2 then
    some (0, σ)
  else
    if a4 < a0 then
      some (0, σ)
    else
      some (1, σ)
set_option maxHeartbeats 4000000 in
set_option maxRecDepth 20000 in
theorem b_X5_in {E : tn_E} {G : tn_G} (g : tn_Ok E G cX5_in RX5 6 (tn_rm 0 0)) (o : tn_Om E G (some .boolean))  (a0 : Int64) (a2 : Int64) (a4 : Int64) (σ : tn_M) : tn_V E G tn_ie 0 [(0, .long a0), (2, .long a2), (4, .long a4)] [] σ (f_X5_in a0 a2 a4 σ) := by
  unfold f_X5_in
  refine tr_lload_n g 0 1 dX5_in_0 rfl rfl rfl ?_
  refine tr_lload_n g 1 2 dX5_in_1 rfl rfl rfl ?_
  refine tr_llt g 17 6 dX5_in_2 dX5_in_3 rfl rfl ?_ ?_
  · refine tr_iconst (v := 0) g 18 dX5_in_17 rfl rfl ?_
    exact tr_zret g o rfl dX5_in_18
  · refine tr_lload_n g 0 7 dX5_in_6 rfl rfl rfl ?_
    refine tr_lload g 2 9 dX5_in_7 rfl rfl ?_
    refine tr_lgt g 17 13 dX5_in_9 dX5_in_10 rfl rfl ?_ ?_
    · refine tr_iconst (v := 0) g 18 dX5_in_17 rfl rfl ?_
      exact tr_zret g o rfl dX5_in_18
    · refine tr_iconst (v := 1) g 14 dX5_in_13 rfl rfl ?_
      refine tr_goto g 18 dX5_in_14 rfl ?_
      exact tr_zret g o rfl dX5_in_18
theorem ok_X5_in {E : tn_E} {l : Launch}   (a0 : Int64) (a2 : Int64) (a4 : Int64) {σ : tn_M} {r : Int32} {σ' : tn_M} (h : f_X5_in a0 a2 a4 σ = some (r, σ')) : tn_C E l yX5_in cX5_in 6 (some .boolean) (tn_rm 0 0) [.long a0, .long a2, .long a4] σ (tn_ie r) σ' :=
  tn_met (by decide) (Nat.le_of_ble_eq_true rfl) (fun G _ g o => b_X5_in g o  a0 a2 a4 σ) h
theorem yy_X5_in : tn_Ys yX5_in cX5_in 6 (some .boolean) 3 := ⟨wd_796, wd_795, wd_70, by decide, by decide, by decide +kernel⟩
theorem kv_X5_in {E : tn_E} {G : tn_G} {cc : ByteArray} {own : String} {nL : Nat} {R : Room} {ρ : Type} {enc : ρ → Option Value} {pc : Nat} {lv : List (Nat × Value)} {st : List Value} {σ : tn_M} {kk : Int32 → tn_M → Option (ρ × tn_M)} {i : Nat}  {a0 : Int64} {a2 : Int64} {a4 : Int64} (g : tn_Ok E G cc own nL R)  (hw : Cond.methodLink own i yX5_in ∈ tn_T) (hroom : 1 ≤ R.frames ∧ 25 ≤ R.locals) (hW : (st.map fun v => v.category).sum ≤ 8) (n : Nat) (hd : decode cc pc = .ok (.invokestatic i, 3)) (hn : pc + 3 = n) (k : ∀ r σ1, tn_V E G enc n lv (.int r :: st) σ1 (kk r σ1)) : tn_V E G enc pc lv (.long a4 :: .long a2 :: .long a0 :: st) σ (tn_bd (f_X5_in a0 a2 a4 σ) kk) :=
  tr_callS (As := [.long a0, .long a2, .long a4]) (enc1 := tn_ie) g yy_X5_in hw (fun r σ1 h => ok_X5_in  a0 a2 a4 h) ⟨rfl, rfl⟩ ⟨hroom.1, by have h2 := hroom.2; show 8 + (6 + 11) + 0 ≤ R.locals; omega⟩ rfl rfl hW n hd hn k
/-! X5_no -/
def f_X5_no  (a0 : Int32) (σ : tn_M) : Option (Int64 × tn_M) :=
  some (((-9223372036854775808) - (Int32.toInt64 a0)), σ)
set_option maxHeartbeats 4000000 in
set_option maxRecDepth 20000 in
theorem b_X5_no {E : tn_E} {G : tn_G} (g : tn_Ok E G cX5_no RX5 1 (tn_rm 0 0)) (o : tn_Om E G (some .long))  (a0 : Int32) (σ : tn_M) : tn_V E G tn_le 0 [(0, .int a0)] [] σ (f_X5_no a0 σ) := by
  unfold f_X5_no
  refine tr_ldc2 (v := (-9223372036854775808)) g wd_964 3 dX5_no_0 rfl ?_
  refine tr_iload_n g 0 4 dX5_no_3 rfl rfl rfl ?_
  refine tr_i2l g 5 dX5_no_4 rfl ?_
  refine tr_lsub g 6 dX5_no_5 rfl ?_
  exact tr_lret g o dX5_no_6
theorem ok_X5_no {E : tn_E} {l : Launch}   (a0 : Int32) {σ : tn_M} {r : Int64} {σ' : tn_M} (h : f_X5_no a0 σ = some (r, σ')) : tn_C E l yX5_no cX5_no 1 (some .long) (tn_rm 0 0) [.int a0] σ (tn_le r) σ' :=
  tn_met (by decide) (Nat.le_of_ble_eq_true rfl) (fun G _ g o => b_X5_no g o  a0 σ) h
theorem yy_X5_no : tn_Ys yX5_no cX5_no 1 (some .long) 1 := ⟨wd_963, wd_962, wd_70, by decide, by decide, by decide +kernel⟩
theorem kv_X5_no {E : tn_E} {G : tn_G} {cc : ByteArray} {own : String} {nL : Nat} {R : Room} {ρ : Type} {enc : ρ → Option Value} {pc : Nat} {lv : List (Nat × Value)} {st : List Value} {σ : tn_M} {kk : Int64 → tn_M → Option (ρ × tn_M)} {i : Nat}  {a0 : Int32} (g : tn_Ok E G cc own nL R)  (hw : Cond.methodLink own i yX5_no ∈ tn_T) (hroom : 1 ≤ R.frames ∧ 20 ≤ R.locals) (hW : (st.map fun v => v.category).sum ≤ 8) (n : Nat) (hd : decode cc pc = .ok (.invokestatic i, 3)) (hn : pc + 3 = n) (k : ∀ r σ1, tn_V E G enc n lv (.long r :: st) σ1 (kk r σ1)) : tn_V E G enc pc lv (.int a0 :: st) σ (tn_bd (f_X5_no a0 σ) kk) :=
  tr_callS (As := [.int a0]) (enc1 := tn_le) g yy_X5_no hw (fun r σ1 h => ok_X5_no  a0 h) ⟨rfl, rfl⟩ ⟨hroom.1, by have h2 := hroom.2; show 8 + (1 + 11) + 0 ≤ R.locals; omega⟩ rfl rfl hW n hd hn k
/-! X5_isTwo -/
def f_X5_isTwo  (a0 : Int32) (σ : tn_M) : Option (Int32 × tn_M) :=
  tn_bd (f_X5_in (Int32.toInt64 a0) 0 1 σ) fun r2 σ1 =>
  tn_zr r2 σ1
set_option maxHeartbeats 4000000 in
set_option maxRecDepth 20000 in
theorem b_X5_isTwo {E : tn_E} {G : tn_G} (g : tn_Ok E G cX5_isTwo RX5 1 (tn_rm 1 25)) (o : tn_Om E G (some .boolean))  (a0 : Int32) (σ : tn_M) : tn_V E G tn_ie 0 [(0, .int a0)] [] σ (f_X5_isTwo a0 σ) := by
  unfold f_X5_isTwo
  refine tr_iload_n g 0 1 dX5_isTwo_0 rfl rfl rfl ?_
  refine tr_i2l g 2 dX5_isTwo_1 rfl ?_
  refine tr_lconst (v := 0) g 3 dX5_isTwo_2 rfl rfl ?_
  refine tr_lconst (v := 1) g 4 dX5_isTwo_3 rfl rfl ?_
  refine kv_X5_in g wd_794 ⟨Nat.le_of_ble_eq_true rfl, Nat.le_of_ble_eq_true rfl⟩ (Nat.le_of_ble_eq_true rfl) 7 dX5_isTwo_4 rfl (fun r2 σ1 => ?_)
  exact tr_zretv g o dX5_isTwo_7
theorem ok_X5_isTwo {E : tn_E} {l : Launch}   (a0 : Int32) {σ : tn_M} {r : Int32} {σ' : tn_M} (h : f_X5_isTwo a0 σ = some (r, σ')) : tn_C E l yX5_isTwo cX5_isTwo 1 (some .boolean) (tn_rm 1 25) [.int a0] σ (tn_ie r) σ' :=
  tn_met (by decide) (Nat.le_of_ble_eq_true rfl) (fun G _ g o => b_X5_isTwo g o  a0 σ) h
theorem yy_X5_isTwo : tn_Ys yX5_isTwo cX5_isTwo 1 (some .boolean) 1 := ⟨wd_926, wd_925, wd_70, by decide, by decide, by decide +kernel⟩
theorem kv_X5_isTwo {E : tn_E} {G : tn_G} {cc : ByteArray} {own : String} {nL : Nat} {R : Room} {ρ : Type} {enc : ρ → Option Value} {pc : Nat} {lv : List (Nat × Value)} {st : List Value} {σ : tn_M} {kk : Int32 → tn_M → Option (ρ × tn_M)} {i : Nat}  {a0 : Int32} (g : tn_Ok E G cc own nL R)  (hw : Cond.methodLink own i yX5_isTwo ∈ tn_T) (hroom : 2 ≤ R.frames ∧ 45 ≤ R.locals) (hW : (st.map fun v => v.category).sum ≤ 8) (n : Nat) (hd : decode cc pc = .ok (.invokestatic i, 3)) (hn : pc + 3 = n) (k : ∀ r σ1, tn_V E G enc n lv (.int r :: st) σ1 (kk r σ1)) : tn_V E G enc pc lv (.int a0 :: st) σ (tn_bd (f_X5_isTwo a0 σ) kk) :=
  tr_callS (As := [.int a0]) (enc1 := tn_ie) g yy_X5_isTwo hw (fun r σ1 h => ok_X5_isTwo  a0 h) ⟨rfl, rfl⟩ ⟨hroom.1, by have h2 := hroom.2; show 8 + (1 + 11) + 25 ≤ R.locals; omega⟩ rfl rfl hW n hd hn k
/-! X5_met -/
def f_X5_met  (a1 : Int32) (σ : tn_M) : Option (Int32 × tn_M) :=
  tn_lt (tn_si σ 5 4 a1) fun σ1 =>
  some (((-10) - a1), σ1)
set_option maxHeartbeats 4000000 in
set_option maxRecDepth 20000 in
theorem b_X5_met {E : tn_E} {G : tn_G} (g : tn_Ok E G cX5_met RX5 2 (tn_rm 0 0)) (o : tn_Om E G (some .int))  (a1 : Int32) (σ : tn_M) : tn_V E G tn_ie 0 [(0, .ref (tn_ad E 5)), (1, .int a1)] [] σ (f_X5_met a1 σ) := by
  unfold f_X5_met
  refine tr_aload_n g 0 1 dX5_met_0 rfl rfl rfl ?_
  refine tr_iload_n g 1 2 dX5_met_1 rfl rfl rfl ?_
  refine pf_X5_4 g wd_708 5 dX5_met_2 rfl (fun σ1 => ?_)
  refine tr_bipush (v := (-10)) g 7 dX5_met_5 rfl rfl ?_
  refine tr_iload_n g 1 8 dX5_met_7 rfl rfl rfl ?_
  refine tr_isub g 9 dX5_met_8 rfl ?_
  exact tr_iret g o dX5_met_9
theorem ok_X5_met {E : tn_E} {l : Launch}   (a1 : Int32) {σ : tn_M} {r : Int32} {σ' : tn_M} (h : f_X5_met a1 σ = some (r, σ')) : tn_C E l yX5_met cX5_met 2 (some .int) (tn_rm 0 0) [.ref (tn_ad E 5), .int a1] σ (tn_ie r) σ' :=
  tn_met (by decide) (Nat.le_of_ble_eq_true rfl) (fun G _ g o => b_X5_met g o  a1 σ) h
theorem yy_X5_met : tn_Yv RX5 yX5_met cX5_met 2 (some .int) 1 := ⟨wd_801, wd_800, wd_25, wd_70, by decide, by decide, by decide +kernel⟩
theorem kv_X5_met {E : tn_E} {G : tn_G} {cc : ByteArray} {own : String} {nL : Nat} {R : Room} {ρ : Type} {enc : ρ → Option Value} {pc : Nat} {lv : List (Nat × Value)} {st : List Value} {σ : tn_M} {kk : Int32 → tn_M → Option (ρ × tn_M)} {i : Nat}  {a1 : Int32} (g : tn_Ok E G cc own nL R)  (hw : Cond.methodLink own i yX5_met ∈ tn_T) (hroom : 1 ≤ R.frames ∧ 21 ≤ R.locals) (hW : (st.map fun v => v.category).sum ≤ 8) (n : Nat) (hd : decode cc pc = .ok (.invokevirtual i, 3)) (hn : pc + 3 = n) (k : ∀ r σ1, tn_V E G enc n lv (.int r :: st) σ1 (kk r σ1)) : tn_V E G enc pc lv (.int a1 :: .ref (tn_ad E 5) :: st) σ (tn_bd (f_X5_met a1 σ) kk) :=
  tr_callV (As := [.int a1]) (enc1 := tn_ie) g yy_X5_met hw (ci := 5) rfl (by decide) rfl (fun r σ1 h => ok_X5_met  a1 h) ⟨rfl, rfl⟩ ⟨hroom.1, by have h2 := hroom.2; show 8 + (2 + 11) + 0 ≤ R.locals; omega⟩ rfl rfl hW n hd hn k
/-! X5_isSheet -/
def f_X5_isSheet  (a0 : Int32) (σ : tn_M) : Option (Int32 × tn_M) :=
  tn_bd (f_X5_in (Int32.toInt64 a0) 0 3 σ) fun r2 σ1 =>
  tn_zr r2 σ1
set_option maxHeartbeats 4000000 in
set_option maxRecDepth 20000 in
theorem b_X5_isSheet {E : tn_E} {G : tn_G} (g : tn_Ok E G cX5_isSheet RX5 1 (tn_rm 1 25)) (o : tn_Om E G (some .boolean))  (a0 : Int32) (σ : tn_M) : tn_V E G tn_ie 0 [(0, .int a0)] [] σ (f_X5_isSheet a0 σ) := by
  unfold f_X5_isSheet
  refine tr_iload_n g 0 1 dX5_isSheet_0 rfl rfl rfl ?_
  refine tr_i2l g 2 dX5_isSheet_1 rfl ?_
  refine tr_lconst (v := 0) g 3 dX5_isSheet_2 rfl rfl ?_
  refine tr_ldc2 (v := 3) g wd_793 6 dX5_isSheet_3 rfl ?_
  refine kv_X5_in g wd_794 ⟨Nat.le_of_ble_eq_true rfl, Nat.le_of_ble_eq_true rfl⟩ (Nat.le_of_ble_eq_true rfl) 9 dX5_isSheet_6 rfl (fun r2 σ1 => ?_)
  exact tr_zretv g o dX5_isSheet_9
theorem ok_X5_isSheet {E : tn_E} {l : Launch}   (a0 : Int32) {σ : tn_M} {r : Int32} {σ' : tn_M} (h : f_X5_isSheet a0 σ = some (r, σ')) : tn_C E l yX5_isSheet cX5_isSheet 1 (some .boolean) (tn_rm 1 25) [.int a0] σ (tn_ie r) σ' :=
  tn_met (by decide) (Nat.le_of_ble_eq_true rfl) (fun G _ g o => b_X5_isSheet g o  a0 σ) h
theorem yy_X5_isSheet : tn_Ys yX5_isSheet cX5_isSheet 1 (some .boolean) 1 := ⟨wd_792, wd_791, wd_70, by decide, by decide, by decide +kernel⟩
theorem kv_X5_isSheet {E : tn_E} {G : tn_G} {cc : ByteArray} {own : String} {nL : Nat} {R : Room} {ρ : Type} {enc : ρ → Option Value} {pc : Nat} {lv : List (Nat × Value)} {st : List Value} {σ : tn_M} {kk : Int32 → tn_M → Option (ρ × tn_M)} {i : Nat}  {a0 : Int32} (g : tn_Ok E G cc own nL R)  (hw : Cond.methodLink own i yX5_isSheet ∈ tn_T) (hroom : 2 ≤ R.frames ∧ 45 ≤ R.locals) (hW : (st.map fun v => v.category).sum ≤ 8) (n : Nat) (hd : decode cc pc = .ok (.invokestatic i, 3)) (hn : pc + 3 = n) (k : ∀ r σ1, tn_V E G enc n lv (.int r :: st) σ1 (kk r σ1)) : tn_V E G enc pc lv (.int a0 :: st) σ (tn_bd (f_X5_isSheet a0 σ) kk) :=
  tr_callS (As := [.int a0]) (enc1 := tn_ie) g yy_X5_isSheet hw (fun r σ1 h => ok_X5_isSheet  a0 h) ⟨rfl, rfl⟩ ⟨hroom.1, by have h2 := hroom.2; show 8 + (1 + 11) + 25 ≤ R.locals; omega⟩ rfl rfl hW n hd hn k
/-! X5_sheet -/
def F_X5_sheet_55  : Nat → Int32 → Int32 → Int32 → tn_M → Option (Int32 × tn_M)
  | 0, _, _, _, _ => none
  | tn_n + 1, x1, x3, x4, σ => 
    if x3 ≤ x4 then
      some (x3, σ)
    else
      tn_ck ((60 * x1) + x4) 240 <|
      tn_lt (tn_si σ 35 (tn_x ((60 * x1) + x4)) 0) fun σ1 =>
      F_X5_sheet_55 tn_n x1 x3 (x4 + 1) σ1
def f_X5_sheet  (a1 : Int32) (a2 : Int32) (a3 : Int32) (σ : tn_M) : Option (Int32 × tn_M) :=
  tn_bd (f_X5_isSheet a1 σ) fun r2 σ1 =>
  if r2 = 0 then
    some ((-2), σ1)
  else
    tn_bd (f_X5_in (Int32.toInt64 a2) 0 2 σ1) fun r4 σ3 =>
    if r4 = 0 then
      some ((-2), σ3)
    else
      if a3 ≤ 60 then
        if 0 ≤ a3 then
          tn_ck a1 4 <|
          tn_lt (tn_si σ3 33 (tn_x a1) a2) fun σ5 =>
          tn_ck a1 4 <|
          tn_lt (tn_si σ5 34 (tn_x a1) a3) fun σ6 =>
          F_X5_sheet_55 tn_fuel a1 a3 0 σ6
        else
          tn_bd (f_X5_met 5 σ3) fun r8 σ7 =>
          some (r8, σ7)
      else
        some ((-2), σ3)
set_option maxHeartbeats 4000000 in
set_option maxRecDepth 20000 in
theorem b_X5_sheet_55 {E : tn_E} {G : tn_G} (g : tn_Ok E G cX5_sheet RX5 5 (tn_rm 2 45)) (o : tn_Om E G (some .int))  : ∀ (n : Nat) (x1 : Int32) (x3 : Int32) (x4 : Int32) (σ : tn_M), tn_V E G tn_ie 55 [(0, .ref (tn_ad E 5)), (1, .int x1), (3, .int x3), (4, .int x4)] [] σ (F_X5_sheet_55 n x1 x3 x4 σ) := by
  intro n
  induction n with
  | zero => intros; exact tr_none
  | succ tn_n ih =>
    intro x1 x3 x4 σ
    rw [F_X5_sheet_55]
    refine tr_iload g 3 57 dX5_sheet_55 rfl rfl ?_
    refine tr_iload_n g 2 58 dX5_sheet_57 rfl rfl rfl ?_
    refine tr_icmp_ge g 80 61 dX5_sheet_58 rfl rfl ?_ ?_
    · refine tr_iload_n g 2 81 dX5_sheet_80 rfl rfl rfl ?_
      exact tr_iret g o dX5_sheet_81
    · refine tr_aload_n g 0 62 dX5_sheet_61 rfl rfl rfl ?_
      refine gf_X5_2 g wd_706 65 dX5_sheet_62 rfl ?_
      refine tr_bipush (v := 60) g 67 dX5_sheet_65 rfl rfl ?_
      refine tr_iload_n g 1 68 dX5_sheet_67 rfl rfl rfl ?_
      refine tr_imul g 69 dX5_sheet_68 rfl ?_
      refine tr_iload g 3 71 dX5_sheet_69 rfl rfl ?_
      refine tr_iadd g 72 dX5_sheet_71 rfl ?_
      refine tr_iconst (v := 0) g 73 dX5_sheet_72 rfl rfl ?_
      refine tr_iast (N := 240) g 74 rfl rfl dX5_sheet_73 rfl (fun σ1 => ?_)
      refine tr_iinc (lv' := [(4, .int (x4 + 1)), (0, .ref (tn_ad E 5)), (1, .int x1), (3, .int x3)]) (x := (x4 + 1)) g 3 77 dX5_sheet_74 rfl rfl rfl (by decide) rfl ?_
      refine tr_goto g 55 dX5_sheet_77 rfl ?_
      refine tr_sub [1, 2, 3, 0] (lv' := [(0, .ref (tn_ad E 5)), (1, .int x1), (3, .int x3), (4, .int (x4 + 1))]) rfl ?_
      exact ih _ _ _ _
set_option maxHeartbeats 4000000 in
set_option maxRecDepth 20000 in
theorem b_X5_sheet {E : tn_E} {G : tn_G} (g : tn_Ok E G cX5_sheet RX5 5 (tn_rm 2 45)) (o : tn_Om E G (some .int))  (a1 : Int32) (a2 : Int32) (a3 : Int32) (σ : tn_M) : tn_V E G tn_ie 0 [(0, .ref (tn_ad E 5)), (1, .int a1), (2, .int a2), (3, .int a3)] [] σ (f_X5_sheet a1 a2 a3 σ) := by
  unfold f_X5_sheet
  refine tr_iload_n g 1 1 dX5_sheet_0 rfl rfl rfl ?_
  refine kv_X5_isSheet g wd_790 ⟨Nat.le_of_ble_eq_true rfl, Nat.le_of_ble_eq_true rfl⟩ (Nat.le_of_ble_eq_true rfl) 4 dX5_sheet_1 rfl (fun r2 σ1 => ?_)
  refine tr_if_eq g 25 7 dX5_sheet_4 rfl rfl ?_ ?_
  · refine tr_bipush (v := (-2)) g 27 dX5_sheet_25 rfl rfl ?_
    exact tr_iret g o dX5_sheet_27
  · refine tr_iload_n g 2 8 dX5_sheet_7 rfl rfl rfl ?_
    refine tr_i2l g 9 dX5_sheet_8 rfl ?_
    refine tr_lconst (v := 0) g 10 dX5_sheet_9 rfl rfl ?_
    refine tr_ldc2 (v := 2) g wd_797 13 dX5_sheet_10 rfl ?_
    refine kv_X5_in g wd_794 ⟨Nat.le_of_ble_eq_true rfl, Nat.le_of_ble_eq_true rfl⟩ (Nat.le_of_ble_eq_true rfl) 16 dX5_sheet_13 rfl (fun r4 σ3 => ?_)
    refine tr_if_eq g 25 19 dX5_sheet_16 rfl rfl ?_ ?_
    · refine tr_bipush (v := (-2)) g 27 dX5_sheet_25 rfl rfl ?_
      exact tr_iret g o dX5_sheet_27
    · refine tr_iload_n g 3 20 dX5_sheet_19 rfl rfl rfl ?_
      refine tr_bipush (v := 60) g 22 dX5_sheet_20 rfl rfl ?_
      refine tr_icmp_le g 28 25 dX5_sheet_22 rfl rfl ?_ ?_
      · refine tr_iload_n g 3 29 dX5_sheet_28 rfl rfl rfl ?_
        refine tr_if_ge g 38 32 dX5_sheet_29 rfl rfl ?_ ?_
        · refine tr_aload_n g 0 39 dX5_sheet_38 rfl rfl rfl ?_
          refine gf_X5_0 g wd_704 42 dX5_sheet_39 rfl ?_
          refine tr_iload_n g 1 43 dX5_sheet_42 rfl rfl rfl ?_
          refine tr_iload_n g 2 44 dX5_sheet_43 rfl rfl rfl ?_
          refine tr_iast (N := 4) g 45 rfl rfl dX5_sheet_44 rfl (fun σ5 => ?_)
          refine tr_aload_n g 0 46 dX5_sheet_45 rfl rfl rfl ?_
          refine gf_X5_1 g wd_705 49 dX5_sheet_46 rfl ?_
          refine tr_iload_n g 1 50 dX5_sheet_49 rfl rfl rfl ?_
          refine tr_iload_n g 3 51 dX5_sheet_50 rfl rfl rfl ?_
          refine tr_iast (N := 4) g 52 rfl rfl dX5_sheet_51 rfl (fun σ6 => ?_)
          refine tr_iconst (v := 0) g 53 dX5_sheet_52 rfl rfl ?_
          refine tr_istore (lv' := [(4, .int 0), (0, .ref (tn_ad E 5)), (1, .int a1), (2, .int a2), (3, .int a3)]) g 55 dX5_sheet_53 rfl (by decide) rfl ?_
          refine tr_sub [1, 2, 4, 0] (lv' := [(0, .ref (tn_ad E 5)), (1, .int a1), (3, .int a3), (4, .int 0)]) rfl ?_
          exact b_X5_sheet_55 g o  tn_fuel _ _ _ _
        · refine tr_aload_n g 0 33 dX5_sheet_32 rfl rfl rfl ?_
          refine tr_iconst (v := 5) g 34 dX5_sheet_33 rfl rfl ?_
          refine kv_X5_met g wd_798 ⟨Nat.le_of_ble_eq_true rfl, Nat.le_of_ble_eq_true rfl⟩ (Nat.le_of_ble_eq_true rfl) 37 dX5_sheet_34 rfl (fun r8 σ7 => ?_)
          exact tr_iret g o dX5_sheet_37
      · refine tr_bipush (v := (-2)) g 27 dX5_sheet_25 rfl rfl ?_
        exact tr_iret g o dX5_sheet_27
theorem ok_X5_sheet {E : tn_E} {l : Launch}   (a1 : Int32) (a2 : Int32) (a3 : Int32) {σ : tn_M} {r : Int32} {σ' : tn_M} (h : f_X5_sheet a1 a2 a3 σ = some (r, σ')) : tn_C E l yX5_sheet cX5_sheet 5 (some .int) (tn_rm 2 45) [.ref (tn_ad E 5), .int a1, .int a2, .int a3] σ (tn_ie r) σ' :=
  tn_met (by decide) (Nat.le_of_ble_eq_true rfl) (fun G _ g o => b_X5_sheet g o  a1 a2 a3 σ) h
theorem yy_X5_sheet : tn_Yv RX5 yX5_sheet cX5_sheet 5 (some .int) 3 := ⟨wd_789, wd_787, wd_788, wd_70, by decide, by decide, by decide +kernel⟩
theorem kv_X5_sheet {E : tn_E} {G : tn_G} {cc : ByteArray} {own : String} {nL : Nat} {R : Room} {ρ : Type} {enc : ρ → Option Value} {pc : Nat} {lv : List (Nat × Value)} {st : List Value} {σ : tn_M} {kk : Int32 → tn_M → Option (ρ × tn_M)} {i : Nat}  {a1 : Int32} {a2 : Int32} {a3 : Int32} (g : tn_Ok E G cc own nL R)  (hw : Cond.methodLink own i yX5_sheet ∈ tn_T) (hroom : 3 ≤ R.frames ∧ 69 ≤ R.locals) (hW : (st.map fun v => v.category).sum ≤ 8) (n : Nat) (hd : decode cc pc = .ok (.invokevirtual i, 3)) (hn : pc + 3 = n) (k : ∀ r σ1, tn_V E G enc n lv (.int r :: st) σ1 (kk r σ1)) : tn_V E G enc pc lv (.int a3 :: .int a2 :: .int a1 :: .ref (tn_ad E 5) :: st) σ (tn_bd (f_X5_sheet a1 a2 a3 σ) kk) :=
  tr_callV (As := [.int a1, .int a2, .int a3]) (enc1 := tn_ie) g yy_X5_sheet hw (ci := 5) rfl (by decide) rfl (fun r σ1 h => ok_X5_sheet  a1 a2 a3 h) ⟨rfl, rfl⟩ ⟨hroom.1, by have h2 := hroom.2; show 8 + (5 + 11) + 45 ≤ R.locals; omega⟩ rfl rfl hW n hd hn k
/-! X5_lose -/
def f_X5_lose  (a1 : Int32) (σ : tn_M) : Option (Int32 × tn_M) :=
  tn_bd (f_X5_isSheet a1 σ) fun r2 σ1 =>
  if r2 = 0 then
    some ((-2), σ1)
  else
    tn_ck a1 4 <|
    if 0 ≤ (σ1.1 33 (tn_x a1)) then
      tn_ck a1 4 <|
      tn_lt (tn_si σ1 33 (tn_x a1) (-1)) fun σ3 =>
      tn_ck a1 4 <|
      some ((σ3.1 34 (tn_x a1)), σ3)
    else
      tn_bd (f_X5_met 1 σ1) fun r5 σ4 =>
      some (r5, σ4)
set_option maxHeartbeats 4000000 in
set_option maxRecDepth 20000 in
theorem b_X5_lose {E : tn_E} {G : tn_G} (g : tn_Ok E G cX5_lose RX5 2 (tn_rm 2 45)) (o : tn_Om E G (some .int))  (a1 : Int32) (σ : tn_M) : tn_V E G tn_ie 0 [(0, .ref (tn_ad E 5)), (1, .int a1)] [] σ (f_X5_lose a1 σ) := by
  unfold f_X5_lose
  refine tr_iload_n g 1 1 dX5_lose_0 rfl rfl rfl ?_
  refine kv_X5_isSheet g wd_790 ⟨Nat.le_of_ble_eq_true rfl, Nat.le_of_ble_eq_true rfl⟩ (Nat.le_of_ble_eq_true rfl) 4 dX5_lose_1 rfl (fun r2 σ1 => ?_)
  refine tr_if_ne g 10 7 dX5_lose_4 rfl rfl ?_ ?_
  · refine tr_aload_n g 0 11 dX5_lose_10 rfl rfl rfl ?_
    refine gf_X5_0 g wd_704 14 dX5_lose_11 rfl ?_
    refine tr_iload_n g 1 15 dX5_lose_14 rfl rfl rfl ?_
    refine tr_iald (N := 4) g 16 rfl rfl dX5_lose_15 rfl ?_
    refine tr_if_ge g 25 19 dX5_lose_16 rfl rfl ?_ ?_
    · refine tr_aload_n g 0 26 dX5_lose_25 rfl rfl rfl ?_
      refine gf_X5_0 g wd_704 29 dX5_lose_26 rfl ?_
      refine tr_iload_n g 1 30 dX5_lose_29 rfl rfl rfl ?_
      refine tr_iconst (v := (-1)) g 31 dX5_lose_30 rfl rfl ?_
      refine tr_iast (N := 4) g 32 rfl rfl dX5_lose_31 rfl (fun σ3 => ?_)
      refine tr_aload_n g 0 33 dX5_lose_32 rfl rfl rfl ?_
      refine gf_X5_1 g wd_705 36 dX5_lose_33 rfl ?_
      refine tr_iload_n g 1 37 dX5_lose_36 rfl rfl rfl ?_
      refine tr_iald (N := 4) g 38 rfl rfl dX5_lose_37 rfl ?_
      exact tr_iret g o dX5_lose_38
    · refine tr_aload_n g 0 20 dX5_lose_19 rfl rfl rfl ?_
      refine tr_iconst (v := 1) g 21 dX5_lose_20 rfl rfl ?_
      refine kv_X5_met g wd_798 ⟨Nat.le_of_ble_eq_true rfl, Nat.le_of_ble_eq_true rfl⟩ (Nat.le_of_ble_eq_true rfl) 24 dX5_lose_21 rfl (fun r5 σ4 => ?_)
      exact tr_iret g o dX5_lose_24
  · refine tr_bipush (v := (-2)) g 9 dX5_lose_7 rfl rfl ?_
    exact tr_iret g o dX5_lose_9
theorem ok_X5_lose {E : tn_E} {l : Launch}   (a1 : Int32) {σ : tn_M} {r : Int32} {σ' : tn_M} (h : f_X5_lose a1 σ = some (r, σ')) : tn_C E l yX5_lose cX5_lose 2 (some .int) (tn_rm 2 45) [.ref (tn_ad E 5), .int a1] σ (tn_ie r) σ' :=
  tn_met (by decide) (Nat.le_of_ble_eq_true rfl) (fun G _ g o => b_X5_lose g o  a1 σ) h
theorem yy_X5_lose : tn_Yv RX5 yX5_lose cX5_lose 2 (some .int) 1 := ⟨wd_805, wd_803, wd_804, wd_70, by decide, by decide, by decide +kernel⟩
theorem kv_X5_lose {E : tn_E} {G : tn_G} {cc : ByteArray} {own : String} {nL : Nat} {R : Room} {ρ : Type} {enc : ρ → Option Value} {pc : Nat} {lv : List (Nat × Value)} {st : List Value} {σ : tn_M} {kk : Int32 → tn_M → Option (ρ × tn_M)} {i : Nat}  {a1 : Int32} (g : tn_Ok E G cc own nL R)  (hw : Cond.methodLink own i yX5_lose ∈ tn_T) (hroom : 3 ≤ R.frames ∧ 66 ≤ R.locals) (hW : (st.map fun v => v.category).sum ≤ 8) (n : Nat) (hd : decode cc pc = .ok (.invokevirtual i, 3)) (hn : pc + 3 = n) (k : ∀ r σ1, tn_V E G enc n lv (.int r :: st) σ1 (kk r σ1)) : tn_V E G enc pc lv (.int a1 :: .ref (tn_ad E 5) :: st) σ (tn_bd (f_X5_lose a1 σ) kk) :=
  tr_callV (As := [.int a1]) (enc1 := tn_ie) g yy_X5_lose hw (ci := 5) rfl (by decide) rfl (fun r σ1 h => ok_X5_lose  a1 h) ⟨rfl, rfl⟩ ⟨hroom.1, by have h2 := hroom.2; show 8 + (2 + 11) + 45 ≤ R.locals; omega⟩ rfl rfl hW n hd hn k
/-! X5_lacks -/
def f_X5_lacks  (a1 : Int32) (a2 : Int32) (a3 : Int32) (σ : tn_M) : Option (Int32 × tn_M) :=
  tn_ck a1 4 <|
  if 0 ≤ (σ.1 33 (tn_x a1)) then
    tn_ck a1 4 <|
    if (σ.1 33 (tn_x a1)) = a2 then
      tn_ck a1 4 <|
      tn_bd (f_X5_in (Int32.toInt64 a3) 0 (Int32.toInt64 ((σ.1 34 (tn_x a1)) - 1)) σ) fun r2 σ1 =>
      if r2 = 0 then
        tn_bd (f_X5_met 2 σ1) fun r4 σ3 =>
        some (r4, σ3)
      else
        some (0, σ1)
    else
      tn_bd (f_X5_met 3 σ) fun r6 σ5 =>
      some (r6, σ5)
  else
    tn_bd (f_X5_met 1 σ) fun r8 σ7 =>
    some (r8, σ7)
set_option maxHeartbeats 4000000 in
set_option maxRecDepth 20000 in
theorem b_X5_lacks {E : tn_E} {G : tn_G} (g : tn_Ok E G cX5_lacks RX5 4 (tn_rm 1 25)) (o : tn_Om E G (some .int))  (a1 : Int32) (a2 : Int32) (a3 : Int32) (σ : tn_M) : tn_V E G tn_ie 0 [(0, .ref (tn_ad E 5)), (1, .int a1), (2, .int a2), (3, .int a3)] [] σ (f_X5_lacks a1 a2 a3 σ) := by
  unfold f_X5_lacks
  refine tr_aload_n g 0 1 dX5_lacks_0 rfl rfl rfl ?_
  refine gf_X5_0 g wd_704 4 dX5_lacks_1 rfl ?_
  refine tr_iload_n g 1 5 dX5_lacks_4 rfl rfl rfl ?_
  refine tr_iald (N := 4) g 6 rfl rfl dX5_lacks_5 rfl ?_
  refine tr_if_ge g 15 9 dX5_lacks_6 rfl rfl ?_ ?_
  · refine tr_aload_n g 0 16 dX5_lacks_15 rfl rfl rfl ?_
    refine gf_X5_0 g wd_704 19 dX5_lacks_16 rfl ?_
    refine tr_iload_n g 1 20 dX5_lacks_19 rfl rfl rfl ?_
    refine tr_iald (N := 4) g 21 rfl rfl dX5_lacks_20 rfl ?_
    refine tr_iload_n g 2 22 dX5_lacks_21 rfl rfl rfl ?_
    refine tr_icmp_eq g 31 25 dX5_lacks_22 rfl rfl ?_ ?_
    · refine tr_iload_n g 3 32 dX5_lacks_31 rfl rfl rfl ?_
      refine tr_i2l g 33 dX5_lacks_32 rfl ?_
      refine tr_lconst (v := 0) g 34 dX5_lacks_33 rfl rfl ?_
      refine tr_aload_n g 0 35 dX5_lacks_34 rfl rfl rfl ?_
      refine gf_X5_1 g wd_705 38 dX5_lacks_35 rfl ?_
      refine tr_iload_n g 1 39 dX5_lacks_38 rfl rfl rfl ?_
      refine tr_iald (N := 4) g 40 rfl rfl dX5_lacks_39 rfl ?_
      refine tr_iconst (v := 1) g 41 dX5_lacks_40 rfl rfl ?_
      refine tr_isub g 42 dX5_lacks_41 rfl ?_
      refine tr_i2l g 43 dX5_lacks_42 rfl ?_
      refine kv_X5_in g wd_794 ⟨Nat.le_of_ble_eq_true rfl, Nat.le_of_ble_eq_true rfl⟩ (Nat.le_of_ble_eq_true rfl) 46 dX5_lacks_43 rfl (fun r2 σ1 => ?_)
      refine tr_if_eq g 53 49 dX5_lacks_46 rfl rfl ?_ ?_
      · refine tr_aload_n g 0 54 dX5_lacks_53 rfl rfl rfl ?_
        refine tr_iconst (v := 2) g 55 dX5_lacks_54 rfl rfl ?_
        refine kv_X5_met g wd_798 ⟨Nat.le_of_ble_eq_true rfl, Nat.le_of_ble_eq_true rfl⟩ (Nat.le_of_ble_eq_true rfl) 58 dX5_lacks_55 rfl (fun r4 σ3 => ?_)
        exact tr_iret g o dX5_lacks_58
      · refine tr_iconst (v := 0) g 50 dX5_lacks_49 rfl rfl ?_
        refine tr_goto g 58 dX5_lacks_50 rfl ?_
        exact tr_iret g o dX5_lacks_58
    · refine tr_aload_n g 0 26 dX5_lacks_25 rfl rfl rfl ?_
      refine tr_iconst (v := 3) g 27 dX5_lacks_26 rfl rfl ?_
      refine kv_X5_met g wd_798 ⟨Nat.le_of_ble_eq_true rfl, Nat.le_of_ble_eq_true rfl⟩ (Nat.le_of_ble_eq_true rfl) 30 dX5_lacks_27 rfl (fun r6 σ5 => ?_)
      exact tr_iret g o dX5_lacks_30
  · refine tr_aload_n g 0 10 dX5_lacks_9 rfl rfl rfl ?_
    refine tr_iconst (v := 1) g 11 dX5_lacks_10 rfl rfl ?_
    refine kv_X5_met g wd_798 ⟨Nat.le_of_ble_eq_true rfl, Nat.le_of_ble_eq_true rfl⟩ (Nat.le_of_ble_eq_true rfl) 14 dX5_lacks_11 rfl (fun r8 σ7 => ?_)
    exact tr_iret g o dX5_lacks_14
theorem ok_X5_lacks {E : tn_E} {l : Launch}   (a1 : Int32) (a2 : Int32) (a3 : Int32) {σ : tn_M} {r : Int32} {σ' : tn_M} (h : f_X5_lacks a1 a2 a3 σ = some (r, σ')) : tn_C E l yX5_lacks cX5_lacks 4 (some .int) (tn_rm 1 25) [.ref (tn_ad E 5), .int a1, .int a2, .int a3] σ (tn_ie r) σ' :=
  tn_met (by decide) (Nat.le_of_ble_eq_true rfl) (fun G _ g o => b_X5_lacks g o  a1 a2 a3 σ) h
theorem yy_X5_lacks : tn_Yv RX5 yX5_lacks cX5_lacks 4 (some .int) 3 := ⟨wd_813, wd_812, wd_26, wd_70, by decide, by decide, by decide +kernel⟩
theorem kv_X5_lacks {E : tn_E} {G : tn_G} {cc : ByteArray} {own : String} {nL : Nat} {R : Room} {ρ : Type} {enc : ρ → Option Value} {pc : Nat} {lv : List (Nat × Value)} {st : List Value} {σ : tn_M} {kk : Int32 → tn_M → Option (ρ × tn_M)} {i : Nat}  {a1 : Int32} {a2 : Int32} {a3 : Int32} (g : tn_Ok E G cc own nL R)  (hw : Cond.methodLink own i yX5_lacks ∈ tn_T) (hroom : 2 ≤ R.frames ∧ 48 ≤ R.locals) (hW : (st.map fun v => v.category).sum ≤ 8) (n : Nat) (hd : decode cc pc = .ok (.invokevirtual i, 3)) (hn : pc + 3 = n) (k : ∀ r σ1, tn_V E G enc n lv (.int r :: st) σ1 (kk r σ1)) : tn_V E G enc pc lv (.int a3 :: .int a2 :: .int a1 :: .ref (tn_ad E 5) :: st) σ (tn_bd (f_X5_lacks a1 a2 a3 σ) kk) :=
  tr_callV (As := [.int a1, .int a2, .int a3]) (enc1 := tn_ie) g yy_X5_lacks hw (ci := 5) rfl (by decide) rfl (fun r σ1 h => ok_X5_lacks  a1 a2 a3 h) ⟨rfl, rfl⟩ ⟨hroom.1, by have h2 := hroom.2; show 8 + (4 + 11) + 25 ≤ R.locals; omega⟩ rfl rfl hW n hd hn k
/-! X5_cut -/
def f_X5_cut  (a0 : Int32) (a1 : Int32) (σ : tn_M) : Option (Int32 × tn_M) :=
  if a0 = 0 then
    some ((Int32.toInt8 a1).toInt32, σ)
  else
    if a0 = 1 then
      some ((Int32.toInt16 a1).toInt32, σ)
    else
      some (a1, σ)
set_option maxHeartbeats 4000000 in
set_option maxRecDepth 20000 in
theorem b_X5_cut {E : tn_E} {G : tn_G} (g : tn_Ok E G cX5_cut RX5 2 (tn_rm 0 0)) (o : tn_Om E G (some .int))  (a0 : Int32) (a1 : Int32) (σ : tn_M) : tn_V E G tn_ie 0 [(0, .int a0), (1, .int a1)] [] σ (f_X5_cut a0 a1 σ) := by
  unfold f_X5_cut
  refine tr_iload_n g 0 1 dX5_cut_0 rfl rfl rfl ?_
  refine tr_if_ne g 9 4 dX5_cut_1 rfl rfl ?_ ?_
  · refine tr_iload_n g 0 10 dX5_cut_9 rfl rfl rfl ?_
    refine tr_iconst (v := 1) g 11 dX5_cut_10 rfl rfl ?_
    refine tr_icmp_ne g 19 14 dX5_cut_11 rfl rfl ?_ ?_
    · refine tr_iload_n g 1 20 dX5_cut_19 rfl rfl rfl ?_
      exact tr_iret g o dX5_cut_20
    · refine tr_iload_n g 1 15 dX5_cut_14 rfl rfl rfl ?_
      refine tr_i2s g 16 dX5_cut_15 rfl ?_
      refine tr_goto g 20 dX5_cut_16 rfl ?_
      exact tr_iret g o dX5_cut_20
  · refine tr_iload_n g 1 5 dX5_cut_4 rfl rfl rfl ?_
    refine tr_i2b g 6 dX5_cut_5 rfl ?_
    refine tr_goto g 20 dX5_cut_6 rfl ?_
    exact tr_iret g o dX5_cut_20
theorem ok_X5_cut {E : tn_E} {l : Launch}   (a0 : Int32) (a1 : Int32) {σ : tn_M} {r : Int32} {σ' : tn_M} (h : f_X5_cut a0 a1 σ = some (r, σ')) : tn_C E l yX5_cut cX5_cut 2 (some .int) (tn_rm 0 0) [.int a0, .int a1] σ (tn_ie r) σ' :=
  tn_met (by decide) (Nat.le_of_ble_eq_true rfl) (fun G _ g o => b_X5_cut g o  a0 a1 σ) h
theorem yy_X5_cut : tn_Ys yX5_cut cX5_cut 2 (some .int) 2 := ⟨wd_816, wd_815, wd_70, by decide, by decide, by decide +kernel⟩
theorem kv_X5_cut {E : tn_E} {G : tn_G} {cc : ByteArray} {own : String} {nL : Nat} {R : Room} {ρ : Type} {enc : ρ → Option Value} {pc : Nat} {lv : List (Nat × Value)} {st : List Value} {σ : tn_M} {kk : Int32 → tn_M → Option (ρ × tn_M)} {i : Nat}  {a0 : Int32} {a1 : Int32} (g : tn_Ok E G cc own nL R)  (hw : Cond.methodLink own i yX5_cut ∈ tn_T) (hroom : 1 ≤ R.frames ∧ 21 ≤ R.locals) (hW : (st.map fun v => v.category).sum ≤ 8) (n : Nat) (hd : decode cc pc = .ok (.invokestatic i, 3)) (hn : pc + 3 = n) (k : ∀ r σ1, tn_V E G enc n lv (.int r :: st) σ1 (kk r σ1)) : tn_V E G enc pc lv (.int a1 :: .int a0 :: st) σ (tn_bd (f_X5_cut a0 a1 σ) kk) :=
  tr_callS (As := [.int a0, .int a1]) (enc1 := tn_ie) g yy_X5_cut hw (fun r σ1 h => ok_X5_cut  a0 a1 h) ⟨rfl, rfl⟩ ⟨hroom.1, by have h2 := hroom.2; show 8 + (2 + 11) + 0 ≤ R.locals; omega⟩ rfl rfl hW n hd hn k
/-! X5_lay -/
def f_X5_lay  (a1 : Int32) (a2 : Int32) (a3 : Int32) (a4 : Int32) (σ : tn_M) : Option (Int32 × tn_M) :=
  tn_bd (f_X5_isSheet a1 σ) fun r2 σ1 =>
  if r2 = 0 then
    some ((-2), σ1)
  else
    tn_bd (f_X5_in (Int32.toInt64 a2) 0 2 σ1) fun r4 σ3 =>
    if r4 = 0 then
      some ((-2), σ3)
    else
      tn_bd (f_X5_lacks a1 a2 a3 σ3) fun r6 σ5 =>
      if r6 = 0 then
        tn_bd (f_X5_cut a2 a4 σ5) fun r8 σ7 =>
        tn_ck ((60 * a1) + a3) 240 <|
        tn_lt (tn_si σ7 35 (tn_x ((60 * a1) + a3)) r8) fun σ9 =>
        some (1, σ9)
      else
        some (r6, σ5)
set_option maxHeartbeats 4000000 in
set_option maxRecDepth 20000 in
theorem b_X5_lay {E : tn_E} {G : tn_G} (g : tn_Ok E G cX5_lay RX5 6 (tn_rm 2 48)) (o : tn_Om E G (some .int))  (a1 : Int32) (a2 : Int32) (a3 : Int32) (a4 : Int32) (σ : tn_M) : tn_V E G tn_ie 0 [(0, .ref (tn_ad E 5)), (1, .int a1), (2, .int a2), (3, .int a3), (4, .int a4)] [] σ (f_X5_lay a1 a2 a3 a4 σ) := by
  unfold f_X5_lay
  refine tr_iload_n g 1 1 dX5_lay_0 rfl rfl rfl ?_
  refine kv_X5_isSheet g wd_790 ⟨Nat.le_of_ble_eq_true rfl, Nat.le_of_ble_eq_true rfl⟩ (Nat.le_of_ble_eq_true rfl) 4 dX5_lay_1 rfl (fun r2 σ1 => ?_)
  refine tr_if_eq g 19 7 dX5_lay_4 rfl rfl ?_ ?_
  · refine tr_bipush (v := (-2)) g 21 dX5_lay_19 rfl rfl ?_
    exact tr_iret g o dX5_lay_21
  · refine tr_iload_n g 2 8 dX5_lay_7 rfl rfl rfl ?_
    refine tr_i2l g 9 dX5_lay_8 rfl ?_
    refine tr_lconst (v := 0) g 10 dX5_lay_9 rfl rfl ?_
    refine tr_ldc2 (v := 2) g wd_797 13 dX5_lay_10 rfl ?_
    refine kv_X5_in g wd_794 ⟨Nat.le_of_ble_eq_true rfl, Nat.le_of_ble_eq_true rfl⟩ (Nat.le_of_ble_eq_true rfl) 16 dX5_lay_13 rfl (fun r4 σ3 => ?_)
    refine tr_if_ne g 22 19 dX5_lay_16 rfl rfl ?_ ?_
    · refine tr_aload_n g 0 23 dX5_lay_22 rfl rfl rfl ?_
      refine tr_iload_n g 1 24 dX5_lay_23 rfl rfl rfl ?_
      refine tr_iload_n g 2 25 dX5_lay_24 rfl rfl rfl ?_
      refine tr_iload_n g 3 26 dX5_lay_25 rfl rfl rfl ?_
      refine kv_X5_lacks g wd_810 ⟨Nat.le_of_ble_eq_true rfl, Nat.le_of_ble_eq_true rfl⟩ (Nat.le_of_ble_eq_true rfl) 29 dX5_lay_26 rfl (fun r6 σ5 => ?_)
      refine tr_istore (lv' := [(5, .int r6), (0, .ref (tn_ad E 5)), (1, .int a1), (2, .int a2), (3, .int a3), (4, .int a4)]) g 31 dX5_lay_29 rfl (by decide) rfl ?_
      refine tr_iload g 0 33 dX5_lay_31 rfl rfl ?_
      refine tr_if_eq g 39 36 dX5_lay_33 rfl rfl ?_ ?_
      · refine tr_aload_n g 1 40 dX5_lay_39 rfl rfl rfl ?_
        refine gf_X5_2 g wd_706 43 dX5_lay_40 rfl ?_
        refine tr_bipush (v := 60) g 45 dX5_lay_43 rfl rfl ?_
        refine tr_iload_n g 2 46 dX5_lay_45 rfl rfl rfl ?_
        refine tr_imul g 47 dX5_lay_46 rfl ?_
        refine tr_iload_n g 4 48 dX5_lay_47 rfl rfl rfl ?_
        refine tr_iadd g 49 dX5_lay_48 rfl ?_
        refine tr_iload_n g 3 50 dX5_lay_49 rfl rfl rfl ?_
        refine tr_iload g 5 52 dX5_lay_50 rfl rfl ?_
        refine kv_X5_cut g wd_814 ⟨Nat.le_of_ble_eq_true rfl, Nat.le_of_ble_eq_true rfl⟩ (Nat.le_of_ble_eq_true rfl) 55 dX5_lay_52 rfl (fun r8 σ7 => ?_)
        refine tr_iast (N := 240) g 56 rfl rfl dX5_lay_55 rfl (fun σ9 => ?_)
        refine tr_iconst (v := 1) g 57 dX5_lay_56 rfl rfl ?_
        exact tr_iret g o dX5_lay_57
      · refine tr_iload g 0 38 dX5_lay_36 rfl rfl ?_
        exact tr_iret g o dX5_lay_38
    · refine tr_bipush (v := (-2)) g 21 dX5_lay_19 rfl rfl ?_
      exact tr_iret g o dX5_lay_21
theorem ok_X5_lay {E : tn_E} {l : Launch}   (a1 : Int32) (a2 : Int32) (a3 : Int32) (a4 : Int32) {σ : tn_M} {r : Int32} {σ' : tn_M} (h : f_X5_lay a1 a2 a3 a4 σ = some (r, σ')) : tn_C E l yX5_lay cX5_lay 6 (some .int) (tn_rm 2 48) [.ref (tn_ad E 5), .int a1, .int a2, .int a3, .int a4] σ (tn_ie r) σ' :=
  tn_met (by decide) (Nat.le_of_ble_eq_true rfl) (fun G _ g o => b_X5_lay g o  a1 a2 a3 a4 σ) h
theorem yy_X5_lay : tn_Yv RX5 yX5_lay cX5_lay 6 (some .int) 4 := ⟨wd_809, wd_807, wd_808, wd_70, by decide, by decide, by decide +kernel⟩
theorem kv_X5_lay {E : tn_E} {G : tn_G} {cc : ByteArray} {own : String} {nL : Nat} {R : Room} {ρ : Type} {enc : ρ → Option Value} {pc : Nat} {lv : List (Nat × Value)} {st : List Value} {σ : tn_M} {kk : Int32 → tn_M → Option (ρ × tn_M)} {i : Nat}  {a1 : Int32} {a2 : Int32} {a3 : Int32} {a4 : Int32} (g : tn_Ok E G cc own nL R)  (hw : Cond.methodLink own i yX5_lay ∈ tn_T) (hroom : 3 ≤ R.frames ∧ 73 ≤ R.locals) (hW : (st.map fun v => v.category).sum ≤ 8) (n : Nat) (hd : decode cc pc = .ok (.invokevirtual i, 3)) (hn : pc + 3 = n) (k : ∀ r σ1, tn_V E G enc n lv (.int r :: st) σ1 (kk r σ1)) : tn_V E G enc pc lv (.int a4 :: .int a3 :: .int a2 :: .int a1 :: .ref (tn_ad E 5) :: st) σ (tn_bd (f_X5_lay a1 a2 a3 a4 σ) kk) :=
  tr_callV (As := [.int a1, .int a2, .int a3, .int a4]) (enc1 := tn_ie) g yy_X5_lay hw (ci := 5) rfl (by decide) rfl (fun r σ1 h => ok_X5_lay  a1 a2 a3 a4 h) ⟨rfl, rfl⟩ ⟨hroom.1, by have h2 := hroom.2; show 8 + (6 + 11) + 48 ≤ R.locals; omega⟩ rfl rfl hW n hd hn k
/-! X5_get -/
def f_X5_get  (a1 : Int32) (a2 : Int32) (a3 : Int32) (σ : tn_M) : Option (Int32 × tn_M) :=
  tn_bd (f_X5_isSheet a1 σ) fun r2 σ1 =>
  if r2 = 0 then
    some ((-2147483648), σ1)
  else
    tn_bd (f_X5_in (Int32.toInt64 a2) 0 2 σ1) fun r4 σ3 =>
    if r4 = 0 then
      some ((-2147483648), σ3)
    else
      tn_bd (f_X5_lacks a1 a2 a3 σ3) fun r6 σ5 =>
      if r6 = 0 then
        tn_ck ((60 * a1) + a3) 240 <|
        some ((σ5.1 35 (tn_x ((60 * a1) + a3))), σ5)
      else
        some ((-2147483648), σ5)
set_option maxHeartbeats 4000000 in
set_option maxRecDepth 20000 in
theorem b_X5_get {E : tn_E} {G : tn_G} (g : tn_Ok E G cX5_get RX5 4 (tn_rm 2 48)) (o : tn_Om E G (some .int))  (a1 : Int32) (a2 : Int32) (a3 : Int32) (σ : tn_M) : tn_V E G tn_ie 0 [(0, .ref (tn_ad E 5)), (1, .int a1), (2, .int a2), (3, .int a3)] [] σ (f_X5_get a1 a2 a3 σ) := by
  unfold f_X5_get
  refine tr_iload_n g 1 1 dX5_get_0 rfl rfl rfl ?_
  refine kv_X5_isSheet g wd_790 ⟨Nat.le_of_ble_eq_true rfl, Nat.le_of_ble_eq_true rfl⟩ (Nat.le_of_ble_eq_true rfl) 4 dX5_get_1 rfl (fun r2 σ1 => ?_)
  refine tr_if_eq g 29 7 dX5_get_4 rfl rfl ?_ ?_
  · refine tr_ldc (v := (-2147483648)) g wd_821 31 dX5_get_29 rfl ?_
    exact tr_iret g o dX5_get_31
  · refine tr_iload_n g 2 8 dX5_get_7 rfl rfl rfl ?_
    refine tr_i2l g 9 dX5_get_8 rfl ?_
    refine tr_lconst (v := 0) g 10 dX5_get_9 rfl rfl ?_
    refine tr_ldc2 (v := 2) g wd_797 13 dX5_get_10 rfl ?_
    refine kv_X5_in g wd_794 ⟨Nat.le_of_ble_eq_true rfl, Nat.le_of_ble_eq_true rfl⟩ (Nat.le_of_ble_eq_true rfl) 16 dX5_get_13 rfl (fun r4 σ3 => ?_)
    refine tr_if_eq g 29 19 dX5_get_16 rfl rfl ?_ ?_
    · refine tr_ldc (v := (-2147483648)) g wd_821 31 dX5_get_29 rfl ?_
      exact tr_iret g o dX5_get_31
    · refine tr_aload_n g 0 20 dX5_get_19 rfl rfl rfl ?_
      refine tr_iload_n g 1 21 dX5_get_20 rfl rfl rfl ?_
      refine tr_iload_n g 2 22 dX5_get_21 rfl rfl rfl ?_
      refine tr_iload_n g 3 23 dX5_get_22 rfl rfl rfl ?_
      refine kv_X5_lacks g wd_810 ⟨Nat.le_of_ble_eq_true rfl, Nat.le_of_ble_eq_true rfl⟩ (Nat.le_of_ble_eq_true rfl) 26 dX5_get_23 rfl (fun r6 σ5 => ?_)
      refine tr_if_eq g 32 29 dX5_get_26 rfl rfl ?_ ?_
      · refine tr_aload_n g 0 33 dX5_get_32 rfl rfl rfl ?_
        refine gf_X5_2 g wd_706 36 dX5_get_33 rfl ?_
        refine tr_bipush (v := 60) g 38 dX5_get_36 rfl rfl ?_
        refine tr_iload_n g 1 39 dX5_get_38 rfl rfl rfl ?_
        refine tr_imul g 40 dX5_get_39 rfl ?_
        refine tr_iload_n g 3 41 dX5_get_40 rfl rfl rfl ?_
        refine tr_iadd g 42 dX5_get_41 rfl ?_
        refine tr_iald (N := 240) g 43 rfl rfl dX5_get_42 rfl ?_
        exact tr_iret g o dX5_get_43
      · refine tr_ldc (v := (-2147483648)) g wd_821 31 dX5_get_29 rfl ?_
        exact tr_iret g o dX5_get_31
theorem ok_X5_get {E : tn_E} {l : Launch}   (a1 : Int32) (a2 : Int32) (a3 : Int32) {σ : tn_M} {r : Int32} {σ' : tn_M} (h : f_X5_get a1 a2 a3 σ = some (r, σ')) : tn_C E l yX5_get cX5_get 4 (some .int) (tn_rm 2 48) [.ref (tn_ad E 5), .int a1, .int a2, .int a3] σ (tn_ie r) σ' :=
  tn_met (by decide) (Nat.le_of_ble_eq_true rfl) (fun G _ g o => b_X5_get g o  a1 a2 a3 σ) h
theorem yy_X5_get : tn_Yv RX5 yX5_get cX5_get 4 (some .int) 3 := ⟨wd_820, wd_818, wd_819, wd_70, by decide, by decide, by decide +kernel⟩
theorem kv_X5_get {E : tn_E} {G : tn_G} {cc : ByteArray} {own : String} {nL : Nat} {R : Room} {ρ : Type} {enc : ρ → Option Value} {pc : Nat} {lv : List (Nat × Value)} {st : List Value} {σ : tn_M} {kk : Int32 → tn_M → Option (ρ × tn_M)} {i : Nat}  {a1 : Int32} {a2 : Int32} {a3 : Int32} (g : tn_Ok E G cc own nL R)  (hw : Cond.methodLink own i yX5_get ∈ tn_T) (hroom : 3 ≤ R.frames ∧ 71 ≤ R.locals) (hW : (st.map fun v => v.category).sum ≤ 8) (n : Nat) (hd : decode cc pc = .ok (.invokevirtual i, 3)) (hn : pc + 3 = n) (k : ∀ r σ1, tn_V E G enc n lv (.int r :: st) σ1 (kk r σ1)) : tn_V E G enc pc lv (.int a3 :: .int a2 :: .int a1 :: .ref (tn_ad E 5) :: st) σ (tn_bd (f_X5_get a1 a2 a3 σ) kk) :=
  tr_callV (As := [.int a1, .int a2, .int a3]) (enc1 := tn_ie) g yy_X5_get hw (ci := 5) rfl (by decide) rfl (fun r σ1 h => ok_X5_get  a1 a2 a3 h) ⟨rfl, rfl⟩ ⟨hroom.1, by have h2 := hroom.2; show 8 + (4 + 11) + 48 ≤ R.locals; omega⟩ rfl rfl hW n hd hn k
/-! X5_copy -/
def F_X5_copy_157  : Nat → Int32 → Int32 → Int32 → Int32 → tn_M → Option (Int32 × tn_M)
  | 0, _, _, _, _, _ => none
  | tn_n + 1, x3, x4, x5, x6, σ => 
    if x5 ≤ x6 then
      some (1, σ)
    else
      tn_ck x6 60 <|
      tn_ck (((60 * x3) + x4) + x6) 240 <|
      tn_lt (tn_si σ 35 (tn_x (((60 * x3) + x4) + x6)) (σ.1 36 (tn_x x6))) fun σ1 =>
      F_X5_copy_157 tn_n x3 x4 x5 (x6 + 1) σ1
def F_X5_copy_154  (x3 : Int32) (x4 : Int32) (x5 : Int32) (σ : tn_M) : Option (Int32 × tn_M) :=
  F_X5_copy_157 tn_fuel x3 x4 x5 0 σ
def F_X5_copy_120  : Nat → Int32 → Int32 → Int32 → Int32 → Int32 → Int32 → tn_M → Option (Int32 × tn_M)
  | 0, _, _, _, _, _, _, _ => none
  | tn_n + 1, x1, x2, x3, x4, x5, x6, σ => 
    if x5 ≤ x6 then
      F_X5_copy_154 x3 x4 x5 σ
    else
      tn_ck (((60 * x1) + x2) + x6) 240 <|
      tn_ck x6 60 <|
      tn_lt (tn_si σ 36 (tn_x x6) (σ.1 35 (tn_x (((60 * x1) + x2) + x6)))) fun σ1 =>
      F_X5_copy_120 tn_n x1 x2 x3 x4 x5 (x6 + 1) σ1
def F_X5_copy_111   (σ : tn_M) : Option (Int32 × tn_M) :=
  tn_bd (f_X5_met 2 σ) fun r2 σ1 =>
  some (r2, σ1)
def F_X5_copy_35   (σ : tn_M) : Option (Int32 × tn_M) :=
  tn_bd (f_X5_met 1 σ) fun r2 σ1 =>
  some (r2, σ1)
def f_X5_copy  (a1 : Int32) (a2 : Int32) (a3 : Int32) (a4 : Int32) (a5 : Int32) (σ : tn_M) : Option (Int32 × tn_M) :=
  tn_bd (f_X5_isSheet a1 σ) fun r2 σ1 =>
  if r2 = 0 then
    some ((-2), σ1)
  else
    tn_bd (f_X5_isSheet a3 σ1) fun r4 σ3 =>
    if r4 = 0 then
      some ((-2), σ3)
    else
      tn_ck a1 4 <|
      if (σ3.1 33 (tn_x a1)) < 0 then
        F_X5_copy_35 σ3
      else
        tn_ck a3 4 <|
        if 0 ≤ (σ3.1 33 (tn_x a3)) then
          tn_ck a1 4 <|
          tn_ck a3 4 <|
          if (σ3.1 33 (tn_x a1)) = (σ3.1 33 (tn_x a3)) then
            if a2 < 0 then
              F_X5_copy_111 σ3
            else
              if a4 < 0 then
                F_X5_copy_111 σ3
              else
                if a5 < 0 then
                  F_X5_copy_111 σ3
                else
                  tn_ck a1 4 <|
                  if (Int32.toInt64 (σ3.1 34 (tn_x a1))) < ((Int32.toInt64 a2) + (Int32.toInt64 a5)) then
                    F_X5_copy_111 σ3
                  else
                    tn_ck a3 4 <|
                    if ((Int32.toInt64 a4) + (Int32.toInt64 a5)) ≤ (Int32.toInt64 (σ3.1 34 (tn_x a3))) then
                      F_X5_copy_120 tn_fuel a1 a2 a3 a4 a5 0 σ3
                    else
                      F_X5_copy_111 σ3
          else
            tn_bd (f_X5_met 4 σ3) fun r6 σ5 =>
            some (r6, σ5)
        else
          F_X5_copy_35 σ3
set_option maxHeartbeats 4000000 in
set_option maxRecDepth 20000 in
theorem b_X5_copy_157 {E : tn_E} {G : tn_G} (g : tn_Ok E G cX5_copy RX5 7 (tn_rm 2 45)) (o : tn_Om E G (some .int))  : ∀ (n : Nat) (x3 : Int32) (x4 : Int32) (x5 : Int32) (x6 : Int32) (σ : tn_M), tn_V E G tn_ie 157 [(0, .ref (tn_ad E 5)), (3, .int x3), (4, .int x4), (5, .int x5), (6, .int x6)] [] σ (F_X5_copy_157 n x3 x4 x5 x6 σ) := by
  intro n
  induction n with
  | zero => intros; exact tr_none
  | succ tn_n ih =>
    intro x3 x4 x5 x6 σ
    rw [F_X5_copy_157]
    refine tr_iload g 4 159 dX5_copy_157 rfl rfl ?_
    refine tr_iload g 3 161 dX5_copy_159 rfl rfl ?_
    refine tr_icmp_ge g 192 164 dX5_copy_161 rfl rfl ?_ ?_
    · refine tr_iconst (v := 1) g 193 dX5_copy_192 rfl rfl ?_
      exact tr_iret g o dX5_copy_193
    · refine tr_aload_n g 0 165 dX5_copy_164 rfl rfl rfl ?_
      refine gf_X5_2 g wd_706 168 dX5_copy_165 rfl ?_
      refine tr_bipush (v := 60) g 170 dX5_copy_168 rfl rfl ?_
      refine tr_iload_n g 1 171 dX5_copy_170 rfl rfl rfl ?_
      refine tr_imul g 172 dX5_copy_171 rfl ?_
      refine tr_iload g 2 174 dX5_copy_172 rfl rfl ?_
      refine tr_iadd g 175 dX5_copy_174 rfl ?_
      refine tr_iload g 4 177 dX5_copy_175 rfl rfl ?_
      refine tr_iadd g 178 dX5_copy_177 rfl ?_
      refine tr_aload_n g 0 179 dX5_copy_178 rfl rfl rfl ?_
      refine gf_X5_3 g wd_707 182 dX5_copy_179 rfl ?_
      refine tr_iload g 4 184 dX5_copy_182 rfl rfl ?_
      refine tr_iald (N := 60) g 185 rfl rfl dX5_copy_184 rfl ?_
      refine tr_iast (N := 240) g 186 rfl rfl dX5_copy_185 rfl (fun σ1 => ?_)
      refine tr_iinc (lv' := [(6, .int (x6 + 1)), (0, .ref (tn_ad E 5)), (3, .int x3), (4, .int x4), (5, .int x5)]) (x := (x6 + 1)) g 4 189 dX5_copy_186 rfl rfl rfl (by decide) rfl ?_
      refine tr_goto g 157 dX5_copy_189 rfl ?_
      refine tr_sub [1, 2, 3, 4, 0] (lv' := [(0, .ref (tn_ad E 5)), (3, .int x3), (4, .int x4), (5, .int x5), (6, .int (x6 + 1))]) rfl ?_
      exact ih _ _ _ _ _
set_option maxHeartbeats 4000000 in
set_option maxRecDepth 20000 in
theorem b_X5_copy_154 {E : tn_E} {G : tn_G} (g : tn_Ok E G cX5_copy RX5 7 (tn_rm 2 45)) (o : tn_Om E G (some .int))  (x3 : Int32) (x4 : Int32) (x5 : Int32) (σ : tn_M) : tn_V E G tn_ie 154 [(0, .ref (tn_ad E 5)), (3, .int x3), (4, .int x4), (5, .int x5)] [] σ (F_X5_copy_154 x3 x4 x5 σ) := by
  unfold F_X5_copy_154
  refine tr_iconst (v := 0) g 155 dX5_copy_154 rfl rfl ?_
  refine tr_istore (lv' := [(6, .int 0), (0, .ref (tn_ad E 5)), (3, .int x3), (4, .int x4), (5, .int x5)]) g 157 dX5_copy_155 rfl (by decide) rfl ?_
  refine tr_sub [1, 2, 3, 4, 0] (lv' := [(0, .ref (tn_ad E 5)), (3, .int x3), (4, .int x4), (5, .int x5), (6, .int 0)]) rfl ?_
  exact b_X5_copy_157 g o  tn_fuel _ _ _ _ _
set_option maxHeartbeats 4000000 in
set_option maxRecDepth 20000 in
theorem b_X5_copy_120 {E : tn_E} {G : tn_G} (g : tn_Ok E G cX5_copy RX5 7 (tn_rm 2 45)) (o : tn_Om E G (some .int))  : ∀ (n : Nat) (x1 : Int32) (x2 : Int32) (x3 : Int32) (x4 : Int32) (x5 : Int32) (x6 : Int32) (σ : tn_M), tn_V E G tn_ie 120 [(0, .ref (tn_ad E 5)), (1, .int x1), (2, .int x2), (3, .int x3), (4, .int x4), (5, .int x5), (6, .int x6)] [] σ (F_X5_copy_120 n x1 x2 x3 x4 x5 x6 σ) := by
  intro n
  induction n with
  | zero => intros; exact tr_none
  | succ tn_n ih =>
    intro x1 x2 x3 x4 x5 x6 σ
    rw [F_X5_copy_120]
    refine tr_iload g 6 122 dX5_copy_120 rfl rfl ?_
    refine tr_iload g 5 124 dX5_copy_122 rfl rfl ?_
    refine tr_icmp_ge g 154 127 dX5_copy_124 rfl rfl ?_ ?_
    · refine tr_sub [0, 3, 4, 5] (lv' := [(0, .ref (tn_ad E 5)), (3, .int x3), (4, .int x4), (5, .int x5)]) rfl ?_
      exact b_X5_copy_154 g o  _ _ _ _
    · refine tr_aload_n g 0 128 dX5_copy_127 rfl rfl rfl ?_
      refine gf_X5_3 g wd_707 131 dX5_copy_128 rfl ?_
      refine tr_iload g 6 133 dX5_copy_131 rfl rfl ?_
      refine tr_aload_n g 0 134 dX5_copy_133 rfl rfl rfl ?_
      refine gf_X5_2 g wd_706 137 dX5_copy_134 rfl ?_
      refine tr_bipush (v := 60) g 139 dX5_copy_137 rfl rfl ?_
      refine tr_iload_n g 1 140 dX5_copy_139 rfl rfl rfl ?_
      refine tr_imul g 141 dX5_copy_140 rfl ?_
      refine tr_iload_n g 2 142 dX5_copy_141 rfl rfl rfl ?_
      refine tr_iadd g 143 dX5_copy_142 rfl ?_
      refine tr_iload g 6 145 dX5_copy_143 rfl rfl ?_
      refine tr_iadd g 146 dX5_copy_145 rfl ?_
      refine tr_iald (N := 240) g 147 rfl rfl dX5_copy_146 rfl ?_
      refine tr_iast (N := 60) g 148 rfl rfl dX5_copy_147 rfl (fun σ1 => ?_)
      refine tr_iinc (lv' := [(6, .int (x6 + 1)), (0, .ref (tn_ad E 5)), (1, .int x1), (2, .int x2), (3, .int x3), (4, .int x4), (5, .int x5)]) (x := (x6 + 1)) g 6 151 dX5_copy_148 rfl rfl rfl (by decide) rfl ?_
      refine tr_goto g 120 dX5_copy_151 rfl ?_
      refine tr_sub [1, 2, 3, 4, 5, 6, 0] (lv' := [(0, .ref (tn_ad E 5)), (1, .int x1), (2, .int x2), (3, .int x3), (4, .int x4), (5, .int x5), (6, .int (x6 + 1))]) rfl ?_
      exact ih _ _ _ _ _ _ _
set_option maxHeartbeats 4000000 in
set_option maxRecDepth 20000 in
theorem b_X5_copy_111 {E : tn_E} {G : tn_G} (g : tn_Ok E G cX5_copy RX5 7 (tn_rm 2 45)) (o : tn_Om E G (some .int))   (σ : tn_M) : tn_V E G tn_ie 111 [(0, .ref (tn_ad E 5))] [] σ (F_X5_copy_111 σ) := by
  unfold F_X5_copy_111
  refine tr_aload_n g 0 112 dX5_copy_111 rfl rfl rfl ?_
  refine tr_iconst (v := 2) g 113 dX5_copy_112 rfl rfl ?_
  refine kv_X5_met g wd_798 ⟨Nat.le_of_ble_eq_true rfl, Nat.le_of_ble_eq_true rfl⟩ (Nat.le_of_ble_eq_true rfl) 116 dX5_copy_113 rfl (fun r2 σ1 => ?_)
  exact tr_iret g o dX5_copy_116
set_option maxHeartbeats 4000000 in
set_option maxRecDepth 20000 in
theorem b_X5_copy_35 {E : tn_E} {G : tn_G} (g : tn_Ok E G cX5_copy RX5 7 (tn_rm 2 45)) (o : tn_Om E G (some .int))   (σ : tn_M) : tn_V E G tn_ie 35 [(0, .ref (tn_ad E 5))] [] σ (F_X5_copy_35 σ) := by
  unfold F_X5_copy_35
  refine tr_aload_n g 0 36 dX5_copy_35 rfl rfl rfl ?_
  refine tr_iconst (v := 1) g 37 dX5_copy_36 rfl rfl ?_
  refine kv_X5_met g wd_798 ⟨Nat.le_of_ble_eq_true rfl, Nat.le_of_ble_eq_true rfl⟩ (Nat.le_of_ble_eq_true rfl) 40 dX5_copy_37 rfl (fun r2 σ1 => ?_)
  exact tr_iret g o dX5_copy_40
set_option maxHeartbeats 4000000 in
set_option maxRecDepth 20000 in
theorem b_X5_copy {E : tn_E} {G : tn_G} (g : tn_Ok E G cX5_copy RX5 7 (tn_rm 2 45)) (o : tn_Om E G (some .int))  (a1 : Int32) (a2 : Int32) (a3 : Int32) (a4 : Int32) (a5 : Int32) (σ : tn_M) : tn_V E G tn_ie 0 [(0, .ref (tn_ad E 5)), (1, .int a1), (2, .int a2), (3, .int a3), (4, .int a4), (5, .int a5)] [] σ (f_X5_copy a1 a2 a3 a4 a5 σ) := by
  unfold f_X5_copy
  refine tr_iload_n g 1 1 dX5_copy_0 rfl rfl rfl ?_
  refine kv_X5_isSheet g wd_790 ⟨Nat.le_of_ble_eq_true rfl, Nat.le_of_ble_eq_true rfl⟩ (Nat.le_of_ble_eq_true rfl) 4 dX5_copy_1 rfl (fun r2 σ1 => ?_)
  refine tr_if_eq g 14 7 dX5_copy_4 rfl rfl ?_ ?_
  · refine tr_bipush (v := (-2)) g 16 dX5_copy_14 rfl rfl ?_
    exact tr_iret g o dX5_copy_16
  · refine tr_iload_n g 3 8 dX5_copy_7 rfl rfl rfl ?_
    refine kv_X5_isSheet g wd_790 ⟨Nat.le_of_ble_eq_true rfl, Nat.le_of_ble_eq_true rfl⟩ (Nat.le_of_ble_eq_true rfl) 11 dX5_copy_8 rfl (fun r4 σ3 => ?_)
    refine tr_if_ne g 17 14 dX5_copy_11 rfl rfl ?_ ?_
    · refine tr_aload_n g 0 18 dX5_copy_17 rfl rfl rfl ?_
      refine gf_X5_0 g wd_704 21 dX5_copy_18 rfl ?_
      refine tr_iload_n g 1 22 dX5_copy_21 rfl rfl rfl ?_
      refine tr_iald (N := 4) g 23 rfl rfl dX5_copy_22 rfl ?_
      refine tr_if_lt g 35 26 dX5_copy_23 rfl rfl ?_ ?_
      · refine tr_sub [0] (lv' := [(0, .ref (tn_ad E 5))]) rfl ?_
        exact b_X5_copy_35 g o  _
      · refine tr_aload_n g 0 27 dX5_copy_26 rfl rfl rfl ?_
        refine gf_X5_0 g wd_704 30 dX5_copy_27 rfl ?_
        refine tr_iload_n g 3 31 dX5_copy_30 rfl rfl rfl ?_
        refine tr_iald (N := 4) g 32 rfl rfl dX5_copy_31 rfl ?_
        refine tr_if_ge g 41 35 dX5_copy_32 rfl rfl ?_ ?_
        · refine tr_aload_n g 0 42 dX5_copy_41 rfl rfl rfl ?_
          refine gf_X5_0 g wd_704 45 dX5_copy_42 rfl ?_
          refine tr_iload_n g 1 46 dX5_copy_45 rfl rfl rfl ?_
          refine tr_iald (N := 4) g 47 rfl rfl dX5_copy_46 rfl ?_
          refine tr_aload_n g 0 48 dX5_copy_47 rfl rfl rfl ?_
          refine gf_X5_0 g wd_704 51 dX5_copy_48 rfl ?_
          refine tr_iload_n g 3 52 dX5_copy_51 rfl rfl rfl ?_
          refine tr_iald (N := 4) g 53 rfl rfl dX5_copy_52 rfl ?_
          refine tr_icmp_eq g 62 56 dX5_copy_53 rfl rfl ?_ ?_
          · refine tr_iload_n g 2 63 dX5_copy_62 rfl rfl rfl ?_
            refine tr_if_lt g 111 66 dX5_copy_63 rfl rfl ?_ ?_
            · refine tr_sub [0] (lv' := [(0, .ref (tn_ad E 5))]) rfl ?_
              exact b_X5_copy_111 g o  _
            · refine tr_iload g 4 68 dX5_copy_66 rfl rfl ?_
              refine tr_if_lt g 111 71 dX5_copy_68 rfl rfl ?_ ?_
              · refine tr_sub [0] (lv' := [(0, .ref (tn_ad E 5))]) rfl ?_
                exact b_X5_copy_111 g o  _
              · refine tr_iload g 5 73 dX5_copy_71 rfl rfl ?_
                refine tr_if_lt g 111 76 dX5_copy_73 rfl rfl ?_ ?_
                · refine tr_sub [0] (lv' := [(0, .ref (tn_ad E 5))]) rfl ?_
                  exact b_X5_copy_111 g o  _
                · refine tr_iload_n g 2 77 dX5_copy_76 rfl rfl rfl ?_
                  refine tr_i2l g 78 dX5_copy_77 rfl ?_
                  refine tr_iload g 5 80 dX5_copy_78 rfl rfl ?_
                  refine tr_i2l g 81 dX5_copy_80 rfl ?_
                  refine tr_ladd g 82 dX5_copy_81 rfl ?_
                  refine tr_aload_n g 0 83 dX5_copy_82 rfl rfl rfl ?_
                  refine gf_X5_1 g wd_705 86 dX5_copy_83 rfl ?_
                  refine tr_iload_n g 1 87 dX5_copy_86 rfl rfl rfl ?_
                  refine tr_iald (N := 4) g 88 rfl rfl dX5_copy_87 rfl ?_
                  refine tr_i2l g 89 dX5_copy_88 rfl ?_
                  refine tr_lgt g 111 93 dX5_copy_89 dX5_copy_90 rfl rfl ?_ ?_
                  · refine tr_sub [0] (lv' := [(0, .ref (tn_ad E 5))]) rfl ?_
                    exact b_X5_copy_111 g o  _
                  · refine tr_iload g 4 95 dX5_copy_93 rfl rfl ?_
                    refine tr_i2l g 96 dX5_copy_95 rfl ?_
                    refine tr_iload g 5 98 dX5_copy_96 rfl rfl ?_
                    refine tr_i2l g 99 dX5_copy_98 rfl ?_
                    refine tr_ladd g 100 dX5_copy_99 rfl ?_
                    refine tr_aload_n g 0 101 dX5_copy_100 rfl rfl rfl ?_
                    refine gf_X5_1 g wd_705 104 dX5_copy_101 rfl ?_
                    refine tr_iload_n g 3 105 dX5_copy_104 rfl rfl rfl ?_
                    refine tr_iald (N := 4) g 106 rfl rfl dX5_copy_105 rfl ?_
                    refine tr_i2l g 107 dX5_copy_106 rfl ?_
                    refine tr_lle g 117 111 dX5_copy_107 dX5_copy_108 rfl rfl ?_ ?_
                    · refine tr_iconst (v := 0) g 118 dX5_copy_117 rfl rfl ?_
                      refine tr_istore (lv' := [(6, .int 0), (0, .ref (tn_ad E 5)), (1, .int a1), (2, .int a2), (3, .int a3), (4, .int a4), (5, .int a5)]) g 120 dX5_copy_118 rfl (by decide) rfl ?_
                      refine tr_sub [1, 2, 3, 4, 5, 6, 0] (lv' := [(0, .ref (tn_ad E 5)), (1, .int a1), (2, .int a2), (3, .int a3), (4, .int a4), (5, .int a5), (6, .int 0)]) rfl ?_
                      exact b_X5_copy_120 g o  tn_fuel _ _ _ _ _ _ _
                    · refine tr_sub [0] (lv' := [(0, .ref (tn_ad E 5))]) rfl ?_
                      exact b_X5_copy_111 g o  _
          · refine tr_aload_n g 0 57 dX5_copy_56 rfl rfl rfl ?_
            refine tr_iconst (v := 4) g 58 dX5_copy_57 rfl rfl ?_
            refine kv_X5_met g wd_798 ⟨Nat.le_of_ble_eq_true rfl, Nat.le_of_ble_eq_true rfl⟩ (Nat.le_of_ble_eq_true rfl) 61 dX5_copy_58 rfl (fun r6 σ5 => ?_)
            exact tr_iret g o dX5_copy_61
        · refine tr_sub [0] (lv' := [(0, .ref (tn_ad E 5))]) rfl ?_
          exact b_X5_copy_35 g o  _
    · refine tr_bipush (v := (-2)) g 16 dX5_copy_14 rfl rfl ?_
      exact tr_iret g o dX5_copy_16
theorem ok_X5_copy {E : tn_E} {l : Launch}   (a1 : Int32) (a2 : Int32) (a3 : Int32) (a4 : Int32) (a5 : Int32) {σ : tn_M} {r : Int32} {σ' : tn_M} (h : f_X5_copy a1 a2 a3 a4 a5 σ = some (r, σ')) : tn_C E l yX5_copy cX5_copy 7 (some .int) (tn_rm 2 45) [.ref (tn_ad E 5), .int a1, .int a2, .int a3, .int a4, .int a5] σ (tn_ie r) σ' :=
  tn_met (by decide) (Nat.le_of_ble_eq_true rfl) (fun G _ g o => b_X5_copy g o  a1 a2 a3 a4 a5 σ) h
theorem yy_X5_copy : tn_Yv RX5 yX5_copy cX5_copy 7 (some .int) 5 := ⟨wd_825, wd_823, wd_824, wd_70, by decide, by decide, by decide +kernel⟩
theorem kv_X5_copy {E : tn_E} {G : tn_G} {cc : ByteArray} {own : String} {nL : Nat} {R : Room} {ρ : Type} {enc : ρ → Option Value} {pc : Nat} {lv : List (Nat × Value)} {st : List Value} {σ : tn_M} {kk : Int32 → tn_M → Option (ρ × tn_M)} {i : Nat}  {a1 : Int32} {a2 : Int32} {a3 : Int32} {a4 : Int32} {a5 : Int32} (g : tn_Ok E G cc own nL R)  (hw : Cond.methodLink own i yX5_copy ∈ tn_T) (hroom : 3 ≤ R.frames ∧ 71 ≤ R.locals) (hW : (st.map fun v => v.category).sum ≤ 8) (n : Nat) (hd : decode cc pc = .ok (.invokevirtual i, 3)) (hn : pc + 3 = n) (k : ∀ r σ1, tn_V E G enc n lv (.int r :: st) σ1 (kk r σ1)) : tn_V E G enc pc lv (.int a5 :: .int a4 :: .int a3 :: .int a2 :: .int a1 :: .ref (tn_ad E 5) :: st) σ (tn_bd (f_X5_copy a1 a2 a3 a4 a5 σ) kk) :=
  tr_callV (As := [.int a1, .int a2, .int a3, .int a4, .int a5]) (enc1 := tn_ie) g yy_X5_copy hw (ci := 5) rfl (by decide) rfl (fun r σ1 h => ok_X5_copy  a1 a2 a3 a4 a5 h) ⟨rfl, rfl⟩ ⟨hroom.1, by have h2 := hroom.2; show 8 + (7 + 11) + 45 ≤ R.locals; omega⟩ rfl rfl hW n hd hn k
/-! X5_divisor -/
def F_X5_divisor_17  : Nat → Int64 → Int64 → tn_M → Option (Int64 × tn_M)
  | 0, _, _, _ => none
  | tn_n + 1, x4, x6, σ => 
    if x6 = 0 then
      some (x4, σ)
    else
      tn_dzl x6 <|
      tn_lt (α := Int64) (x4 - x4 / x6 * x6) fun w1 =>
      F_X5_divisor_17 tn_n x6 w1 σ
def f_X5_divisor  (a0 : Int64) (a2 : Int64) (σ : tn_M) : Option (Int64 × tn_M) :=
  tn_lt (α := Int64) (if 0 ≤ a0 then a0 else (-a0)) fun v1 =>
  F_X5_divisor_17 tn_fuel v1 a2 σ
set_option maxHeartbeats 4000000 in
set_option maxRecDepth 20000 in
theorem b_X5_divisor_17 {E : tn_E} {G : tn_G} (g : tn_Ok E G cX5_divisor RX5 10 (tn_rm 0 0)) (o : tn_Om E G (some .long))  : ∀ (n : Nat) (x4 : Int64) (x6 : Int64) (σ : tn_M), tn_V E G tn_le 17 [(4, .long x4), (6, .long x6)] [] σ (F_X5_divisor_17 n x4 x6 σ) := by
  intro n
  induction n with
  | zero => intros; exact tr_none
  | succ tn_n ih =>
    intro x4 x6 σ
    rw [F_X5_divisor_17]
    refine tr_lload g 1 19 dX5_divisor_17 rfl rfl ?_
    refine tr_lconst (v := 0) g 20 dX5_divisor_19 rfl rfl ?_
    refine tr_leq g 42 24 dX5_divisor_20 dX5_divisor_21 rfl rfl ?_ ?_
    · refine tr_lload g 0 44 dX5_divisor_42 rfl rfl ?_
      exact tr_lret g o dX5_divisor_44
    · refine tr_lload g 0 26 dX5_divisor_24 rfl rfl ?_
      refine tr_lload g 1 28 dX5_divisor_26 rfl rfl ?_
      refine tr_lrem g 29 dX5_divisor_28 rfl ?_
      refine tr_ltl (fun w1 => ?_)
      refine tr_lstore (lv' := [(8, .long w1), (4, .long x4), (6, .long x6)]) g 31 dX5_divisor_29 rfl (by decide) rfl ?_
      refine tr_lload g 2 33 dX5_divisor_31 rfl rfl ?_
      refine tr_lstore (lv' := [(4, .long x6), (8, .long w1), (6, .long x6)]) g 35 dX5_divisor_33 rfl (by decide) rfl ?_
      refine tr_lload g 1 37 dX5_divisor_35 rfl rfl ?_
      refine tr_lstore (lv' := [(6, .long w1), (4, .long x6), (8, .long w1)]) g 39 dX5_divisor_37 rfl (by decide) rfl ?_
      refine tr_goto g 17 dX5_divisor_39 rfl ?_
      refine tr_sub [1, 0] (lv' := [(4, .long x6), (6, .long w1)]) rfl ?_
      exact ih _ _ _
set_option maxHeartbeats 4000000 in
set_option maxRecDepth 20000 in
theorem b_X5_divisor {E : tn_E} {G : tn_G} (g : tn_Ok E G cX5_divisor RX5 10 (tn_rm 0 0)) (o : tn_Om E G (some .long))  (a0 : Int64) (a2 : Int64) (σ : tn_M) : tn_V E G tn_le 0 [(0, .long a0), (2, .long a2)] [] σ (f_X5_divisor a0 a2 σ) := by
  unfold f_X5_divisor
  refine tr_lload_n g 0 1 dX5_divisor_0 rfl rfl rfl ?_
  refine tr_lconst (v := 0) g 2 dX5_divisor_1 rfl rfl ?_
  refine tr_lgeD (inj := fun z => Value.long z) g 12 11 6 dX5_divisor_2 dX5_divisor_3 rfl rfl (fun rs hj => ?_) (fun rs hj => ?_) (fun v1 => ?_)
  · refine tr_lload_n g 0 12 dX5_divisor_11 rfl rfl rfl ?_
    exact hj
  · refine tr_lload_n g 0 7 dX5_divisor_6 rfl rfl rfl ?_
    refine tr_lneg g 8 dX5_divisor_7 rfl ?_
    refine tr_goto g 12 dX5_divisor_8 rfl ?_
    exact hj
  · refine tr_lstore (lv' := [(4, .long v1), (0, .long a0), (2, .long a2)]) g 14 dX5_divisor_12 rfl (by decide) rfl ?_
    refine tr_lload_n g 2 15 dX5_divisor_14 rfl rfl rfl ?_
    refine tr_lstore (lv' := [(6, .long a2), (4, .long v1), (0, .long a0), (2, .long a2)]) g 17 dX5_divisor_15 rfl (by decide) rfl ?_
    refine tr_sub [1, 0] (lv' := [(4, .long v1), (6, .long a2)]) rfl ?_
    exact b_X5_divisor_17 g o  tn_fuel _ _ _
theorem ok_X5_divisor {E : tn_E} {l : Launch}   (a0 : Int64) (a2 : Int64) {σ : tn_M} {r : Int64} {σ' : tn_M} (h : f_X5_divisor a0 a2 σ = some (r, σ')) : tn_C E l yX5_divisor cX5_divisor 10 (some .long) (tn_rm 0 0) [.long a0, .long a2] σ (tn_le r) σ' :=
  tn_met (by decide) (Nat.le_of_ble_eq_true rfl) (fun G _ g o => b_X5_divisor g o  a0 a2 σ) h
theorem yy_X5_divisor : tn_Ys yX5_divisor cX5_divisor 10 (some .long) 2 := ⟨wd_960, wd_959, wd_70, by decide, by decide, by decide +kernel⟩
theorem kv_X5_divisor {E : tn_E} {G : tn_G} {cc : ByteArray} {own : String} {nL : Nat} {R : Room} {ρ : Type} {enc : ρ → Option Value} {pc : Nat} {lv : List (Nat × Value)} {st : List Value} {σ : tn_M} {kk : Int64 → tn_M → Option (ρ × tn_M)} {i : Nat}  {a0 : Int64} {a2 : Int64} (g : tn_Ok E G cc own nL R)  (hw : Cond.methodLink own i yX5_divisor ∈ tn_T) (hroom : 1 ≤ R.frames ∧ 29 ≤ R.locals) (hW : (st.map fun v => v.category).sum ≤ 8) (n : Nat) (hd : decode cc pc = .ok (.invokestatic i, 3)) (hn : pc + 3 = n) (k : ∀ r σ1, tn_V E G enc n lv (.long r :: st) σ1 (kk r σ1)) : tn_V E G enc pc lv (.long a2 :: .long a0 :: st) σ (tn_bd (f_X5_divisor a0 a2 σ) kk) :=
  tr_callS (As := [.long a0, .long a2]) (enc1 := tn_le) g yy_X5_divisor hw (fun r σ1 h => ok_X5_divisor  a0 a2 h) ⟨rfl, rfl⟩ ⟨hroom.1, by have h2 := hroom.2; show 8 + (10 + 11) + 0 ≤ R.locals; omega⟩ rfl rfl hW n hd hn k
/-! X5_part -/
def f_X5_part  (a0 : Int64) (a2 : Int64) (a4 : Int32) (σ : tn_M) : Option (Int64 × tn_M) :=
  tn_lt (α := Int64) (if a4 = 0 then a0 else a2) fun v1 =>
  tn_bd (f_X5_divisor a0 a2 σ) fun r3 σ2 =>
  tn_dzl r3 <|
  some ((v1 / r3), σ2)
set_option maxHeartbeats 4000000 in
set_option maxRecDepth 20000 in
theorem b_X5_part {E : tn_E} {G : tn_G} (g : tn_Ok E G cX5_part RX5 5 (tn_rm 1 29)) (o : tn_Om E G (some .long))  (a0 : Int64) (a2 : Int64) (a4 : Int32) (σ : tn_M) : tn_V E G tn_le 0 [(0, .long a0), (2, .long a2), (4, .int a4)] [] σ (f_X5_part a0 a2 a4 σ) := by
  unfold f_X5_part
  refine tr_iload g 2 2 dX5_part_0 rfl rfl ?_
  refine tr_if_neD (inj := fun z => Value.long z) g 10 9 5 dX5_part_2 rfl rfl (fun rs hj => ?_) (fun rs hj => ?_) (fun v1 => ?_)
  · refine tr_lload_n g 1 10 dX5_part_9 rfl rfl rfl ?_
    exact hj
  · refine tr_lload_n g 0 6 dX5_part_5 rfl rfl rfl ?_
    refine tr_goto g 10 dX5_part_6 rfl ?_
    exact hj
  · refine tr_lload_n g 0 11 dX5_part_10 rfl rfl rfl ?_
    refine tr_lload_n g 1 12 dX5_part_11 rfl rfl rfl ?_
    refine kv_X5_divisor g wd_958 ⟨Nat.le_of_ble_eq_true rfl, Nat.le_of_ble_eq_true rfl⟩ (Nat.le_of_ble_eq_true rfl) 15 dX5_part_12 rfl (fun r3 σ2 => ?_)
    refine tr_ldiv g 16 dX5_part_15 rfl ?_
    exact tr_lret g o dX5_part_16
theorem ok_X5_part {E : tn_E} {l : Launch}   (a0 : Int64) (a2 : Int64) (a4 : Int32) {σ : tn_M} {r : Int64} {σ' : tn_M} (h : f_X5_part a0 a2 a4 σ = some (r, σ')) : tn_C E l yX5_part cX5_part 5 (some .long) (tn_rm 1 29) [.long a0, .long a2, .int a4] σ (tn_le r) σ' :=
  tn_met (by decide) (Nat.le_of_ble_eq_true rfl) (fun G _ g o => b_X5_part g o  a0 a2 a4 σ) h
theorem yy_X5_part : tn_Ys yX5_part cX5_part 5 (some .long) 3 := ⟨wd_957, wd_956, wd_70, by decide, by decide, by decide +kernel⟩
theorem kv_X5_part {E : tn_E} {G : tn_G} {cc : ByteArray} {own : String} {nL : Nat} {R : Room} {ρ : Type} {enc : ρ → Option Value} {pc : Nat} {lv : List (Nat × Value)} {st : List Value} {σ : tn_M} {kk : Int64 → tn_M → Option (ρ × tn_M)} {i : Nat}  {a0 : Int64} {a2 : Int64} {a4 : Int32} (g : tn_Ok E G cc own nL R)  (hw : Cond.methodLink own i yX5_part ∈ tn_T) (hroom : 2 ≤ R.frames ∧ 53 ≤ R.locals) (hW : (st.map fun v => v.category).sum ≤ 8) (n : Nat) (hd : decode cc pc = .ok (.invokestatic i, 3)) (hn : pc + 3 = n) (k : ∀ r σ1, tn_V E G enc n lv (.long r :: st) σ1 (kk r σ1)) : tn_V E G enc pc lv (.int a4 :: .long a2 :: .long a0 :: st) σ (tn_bd (f_X5_part a0 a2 a4 σ) kk) :=
  tr_callS (As := [.long a0, .long a2, .int a4]) (enc1 := tn_le) g yy_X5_part hw (fun r σ1 h => ok_X5_part  a0 a2 a4 h) ⟨rfl, rfl⟩ ⟨hroom.1, by have h2 := hroom.2; show 8 + (5 + 11) + 29 ≤ R.locals; omega⟩ rfl rfl hW n hd hn k
/-! X5_type -/
def f_X5_type  (a1 : Int32) (σ : tn_M) : Option (Int32 × tn_M) :=
  tn_bd (f_X5_in (Int32.toInt64 a1) 0 255 σ) fun r2 σ1 =>
  if r2 = 0 then
    some ((-2), σ1)
  else
    if (σ1.1 5 6) = 150 then
      some ((-4), σ1)
    else
      tn_ck (σ1.1 5 6) 150 <|
      tn_lt (tn_si σ1 37 (tn_x (σ1.1 5 6)) a1) fun σ3 =>
      tn_lt (tn_si σ3 5 6 ((σ3.1 5 6) + 1)) fun σ4 =>
      some ((σ4.1 5 6), σ4)
set_option maxHeartbeats 4000000 in
set_option maxRecDepth 20000 in
theorem b_X5_type {E : tn_E} {G : tn_G} (g : tn_Ok E G cX5_type RX5 2 (tn_rm 1 25)) (o : tn_Om E G (some .int))  (a1 : Int32) (σ : tn_M) : tn_V E G tn_ie 0 [(0, .ref (tn_ad E 5)), (1, .int a1)] [] σ (f_X5_type a1 σ) := by
  unfold f_X5_type
  refine tr_iload_n g 1 1 dX5_type_0 rfl rfl rfl ?_
  refine tr_i2l g 2 dX5_type_1 rfl ?_
  refine tr_lconst (v := 0) g 3 dX5_type_2 rfl rfl ?_
  refine tr_ldc2 (v := 255) g wd_830 6 dX5_type_3 rfl ?_
  refine kv_X5_in g wd_794 ⟨Nat.le_of_ble_eq_true rfl, Nat.le_of_ble_eq_true rfl⟩ (Nat.le_of_ble_eq_true rfl) 9 dX5_type_6 rfl (fun r2 σ1 => ?_)
  refine tr_if_ne g 15 12 dX5_type_9 rfl rfl ?_ ?_
  · refine tr_aload_n g 0 16 dX5_type_15 rfl rfl rfl ?_
    refine gf_X5_6 g wd_710 19 dX5_type_16 rfl ?_
    refine tr_sipush (v := 150) g 22 dX5_type_19 rfl rfl ?_
    refine tr_icmp_ne g 28 25 dX5_type_22 rfl rfl ?_ ?_
    · refine tr_aload_n g 0 29 dX5_type_28 rfl rfl rfl ?_
      refine gf_X5_5 g wd_709 32 dX5_type_29 rfl ?_
      refine tr_aload_n g 0 33 dX5_type_32 rfl rfl rfl ?_
      refine gf_X5_6 g wd_710 36 dX5_type_33 rfl ?_
      refine tr_iload_n g 1 37 dX5_type_36 rfl rfl rfl ?_
      refine tr_iast (N := 150) g 38 rfl rfl dX5_type_37 rfl (fun σ3 => ?_)
      refine tr_aload_n g 0 39 dX5_type_38 rfl rfl rfl ?_
      refine tr_dup g 40 dX5_type_39 rfl rfl ?_
      refine gf_X5_6 g wd_710 43 dX5_type_40 rfl ?_
      refine tr_iconst (v := 1) g 44 dX5_type_43 rfl rfl ?_
      refine tr_iadd g 45 dX5_type_44 rfl ?_
      refine pf_X5_6 g wd_710 48 dX5_type_45 rfl (fun σ4 => ?_)
      refine tr_aload_n g 0 49 dX5_type_48 rfl rfl rfl ?_
      refine gf_X5_6 g wd_710 52 dX5_type_49 rfl ?_
      exact tr_iret g o dX5_type_52
    · refine tr_bipush (v := (-4)) g 27 dX5_type_25 rfl rfl ?_
      exact tr_iret g o dX5_type_27
  · refine tr_bipush (v := (-2)) g 14 dX5_type_12 rfl rfl ?_
    exact tr_iret g o dX5_type_14
theorem ok_X5_type {E : tn_E} {l : Launch}   (a1 : Int32) {σ : tn_M} {r : Int32} {σ' : tn_M} (h : f_X5_type a1 σ = some (r, σ')) : tn_C E l yX5_type cX5_type 2 (some .int) (tn_rm 1 25) [.ref (tn_ad E 5), .int a1] σ (tn_ie r) σ' :=
  tn_met (by decide) (Nat.le_of_ble_eq_true rfl) (fun G _ g o => b_X5_type g o  a1 σ) h
theorem yy_X5_type : tn_Yv RX5 yX5_type cX5_type 2 (some .int) 1 := ⟨wd_829, wd_827, wd_828, wd_70, by decide, by decide, by decide +kernel⟩
theorem kv_X5_type {E : tn_E} {G : tn_G} {cc : ByteArray} {own : String} {nL : Nat} {R : Room} {ρ : Type} {enc : ρ → Option Value} {pc : Nat} {lv : List (Nat × Value)} {st : List Value} {σ : tn_M} {kk : Int32 → tn_M → Option (ρ × tn_M)} {i : Nat}  {a1 : Int32} (g : tn_Ok E G cc own nL R)  (hw : Cond.methodLink own i yX5_type ∈ tn_T) (hroom : 2 ≤ R.frames ∧ 46 ≤ R.locals) (hW : (st.map fun v => v.category).sum ≤ 8) (n : Nat) (hd : decode cc pc = .ok (.invokevirtual i, 3)) (hn : pc + 3 = n) (k : ∀ r σ1, tn_V E G enc n lv (.int r :: st) σ1 (kk r σ1)) : tn_V E G enc pc lv (.int a1 :: .ref (tn_ad E 5) :: st) σ (tn_bd (f_X5_type a1 σ) kk) :=
  tr_callV (As := [.int a1]) (enc1 := tn_ie) g yy_X5_type hw (ci := 5) rfl (by decide) rfl (fun r σ1 h => ok_X5_type  a1 h) ⟨rfl, rfl⟩ ⟨hroom.1, by have h2 := hroom.2; show 8 + (2 + 11) + 25 ≤ R.locals; omega⟩ rfl rfl hW n hd hn k
/-! X5_wipe -/
def f_X5_wipe   (σ : tn_M) : Option (Int32 × tn_M) :=
  tn_lt (tn_si σ 5 6 0) fun σ1 =>
  some ((σ.1 5 6), σ1)
set_option maxHeartbeats 4000000 in
set_option maxRecDepth 20000 in
theorem b_X5_wipe {E : tn_E} {G : tn_G} (g : tn_Ok E G cX5_wipe RX5 2 (tn_rm 0 0)) (o : tn_Om E G (some .int))   (σ : tn_M) : tn_V E G tn_ie 0 [(0, .ref (tn_ad E 5))] [] σ (f_X5_wipe σ) := by
  unfold f_X5_wipe
  refine tr_aload_n g 0 1 dX5_wipe_0 rfl rfl rfl ?_
  refine gf_X5_6 g wd_710 4 dX5_wipe_1 rfl ?_
  refine tr_istore_n (lv' := [(1, .int (σ.1 5 6)), (0, .ref (tn_ad E 5))]) g 5 dX5_wipe_4 rfl rfl (by decide) rfl ?_
  refine tr_aload_n g 1 6 dX5_wipe_5 rfl rfl rfl ?_
  refine tr_iconst (v := 0) g 7 dX5_wipe_6 rfl rfl ?_
  refine pf_X5_6 g wd_710 10 dX5_wipe_7 rfl (fun σ1 => ?_)
  refine tr_iload_n g 0 11 dX5_wipe_10 rfl rfl rfl ?_
  exact tr_iret g o dX5_wipe_11
theorem ok_X5_wipe {E : tn_E} {l : Launch}    {σ : tn_M} {r : Int32} {σ' : tn_M} (h : f_X5_wipe  σ = some (r, σ')) : tn_C E l yX5_wipe cX5_wipe 2 (some .int) (tn_rm 0 0) [.ref (tn_ad E 5)] σ (tn_ie r) σ' :=
  tn_met (by decide) (Nat.le_of_ble_eq_true rfl) (fun G _ g o => b_X5_wipe g o   σ) h
theorem yy_X5_wipe : tn_Yv RX5 yX5_wipe cX5_wipe 2 (some .int) 0 := ⟨wd_834, wd_832, wd_833, wd_70, by decide, by decide, by decide +kernel⟩
theorem kv_X5_wipe {E : tn_E} {G : tn_G} {cc : ByteArray} {own : String} {nL : Nat} {R : Room} {ρ : Type} {enc : ρ → Option Value} {pc : Nat} {lv : List (Nat × Value)} {st : List Value} {σ : tn_M} {kk : Int32 → tn_M → Option (ρ × tn_M)} {i : Nat}   (g : tn_Ok E G cc own nL R)  (hw : Cond.methodLink own i yX5_wipe ∈ tn_T) (hroom : 1 ≤ R.frames ∧ 21 ≤ R.locals) (hW : (st.map fun v => v.category).sum ≤ 8) (n : Nat) (hd : decode cc pc = .ok (.invokevirtual i, 3)) (hn : pc + 3 = n) (k : ∀ r σ1, tn_V E G enc n lv (.int r :: st) σ1 (kk r σ1)) : tn_V E G enc pc lv (.ref (tn_ad E 5) :: st) σ (tn_bd (f_X5_wipe  σ) kk) :=
  tr_callV (As := []) (enc1 := tn_ie) g yy_X5_wipe hw (ci := 5) rfl (by decide) rfl (fun r σ1 h => ok_X5_wipe   h) ⟨rfl, rfl⟩ ⟨hroom.1, by have h2 := hroom.2; show 8 + (2 + 11) + 0 ≤ R.locals; omega⟩ rfl rfl hW n hd hn k
/-! X5_here -/
def f_X5_here   (σ : tn_M) : Option (Int32 × tn_M) :=
  if (σ.1 5 6) ≤ (σ.1 5 7) then
    some ((-1), σ)
  else
    tn_ck (σ.1 5 7) 150 <|
    some ((σ.1 37 (tn_x (σ.1 5 7))), σ)
set_option maxHeartbeats 4000000 in
set_option maxRecDepth 20000 in
theorem b_X5_here {E : tn_E} {G : tn_G} (g : tn_Ok E G cX5_here RX5 1 (tn_rm 0 0)) (o : tn_Om E G (some .int))   (σ : tn_M) : tn_V E G tn_ie 0 [(0, .ref (tn_ad E 5))] [] σ (f_X5_here σ) := by
  unfold f_X5_here
  refine tr_aload_n g 0 1 dX5_here_0 rfl rfl rfl ?_
  refine gf_X5_7 g wd_711 4 dX5_here_1 rfl ?_
  refine tr_aload_n g 0 5 dX5_here_4 rfl rfl rfl ?_
  refine gf_X5_6 g wd_710 8 dX5_here_5 rfl ?_
  refine tr_icmp_ge g 23 11 dX5_here_8 rfl rfl ?_ ?_
  · refine tr_iconst (v := (-1)) g 24 dX5_here_23 rfl rfl ?_
    exact tr_iret g o dX5_here_24
  · refine tr_aload_n g 0 12 dX5_here_11 rfl rfl rfl ?_
    refine gf_X5_5 g wd_709 15 dX5_here_12 rfl ?_
    refine tr_aload_n g 0 16 dX5_here_15 rfl rfl rfl ?_
    refine gf_X5_7 g wd_711 19 dX5_here_16 rfl ?_
    refine tr_iald (N := 150) g 20 rfl rfl dX5_here_19 rfl ?_
    refine tr_goto g 24 dX5_here_20 rfl ?_
    exact tr_iret g o dX5_here_24
theorem ok_X5_here {E : tn_E} {l : Launch}    {σ : tn_M} {r : Int32} {σ' : tn_M} (h : f_X5_here  σ = some (r, σ')) : tn_C E l yX5_here cX5_here 1 (some .int) (tn_rm 0 0) [.ref (tn_ad E 5)] σ (tn_ie r) σ' :=
  tn_met (by decide) (Nat.le_of_ble_eq_true rfl) (fun G _ g o => b_X5_here g o   σ) h
theorem yy_X5_here : tn_Yv RX5 yX5_here cX5_here 1 (some .int) 0 := ⟨wd_846, wd_845, wd_28, wd_70, by decide, by decide, by decide +kernel⟩
theorem kv_X5_here {E : tn_E} {G : tn_G} {cc : ByteArray} {own : String} {nL : Nat} {R : Room} {ρ : Type} {enc : ρ → Option Value} {pc : Nat} {lv : List (Nat × Value)} {st : List Value} {σ : tn_M} {kk : Int32 → tn_M → Option (ρ × tn_M)} {i : Nat}   (g : tn_Ok E G cc own nL R)  (hw : Cond.methodLink own i yX5_here ∈ tn_T) (hroom : 1 ≤ R.frames ∧ 20 ≤ R.locals) (hW : (st.map fun v => v.category).sum ≤ 8) (n : Nat) (hd : decode cc pc = .ok (.invokevirtual i, 3)) (hn : pc + 3 = n) (k : ∀ r σ1, tn_V E G enc n lv (.int r :: st) σ1 (kk r σ1)) : tn_V E G enc pc lv (.ref (tn_ad E 5) :: st) σ (tn_bd (f_X5_here  σ) kk) :=
  tr_callV (As := []) (enc1 := tn_ie) g yy_X5_here hw (ci := 5) rfl (by decide) rfl (fun r σ1 h => ok_X5_here   h) ⟨rfl, rfl⟩ ⟨hroom.1, by have h2 := hroom.2; show 8 + (1 + 11) + 0 ≤ R.locals; omega⟩ rfl rfl hW n hd hn k
/-! X5_goes -/
def f_X5_goes  (a1 : Int32) (σ : tn_M) : Option (Int32 × tn_M) :=
  tn_bd (f_X5_here σ) fun r2 σ1 =>
  tn_lt (α := Int32) (if r2 = a1 then 1 else 0) fun v3 =>
  tn_lt (α := Int32) (if v3 = 0 then 0 else 1) fun v4 =>
  tn_lt (tn_si σ1 5 7 ((σ1.1 5 7) + v4)) fun σ5 =>
  tn_zr v3 σ5
set_option maxHeartbeats 4000000 in
set_option maxRecDepth 20000 in
theorem b_X5_goes {E : tn_E} {G : tn_G} (g : tn_Ok E G cX5_goes RX5 3 (tn_rm 1 20)) (o : tn_Om E G (some .boolean))  (a1 : Int32) (σ : tn_M) : tn_V E G tn_ie 0 [(0, .ref (tn_ad E 5)), (1, .int a1)] [] σ (f_X5_goes a1 σ) := by
  unfold f_X5_goes
  refine tr_aload_n g 0 1 dX5_goes_0 rfl rfl rfl ?_
  refine kv_X5_here g wd_843 ⟨Nat.le_of_ble_eq_true rfl, Nat.le_of_ble_eq_true rfl⟩ (Nat.le_of_ble_eq_true rfl) 4 dX5_goes_1 rfl (fun r2 σ1 => ?_)
  refine tr_iload_n g 1 5 dX5_goes_4 rfl rfl rfl ?_
  refine tr_icmp_neD (inj := fun z => Value.int z) g 13 12 8 dX5_goes_5 rfl rfl (fun rs hj => ?_) (fun rs hj => ?_) (fun v3 => ?_)
  · refine tr_iconst (v := 0) g 13 dX5_goes_12 rfl rfl ?_
    exact hj
  · refine tr_iconst (v := 1) g 9 dX5_goes_8 rfl rfl ?_
    refine tr_goto g 13 dX5_goes_9 rfl ?_
    exact hj
  · refine tr_istore_n (lv' := [(2, .int v3), (0, .ref (tn_ad E 5)), (1, .int a1)]) g 14 dX5_goes_13 rfl rfl (by decide) rfl ?_
    refine tr_aload_n g 1 15 dX5_goes_14 rfl rfl rfl ?_
    refine tr_dup g 16 dX5_goes_15 rfl rfl ?_
    refine gf_X5_7 g wd_711 19 dX5_goes_16 rfl ?_
    refine tr_iload_n g 0 20 dX5_goes_19 rfl rfl rfl ?_
    refine tr_if_eqD (inj := fun z => Value.int z) g 28 27 23 dX5_goes_20 rfl rfl (fun rs hj => ?_) (fun rs hj => ?_) (fun v4 => ?_)
    · refine tr_iconst (v := 0) g 28 dX5_goes_27 rfl rfl ?_
      exact hj
    · refine tr_iconst (v := 1) g 24 dX5_goes_23 rfl rfl ?_
      refine tr_goto g 28 dX5_goes_24 rfl ?_
      exact hj
    · refine tr_iadd g 29 dX5_goes_28 rfl ?_
      refine pf_X5_7 g wd_711 32 dX5_goes_29 rfl (fun σ5 => ?_)
      refine tr_iload_n g 0 33 dX5_goes_32 rfl rfl rfl ?_
      exact tr_zretv g o dX5_goes_33
theorem ok_X5_goes {E : tn_E} {l : Launch}   (a1 : Int32) {σ : tn_M} {r : Int32} {σ' : tn_M} (h : f_X5_goes a1 σ = some (r, σ')) : tn_C E l yX5_goes cX5_goes 3 (some .boolean) (tn_rm 1 20) [.ref (tn_ad E 5), .int a1] σ (tn_ie r) σ' :=
  tn_met (by decide) (Nat.le_of_ble_eq_true rfl) (fun G _ g o => b_X5_goes g o  a1 σ) h
theorem yy_X5_goes : tn_Yv RX5 yX5_goes cX5_goes 3 (some .boolean) 1 := ⟨wd_860, wd_859, wd_31, wd_70, by decide, by decide, by decide +kernel⟩
theorem kv_X5_goes {E : tn_E} {G : tn_G} {cc : ByteArray} {own : String} {nL : Nat} {R : Room} {ρ : Type} {enc : ρ → Option Value} {pc : Nat} {lv : List (Nat × Value)} {st : List Value} {σ : tn_M} {kk : Int32 → tn_M → Option (ρ × tn_M)} {i : Nat}  {a1 : Int32} (g : tn_Ok E G cc own nL R)  (hw : Cond.methodLink own i yX5_goes ∈ tn_T) (hroom : 2 ≤ R.frames ∧ 42 ≤ R.locals) (hW : (st.map fun v => v.category).sum ≤ 8) (n : Nat) (hd : decode cc pc = .ok (.invokevirtual i, 3)) (hn : pc + 3 = n) (k : ∀ r σ1, tn_V E G enc n lv (.int r :: st) σ1 (kk r σ1)) : tn_V E G enc pc lv (.int a1 :: .ref (tn_ad E 5) :: st) σ (tn_bd (f_X5_goes a1 σ) kk) :=
  tr_callV (As := [.int a1]) (enc1 := tn_ie) g yy_X5_goes hw (ci := 5) rfl (by decide) rfl (fun r σ1 h => ok_X5_goes  a1 h) ⟨rfl, rfl⟩ ⟨hroom.1, by have h2 := hroom.2; show 8 + (3 + 11) + 20 ≤ R.locals; omega⟩ rfl rfl hW n hd hn k
/-! X5_figures -/
def F_X5_figures_90  (x4 : Int32) (σ : tn_M) : Option (Int32 × tn_M) :=
  tn_lt (tn_si σ 5 7 x4) fun σ1 =>
  some ((-9), σ1)
def F_X5_figures_65  (x2 : Int32) (x3 : Int32) (x4 : Int32) (x5 : Int32) (σ : tn_M) : Option (Int32 × tn_M) :=
  if (σ.1 5 7) ≤ x4 then
    F_X5_figures_90 x4 σ
  else
    tn_bd (f_X5_in (Int32.toInt64 x5) (Int32.toInt64 x2) (Int32.toInt64 x3) σ) fun r2 σ1 =>
    if r2 = 0 then
      F_X5_figures_90 x4 σ1
    else
      some (x5, σ1)
def F_X5_figures_9  : Nat → Int32 → Int32 → Int32 → Int32 → Int32 → tn_M → Option (Int32 × tn_M)
  | 0, _, _, _, _, _, _ => none
  | tn_n + 1, x1, x2, x3, x4, x5, σ => 
    if (x4 + x1) ≤ (σ.1 5 7) then
      F_X5_figures_65 x2 x3 x4 x5 σ
    else
      tn_bd (f_X5_here σ) fun r2 σ1 =>
      tn_bd (f_X5_in (Int32.toInt64 r2) 48 57 σ1) fun r4 σ3 =>
      if r4 = 0 then
        F_X5_figures_65 x2 x3 x4 x5 σ3
      else
        tn_bd (f_X5_here σ3) fun r6 σ5 =>
        tn_lt (α := Int32) (((10 * x5) + r6) - 48) fun w7 =>
        tn_lt (tn_si σ5 5 7 ((σ5.1 5 7) + 1)) fun σ8 =>
        F_X5_figures_9 tn_n x1 x2 x3 x4 w7 σ8
def f_X5_figures  (a1 : Int32) (a2 : Int32) (a3 : Int32) (σ : tn_M) : Option (Int32 × tn_M) :=
  F_X5_figures_9 tn_fuel a1 a2 a3 (σ.1 5 7) 0 σ
set_option maxHeartbeats 4000000 in
set_option maxRecDepth 20000 in
theorem b_X5_figures_90 {E : tn_E} {G : tn_G} (g : tn_Ok E G cX5_figures RX5 6 (tn_rm 1 25)) (o : tn_Om E G (some .int))  (x4 : Int32) (σ : tn_M) : tn_V E G tn_ie 90 [(0, .ref (tn_ad E 5)), (4, .int x4)] [] σ (F_X5_figures_90 x4 σ) := by
  unfold F_X5_figures_90
  refine tr_aload_n g 0 91 dX5_figures_90 rfl rfl rfl ?_
  refine tr_iload g 1 93 dX5_figures_91 rfl rfl ?_
  refine pf_X5_7 g wd_711 96 dX5_figures_93 rfl (fun σ1 => ?_)
  refine tr_bipush (v := (-9)) g 98 dX5_figures_96 rfl rfl ?_
  exact tr_iret g o dX5_figures_98
set_option maxHeartbeats 4000000 in
set_option maxRecDepth 20000 in
theorem b_X5_figures_65 {E : tn_E} {G : tn_G} (g : tn_Ok E G cX5_figures RX5 6 (tn_rm 1 25)) (o : tn_Om E G (some .int))  (x2 : Int32) (x3 : Int32) (x4 : Int32) (x5 : Int32) (σ : tn_M) : tn_V E G tn_ie 65 [(0, .ref (tn_ad E 5)), (2, .int x2), (3, .int x3), (4, .int x4), (5, .int x5)] [] σ (F_X5_figures_65 x2 x3 x4 x5 σ) := by
  unfold F_X5_figures_65
  refine tr_aload_n g 0 66 dX5_figures_65 rfl rfl rfl ?_
  refine gf_X5_7 g wd_711 69 dX5_figures_66 rfl ?_
  refine tr_iload g 3 71 dX5_figures_69 rfl rfl ?_
  refine tr_icmp_le g 90 74 dX5_figures_71 rfl rfl ?_ ?_
  · refine tr_sub [0, 3] (lv' := [(0, .ref (tn_ad E 5)), (4, .int x4)]) rfl ?_
    exact b_X5_figures_90 g o  _ _
  · refine tr_iload g 4 76 dX5_figures_74 rfl rfl ?_
    refine tr_i2l g 77 dX5_figures_76 rfl ?_
    refine tr_iload_n g 1 78 dX5_figures_77 rfl rfl rfl ?_
    refine tr_i2l g 79 dX5_figures_78 rfl ?_
    refine tr_iload_n g 2 80 dX5_figures_79 rfl rfl rfl ?_
    refine tr_i2l g 81 dX5_figures_80 rfl ?_
    refine kv_X5_in g wd_794 ⟨Nat.le_of_ble_eq_true rfl, Nat.le_of_ble_eq_true rfl⟩ (Nat.le_of_ble_eq_true rfl) 84 dX5_figures_81 rfl (fun r2 σ1 => ?_)
    refine tr_if_eq g 90 87 dX5_figures_84 rfl rfl ?_ ?_
    · refine tr_sub [0, 3] (lv' := [(0, .ref (tn_ad E 5)), (4, .int x4)]) rfl ?_
      exact b_X5_figures_90 g o  _ _
    · refine tr_iload g 4 89 dX5_figures_87 rfl rfl ?_
      exact tr_iret g o dX5_figures_89
set_option maxHeartbeats 4000000 in
set_option maxRecDepth 20000 in
theorem b_X5_figures_9 {E : tn_E} {G : tn_G} (g : tn_Ok E G cX5_figures RX5 6 (tn_rm 1 25)) (o : tn_Om E G (some .int))  : ∀ (n : Nat) (x1 : Int32) (x2 : Int32) (x3 : Int32) (x4 : Int32) (x5 : Int32) (σ : tn_M), tn_V E G tn_ie 9 [(0, .ref (tn_ad E 5)), (1, .int x1), (2, .int x2), (3, .int x3), (4, .int x4), (5, .int x5)] [] σ (F_X5_figures_9 n x1 x2 x3 x4 x5 σ) := by
  intro n
  induction n with
  | zero => intros; exact tr_none
  | succ tn_n ih =>
    intro x1 x2 x3 x4 x5 σ
    rw [F_X5_figures_9]
    refine tr_aload_n g 0 10 dX5_figures_9 rfl rfl rfl ?_
    refine gf_X5_7 g wd_711 13 dX5_figures_10 rfl ?_
    refine tr_iload g 4 15 dX5_figures_13 rfl rfl ?_
    refine tr_iload_n g 1 16 dX5_figures_15 rfl rfl rfl ?_
    refine tr_iadd g 17 dX5_figures_16 rfl ?_
    refine tr_icmp_ge g 65 20 dX5_figures_17 rfl rfl ?_ ?_
    · refine tr_sub [0, 2, 3, 4, 5] (lv' := [(0, .ref (tn_ad E 5)), (2, .int x2), (3, .int x3), (4, .int x4), (5, .int x5)]) rfl ?_
      exact b_X5_figures_65 g o  _ _ _ _ _
    · refine tr_aload_n g 0 21 dX5_figures_20 rfl rfl rfl ?_
      refine kv_X5_here g wd_843 ⟨Nat.le_of_ble_eq_true rfl, Nat.le_of_ble_eq_true rfl⟩ (Nat.le_of_ble_eq_true rfl) 24 dX5_figures_21 rfl (fun r2 σ1 => ?_)
      refine tr_i2l g 25 dX5_figures_24 rfl ?_
      refine tr_ldc2 (v := 48) g wd_855 28 dX5_figures_25 rfl ?_
      refine tr_ldc2 (v := 57) g wd_856 31 dX5_figures_28 rfl ?_
      refine kv_X5_in g wd_794 ⟨Nat.le_of_ble_eq_true rfl, Nat.le_of_ble_eq_true rfl⟩ (Nat.le_of_ble_eq_true rfl) 34 dX5_figures_31 rfl (fun r4 σ3 => ?_)
      refine tr_if_eq g 65 37 dX5_figures_34 rfl rfl ?_ ?_
      · refine tr_sub [0, 2, 3, 4, 5] (lv' := [(0, .ref (tn_ad E 5)), (2, .int x2), (3, .int x3), (4, .int x4), (5, .int x5)]) rfl ?_
        exact b_X5_figures_65 g o  _ _ _ _ _
      · refine tr_bipush (v := 10) g 39 dX5_figures_37 rfl rfl ?_
        refine tr_iload g 5 41 dX5_figures_39 rfl rfl ?_
        refine tr_imul g 42 dX5_figures_41 rfl ?_
        refine tr_aload_n g 0 43 dX5_figures_42 rfl rfl rfl ?_
        refine kv_X5_here g wd_843 ⟨Nat.le_of_ble_eq_true rfl, Nat.le_of_ble_eq_true rfl⟩ (Nat.le_of_ble_eq_true rfl) 46 dX5_figures_43 rfl (fun r6 σ5 => ?_)
        refine tr_iadd g 47 dX5_figures_46 rfl ?_
        refine tr_bipush (v := 48) g 49 dX5_figures_47 rfl rfl ?_
        refine tr_isub g 50 dX5_figures_49 rfl ?_
        refine tr_lti (fun w7 => ?_)
        refine tr_istore (lv' := [(5, .int w7), (0, .ref (tn_ad E 5)), (1, .int x1), (2, .int x2), (3, .int x3), (4, .int x4)]) g 52 dX5_figures_50 rfl (by decide) rfl ?_
        refine tr_aload_n g 1 53 dX5_figures_52 rfl rfl rfl ?_
        refine tr_dup g 54 dX5_figures_53 rfl rfl ?_
        refine gf_X5_7 g wd_711 57 dX5_figures_54 rfl ?_
        refine tr_iconst (v := 1) g 58 dX5_figures_57 rfl rfl ?_
        refine tr_iadd g 59 dX5_figures_58 rfl ?_
        refine pf_X5_7 g wd_711 62 dX5_figures_59 rfl (fun σ8 => ?_)
        refine tr_goto g 9 dX5_figures_62 rfl ?_
        refine tr_sub [1, 2, 3, 4, 5, 0] (lv' := [(0, .ref (tn_ad E 5)), (1, .int x1), (2, .int x2), (3, .int x3), (4, .int x4), (5, .int w7)]) rfl ?_
        exact ih _ _ _ _ _ _
set_option maxHeartbeats 4000000 in
set_option maxRecDepth 20000 in
theorem b_X5_figures {E : tn_E} {G : tn_G} (g : tn_Ok E G cX5_figures RX5 6 (tn_rm 1 25)) (o : tn_Om E G (some .int))  (a1 : Int32) (a2 : Int32) (a3 : Int32) (σ : tn_M) : tn_V E G tn_ie 0 [(0, .ref (tn_ad E 5)), (1, .int a1), (2, .int a2), (3, .int a3)] [] σ (f_X5_figures a1 a2 a3 σ) := by
  unfold f_X5_figures
  refine tr_aload_n g 0 1 dX5_figures_0 rfl rfl rfl ?_
  refine gf_X5_7 g wd_711 4 dX5_figures_1 rfl ?_
  refine tr_istore (lv' := [(4, .int (σ.1 5 7)), (0, .ref (tn_ad E 5)), (1, .int a1), (2, .int a2), (3, .int a3)]) g 6 dX5_figures_4 rfl (by decide) rfl ?_
  refine tr_iconst (v := 0) g 7 dX5_figures_6 rfl rfl ?_
  refine tr_istore (lv' := [(5, .int 0), (4, .int (σ.1 5 7)), (0, .ref (tn_ad E 5)), (1, .int a1), (2, .int a2), (3, .int a3)]) g 9 dX5_figures_7 rfl (by decide) rfl ?_
  refine tr_sub [2, 3, 4, 5, 1, 0] (lv' := [(0, .ref (tn_ad E 5)), (1, .int a1), (2, .int a2), (3, .int a3), (4, .int (σ.1 5 7)), (5, .int 0)]) rfl ?_
  exact b_X5_figures_9 g o  tn_fuel _ _ _ _ _ _
theorem ok_X5_figures {E : tn_E} {l : Launch}   (a1 : Int32) (a2 : Int32) (a3 : Int32) {σ : tn_M} {r : Int32} {σ' : tn_M} (h : f_X5_figures a1 a2 a3 σ = some (r, σ')) : tn_C E l yX5_figures cX5_figures 6 (some .int) (tn_rm 1 25) [.ref (tn_ad E 5), .int a1, .int a2, .int a3] σ (tn_ie r) σ' :=
  tn_met (by decide) (Nat.le_of_ble_eq_true rfl) (fun G _ g o => b_X5_figures g o  a1 a2 a3 σ) h
theorem yy_X5_figures : tn_Yv RX5 yX5_figures cX5_figures 6 (some .int) 3 := ⟨wd_854, wd_853, wd_30, wd_70, by decide, by decide, by decide +kernel⟩
theorem kv_X5_figures {E : tn_E} {G : tn_G} {cc : ByteArray} {own : String} {nL : Nat} {R : Room} {ρ : Type} {enc : ρ → Option Value} {pc : Nat} {lv : List (Nat × Value)} {st : List Value} {σ : tn_M} {kk : Int32 → tn_M → Option (ρ × tn_M)} {i : Nat}  {a1 : Int32} {a2 : Int32} {a3 : Int32} (g : tn_Ok E G cc own nL R)  (hw : Cond.methodLink own i yX5_figures ∈ tn_T) (hroom : 2 ≤ R.frames ∧ 50 ≤ R.locals) (hW : (st.map fun v => v.category).sum ≤ 8) (n : Nat) (hd : decode cc pc = .ok (.invokevirtual i, 3)) (hn : pc + 3 = n) (k : ∀ r σ1, tn_V E G enc n lv (.int r :: st) σ1 (kk r σ1)) : tn_V E G enc pc lv (.int a3 :: .int a2 :: .int a1 :: .ref (tn_ad E 5) :: st) σ (tn_bd (f_X5_figures a1 a2 a3 σ) kk) :=
  tr_callV (As := [.int a1, .int a2, .int a3]) (enc1 := tn_ie) g yy_X5_figures hw (ci := 5) rfl (by decide) rfl (fun r σ1 h => ok_X5_figures  a1 a2 a3 h) ⟨rfl, rfl⟩ ⟨hroom.1, by have h2 := hroom.2; show 8 + (6 + 11) + 25 ≤ R.locals; omega⟩ rfl rfl hW n hd hn k
/-! X5_readsShop -/
def f_X5_readsShop   (σ : tn_M) : Option (Int32 × tn_M) :=
  if (σ.1 5 8) = 5 then
    some (0, σ)
  else
    tn_lt (tn_si σ 5 7 ((σ.1 5 7) + 1)) fun σ1 =>
    tn_bd (f_X5_figures 1 1 3 σ1) fun r3 σ2 =>
    if r3 < 0 then
      some (0, σ2)
    else
      tn_bd (f_X5_goes 44 σ2) fun r5 σ4 =>
      if r5 = 0 then
        some (0, σ4)
      else
        tn_bd (f_X5_figures 2 0 99 σ4) fun r7 σ6 =>
        if 0 ≤ r7 then
          tn_ck (σ6.1 5 8) 5 <|
          tn_lt (tn_si σ6 38 (tn_x (σ6.1 5 8)) r3) fun σ8 =>
          tn_ck (σ8.1 5 8) 5 <|
          tn_lt (tn_si σ8 39 (tn_x (σ8.1 5 8)) r7) fun σ9 =>
          tn_lt (tn_si σ9 5 8 ((σ9.1 5 8) + 1)) fun σ10 =>
          some (1, σ10)
        else
          some (0, σ6)
set_option maxHeartbeats 4000000 in
set_option maxRecDepth 20000 in
theorem b_X5_readsShop {E : tn_E} {G : tn_G} (g : tn_Ok E G cX5_readsShop RX5 3 (tn_rm 2 50)) (o : tn_Om E G (some .boolean))   (σ : tn_M) : tn_V E G tn_ie 0 [(0, .ref (tn_ad E 5))] [] σ (f_X5_readsShop σ) := by
  unfold f_X5_readsShop
  refine tr_aload_n g 0 1 dX5_readsShop_0 rfl rfl rfl ?_
  refine gf_X5_8 g wd_712 4 dX5_readsShop_1 rfl ?_
  refine tr_iconst (v := 5) g 5 dX5_readsShop_4 rfl rfl ?_
  refine tr_icmp_ne g 10 8 dX5_readsShop_5 rfl rfl ?_ ?_
  · refine tr_aload_n g 0 11 dX5_readsShop_10 rfl rfl rfl ?_
    refine tr_dup g 12 dX5_readsShop_11 rfl rfl ?_
    refine gf_X5_7 g wd_711 15 dX5_readsShop_12 rfl ?_
    refine tr_iconst (v := 1) g 16 dX5_readsShop_15 rfl rfl ?_
    refine tr_iadd g 17 dX5_readsShop_16 rfl ?_
    refine pf_X5_7 g wd_711 20 dX5_readsShop_17 rfl (fun σ1 => ?_)
    refine tr_aload_n g 0 21 dX5_readsShop_20 rfl rfl rfl ?_
    refine tr_iconst (v := 1) g 22 dX5_readsShop_21 rfl rfl ?_
    refine tr_iconst (v := 1) g 23 dX5_readsShop_22 rfl rfl ?_
    refine tr_iconst (v := 3) g 24 dX5_readsShop_23 rfl rfl ?_
    refine kv_X5_figures g wd_851 ⟨Nat.le_of_ble_eq_true rfl, Nat.le_of_ble_eq_true rfl⟩ (Nat.le_of_ble_eq_true rfl) 27 dX5_readsShop_24 rfl (fun r3 σ2 => ?_)
    refine tr_istore_n (lv' := [(1, .int r3), (0, .ref (tn_ad E 5))]) g 28 dX5_readsShop_27 rfl rfl (by decide) rfl ?_
    refine tr_iload_n g 0 29 dX5_readsShop_28 rfl rfl rfl ?_
    refine tr_if_lt g 41 32 dX5_readsShop_29 rfl rfl ?_ ?_
    · refine tr_iconst (v := 0) g 42 dX5_readsShop_41 rfl rfl ?_
      exact tr_zret g o rfl dX5_readsShop_42
    · refine tr_aload_n g 1 33 dX5_readsShop_32 rfl rfl rfl ?_
      refine tr_bipush (v := 44) g 35 dX5_readsShop_33 rfl rfl ?_
      refine kv_X5_goes g wd_857 ⟨Nat.le_of_ble_eq_true rfl, Nat.le_of_ble_eq_true rfl⟩ (Nat.le_of_ble_eq_true rfl) 38 dX5_readsShop_35 rfl (fun r5 σ4 => ?_)
      refine tr_if_ne g 43 41 dX5_readsShop_38 rfl rfl ?_ ?_
      · refine tr_aload_n g 1 44 dX5_readsShop_43 rfl rfl rfl ?_
        refine tr_iconst (v := 2) g 45 dX5_readsShop_44 rfl rfl ?_
        refine tr_iconst (v := 0) g 46 dX5_readsShop_45 rfl rfl ?_
        refine tr_bipush (v := 99) g 48 dX5_readsShop_46 rfl rfl ?_
        refine kv_X5_figures g wd_851 ⟨Nat.le_of_ble_eq_true rfl, Nat.le_of_ble_eq_true rfl⟩ (Nat.le_of_ble_eq_true rfl) 51 dX5_readsShop_48 rfl (fun r7 σ6 => ?_)
        refine tr_istore_n (lv' := [(2, .int r7), (1, .int r3), (0, .ref (tn_ad E 5))]) g 52 dX5_readsShop_51 rfl rfl (by decide) rfl ?_
        refine tr_iload_n g 0 53 dX5_readsShop_52 rfl rfl rfl ?_
        refine tr_if_ge g 58 56 dX5_readsShop_53 rfl rfl ?_ ?_
        · refine tr_aload_n g 2 59 dX5_readsShop_58 rfl rfl rfl ?_
          refine gf_X5_9 g wd_713 62 dX5_readsShop_59 rfl ?_
          refine tr_aload_n g 2 63 dX5_readsShop_62 rfl rfl rfl ?_
          refine gf_X5_8 g wd_712 66 dX5_readsShop_63 rfl ?_
          refine tr_iload_n g 1 67 dX5_readsShop_66 rfl rfl rfl ?_
          refine tr_iast (N := 5) g 68 rfl rfl dX5_readsShop_67 rfl (fun σ8 => ?_)
          refine tr_aload_n g 2 69 dX5_readsShop_68 rfl rfl rfl ?_
          refine gf_X5_10 g wd_714 72 dX5_readsShop_69 rfl ?_
          refine tr_aload_n g 2 73 dX5_readsShop_72 rfl rfl rfl ?_
          refine gf_X5_8 g wd_712 76 dX5_readsShop_73 rfl ?_
          refine tr_iload_n g 0 77 dX5_readsShop_76 rfl rfl rfl ?_
          refine tr_iast (N := 5) g 78 rfl rfl dX5_readsShop_77 rfl (fun σ9 => ?_)
          refine tr_aload_n g 2 79 dX5_readsShop_78 rfl rfl rfl ?_
          refine tr_dup g 80 dX5_readsShop_79 rfl rfl ?_
          refine gf_X5_8 g wd_712 83 dX5_readsShop_80 rfl ?_
          refine tr_iconst (v := 1) g 84 dX5_readsShop_83 rfl rfl ?_
          refine tr_iadd g 85 dX5_readsShop_84 rfl ?_
          refine pf_X5_8 g wd_712 88 dX5_readsShop_85 rfl (fun σ10 => ?_)
          refine tr_iconst (v := 1) g 89 dX5_readsShop_88 rfl rfl ?_
          exact tr_zret g o rfl dX5_readsShop_89
        · refine tr_iconst (v := 0) g 57 dX5_readsShop_56 rfl rfl ?_
          exact tr_zret g o rfl dX5_readsShop_57
      · refine tr_iconst (v := 0) g 42 dX5_readsShop_41 rfl rfl ?_
        exact tr_zret g o rfl dX5_readsShop_42
  · refine tr_iconst (v := 0) g 9 dX5_readsShop_8 rfl rfl ?_
    exact tr_zret g o rfl dX5_readsShop_9
theorem ok_X5_readsShop {E : tn_E} {l : Launch}    {σ : tn_M} {r : Int32} {σ' : tn_M} (h : f_X5_readsShop  σ = some (r, σ')) : tn_C E l yX5_readsShop cX5_readsShop 3 (some .boolean) (tn_rm 2 50) [.ref (tn_ad E 5)] σ (tn_ie r) σ' :=
  tn_met (by decide) (Nat.le_of_ble_eq_true rfl) (fun G _ g o => b_X5_readsShop g o   σ) h
theorem yy_X5_readsShop : tn_Yv RX5 yX5_readsShop cX5_readsShop 3 (some .boolean) 0 := ⟨wd_850, wd_849, wd_29, wd_70, by decide, by decide, by decide +kernel⟩
theorem kv_X5_readsShop {E : tn_E} {G : tn_G} {cc : ByteArray} {own : String} {nL : Nat} {R : Room} {ρ : Type} {enc : ρ → Option Value} {pc : Nat} {lv : List (Nat × Value)} {st : List Value} {σ : tn_M} {kk : Int32 → tn_M → Option (ρ × tn_M)} {i : Nat}   (g : tn_Ok E G cc own nL R)  (hw : Cond.methodLink own i yX5_readsShop ∈ tn_T) (hroom : 3 ≤ R.frames ∧ 72 ≤ R.locals) (hW : (st.map fun v => v.category).sum ≤ 8) (n : Nat) (hd : decode cc pc = .ok (.invokevirtual i, 3)) (hn : pc + 3 = n) (k : ∀ r σ1, tn_V E G enc n lv (.int r :: st) σ1 (kk r σ1)) : tn_V E G enc pc lv (.ref (tn_ad E 5) :: st) σ (tn_bd (f_X5_readsShop  σ) kk) :=
  tr_callV (As := []) (enc1 := tn_ie) g yy_X5_readsShop hw (ci := 5) rfl (by decide) rfl (fun r σ1 h => ok_X5_readsShop   h) ⟨rfl, rfl⟩ ⟨hroom.1, by have h2 := hroom.2; show 8 + (3 + 11) + 50 ≤ R.locals; omega⟩ rfl rfl hW n hd hn k
/-! X5_behind -/
def F_X5_behind_53   (σ : tn_M) : Option (Int32 × tn_M) :=
  tn_bd (f_X5_figures 2 0 16 σ) fun r2 σ1 =>
  some (r2, σ1)
def f_X5_behind  (a1 : Int32) (σ : tn_M) : Option (Int32 × tn_M) :=
  tn_bd (f_X5_goes 44 σ) fun r2 σ1 =>
  if r2 = 0 then
    some ((-9), σ1)
  else
    if a1 = 2 then
      tn_bd (f_X5_goes 45 σ1) fun r6 σ5 =>
      if r6 = 0 then
        tn_bd (f_X5_figures 1 0 ((σ5.1 5 8) - 1) σ5) fun r8 σ7 =>
        some (r8, σ7)
      else
        some ((-1), σ5)
    else
      if a1 = 3 then
        F_X5_behind_53 σ1
      else
        if a1 = 4 then
          F_X5_behind_53 σ1
        else
          tn_bd (f_X5_figures 2 1 99 σ1) fun r4 σ3 =>
          some (r4, σ3)
set_option maxHeartbeats 4000000 in
set_option maxRecDepth 20000 in
theorem b_X5_behind_53 {E : tn_E} {G : tn_G} (g : tn_Ok E G cX5_behind RX5 2 (tn_rm 2 50)) (o : tn_Om E G (some .int))   (σ : tn_M) : tn_V E G tn_ie 53 [(0, .ref (tn_ad E 5))] [] σ (F_X5_behind_53 σ) := by
  unfold F_X5_behind_53
  refine tr_aload_n g 0 54 dX5_behind_53 rfl rfl rfl ?_
  refine tr_iconst (v := 2) g 55 dX5_behind_54 rfl rfl ?_
  refine tr_iconst (v := 0) g 56 dX5_behind_55 rfl rfl ?_
  refine tr_bipush (v := 16) g 58 dX5_behind_56 rfl rfl ?_
  refine kv_X5_figures g wd_851 ⟨Nat.le_of_ble_eq_true rfl, Nat.le_of_ble_eq_true rfl⟩ (Nat.le_of_ble_eq_true rfl) 61 dX5_behind_58 rfl (fun r2 σ1 => ?_)
  refine tr_goto g 72 dX5_behind_61 rfl ?_
  exact tr_iret g o dX5_behind_72
set_option maxHeartbeats 4000000 in
set_option maxRecDepth 20000 in
theorem b_X5_behind {E : tn_E} {G : tn_G} (g : tn_Ok E G cX5_behind RX5 2 (tn_rm 2 50)) (o : tn_Om E G (some .int))  (a1 : Int32) (σ : tn_M) : tn_V E G tn_ie 0 [(0, .ref (tn_ad E 5)), (1, .int a1)] [] σ (f_X5_behind a1 σ) := by
  unfold f_X5_behind
  refine tr_aload_n g 0 1 dX5_behind_0 rfl rfl rfl ?_
  refine tr_bipush (v := 44) g 3 dX5_behind_1 rfl rfl ?_
  refine kv_X5_goes g wd_857 ⟨Nat.le_of_ble_eq_true rfl, Nat.le_of_ble_eq_true rfl⟩ (Nat.le_of_ble_eq_true rfl) 6 dX5_behind_3 rfl (fun r2 σ1 => ?_)
  refine tr_if_ne g 12 9 dX5_behind_6 rfl rfl ?_ ?_
  · refine tr_iload_n g 1 13 dX5_behind_12 rfl rfl rfl ?_
    refine tr_iconst (v := 2) g 14 dX5_behind_13 rfl rfl ?_
    refine tr_icmp_ne g 43 17 dX5_behind_14 rfl rfl ?_ ?_
    · refine tr_iload_n g 1 44 dX5_behind_43 rfl rfl rfl ?_
      refine tr_iconst (v := 3) g 45 dX5_behind_44 rfl rfl ?_
      refine tr_icmp_eq g 53 48 dX5_behind_45 rfl rfl ?_ ?_
      · refine tr_sub [0] (lv' := [(0, .ref (tn_ad E 5))]) rfl ?_
        exact b_X5_behind_53 g o  _
      · refine tr_iload_n g 1 49 dX5_behind_48 rfl rfl rfl ?_
        refine tr_iconst (v := 4) g 50 dX5_behind_49 rfl rfl ?_
        refine tr_icmp_ne g 64 53 dX5_behind_50 rfl rfl ?_ ?_
        · refine tr_aload_n g 0 65 dX5_behind_64 rfl rfl rfl ?_
          refine tr_iconst (v := 2) g 66 dX5_behind_65 rfl rfl ?_
          refine tr_iconst (v := 1) g 67 dX5_behind_66 rfl rfl ?_
          refine tr_bipush (v := 99) g 69 dX5_behind_67 rfl rfl ?_
          refine kv_X5_figures g wd_851 ⟨Nat.le_of_ble_eq_true rfl, Nat.le_of_ble_eq_true rfl⟩ (Nat.le_of_ble_eq_true rfl) 72 dX5_behind_69 rfl (fun r4 σ3 => ?_)
          exact tr_iret g o dX5_behind_72
        · refine tr_sub [0] (lv' := [(0, .ref (tn_ad E 5))]) rfl ?_
          exact b_X5_behind_53 g o  _
    · refine tr_aload_n g 0 18 dX5_behind_17 rfl rfl rfl ?_
      refine tr_bipush (v := 45) g 20 dX5_behind_18 rfl rfl ?_
      refine kv_X5_goes g wd_857 ⟨Nat.le_of_ble_eq_true rfl, Nat.le_of_ble_eq_true rfl⟩ (Nat.le_of_ble_eq_true rfl) 23 dX5_behind_20 rfl (fun r6 σ5 => ?_)
      refine tr_if_eq g 30 26 dX5_behind_23 rfl rfl ?_ ?_
      · refine tr_aload_n g 0 31 dX5_behind_30 rfl rfl rfl ?_
        refine tr_iconst (v := 1) g 32 dX5_behind_31 rfl rfl ?_
        refine tr_iconst (v := 0) g 33 dX5_behind_32 rfl rfl ?_
        refine tr_aload_n g 0 34 dX5_behind_33 rfl rfl rfl ?_
        refine gf_X5_8 g wd_712 37 dX5_behind_34 rfl ?_
        refine tr_iconst (v := 1) g 38 dX5_behind_37 rfl rfl ?_
        refine tr_isub g 39 dX5_behind_38 rfl ?_
        refine kv_X5_figures g wd_851 ⟨Nat.le_of_ble_eq_true rfl, Nat.le_of_ble_eq_true rfl⟩ (Nat.le_of_ble_eq_true rfl) 42 dX5_behind_39 rfl (fun r8 σ7 => ?_)
        exact tr_iret g o dX5_behind_42
      · refine tr_iconst (v := (-1)) g 27 dX5_behind_26 rfl rfl ?_
        refine tr_goto g 42 dX5_behind_27 rfl ?_
        exact tr_iret g o dX5_behind_42
  · refine tr_bipush (v := (-9)) g 11 dX5_behind_9 rfl rfl ?_
    exact tr_iret g o dX5_behind_11
theorem ok_X5_behind {E : tn_E} {l : Launch}   (a1 : Int32) {σ : tn_M} {r : Int32} {σ' : tn_M} (h : f_X5_behind a1 σ = some (r, σ')) : tn_C E l yX5_behind cX5_behind 2 (some .int) (tn_rm 2 50) [.ref (tn_ad E 5), .int a1] σ (tn_ie r) σ' :=
  tn_met (by decide) (Nat.le_of_ble_eq_true rfl) (fun G _ g o => b_X5_behind g o  a1 σ) h
theorem yy_X5_behind : tn_Yv RX5 yX5_behind cX5_behind 2 (some .int) 1 := ⟨wd_868, wd_867, wd_33, wd_70, by decide, by decide, by decide +kernel⟩
theorem kv_X5_behind {E : tn_E} {G : tn_G} {cc : ByteArray} {own : String} {nL : Nat} {R : Room} {ρ : Type} {enc : ρ → Option Value} {pc : Nat} {lv : List (Nat × Value)} {st : List Value} {σ : tn_M} {kk : Int32 → tn_M → Option (ρ × tn_M)} {i : Nat}  {a1 : Int32} (g : tn_Ok E G cc own nL R)  (hw : Cond.methodLink own i yX5_behind ∈ tn_T) (hroom : 3 ≤ R.frames ∧ 71 ≤ R.locals) (hW : (st.map fun v => v.category).sum ≤ 8) (n : Nat) (hd : decode cc pc = .ok (.invokevirtual i, 3)) (hn : pc + 3 = n) (k : ∀ r σ1, tn_V E G enc n lv (.int r :: st) σ1 (kk r σ1)) : tn_V E G enc pc lv (.int a1 :: .ref (tn_ad E 5) :: st) σ (tn_bd (f_X5_behind a1 σ) kk) :=
  tr_callV (As := [.int a1]) (enc1 := tn_ie) g yy_X5_behind hw (ci := 5) rfl (by decide) rfl (fun r σ1 h => ok_X5_behind  a1 h) ⟨rfl, rfl⟩ ⟨hroom.1, by have h2 := hroom.2; show 8 + (2 + 11) + 50 ≤ R.locals; omega⟩ rfl rfl hW n hd hn k
/-! X5_readsSort -/
def F_X5_readsSort_91   (σ : tn_M) : Option (Int32 × tn_M) :=
  tn_lt (tn_si σ 5 11 ((σ.1 5 11) + 1)) fun σ1 =>
  some (1, σ1)
def F_X5_readsSort_50  : Nat → Int32 → tn_M → Option (Int32 × tn_M)
  | 0, _, _ => none
  | tn_n + 1, x2, σ => 
    if 6 ≤ x2 then
      F_X5_readsSort_91 σ
    else
      tn_bd (f_X5_behind x2 σ) fun r2 σ1 =>
      if r2 = (-9) then
        some (0, σ1)
      else
        tn_ck ((6 * (σ1.1 5 11)) + x2) 36 <|
        tn_lt (tn_si σ1 40 (tn_x ((6 * (σ1.1 5 11)) + x2)) r2) fun σ3 =>
        F_X5_readsSort_50 tn_n (x2 + 1) σ3
def f_X5_readsSort   (σ : tn_M) : Option (Int32 × tn_M) :=
  if (σ.1 5 11) = 6 then
    some (0, σ)
  else
    tn_lt (tn_si σ 5 7 ((σ.1 5 7) + 1)) fun σ1 =>
    tn_bd (f_X5_figures 1 1 3 σ1) fun r3 σ2 =>
    if 0 ≤ r3 then
      tn_ck (6 * (σ2.1 5 11)) 36 <|
      tn_lt (tn_si σ2 40 (tn_x (6 * (σ2.1 5 11))) r3) fun σ4 =>
      F_X5_readsSort_50 tn_fuel 1 σ4
    else
      some (0, σ2)
set_option maxHeartbeats 4000000 in
set_option maxRecDepth 20000 in
theorem b_X5_readsSort_91 {E : tn_E} {G : tn_G} (g : tn_Ok E G cX5_readsSort RX5 4 (tn_rm 3 71)) (o : tn_Om E G (some .boolean))   (σ : tn_M) : tn_V E G tn_ie 91 [(0, .ref (tn_ad E 5))] [] σ (F_X5_readsSort_91 σ) := by
  unfold F_X5_readsSort_91
  refine tr_aload_n g 0 92 dX5_readsSort_91 rfl rfl rfl ?_
  refine tr_dup g 93 dX5_readsSort_92 rfl rfl ?_
  refine gf_X5_11 g wd_715 96 dX5_readsSort_93 rfl ?_
  refine tr_iconst (v := 1) g 97 dX5_readsSort_96 rfl rfl ?_
  refine tr_iadd g 98 dX5_readsSort_97 rfl ?_
  refine pf_X5_11 g wd_715 101 dX5_readsSort_98 rfl (fun σ1 => ?_)
  refine tr_iconst (v := 1) g 102 dX5_readsSort_101 rfl rfl ?_
  exact tr_zret g o rfl dX5_readsSort_102
set_option maxHeartbeats 4000000 in
set_option maxRecDepth 20000 in
theorem b_X5_readsSort_50 {E : tn_E} {G : tn_G} (g : tn_Ok E G cX5_readsSort RX5 4 (tn_rm 3 71)) (o : tn_Om E G (some .boolean))  : ∀ (n : Nat) (x2 : Int32) (σ : tn_M), tn_V E G tn_ie 50 [(0, .ref (tn_ad E 5)), (2, .int x2)] [] σ (F_X5_readsSort_50 n x2 σ) := by
  intro n
  induction n with
  | zero => intros; exact tr_none
  | succ tn_n ih =>
    intro x2 σ
    rw [F_X5_readsSort_50]
    refine tr_iload_n g 1 51 dX5_readsSort_50 rfl rfl rfl ?_
    refine tr_bipush (v := 6) g 53 dX5_readsSort_51 rfl rfl ?_
    refine tr_icmp_ge g 91 56 dX5_readsSort_53 rfl rfl ?_ ?_
    · refine tr_sub [0] (lv' := [(0, .ref (tn_ad E 5))]) rfl ?_
      exact b_X5_readsSort_91 g o  _
    · refine tr_aload_n g 0 57 dX5_readsSort_56 rfl rfl rfl ?_
      refine tr_iload_n g 1 58 dX5_readsSort_57 rfl rfl rfl ?_
      refine kv_X5_behind g wd_865 ⟨Nat.le_of_ble_eq_true rfl, Nat.le_of_ble_eq_true rfl⟩ (Nat.le_of_ble_eq_true rfl) 61 dX5_readsSort_58 rfl (fun r2 σ1 => ?_)
      refine tr_istore_n (lv' := [(3, .int r2), (0, .ref (tn_ad E 5)), (2, .int x2)]) g 62 dX5_readsSort_61 rfl rfl (by decide) rfl ?_
      refine tr_iload_n g 0 63 dX5_readsSort_62 rfl rfl rfl ?_
      refine tr_bipush (v := (-9)) g 65 dX5_readsSort_63 rfl rfl ?_
      refine tr_icmp_ne g 70 68 dX5_readsSort_65 rfl rfl ?_ ?_
      · refine tr_aload_n g 1 71 dX5_readsSort_70 rfl rfl rfl ?_
        refine gf_X5_12 g wd_716 74 dX5_readsSort_71 rfl ?_
        refine tr_bipush (v := 6) g 76 dX5_readsSort_74 rfl rfl ?_
        refine tr_aload_n g 1 77 dX5_readsSort_76 rfl rfl rfl ?_
        refine gf_X5_11 g wd_715 80 dX5_readsSort_77 rfl ?_
        refine tr_imul g 81 dX5_readsSort_80 rfl ?_
        refine tr_iload_n g 2 82 dX5_readsSort_81 rfl rfl rfl ?_
        refine tr_iadd g 83 dX5_readsSort_82 rfl ?_
        refine tr_iload_n g 0 84 dX5_readsSort_83 rfl rfl rfl ?_
        refine tr_iast (N := 36) g 85 rfl rfl dX5_readsSort_84 rfl (fun σ3 => ?_)
        refine tr_iinc (lv' := [(2, .int (x2 + 1)), (3, .int r2), (0, .ref (tn_ad E 5))]) (x := (x2 + 1)) g 2 88 dX5_readsSort_85 rfl rfl rfl (by decide) rfl ?_
        refine tr_goto g 50 dX5_readsSort_88 rfl ?_
        refine tr_sub [2, 0] (lv' := [(0, .ref (tn_ad E 5)), (2, .int (x2 + 1))]) rfl ?_
        exact ih _ _
      · refine tr_iconst (v := 0) g 69 dX5_readsSort_68 rfl rfl ?_
        exact tr_zret g o rfl dX5_readsSort_69
set_option maxHeartbeats 4000000 in
set_option maxRecDepth 20000 in
theorem b_X5_readsSort {E : tn_E} {G : tn_G} (g : tn_Ok E G cX5_readsSort RX5 4 (tn_rm 3 71)) (o : tn_Om E G (some .boolean))   (σ : tn_M) : tn_V E G tn_ie 0 [(0, .ref (tn_ad E 5))] [] σ (f_X5_readsSort σ) := by
  unfold f_X5_readsSort
  refine tr_aload_n g 0 1 dX5_readsSort_0 rfl rfl rfl ?_
  refine gf_X5_11 g wd_715 4 dX5_readsSort_1 rfl ?_
  refine tr_bipush (v := 6) g 6 dX5_readsSort_4 rfl rfl ?_
  refine tr_icmp_ne g 11 9 dX5_readsSort_6 rfl rfl ?_ ?_
  · refine tr_aload_n g 0 12 dX5_readsSort_11 rfl rfl rfl ?_
    refine tr_dup g 13 dX5_readsSort_12 rfl rfl ?_
    refine gf_X5_7 g wd_711 16 dX5_readsSort_13 rfl ?_
    refine tr_iconst (v := 1) g 17 dX5_readsSort_16 rfl rfl ?_
    refine tr_iadd g 18 dX5_readsSort_17 rfl ?_
    refine pf_X5_7 g wd_711 21 dX5_readsSort_18 rfl (fun σ1 => ?_)
    refine tr_aload_n g 0 22 dX5_readsSort_21 rfl rfl rfl ?_
    refine tr_iconst (v := 1) g 23 dX5_readsSort_22 rfl rfl ?_
    refine tr_iconst (v := 1) g 24 dX5_readsSort_23 rfl rfl ?_
    refine tr_iconst (v := 3) g 25 dX5_readsSort_24 rfl rfl ?_
    refine kv_X5_figures g wd_851 ⟨Nat.le_of_ble_eq_true rfl, Nat.le_of_ble_eq_true rfl⟩ (Nat.le_of_ble_eq_true rfl) 28 dX5_readsSort_25 rfl (fun r3 σ2 => ?_)
    refine tr_istore_n (lv' := [(1, .int r3), (0, .ref (tn_ad E 5))]) g 29 dX5_readsSort_28 rfl rfl (by decide) rfl ?_
    refine tr_iload_n g 0 30 dX5_readsSort_29 rfl rfl rfl ?_
    refine tr_if_ge g 35 33 dX5_readsSort_30 rfl rfl ?_ ?_
    · refine tr_aload_n g 1 36 dX5_readsSort_35 rfl rfl rfl ?_
      refine gf_X5_12 g wd_716 39 dX5_readsSort_36 rfl ?_
      refine tr_bipush (v := 6) g 41 dX5_readsSort_39 rfl rfl ?_
      refine tr_aload_n g 1 42 dX5_readsSort_41 rfl rfl rfl ?_
      refine gf_X5_11 g wd_715 45 dX5_readsSort_42 rfl ?_
      refine tr_imul g 46 dX5_readsSort_45 rfl ?_
      refine tr_iload_n g 0 47 dX5_readsSort_46 rfl rfl rfl ?_
      refine tr_iast (N := 36) g 48 rfl rfl dX5_readsSort_47 rfl (fun σ4 => ?_)
      refine tr_iconst (v := 1) g 49 dX5_readsSort_48 rfl rfl ?_
      refine tr_istore_n (lv' := [(2, .int 1), (1, .int r3), (0, .ref (tn_ad E 5))]) g 50 dX5_readsSort_49 rfl rfl (by decide) rfl ?_
      refine tr_sub [2, 0] (lv' := [(0, .ref (tn_ad E 5)), (2, .int 1)]) rfl ?_
      exact b_X5_readsSort_50 g o  tn_fuel _ _
    · refine tr_iconst (v := 0) g 34 dX5_readsSort_33 rfl rfl ?_
      exact tr_zret g o rfl dX5_readsSort_34
  · refine tr_iconst (v := 0) g 10 dX5_readsSort_9 rfl rfl ?_
    exact tr_zret g o rfl dX5_readsSort_10
theorem ok_X5_readsSort {E : tn_E} {l : Launch}    {σ : tn_M} {r : Int32} {σ' : tn_M} (h : f_X5_readsSort  σ = some (r, σ')) : tn_C E l yX5_readsSort cX5_readsSort 4 (some .boolean) (tn_rm 3 71) [.ref (tn_ad E 5)] σ (tn_ie r) σ' :=
  tn_met (by decide) (Nat.le_of_ble_eq_true rfl) (fun G _ g o => b_X5_readsSort g o   σ) h
theorem yy_X5_readsSort : tn_Yv RX5 yX5_readsSort cX5_readsSort 4 (some .boolean) 0 := ⟨wd_864, wd_863, wd_32, wd_70, by decide, by decide, by decide +kernel⟩
theorem kv_X5_readsSort {E : tn_E} {G : tn_G} {cc : ByteArray} {own : String} {nL : Nat} {R : Room} {ρ : Type} {enc : ρ → Option Value} {pc : Nat} {lv : List (Nat × Value)} {st : List Value} {σ : tn_M} {kk : Int32 → tn_M → Option (ρ × tn_M)} {i : Nat}   (g : tn_Ok E G cc own nL R)  (hw : Cond.methodLink own i yX5_readsSort ∈ tn_T) (hroom : 4 ≤ R.frames ∧ 94 ≤ R.locals) (hW : (st.map fun v => v.category).sum ≤ 8) (n : Nat) (hd : decode cc pc = .ok (.invokevirtual i, 3)) (hn : pc + 3 = n) (k : ∀ r σ1, tn_V E G enc n lv (.int r :: st) σ1 (kk r σ1)) : tn_V E G enc pc lv (.ref (tn_ad E 5) :: st) σ (tn_bd (f_X5_readsSort  σ) kk) :=
  tr_callV (As := []) (enc1 := tn_ie) g yy_X5_readsSort hw (ci := 5) rfl (by decide) rfl (fun r σ1 h => ok_X5_readsSort   h) ⟨rfl, rfl⟩ ⟨hroom.1, by have h2 := hroom.2; show 8 + (4 + 11) + 71 ≤ R.locals; omega⟩ rfl rfl hW n hd hn k
/-! X5_stops -/
def f_X5_stops   (σ : tn_M) : Option (Int32 × tn_M) :=
  tn_lt (tn_si σ 5 8 0) fun σ1 =>
  tn_lt (tn_si σ1 5 11 0) fun σ2 =>
  some ((σ2.1 5 7), σ2)
set_option maxHeartbeats 4000000 in
set_option maxRecDepth 20000 in
theorem b_X5_stops {E : tn_E} {G : tn_G} (g : tn_Ok E G cX5_stops RX5 1 (tn_rm 0 0)) (o : tn_Om E G (some .int))   (σ : tn_M) : tn_V E G tn_ie 0 [(0, .ref (tn_ad E 5))] [] σ (f_X5_stops σ) := by
  unfold f_X5_stops
  refine tr_aload_n g 0 1 dX5_stops_0 rfl rfl rfl ?_
  refine tr_iconst (v := 0) g 2 dX5_stops_1 rfl rfl ?_
  refine pf_X5_8 g wd_712 5 dX5_stops_2 rfl (fun σ1 => ?_)
  refine tr_aload_n g 0 6 dX5_stops_5 rfl rfl rfl ?_
  refine tr_iconst (v := 0) g 7 dX5_stops_6 rfl rfl ?_
  refine pf_X5_11 g wd_715 10 dX5_stops_7 rfl (fun σ2 => ?_)
  refine tr_aload_n g 0 11 dX5_stops_10 rfl rfl rfl ?_
  refine gf_X5_7 g wd_711 14 dX5_stops_11 rfl ?_
  exact tr_iret g o dX5_stops_14
theorem ok_X5_stops {E : tn_E} {l : Launch}    {σ : tn_M} {r : Int32} {σ' : tn_M} (h : f_X5_stops  σ = some (r, σ')) : tn_C E l yX5_stops cX5_stops 1 (some .int) (tn_rm 0 0) [.ref (tn_ad E 5)] σ (tn_ie r) σ' :=
  tn_met (by decide) (Nat.le_of_ble_eq_true rfl) (fun G _ g o => b_X5_stops g o   σ) h
theorem yy_X5_stops : tn_Yv RX5 yX5_stops cX5_stops 1 (some .int) 0 := ⟨wd_872, wd_871, wd_34, wd_70, by decide, by decide, by decide +kernel⟩
theorem kv_X5_stops {E : tn_E} {G : tn_G} {cc : ByteArray} {own : String} {nL : Nat} {R : Room} {ρ : Type} {enc : ρ → Option Value} {pc : Nat} {lv : List (Nat × Value)} {st : List Value} {σ : tn_M} {kk : Int32 → tn_M → Option (ρ × tn_M)} {i : Nat}   (g : tn_Ok E G cc own nL R)  (hw : Cond.methodLink own i yX5_stops ∈ tn_T) (hroom : 1 ≤ R.frames ∧ 20 ≤ R.locals) (hW : (st.map fun v => v.category).sum ≤ 8) (n : Nat) (hd : decode cc pc = .ok (.invokevirtual i, 3)) (hn : pc + 3 = n) (k : ∀ r σ1, tn_V E G enc n lv (.int r :: st) σ1 (kk r σ1)) : tn_V E G enc pc lv (.ref (tn_ad E 5) :: st) σ (tn_bd (f_X5_stops  σ) kk) :=
  tr_callV (As := []) (enc1 := tn_ie) g yy_X5_stops hw (ci := 5) rfl (by decide) rfl (fun r σ1 h => ok_X5_stops   h) ⟨rfl, rfl⟩ ⟨hroom.1, by have h2 := hroom.2; show 8 + (1 + 11) + 0 ≤ R.locals; omega⟩ rfl rfl hW n hd hn k
/-! X5_reads -/
def F_X5_reads_112 (c28 : Int32 → tn_M → Option (Int32 × tn_M)) (x1 : Int32) (σ : tn_M) : Option (Int32 × tn_M) :=
  tn_lt (α := Int32) (if x1 = 0 then 0 else 1) fun v1 =>
  tn_lt (tn_si σ 5 7 ((σ.1 5 7) + v1)) fun σ2 =>
  c28 x1 σ2
def F_X5_reads_107   (σ : tn_M) : Option (Int32 × tn_M) :=
  tn_bd (f_X5_stops σ) fun r2 σ1 =>
  some (r2, σ1)
def F_X5_reads_77 (c28 : Int32 → tn_M → Option (Int32 × tn_M))  (σ : tn_M) : Option (Int32 × tn_M) :=
  tn_lt (α := Int32) (if (σ.1 5 6) ≤ (σ.1 5 7) then 0 else 1) fun v1 =>
  if v1 = 0 then
    F_X5_reads_112 c28 v1 σ
  else
    tn_bd (f_X5_here σ) fun r3 σ2 =>
    if r3 = 59 then
      F_X5_reads_112 c28 v1 σ2
    else
      F_X5_reads_107 σ2
def F_X5_reads_72   (σ : tn_M) : Option (Int32 × tn_M) :=
  tn_bd (f_X5_stops σ) fun r2 σ1 =>
  some (r2, σ1)
def F_X5_reads_49 (c28 : Int32 → tn_M → Option (Int32 × tn_M)) (x2 : Int32) (σ : tn_M) : Option (Int32 × tn_M) :=
  if x2 = 115 then
    tn_bd (f_X5_readsShop σ) fun r4 σ3 =>
    if r4 = 0 then
      F_X5_reads_72 σ3
    else
      F_X5_reads_77 c28 σ3
  else
    tn_bd (f_X5_readsSort σ) fun r2 σ1 =>
    if r2 = 0 then
      F_X5_reads_72 σ1
    else
      F_X5_reads_77 c28 σ1
def F_X5_reads_28  : Nat → Int32 → tn_M → Option (Int32 × tn_M)
  | 0, _, _ => none
  | tn_n + 1, x1, σ => 
    if x1 = 0 then
      some ((-1), σ)
    else
      tn_bd (f_X5_here σ) fun r2 σ1 =>
      if r2 = 115 then
        F_X5_reads_49 (fun z0 zs => F_X5_reads_28 tn_n z0 zs) r2 σ1
      else
        if r2 = 98 then
          F_X5_reads_49 (fun z0 zs => F_X5_reads_28 tn_n z0 zs) r2 σ1
        else
          F_X5_reads_72 σ1
def f_X5_reads   (σ : tn_M) : Option (Int32 × tn_M) :=
  tn_lt (tn_si σ 5 7 0) fun σ1 =>
  tn_lt (tn_si σ1 5 8 0) fun σ2 =>
  tn_lt (tn_si σ2 5 11 0) fun σ3 =>
  tn_lt (α := Int32) (if (σ3.1 5 6) ≤ 0 then 0 else 1) fun v4 =>
  F_X5_reads_28 tn_fuel v4 σ3
set_option maxHeartbeats 4000000 in
set_option maxRecDepth 20000 in
theorem b_X5_reads_112 {E : tn_E} {G : tn_G} (g : tn_Ok E G cX5_reads RX5 3 (tn_rm 4 94)) (o : tn_Om E G (some .int)) (c28 : Int32 → tn_M → Option (Int32 × tn_M)) (hc28 : ∀ (x1 : Int32) (σ : tn_M), tn_V E G tn_ie 28 [(0, .ref (tn_ad E 5)), (1, .int x1)] [] σ (c28 x1 σ)) (x1 : Int32) (σ : tn_M) : tn_V E G tn_ie 112 [(0, .ref (tn_ad E 5)), (1, .int x1)] [] σ (F_X5_reads_112 c28 x1 σ) := by
  unfold F_X5_reads_112
  refine tr_aload_n g 0 113 dX5_reads_112 rfl rfl rfl ?_
  refine tr_dup g 114 dX5_reads_113 rfl rfl ?_
  refine gf_X5_7 g wd_711 117 dX5_reads_114 rfl ?_
  refine tr_iload_n g 1 118 dX5_reads_117 rfl rfl rfl ?_
  refine tr_if_eqD (inj := fun z => Value.int z) g 126 125 121 dX5_reads_118 rfl rfl (fun rs hj => ?_) (fun rs hj => ?_) (fun v1 => ?_)
  · refine tr_iconst (v := 0) g 126 dX5_reads_125 rfl rfl ?_
    exact hj
  · refine tr_iconst (v := 1) g 122 dX5_reads_121 rfl rfl ?_
    refine tr_goto g 126 dX5_reads_122 rfl ?_
    exact hj
  · refine tr_iadd g 127 dX5_reads_126 rfl ?_
    refine pf_X5_7 g wd_711 130 dX5_reads_127 rfl (fun σ2 => ?_)
    refine tr_goto g 28 dX5_reads_130 rfl ?_
    exact hc28 _ _
set_option maxHeartbeats 4000000 in
set_option maxRecDepth 20000 in
theorem b_X5_reads_107 {E : tn_E} {G : tn_G} (g : tn_Ok E G cX5_reads RX5 3 (tn_rm 4 94)) (o : tn_Om E G (some .int))   (σ : tn_M) : tn_V E G tn_ie 107 [(0, .ref (tn_ad E 5))] [] σ (F_X5_reads_107 σ) := by
  unfold F_X5_reads_107
  refine tr_aload_n g 0 108 dX5_reads_107 rfl rfl rfl ?_
  refine kv_X5_stops g wd_869 ⟨Nat.le_of_ble_eq_true rfl, Nat.le_of_ble_eq_true rfl⟩ (Nat.le_of_ble_eq_true rfl) 111 dX5_reads_108 rfl (fun r2 σ1 => ?_)
  exact tr_iret g o dX5_reads_111
set_option maxHeartbeats 4000000 in
set_option maxRecDepth 20000 in
theorem b_X5_reads_77 {E : tn_E} {G : tn_G} (g : tn_Ok E G cX5_reads RX5 3 (tn_rm 4 94)) (o : tn_Om E G (some .int)) (c28 : Int32 → tn_M → Option (Int32 × tn_M)) (hc28 : ∀ (x1 : Int32) (σ : tn_M), tn_V E G tn_ie 28 [(0, .ref (tn_ad E 5)), (1, .int x1)] [] σ (c28 x1 σ))  (σ : tn_M) : tn_V E G tn_ie 77 [(0, .ref (tn_ad E 5))] [] σ (F_X5_reads_77 c28 σ) := by
  unfold F_X5_reads_77
  refine tr_aload_n g 0 78 dX5_reads_77 rfl rfl rfl ?_
  refine gf_X5_7 g wd_711 81 dX5_reads_78 rfl ?_
  refine tr_aload_n g 0 82 dX5_reads_81 rfl rfl rfl ?_
  refine gf_X5_6 g wd_710 85 dX5_reads_82 rfl ?_
  refine tr_icmp_geD (inj := fun z => Value.int z) g 93 92 88 dX5_reads_85 rfl rfl (fun rs hj => ?_) (fun rs hj => ?_) (fun v1 => ?_)
  · refine tr_iconst (v := 0) g 93 dX5_reads_92 rfl rfl ?_
    exact hj
  · refine tr_iconst (v := 1) g 89 dX5_reads_88 rfl rfl ?_
    refine tr_goto g 93 dX5_reads_89 rfl ?_
    exact hj
  · refine tr_istore_n (lv' := [(1, .int v1), (0, .ref (tn_ad E 5))]) g 94 dX5_reads_93 rfl rfl (by decide) rfl ?_
    refine tr_iload_n g 0 95 dX5_reads_94 rfl rfl rfl ?_
    refine tr_if_eq g 112 98 dX5_reads_95 rfl rfl ?_ ?_
    · refine tr_sub [1, 0] (lv' := [(0, .ref (tn_ad E 5)), (1, .int v1)]) rfl ?_
      exact b_X5_reads_112 g o c28 hc28 _ _
    · refine tr_aload_n g 1 99 dX5_reads_98 rfl rfl rfl ?_
      refine kv_X5_here g wd_843 ⟨Nat.le_of_ble_eq_true rfl, Nat.le_of_ble_eq_true rfl⟩ (Nat.le_of_ble_eq_true rfl) 102 dX5_reads_99 rfl (fun r3 σ2 => ?_)
      refine tr_bipush (v := 59) g 104 dX5_reads_102 rfl rfl ?_
      refine tr_icmp_eq g 112 107 dX5_reads_104 rfl rfl ?_ ?_
      · refine tr_sub [1, 0] (lv' := [(0, .ref (tn_ad E 5)), (1, .int v1)]) rfl ?_
        exact b_X5_reads_112 g o c28 hc28 _ _
      · refine tr_sub [1] (lv' := [(0, .ref (tn_ad E 5))]) rfl ?_
        exact b_X5_reads_107 g o  _
set_option maxHeartbeats 4000000 in
set_option maxRecDepth 20000 in
theorem b_X5_reads_72 {E : tn_E} {G : tn_G} (g : tn_Ok E G cX5_reads RX5 3 (tn_rm 4 94)) (o : tn_Om E G (some .int))   (σ : tn_M) : tn_V E G tn_ie 72 [(0, .ref (tn_ad E 5))] [] σ (F_X5_reads_72 σ) := by
  unfold F_X5_reads_72
  refine tr_aload_n g 0 73 dX5_reads_72 rfl rfl rfl ?_
  refine kv_X5_stops g wd_869 ⟨Nat.le_of_ble_eq_true rfl, Nat.le_of_ble_eq_true rfl⟩ (Nat.le_of_ble_eq_true rfl) 76 dX5_reads_73 rfl (fun r2 σ1 => ?_)
  exact tr_iret g o dX5_reads_76
set_option maxHeartbeats 4000000 in
set_option maxRecDepth 20000 in
theorem b_X5_reads_49 {E : tn_E} {G : tn_G} (g : tn_Ok E G cX5_reads RX5 3 (tn_rm 4 94)) (o : tn_Om E G (some .int)) (c28 : Int32 → tn_M → Option (Int32 × tn_M)) (hc28 : ∀ (x1 : Int32) (σ : tn_M), tn_V E G tn_ie 28 [(0, .ref (tn_ad E 5)), (1, .int x1)] [] σ (c28 x1 σ)) (x2 : Int32) (σ : tn_M) : tn_V E G tn_ie 49 [(0, .ref (tn_ad E 5)), (2, .int x2)] [] σ (F_X5_reads_49 c28 x2 σ) := by
  unfold F_X5_reads_49
  refine tr_iload_n g 1 50 dX5_reads_49 rfl rfl rfl ?_
  refine tr_bipush (v := 115) g 52 dX5_reads_50 rfl rfl ?_
  refine tr_icmp_ne g 65 55 dX5_reads_52 rfl rfl ?_ ?_
  · refine tr_aload_n g 0 66 dX5_reads_65 rfl rfl rfl ?_
    refine kv_X5_readsSort g wd_861 ⟨Nat.le_of_ble_eq_true rfl, Nat.le_of_ble_eq_true rfl⟩ (Nat.le_of_ble_eq_true rfl) 69 dX5_reads_66 rfl (fun r2 σ1 => ?_)
    refine tr_if_ne g 77 72 dX5_reads_69 rfl rfl ?_ ?_
    · refine tr_sub [0] (lv' := [(0, .ref (tn_ad E 5))]) rfl ?_
      exact b_X5_reads_77 g o c28 hc28 _
    · refine tr_sub [0] (lv' := [(0, .ref (tn_ad E 5))]) rfl ?_
      exact b_X5_reads_72 g o  _
  · refine tr_aload_n g 0 56 dX5_reads_55 rfl rfl rfl ?_
    refine kv_X5_readsShop g wd_847 ⟨Nat.le_of_ble_eq_true rfl, Nat.le_of_ble_eq_true rfl⟩ (Nat.le_of_ble_eq_true rfl) 59 dX5_reads_56 rfl (fun r4 σ3 => ?_)
    refine tr_if_eq g 72 62 dX5_reads_59 rfl rfl ?_ ?_
    · refine tr_sub [0] (lv' := [(0, .ref (tn_ad E 5))]) rfl ?_
      exact b_X5_reads_72 g o  _
    · refine tr_goto g 77 dX5_reads_62 rfl ?_
      refine tr_sub [0] (lv' := [(0, .ref (tn_ad E 5))]) rfl ?_
      exact b_X5_reads_77 g o c28 hc28 _
set_option maxHeartbeats 4000000 in
set_option maxRecDepth 20000 in
theorem b_X5_reads_28 {E : tn_E} {G : tn_G} (g : tn_Ok E G cX5_reads RX5 3 (tn_rm 4 94)) (o : tn_Om E G (some .int))  : ∀ (n : Nat) (x1 : Int32) (σ : tn_M), tn_V E G tn_ie 28 [(0, .ref (tn_ad E 5)), (1, .int x1)] [] σ (F_X5_reads_28 n x1 σ) := by
  intro n
  induction n with
  | zero => intros; exact tr_none
  | succ tn_n ih =>
    intro x1 σ
    rw [F_X5_reads_28]
    refine tr_iload_n g 1 29 dX5_reads_28 rfl rfl rfl ?_
    refine tr_if_eq g 133 32 dX5_reads_29 rfl rfl ?_ ?_
    · refine tr_iconst (v := (-1)) g 134 dX5_reads_133 rfl rfl ?_
      exact tr_iret g o dX5_reads_134
    · refine tr_aload_n g 0 33 dX5_reads_32 rfl rfl rfl ?_
      refine kv_X5_here g wd_843 ⟨Nat.le_of_ble_eq_true rfl, Nat.le_of_ble_eq_true rfl⟩ (Nat.le_of_ble_eq_true rfl) 36 dX5_reads_33 rfl (fun r2 σ1 => ?_)
      refine tr_istore_n (lv' := [(2, .int r2), (0, .ref (tn_ad E 5)), (1, .int x1)]) g 37 dX5_reads_36 rfl rfl (by decide) rfl ?_
      refine tr_iload_n g 0 38 dX5_reads_37 rfl rfl rfl ?_
      refine tr_bipush (v := 115) g 40 dX5_reads_38 rfl rfl ?_
      refine tr_icmp_eq g 49 43 dX5_reads_40 rfl rfl ?_ ?_
      · refine tr_sub [1, 0] (lv' := [(0, .ref (tn_ad E 5)), (2, .int r2)]) rfl ?_
        exact b_X5_reads_49 g o (fun z0 zs => F_X5_reads_28 tn_n z0 zs) (fun z0 zs => ih z0 zs) _ _
      · refine tr_iload_n g 0 44 dX5_reads_43 rfl rfl rfl ?_
        refine tr_bipush (v := 98) g 46 dX5_reads_44 rfl rfl ?_
        refine tr_icmp_ne g 72 49 dX5_reads_46 rfl rfl ?_ ?_
        · refine tr_sub [1] (lv' := [(0, .ref (tn_ad E 5))]) rfl ?_
          exact b_X5_reads_72 g o  _
        · refine tr_sub [1, 0] (lv' := [(0, .ref (tn_ad E 5)), (2, .int r2)]) rfl ?_
          exact b_X5_reads_49 g o (fun z0 zs => F_X5_reads_28 tn_n z0 zs) (fun z0 zs => ih z0 zs) _ _
set_option maxHeartbeats 4000000 in
set_option maxRecDepth 20000 in
theorem b_X5_reads {E : tn_E} {G : tn_G} (g : tn_Ok E G cX5_reads RX5 3 (tn_rm 4 94)) (o : tn_Om E G (some .int))   (σ : tn_M) : tn_V E G tn_ie 0 [(0, .ref (tn_ad E 5))] [] σ (f_X5_reads σ) := by
  unfold f_X5_reads
  refine tr_aload_n g 0 1 dX5_reads_0 rfl rfl rfl ?_
  refine tr_iconst (v := 0) g 2 dX5_reads_1 rfl rfl ?_
  refine pf_X5_7 g wd_711 5 dX5_reads_2 rfl (fun σ1 => ?_)
  refine tr_aload_n g 0 6 dX5_reads_5 rfl rfl rfl ?_
  refine tr_iconst (v := 0) g 7 dX5_reads_6 rfl rfl ?_
  refine pf_X5_8 g wd_712 10 dX5_reads_7 rfl (fun σ2 => ?_)
  refine tr_aload_n g 0 11 dX5_reads_10 rfl rfl rfl ?_
  refine tr_iconst (v := 0) g 12 dX5_reads_11 rfl rfl ?_
  refine pf_X5_11 g wd_715 15 dX5_reads_12 rfl (fun σ3 => ?_)
  refine tr_aload_n g 0 16 dX5_reads_15 rfl rfl rfl ?_
  refine gf_X5_6 g wd_710 19 dX5_reads_16 rfl ?_
  refine tr_if_leD (inj := fun z => Value.int z) g 27 26 22 dX5_reads_19 rfl rfl (fun rs hj => ?_) (fun rs hj => ?_) (fun v4 => ?_)
  · refine tr_iconst (v := 0) g 27 dX5_reads_26 rfl rfl ?_
    exact hj
  · refine tr_iconst (v := 1) g 23 dX5_reads_22 rfl rfl ?_
    refine tr_goto g 27 dX5_reads_23 rfl ?_
    exact hj
  · refine tr_istore_n (lv' := [(1, .int v4), (0, .ref (tn_ad E 5))]) g 28 dX5_reads_27 rfl rfl (by decide) rfl ?_
    refine tr_sub [1, 0] (lv' := [(0, .ref (tn_ad E 5)), (1, .int v4)]) rfl ?_
    exact b_X5_reads_28 g o  tn_fuel _ _
theorem ok_X5_reads {E : tn_E} {l : Launch}    {σ : tn_M} {r : Int32} {σ' : tn_M} (h : f_X5_reads  σ = some (r, σ')) : tn_C E l yX5_reads cX5_reads 3 (some .int) (tn_rm 4 94) [.ref (tn_ad E 5)] σ (tn_ie r) σ' :=
  tn_met (by decide) (Nat.le_of_ble_eq_true rfl) (fun G _ g o => b_X5_reads g o   σ) h
theorem yy_X5_reads : tn_Yv RX5 yX5_reads cX5_reads 3 (some .int) 0 := ⟨wd_842, wd_841, wd_27, wd_70, by decide, by decide, by decide +kernel⟩
theorem kv_X5_reads {E : tn_E} {G : tn_G} {cc : ByteArray} {own : String} {nL : Nat} {R : Room} {ρ : Type} {enc : ρ → Option Value} {pc : Nat} {lv : List (Nat × Value)} {st : List Value} {σ : tn_M} {kk : Int32 → tn_M → Option (ρ × tn_M)} {i : Nat}   (g : tn_Ok E G cc own nL R)  (hw : Cond.methodLink own i yX5_reads ∈ tn_T) (hroom : 5 ≤ R.frames ∧ 116 ≤ R.locals) (hW : (st.map fun v => v.category).sum ≤ 8) (n : Nat) (hd : decode cc pc = .ok (.invokevirtual i, 3)) (hn : pc + 3 = n) (k : ∀ r σ1, tn_V E G enc n lv (.int r :: st) σ1 (kk r σ1)) : tn_V E G enc pc lv (.ref (tn_ad E 5) :: st) σ (tn_bd (f_X5_reads  σ) kk) :=
  tr_callV (As := []) (enc1 := tn_ie) g yy_X5_reads hw (ci := 5) rfl (by decide) rfl (fun r σ1 h => ok_X5_reads   h) ⟨rfl, rfl⟩ ⟨hroom.1, by have h2 := hroom.2; show 8 + (3 + 11) + 94 ≤ R.locals; omega⟩ rfl rfl hW n hd hn k
/-! X5_fault -/
def f_X5_fault   (σ : tn_M) : Option (Int32 × tn_M) :=
  tn_bd (f_X5_reads σ) fun r2 σ1 =>
  some (r2, σ1)
set_option maxHeartbeats 4000000 in
set_option maxRecDepth 20000 in
theorem b_X5_fault {E : tn_E} {G : tn_G} (g : tn_Ok E G cX5_fault RX5 1 (tn_rm 5 116)) (o : tn_Om E G (some .int))   (σ : tn_M) : tn_V E G tn_ie 0 [(0, .ref (tn_ad E 5))] [] σ (f_X5_fault σ) := by
  unfold f_X5_fault
  refine tr_aload_n g 0 1 dX5_fault_0 rfl rfl rfl ?_
  refine kv_X5_reads g wd_839 ⟨Nat.le_of_ble_eq_true rfl, Nat.le_of_ble_eq_true rfl⟩ (Nat.le_of_ble_eq_true rfl) 4 dX5_fault_1 rfl (fun r2 σ1 => ?_)
  exact tr_iret g o dX5_fault_4
theorem ok_X5_fault {E : tn_E} {l : Launch}    {σ : tn_M} {r : Int32} {σ' : tn_M} (h : f_X5_fault  σ = some (r, σ')) : tn_C E l yX5_fault cX5_fault 1 (some .int) (tn_rm 5 116) [.ref (tn_ad E 5)] σ (tn_ie r) σ' :=
  tn_met (by decide) (Nat.le_of_ble_eq_true rfl) (fun G _ g o => b_X5_fault g o   σ) h
theorem yy_X5_fault : tn_Yv RX5 yX5_fault cX5_fault 1 (some .int) 0 := ⟨wd_838, wd_836, wd_837, wd_70, by decide, by decide, by decide +kernel⟩
theorem kv_X5_fault {E : tn_E} {G : tn_G} {cc : ByteArray} {own : String} {nL : Nat} {R : Room} {ρ : Type} {enc : ρ → Option Value} {pc : Nat} {lv : List (Nat × Value)} {st : List Value} {σ : tn_M} {kk : Int32 → tn_M → Option (ρ × tn_M)} {i : Nat}   (g : tn_Ok E G cc own nL R)  (hw : Cond.methodLink own i yX5_fault ∈ tn_T) (hroom : 6 ≤ R.frames ∧ 136 ≤ R.locals) (hW : (st.map fun v => v.category).sum ≤ 8) (n : Nat) (hd : decode cc pc = .ok (.invokevirtual i, 3)) (hn : pc + 3 = n) (k : ∀ r σ1, tn_V E G enc n lv (.int r :: st) σ1 (kk r σ1)) : tn_V E G enc pc lv (.ref (tn_ad E 5) :: st) σ (tn_bd (f_X5_fault  σ) kk) :=
  tr_callV (As := []) (enc1 := tn_ie) g yy_X5_fault hw (ci := 5) rfl (by decide) rfl (fun r σ1 h => ok_X5_fault   h) ⟨rfl, rfl⟩ ⟨hroom.1, by have h2 := hroom.2; show 8 + (1 + 11) + 116 ≤ R.locals; omega⟩ rfl rfl hW n hd hn k
/-! X5_isShop -/
def f_X5_isShop  (a1 : Int32) (σ : tn_M) : Option (Int32 × tn_M) :=
  tn_bd (f_X5_reads σ) fun r2 σ1 =>
  tn_bd (f_X5_in (Int32.toInt64 a1) 0 (Int32.toInt64 ((σ1.1 5 8) - 1)) σ1) fun r4 σ3 =>
  tn_zr r4 σ3
set_option maxHeartbeats 4000000 in
set_option maxRecDepth 20000 in
theorem b_X5_isShop {E : tn_E} {G : tn_G} (g : tn_Ok E G cX5_isShop RX5 2 (tn_rm 5 116)) (o : tn_Om E G (some .boolean))  (a1 : Int32) (σ : tn_M) : tn_V E G tn_ie 0 [(0, .ref (tn_ad E 5)), (1, .int a1)] [] σ (f_X5_isShop a1 σ) := by
  unfold f_X5_isShop
  refine tr_aload_n g 0 1 dX5_isShop_0 rfl rfl rfl ?_
  refine kv_X5_reads g wd_839 ⟨Nat.le_of_ble_eq_true rfl, Nat.le_of_ble_eq_true rfl⟩ (Nat.le_of_ble_eq_true rfl) 4 dX5_isShop_1 rfl (fun r2 σ1 => ?_)
  refine tr_pop g 5 dX5_isShop_4 rfl rfl ?_
  refine tr_iload_n g 1 6 dX5_isShop_5 rfl rfl rfl ?_
  refine tr_i2l g 7 dX5_isShop_6 rfl ?_
  refine tr_lconst (v := 0) g 8 dX5_isShop_7 rfl rfl ?_
  refine tr_aload_n g 0 9 dX5_isShop_8 rfl rfl rfl ?_
  refine gf_X5_8 g wd_712 12 dX5_isShop_9 rfl ?_
  refine tr_iconst (v := 1) g 13 dX5_isShop_12 rfl rfl ?_
  refine tr_isub g 14 dX5_isShop_13 rfl ?_
  refine tr_i2l g 15 dX5_isShop_14 rfl ?_
  refine kv_X5_in g wd_794 ⟨Nat.le_of_ble_eq_true rfl, Nat.le_of_ble_eq_true rfl⟩ (Nat.le_of_ble_eq_true rfl) 18 dX5_isShop_15 rfl (fun r4 σ3 => ?_)
  exact tr_zretv g o dX5_isShop_18
theorem ok_X5_isShop {E : tn_E} {l : Launch}   (a1 : Int32) {σ : tn_M} {r : Int32} {σ' : tn_M} (h : f_X5_isShop a1 σ = some (r, σ')) : tn_C E l yX5_isShop cX5_isShop 2 (some .boolean) (tn_rm 5 116) [.ref (tn_ad E 5), .int a1] σ (tn_ie r) σ' :=
  tn_met (by decide) (Nat.le_of_ble_eq_true rfl) (fun G _ g o => b_X5_isShop g o  a1 σ) h
theorem yy_X5_isShop : tn_Yv RX5 yX5_isShop cX5_isShop 2 (some .boolean) 1 := ⟨wd_880, wd_879, wd_35, wd_70, by decide, by decide, by decide +kernel⟩
theorem kv_X5_isShop {E : tn_E} {G : tn_G} {cc : ByteArray} {own : String} {nL : Nat} {R : Room} {ρ : Type} {enc : ρ → Option Value} {pc : Nat} {lv : List (Nat × Value)} {st : List Value} {σ : tn_M} {kk : Int32 → tn_M → Option (ρ × tn_M)} {i : Nat}  {a1 : Int32} (g : tn_Ok E G cc own nL R)  (hw : Cond.methodLink own i yX5_isShop ∈ tn_T) (hroom : 6 ≤ R.frames ∧ 137 ≤ R.locals) (hW : (st.map fun v => v.category).sum ≤ 8) (n : Nat) (hd : decode cc pc = .ok (.invokevirtual i, 3)) (hn : pc + 3 = n) (k : ∀ r σ1, tn_V E G enc n lv (.int r :: st) σ1 (kk r σ1)) : tn_V E G enc pc lv (.int a1 :: .ref (tn_ad E 5) :: st) σ (tn_bd (f_X5_isShop a1 σ) kk) :=
  tr_callV (As := [.int a1]) (enc1 := tn_ie) g yy_X5_isShop hw (ci := 5) rfl (by decide) rfl (fun r σ1 h => ok_X5_isShop  a1 h) ⟨rfl, rfl⟩ ⟨hroom.1, by have h2 := hroom.2; show 8 + (2 + 11) + 116 ≤ R.locals; omega⟩ rfl rfl hW n hd hn k
/-! X5_isBound -/
def f_X5_isBound  (a1 : Int32) (σ : tn_M) : Option (Int32 × tn_M) :=
  tn_ck a1 5 <|
  tn_lt (α := Int32) (if (σ.1 38 (tn_x a1)) ≤ (σ.1 41 2) then 0 else 1) fun v1 =>
  tn_zr v1 σ
set_option maxHeartbeats 4000000 in
set_option maxRecDepth 20000 in
theorem b_X5_isBound {E : tn_E} {G : tn_G} (g : tn_Ok E G cX5_isBound RX5 2 (tn_rm 0 0)) (o : tn_Om E G (some .boolean))  (a1 : Int32) (σ : tn_M) : tn_V E G tn_ie 0 [(0, .ref (tn_ad E 5)), (1, .int a1)] [] σ (f_X5_isBound a1 σ) := by
  unfold f_X5_isBound
  refine tr_aload_n g 0 1 dX5_isBound_0 rfl rfl rfl ?_
  refine gf_X5_9 g wd_713 4 dX5_isBound_1 rfl ?_
  refine tr_iload_n g 1 5 dX5_isBound_4 rfl rfl rfl ?_
  refine tr_iald (N := 5) g 6 rfl rfl dX5_isBound_5 rfl ?_
  refine tr_aload_n g 0 7 dX5_isBound_6 rfl rfl rfl ?_
  refine gf_X5_13 g wd_717 10 dX5_isBound_7 rfl ?_
  refine tr_iconst (v := 2) g 11 dX5_isBound_10 rfl rfl ?_
  refine tr_ialdK (N := 8) g 12 2 rfl rfl rfl (by decide) dX5_isBound_11 rfl ?_
  refine tr_icmp_leD (inj := fun z => Value.int z) g 20 19 15 dX5_isBound_12 rfl rfl (fun rs hj => ?_) (fun rs hj => ?_) (fun v1 => ?_)
  · refine tr_iconst (v := 0) g 20 dX5_isBound_19 rfl rfl ?_
    exact hj
  · refine tr_iconst (v := 1) g 16 dX5_isBound_15 rfl rfl ?_
    refine tr_goto g 20 dX5_isBound_16 rfl ?_
    exact hj
  · exact tr_zretv g o dX5_isBound_20
theorem ok_X5_isBound {E : tn_E} {l : Launch}   (a1 : Int32) {σ : tn_M} {r : Int32} {σ' : tn_M} (h : f_X5_isBound a1 σ = some (r, σ')) : tn_C E l yX5_isBound cX5_isBound 2 (some .boolean) (tn_rm 0 0) [.ref (tn_ad E 5), .int a1] σ (tn_ie r) σ' :=
  tn_met (by decide) (Nat.le_of_ble_eq_true rfl) (fun G _ g o => b_X5_isBound g o  a1 σ) h
theorem yy_X5_isBound : tn_Yv RX5 yX5_isBound cX5_isBound 2 (some .boolean) 1 := ⟨wd_884, wd_883, wd_36, wd_70, by decide, by decide, by decide +kernel⟩
theorem kv_X5_isBound {E : tn_E} {G : tn_G} {cc : ByteArray} {own : String} {nL : Nat} {R : Room} {ρ : Type} {enc : ρ → Option Value} {pc : Nat} {lv : List (Nat × Value)} {st : List Value} {σ : tn_M} {kk : Int32 → tn_M → Option (ρ × tn_M)} {i : Nat}  {a1 : Int32} (g : tn_Ok E G cc own nL R)  (hw : Cond.methodLink own i yX5_isBound ∈ tn_T) (hroom : 1 ≤ R.frames ∧ 21 ≤ R.locals) (hW : (st.map fun v => v.category).sum ≤ 8) (n : Nat) (hd : decode cc pc = .ok (.invokevirtual i, 3)) (hn : pc + 3 = n) (k : ∀ r σ1, tn_V E G enc n lv (.int r :: st) σ1 (kk r σ1)) : tn_V E G enc pc lv (.int a1 :: .ref (tn_ad E 5) :: st) σ (tn_bd (f_X5_isBound a1 σ) kk) :=
  tr_callV (As := [.int a1]) (enc1 := tn_ie) g yy_X5_isBound hw (ci := 5) rfl (by decide) rfl (fun r σ1 h => ok_X5_isBound  a1 h) ⟨rfl, rfl⟩ ⟨hroom.1, by have h2 := hroom.2; show 8 + (2 + 11) + 0 ≤ R.locals; omega⟩ rfl rfl hW n hd hn k
/-! X5_shop -/
def f_X5_shop  (a1 : Int32) (a2 : Int32) (σ : tn_M) : Option (Int32 × tn_M) :=
  tn_bd (f_X5_isShop a1 σ) fun r2 σ1 =>
  if r2 = 0 then
    some ((-2), σ1)
  else
    tn_bd (f_X5_in (Int32.toInt64 a2) 0 2 σ1) fun r4 σ3 =>
    if r4 = 0 then
      some ((-2), σ3)
    else
      if a2 = 0 then
        tn_ck a1 5 <|
        some ((σ3.1 38 (tn_x a1)), σ3)
      else
        if a2 = 1 then
          tn_ck a1 5 <|
          some ((σ3.1 39 (tn_x a1)), σ3)
        else
          tn_bd (f_X5_isBound a1 σ3) fun r6 σ5 =>
          if r6 = 0 then
            some (0, σ5)
          else
            some (1, σ5)
set_option maxHeartbeats 4000000 in
set_option maxRecDepth 20000 in
theorem b_X5_shop {E : tn_E} {G : tn_G} (g : tn_Ok E G cX5_shop RX5 3 (tn_rm 6 137)) (o : tn_Om E G (some .int))  (a1 : Int32) (a2 : Int32) (σ : tn_M) : tn_V E G tn_ie 0 [(0, .ref (tn_ad E 5)), (1, .int a1), (2, .int a2)] [] σ (f_X5_shop a1 a2 σ) := by
  unfold f_X5_shop
  refine tr_aload_n g 0 1 dX5_shop_0 rfl rfl rfl ?_
  refine tr_iload_n g 1 2 dX5_shop_1 rfl rfl rfl ?_
  refine kv_X5_isShop g wd_877 ⟨Nat.le_of_ble_eq_true rfl, Nat.le_of_ble_eq_true rfl⟩ (Nat.le_of_ble_eq_true rfl) 5 dX5_shop_2 rfl (fun r2 σ1 => ?_)
  refine tr_if_eq g 20 8 dX5_shop_5 rfl rfl ?_ ?_
  · refine tr_bipush (v := (-2)) g 22 dX5_shop_20 rfl rfl ?_
    exact tr_iret g o dX5_shop_22
  · refine tr_iload_n g 2 9 dX5_shop_8 rfl rfl rfl ?_
    refine tr_i2l g 10 dX5_shop_9 rfl ?_
    refine tr_lconst (v := 0) g 11 dX5_shop_10 rfl rfl ?_
    refine tr_ldc2 (v := 2) g wd_797 14 dX5_shop_11 rfl ?_
    refine kv_X5_in g wd_794 ⟨Nat.le_of_ble_eq_true rfl, Nat.le_of_ble_eq_true rfl⟩ (Nat.le_of_ble_eq_true rfl) 17 dX5_shop_14 rfl (fun r4 σ3 => ?_)
    refine tr_if_ne g 23 20 dX5_shop_17 rfl rfl ?_ ?_
    · refine tr_iload_n g 2 24 dX5_shop_23 rfl rfl rfl ?_
      refine tr_if_ne g 36 27 dX5_shop_24 rfl rfl ?_ ?_
      · refine tr_iload_n g 2 37 dX5_shop_36 rfl rfl rfl ?_
        refine tr_iconst (v := 1) g 38 dX5_shop_37 rfl rfl ?_
        refine tr_icmp_ne g 50 41 dX5_shop_38 rfl rfl ?_ ?_
        · refine tr_aload_n g 0 51 dX5_shop_50 rfl rfl rfl ?_
          refine tr_iload_n g 1 52 dX5_shop_51 rfl rfl rfl ?_
          refine kv_X5_isBound g wd_881 ⟨Nat.le_of_ble_eq_true rfl, Nat.le_of_ble_eq_true rfl⟩ (Nat.le_of_ble_eq_true rfl) 55 dX5_shop_52 rfl (fun r6 σ5 => ?_)
          refine tr_if_eq g 62 58 dX5_shop_55 rfl rfl ?_ ?_
          · refine tr_iconst (v := 0) g 63 dX5_shop_62 rfl rfl ?_
            exact tr_iret g o dX5_shop_63
          · refine tr_iconst (v := 1) g 59 dX5_shop_58 rfl rfl ?_
            refine tr_goto g 63 dX5_shop_59 rfl ?_
            exact tr_iret g o dX5_shop_63
        · refine tr_aload_n g 0 42 dX5_shop_41 rfl rfl rfl ?_
          refine gf_X5_10 g wd_714 45 dX5_shop_42 rfl ?_
          refine tr_iload_n g 1 46 dX5_shop_45 rfl rfl rfl ?_
          refine tr_iald (N := 5) g 47 rfl rfl dX5_shop_46 rfl ?_
          refine tr_goto g 63 dX5_shop_47 rfl ?_
          exact tr_iret g o dX5_shop_63
      · refine tr_aload_n g 0 28 dX5_shop_27 rfl rfl rfl ?_
        refine gf_X5_9 g wd_713 31 dX5_shop_28 rfl ?_
        refine tr_iload_n g 1 32 dX5_shop_31 rfl rfl rfl ?_
        refine tr_iald (N := 5) g 33 rfl rfl dX5_shop_32 rfl ?_
        refine tr_goto g 63 dX5_shop_33 rfl ?_
        exact tr_iret g o dX5_shop_63
    · refine tr_bipush (v := (-2)) g 22 dX5_shop_20 rfl rfl ?_
      exact tr_iret g o dX5_shop_22
theorem ok_X5_shop {E : tn_E} {l : Launch}   (a1 : Int32) (a2 : Int32) {σ : tn_M} {r : Int32} {σ' : tn_M} (h : f_X5_shop a1 a2 σ = some (r, σ')) : tn_C E l yX5_shop cX5_shop 3 (some .int) (tn_rm 6 137) [.ref (tn_ad E 5), .int a1, .int a2] σ (tn_ie r) σ' :=
  tn_met (by decide) (Nat.le_of_ble_eq_true rfl) (fun G _ g o => b_X5_shop g o  a1 a2 σ) h
theorem yy_X5_shop : tn_Yv RX5 yX5_shop cX5_shop 3 (some .int) 2 := ⟨wd_876, wd_874, wd_875, wd_70, by decide, by decide, by decide +kernel⟩
theorem kv_X5_shop {E : tn_E} {G : tn_G} {cc : ByteArray} {own : String} {nL : Nat} {R : Room} {ρ : Type} {enc : ρ → Option Value} {pc : Nat} {lv : List (Nat × Value)} {st : List Value} {σ : tn_M} {kk : Int32 → tn_M → Option (ρ × tn_M)} {i : Nat}  {a1 : Int32} {a2 : Int32} (g : tn_Ok E G cc own nL R)  (hw : Cond.methodLink own i yX5_shop ∈ tn_T) (hroom : 7 ≤ R.frames ∧ 159 ≤ R.locals) (hW : (st.map fun v => v.category).sum ≤ 8) (n : Nat) (hd : decode cc pc = .ok (.invokevirtual i, 3)) (hn : pc + 3 = n) (k : ∀ r σ1, tn_V E G enc n lv (.int r :: st) σ1 (kk r σ1)) : tn_V E G enc pc lv (.int a2 :: .int a1 :: .ref (tn_ad E 5) :: st) σ (tn_bd (f_X5_shop a1 a2 σ) kk) :=
  tr_callV (As := [.int a1, .int a2]) (enc1 := tn_ie) g yy_X5_shop hw (ci := 5) rfl (by decide) rfl (fun r σ1 h => ok_X5_shop  a1 a2 h) ⟨rfl, rfl⟩ ⟨hroom.1, by have h2 := hroom.2; show 8 + (3 + 11) + 137 ≤ R.locals; omega⟩ rfl rfl hW n hd hn k
/-! X5_sort -/
def f_X5_sort  (a1 : Int32) (a2 : Int32) (σ : tn_M) : Option (Int32 × tn_M) :=
  tn_bd (f_X5_reads σ) fun r2 σ1 =>
  tn_bd (f_X5_in (Int32.toInt64 a1) 0 (Int32.toInt64 ((σ1.1 5 11) - 1)) σ1) fun r4 σ3 =>
  if r4 = 0 then
    some ((-2), σ3)
  else
    tn_bd (f_X5_in (Int32.toInt64 a2) 0 5 σ3) fun r6 σ5 =>
    if r6 = 0 then
      some ((-2), σ5)
    else
      tn_ck ((6 * a1) + a2) 36 <|
      some ((σ5.1 40 (tn_x ((6 * a1) + a2))), σ5)
set_option maxHeartbeats 4000000 in
set_option maxRecDepth 20000 in
theorem b_X5_sort {E : tn_E} {G : tn_G} (g : tn_Ok E G cX5_sort RX5 3 (tn_rm 5 116)) (o : tn_Om E G (some .int))  (a1 : Int32) (a2 : Int32) (σ : tn_M) : tn_V E G tn_ie 0 [(0, .ref (tn_ad E 5)), (1, .int a1), (2, .int a2)] [] σ (f_X5_sort a1 a2 σ) := by
  unfold f_X5_sort
  refine tr_aload_n g 0 1 dX5_sort_0 rfl rfl rfl ?_
  refine kv_X5_reads g wd_839 ⟨Nat.le_of_ble_eq_true rfl, Nat.le_of_ble_eq_true rfl⟩ (Nat.le_of_ble_eq_true rfl) 4 dX5_sort_1 rfl (fun r2 σ1 => ?_)
  refine tr_pop g 5 dX5_sort_4 rfl rfl ?_
  refine tr_iload_n g 1 6 dX5_sort_5 rfl rfl rfl ?_
  refine tr_i2l g 7 dX5_sort_6 rfl ?_
  refine tr_lconst (v := 0) g 8 dX5_sort_7 rfl rfl ?_
  refine tr_aload_n g 0 9 dX5_sort_8 rfl rfl rfl ?_
  refine gf_X5_11 g wd_715 12 dX5_sort_9 rfl ?_
  refine tr_iconst (v := 1) g 13 dX5_sort_12 rfl rfl ?_
  refine tr_isub g 14 dX5_sort_13 rfl ?_
  refine tr_i2l g 15 dX5_sort_14 rfl ?_
  refine kv_X5_in g wd_794 ⟨Nat.le_of_ble_eq_true rfl, Nat.le_of_ble_eq_true rfl⟩ (Nat.le_of_ble_eq_true rfl) 18 dX5_sort_15 rfl (fun r4 σ3 => ?_)
  refine tr_if_eq g 47 21 dX5_sort_18 rfl rfl ?_ ?_
  · refine tr_bipush (v := (-2)) g 49 dX5_sort_47 rfl rfl ?_
    exact tr_iret g o dX5_sort_49
  · refine tr_iload_n g 2 22 dX5_sort_21 rfl rfl rfl ?_
    refine tr_i2l g 23 dX5_sort_22 rfl ?_
    refine tr_lconst (v := 0) g 24 dX5_sort_23 rfl rfl ?_
    refine tr_ldc2 (v := 5) g wd_889 27 dX5_sort_24 rfl ?_
    refine kv_X5_in g wd_794 ⟨Nat.le_of_ble_eq_true rfl, Nat.le_of_ble_eq_true rfl⟩ (Nat.le_of_ble_eq_true rfl) 30 dX5_sort_27 rfl (fun r6 σ5 => ?_)
    refine tr_if_eq g 47 33 dX5_sort_30 rfl rfl ?_ ?_
    · refine tr_bipush (v := (-2)) g 49 dX5_sort_47 rfl rfl ?_
      exact tr_iret g o dX5_sort_49
    · refine tr_aload_n g 0 34 dX5_sort_33 rfl rfl rfl ?_
      refine gf_X5_12 g wd_716 37 dX5_sort_34 rfl ?_
      refine tr_bipush (v := 6) g 39 dX5_sort_37 rfl rfl ?_
      refine tr_iload_n g 1 40 dX5_sort_39 rfl rfl rfl ?_
      refine tr_imul g 41 dX5_sort_40 rfl ?_
      refine tr_iload_n g 2 42 dX5_sort_41 rfl rfl rfl ?_
      refine tr_iadd g 43 dX5_sort_42 rfl ?_
      refine tr_iald (N := 36) g 44 rfl rfl dX5_sort_43 rfl ?_
      refine tr_goto g 49 dX5_sort_44 rfl ?_
      exact tr_iret g o dX5_sort_49
theorem ok_X5_sort {E : tn_E} {l : Launch}   (a1 : Int32) (a2 : Int32) {σ : tn_M} {r : Int32} {σ' : tn_M} (h : f_X5_sort a1 a2 σ = some (r, σ')) : tn_C E l yX5_sort cX5_sort 3 (some .int) (tn_rm 5 116) [.ref (tn_ad E 5), .int a1, .int a2] σ (tn_ie r) σ' :=
  tn_met (by decide) (Nat.le_of_ble_eq_true rfl) (fun G _ g o => b_X5_sort g o  a1 a2 σ) h
theorem yy_X5_sort : tn_Yv RX5 yX5_sort cX5_sort 3 (some .int) 2 := ⟨wd_888, wd_886, wd_887, wd_70, by decide, by decide, by decide +kernel⟩
theorem kv_X5_sort {E : tn_E} {G : tn_G} {cc : ByteArray} {own : String} {nL : Nat} {R : Room} {ρ : Type} {enc : ρ → Option Value} {pc : Nat} {lv : List (Nat × Value)} {st : List Value} {σ : tn_M} {kk : Int32 → tn_M → Option (ρ × tn_M)} {i : Nat}  {a1 : Int32} {a2 : Int32} (g : tn_Ok E G cc own nL R)  (hw : Cond.methodLink own i yX5_sort ∈ tn_T) (hroom : 6 ≤ R.frames ∧ 138 ≤ R.locals) (hW : (st.map fun v => v.category).sum ≤ 8) (n : Nat) (hd : decode cc pc = .ok (.invokevirtual i, 3)) (hn : pc + 3 = n) (k : ∀ r σ1, tn_V E G enc n lv (.int r :: st) σ1 (kk r σ1)) : tn_V E G enc pc lv (.int a2 :: .int a1 :: .ref (tn_ad E 5) :: st) σ (tn_bd (f_X5_sort a1 a2 σ) kk) :=
  tr_callV (As := [.int a1, .int a2]) (enc1 := tn_ie) g yy_X5_sort hw (ci := 5) rfl (by decide) rfl (fun r σ1 h => ok_X5_sort  a1 a2 h) ⟨rfl, rfl⟩ ⟨hroom.1, by have h2 := hroom.2; show 8 + (3 + 11) + 116 ≤ R.locals; omega⟩ rfl rfl hW n hd hn k
/-! X5_high -/
def f_X5_high  (a0 : Int32) (σ : tn_M) : Option (Int32 × tn_M) :=
  if a0 = 0 then
    some (16, σ)
  else
    if a0 = 1 then
      some (3, σ)
    else
      if a0 = 2 then
        some (3, σ)
      else
        if a0 = 3 then
          some (999, σ)
        else
          if a0 = 4 then
            some (16, σ)
          else
            some (8, σ)
set_option maxHeartbeats 4000000 in
set_option maxRecDepth 20000 in
theorem b_X5_high {E : tn_E} {G : tn_G} (g : tn_Ok E G cX5_high RX5 1 (tn_rm 0 0)) (o : tn_Om E G (some .int))  (a0 : Int32) (σ : tn_M) : tn_V E G tn_ie 0 [(0, .int a0)] [] σ (f_X5_high a0 σ) := by
  unfold f_X5_high
  refine tr_iload_n g 0 1 dX5_high_0 rfl rfl rfl ?_
  refine tr_ite (fun h => ?_) (fun hs0 => ?_)
  · refine tr_swIn g 36 dX5_high_1 (by rw [h]; decide) (by rw [h]; decide) (by rw [h]; rfl) rfl ?_
    refine tr_bipush (v := 16) g 38 dX5_high_36 rfl rfl ?_
    exact tr_iret g o dX5_high_38
  · skip
    refine tr_ite (fun h => ?_) (fun hs1 => ?_)
    · refine tr_swIn g 39 dX5_high_1 (by rw [h]; decide) (by rw [h]; decide) (by rw [h]; rfl) rfl ?_
      refine tr_iconst (v := 3) g 40 dX5_high_39 rfl rfl ?_
      exact tr_iret g o dX5_high_40
    · skip
      refine tr_ite (fun h => ?_) (fun hs2 => ?_)
      · refine tr_swIn g 39 dX5_high_1 (by rw [h]; decide) (by rw [h]; decide) (by rw [h]; rfl) rfl ?_
        refine tr_iconst (v := 3) g 40 dX5_high_39 rfl rfl ?_
        exact tr_iret g o dX5_high_40
      · skip
        refine tr_ite (fun h => ?_) (fun hs3 => ?_)
        · refine tr_swIn g 41 dX5_high_1 (by rw [h]; decide) (by rw [h]; decide) (by rw [h]; rfl) rfl ?_
          refine tr_sipush (v := 999) g 44 dX5_high_41 rfl rfl ?_
          exact tr_iret g o dX5_high_44
        · skip
          refine tr_ite (fun h => ?_) (fun hs4 => ?_)
          · refine tr_swIn g 36 dX5_high_1 (by rw [h]; decide) (by rw [h]; decide) (by rw [h]; rfl) rfl ?_
            refine tr_bipush (v := 16) g 38 dX5_high_36 rfl rfl ?_
            exact tr_iret g o dX5_high_38
          · skip
            refine tr_swOut g 45 dX5_high_1 (tn_swd (m := 4) (by exact tn_all5 hs0 hs1 hs2 hs3 hs4)) rfl ?_
            refine tr_bipush (v := 8) g 47 dX5_high_45 rfl rfl ?_
            exact tr_iret g o dX5_high_47
theorem ok_X5_high {E : tn_E} {l : Launch}   (a0 : Int32) {σ : tn_M} {r : Int32} {σ' : tn_M} (h : f_X5_high a0 σ = some (r, σ')) : tn_C E l yX5_high cX5_high 1 (some .int) (tn_rm 0 0) [.int a0] σ (tn_ie r) σ' :=
  tn_met (by decide) (Nat.le_of_ble_eq_true rfl) (fun G _ g o => b_X5_high g o  a0 σ) h
theorem yy_X5_high : tn_Ys yX5_high cX5_high 1 (some .int) 1 := ⟨wd_897, wd_896, wd_70, by decide, by decide, by decide +kernel⟩
theorem kv_X5_high {E : tn_E} {G : tn_G} {cc : ByteArray} {own : String} {nL : Nat} {R : Room} {ρ : Type} {enc : ρ → Option Value} {pc : Nat} {lv : List (Nat × Value)} {st : List Value} {σ : tn_M} {kk : Int32 → tn_M → Option (ρ × tn_M)} {i : Nat}  {a0 : Int32} (g : tn_Ok E G cc own nL R)  (hw : Cond.methodLink own i yX5_high ∈ tn_T) (hroom : 1 ≤ R.frames ∧ 20 ≤ R.locals) (hW : (st.map fun v => v.category).sum ≤ 8) (n : Nat) (hd : decode cc pc = .ok (.invokestatic i, 3)) (hn : pc + 3 = n) (k : ∀ r σ1, tn_V E G enc n lv (.int r :: st) σ1 (kk r σ1)) : tn_V E G enc pc lv (.int a0 :: st) σ (tn_bd (f_X5_high a0 σ) kk) :=
  tr_callS (As := [.int a0]) (enc1 := tn_ie) g yy_X5_high hw (fun r σ1 h => ok_X5_high  a0 h) ⟨rfl, rfl⟩ ⟨hroom.1, by have h2 := hroom.2; show 8 + (1 + 11) + 0 ≤ R.locals; omega⟩ rfl rfl hW n hd hn k
/-! X5_set -/
def f_X5_set  (a1 : Int32) (a2 : Int32) (σ : tn_M) : Option (Int32 × tn_M) :=
  tn_bd (f_X5_in (Int32.toInt64 a1) 0 7 σ) fun r2 σ1 =>
  if r2 = 0 then
    some ((-2), σ1)
  else
    tn_bd (f_X5_high a1 σ1) fun r4 σ3 =>
    tn_bd (f_X5_in (Int32.toInt64 a2) 0 (Int32.toInt64 r4) σ3) fun r6 σ5 =>
    if r6 = 0 then
      some ((-2), σ5)
    else
      tn_ck a1 8 <|
      tn_lt (α := Int32) (σ5.1 41 (tn_x a1)) fun w7 =>
      tn_ck a1 8 <|
      tn_lt (tn_si σ5 41 (tn_x a1) a2) fun σ8 =>
      some (w7, σ8)
set_option maxHeartbeats 4000000 in
set_option maxRecDepth 20000 in
theorem b_X5_set {E : tn_E} {G : tn_G} (g : tn_Ok E G cX5_set RX5 4 (tn_rm 1 25)) (o : tn_Om E G (some .int))  (a1 : Int32) (a2 : Int32) (σ : tn_M) : tn_V E G tn_ie 0 [(0, .ref (tn_ad E 5)), (1, .int a1), (2, .int a2)] [] σ (f_X5_set a1 a2 σ) := by
  unfold f_X5_set
  refine tr_iload_n g 1 1 dX5_set_0 rfl rfl rfl ?_
  refine tr_i2l g 2 dX5_set_1 rfl ?_
  refine tr_lconst (v := 0) g 3 dX5_set_2 rfl rfl ?_
  refine tr_ldc2 (v := 7) g wd_894 6 dX5_set_3 rfl ?_
  refine kv_X5_in g wd_794 ⟨Nat.le_of_ble_eq_true rfl, Nat.le_of_ble_eq_true rfl⟩ (Nat.le_of_ble_eq_true rfl) 9 dX5_set_6 rfl (fun r2 σ1 => ?_)
  refine tr_if_eq g 26 12 dX5_set_9 rfl rfl ?_ ?_
  · refine tr_bipush (v := (-2)) g 28 dX5_set_26 rfl rfl ?_
    exact tr_iret g o dX5_set_28
  · refine tr_iload_n g 2 13 dX5_set_12 rfl rfl rfl ?_
    refine tr_i2l g 14 dX5_set_13 rfl ?_
    refine tr_lconst (v := 0) g 15 dX5_set_14 rfl rfl ?_
    refine tr_iload_n g 1 16 dX5_set_15 rfl rfl rfl ?_
    refine kv_X5_high g wd_895 ⟨Nat.le_of_ble_eq_true rfl, Nat.le_of_ble_eq_true rfl⟩ (Nat.le_of_ble_eq_true rfl) 19 dX5_set_16 rfl (fun r4 σ3 => ?_)
    refine tr_i2l g 20 dX5_set_19 rfl ?_
    refine kv_X5_in g wd_794 ⟨Nat.le_of_ble_eq_true rfl, Nat.le_of_ble_eq_true rfl⟩ (Nat.le_of_ble_eq_true rfl) 23 dX5_set_20 rfl (fun r6 σ5 => ?_)
    refine tr_if_ne g 29 26 dX5_set_23 rfl rfl ?_ ?_
    · refine tr_aload_n g 0 30 dX5_set_29 rfl rfl rfl ?_
      refine gf_X5_13 g wd_717 33 dX5_set_30 rfl ?_
      refine tr_iload_n g 1 34 dX5_set_33 rfl rfl rfl ?_
      refine tr_iald (N := 8) g 35 rfl rfl dX5_set_34 rfl ?_
      refine tr_lti (fun w7 => ?_)
      refine tr_istore_n (lv' := [(3, .int w7), (0, .ref (tn_ad E 5)), (1, .int a1), (2, .int a2)]) g 36 dX5_set_35 rfl rfl (by decide) rfl ?_
      refine tr_aload_n g 1 37 dX5_set_36 rfl rfl rfl ?_
      refine gf_X5_13 g wd_717 40 dX5_set_37 rfl ?_
      refine tr_iload_n g 2 41 dX5_set_40 rfl rfl rfl ?_
      refine tr_iload_n g 3 42 dX5_set_41 rfl rfl rfl ?_
      refine tr_iast (N := 8) g 43 rfl rfl dX5_set_42 rfl (fun σ8 => ?_)
      refine tr_iload_n g 0 44 dX5_set_43 rfl rfl rfl ?_
      exact tr_iret g o dX5_set_44
    · refine tr_bipush (v := (-2)) g 28 dX5_set_26 rfl rfl ?_
      exact tr_iret g o dX5_set_28
theorem ok_X5_set {E : tn_E} {l : Launch}   (a1 : Int32) (a2 : Int32) {σ : tn_M} {r : Int32} {σ' : tn_M} (h : f_X5_set a1 a2 σ = some (r, σ')) : tn_C E l yX5_set cX5_set 4 (some .int) (tn_rm 1 25) [.ref (tn_ad E 5), .int a1, .int a2] σ (tn_ie r) σ' :=
  tn_met (by decide) (Nat.le_of_ble_eq_true rfl) (fun G _ g o => b_X5_set g o  a1 a2 σ) h
theorem yy_X5_set : tn_Yv RX5 yX5_set cX5_set 4 (some .int) 2 := ⟨wd_893, wd_891, wd_892, wd_70, by decide, by decide, by decide +kernel⟩
theorem kv_X5_set {E : tn_E} {G : tn_G} {cc : ByteArray} {own : String} {nL : Nat} {R : Room} {ρ : Type} {enc : ρ → Option Value} {pc : Nat} {lv : List (Nat × Value)} {st : List Value} {σ : tn_M} {kk : Int32 → tn_M → Option (ρ × tn_M)} {i : Nat}  {a1 : Int32} {a2 : Int32} (g : tn_Ok E G cc own nL R)  (hw : Cond.methodLink own i yX5_set ∈ tn_T) (hroom : 2 ≤ R.frames ∧ 48 ≤ R.locals) (hW : (st.map fun v => v.category).sum ≤ 8) (n : Nat) (hd : decode cc pc = .ok (.invokevirtual i, 3)) (hn : pc + 3 = n) (k : ∀ r σ1, tn_V E G enc n lv (.int r :: st) σ1 (kk r σ1)) : tn_V E G enc pc lv (.int a2 :: .int a1 :: .ref (tn_ad E 5) :: st) σ (tn_bd (f_X5_set a1 a2 σ) kk) :=
  tr_callV (As := [.int a1, .int a2]) (enc1 := tn_ie) g yy_X5_set hw (ci := 5) rfl (by decide) rfl (fun r σ1 h => ok_X5_set  a1 a2 h) ⟨rfl, rfl⟩ ⟨hroom.1, by have h2 := hroom.2; show 8 + (4 + 11) + 25 ≤ R.locals; omega⟩ rfl rfl hW n hd hn k
/-! X5_hours -/
def f_X5_hours  (a1 : Int32) (a2 : Int32) (σ : tn_M) : Option (Int32 × tn_M) :=
  tn_bd (f_X5_in (Int32.toInt64 a1) 0 4 σ) fun r2 σ1 =>
  if r2 = 0 then
    some ((-2), σ1)
  else
    tn_bd (f_X5_in (Int32.toInt64 a2) 0 3 σ1) fun r4 σ3 =>
    if r4 = 0 then
      some ((-2), σ3)
    else
      tn_ck a1 5 <|
      tn_lt (α := Int32) (σ3.1 42 (tn_x a1)) fun w5 =>
      tn_ck a1 5 <|
      tn_lt (tn_si σ3 42 (tn_x a1) a2) fun σ6 =>
      some (w5, σ6)
set_option maxHeartbeats 4000000 in
set_option maxRecDepth 20000 in
theorem b_X5_hours {E : tn_E} {G : tn_G} (g : tn_Ok E G cX5_hours RX5 4 (tn_rm 1 25)) (o : tn_Om E G (some .int))  (a1 : Int32) (a2 : Int32) (σ : tn_M) : tn_V E G tn_ie 0 [(0, .ref (tn_ad E 5)), (1, .int a1), (2, .int a2)] [] σ (f_X5_hours a1 a2 σ) := by
  unfold f_X5_hours
  refine tr_iload_n g 1 1 dX5_hours_0 rfl rfl rfl ?_
  refine tr_i2l g 2 dX5_hours_1 rfl ?_
  refine tr_lconst (v := 0) g 3 dX5_hours_2 rfl rfl ?_
  refine tr_ldc2 (v := 4) g wd_902 6 dX5_hours_3 rfl ?_
  refine kv_X5_in g wd_794 ⟨Nat.le_of_ble_eq_true rfl, Nat.le_of_ble_eq_true rfl⟩ (Nat.le_of_ble_eq_true rfl) 9 dX5_hours_6 rfl (fun r2 σ1 => ?_)
  refine tr_if_eq g 24 12 dX5_hours_9 rfl rfl ?_ ?_
  · refine tr_bipush (v := (-2)) g 26 dX5_hours_24 rfl rfl ?_
    exact tr_iret g o dX5_hours_26
  · refine tr_iload_n g 2 13 dX5_hours_12 rfl rfl rfl ?_
    refine tr_i2l g 14 dX5_hours_13 rfl ?_
    refine tr_lconst (v := 0) g 15 dX5_hours_14 rfl rfl ?_
    refine tr_ldc2 (v := 3) g wd_793 18 dX5_hours_15 rfl ?_
    refine kv_X5_in g wd_794 ⟨Nat.le_of_ble_eq_true rfl, Nat.le_of_ble_eq_true rfl⟩ (Nat.le_of_ble_eq_true rfl) 21 dX5_hours_18 rfl (fun r4 σ3 => ?_)
    refine tr_if_ne g 27 24 dX5_hours_21 rfl rfl ?_ ?_
    · refine tr_aload_n g 0 28 dX5_hours_27 rfl rfl rfl ?_
      refine gf_X5_14 g wd_718 31 dX5_hours_28 rfl ?_
      refine tr_iload_n g 1 32 dX5_hours_31 rfl rfl rfl ?_
      refine tr_iald (N := 5) g 33 rfl rfl dX5_hours_32 rfl ?_
      refine tr_lti (fun w5 => ?_)
      refine tr_istore_n (lv' := [(3, .int w5), (0, .ref (tn_ad E 5)), (1, .int a1), (2, .int a2)]) g 34 dX5_hours_33 rfl rfl (by decide) rfl ?_
      refine tr_aload_n g 1 35 dX5_hours_34 rfl rfl rfl ?_
      refine gf_X5_14 g wd_718 38 dX5_hours_35 rfl ?_
      refine tr_iload_n g 2 39 dX5_hours_38 rfl rfl rfl ?_
      refine tr_iload_n g 3 40 dX5_hours_39 rfl rfl rfl ?_
      refine tr_iast (N := 5) g 41 rfl rfl dX5_hours_40 rfl (fun σ6 => ?_)
      refine tr_iload_n g 0 42 dX5_hours_41 rfl rfl rfl ?_
      exact tr_iret g o dX5_hours_42
    · refine tr_bipush (v := (-2)) g 26 dX5_hours_24 rfl rfl ?_
      exact tr_iret g o dX5_hours_26
theorem ok_X5_hours {E : tn_E} {l : Launch}   (a1 : Int32) (a2 : Int32) {σ : tn_M} {r : Int32} {σ' : tn_M} (h : f_X5_hours a1 a2 σ = some (r, σ')) : tn_C E l yX5_hours cX5_hours 4 (some .int) (tn_rm 1 25) [.ref (tn_ad E 5), .int a1, .int a2] σ (tn_ie r) σ' :=
  tn_met (by decide) (Nat.le_of_ble_eq_true rfl) (fun G _ g o => b_X5_hours g o  a1 a2 σ) h
theorem yy_X5_hours : tn_Yv RX5 yX5_hours cX5_hours 4 (some .int) 2 := ⟨wd_901, wd_899, wd_900, wd_70, by decide, by decide, by decide +kernel⟩
theorem kv_X5_hours {E : tn_E} {G : tn_G} {cc : ByteArray} {own : String} {nL : Nat} {R : Room} {ρ : Type} {enc : ρ → Option Value} {pc : Nat} {lv : List (Nat × Value)} {st : List Value} {σ : tn_M} {kk : Int32 → tn_M → Option (ρ × tn_M)} {i : Nat}  {a1 : Int32} {a2 : Int32} (g : tn_Ok E G cc own nL R)  (hw : Cond.methodLink own i yX5_hours ∈ tn_T) (hroom : 2 ≤ R.frames ∧ 48 ≤ R.locals) (hW : (st.map fun v => v.category).sum ≤ 8) (n : Nat) (hd : decode cc pc = .ok (.invokevirtual i, 3)) (hn : pc + 3 = n) (k : ∀ r σ1, tn_V E G enc n lv (.int r :: st) σ1 (kk r σ1)) : tn_V E G enc pc lv (.int a2 :: .int a1 :: .ref (tn_ad E 5) :: st) σ (tn_bd (f_X5_hours a1 a2 σ) kk) :=
  tr_callV (As := [.int a1, .int a2]) (enc1 := tn_ie) g yy_X5_hours hw (ci := 5) rfl (by decide) rfl (fun r σ1 h => ok_X5_hours  a1 a2 h) ⟨rfl, rfl⟩ ⟨hroom.1, by have h2 := hroom.2; show 8 + (4 + 11) + 25 ≤ R.locals; omega⟩ rfl rfl hW n hd hn k
/-! X5_read -/
def F_X5_read_27  : Nat → Int32 → Int32 → tn_M → Option (Int32 × tn_M)
  | 0, _, _, _ => none
  | tn_n + 1, x1, x2, σ => 
    tn_ck x1 4 <|
    if (σ.1 34 (tn_x x1)) ≤ x2 then
      some (x2, σ)
    else
      tn_ck ((60 * x1) + x2) 240 <|
      tn_bd (f_X5_hours x2 (σ.1 35 (tn_x ((60 * x1) + x2))) σ) fun r2 σ1 =>
      if r2 < 0 then
        some (x2, σ1)
      else
        F_X5_read_27 tn_n x1 (x2 + 1) σ1
def f_X5_read  (a1 : Int32) (σ : tn_M) : Option (Int32 × tn_M) :=
  tn_bd (f_X5_isSheet a1 σ) fun r2 σ1 =>
  if r2 = 0 then
    some ((-2), σ1)
  else
    tn_ck a1 4 <|
    if 0 ≤ (σ1.1 33 (tn_x a1)) then
      F_X5_read_27 tn_fuel a1 0 σ1
    else
      tn_bd (f_X5_met 1 σ1) fun r4 σ3 =>
      some (r4, σ3)
set_option maxHeartbeats 4000000 in
set_option maxRecDepth 20000 in
theorem b_X5_read_27 {E : tn_E} {G : tn_G} (g : tn_Ok E G cX5_read RX5 3 (tn_rm 2 48)) (o : tn_Om E G (some .int))  : ∀ (n : Nat) (x1 : Int32) (x2 : Int32) (σ : tn_M), tn_V E G tn_ie 27 [(0, .ref (tn_ad E 5)), (1, .int x1), (2, .int x2)] [] σ (F_X5_read_27 n x1 x2 σ) := by
  intro n
  induction n with
  | zero => intros; exact tr_none
  | succ tn_n ih =>
    intro x1 x2 σ
    rw [F_X5_read_27]
    refine tr_iload_n g 2 28 dX5_read_27 rfl rfl rfl ?_
    refine tr_aload_n g 0 29 dX5_read_28 rfl rfl rfl ?_
    refine gf_X5_1 g wd_705 32 dX5_read_29 rfl ?_
    refine tr_iload_n g 1 33 dX5_read_32 rfl rfl rfl ?_
    refine tr_iald (N := 4) g 34 rfl rfl dX5_read_33 rfl ?_
    refine tr_icmp_ge g 62 37 dX5_read_34 rfl rfl ?_ ?_
    · refine tr_iload_n g 2 63 dX5_read_62 rfl rfl rfl ?_
      exact tr_iret g o dX5_read_63
    · refine tr_aload_n g 0 38 dX5_read_37 rfl rfl rfl ?_
      refine tr_iload_n g 2 39 dX5_read_38 rfl rfl rfl ?_
      refine tr_aload_n g 0 40 dX5_read_39 rfl rfl rfl ?_
      refine gf_X5_2 g wd_706 43 dX5_read_40 rfl ?_
      refine tr_bipush (v := 60) g 45 dX5_read_43 rfl rfl ?_
      refine tr_iload_n g 1 46 dX5_read_45 rfl rfl rfl ?_
      refine tr_imul g 47 dX5_read_46 rfl ?_
      refine tr_iload_n g 2 48 dX5_read_47 rfl rfl rfl ?_
      refine tr_iadd g 49 dX5_read_48 rfl ?_
      refine tr_iald (N := 240) g 50 rfl rfl dX5_read_49 rfl ?_
      refine kv_X5_hours g wd_907 ⟨Nat.le_of_ble_eq_true rfl, Nat.le_of_ble_eq_true rfl⟩ (Nat.le_of_ble_eq_true rfl) 53 dX5_read_50 rfl (fun r2 σ1 => ?_)
      refine tr_if_lt g 62 56 dX5_read_53 rfl rfl ?_ ?_
      · refine tr_iload_n g 2 63 dX5_read_62 rfl rfl rfl ?_
        exact tr_iret g o dX5_read_63
      · refine tr_iinc (lv' := [(2, .int (x2 + 1)), (0, .ref (tn_ad E 5)), (1, .int x1)]) (x := (x2 + 1)) g 2 59 dX5_read_56 rfl rfl rfl (by decide) rfl ?_
        refine tr_goto g 27 dX5_read_59 rfl ?_
        refine tr_sub [1, 2, 0] (lv' := [(0, .ref (tn_ad E 5)), (1, .int x1), (2, .int (x2 + 1))]) rfl ?_
        exact ih _ _ _
set_option maxHeartbeats 4000000 in
set_option maxRecDepth 20000 in
theorem b_X5_read {E : tn_E} {G : tn_G} (g : tn_Ok E G cX5_read RX5 3 (tn_rm 2 48)) (o : tn_Om E G (some .int))  (a1 : Int32) (σ : tn_M) : tn_V E G tn_ie 0 [(0, .ref (tn_ad E 5)), (1, .int a1)] [] σ (f_X5_read a1 σ) := by
  unfold f_X5_read
  refine tr_iload_n g 1 1 dX5_read_0 rfl rfl rfl ?_
  refine kv_X5_isSheet g wd_790 ⟨Nat.le_of_ble_eq_true rfl, Nat.le_of_ble_eq_true rfl⟩ (Nat.le_of_ble_eq_true rfl) 4 dX5_read_1 rfl (fun r2 σ1 => ?_)
  refine tr_if_ne g 10 7 dX5_read_4 rfl rfl ?_ ?_
  · refine tr_aload_n g 0 11 dX5_read_10 rfl rfl rfl ?_
    refine gf_X5_0 g wd_704 14 dX5_read_11 rfl ?_
    refine tr_iload_n g 1 15 dX5_read_14 rfl rfl rfl ?_
    refine tr_iald (N := 4) g 16 rfl rfl dX5_read_15 rfl ?_
    refine tr_if_ge g 25 19 dX5_read_16 rfl rfl ?_ ?_
    · refine tr_iconst (v := 0) g 26 dX5_read_25 rfl rfl ?_
      refine tr_istore_n (lv' := [(2, .int 0), (0, .ref (tn_ad E 5)), (1, .int a1)]) g 27 dX5_read_26 rfl rfl (by decide) rfl ?_
      refine tr_sub [1, 2, 0] (lv' := [(0, .ref (tn_ad E 5)), (1, .int a1), (2, .int 0)]) rfl ?_
      exact b_X5_read_27 g o  tn_fuel _ _ _
    · refine tr_aload_n g 0 20 dX5_read_19 rfl rfl rfl ?_
      refine tr_iconst (v := 1) g 21 dX5_read_20 rfl rfl ?_
      refine kv_X5_met g wd_798 ⟨Nat.le_of_ble_eq_true rfl, Nat.le_of_ble_eq_true rfl⟩ (Nat.le_of_ble_eq_true rfl) 24 dX5_read_21 rfl (fun r4 σ3 => ?_)
      exact tr_iret g o dX5_read_24
  · refine tr_bipush (v := (-2)) g 9 dX5_read_7 rfl rfl ?_
    exact tr_iret g o dX5_read_9
theorem ok_X5_read {E : tn_E} {l : Launch}   (a1 : Int32) {σ : tn_M} {r : Int32} {σ' : tn_M} (h : f_X5_read a1 σ = some (r, σ')) : tn_C E l yX5_read cX5_read 3 (some .int) (tn_rm 2 48) [.ref (tn_ad E 5), .int a1] σ (tn_ie r) σ' :=
  tn_met (by decide) (Nat.le_of_ble_eq_true rfl) (fun G _ g o => b_X5_read g o  a1 σ) h
theorem yy_X5_read : tn_Yv RX5 yX5_read cX5_read 3 (some .int) 1 := ⟨wd_906, wd_904, wd_905, wd_70, by decide, by decide, by decide +kernel⟩
theorem kv_X5_read {E : tn_E} {G : tn_G} {cc : ByteArray} {own : String} {nL : Nat} {R : Room} {ρ : Type} {enc : ρ → Option Value} {pc : Nat} {lv : List (Nat × Value)} {st : List Value} {σ : tn_M} {kk : Int32 → tn_M → Option (ρ × tn_M)} {i : Nat}  {a1 : Int32} (g : tn_Ok E G cc own nL R)  (hw : Cond.methodLink own i yX5_read ∈ tn_T) (hroom : 3 ≤ R.frames ∧ 70 ≤ R.locals) (hW : (st.map fun v => v.category).sum ≤ 8) (n : Nat) (hd : decode cc pc = .ok (.invokevirtual i, 3)) (hn : pc + 3 = n) (k : ∀ r σ1, tn_V E G enc n lv (.int r :: st) σ1 (kk r σ1)) : tn_V E G enc pc lv (.int a1 :: .ref (tn_ad E 5) :: st) σ (tn_bd (f_X5_read a1 σ) kk) :=
  tr_callV (As := [.int a1]) (enc1 := tn_ie) g yy_X5_read hw (ci := 5) rfl (by decide) rfl (fun r σ1 h => ok_X5_read  a1 h) ⟨rfl, rfl⟩ ⟨hroom.1, by have h2 := hroom.2; show 8 + (3 + 11) + 48 ≤ R.locals; omega⟩ rfl rfl hW n hd hn k
/-! X5_tries -/
def F_X5_tries_69   (σ : tn_M) : Option (Unit × tn_M) :=
  tn_lt (tn_si σ 5 18 1) fun σ1 =>
  tn_lt (tn_si σ1 5 19 3) fun σ2 =>
  tn_lt (tn_si σ2 5 20 (-1)) fun σ3 =>
  some ((), σ3)
def F_X5_tries_44  : Nat → Int32 → tn_M → Option (Unit × tn_M)
  | 0, _, _ => none
  | tn_n + 1, x1, σ => 
    if 4 ≤ x1 then
      F_X5_tries_69 σ
    else
      tn_ck (4 + x1) 8 <|
      tn_ck x1 4 <|
      tn_lt (tn_si σ 45 (tn_x x1) (σ.1 41 (tn_x (4 + x1)))) fun σ1 =>
      F_X5_tries_44 tn_n (x1 + 1) σ1
def F_X5_tries_42   (σ : tn_M) : Option (Unit × tn_M) :=
  F_X5_tries_44 tn_fuel 1 σ
def F_X5_tries_7  : Nat → Int32 → tn_M → Option (Unit × tn_M)
  | 0, _, _ => none
  | tn_n + 1, x1, σ => 
    if 5 ≤ x1 then
      F_X5_tries_42 σ
    else
      tn_ck x1 5 <|
      tn_ck x1 5 <|
      tn_lt (tn_si σ 44 (tn_x x1) (σ.1 42 (tn_x x1))) fun σ1 =>
      tn_ck x1 5 <|
      tn_ck x1 5 <|
      tn_lt (tn_si σ1 46 (tn_x x1) (σ1.1 39 (tn_x x1))) fun σ2 =>
      F_X5_tries_7 tn_n (x1 + 1) σ2
def f_X5_tries   (σ : tn_M) : Option (Unit × tn_M) :=
  tn_bd (f_X5_reads σ) fun r2 σ1 =>
  F_X5_tries_7 tn_fuel 0 σ1
set_option maxHeartbeats 4000000 in
set_option maxRecDepth 20000 in
theorem b_X5_tries_69 {E : tn_E} {G : tn_G} (g : tn_Ok E G cX5_tries RX5 2 (tn_rm 5 116)) (o : tn_Om E G none)   (σ : tn_M) : tn_V E G tn_ve 69 [(0, .ref (tn_ad E 5))] [] σ (F_X5_tries_69 σ) := by
  unfold F_X5_tries_69
  refine tr_aload_n g 0 70 dX5_tries_69 rfl rfl rfl ?_
  refine tr_iconst (v := 1) g 71 dX5_tries_70 rfl rfl ?_
  refine pf_X5_18 g wd_722 rfl rfl 74 dX5_tries_71 rfl (fun σ1 => ?_)
  refine tr_aload_n g 0 75 dX5_tries_74 rfl rfl rfl ?_
  refine tr_iconst (v := 3) g 76 dX5_tries_75 rfl rfl ?_
  refine pf_X5_19 g wd_723 79 dX5_tries_76 rfl (fun σ2 => ?_)
  refine tr_aload_n g 0 80 dX5_tries_79 rfl rfl rfl ?_
  refine tr_iconst (v := (-1)) g 81 dX5_tries_80 rfl rfl ?_
  refine pf_X5_20 g wd_724 84 dX5_tries_81 rfl (fun σ3 => ?_)
  exact tr_vret g o dX5_tries_84
set_option maxHeartbeats 4000000 in
set_option maxRecDepth 20000 in
theorem b_X5_tries_44 {E : tn_E} {G : tn_G} (g : tn_Ok E G cX5_tries RX5 2 (tn_rm 5 116)) (o : tn_Om E G none)  : ∀ (n : Nat) (x1 : Int32) (σ : tn_M), tn_V E G tn_ve 44 [(0, .ref (tn_ad E 5)), (1, .int x1)] [] σ (F_X5_tries_44 n x1 σ) := by
  intro n
  induction n with
  | zero => intros; exact tr_none
  | succ tn_n ih =>
    intro x1 σ
    rw [F_X5_tries_44]
    refine tr_iload_n g 1 45 dX5_tries_44 rfl rfl rfl ?_
    refine tr_iconst (v := 4) g 46 dX5_tries_45 rfl rfl ?_
    refine tr_icmp_ge g 69 49 dX5_tries_46 rfl rfl ?_ ?_
    · refine tr_sub [0] (lv' := [(0, .ref (tn_ad E 5))]) rfl ?_
      exact b_X5_tries_69 g o  _
    · refine tr_aload_n g 0 50 dX5_tries_49 rfl rfl rfl ?_
      refine gf_X5_17 g wd_721 53 dX5_tries_50 rfl ?_
      refine tr_iload_n g 1 54 dX5_tries_53 rfl rfl rfl ?_
      refine tr_aload_n g 0 55 dX5_tries_54 rfl rfl rfl ?_
      refine gf_X5_13 g wd_717 58 dX5_tries_55 rfl ?_
      refine tr_iconst (v := 4) g 59 dX5_tries_58 rfl rfl ?_
      refine tr_iload_n g 1 60 dX5_tries_59 rfl rfl rfl ?_
      refine tr_iadd g 61 dX5_tries_60 rfl ?_
      refine tr_iald (N := 8) g 62 rfl rfl dX5_tries_61 rfl ?_
      refine tr_iast (N := 4) g 63 rfl rfl dX5_tries_62 rfl (fun σ1 => ?_)
      refine tr_iinc (lv' := [(1, .int (x1 + 1)), (0, .ref (tn_ad E 5))]) (x := (x1 + 1)) g 1 66 dX5_tries_63 rfl rfl rfl (by decide) rfl ?_
      refine tr_goto g 44 dX5_tries_66 rfl ?_
      refine tr_sub [1, 0] (lv' := [(0, .ref (tn_ad E 5)), (1, .int (x1 + 1))]) rfl ?_
      exact ih _ _
set_option maxHeartbeats 4000000 in
set_option maxRecDepth 20000 in
theorem b_X5_tries_42 {E : tn_E} {G : tn_G} (g : tn_Ok E G cX5_tries RX5 2 (tn_rm 5 116)) (o : tn_Om E G none)   (σ : tn_M) : tn_V E G tn_ve 42 [(0, .ref (tn_ad E 5))] [] σ (F_X5_tries_42 σ) := by
  unfold F_X5_tries_42
  refine tr_iconst (v := 1) g 43 dX5_tries_42 rfl rfl ?_
  refine tr_istore_n (lv' := [(1, .int 1), (0, .ref (tn_ad E 5))]) g 44 dX5_tries_43 rfl rfl (by decide) rfl ?_
  refine tr_sub [1, 0] (lv' := [(0, .ref (tn_ad E 5)), (1, .int 1)]) rfl ?_
  exact b_X5_tries_44 g o  tn_fuel _ _
set_option maxHeartbeats 4000000 in
set_option maxRecDepth 20000 in
theorem b_X5_tries_7 {E : tn_E} {G : tn_G} (g : tn_Ok E G cX5_tries RX5 2 (tn_rm 5 116)) (o : tn_Om E G none)  : ∀ (n : Nat) (x1 : Int32) (σ : tn_M), tn_V E G tn_ve 7 [(0, .ref (tn_ad E 5)), (1, .int x1)] [] σ (F_X5_tries_7 n x1 σ) := by
  intro n
  induction n with
  | zero => intros; exact tr_none
  | succ tn_n ih =>
    intro x1 σ
    rw [F_X5_tries_7]
    refine tr_iload_n g 1 8 dX5_tries_7 rfl rfl rfl ?_
    refine tr_iconst (v := 5) g 9 dX5_tries_8 rfl rfl ?_
    refine tr_icmp_ge g 42 12 dX5_tries_9 rfl rfl ?_ ?_
    · refine tr_sub [0] (lv' := [(0, .ref (tn_ad E 5))]) rfl ?_
      exact b_X5_tries_42 g o  _
    · refine tr_aload_n g 0 13 dX5_tries_12 rfl rfl rfl ?_
      refine gf_X5_16 g wd_720 16 dX5_tries_13 rfl ?_
      refine tr_iload_n g 1 17 dX5_tries_16 rfl rfl rfl ?_
      refine tr_aload_n g 0 18 dX5_tries_17 rfl rfl rfl ?_
      refine gf_X5_14 g wd_718 21 dX5_tries_18 rfl ?_
      refine tr_iload_n g 1 22 dX5_tries_21 rfl rfl rfl ?_
      refine tr_iald (N := 5) g 23 rfl rfl dX5_tries_22 rfl ?_
      refine tr_iast (N := 5) g 24 rfl rfl dX5_tries_23 rfl (fun σ1 => ?_)
      refine tr_aload_n g 0 25 dX5_tries_24 rfl rfl rfl ?_
      refine gf_X5_21 g wd_725 28 dX5_tries_25 rfl ?_
      refine tr_iload_n g 1 29 dX5_tries_28 rfl rfl rfl ?_
      refine tr_aload_n g 0 30 dX5_tries_29 rfl rfl rfl ?_
      refine gf_X5_10 g wd_714 33 dX5_tries_30 rfl ?_
      refine tr_iload_n g 1 34 dX5_tries_33 rfl rfl rfl ?_
      refine tr_iald (N := 5) g 35 rfl rfl dX5_tries_34 rfl ?_
      refine tr_iast (N := 5) g 36 rfl rfl dX5_tries_35 rfl (fun σ2 => ?_)
      refine tr_iinc (lv' := [(1, .int (x1 + 1)), (0, .ref (tn_ad E 5))]) (x := (x1 + 1)) g 1 39 dX5_tries_36 rfl rfl rfl (by decide) rfl ?_
      refine tr_goto g 7 dX5_tries_39 rfl ?_
      refine tr_sub [1, 0] (lv' := [(0, .ref (tn_ad E 5)), (1, .int (x1 + 1))]) rfl ?_
      exact ih _ _
set_option maxHeartbeats 4000000 in
set_option maxRecDepth 20000 in
theorem b_X5_tries {E : tn_E} {G : tn_G} (g : tn_Ok E G cX5_tries RX5 2 (tn_rm 5 116)) (o : tn_Om E G none)   (σ : tn_M) : tn_V E G tn_ve 0 [(0, .ref (tn_ad E 5))] [] σ (f_X5_tries σ) := by
  unfold f_X5_tries
  refine tr_aload_n g 0 1 dX5_tries_0 rfl rfl rfl ?_
  refine kv_X5_reads g wd_839 ⟨Nat.le_of_ble_eq_true rfl, Nat.le_of_ble_eq_true rfl⟩ (Nat.le_of_ble_eq_true rfl) 4 dX5_tries_1 rfl (fun r2 σ1 => ?_)
  refine tr_pop g 5 dX5_tries_4 rfl rfl ?_
  refine tr_iconst (v := 0) g 6 dX5_tries_5 rfl rfl ?_
  refine tr_istore_n (lv' := [(1, .int 0), (0, .ref (tn_ad E 5))]) g 7 dX5_tries_6 rfl rfl (by decide) rfl ?_
  refine tr_sub [1, 0] (lv' := [(0, .ref (tn_ad E 5)), (1, .int 0)]) rfl ?_
  exact b_X5_tries_7 g o  tn_fuel _ _
theorem ok_X5_tries {E : tn_E} {l : Launch}    {σ : tn_M} {r : Unit} {σ' : tn_M} (h : f_X5_tries  σ = some (r, σ')) : tn_C E l yX5_tries cX5_tries 2 none (tn_rm 5 116) [.ref (tn_ad E 5)] σ (tn_ve r) σ' :=
  tn_met (by decide) (Nat.le_of_ble_eq_true rfl) (fun G _ g o => b_X5_tries g o   σ) h
theorem yy_X5_tries : tn_Yv RX5 yX5_tries cX5_tries 2 none 0 := ⟨wd_915, wd_914, wd_37, wd_70, by decide, by decide, by decide +kernel⟩
theorem kv_X5_tries {E : tn_E} {G : tn_G} {cc : ByteArray} {own : String} {nL : Nat} {R : Room} {ρ : Type} {enc : ρ → Option Value} {pc : Nat} {lv : List (Nat × Value)} {st : List Value} {σ : tn_M} {kk : Unit → tn_M → Option (ρ × tn_M)} {i : Nat}   (g : tn_Ok E G cc own nL R)  (hw : Cond.methodLink own i yX5_tries ∈ tn_T) (hroom : 6 ≤ R.frames ∧ 137 ≤ R.locals) (hW : (st.map fun v => v.category).sum ≤ 8) (n : Nat) (hd : decode cc pc = .ok (.invokevirtual i, 3)) (hn : pc + 3 = n) (k : ∀ r σ1, tn_V E G enc n lv (st) σ1 (kk r σ1)) : tn_V E G enc pc lv (.ref (tn_ad E 5) :: st) σ (tn_bd (f_X5_tries  σ) kk) :=
  tr_callV (As := []) (enc1 := tn_ve) g yy_X5_tries hw (ci := 5) rfl (by decide) rfl (fun r σ1 h => ok_X5_tries   h) ⟨rfl, rfl⟩ ⟨hroom.1, by have h2 := hroom.2; show 8 + (2 + 11) + 116 ≤ R.locals; omega⟩ rfl rfl hW n hd hn k
/-! X5_openIn -/
def F_X5_openIn_4  : Nat → Int32 → Int32 → Int32 → tn_M → Option (Int32 × tn_M)
  | 0, _, _, _, _ => none
  | tn_n + 1, x1, x2, x3, σ => 
    if (σ.1 5 8) ≤ x3 then
      some (x2, σ)
    else
      tn_ck x3 5 <|
      tn_lt (α := Int32) (if (σ.1 44 (tn_x x3)) < x1 then 0 else (1 <<< (x3 &&& 31))) fun v1 =>
      F_X5_openIn_4 tn_n x1 (x2 ||| v1) (x3 + 1) σ
def f_X5_openIn  (a1 : Int32) (σ : tn_M) : Option (Int32 × tn_M) :=
  F_X5_openIn_4 tn_fuel a1 0 0 σ
set_option maxHeartbeats 4000000 in
set_option maxRecDepth 20000 in
theorem b_X5_openIn_4 {E : tn_E} {G : tn_G} (g : tn_Ok E G cX5_openIn RX5 4 (tn_rm 0 0)) (o : tn_Om E G (some .int))  : ∀ (n : Nat) (x1 : Int32) (x2 : Int32) (x3 : Int32) (σ : tn_M), tn_V E G tn_ie 4 [(0, .ref (tn_ad E 5)), (1, .int x1), (2, .int x2), (3, .int x3)] [] σ (F_X5_openIn_4 n x1 x2 x3 σ) := by
  intro n
  induction n with
  | zero => intros; exact tr_none
  | succ tn_n ih =>
    intro x1 x2 x3 σ
    rw [F_X5_openIn_4]
    refine tr_iload_n g 3 5 dX5_openIn_4 rfl rfl rfl ?_
    refine tr_aload_n g 0 6 dX5_openIn_5 rfl rfl rfl ?_
    refine gf_X5_8 g wd_712 9 dX5_openIn_6 rfl ?_
    refine tr_icmp_ge g 38 12 dX5_openIn_9 rfl rfl ?_ ?_
    · refine tr_iload_n g 2 39 dX5_openIn_38 rfl rfl rfl ?_
      exact tr_iret g o dX5_openIn_39
    · refine tr_iload_n g 2 13 dX5_openIn_12 rfl rfl rfl ?_
      refine tr_aload_n g 0 14 dX5_openIn_13 rfl rfl rfl ?_
      refine gf_X5_16 g wd_720 17 dX5_openIn_14 rfl ?_
      refine tr_iload_n g 3 18 dX5_openIn_17 rfl rfl rfl ?_
      refine tr_iald (N := 5) g 19 rfl rfl dX5_openIn_18 rfl ?_
      refine tr_iload_n g 1 20 dX5_openIn_19 rfl rfl rfl ?_
      refine tr_icmp_ltD (inj := fun z => Value.int z) g 30 29 23 dX5_openIn_20 rfl rfl (fun rs hj => ?_) (fun rs hj => ?_) (fun v1 => ?_)
      · refine tr_iconst (v := 0) g 30 dX5_openIn_29 rfl rfl ?_
        exact hj
      · refine tr_iconst (v := 1) g 24 dX5_openIn_23 rfl rfl ?_
        refine tr_iload_n g 3 25 dX5_openIn_24 rfl rfl rfl ?_
        refine tr_ishl g 26 dX5_openIn_25 rfl ?_
        refine tr_goto g 30 dX5_openIn_26 rfl ?_
        exact hj
      · refine tr_ior g 31 dX5_openIn_30 rfl ?_
        refine tr_istore_n (lv' := [(2, .int (x2 ||| v1)), (0, .ref (tn_ad E 5)), (1, .int x1), (3, .int x3)]) g 32 dX5_openIn_31 rfl rfl (by decide) rfl ?_
        refine tr_iinc (lv' := [(3, .int (x3 + 1)), (2, .int (x2 ||| v1)), (0, .ref (tn_ad E 5)), (1, .int x1)]) (x := (x3 + 1)) g 3 35 dX5_openIn_32 rfl rfl rfl (by decide) rfl ?_
        refine tr_goto g 4 dX5_openIn_35 rfl ?_
        refine tr_sub [2, 3, 1, 0] (lv' := [(0, .ref (tn_ad E 5)), (1, .int x1), (2, .int (x2 ||| v1)), (3, .int (x3 + 1))]) rfl ?_
        exact ih _ _ _ _
set_option maxHeartbeats 4000000 in
set_option maxRecDepth 20000 in
theorem b_X5_openIn {E : tn_E} {G : tn_G} (g : tn_Ok E G cX5_openIn RX5 4 (tn_rm 0 0)) (o : tn_Om E G (some .int))  (a1 : Int32) (σ : tn_M) : tn_V E G tn_ie 0 [(0, .ref (tn_ad E 5)), (1, .int a1)] [] σ (f_X5_openIn a1 σ) := by
  unfold f_X5_openIn
  refine tr_iconst (v := 0) g 1 dX5_openIn_0 rfl rfl ?_
  refine tr_istore_n (lv' := [(2, .int 0), (0, .ref (tn_ad E 5)), (1, .int a1)]) g 2 dX5_openIn_1 rfl rfl (by decide) rfl ?_
  refine tr_iconst (v := 0) g 3 dX5_openIn_2 rfl rfl ?_
  refine tr_istore_n (lv' := [(3, .int 0), (2, .int 0), (0, .ref (tn_ad E 5)), (1, .int a1)]) g 4 dX5_openIn_3 rfl rfl (by decide) rfl ?_
  refine tr_sub [2, 3, 1, 0] (lv' := [(0, .ref (tn_ad E 5)), (1, .int a1), (2, .int 0), (3, .int 0)]) rfl ?_
  exact b_X5_openIn_4 g o  tn_fuel _ _ _ _
theorem ok_X5_openIn {E : tn_E} {l : Launch}   (a1 : Int32) {σ : tn_M} {r : Int32} {σ' : tn_M} (h : f_X5_openIn a1 σ = some (r, σ')) : tn_C E l yX5_openIn cX5_openIn 4 (some .int) (tn_rm 0 0) [.ref (tn_ad E 5), .int a1] σ (tn_ie r) σ' :=
  tn_met (by decide) (Nat.le_of_ble_eq_true rfl) (fun G _ g o => b_X5_openIn g o  a1 σ) h
theorem yy_X5_openIn : tn_Yv RX5 yX5_openIn cX5_openIn 4 (some .int) 1 := ⟨wd_919, wd_918, wd_38, wd_70, by decide, by decide, by decide +kernel⟩
theorem kv_X5_openIn {E : tn_E} {G : tn_G} {cc : ByteArray} {own : String} {nL : Nat} {R : Room} {ρ : Type} {enc : ρ → Option Value} {pc : Nat} {lv : List (Nat × Value)} {st : List Value} {σ : tn_M} {kk : Int32 → tn_M → Option (ρ × tn_M)} {i : Nat}  {a1 : Int32} (g : tn_Ok E G cc own nL R)  (hw : Cond.methodLink own i yX5_openIn ∈ tn_T) (hroom : 1 ≤ R.frames ∧ 23 ≤ R.locals) (hW : (st.map fun v => v.category).sum ≤ 8) (n : Nat) (hd : decode cc pc = .ok (.invokevirtual i, 3)) (hn : pc + 3 = n) (k : ∀ r σ1, tn_V E G enc n lv (.int r :: st) σ1 (kk r σ1)) : tn_V E G enc pc lv (.int a1 :: .ref (tn_ad E 5) :: st) σ (tn_bd (f_X5_openIn a1 σ) kk) :=
  tr_callV (As := [.int a1]) (enc1 := tn_ie) g yy_X5_openIn hw (ci := 5) rfl (by decide) rfl (fun r σ1 h => ok_X5_openIn  a1 h) ⟨rfl, rfl⟩ ⟨hroom.1, by have h2 := hroom.2; show 8 + (4 + 11) + 0 ≤ R.locals; omega⟩ rfl rfl hW n hd hn k
/-! X5_open -/
def f_X5_open  (a1 : Int32) (σ : tn_M) : Option (Int32 × tn_M) :=
  tn_bd (f_X5_in (Int32.toInt64 a1) 1 3 σ) fun r2 σ1 =>
  if r2 = 0 then
    some ((-2), σ1)
  else
    tn_bd (f_X5_tries σ1) fun _ σ3 =>
    tn_bd (f_X5_openIn a1 σ3) fun r5 σ4 =>
    some (r5, σ4)
set_option maxHeartbeats 4000000 in
set_option maxRecDepth 20000 in
theorem b_X5_open {E : tn_E} {G : tn_G} (g : tn_Ok E G cX5_open RX5 2 (tn_rm 6 137)) (o : tn_Om E G (some .int))  (a1 : Int32) (σ : tn_M) : tn_V E G tn_ie 0 [(0, .ref (tn_ad E 5)), (1, .int a1)] [] σ (f_X5_open a1 σ) := by
  unfold f_X5_open
  refine tr_iload_n g 1 1 dX5_open_0 rfl rfl rfl ?_
  refine tr_i2l g 2 dX5_open_1 rfl ?_
  refine tr_lconst (v := 1) g 3 dX5_open_2 rfl rfl ?_
  refine tr_ldc2 (v := 3) g wd_793 6 dX5_open_3 rfl ?_
  refine kv_X5_in g wd_794 ⟨Nat.le_of_ble_eq_true rfl, Nat.le_of_ble_eq_true rfl⟩ (Nat.le_of_ble_eq_true rfl) 9 dX5_open_6 rfl (fun r2 σ1 => ?_)
  refine tr_if_ne g 15 12 dX5_open_9 rfl rfl ?_ ?_
  · refine tr_aload_n g 0 16 dX5_open_15 rfl rfl rfl ?_
    refine kv_X5_tries g wd_912 ⟨Nat.le_of_ble_eq_true rfl, Nat.le_of_ble_eq_true rfl⟩ (Nat.le_of_ble_eq_true rfl) 19 dX5_open_16 rfl (fun _ σ3 => ?_)
    refine tr_aload_n g 0 20 dX5_open_19 rfl rfl rfl ?_
    refine tr_iload_n g 1 21 dX5_open_20 rfl rfl rfl ?_
    refine kv_X5_openIn g wd_916 ⟨Nat.le_of_ble_eq_true rfl, Nat.le_of_ble_eq_true rfl⟩ (Nat.le_of_ble_eq_true rfl) 24 dX5_open_21 rfl (fun r5 σ4 => ?_)
    exact tr_iret g o dX5_open_24
  · refine tr_bipush (v := (-2)) g 14 dX5_open_12 rfl rfl ?_
    exact tr_iret g o dX5_open_14
theorem ok_X5_open {E : tn_E} {l : Launch}   (a1 : Int32) {σ : tn_M} {r : Int32} {σ' : tn_M} (h : f_X5_open a1 σ = some (r, σ')) : tn_C E l yX5_open cX5_open 2 (some .int) (tn_rm 6 137) [.ref (tn_ad E 5), .int a1] σ (tn_ie r) σ' :=
  tn_met (by decide) (Nat.le_of_ble_eq_true rfl) (fun G _ g o => b_X5_open g o  a1 σ) h
theorem yy_X5_open : tn_Yv RX5 yX5_open cX5_open 2 (some .int) 1 := ⟨wd_911, wd_909, wd_910, wd_70, by decide, by decide, by decide +kernel⟩
theorem kv_X5_open {E : tn_E} {G : tn_G} {cc : ByteArray} {own : String} {nL : Nat} {R : Room} {ρ : Type} {enc : ρ → Option Value} {pc : Nat} {lv : List (Nat × Value)} {st : List Value} {σ : tn_M} {kk : Int32 → tn_M → Option (ρ × tn_M)} {i : Nat}  {a1 : Int32} (g : tn_Ok E G cc own nL R)  (hw : Cond.methodLink own i yX5_open ∈ tn_T) (hroom : 7 ≤ R.frames ∧ 158 ≤ R.locals) (hW : (st.map fun v => v.category).sum ≤ 8) (n : Nat) (hd : decode cc pc = .ok (.invokevirtual i, 3)) (hn : pc + 3 = n) (k : ∀ r σ1, tn_V E G enc n lv (.int r :: st) σ1 (kk r σ1)) : tn_V E G enc pc lv (.int a1 :: .ref (tn_ad E 5) :: st) σ (tn_bd (f_X5_open a1 σ) kk) :=
  tr_callV (As := [.int a1]) (enc1 := tn_ie) g yy_X5_open hw (ci := 5) rfl (by decide) rfl (fun r σ1 h => ok_X5_open  a1 h) ⟨rfl, rfl⟩ ⟨hroom.1, by have h2 := hroom.2; show 8 + (2 + 11) + 137 ≤ R.locals; omega⟩ rfl rfl hW n hd hn k
/-! X5_sizesOf -/
def F_X5_sizesOf_32 (c4 : Int32 → Int32 → Int32 → tn_M → Option (Int32 × tn_M)) (x1 : Int32) (x3 : Int32) (y0 : Int32) (y1 : Int32) (σ : tn_M) : Option (Int32 × tn_M) :=
  c4 x1 (y0 + y1) (x3 + 1) σ
def F_X5_sizesOf_4  : Nat → Int32 → Int32 → Int32 → tn_M → Option (Int32 × tn_M)
  | 0, _, _, _, _ => none
  | tn_n + 1, x1, x2, x3, σ => 
    if (σ.1 5 8) ≤ x3 then
      some (x2, σ)
    else
      if ((x1 >>> (x3 &&& 31)) &&& 1) = 1 then
        tn_ck x3 5 <|
        F_X5_sizesOf_32 (fun z0 z1 z2 zs => F_X5_sizesOf_4 tn_n z0 z1 z2 zs) x1 x3 x2 (σ.1 38 (tn_x x3)) σ
      else
        F_X5_sizesOf_32 (fun z0 z1 z2 zs => F_X5_sizesOf_4 tn_n z0 z1 z2 zs) x1 x3 x2 0 σ
def f_X5_sizesOf  (a1 : Int32) (σ : tn_M) : Option (Int32 × tn_M) :=
  F_X5_sizesOf_4 tn_fuel a1 0 0 σ
set_option maxHeartbeats 4000000 in
set_option maxRecDepth 20000 in
theorem b_X5_sizesOf_32 {E : tn_E} {G : tn_G} (g : tn_Ok E G cX5_sizesOf RX5 4 (tn_rm 0 0)) (o : tn_Om E G (some .int)) (c4 : Int32 → Int32 → Int32 → tn_M → Option (Int32 × tn_M)) (hc4 : ∀ (x1 : Int32) (x2 : Int32) (x3 : Int32) (σ : tn_M), tn_V E G tn_ie 4 [(0, .ref (tn_ad E 5)), (1, .int x1), (2, .int x2), (3, .int x3)] [] σ (c4 x1 x2 x3 σ)) (x1 : Int32) (x3 : Int32) (y0 : Int32) (y1 : Int32) (σ : tn_M) : tn_V E G tn_ie 32 [(0, .ref (tn_ad E 5)), (1, .int x1), (3, .int x3)] [.int y1, .int y0] σ (F_X5_sizesOf_32 c4 x1 x3 y0 y1 σ) := by
  unfold F_X5_sizesOf_32
  refine tr_iadd g 33 dX5_sizesOf_32 rfl ?_
  refine tr_istore_n (lv' := [(2, .int (y0 + y1)), (0, .ref (tn_ad E 5)), (1, .int x1), (3, .int x3)]) g 34 dX5_sizesOf_33 rfl rfl (by decide) rfl ?_
  refine tr_iinc (lv' := [(3, .int (x3 + 1)), (2, .int (y0 + y1)), (0, .ref (tn_ad E 5)), (1, .int x1)]) (x := (x3 + 1)) g 3 37 dX5_sizesOf_34 rfl rfl rfl (by decide) rfl ?_
  refine tr_goto g 4 dX5_sizesOf_37 rfl ?_
  refine tr_sub [2, 3, 1, 0] (lv' := [(0, .ref (tn_ad E 5)), (1, .int x1), (2, .int (y0 + y1)), (3, .int (x3 + 1))]) rfl ?_
  exact hc4 _ _ _ _
set_option maxHeartbeats 4000000 in
set_option maxRecDepth 20000 in
theorem b_X5_sizesOf_4 {E : tn_E} {G : tn_G} (g : tn_Ok E G cX5_sizesOf RX5 4 (tn_rm 0 0)) (o : tn_Om E G (some .int))  : ∀ (n : Nat) (x1 : Int32) (x2 : Int32) (x3 : Int32) (σ : tn_M), tn_V E G tn_ie 4 [(0, .ref (tn_ad E 5)), (1, .int x1), (2, .int x2), (3, .int x3)] [] σ (F_X5_sizesOf_4 n x1 x2 x3 σ) := by
  intro n
  induction n with
  | zero => intros; exact tr_none
  | succ tn_n ih =>
    intro x1 x2 x3 σ
    rw [F_X5_sizesOf_4]
    refine tr_iload_n g 3 5 dX5_sizesOf_4 rfl rfl rfl ?_
    refine tr_aload_n g 0 6 dX5_sizesOf_5 rfl rfl rfl ?_
    refine gf_X5_8 g wd_712 9 dX5_sizesOf_6 rfl ?_
    refine tr_icmp_ge g 40 12 dX5_sizesOf_9 rfl rfl ?_ ?_
    · refine tr_iload_n g 2 41 dX5_sizesOf_40 rfl rfl rfl ?_
      exact tr_iret g o dX5_sizesOf_41
    · refine tr_iload_n g 2 13 dX5_sizesOf_12 rfl rfl rfl ?_
      refine tr_iload_n g 1 14 dX5_sizesOf_13 rfl rfl rfl ?_
      refine tr_iload_n g 3 15 dX5_sizesOf_14 rfl rfl rfl ?_
      refine tr_ishr g 16 dX5_sizesOf_15 rfl ?_
      refine tr_iconst (v := 1) g 17 dX5_sizesOf_16 rfl rfl ?_
      refine tr_iand g 18 dX5_sizesOf_17 rfl ?_
      refine tr_iconst (v := 1) g 19 dX5_sizesOf_18 rfl rfl ?_
      refine tr_icmp_ne g 31 22 dX5_sizesOf_19 rfl rfl ?_ ?_
      · refine tr_iconst (v := 0) g 32 dX5_sizesOf_31 rfl rfl ?_
        refine tr_sub [0, 1, 3] (lv' := [(0, .ref (tn_ad E 5)), (1, .int x1), (3, .int x3)]) rfl ?_
        exact b_X5_sizesOf_32 g o (fun z0 z1 z2 zs => F_X5_sizesOf_4 tn_n z0 z1 z2 zs) (fun z0 z1 z2 zs => ih z0 z1 z2 zs) _ _ _ _ _
      · refine tr_aload_n g 0 23 dX5_sizesOf_22 rfl rfl rfl ?_
        refine gf_X5_9 g wd_713 26 dX5_sizesOf_23 rfl ?_
        refine tr_iload_n g 3 27 dX5_sizesOf_26 rfl rfl rfl ?_
        refine tr_iald (N := 5) g 28 rfl rfl dX5_sizesOf_27 rfl ?_
        refine tr_goto g 32 dX5_sizesOf_28 rfl ?_
        refine tr_sub [0, 1, 3] (lv' := [(0, .ref (tn_ad E 5)), (1, .int x1), (3, .int x3)]) rfl ?_
        exact b_X5_sizesOf_32 g o (fun z0 z1 z2 zs => F_X5_sizesOf_4 tn_n z0 z1 z2 zs) (fun z0 z1 z2 zs => ih z0 z1 z2 zs) _ _ _ _ _
set_option maxHeartbeats 4000000 in
set_option maxRecDepth 20000 in
theorem b_X5_sizesOf {E : tn_E} {G : tn_G} (g : tn_Ok E G cX5_sizesOf RX5 4 (tn_rm 0 0)) (o : tn_Om E G (some .int))  (a1 : Int32) (σ : tn_M) : tn_V E G tn_ie 0 [(0, .ref (tn_ad E 5)), (1, .int a1)] [] σ (f_X5_sizesOf a1 σ) := by
  unfold f_X5_sizesOf
  refine tr_iconst (v := 0) g 1 dX5_sizesOf_0 rfl rfl ?_
  refine tr_istore_n (lv' := [(2, .int 0), (0, .ref (tn_ad E 5)), (1, .int a1)]) g 2 dX5_sizesOf_1 rfl rfl (by decide) rfl ?_
  refine tr_iconst (v := 0) g 3 dX5_sizesOf_2 rfl rfl ?_
  refine tr_istore_n (lv' := [(3, .int 0), (2, .int 0), (0, .ref (tn_ad E 5)), (1, .int a1)]) g 4 dX5_sizesOf_3 rfl rfl (by decide) rfl ?_
  refine tr_sub [2, 3, 1, 0] (lv' := [(0, .ref (tn_ad E 5)), (1, .int a1), (2, .int 0), (3, .int 0)]) rfl ?_
  exact b_X5_sizesOf_4 g o  tn_fuel _ _ _ _
theorem ok_X5_sizesOf {E : tn_E} {l : Launch}   (a1 : Int32) {σ : tn_M} {r : Int32} {σ' : tn_M} (h : f_X5_sizesOf a1 σ = some (r, σ')) : tn_C E l yX5_sizesOf cX5_sizesOf 4 (some .int) (tn_rm 0 0) [.ref (tn_ad E 5), .int a1] σ (tn_ie r) σ' :=
  tn_met (by decide) (Nat.le_of_ble_eq_true rfl) (fun G _ g o => b_X5_sizesOf g o  a1 σ) h
theorem yy_X5_sizesOf : tn_Yv RX5 yX5_sizesOf cX5_sizesOf 4 (some .int) 1 := ⟨wd_951, wd_950, wd_43, wd_70, by decide, by decide, by decide +kernel⟩
theorem kv_X5_sizesOf {E : tn_E} {G : tn_G} {cc : ByteArray} {own : String} {nL : Nat} {R : Room} {ρ : Type} {enc : ρ → Option Value} {pc : Nat} {lv : List (Nat × Value)} {st : List Value} {σ : tn_M} {kk : Int32 → tn_M → Option (ρ × tn_M)} {i : Nat}  {a1 : Int32} (g : tn_Ok E G cc own nL R)  (hw : Cond.methodLink own i yX5_sizesOf ∈ tn_T) (hroom : 1 ≤ R.frames ∧ 23 ≤ R.locals) (hW : (st.map fun v => v.category).sum ≤ 8) (n : Nat) (hd : decode cc pc = .ok (.invokevirtual i, 3)) (hn : pc + 3 = n) (k : ∀ r σ1, tn_V E G enc n lv (.int r :: st) σ1 (kk r σ1)) : tn_V E G enc pc lv (.int a1 :: .ref (tn_ad E 5) :: st) σ (tn_bd (f_X5_sizesOf a1 σ) kk) :=
  tr_callV (As := [.int a1]) (enc1 := tn_ie) g yy_X5_sizesOf hw (ci := 5) rfl (by decide) rfl (fun r σ1 h => ok_X5_sizesOf  a1 h) ⟨rfl, rfl⟩ ⟨hroom.1, by have h2 := hroom.2; show 8 + (4 + 11) + 0 ≤ R.locals; omega⟩ rfl rfl hW n hd hn k
/-! X5_parts -/
def F_X5_parts_67  (x1 : Int64) (σ : tn_M) : Option (Unit × tn_M) :=
  tn_lt (tn_sl σ 5 23 ((σ.2 5 23) + x1)) fun σ1 =>
  some ((), σ1)
def F_X5_parts_59 (c10 : Int64 → Int32 → Int32 → Int32 → Int32 → tn_M → Option (Unit × tn_M)) (x1 : Int64) (x3 : Int32) (x4 : Int32) (x5 : Int32) (x6 : Int32) (y1 : Int32) (y2 : Int64) (y3 : Int64) (σ : tn_M) : Option (Unit × tn_M) :=
  tn_ck y1 5 <|
  tn_lt (tn_sl σ 47 (tn_x y1) (y2 + y3)) fun σ1 =>
  c10 x1 x3 x4 x5 (x6 + 1) σ1
def F_X5_parts_10  : Nat → Int64 → Int32 → Int32 → Int32 → Int32 → tn_M → Option (Unit × tn_M)
  | 0, _, _, _, _, _, _ => none
  | tn_n + 1, x1, x3, x4, x5, x6, σ => 
    if (σ.1 5 8) ≤ x6 then
      F_X5_parts_67 x1 σ
    else
      tn_ck x6 5 <|
      if ((x3 >>> (x6 &&& 31)) &&& 1) = 1 then
        tn_dzl (Int32.toInt64 x5) <|
        tn_ck x6 5 <|
        F_X5_parts_59 (fun z0 z1 z2 z3 z4 zs => F_X5_parts_10 tn_n z0 z1 z2 z3 z4 zs) x1 x3 x4 x5 x6 x6 (σ.2 47 (tn_x x6)) (((x1 / (Int32.toInt64 x5)) * (Int32.toInt64 (σ.1 38 (tn_x x6)))) * (Int32.toInt64 x4)) σ
      else
        F_X5_parts_59 (fun z0 z1 z2 z3 z4 zs => F_X5_parts_10 tn_n z0 z1 z2 z3 z4 zs) x1 x3 x4 x5 x6 x6 (σ.2 47 (tn_x x6)) 0 σ
def f_X5_parts  (a1 : Int64) (a3 : Int32) (a4 : Int32) (σ : tn_M) : Option (Unit × tn_M) :=
  tn_bd (f_X5_sizesOf a3 σ) fun r2 σ1 =>
  F_X5_parts_10 tn_fuel a1 a3 a4 r2 0 σ1
set_option maxHeartbeats 4000000 in
set_option maxRecDepth 20000 in
theorem b_X5_parts_67 {E : tn_E} {G : tn_G} (g : tn_Ok E G cX5_parts RX5 7 (tn_rm 1 23)) (o : tn_Om E G none)  (x1 : Int64) (σ : tn_M) : tn_V E G tn_ve 67 [(0, .ref (tn_ad E 5)), (1, .long x1)] [] σ (F_X5_parts_67 x1 σ) := by
  unfold F_X5_parts_67
  refine tr_aload_n g 0 68 dX5_parts_67 rfl rfl rfl ?_
  refine tr_dup g 69 dX5_parts_68 rfl rfl ?_
  refine gf_X5_23 g wd_727 72 dX5_parts_69 rfl ?_
  refine tr_lload_n g 1 73 dX5_parts_72 rfl rfl rfl ?_
  refine tr_ladd g 74 dX5_parts_73 rfl ?_
  refine pf_X5_23 g wd_727 77 dX5_parts_74 rfl (fun σ1 => ?_)
  exact tr_vret g o dX5_parts_77
set_option maxHeartbeats 4000000 in
set_option maxRecDepth 20000 in
theorem b_X5_parts_59 {E : tn_E} {G : tn_G} (g : tn_Ok E G cX5_parts RX5 7 (tn_rm 1 23)) (o : tn_Om E G none) (c10 : Int64 → Int32 → Int32 → Int32 → Int32 → tn_M → Option (Unit × tn_M)) (hc10 : ∀ (x1 : Int64) (x3 : Int32) (x4 : Int32) (x5 : Int32) (x6 : Int32) (σ : tn_M), tn_V E G tn_ve 10 [(0, .ref (tn_ad E 5)), (1, .long x1), (3, .int x3), (4, .int x4), (5, .int x5), (6, .int x6)] [] σ (c10 x1 x3 x4 x5 x6 σ)) (x1 : Int64) (x3 : Int32) (x4 : Int32) (x5 : Int32) (x6 : Int32) (y1 : Int32) (y2 : Int64) (y3 : Int64) (σ : tn_M) : tn_V E G tn_ve 59 [(0, .ref (tn_ad E 5)), (1, .long x1), (3, .int x3), (4, .int x4), (5, .int x5), (6, .int x6)] [.long y3, .long y2, .int y1, .ref (tn_ad E 47)] σ (F_X5_parts_59 c10 x1 x3 x4 x5 x6 y1 y2 y3 σ) := by
  unfold F_X5_parts_59
  refine tr_ladd g 60 dX5_parts_59 rfl ?_
  refine tr_last (N := 5) g 61 rfl rfl dX5_parts_60 rfl (fun σ1 => ?_)
  refine tr_iinc (lv' := [(6, .int (x6 + 1)), (0, .ref (tn_ad E 5)), (1, .long x1), (3, .int x3), (4, .int x4), (5, .int x5)]) (x := (x6 + 1)) g 5 64 dX5_parts_61 rfl rfl rfl (by decide) rfl ?_
  refine tr_goto g 10 dX5_parts_64 rfl ?_
  refine tr_sub [1, 2, 3, 4, 5, 0] (lv' := [(0, .ref (tn_ad E 5)), (1, .long x1), (3, .int x3), (4, .int x4), (5, .int x5), (6, .int (x6 + 1))]) rfl ?_
  exact hc10 _ _ _ _ _ _
set_option maxHeartbeats 4000000 in
set_option maxRecDepth 20000 in
theorem b_X5_parts_10 {E : tn_E} {G : tn_G} (g : tn_Ok E G cX5_parts RX5 7 (tn_rm 1 23)) (o : tn_Om E G none)  : ∀ (n : Nat) (x1 : Int64) (x3 : Int32) (x4 : Int32) (x5 : Int32) (x6 : Int32) (σ : tn_M), tn_V E G tn_ve 10 [(0, .ref (tn_ad E 5)), (1, .long x1), (3, .int x3), (4, .int x4), (5, .int x5), (6, .int x6)] [] σ (F_X5_parts_10 n x1 x3 x4 x5 x6 σ) := by
  intro n
  induction n with
  | zero => intros; exact tr_none
  | succ tn_n ih =>
    intro x1 x3 x4 x5 x6 σ
    rw [F_X5_parts_10]
    refine tr_iload g 5 12 dX5_parts_10 rfl rfl ?_
    refine tr_aload_n g 0 13 dX5_parts_12 rfl rfl rfl ?_
    refine gf_X5_8 g wd_712 16 dX5_parts_13 rfl ?_
    refine tr_icmp_ge g 67 19 dX5_parts_16 rfl rfl ?_ ?_
    · refine tr_sub [0, 1] (lv' := [(0, .ref (tn_ad E 5)), (1, .long x1)]) rfl ?_
      exact b_X5_parts_67 g o  _ _
    · refine tr_aload_n g 0 20 dX5_parts_19 rfl rfl rfl ?_
      refine gf_X5_22 g wd_726 23 dX5_parts_20 rfl ?_
      refine tr_iload g 5 25 dX5_parts_23 rfl rfl ?_
      refine tr_dup2 g 26 dX5_parts_25 rfl rfl rfl ?_
      refine tr_lald (N := 5) g 27 rfl rfl dX5_parts_26 rfl ?_
      refine tr_iload_n g 2 28 dX5_parts_27 rfl rfl rfl ?_
      refine tr_iload g 5 30 dX5_parts_28 rfl rfl ?_
      refine tr_ishr g 31 dX5_parts_30 rfl ?_
      refine tr_iconst (v := 1) g 32 dX5_parts_31 rfl rfl ?_
      refine tr_iand g 33 dX5_parts_32 rfl ?_
      refine tr_iconst (v := 1) g 34 dX5_parts_33 rfl rfl ?_
      refine tr_icmp_ne g 58 37 dX5_parts_34 rfl rfl ?_ ?_
      · refine tr_lconst (v := 0) g 59 dX5_parts_58 rfl rfl ?_
        exact b_X5_parts_59 g o (fun z0 z1 z2 z3 z4 zs => F_X5_parts_10 tn_n z0 z1 z2 z3 z4 zs) (fun z0 z1 z2 z3 z4 zs => ih z0 z1 z2 z3 z4 zs) _ _ _ _ _ _ _ _ _
      · refine tr_lload_n g 1 38 dX5_parts_37 rfl rfl rfl ?_
        refine tr_iload g 4 40 dX5_parts_38 rfl rfl ?_
        refine tr_i2l g 41 dX5_parts_40 rfl ?_
        refine tr_ldiv g 42 dX5_parts_41 rfl ?_
        refine tr_aload_n g 0 43 dX5_parts_42 rfl rfl rfl ?_
        refine gf_X5_9 g wd_713 46 dX5_parts_43 rfl ?_
        refine tr_iload g 5 48 dX5_parts_46 rfl rfl ?_
        refine tr_iald (N := 5) g 49 rfl rfl dX5_parts_48 rfl ?_
        refine tr_i2l g 50 dX5_parts_49 rfl ?_
        refine tr_lmul g 51 dX5_parts_50 rfl ?_
        refine tr_iload g 3 53 dX5_parts_51 rfl rfl ?_
        refine tr_i2l g 54 dX5_parts_53 rfl ?_
        refine tr_lmul g 55 dX5_parts_54 rfl ?_
        refine tr_goto g 59 dX5_parts_55 rfl ?_
        exact b_X5_parts_59 g o (fun z0 z1 z2 z3 z4 zs => F_X5_parts_10 tn_n z0 z1 z2 z3 z4 zs) (fun z0 z1 z2 z3 z4 zs => ih z0 z1 z2 z3 z4 zs) _ _ _ _ _ _ _ _ _
set_option maxHeartbeats 4000000 in
set_option maxRecDepth 20000 in
theorem b_X5_parts {E : tn_E} {G : tn_G} (g : tn_Ok E G cX5_parts RX5 7 (tn_rm 1 23)) (o : tn_Om E G none)  (a1 : Int64) (a3 : Int32) (a4 : Int32) (σ : tn_M) : tn_V E G tn_ve 0 [(0, .ref (tn_ad E 5)), (1, .long a1), (3, .int a3), (4, .int a4)] [] σ (f_X5_parts a1 a3 a4 σ) := by
  unfold f_X5_parts
  refine tr_aload_n g 0 1 dX5_parts_0 rfl rfl rfl ?_
  refine tr_iload_n g 2 2 dX5_parts_1 rfl rfl rfl ?_
  refine kv_X5_sizesOf g wd_948 ⟨Nat.le_of_ble_eq_true rfl, Nat.le_of_ble_eq_true rfl⟩ (Nat.le_of_ble_eq_true rfl) 5 dX5_parts_2 rfl (fun r2 σ1 => ?_)
  refine tr_istore (lv' := [(5, .int r2), (0, .ref (tn_ad E 5)), (1, .long a1), (3, .int a3), (4, .int a4)]) g 7 dX5_parts_5 rfl (by decide) rfl ?_
  refine tr_iconst (v := 0) g 8 dX5_parts_7 rfl rfl ?_
  refine tr_istore (lv' := [(6, .int 0), (5, .int r2), (0, .ref (tn_ad E 5)), (1, .long a1), (3, .int a3), (4, .int a4)]) g 10 dX5_parts_8 rfl (by decide) rfl ?_
  refine tr_sub [2, 3, 4, 5, 1, 0] (lv' := [(0, .ref (tn_ad E 5)), (1, .long a1), (3, .int a3), (4, .int a4), (5, .int r2), (6, .int 0)]) rfl ?_
  exact b_X5_parts_10 g o  tn_fuel _ _ _ _ _ _
theorem ok_X5_parts {E : tn_E} {l : Launch}   (a1 : Int64) (a3 : Int32) (a4 : Int32) {σ : tn_M} {r : Unit} {σ' : tn_M} (h : f_X5_parts a1 a3 a4 σ = some (r, σ')) : tn_C E l yX5_parts cX5_parts 7 none (tn_rm 1 23) [.ref (tn_ad E 5), .long a1, .int a3, .int a4] σ (tn_ve r) σ' :=
  tn_met (by decide) (Nat.le_of_ble_eq_true rfl) (fun G _ g o => b_X5_parts g o  a1 a3 a4 σ) h
theorem yy_X5_parts : tn_Yv RX5 yX5_parts cX5_parts 7 none 3 := ⟨wd_947, wd_946, wd_42, wd_70, by decide, by decide, by decide +kernel⟩
theorem kv_X5_parts {E : tn_E} {G : tn_G} {cc : ByteArray} {own : String} {nL : Nat} {R : Room} {ρ : Type} {enc : ρ → Option Value} {pc : Nat} {lv : List (Nat × Value)} {st : List Value} {σ : tn_M} {kk : Unit → tn_M → Option (ρ × tn_M)} {i : Nat}  {a1 : Int64} {a3 : Int32} {a4 : Int32} (g : tn_Ok E G cc own nL R)  (hw : Cond.methodLink own i yX5_parts ∈ tn_T) (hroom : 2 ≤ R.frames ∧ 49 ≤ R.locals) (hW : (st.map fun v => v.category).sum ≤ 8) (n : Nat) (hd : decode cc pc = .ok (.invokevirtual i, 3)) (hn : pc + 3 = n) (k : ∀ r σ1, tn_V E G enc n lv (st) σ1 (kk r σ1)) : tn_V E G enc pc lv (.int a4 :: .int a3 :: .long a1 :: .ref (tn_ad E 5) :: st) σ (tn_bd (f_X5_parts a1 a3 a4 σ) kk) :=
  tr_callV (As := [.long a1, .int a3, .int a4]) (enc1 := tn_ve) g yy_X5_parts hw (ci := 5) rfl (by decide) rfl (fun r σ1 h => ok_X5_parts  a1 a3 a4 h) ⟨rfl, rfl⟩ ⟨hroom.1, by have h2 := hroom.2; show 8 + (7 + 11) + 23 ≤ R.locals; omega⟩ rfl rfl hW n hd hn k
/-! X5_ones -/
def F_X5_ones_4  : Nat → Int32 → Int32 → tn_M → Option (Int32 × tn_M)
  | 0, _, _, _ => none
  | tn_n + 1, x1, x2, σ => 
    if x2 = 0 then
      some (x1, σ)
    else
      tn_lt (α := Int32) (x2 &&& (x2 - 1)) fun w1 =>
      F_X5_ones_4 tn_n (x1 + 1) w1 σ
def f_X5_ones  (a0 : Int32) (σ : tn_M) : Option (Int32 × tn_M) :=
  F_X5_ones_4 tn_fuel 0 a0 σ
set_option maxHeartbeats 4000000 in
set_option maxRecDepth 20000 in
theorem b_X5_ones_4 {E : tn_E} {G : tn_G} (g : tn_Ok E G cX5_ones RX5 3 (tn_rm 0 0)) (o : tn_Om E G (some .int))  : ∀ (n : Nat) (x1 : Int32) (x2 : Int32) (σ : tn_M), tn_V E G tn_ie 4 [(1, .int x1), (2, .int x2)] [] σ (F_X5_ones_4 n x1 x2 σ) := by
  intro n
  induction n with
  | zero => intros; exact tr_none
  | succ tn_n ih =>
    intro x1 x2 σ
    rw [F_X5_ones_4]
    refine tr_iload_n g 1 5 dX5_ones_4 rfl rfl rfl ?_
    refine tr_if_eq g 20 8 dX5_ones_5 rfl rfl ?_ ?_
    · refine tr_iload_n g 0 21 dX5_ones_20 rfl rfl rfl ?_
      exact tr_iret g o dX5_ones_21
    · refine tr_iinc (lv' := [(1, .int (x1 + 1)), (2, .int x2)]) (x := (x1 + 1)) g 0 11 dX5_ones_8 rfl rfl rfl (by decide) rfl ?_
      refine tr_iload_n g 1 12 dX5_ones_11 rfl rfl rfl ?_
      refine tr_iload_n g 1 13 dX5_ones_12 rfl rfl rfl ?_
      refine tr_iconst (v := 1) g 14 dX5_ones_13 rfl rfl ?_
      refine tr_isub g 15 dX5_ones_14 rfl ?_
      refine tr_iand g 16 dX5_ones_15 rfl ?_
      refine tr_lti (fun w1 => ?_)
      refine tr_istore_n (lv' := [(2, .int w1), (1, .int (x1 + 1))]) g 17 dX5_ones_16 rfl rfl (by decide) rfl ?_
      refine tr_goto g 4 dX5_ones_17 rfl ?_
      refine tr_sub [1, 0] (lv' := [(1, .int (x1 + 1)), (2, .int w1)]) rfl ?_
      exact ih _ _ _
set_option maxHeartbeats 4000000 in
set_option maxRecDepth 20000 in
theorem b_X5_ones {E : tn_E} {G : tn_G} (g : tn_Ok E G cX5_ones RX5 3 (tn_rm 0 0)) (o : tn_Om E G (some .int))  (a0 : Int32) (σ : tn_M) : tn_V E G tn_ie 0 [(0, .int a0)] [] σ (f_X5_ones a0 σ) := by
  unfold f_X5_ones
  refine tr_iconst (v := 0) g 1 dX5_ones_0 rfl rfl ?_
  refine tr_istore_n (lv' := [(1, .int 0), (0, .int a0)]) g 2 dX5_ones_1 rfl rfl (by decide) rfl ?_
  refine tr_iload_n g 1 3 dX5_ones_2 rfl rfl rfl ?_
  refine tr_istore_n (lv' := [(2, .int a0), (1, .int 0), (0, .int a0)]) g 4 dX5_ones_3 rfl rfl (by decide) rfl ?_
  refine tr_sub [1, 0] (lv' := [(1, .int 0), (2, .int a0)]) rfl ?_
  exact b_X5_ones_4 g o  tn_fuel _ _ _
theorem ok_X5_ones {E : tn_E} {l : Launch}   (a0 : Int32) {σ : tn_M} {r : Int32} {σ' : tn_M} (h : f_X5_ones a0 σ = some (r, σ')) : tn_C E l yX5_ones cX5_ones 3 (some .int) (tn_rm 0 0) [.int a0] σ (tn_ie r) σ' :=
  tn_met (by decide) (Nat.le_of_ble_eq_true rfl) (fun G _ g o => b_X5_ones g o  a0 σ) h
theorem yy_X5_ones : tn_Ys yX5_ones cX5_ones 3 (some .int) 1 := ⟨wd_941, wd_940, wd_70, by decide, by decide, by decide +kernel⟩
theorem kv_X5_ones {E : tn_E} {G : tn_G} {cc : ByteArray} {own : String} {nL : Nat} {R : Room} {ρ : Type} {enc : ρ → Option Value} {pc : Nat} {lv : List (Nat × Value)} {st : List Value} {σ : tn_M} {kk : Int32 → tn_M → Option (ρ × tn_M)} {i : Nat}  {a0 : Int32} (g : tn_Ok E G cc own nL R)  (hw : Cond.methodLink own i yX5_ones ∈ tn_T) (hroom : 1 ≤ R.frames ∧ 22 ≤ R.locals) (hW : (st.map fun v => v.category).sum ≤ 8) (n : Nat) (hd : decode cc pc = .ok (.invokestatic i, 3)) (hn : pc + 3 = n) (k : ∀ r σ1, tn_V E G enc n lv (.int r :: st) σ1 (kk r σ1)) : tn_V E G enc pc lv (.int a0 :: st) σ (tn_bd (f_X5_ones a0 σ) kk) :=
  tr_callS (As := [.int a0]) (enc1 := tn_ie) g yy_X5_ones hw (fun r σ1 h => ok_X5_ones  a0 h) ⟨rfl, rfl⟩ ⟨hroom.1, by have h2 := hroom.2; show 8 + (3 + 11) + 0 ≤ R.locals; omega⟩ rfl rfl hW n hd hn k
/-! X5_buys -/
def F_X5_buys_182  (x2 : Int32) (x4 : Int32) (x5 : Int32) (x9 : Int64) (x11 : Int32) (σ : tn_M) : Option (Unit × tn_M) :=
  tn_ck (x2 + 4) 36 <|
  tn_lt (α := Int64) (((x9 * (Int32.toInt64 (16 - x11))) * (Int32.toInt64 (σ.1 40 (tn_x (x2 + 4))))) * 360360) fun w1 =>
  tn_lt (α := Int32) (if x4 = (-1) then ((1 <<< ((σ.1 5 8) &&& 31)) - 1) else (1 <<< (x4 &&& 31))) fun v2 =>
  if v2 = 0 then
    some ((), σ)
  else
    tn_bd (f_X5_parts w1 v2 x5 σ) fun _ σ3 =>
    some ((), σ3)
def F_X5_buys_153  (x2 : Int32) (x4 : Int32) (x5 : Int32) (x6 : Int32) (x9 : Int64) (y0 : Int32) (σ : tn_M) : Option (Unit × tn_M) :=
  if y0 ≤ 0 then
    F_X5_buys_182 x2 x4 x5 x9 y0 σ
  else
    tn_bd (f_X5_parts (((x9 * (Int32.toInt64 y0)) * 16) * 360360) x6 x5 σ) fun _ σ1 =>
    F_X5_buys_182 x2 x4 x5 x9 y0 σ1
def F_X5_buys_136  (x2 : Int32) (x4 : Int32) (x5 : Int32) (x6 : Int32) (x9 : Int64) (σ : tn_M) : Option (Unit × tn_M) :=
  if x6 = 0 then
    F_X5_buys_153 x2 x4 x5 x6 x9 0 σ
  else
    tn_ck (x2 + 3) 36 <|
    F_X5_buys_153 x2 x4 x5 x6 x9 (σ.1 40 (tn_x (x2 + 3))) σ
def F_X5_buys_69  (x2 : Int32) (x3 : Int32) (x4 : Int32) (x5 : Int32) (x6 : Int32) (y0 : Int32) (y1 : Int32) (σ : tn_M) : Option (Unit × tn_M) :=
  tn_ck (x2 + 1) 36 <|
  tn_ck x3 4 <|
  tn_lt (α := Int64) (((Int32.toInt64 (σ.1 40 (tn_x (x2 + 1)))) * (Int32.toInt64 (y0 + y1))) * (Int32.toInt64 (8 + (σ.1 45 (tn_x x3))))) fun w1 =>
  if x4 = (-1) then
    F_X5_buys_136 x2 x4 x5 x6 w1 σ
  else
    if ((x6 >>> (x4 &&& 31)) &&& 1) = 1 then
      tn_bd (f_X5_parts ((w1 * 256) * 360360) (1 <<< (x4 &&& 31)) x5 σ) fun _ σ2 =>
      some ((), σ2)
    else
      F_X5_buys_136 x2 x4 x5 x6 w1 σ
def f_X5_buys  (a1 : Int32) (σ : tn_M) : Option (Unit × tn_M) :=
  tn_ck (6 * a1) 36 <|
  tn_lt (α := Int32) (σ.1 40 (tn_x (6 * a1))) fun w1 =>
  tn_ck ((6 * a1) + 2) 36 <|
  tn_lt (α := Int32) (σ.1 40 (tn_x ((6 * a1) + 2))) fun w2 =>
  tn_ck ((6 * a1) + 5) 36 <|
  tn_lt (α := Int32) (σ.1 40 (tn_x ((6 * a1) + 5))) fun w3 =>
  tn_bd (f_X5_openIn w1 σ) fun r5 σ4 =>
  tn_bd (f_X5_ones r5 σ4) fun r7 σ6 =>
  if r7 ≤ 1 then
    F_X5_buys_69 (6 * a1) w1 w2 w3 r5 16 0 σ6
  else
    F_X5_buys_69 (6 * a1) w1 w2 w3 r5 16 ((σ6.1 41 0) * (r7 - 1)) σ6
set_option maxHeartbeats 4000000 in
set_option maxRecDepth 20000 in
theorem b_X5_buys_182 {E : tn_E} {G : tn_G} (g : tn_Ok E G cX5_buys RX5 15 (tn_rm 2 49)) (o : tn_Om E G none)  (x2 : Int32) (x4 : Int32) (x5 : Int32) (x9 : Int64) (x11 : Int32) (σ : tn_M) : tn_V E G tn_ve 182 [(0, .ref (tn_ad E 5)), (2, .int x2), (4, .int x4), (5, .int x5), (9, .long x9), (11, .int x11)] [] σ (F_X5_buys_182 x2 x4 x5 x9 x11 σ) := by
  unfold F_X5_buys_182
  refine tr_lload g 4 184 dX5_buys_182 rfl rfl ?_
  refine tr_bipush (v := 16) g 186 dX5_buys_184 rfl rfl ?_
  refine tr_iload g 5 188 dX5_buys_186 rfl rfl ?_
  refine tr_isub g 189 dX5_buys_188 rfl ?_
  refine tr_i2l g 190 dX5_buys_189 rfl ?_
  refine tr_lmul g 191 dX5_buys_190 rfl ?_
  refine tr_aload_n g 0 192 dX5_buys_191 rfl rfl rfl ?_
  refine gf_X5_12 g wd_716 195 dX5_buys_192 rfl ?_
  refine tr_iload_n g 1 196 dX5_buys_195 rfl rfl rfl ?_
  refine tr_iconst (v := 4) g 197 dX5_buys_196 rfl rfl ?_
  refine tr_iadd g 198 dX5_buys_197 rfl ?_
  refine tr_iald (N := 36) g 199 rfl rfl dX5_buys_198 rfl ?_
  refine tr_i2l g 200 dX5_buys_199 rfl ?_
  refine tr_lmul g 201 dX5_buys_200 rfl ?_
  refine tr_ldc2 (v := 360360) g wd_943 204 dX5_buys_201 rfl ?_
  refine tr_lmul g 205 dX5_buys_204 rfl ?_
  refine tr_ltl (fun w1 => ?_)
  refine tr_lstore (lv' := [(12, .long w1), (0, .ref (tn_ad E 5)), (2, .int x2), (4, .int x4), (5, .int x5), (9, .long x9), (11, .int x11)]) g 207 dX5_buys_205 rfl (by decide) rfl ?_
  refine tr_iload g 3 209 dX5_buys_207 rfl rfl ?_
  refine tr_iconst (v := (-1)) g 210 dX5_buys_209 rfl rfl ?_
  refine tr_icmp_eqD (inj := fun z => Value.int z) g 228 220 213 dX5_buys_210 rfl rfl (fun rs hj => ?_) (fun rs hj => ?_) (fun v2 => ?_)
  · refine tr_iconst (v := 1) g 221 dX5_buys_220 rfl rfl ?_
    refine tr_aload_n g 1 222 dX5_buys_221 rfl rfl rfl ?_
    refine gf_X5_8 g wd_712 225 dX5_buys_222 rfl ?_
    refine tr_ishl g 226 dX5_buys_225 rfl ?_
    refine tr_iconst (v := 1) g 227 dX5_buys_226 rfl rfl ?_
    refine tr_isub g 228 dX5_buys_227 rfl ?_
    exact hj
  · refine tr_iconst (v := 1) g 214 dX5_buys_213 rfl rfl ?_
    refine tr_iload g 3 216 dX5_buys_214 rfl rfl ?_
    refine tr_ishl g 217 dX5_buys_216 rfl ?_
    refine tr_goto g 228 dX5_buys_217 rfl ?_
    exact hj
  · refine tr_istore (lv' := [(14, .int v2), (12, .long w1), (0, .ref (tn_ad E 5)), (2, .int x2), (4, .int x4), (5, .int x5), (9, .long x9), (11, .int x11)]) g 230 dX5_buys_228 rfl (by decide) rfl ?_
    refine tr_iload g 0 232 dX5_buys_230 rfl rfl ?_
    refine tr_if_eq g 245 235 dX5_buys_232 rfl rfl ?_ ?_
    · exact tr_vret g o dX5_buys_245
    · refine tr_aload_n g 2 236 dX5_buys_235 rfl rfl rfl ?_
      refine tr_lload g 1 238 dX5_buys_236 rfl rfl ?_
      refine tr_iload g 0 240 dX5_buys_238 rfl rfl ?_
      refine tr_iload g 5 242 dX5_buys_240 rfl rfl ?_
      refine kv_X5_parts g wd_944 ⟨Nat.le_of_ble_eq_true rfl, Nat.le_of_ble_eq_true rfl⟩ (Nat.le_of_ble_eq_true rfl) 245 dX5_buys_242 rfl (fun _ σ3 => ?_)
      exact tr_vret g o dX5_buys_245
set_option maxHeartbeats 4000000 in
set_option maxRecDepth 20000 in
theorem b_X5_buys_153 {E : tn_E} {G : tn_G} (g : tn_Ok E G cX5_buys RX5 15 (tn_rm 2 49)) (o : tn_Om E G none)  (x2 : Int32) (x4 : Int32) (x5 : Int32) (x6 : Int32) (x9 : Int64) (y0 : Int32) (σ : tn_M) : tn_V E G tn_ve 153 [(0, .ref (tn_ad E 5)), (2, .int x2), (4, .int x4), (5, .int x5), (6, .int x6), (9, .long x9)] [.int y0] σ (F_X5_buys_153 x2 x4 x5 x6 x9 y0 σ) := by
  unfold F_X5_buys_153
  refine tr_istore (lv' := [(11, .int y0), (0, .ref (tn_ad E 5)), (2, .int x2), (4, .int x4), (5, .int x5), (6, .int x6), (9, .long x9)]) g 155 dX5_buys_153 rfl (by decide) rfl ?_
  refine tr_iload g 0 157 dX5_buys_155 rfl rfl ?_
  refine tr_if_le g 182 160 dX5_buys_157 rfl rfl ?_ ?_
  · refine tr_sub [1, 2, 3, 4, 6, 0] (lv' := [(0, .ref (tn_ad E 5)), (2, .int x2), (4, .int x4), (5, .int x5), (9, .long x9), (11, .int y0)]) rfl ?_
    exact b_X5_buys_182 g o  _ _ _ _ _ _
  · refine tr_aload_n g 1 161 dX5_buys_160 rfl rfl rfl ?_
    refine tr_lload g 6 163 dX5_buys_161 rfl rfl ?_
    refine tr_iload g 0 165 dX5_buys_163 rfl rfl ?_
    refine tr_i2l g 166 dX5_buys_165 rfl ?_
    refine tr_lmul g 167 dX5_buys_166 rfl ?_
    refine tr_ldc2 (v := 16) g wd_952 170 dX5_buys_167 rfl ?_
    refine tr_lmul g 171 dX5_buys_170 rfl ?_
    refine tr_ldc2 (v := 360360) g wd_943 174 dX5_buys_171 rfl ?_
    refine tr_lmul g 175 dX5_buys_174 rfl ?_
    refine tr_iload g 5 177 dX5_buys_175 rfl rfl ?_
    refine tr_iload g 4 179 dX5_buys_177 rfl rfl ?_
    refine kv_X5_parts g wd_944 ⟨Nat.le_of_ble_eq_true rfl, Nat.le_of_ble_eq_true rfl⟩ (Nat.le_of_ble_eq_true rfl) 182 dX5_buys_179 rfl (fun _ σ1 => ?_)
    refine tr_sub [1, 2, 3, 4, 6, 0] (lv' := [(0, .ref (tn_ad E 5)), (2, .int x2), (4, .int x4), (5, .int x5), (9, .long x9), (11, .int y0)]) rfl ?_
    exact b_X5_buys_182 g o  _ _ _ _ _ _
set_option maxHeartbeats 4000000 in
set_option maxRecDepth 20000 in
theorem b_X5_buys_136 {E : tn_E} {G : tn_G} (g : tn_Ok E G cX5_buys RX5 15 (tn_rm 2 49)) (o : tn_Om E G none)  (x2 : Int32) (x4 : Int32) (x5 : Int32) (x6 : Int32) (x9 : Int64) (σ : tn_M) : tn_V E G tn_ve 136 [(0, .ref (tn_ad E 5)), (2, .int x2), (4, .int x4), (5, .int x5), (6, .int x6), (9, .long x9)] [] σ (F_X5_buys_136 x2 x4 x5 x6 x9 σ) := by
  unfold F_X5_buys_136
  refine tr_iload g 4 138 dX5_buys_136 rfl rfl ?_
  refine tr_if_eq g 152 141 dX5_buys_138 rfl rfl ?_ ?_
  · refine tr_iconst (v := 0) g 153 dX5_buys_152 rfl rfl ?_
    exact b_X5_buys_153 g o  _ _ _ _ _ _ _
  · refine tr_aload_n g 0 142 dX5_buys_141 rfl rfl rfl ?_
    refine gf_X5_12 g wd_716 145 dX5_buys_142 rfl ?_
    refine tr_iload_n g 1 146 dX5_buys_145 rfl rfl rfl ?_
    refine tr_iconst (v := 3) g 147 dX5_buys_146 rfl rfl ?_
    refine tr_iadd g 148 dX5_buys_147 rfl ?_
    refine tr_iald (N := 36) g 149 rfl rfl dX5_buys_148 rfl ?_
    refine tr_goto g 153 dX5_buys_149 rfl ?_
    exact b_X5_buys_153 g o  _ _ _ _ _ _ _
set_option maxHeartbeats 4000000 in
set_option maxRecDepth 20000 in
theorem b_X5_buys_69 {E : tn_E} {G : tn_G} (g : tn_Ok E G cX5_buys RX5 15 (tn_rm 2 49)) (o : tn_Om E G none)  (x2 : Int32) (x3 : Int32) (x4 : Int32) (x5 : Int32) (x6 : Int32) (y0 : Int32) (y1 : Int32) (σ : tn_M) : tn_V E G tn_ve 69 [(0, .ref (tn_ad E 5)), (2, .int x2), (3, .int x3), (4, .int x4), (5, .int x5), (6, .int x6)] [.int y1, .int y0] σ (F_X5_buys_69 x2 x3 x4 x5 x6 y0 y1 σ) := by
  unfold F_X5_buys_69
  refine tr_iadd g 70 dX5_buys_69 rfl ?_
  refine tr_istore (lv' := [(8, .int (y0 + y1)), (0, .ref (tn_ad E 5)), (2, .int x2), (3, .int x3), (4, .int x4), (5, .int x5), (6, .int x6)]) g 72 dX5_buys_70 rfl (by decide) rfl ?_
  refine tr_aload_n g 1 73 dX5_buys_72 rfl rfl rfl ?_
  refine gf_X5_12 g wd_716 76 dX5_buys_73 rfl ?_
  refine tr_iload_n g 2 77 dX5_buys_76 rfl rfl rfl ?_
  refine tr_iconst (v := 1) g 78 dX5_buys_77 rfl rfl ?_
  refine tr_iadd g 79 dX5_buys_78 rfl ?_
  refine tr_iald (N := 36) g 80 rfl rfl dX5_buys_79 rfl ?_
  refine tr_i2l g 81 dX5_buys_80 rfl ?_
  refine tr_iload g 0 83 dX5_buys_81 rfl rfl ?_
  refine tr_i2l g 84 dX5_buys_83 rfl ?_
  refine tr_lmul g 85 dX5_buys_84 rfl ?_
  refine tr_bipush (v := 8) g 87 dX5_buys_85 rfl rfl ?_
  refine tr_aload_n g 1 88 dX5_buys_87 rfl rfl rfl ?_
  refine gf_X5_17 g wd_721 91 dX5_buys_88 rfl ?_
  refine tr_iload_n g 3 92 dX5_buys_91 rfl rfl rfl ?_
  refine tr_iald (N := 4) g 93 rfl rfl dX5_buys_92 rfl ?_
  refine tr_iadd g 94 dX5_buys_93 rfl ?_
  refine tr_i2l g 95 dX5_buys_94 rfl ?_
  refine tr_lmul g 96 dX5_buys_95 rfl ?_
  refine tr_ltl (fun w1 => ?_)
  refine tr_lstore (lv' := [(9, .long w1), (8, .int (y0 + y1)), (0, .ref (tn_ad E 5)), (2, .int x2), (3, .int x3), (4, .int x4), (5, .int x5), (6, .int x6)]) g 98 dX5_buys_96 rfl (by decide) rfl ?_
  refine tr_iload g 5 100 dX5_buys_98 rfl rfl ?_
  refine tr_iconst (v := (-1)) g 101 dX5_buys_100 rfl rfl ?_
  refine tr_icmp_eq g 136 104 dX5_buys_101 rfl rfl ?_ ?_
  · refine tr_sub [2, 3, 5, 6, 7, 0] (lv' := [(0, .ref (tn_ad E 5)), (2, .int x2), (4, .int x4), (5, .int x5), (6, .int x6), (9, .long w1)]) rfl ?_
    exact b_X5_buys_136 g o  _ _ _ _ _ _
  · refine tr_iload g 7 106 dX5_buys_104 rfl rfl ?_
    refine tr_iload g 5 108 dX5_buys_106 rfl rfl ?_
    refine tr_ishr g 109 dX5_buys_108 rfl ?_
    refine tr_iconst (v := 1) g 110 dX5_buys_109 rfl rfl ?_
    refine tr_iand g 111 dX5_buys_110 rfl ?_
    refine tr_iconst (v := 1) g 112 dX5_buys_111 rfl rfl ?_
    refine tr_icmp_ne g 136 115 dX5_buys_112 rfl rfl ?_ ?_
    · refine tr_sub [2, 3, 5, 6, 7, 0] (lv' := [(0, .ref (tn_ad E 5)), (2, .int x2), (4, .int x4), (5, .int x5), (6, .int x6), (9, .long w1)]) rfl ?_
      exact b_X5_buys_136 g o  _ _ _ _ _ _
    · refine tr_aload_n g 2 116 dX5_buys_115 rfl rfl rfl ?_
      refine tr_lload g 0 118 dX5_buys_116 rfl rfl ?_
      refine tr_ldc2 (v := 256) g wd_942 121 dX5_buys_118 rfl ?_
      refine tr_lmul g 122 dX5_buys_121 rfl ?_
      refine tr_ldc2 (v := 360360) g wd_943 125 dX5_buys_122 rfl ?_
      refine tr_lmul g 126 dX5_buys_125 rfl ?_
      refine tr_iconst (v := 1) g 127 dX5_buys_126 rfl rfl ?_
      refine tr_iload g 5 129 dX5_buys_127 rfl rfl ?_
      refine tr_ishl g 130 dX5_buys_129 rfl ?_
      refine tr_iload g 6 132 dX5_buys_130 rfl rfl ?_
      refine kv_X5_parts g wd_944 ⟨Nat.le_of_ble_eq_true rfl, Nat.le_of_ble_eq_true rfl⟩ (Nat.le_of_ble_eq_true rfl) 135 dX5_buys_132 rfl (fun _ σ2 => ?_)
      exact tr_vret g o dX5_buys_135
set_option maxHeartbeats 4000000 in
set_option maxRecDepth 20000 in
theorem b_X5_buys {E : tn_E} {G : tn_G} (g : tn_Ok E G cX5_buys RX5 15 (tn_rm 2 49)) (o : tn_Om E G none)  (a1 : Int32) (σ : tn_M) : tn_V E G tn_ve 0 [(0, .ref (tn_ad E 5)), (1, .int a1)] [] σ (f_X5_buys a1 σ) := by
  unfold f_X5_buys
  refine tr_bipush (v := 6) g 2 dX5_buys_0 rfl rfl ?_
  refine tr_iload_n g 1 3 dX5_buys_2 rfl rfl rfl ?_
  refine tr_imul g 4 dX5_buys_3 rfl ?_
  refine tr_istore_n (lv' := [(2, .int (6 * a1)), (0, .ref (tn_ad E 5)), (1, .int a1)]) g 5 dX5_buys_4 rfl rfl (by decide) rfl ?_
  refine tr_aload_n g 1 6 dX5_buys_5 rfl rfl rfl ?_
  refine gf_X5_12 g wd_716 9 dX5_buys_6 rfl ?_
  refine tr_iload_n g 0 10 dX5_buys_9 rfl rfl rfl ?_
  refine tr_iald (N := 36) g 11 rfl rfl dX5_buys_10 rfl ?_
  refine tr_lti (fun w1 => ?_)
  refine tr_istore_n (lv' := [(3, .int w1), (2, .int (6 * a1)), (0, .ref (tn_ad E 5)), (1, .int a1)]) g 12 dX5_buys_11 rfl rfl (by decide) rfl ?_
  refine tr_aload_n g 2 13 dX5_buys_12 rfl rfl rfl ?_
  refine gf_X5_12 g wd_716 16 dX5_buys_13 rfl ?_
  refine tr_iload_n g 1 17 dX5_buys_16 rfl rfl rfl ?_
  refine tr_iconst (v := 2) g 18 dX5_buys_17 rfl rfl ?_
  refine tr_iadd g 19 dX5_buys_18 rfl ?_
  refine tr_iald (N := 36) g 20 rfl rfl dX5_buys_19 rfl ?_
  refine tr_lti (fun w2 => ?_)
  refine tr_istore (lv' := [(4, .int w2), (3, .int w1), (2, .int (6 * a1)), (0, .ref (tn_ad E 5)), (1, .int a1)]) g 22 dX5_buys_20 rfl (by decide) rfl ?_
  refine tr_aload_n g 3 23 dX5_buys_22 rfl rfl rfl ?_
  refine gf_X5_12 g wd_716 26 dX5_buys_23 rfl ?_
  refine tr_iload_n g 2 27 dX5_buys_26 rfl rfl rfl ?_
  refine tr_iconst (v := 5) g 28 dX5_buys_27 rfl rfl ?_
  refine tr_iadd g 29 dX5_buys_28 rfl ?_
  refine tr_iald (N := 36) g 30 rfl rfl dX5_buys_29 rfl ?_
  refine tr_lti (fun w3 => ?_)
  refine tr_istore (lv' := [(5, .int w3), (4, .int w2), (3, .int w1), (2, .int (6 * a1)), (0, .ref (tn_ad E 5)), (1, .int a1)]) g 32 dX5_buys_30 rfl (by decide) rfl ?_
  refine tr_aload_n g 4 33 dX5_buys_32 rfl rfl rfl ?_
  refine tr_iload_n g 2 34 dX5_buys_33 rfl rfl rfl ?_
  refine kv_X5_openIn g wd_916 ⟨Nat.le_of_ble_eq_true rfl, Nat.le_of_ble_eq_true rfl⟩ (Nat.le_of_ble_eq_true rfl) 37 dX5_buys_34 rfl (fun r5 σ4 => ?_)
  refine tr_istore (lv' := [(6, .int r5), (5, .int w3), (4, .int w2), (3, .int w1), (2, .int (6 * a1)), (0, .ref (tn_ad E 5)), (1, .int a1)]) g 39 dX5_buys_37 rfl (by decide) rfl ?_
  refine tr_iload g 0 41 dX5_buys_39 rfl rfl ?_
  refine kv_X5_ones g wd_939 ⟨Nat.le_of_ble_eq_true rfl, Nat.le_of_ble_eq_true rfl⟩ (Nat.le_of_ble_eq_true rfl) 44 dX5_buys_41 rfl (fun r7 σ6 => ?_)
  refine tr_istore (lv' := [(7, .int r7), (6, .int r5), (5, .int w3), (4, .int w2), (3, .int w1), (2, .int (6 * a1)), (0, .ref (tn_ad E 5)), (1, .int a1)]) g 46 dX5_buys_44 rfl (by decide) rfl ?_
  refine tr_bipush (v := 16) g 48 dX5_buys_46 rfl rfl ?_
  refine tr_iload g 0 50 dX5_buys_48 rfl rfl ?_
  refine tr_iconst (v := 1) g 51 dX5_buys_50 rfl rfl ?_
  refine tr_icmp_le g 68 54 dX5_buys_51 rfl rfl ?_ ?_
  · refine tr_iconst (v := 0) g 69 dX5_buys_68 rfl rfl ?_
    refine tr_sub [6, 5, 4, 3, 2, 1] (lv' := [(0, .ref (tn_ad E 5)), (2, .int (6 * a1)), (3, .int w1), (4, .int w2), (5, .int w3), (6, .int r5)]) rfl ?_
    exact b_X5_buys_69 g o  _ _ _ _ _ _ _ _
  · refine tr_aload_n g 6 55 dX5_buys_54 rfl rfl rfl ?_
    refine gf_X5_13 g wd_717 58 dX5_buys_55 rfl ?_
    refine tr_iconst (v := 0) g 59 dX5_buys_58 rfl rfl ?_
    refine tr_ialdK (N := 8) g 60 0 rfl rfl rfl (by decide) dX5_buys_59 rfl ?_
    refine tr_iload g 0 62 dX5_buys_60 rfl rfl ?_
    refine tr_iconst (v := 1) g 63 dX5_buys_62 rfl rfl ?_
    refine tr_isub g 64 dX5_buys_63 rfl ?_
    refine tr_imul g 65 dX5_buys_64 rfl ?_
    refine tr_goto g 69 dX5_buys_65 rfl ?_
    refine tr_sub [6, 5, 4, 3, 2, 1] (lv' := [(0, .ref (tn_ad E 5)), (2, .int (6 * a1)), (3, .int w1), (4, .int w2), (5, .int w3), (6, .int r5)]) rfl ?_
    exact b_X5_buys_69 g o  _ _ _ _ _ _ _ _
theorem ok_X5_buys {E : tn_E} {l : Launch}   (a1 : Int32) {σ : tn_M} {r : Unit} {σ' : tn_M} (h : f_X5_buys a1 σ = some (r, σ')) : tn_C E l yX5_buys cX5_buys 15 none (tn_rm 2 49) [.ref (tn_ad E 5), .int a1] σ (tn_ve r) σ' :=
  tn_met (by decide) (Nat.le_of_ble_eq_true rfl) (fun G _ g o => b_X5_buys g o  a1 σ) h
theorem yy_X5_buys : tn_Yv RX5 yX5_buys cX5_buys 15 none 1 := ⟨wd_938, wd_937, wd_41, wd_70, by decide, by decide, by decide +kernel⟩
theorem kv_X5_buys {E : tn_E} {G : tn_G} {cc : ByteArray} {own : String} {nL : Nat} {R : Room} {ρ : Type} {enc : ρ → Option Value} {pc : Nat} {lv : List (Nat × Value)} {st : List Value} {σ : tn_M} {kk : Unit → tn_M → Option (ρ × tn_M)} {i : Nat}  {a1 : Int32} (g : tn_Ok E G cc own nL R)  (hw : Cond.methodLink own i yX5_buys ∈ tn_T) (hroom : 3 ≤ R.frames ∧ 83 ≤ R.locals) (hW : (st.map fun v => v.category).sum ≤ 8) (n : Nat) (hd : decode cc pc = .ok (.invokevirtual i, 3)) (hn : pc + 3 = n) (k : ∀ r σ1, tn_V E G enc n lv (st) σ1 (kk r σ1)) : tn_V E G enc pc lv (.int a1 :: .ref (tn_ad E 5) :: st) σ (tn_bd (f_X5_buys a1 σ) kk) :=
  tr_callV (As := [.int a1]) (enc1 := tn_ve) g yy_X5_buys hw (ci := 5) rfl (by decide) rfl (fun r σ1 h => ok_X5_buys  a1 h) ⟨rfl, rfl⟩ ⟨hroom.1, by have h2 := hroom.2; show 8 + (15 + 11) + 49 ≤ R.locals; omega⟩ rfl rfl hW n hd hn k
/-! X5_earnAll -/
def F_X5_earnAll_154 (c48 : Int32 → tn_M → Option (Unit × tn_M)) (x1 : Int32) (y1 : Int32) (y2 : Int64) (y3 : Int64) (σ : tn_M) : Option (Unit × tn_M) :=
  tn_ck y1 5 <|
  tn_lt (tn_sl σ 47 (tn_x y1) (y2 - y3)) fun σ1 =>
  c48 (x1 + 1) σ1
def F_X5_earnAll_119 (c48 : Int32 → tn_M → Option (Unit × tn_M)) (x1 : Int32) (y0 : Int32) (σ : tn_M) : Option (Unit × tn_M) :=
  tn_ck x1 5 <|
  if y0 = 0 then
    F_X5_earnAll_154 c48 x1 x1 (σ.2 47 (tn_x x1)) 0 σ
  else
    F_X5_earnAll_154 c48 x1 x1 (σ.2 47 (tn_x x1)) ((738017280 * (Int32.toInt64 (σ.1 41 3))) * (Int32.toInt64 (σ.1 41 4))) σ
def F_X5_earnAll_118 (c48 : Int32 → tn_M → Option (Unit × tn_M)) (x1 : Int32) (σ : tn_M) : Option (Unit × tn_M) :=
  F_X5_earnAll_119 c48 x1 0 σ
def F_X5_earnAll_48  : Nat → Int32 → tn_M → Option (Unit × tn_M)
  | 0, _, _ => none
  | tn_n + 1, x1, σ => 
    if (σ.1 5 8) ≤ x1 then
      some ((), σ)
    else
      tn_ck x1 5 <|
      tn_ck x1 5 <|
      tn_ck x1 5 <|
      tn_ck x1 5 <|
      tn_lt (tn_sl σ 47 (tn_x x1) ((σ.2 47 (tn_x x1)) - ((11808276480 * (Int32.toInt64 (σ.1 46 (tn_x x1)))) * (Int32.toInt64 (σ.1 44 (tn_x x1)))))) fun σ1 =>
      if (σ1.1 5 18) = 0 then
        F_X5_earnAll_118 (fun z0 zs => F_X5_earnAll_48 tn_n z0 zs) x1 σ1
      else
        tn_bd (f_X5_isBound x1 σ1) fun r3 σ2 =>
        if r3 = 0 then
          F_X5_earnAll_118 (fun z0 zs => F_X5_earnAll_48 tn_n z0 zs) x1 σ2
        else
          tn_ck x1 5 <|
          if (σ2.1 44 (tn_x x1)) ≤ (σ2.1 41 1) then
            F_X5_earnAll_118 (fun z0 zs => F_X5_earnAll_48 tn_n z0 zs) x1 σ2
          else
            F_X5_earnAll_119 (fun z0 zs => F_X5_earnAll_48 tn_n z0 zs) x1 1 σ2
def F_X5_earnAll_46   (σ : tn_M) : Option (Unit × tn_M) :=
  F_X5_earnAll_48 tn_fuel 0 σ
def F_X5_earnAll_27  : Nat → Int32 → tn_M → Option (Unit × tn_M)
  | 0, _, _ => none
  | tn_n + 1, x1, σ => 
    if (σ.1 5 11) ≤ x1 then
      F_X5_earnAll_46 σ
    else
      tn_bd (f_X5_buys x1 σ) fun _ σ1 =>
      F_X5_earnAll_27 tn_n (x1 + 1) σ1
def F_X5_earnAll_25   (σ : tn_M) : Option (Unit × tn_M) :=
  F_X5_earnAll_27 tn_fuel 0 σ
def F_X5_earnAll_7  : Nat → Int32 → tn_M → Option (Unit × tn_M)
  | 0, _, _ => none
  | tn_n + 1, x1, σ => 
    if 5 ≤ x1 then
      F_X5_earnAll_25 σ
    else
      tn_ck x1 5 <|
      tn_lt (tn_sl σ 47 (tn_x x1) 0) fun σ1 =>
      F_X5_earnAll_7 tn_n (x1 + 1) σ1
def f_X5_earnAll   (σ : tn_M) : Option (Unit × tn_M) :=
  tn_lt (tn_sl σ 5 23 0) fun σ1 =>
  F_X5_earnAll_7 tn_fuel 0 σ1
set_option maxHeartbeats 4000000 in
set_option maxRecDepth 20000 in
theorem b_X5_earnAll_154 {E : tn_E} {G : tn_G} (g : tn_Ok E G cX5_earnAll RX5 3 (tn_rm 3 83)) (o : tn_Om E G none) (c48 : Int32 → tn_M → Option (Unit × tn_M)) (hc48 : ∀ (x1 : Int32) (σ : tn_M), tn_V E G tn_ve 48 [(0, .ref (tn_ad E 5)), (1, .int x1)] [] σ (c48 x1 σ)) (x1 : Int32) (y1 : Int32) (y2 : Int64) (y3 : Int64) (σ : tn_M) : tn_V E G tn_ve 154 [(0, .ref (tn_ad E 5)), (1, .int x1)] [.long y3, .long y2, .int y1, .ref (tn_ad E 47)] σ (F_X5_earnAll_154 c48 x1 y1 y2 y3 σ) := by
  unfold F_X5_earnAll_154
  refine tr_lsub g 155 dX5_earnAll_154 rfl ?_
  refine tr_last (N := 5) g 156 rfl rfl dX5_earnAll_155 rfl (fun σ1 => ?_)
  refine tr_iinc (lv' := [(1, .int (x1 + 1)), (0, .ref (tn_ad E 5))]) (x := (x1 + 1)) g 1 159 dX5_earnAll_156 rfl rfl rfl (by decide) rfl ?_
  refine tr_goto g 48 dX5_earnAll_159 rfl ?_
  refine tr_sub [1, 0] (lv' := [(0, .ref (tn_ad E 5)), (1, .int (x1 + 1))]) rfl ?_
  exact hc48 _ _
set_option maxHeartbeats 4000000 in
set_option maxRecDepth 20000 in
theorem b_X5_earnAll_119 {E : tn_E} {G : tn_G} (g : tn_Ok E G cX5_earnAll RX5 3 (tn_rm 3 83)) (o : tn_Om E G none) (c48 : Int32 → tn_M → Option (Unit × tn_M)) (hc48 : ∀ (x1 : Int32) (σ : tn_M), tn_V E G tn_ve 48 [(0, .ref (tn_ad E 5)), (1, .int x1)] [] σ (c48 x1 σ)) (x1 : Int32) (y0 : Int32) (σ : tn_M) : tn_V E G tn_ve 119 [(0, .ref (tn_ad E 5)), (1, .int x1)] [.int y0] σ (F_X5_earnAll_119 c48 x1 y0 σ) := by
  unfold F_X5_earnAll_119
  refine tr_istore_n (lv' := [(2, .int y0), (0, .ref (tn_ad E 5)), (1, .int x1)]) g 120 dX5_earnAll_119 rfl rfl (by decide) rfl ?_
  refine tr_aload_n g 1 121 dX5_earnAll_120 rfl rfl rfl ?_
  refine gf_X5_22 g wd_726 124 dX5_earnAll_121 rfl ?_
  refine tr_iload_n g 2 125 dX5_earnAll_124 rfl rfl rfl ?_
  refine tr_dup2 g 126 dX5_earnAll_125 rfl rfl rfl ?_
  refine tr_lald (N := 5) g 127 rfl rfl dX5_earnAll_126 rfl ?_
  refine tr_iload_n g 0 128 dX5_earnAll_127 rfl rfl rfl ?_
  refine tr_if_eq g 153 131 dX5_earnAll_128 rfl rfl ?_ ?_
  · refine tr_lconst (v := 0) g 154 dX5_earnAll_153 rfl rfl ?_
    refine tr_sub [1, 2] (lv' := [(0, .ref (tn_ad E 5)), (1, .int x1)]) rfl ?_
    exact b_X5_earnAll_154 g o c48 hc48 _ _ _ _ _
  · refine tr_ldc2 (v := 738017280) g wd_954 134 dX5_earnAll_131 rfl ?_
    refine tr_aload_n g 1 135 dX5_earnAll_134 rfl rfl rfl ?_
    refine gf_X5_13 g wd_717 138 dX5_earnAll_135 rfl ?_
    refine tr_iconst (v := 3) g 139 dX5_earnAll_138 rfl rfl ?_
    refine tr_ialdK (N := 8) g 140 3 rfl rfl rfl (by decide) dX5_earnAll_139 rfl ?_
    refine tr_i2l g 141 dX5_earnAll_140 rfl ?_
    refine tr_lmul g 142 dX5_earnAll_141 rfl ?_
    refine tr_aload_n g 1 143 dX5_earnAll_142 rfl rfl rfl ?_
    refine gf_X5_13 g wd_717 146 dX5_earnAll_143 rfl ?_
    refine tr_iconst (v := 4) g 147 dX5_earnAll_146 rfl rfl ?_
    refine tr_ialdK (N := 8) g 148 4 rfl rfl rfl (by decide) dX5_earnAll_147 rfl ?_
    refine tr_i2l g 149 dX5_earnAll_148 rfl ?_
    refine tr_lmul g 150 dX5_earnAll_149 rfl ?_
    refine tr_goto g 154 dX5_earnAll_150 rfl ?_
    refine tr_sub [1, 2] (lv' := [(0, .ref (tn_ad E 5)), (1, .int x1)]) rfl ?_
    exact b_X5_earnAll_154 g o c48 hc48 _ _ _ _ _
set_option maxHeartbeats 4000000 in
set_option maxRecDepth 20000 in
theorem b_X5_earnAll_118 {E : tn_E} {G : tn_G} (g : tn_Ok E G cX5_earnAll RX5 3 (tn_rm 3 83)) (o : tn_Om E G none) (c48 : Int32 → tn_M → Option (Unit × tn_M)) (hc48 : ∀ (x1 : Int32) (σ : tn_M), tn_V E G tn_ve 48 [(0, .ref (tn_ad E 5)), (1, .int x1)] [] σ (c48 x1 σ)) (x1 : Int32) (σ : tn_M) : tn_V E G tn_ve 118 [(0, .ref (tn_ad E 5)), (1, .int x1)] [] σ (F_X5_earnAll_118 c48 x1 σ) := by
  unfold F_X5_earnAll_118
  refine tr_iconst (v := 0) g 119 dX5_earnAll_118 rfl rfl ?_
  exact b_X5_earnAll_119 g o c48 hc48 _ _ _
set_option maxHeartbeats 4000000 in
set_option maxRecDepth 20000 in
theorem b_X5_earnAll_48 {E : tn_E} {G : tn_G} (g : tn_Ok E G cX5_earnAll RX5 3 (tn_rm 3 83)) (o : tn_Om E G none)  : ∀ (n : Nat) (x1 : Int32) (σ : tn_M), tn_V E G tn_ve 48 [(0, .ref (tn_ad E 5)), (1, .int x1)] [] σ (F_X5_earnAll_48 n x1 σ) := by
  intro n
  induction n with
  | zero => intros; exact tr_none
  | succ tn_n ih =>
    intro x1 σ
    rw [F_X5_earnAll_48]
    refine tr_iload_n g 1 49 dX5_earnAll_48 rfl rfl rfl ?_
    refine tr_aload_n g 0 50 dX5_earnAll_49 rfl rfl rfl ?_
    refine gf_X5_8 g wd_712 53 dX5_earnAll_50 rfl ?_
    refine tr_icmp_ge g 162 56 dX5_earnAll_53 rfl rfl ?_ ?_
    · exact tr_vret g o dX5_earnAll_162
    · refine tr_aload_n g 0 57 dX5_earnAll_56 rfl rfl rfl ?_
      refine gf_X5_22 g wd_726 60 dX5_earnAll_57 rfl ?_
      refine tr_iload_n g 1 61 dX5_earnAll_60 rfl rfl rfl ?_
      refine tr_dup2 g 62 dX5_earnAll_61 rfl rfl rfl ?_
      refine tr_lald (N := 5) g 63 rfl rfl dX5_earnAll_62 rfl ?_
      refine tr_ldc2 (v := 11808276480) g wd_953 66 dX5_earnAll_63 rfl ?_
      refine tr_aload_n g 0 67 dX5_earnAll_66 rfl rfl rfl ?_
      refine gf_X5_21 g wd_725 70 dX5_earnAll_67 rfl ?_
      refine tr_iload_n g 1 71 dX5_earnAll_70 rfl rfl rfl ?_
      refine tr_iald (N := 5) g 72 rfl rfl dX5_earnAll_71 rfl ?_
      refine tr_i2l g 73 dX5_earnAll_72 rfl ?_
      refine tr_lmul g 74 dX5_earnAll_73 rfl ?_
      refine tr_aload_n g 0 75 dX5_earnAll_74 rfl rfl rfl ?_
      refine gf_X5_16 g wd_720 78 dX5_earnAll_75 rfl ?_
      refine tr_iload_n g 1 79 dX5_earnAll_78 rfl rfl rfl ?_
      refine tr_iald (N := 5) g 80 rfl rfl dX5_earnAll_79 rfl ?_
      refine tr_i2l g 81 dX5_earnAll_80 rfl ?_
      refine tr_lmul g 82 dX5_earnAll_81 rfl ?_
      refine tr_lsub g 83 dX5_earnAll_82 rfl ?_
      refine tr_last (N := 5) g 84 rfl rfl dX5_earnAll_83 rfl (fun σ1 => ?_)
      refine tr_aload_n g 0 85 dX5_earnAll_84 rfl rfl rfl ?_
      refine gf_X5_18 g wd_722 88 dX5_earnAll_85 rfl ?_
      refine tr_if_eq g 118 91 dX5_earnAll_88 rfl rfl ?_ ?_
      · exact b_X5_earnAll_118 g o (fun z0 zs => F_X5_earnAll_48 tn_n z0 zs) (fun z0 zs => ih z0 zs) _ _
      · refine tr_aload_n g 0 92 dX5_earnAll_91 rfl rfl rfl ?_
        refine tr_iload_n g 1 93 dX5_earnAll_92 rfl rfl rfl ?_
        refine kv_X5_isBound g wd_881 ⟨Nat.le_of_ble_eq_true rfl, Nat.le_of_ble_eq_true rfl⟩ (Nat.le_of_ble_eq_true rfl) 96 dX5_earnAll_93 rfl (fun r3 σ2 => ?_)
        refine tr_if_eq g 118 99 dX5_earnAll_96 rfl rfl ?_ ?_
        · exact b_X5_earnAll_118 g o (fun z0 zs => F_X5_earnAll_48 tn_n z0 zs) (fun z0 zs => ih z0 zs) _ _
        · refine tr_aload_n g 0 100 dX5_earnAll_99 rfl rfl rfl ?_
          refine gf_X5_16 g wd_720 103 dX5_earnAll_100 rfl ?_
          refine tr_iload_n g 1 104 dX5_earnAll_103 rfl rfl rfl ?_
          refine tr_iald (N := 5) g 105 rfl rfl dX5_earnAll_104 rfl ?_
          refine tr_aload_n g 0 106 dX5_earnAll_105 rfl rfl rfl ?_
          refine gf_X5_13 g wd_717 109 dX5_earnAll_106 rfl ?_
          refine tr_iconst (v := 1) g 110 dX5_earnAll_109 rfl rfl ?_
          refine tr_ialdK (N := 8) g 111 1 rfl rfl rfl (by decide) dX5_earnAll_110 rfl ?_
          refine tr_icmp_le g 118 114 dX5_earnAll_111 rfl rfl ?_ ?_
          · exact b_X5_earnAll_118 g o (fun z0 zs => F_X5_earnAll_48 tn_n z0 zs) (fun z0 zs => ih z0 zs) _ _
          · refine tr_iconst (v := 1) g 115 dX5_earnAll_114 rfl rfl ?_
            refine tr_goto g 119 dX5_earnAll_115 rfl ?_
            exact b_X5_earnAll_119 g o (fun z0 zs => F_X5_earnAll_48 tn_n z0 zs) (fun z0 zs => ih z0 zs) _ _ _
set_option maxHeartbeats 4000000 in
set_option maxRecDepth 20000 in
theorem b_X5_earnAll_46 {E : tn_E} {G : tn_G} (g : tn_Ok E G cX5_earnAll RX5 3 (tn_rm 3 83)) (o : tn_Om E G none)   (σ : tn_M) : tn_V E G tn_ve 46 [(0, .ref (tn_ad E 5))] [] σ (F_X5_earnAll_46 σ) := by
  unfold F_X5_earnAll_46
  refine tr_iconst (v := 0) g 47 dX5_earnAll_46 rfl rfl ?_
  refine tr_istore_n (lv' := [(1, .int 0), (0, .ref (tn_ad E 5))]) g 48 dX5_earnAll_47 rfl rfl (by decide) rfl ?_
  refine tr_sub [1, 0] (lv' := [(0, .ref (tn_ad E 5)), (1, .int 0)]) rfl ?_
  exact b_X5_earnAll_48 g o  tn_fuel _ _
set_option maxHeartbeats 4000000 in
set_option maxRecDepth 20000 in
theorem b_X5_earnAll_27 {E : tn_E} {G : tn_G} (g : tn_Ok E G cX5_earnAll RX5 3 (tn_rm 3 83)) (o : tn_Om E G none)  : ∀ (n : Nat) (x1 : Int32) (σ : tn_M), tn_V E G tn_ve 27 [(0, .ref (tn_ad E 5)), (1, .int x1)] [] σ (F_X5_earnAll_27 n x1 σ) := by
  intro n
  induction n with
  | zero => intros; exact tr_none
  | succ tn_n ih =>
    intro x1 σ
    rw [F_X5_earnAll_27]
    refine tr_iload_n g 1 28 dX5_earnAll_27 rfl rfl rfl ?_
    refine tr_aload_n g 0 29 dX5_earnAll_28 rfl rfl rfl ?_
    refine gf_X5_11 g wd_715 32 dX5_earnAll_29 rfl ?_
    refine tr_icmp_ge g 46 35 dX5_earnAll_32 rfl rfl ?_ ?_
    · refine tr_sub [0] (lv' := [(0, .ref (tn_ad E 5))]) rfl ?_
      exact b_X5_earnAll_46 g o  _
    · refine tr_aload_n g 0 36 dX5_earnAll_35 rfl rfl rfl ?_
      refine tr_iload_n g 1 37 dX5_earnAll_36 rfl rfl rfl ?_
      refine kv_X5_buys g wd_935 ⟨Nat.le_of_ble_eq_true rfl, Nat.le_of_ble_eq_true rfl⟩ (Nat.le_of_ble_eq_true rfl) 40 dX5_earnAll_37 rfl (fun _ σ1 => ?_)
      refine tr_iinc (lv' := [(1, .int (x1 + 1)), (0, .ref (tn_ad E 5))]) (x := (x1 + 1)) g 1 43 dX5_earnAll_40 rfl rfl rfl (by decide) rfl ?_
      refine tr_goto g 27 dX5_earnAll_43 rfl ?_
      refine tr_sub [1, 0] (lv' := [(0, .ref (tn_ad E 5)), (1, .int (x1 + 1))]) rfl ?_
      exact ih _ _
set_option maxHeartbeats 4000000 in
set_option maxRecDepth 20000 in
theorem b_X5_earnAll_25 {E : tn_E} {G : tn_G} (g : tn_Ok E G cX5_earnAll RX5 3 (tn_rm 3 83)) (o : tn_Om E G none)   (σ : tn_M) : tn_V E G tn_ve 25 [(0, .ref (tn_ad E 5))] [] σ (F_X5_earnAll_25 σ) := by
  unfold F_X5_earnAll_25
  refine tr_iconst (v := 0) g 26 dX5_earnAll_25 rfl rfl ?_
  refine tr_istore_n (lv' := [(1, .int 0), (0, .ref (tn_ad E 5))]) g 27 dX5_earnAll_26 rfl rfl (by decide) rfl ?_
  refine tr_sub [1, 0] (lv' := [(0, .ref (tn_ad E 5)), (1, .int 0)]) rfl ?_
  exact b_X5_earnAll_27 g o  tn_fuel _ _
set_option maxHeartbeats 4000000 in
set_option maxRecDepth 20000 in
theorem b_X5_earnAll_7 {E : tn_E} {G : tn_G} (g : tn_Ok E G cX5_earnAll RX5 3 (tn_rm 3 83)) (o : tn_Om E G none)  : ∀ (n : Nat) (x1 : Int32) (σ : tn_M), tn_V E G tn_ve 7 [(0, .ref (tn_ad E 5)), (1, .int x1)] [] σ (F_X5_earnAll_7 n x1 σ) := by
  intro n
  induction n with
  | zero => intros; exact tr_none
  | succ tn_n ih =>
    intro x1 σ
    rw [F_X5_earnAll_7]
    refine tr_iload_n g 1 8 dX5_earnAll_7 rfl rfl rfl ?_
    refine tr_iconst (v := 5) g 9 dX5_earnAll_8 rfl rfl ?_
    refine tr_icmp_ge g 25 12 dX5_earnAll_9 rfl rfl ?_ ?_
    · refine tr_sub [0] (lv' := [(0, .ref (tn_ad E 5))]) rfl ?_
      exact b_X5_earnAll_25 g o  _
    · refine tr_aload_n g 0 13 dX5_earnAll_12 rfl rfl rfl ?_
      refine gf_X5_22 g wd_726 16 dX5_earnAll_13 rfl ?_
      refine tr_iload_n g 1 17 dX5_earnAll_16 rfl rfl rfl ?_
      refine tr_lconst (v := 0) g 18 dX5_earnAll_17 rfl rfl ?_
      refine tr_last (N := 5) g 19 rfl rfl dX5_earnAll_18 rfl (fun σ1 => ?_)
      refine tr_iinc (lv' := [(1, .int (x1 + 1)), (0, .ref (tn_ad E 5))]) (x := (x1 + 1)) g 1 22 dX5_earnAll_19 rfl rfl rfl (by decide) rfl ?_
      refine tr_goto g 7 dX5_earnAll_22 rfl ?_
      refine tr_sub [1, 0] (lv' := [(0, .ref (tn_ad E 5)), (1, .int (x1 + 1))]) rfl ?_
      exact ih _ _
set_option maxHeartbeats 4000000 in
set_option maxRecDepth 20000 in
theorem b_X5_earnAll {E : tn_E} {G : tn_G} (g : tn_Ok E G cX5_earnAll RX5 3 (tn_rm 3 83)) (o : tn_Om E G none)   (σ : tn_M) : tn_V E G tn_ve 0 [(0, .ref (tn_ad E 5))] [] σ (f_X5_earnAll σ) := by
  unfold f_X5_earnAll
  refine tr_aload_n g 0 1 dX5_earnAll_0 rfl rfl rfl ?_
  refine tr_lconst (v := 0) g 2 dX5_earnAll_1 rfl rfl ?_
  refine pf_X5_23 g wd_727 5 dX5_earnAll_2 rfl (fun σ1 => ?_)
  refine tr_iconst (v := 0) g 6 dX5_earnAll_5 rfl rfl ?_
  refine tr_istore_n (lv' := [(1, .int 0), (0, .ref (tn_ad E 5))]) g 7 dX5_earnAll_6 rfl rfl (by decide) rfl ?_
  refine tr_sub [1, 0] (lv' := [(0, .ref (tn_ad E 5)), (1, .int 0)]) rfl ?_
  exact b_X5_earnAll_7 g o  tn_fuel _ _
theorem ok_X5_earnAll {E : tn_E} {l : Launch}    {σ : tn_M} {r : Unit} {σ' : tn_M} (h : f_X5_earnAll  σ = some (r, σ')) : tn_C E l yX5_earnAll cX5_earnAll 3 none (tn_rm 3 83) [.ref (tn_ad E 5)] σ (tn_ve r) σ' :=
  tn_met (by decide) (Nat.le_of_ble_eq_true rfl) (fun G _ g o => b_X5_earnAll g o   σ) h
theorem yy_X5_earnAll : tn_Yv RX5 yX5_earnAll cX5_earnAll 3 none 0 := ⟨wd_934, wd_933, wd_40, wd_70, by decide, by decide, by decide +kernel⟩
theorem kv_X5_earnAll {E : tn_E} {G : tn_G} {cc : ByteArray} {own : String} {nL : Nat} {R : Room} {ρ : Type} {enc : ρ → Option Value} {pc : Nat} {lv : List (Nat × Value)} {st : List Value} {σ : tn_M} {kk : Unit → tn_M → Option (ρ × tn_M)} {i : Nat}   (g : tn_Ok E G cc own nL R)  (hw : Cond.methodLink own i yX5_earnAll ∈ tn_T) (hroom : 4 ≤ R.frames ∧ 105 ≤ R.locals) (hW : (st.map fun v => v.category).sum ≤ 8) (n : Nat) (hd : decode cc pc = .ok (.invokevirtual i, 3)) (hn : pc + 3 = n) (k : ∀ r σ1, tn_V E G enc n lv (st) σ1 (kk r σ1)) : tn_V E G enc pc lv (.ref (tn_ad E 5) :: st) σ (tn_bd (f_X5_earnAll  σ) kk) :=
  tr_callV (As := []) (enc1 := tn_ve) g yy_X5_earnAll hw (ci := 5) rfl (by decide) rfl (fun r σ1 h => ok_X5_earnAll   h) ⟨rfl, rfl⟩ ⟨hroom.1, by have h2 := hroom.2; show 8 + (3 + 11) + 83 ≤ R.locals; omega⟩ rfl rfl hW n hd hn k
/-! X5_earnsBy -/
def f_X5_earnsBy  (a1 : Int32) (a2 : Int32) (σ : tn_M) : Option (Int64 × tn_M) :=
  tn_ck a1 5 <|
  tn_lt (α := Int32) (σ.1 44 (tn_x a1)) fun w1 =>
  tn_ck a1 5 <|
  tn_lt (tn_si σ 44 (tn_x a1) a2) fun σ2 =>
  tn_bd (f_X5_earnAll σ2) fun _ σ3 =>
  tn_ck a1 5 <|
  tn_lt (tn_si σ3 44 (tn_x a1) w1) fun σ4 =>
  tn_ck a1 5 <|
  some ((σ4.2 47 (tn_x a1)), σ4)
set_option maxHeartbeats 4000000 in
set_option maxRecDepth 20000 in
theorem b_X5_earnsBy {E : tn_E} {G : tn_G} (g : tn_Ok E G cX5_earnsBy RX5 4 (tn_rm 4 105)) (o : tn_Om E G (some .long))  (a1 : Int32) (a2 : Int32) (σ : tn_M) : tn_V E G tn_le 0 [(0, .ref (tn_ad E 5)), (1, .int a1), (2, .int a2)] [] σ (f_X5_earnsBy a1 a2 σ) := by
  unfold f_X5_earnsBy
  refine tr_aload_n g 0 1 dX5_earnsBy_0 rfl rfl rfl ?_
  refine gf_X5_16 g wd_720 4 dX5_earnsBy_1 rfl ?_
  refine tr_iload_n g 1 5 dX5_earnsBy_4 rfl rfl rfl ?_
  refine tr_iald (N := 5) g 6 rfl rfl dX5_earnsBy_5 rfl ?_
  refine tr_lti (fun w1 => ?_)
  refine tr_istore_n (lv' := [(3, .int w1), (0, .ref (tn_ad E 5)), (1, .int a1), (2, .int a2)]) g 7 dX5_earnsBy_6 rfl rfl (by decide) rfl ?_
  refine tr_aload_n g 1 8 dX5_earnsBy_7 rfl rfl rfl ?_
  refine gf_X5_16 g wd_720 11 dX5_earnsBy_8 rfl ?_
  refine tr_iload_n g 2 12 dX5_earnsBy_11 rfl rfl rfl ?_
  refine tr_iload_n g 3 13 dX5_earnsBy_12 rfl rfl rfl ?_
  refine tr_iast (N := 5) g 14 rfl rfl dX5_earnsBy_13 rfl (fun σ2 => ?_)
  refine tr_aload_n g 1 15 dX5_earnsBy_14 rfl rfl rfl ?_
  refine kv_X5_earnAll g wd_931 ⟨Nat.le_of_ble_eq_true rfl, Nat.le_of_ble_eq_true rfl⟩ (Nat.le_of_ble_eq_true rfl) 18 dX5_earnsBy_15 rfl (fun _ σ3 => ?_)
  refine tr_aload_n g 1 19 dX5_earnsBy_18 rfl rfl rfl ?_
  refine gf_X5_16 g wd_720 22 dX5_earnsBy_19 rfl ?_
  refine tr_iload_n g 2 23 dX5_earnsBy_22 rfl rfl rfl ?_
  refine tr_iload_n g 0 24 dX5_earnsBy_23 rfl rfl rfl ?_
  refine tr_iast (N := 5) g 25 rfl rfl dX5_earnsBy_24 rfl (fun σ4 => ?_)
  refine tr_aload_n g 1 26 dX5_earnsBy_25 rfl rfl rfl ?_
  refine gf_X5_22 g wd_726 29 dX5_earnsBy_26 rfl ?_
  refine tr_iload_n g 2 30 dX5_earnsBy_29 rfl rfl rfl ?_
  refine tr_lald (N := 5) g 31 rfl rfl dX5_earnsBy_30 rfl ?_
  exact tr_lret g o dX5_earnsBy_31
theorem ok_X5_earnsBy {E : tn_E} {l : Launch}   (a1 : Int32) (a2 : Int32) {σ : tn_M} {r : Int64} {σ' : tn_M} (h : f_X5_earnsBy a1 a2 σ = some (r, σ')) : tn_C E l yX5_earnsBy cX5_earnsBy 4 (some .long) (tn_rm 4 105) [.ref (tn_ad E 5), .int a1, .int a2] σ (tn_le r) σ' :=
  tn_met (by decide) (Nat.le_of_ble_eq_true rfl) (fun G _ g o => b_X5_earnsBy g o  a1 a2 σ) h
theorem yy_X5_earnsBy : tn_Yv RX5 yX5_earnsBy cX5_earnsBy 4 (some .long) 2 := ⟨wd_992, wd_991, wd_48, wd_70, by decide, by decide, by decide +kernel⟩
theorem kv_X5_earnsBy {E : tn_E} {G : tn_G} {cc : ByteArray} {own : String} {nL : Nat} {R : Room} {ρ : Type} {enc : ρ → Option Value} {pc : Nat} {lv : List (Nat × Value)} {st : List Value} {σ : tn_M} {kk : Int64 → tn_M → Option (ρ × tn_M)} {i : Nat}  {a1 : Int32} {a2 : Int32} (g : tn_Ok E G cc own nL R)  (hw : Cond.methodLink own i yX5_earnsBy ∈ tn_T) (hroom : 5 ≤ R.frames ∧ 128 ≤ R.locals) (hW : (st.map fun v => v.category).sum ≤ 8) (n : Nat) (hd : decode cc pc = .ok (.invokevirtual i, 3)) (hn : pc + 3 = n) (k : ∀ r σ1, tn_V E G enc n lv (.long r :: st) σ1 (kk r σ1)) : tn_V E G enc pc lv (.int a2 :: .int a1 :: .ref (tn_ad E 5) :: st) σ (tn_bd (f_X5_earnsBy a1 a2 σ) kk) :=
  tr_callV (As := [.int a1, .int a2]) (enc1 := tn_le) g yy_X5_earnsBy hw (ci := 5) rfl (by decide) rfl (fun r σ1 h => ok_X5_earnsBy  a1 a2 h) ⟨rfl, rfl⟩ ⟨hroom.1, by have h2 := hroom.2; show 8 + (4 + 11) + 105 ≤ R.locals; omega⟩ rfl rfl hW n hd hn k
/-! X5_together -/
def F_X5_together_8  : Nat → Int64 → Int32 → tn_M → Option (Int64 × tn_M)
  | 0, _, _, _ => none
  | tn_n + 1, x1, x3, σ => 
    if (σ.1 5 8) ≤ x3 then
      some (x1, σ)
    else
      tn_ck x3 5 <|
      tn_lt (α := Int64) (x1 + (σ.2 47 (tn_x x3))) fun w1 =>
      F_X5_together_8 tn_n w1 (x3 + 1) σ
def f_X5_together   (σ : tn_M) : Option (Int64 × tn_M) :=
  tn_bd (f_X5_earnAll σ) fun _ σ1 =>
  F_X5_together_8 tn_fuel 0 0 σ1
set_option maxHeartbeats 4000000 in
set_option maxRecDepth 20000 in
theorem b_X5_together_8 {E : tn_E} {G : tn_G} (g : tn_Ok E G cX5_together RX5 4 (tn_rm 4 105)) (o : tn_Om E G (some .long))  : ∀ (n : Nat) (x1 : Int64) (x3 : Int32) (σ : tn_M), tn_V E G tn_le 8 [(0, .ref (tn_ad E 5)), (1, .long x1), (3, .int x3)] [] σ (F_X5_together_8 n x1 x3 σ) := by
  intro n
  induction n with
  | zero => intros; exact tr_none
  | succ tn_n ih =>
    intro x1 x3 σ
    rw [F_X5_together_8]
    refine tr_iload_n g 2 9 dX5_together_8 rfl rfl rfl ?_
    refine tr_aload_n g 0 10 dX5_together_9 rfl rfl rfl ?_
    refine gf_X5_8 g wd_712 13 dX5_together_10 rfl ?_
    refine tr_icmp_ge g 31 16 dX5_together_13 rfl rfl ?_ ?_
    · refine tr_lload_n g 1 32 dX5_together_31 rfl rfl rfl ?_
      exact tr_lret g o dX5_together_32
    · refine tr_lload_n g 1 17 dX5_together_16 rfl rfl rfl ?_
      refine tr_aload_n g 0 18 dX5_together_17 rfl rfl rfl ?_
      refine gf_X5_22 g wd_726 21 dX5_together_18 rfl ?_
      refine tr_iload_n g 2 22 dX5_together_21 rfl rfl rfl ?_
      refine tr_lald (N := 5) g 23 rfl rfl dX5_together_22 rfl ?_
      refine tr_ladd g 24 dX5_together_23 rfl ?_
      refine tr_ltl (fun w1 => ?_)
      refine tr_lstore_n (lv' := [(1, .long w1), (0, .ref (tn_ad E 5)), (3, .int x3)]) g 25 dX5_together_24 rfl rfl (by decide) rfl ?_
      refine tr_iinc (lv' := [(3, .int (x3 + 1)), (1, .long w1), (0, .ref (tn_ad E 5))]) (x := (x3 + 1)) g 2 28 dX5_together_25 rfl rfl rfl (by decide) rfl ?_
      refine tr_goto g 8 dX5_together_28 rfl ?_
      refine tr_sub [2, 1, 0] (lv' := [(0, .ref (tn_ad E 5)), (1, .long w1), (3, .int (x3 + 1))]) rfl ?_
      exact ih _ _ _
set_option maxHeartbeats 4000000 in
set_option maxRecDepth 20000 in
theorem b_X5_together {E : tn_E} {G : tn_G} (g : tn_Ok E G cX5_together RX5 4 (tn_rm 4 105)) (o : tn_Om E G (some .long))   (σ : tn_M) : tn_V E G tn_le 0 [(0, .ref (tn_ad E 5))] [] σ (f_X5_together σ) := by
  unfold f_X5_together
  refine tr_aload_n g 0 1 dX5_together_0 rfl rfl rfl ?_
  refine kv_X5_earnAll g wd_931 ⟨Nat.le_of_ble_eq_true rfl, Nat.le_of_ble_eq_true rfl⟩ (Nat.le_of_ble_eq_true rfl) 4 dX5_together_1 rfl (fun _ σ1 => ?_)
  refine tr_lconst (v := 0) g 5 dX5_together_4 rfl rfl ?_
  refine tr_lstore_n (lv' := [(1, .long 0), (0, .ref (tn_ad E 5))]) g 6 dX5_together_5 rfl rfl (by decide) rfl ?_
  refine tr_iconst (v := 0) g 7 dX5_together_6 rfl rfl ?_
  refine tr_istore_n (lv' := [(3, .int 0), (1, .long 0), (0, .ref (tn_ad E 5))]) g 8 dX5_together_7 rfl rfl (by decide) rfl ?_
  refine tr_sub [2, 1, 0] (lv' := [(0, .ref (tn_ad E 5)), (1, .long 0), (3, .int 0)]) rfl ?_
  exact b_X5_together_8 g o  tn_fuel _ _ _
theorem ok_X5_together {E : tn_E} {l : Launch}    {σ : tn_M} {r : Int64} {σ' : tn_M} (h : f_X5_together  σ = some (r, σ')) : tn_C E l yX5_together cX5_together 4 (some .long) (tn_rm 4 105) [.ref (tn_ad E 5)] σ (tn_le r) σ' :=
  tn_met (by decide) (Nat.le_of_ble_eq_true rfl) (fun G _ g o => b_X5_together g o   σ) h
theorem yy_X5_together : tn_Yv RX5 yX5_together cX5_together 4 (some .long) 0 := ⟨wd_976, wd_975, wd_45, wd_70, by decide, by decide, by decide +kernel⟩
theorem kv_X5_together {E : tn_E} {G : tn_G} {cc : ByteArray} {own : String} {nL : Nat} {R : Room} {ρ : Type} {enc : ρ → Option Value} {pc : Nat} {lv : List (Nat × Value)} {st : List Value} {σ : tn_M} {kk : Int64 → tn_M → Option (ρ × tn_M)} {i : Nat}   (g : tn_Ok E G cc own nL R)  (hw : Cond.methodLink own i yX5_together ∈ tn_T) (hroom : 5 ≤ R.frames ∧ 128 ≤ R.locals) (hW : (st.map fun v => v.category).sum ≤ 8) (n : Nat) (hd : decode cc pc = .ok (.invokevirtual i, 3)) (hn : pc + 3 = n) (k : ∀ r σ1, tn_V E G enc n lv (.long r :: st) σ1 (kk r σ1)) : tn_V E G enc pc lv (.ref (tn_ad E 5) :: st) σ (tn_bd (f_X5_together  σ) kk) :=
  tr_callV (As := []) (enc1 := tn_le) g yy_X5_together hw (ci := 5) rfl (by decide) rfl (fun r σ1 h => ok_X5_together   h) ⟨rfl, rfl⟩ ⟨hroom.1, by have h2 := hroom.2; show 8 + (4 + 11) + 105 ≤ R.locals; omega⟩ rfl rfl hW n hd hn k
/-! X5_answerOf -/
def F_X5_answerOf_30  : Nat → Int32 → Int32 → Int32 → Int64 → Int32 → tn_M → Option (Int32 × tn_M)
  | 0, _, _, _, _, _, _ => none
  | tn_n + 1, x1, x2, x3, x4, x6, σ => 
    if x2 < x6 then
      some (x3, σ)
    else
      tn_bd (f_X5_earnsBy x1 x6 σ) fun r2 σ1 =>
      tn_lt (α := Int32) (if r2 ≤ x4 then x3 else x6) fun v3 =>
      tn_lt (α := Int64) (if r2 ≤ x4 then x4 else r2) fun v4 =>
      F_X5_answerOf_30 tn_n x1 x2 v3 v4 (x6 + 1) σ1
def f_X5_answerOf  (a1 : Int32) (σ : tn_M) : Option (Int32 × tn_M) :=
  tn_bd (f_X5_isBound a1 σ) fun r2 σ1 =>
  tn_lt (α := Int32) (if r2 = 0 then 3 else (σ1.1 5 19)) fun v3 =>
  tn_bd (f_X5_earnsBy a1 0 σ1) fun r5 σ4 =>
  F_X5_answerOf_30 tn_fuel a1 v3 0 r5 1 σ4
set_option maxHeartbeats 4000000 in
set_option maxRecDepth 20000 in
theorem b_X5_answerOf_30 {E : tn_E} {G : tn_G} (g : tn_Ok E G cX5_answerOf RX5 9 (tn_rm 5 128)) (o : tn_Om E G (some .int))  : ∀ (n : Nat) (x1 : Int32) (x2 : Int32) (x3 : Int32) (x4 : Int64) (x6 : Int32) (σ : tn_M), tn_V E G tn_ie 30 [(0, .ref (tn_ad E 5)), (1, .int x1), (2, .int x2), (3, .int x3), (4, .long x4), (6, .int x6)] [] σ (F_X5_answerOf_30 n x1 x2 x3 x4 x6 σ) := by
  intro n
  induction n with
  | zero => intros; exact tr_none
  | succ tn_n ih =>
    intro x1 x2 x3 x4 x6 σ
    rw [F_X5_answerOf_30]
    refine tr_iload g 5 32 dX5_answerOf_30 rfl rfl ?_
    refine tr_iload_n g 2 33 dX5_answerOf_32 rfl rfl rfl ?_
    refine tr_icmp_gt g 83 36 dX5_answerOf_33 rfl rfl ?_ ?_
    · refine tr_iload_n g 3 84 dX5_answerOf_83 rfl rfl rfl ?_
      exact tr_iret g o dX5_answerOf_84
    · refine tr_aload_n g 0 37 dX5_answerOf_36 rfl rfl rfl ?_
      refine tr_iload_n g 1 38 dX5_answerOf_37 rfl rfl rfl ?_
      refine tr_iload g 5 40 dX5_answerOf_38 rfl rfl ?_
      refine kv_X5_earnsBy g wd_989 ⟨Nat.le_of_ble_eq_true rfl, Nat.le_of_ble_eq_true rfl⟩ (Nat.le_of_ble_eq_true rfl) 43 dX5_answerOf_40 rfl (fun r2 σ1 => ?_)
      refine tr_lstore (lv' := [(7, .long r2), (0, .ref (tn_ad E 5)), (1, .int x1), (2, .int x2), (3, .int x3), (4, .long x4), (6, .int x6)]) g 45 dX5_answerOf_43 rfl (by decide) rfl ?_
      refine tr_lload g 0 47 dX5_answerOf_45 rfl rfl ?_
      refine tr_lload g 5 49 dX5_answerOf_47 rfl rfl ?_
      refine tr_lleD (inj := fun z => Value.int z) g 59 58 53 dX5_answerOf_49 dX5_answerOf_50 rfl rfl (fun rs hj => ?_) (fun rs hj => ?_) (fun v3 => ?_)
      · refine tr_iload_n g 4 59 dX5_answerOf_58 rfl rfl rfl ?_
        exact hj
      · refine tr_iload g 6 55 dX5_answerOf_53 rfl rfl ?_
        refine tr_goto g 59 dX5_answerOf_55 rfl ?_
        exact hj
      · refine tr_istore_n (lv' := [(3, .int v3), (7, .long r2), (0, .ref (tn_ad E 5)), (1, .int x1), (2, .int x2), (4, .long x4), (6, .int x6)]) g 60 dX5_answerOf_59 rfl rfl (by decide) rfl ?_
        refine tr_lload g 1 62 dX5_answerOf_60 rfl rfl ?_
        refine tr_lload g 5 64 dX5_answerOf_62 rfl rfl ?_
        refine tr_lleD (inj := fun z => Value.long z) g 75 73 68 dX5_answerOf_64 dX5_answerOf_65 rfl rfl (fun rs hj => ?_) (fun rs hj => ?_) (fun v4 => ?_)
        · refine tr_lload g 5 75 dX5_answerOf_73 rfl rfl ?_
          exact hj
        · refine tr_lload g 1 70 dX5_answerOf_68 rfl rfl ?_
          refine tr_goto g 75 dX5_answerOf_70 rfl ?_
          exact hj
        · refine tr_lstore (lv' := [(4, .long v4), (3, .int v3), (7, .long r2), (0, .ref (tn_ad E 5)), (1, .int x1), (2, .int x2), (6, .int x6)]) g 77 dX5_answerOf_75 rfl (by decide) rfl ?_
          refine tr_iinc (lv' := [(6, .int (x6 + 1)), (4, .long v4), (3, .int v3), (7, .long r2), (0, .ref (tn_ad E 5)), (1, .int x1), (2, .int x2)]) (x := (x6 + 1)) g 6 80 dX5_answerOf_77 rfl rfl rfl (by decide) rfl ?_
          refine tr_goto g 30 dX5_answerOf_80 rfl ?_
          refine tr_sub [4, 5, 6, 2, 1, 0] (lv' := [(0, .ref (tn_ad E 5)), (1, .int x1), (2, .int x2), (3, .int v3), (4, .long v4), (6, .int (x6 + 1))]) rfl ?_
          exact ih _ _ _ _ _ _
set_option maxHeartbeats 4000000 in
set_option maxRecDepth 20000 in
theorem b_X5_answerOf {E : tn_E} {G : tn_G} (g : tn_Ok E G cX5_answerOf RX5 9 (tn_rm 5 128)) (o : tn_Om E G (some .int))  (a1 : Int32) (σ : tn_M) : tn_V E G tn_ie 0 [(0, .ref (tn_ad E 5)), (1, .int a1)] [] σ (f_X5_answerOf a1 σ) := by
  unfold f_X5_answerOf
  refine tr_aload_n g 0 1 dX5_answerOf_0 rfl rfl rfl ?_
  refine tr_iload_n g 1 2 dX5_answerOf_1 rfl rfl rfl ?_
  refine kv_X5_isBound g wd_881 ⟨Nat.le_of_ble_eq_true rfl, Nat.le_of_ble_eq_true rfl⟩ (Nat.le_of_ble_eq_true rfl) 5 dX5_answerOf_2 rfl (fun r2 σ1 => ?_)
  refine tr_if_eqD (inj := fun z => Value.int z) g 16 15 8 dX5_answerOf_5 rfl rfl (fun rs hj => ?_) (fun rs hj => ?_) (fun v3 => ?_)
  · refine tr_iconst (v := 3) g 16 dX5_answerOf_15 rfl rfl ?_
    exact hj
  · refine tr_aload_n g 0 9 dX5_answerOf_8 rfl rfl rfl ?_
    refine gf_X5_19 g wd_723 12 dX5_answerOf_9 rfl ?_
    refine tr_goto g 16 dX5_answerOf_12 rfl ?_
    exact hj
  · refine tr_istore_n (lv' := [(2, .int v3), (0, .ref (tn_ad E 5)), (1, .int a1)]) g 17 dX5_answerOf_16 rfl rfl (by decide) rfl ?_
    refine tr_iconst (v := 0) g 18 dX5_answerOf_17 rfl rfl ?_
    refine tr_istore_n (lv' := [(3, .int 0), (2, .int v3), (0, .ref (tn_ad E 5)), (1, .int a1)]) g 19 dX5_answerOf_18 rfl rfl (by decide) rfl ?_
    refine tr_aload_n g 2 20 dX5_answerOf_19 rfl rfl rfl ?_
    refine tr_iload_n g 3 21 dX5_answerOf_20 rfl rfl rfl ?_
    refine tr_iconst (v := 0) g 22 dX5_answerOf_21 rfl rfl ?_
    refine kv_X5_earnsBy g wd_989 ⟨Nat.le_of_ble_eq_true rfl, Nat.le_of_ble_eq_true rfl⟩ (Nat.le_of_ble_eq_true rfl) 25 dX5_answerOf_22 rfl (fun r5 σ4 => ?_)
    refine tr_lstore (lv' := [(4, .long r5), (3, .int 0), (2, .int v3), (0, .ref (tn_ad E 5)), (1, .int a1)]) g 27 dX5_answerOf_25 rfl (by decide) rfl ?_
    refine tr_iconst (v := 1) g 28 dX5_answerOf_27 rfl rfl ?_
    refine tr_istore (lv' := [(6, .int 1), (4, .long r5), (3, .int 0), (2, .int v3), (0, .ref (tn_ad E 5)), (1, .int a1)]) g 30 dX5_answerOf_28 rfl (by decide) rfl ?_
    refine tr_sub [4, 5, 3, 2, 1, 0] (lv' := [(0, .ref (tn_ad E 5)), (1, .int a1), (2, .int v3), (3, .int 0), (4, .long r5), (6, .int 1)]) rfl ?_
    exact b_X5_answerOf_30 g o  tn_fuel _ _ _ _ _ _
theorem ok_X5_answerOf {E : tn_E} {l : Launch}   (a1 : Int32) {σ : tn_M} {r : Int32} {σ' : tn_M} (h : f_X5_answerOf a1 σ = some (r, σ')) : tn_C E l yX5_answerOf cX5_answerOf 9 (some .int) (tn_rm 5 128) [.ref (tn_ad E 5), .int a1] σ (tn_ie r) σ' :=
  tn_met (by decide) (Nat.le_of_ble_eq_true rfl) (fun G _ g o => b_X5_answerOf g o  a1 σ) h
theorem yy_X5_answerOf : tn_Yv RX5 yX5_answerOf cX5_answerOf 9 (some .int) 1 := ⟨wd_988, wd_987, wd_47, wd_70, by decide, by decide, by decide +kernel⟩
theorem kv_X5_answerOf {E : tn_E} {G : tn_G} {cc : ByteArray} {own : String} {nL : Nat} {R : Room} {ρ : Type} {enc : ρ → Option Value} {pc : Nat} {lv : List (Nat × Value)} {st : List Value} {σ : tn_M} {kk : Int32 → tn_M → Option (ρ × tn_M)} {i : Nat}  {a1 : Int32} (g : tn_Ok E G cc own nL R)  (hw : Cond.methodLink own i yX5_answerOf ∈ tn_T) (hroom : 6 ≤ R.frames ∧ 156 ≤ R.locals) (hW : (st.map fun v => v.category).sum ≤ 8) (n : Nat) (hd : decode cc pc = .ok (.invokevirtual i, 3)) (hn : pc + 3 = n) (k : ∀ r σ1, tn_V E G enc n lv (.int r :: st) σ1 (kk r σ1)) : tn_V E G enc pc lv (.int a1 :: .ref (tn_ad E 5) :: st) σ (tn_bd (f_X5_answerOf a1 σ) kk) :=
  tr_callV (As := [.int a1]) (enc1 := tn_ie) g yy_X5_answerOf hw (ci := 5) rfl (by decide) rfl (fun r σ1 h => ok_X5_answerOf  a1 h) ⟨rfl, rfl⟩ ⟨hroom.1, by have h2 := hroom.2; show 8 + (9 + 11) + 128 ≤ R.locals; omega⟩ rfl rfl hW n hd hn k
/-! X5_earnsOf -/
def f_X5_earnsOf  (a1 : Int32) (a2 : Int32) (σ : tn_M) : Option (Int64 × tn_M) :=
  tn_bd (f_X5_tries σ) fun _ σ1 =>
  tn_bd (f_X5_earnAll σ1) fun _ σ2 =>
  tn_ck a1 5 <|
  tn_bd (f_X5_part (σ2.2 47 (tn_x a1)) 11808276480 a2 σ2) fun r4 σ3 =>
  some (r4, σ3)
set_option maxHeartbeats 4000000 in
set_option maxRecDepth 20000 in
theorem b_X5_earnsOf {E : tn_E} {G : tn_G} (g : tn_Ok E G cX5_earnsOf RX5 3 (tn_rm 6 137)) (o : tn_Om E G (some .long))  (a1 : Int32) (a2 : Int32) (σ : tn_M) : tn_V E G tn_le 0 [(0, .ref (tn_ad E 5)), (1, .int a1), (2, .int a2)] [] σ (f_X5_earnsOf a1 a2 σ) := by
  unfold f_X5_earnsOf
  refine tr_aload_n g 0 1 dX5_earnsOf_0 rfl rfl rfl ?_
  refine kv_X5_tries g wd_912 ⟨Nat.le_of_ble_eq_true rfl, Nat.le_of_ble_eq_true rfl⟩ (Nat.le_of_ble_eq_true rfl) 4 dX5_earnsOf_1 rfl (fun _ σ1 => ?_)
  refine tr_aload_n g 0 5 dX5_earnsOf_4 rfl rfl rfl ?_
  refine kv_X5_earnAll g wd_931 ⟨Nat.le_of_ble_eq_true rfl, Nat.le_of_ble_eq_true rfl⟩ (Nat.le_of_ble_eq_true rfl) 8 dX5_earnsOf_5 rfl (fun _ σ2 => ?_)
  refine tr_aload_n g 0 9 dX5_earnsOf_8 rfl rfl rfl ?_
  refine gf_X5_22 g wd_726 12 dX5_earnsOf_9 rfl ?_
  refine tr_iload_n g 1 13 dX5_earnsOf_12 rfl rfl rfl ?_
  refine tr_lald (N := 5) g 14 rfl rfl dX5_earnsOf_13 rfl ?_
  refine tr_ldc2 (v := 11808276480) g wd_953 17 dX5_earnsOf_14 rfl ?_
  refine tr_iload_n g 2 18 dX5_earnsOf_17 rfl rfl rfl ?_
  refine kv_X5_part g wd_955 ⟨Nat.le_of_ble_eq_true rfl, Nat.le_of_ble_eq_true rfl⟩ (Nat.le_of_ble_eq_true rfl) 21 dX5_earnsOf_18 rfl (fun r4 σ3 => ?_)
  exact tr_lret g o dX5_earnsOf_21
theorem ok_X5_earnsOf {E : tn_E} {l : Launch}   (a1 : Int32) (a2 : Int32) {σ : tn_M} {r : Int64} {σ' : tn_M} (h : f_X5_earnsOf a1 a2 σ = some (r, σ')) : tn_C E l yX5_earnsOf cX5_earnsOf 3 (some .long) (tn_rm 6 137) [.ref (tn_ad E 5), .int a1, .int a2] σ (tn_le r) σ' :=
  tn_met (by decide) (Nat.le_of_ble_eq_true rfl) (fun G _ g o => b_X5_earnsOf g o  a1 a2 σ) h
theorem yy_X5_earnsOf : tn_Yv RX5 yX5_earnsOf cX5_earnsOf 3 (some .long) 2 := ⟨wd_930, wd_929, wd_39, wd_70, by decide, by decide, by decide +kernel⟩
theorem kv_X5_earnsOf {E : tn_E} {G : tn_G} {cc : ByteArray} {own : String} {nL : Nat} {R : Room} {ρ : Type} {enc : ρ → Option Value} {pc : Nat} {lv : List (Nat × Value)} {st : List Value} {σ : tn_M} {kk : Int64 → tn_M → Option (ρ × tn_M)} {i : Nat}  {a1 : Int32} {a2 : Int32} (g : tn_Ok E G cc own nL R)  (hw : Cond.methodLink own i yX5_earnsOf ∈ tn_T) (hroom : 7 ≤ R.frames ∧ 159 ≤ R.locals) (hW : (st.map fun v => v.category).sum ≤ 8) (n : Nat) (hd : decode cc pc = .ok (.invokevirtual i, 3)) (hn : pc + 3 = n) (k : ∀ r σ1, tn_V E G enc n lv (.long r :: st) σ1 (kk r σ1)) : tn_V E G enc pc lv (.int a2 :: .int a1 :: .ref (tn_ad E 5) :: st) σ (tn_bd (f_X5_earnsOf a1 a2 σ) kk) :=
  tr_callV (As := [.int a1, .int a2]) (enc1 := tn_le) g yy_X5_earnsOf hw (ci := 5) rfl (by decide) rfl (fun r σ1 h => ok_X5_earnsOf  a1 a2 h) ⟨rfl, rfl⟩ ⟨hroom.1, by have h2 := hroom.2; show 8 + (3 + 11) + 137 ≤ R.locals; omega⟩ rfl rfl hW n hd hn k
/-! X5_earns -/
def F_X5_earns_24   (σ : tn_M) : Option (Int64 × tn_M) :=
  tn_bd (f_X5_no (-2) σ) fun r2 σ1 =>
  some (r2, σ1)
def f_X5_earns  (a1 : Int32) (a2 : Int32) (σ : tn_M) : Option (Int64 × tn_M) :=
  tn_bd (f_X5_isShop a1 σ) fun r2 σ1 =>
  if r2 = 0 then
    F_X5_earns_24 σ1
  else
    tn_bd (f_X5_isTwo a2 σ1) fun r4 σ3 =>
    if r4 = 0 then
      F_X5_earns_24 σ3
    else
      tn_bd (f_X5_earnsOf a1 a2 σ3) fun r6 σ5 =>
      some (r6, σ5)
set_option maxHeartbeats 4000000 in
set_option maxRecDepth 20000 in
theorem b_X5_earns_24 {E : tn_E} {G : tn_G} (g : tn_Ok E G cX5_earns RX5 3 (tn_rm 7 159)) (o : tn_Om E G (some .long))   (σ : tn_M) : tn_V E G tn_le 24 [] [] σ (F_X5_earns_24 σ) := by
  unfold F_X5_earns_24
  refine tr_bipush (v := (-2)) g 26 dX5_earns_24 rfl rfl ?_
  refine kv_X5_no g wd_961 ⟨Nat.le_of_ble_eq_true rfl, Nat.le_of_ble_eq_true rfl⟩ (Nat.le_of_ble_eq_true rfl) 29 dX5_earns_26 rfl (fun r2 σ1 => ?_)
  exact tr_lret g o dX5_earns_29
set_option maxHeartbeats 4000000 in
set_option maxRecDepth 20000 in
theorem b_X5_earns {E : tn_E} {G : tn_G} (g : tn_Ok E G cX5_earns RX5 3 (tn_rm 7 159)) (o : tn_Om E G (some .long))  (a1 : Int32) (a2 : Int32) (σ : tn_M) : tn_V E G tn_le 0 [(0, .ref (tn_ad E 5)), (1, .int a1), (2, .int a2)] [] σ (f_X5_earns a1 a2 σ) := by
  unfold f_X5_earns
  refine tr_aload_n g 0 1 dX5_earns_0 rfl rfl rfl ?_
  refine tr_iload_n g 1 2 dX5_earns_1 rfl rfl rfl ?_
  refine kv_X5_isShop g wd_877 ⟨Nat.le_of_ble_eq_true rfl, Nat.le_of_ble_eq_true rfl⟩ (Nat.le_of_ble_eq_true rfl) 5 dX5_earns_2 rfl (fun r2 σ1 => ?_)
  refine tr_if_eq g 24 8 dX5_earns_5 rfl rfl ?_ ?_
  · refine tr_sub [] (lv' := []) rfl ?_
    exact b_X5_earns_24 g o  _
  · refine tr_iload_n g 2 9 dX5_earns_8 rfl rfl rfl ?_
    refine kv_X5_isTwo g wd_924 ⟨Nat.le_of_ble_eq_true rfl, Nat.le_of_ble_eq_true rfl⟩ (Nat.le_of_ble_eq_true rfl) 12 dX5_earns_9 rfl (fun r4 σ3 => ?_)
    refine tr_if_eq g 24 15 dX5_earns_12 rfl rfl ?_ ?_
    · refine tr_sub [] (lv' := []) rfl ?_
      exact b_X5_earns_24 g o  _
    · refine tr_aload_n g 0 16 dX5_earns_15 rfl rfl rfl ?_
      refine tr_iload_n g 1 17 dX5_earns_16 rfl rfl rfl ?_
      refine tr_iload_n g 2 18 dX5_earns_17 rfl rfl rfl ?_
      refine kv_X5_earnsOf g wd_927 ⟨Nat.le_of_ble_eq_true rfl, Nat.le_of_ble_eq_true rfl⟩ (Nat.le_of_ble_eq_true rfl) 21 dX5_earns_18 rfl (fun r6 σ5 => ?_)
      refine tr_goto g 29 dX5_earns_21 rfl ?_
      exact tr_lret g o dX5_earns_29
theorem ok_X5_earns {E : tn_E} {l : Launch}   (a1 : Int32) (a2 : Int32) {σ : tn_M} {r : Int64} {σ' : tn_M} (h : f_X5_earns a1 a2 σ = some (r, σ')) : tn_C E l yX5_earns cX5_earns 3 (some .long) (tn_rm 7 159) [.ref (tn_ad E 5), .int a1, .int a2] σ (tn_le r) σ' :=
  tn_met (by decide) (Nat.le_of_ble_eq_true rfl) (fun G _ g o => b_X5_earns g o  a1 a2 σ) h
theorem yy_X5_earns : tn_Yv RX5 yX5_earns cX5_earns 3 (some .long) 2 := ⟨wd_923, wd_921, wd_922, wd_70, by decide, by decide, by decide +kernel⟩
theorem kv_X5_earns {E : tn_E} {G : tn_G} {cc : ByteArray} {own : String} {nL : Nat} {R : Room} {ρ : Type} {enc : ρ → Option Value} {pc : Nat} {lv : List (Nat × Value)} {st : List Value} {σ : tn_M} {kk : Int64 → tn_M → Option (ρ × tn_M)} {i : Nat}  {a1 : Int32} {a2 : Int32} (g : tn_Ok E G cc own nL R)  (hw : Cond.methodLink own i yX5_earns ∈ tn_T) (hroom : 8 ≤ R.frames ∧ 181 ≤ R.locals) (hW : (st.map fun v => v.category).sum ≤ 8) (n : Nat) (hd : decode cc pc = .ok (.invokevirtual i, 3)) (hn : pc + 3 = n) (k : ∀ r σ1, tn_V E G enc n lv (.long r :: st) σ1 (kk r σ1)) : tn_V E G enc pc lv (.int a2 :: .int a1 :: .ref (tn_ad E 5) :: st) σ (tn_bd (f_X5_earns a1 a2 σ) kk) :=
  tr_callV (As := [.int a1, .int a2]) (enc1 := tn_le) g yy_X5_earns hw (ci := 5) rfl (by decide) rfl (fun r σ1 h => ok_X5_earns  a1 a2 h) ⟨rfl, rfl⟩ ⟨hroom.1, by have h2 := hroom.2; show 8 + (3 + 11) + 159 ≤ R.locals; omega⟩ rfl rfl hW n hd hn k
/-! X5_allOf -/
def f_X5_allOf  (a1 : Int32) (a2 : Int32) (σ : tn_M) : Option (Int64 × tn_M) :=
  tn_bd (f_X5_tries σ) fun _ σ1 =>
  tn_bd (f_X5_together σ1) fun r3 σ2 =>
  tn_lt (α := Int64) (if a1 = 0 then r3 else (σ2.2 5 23)) fun v4 =>
  tn_bd (f_X5_part v4 11808276480 a2 σ2) fun r6 σ5 =>
  some (r6, σ5)
set_option maxHeartbeats 4000000 in
set_option maxRecDepth 20000 in
theorem b_X5_allOf {E : tn_E} {G : tn_G} (g : tn_Ok E G cX5_allOf RX5 5 (tn_rm 6 137)) (o : tn_Om E G (some .long))  (a1 : Int32) (a2 : Int32) (σ : tn_M) : tn_V E G tn_le 0 [(0, .ref (tn_ad E 5)), (1, .int a1), (2, .int a2)] [] σ (f_X5_allOf a1 a2 σ) := by
  unfold f_X5_allOf
  refine tr_aload_n g 0 1 dX5_allOf_0 rfl rfl rfl ?_
  refine kv_X5_tries g wd_912 ⟨Nat.le_of_ble_eq_true rfl, Nat.le_of_ble_eq_true rfl⟩ (Nat.le_of_ble_eq_true rfl) 4 dX5_allOf_1 rfl (fun _ σ1 => ?_)
  refine tr_aload_n g 0 5 dX5_allOf_4 rfl rfl rfl ?_
  refine kv_X5_together g wd_973 ⟨Nat.le_of_ble_eq_true rfl, Nat.le_of_ble_eq_true rfl⟩ (Nat.le_of_ble_eq_true rfl) 8 dX5_allOf_5 rfl (fun r3 σ2 => ?_)
  refine tr_lstore_n (lv' := [(3, .long r3), (0, .ref (tn_ad E 5)), (1, .int a1), (2, .int a2)]) g 9 dX5_allOf_8 rfl rfl (by decide) rfl ?_
  refine tr_iload_n g 2 10 dX5_allOf_9 rfl rfl rfl ?_
  refine tr_if_neD (inj := fun z => Value.long z) g 21 17 13 dX5_allOf_10 rfl rfl (fun rs hj => ?_) (fun rs hj => ?_) (fun v4 => ?_)
  · refine tr_aload_n g 1 18 dX5_allOf_17 rfl rfl rfl ?_
    refine gf_X5_23 g wd_727 21 dX5_allOf_18 rfl ?_
    exact hj
  · refine tr_lload_n g 0 14 dX5_allOf_13 rfl rfl rfl ?_
    refine tr_goto g 21 dX5_allOf_14 rfl ?_
    exact hj
  · refine tr_ldc2 (v := 11808276480) g wd_953 24 dX5_allOf_21 rfl ?_
    refine tr_iload_n g 3 25 dX5_allOf_24 rfl rfl rfl ?_
    refine kv_X5_part g wd_955 ⟨Nat.le_of_ble_eq_true rfl, Nat.le_of_ble_eq_true rfl⟩ (Nat.le_of_ble_eq_true rfl) 28 dX5_allOf_25 rfl (fun r6 σ5 => ?_)
    exact tr_lret g o dX5_allOf_28
theorem ok_X5_allOf {E : tn_E} {l : Launch}   (a1 : Int32) (a2 : Int32) {σ : tn_M} {r : Int64} {σ' : tn_M} (h : f_X5_allOf a1 a2 σ = some (r, σ')) : tn_C E l yX5_allOf cX5_allOf 5 (some .long) (tn_rm 6 137) [.ref (tn_ad E 5), .int a1, .int a2] σ (tn_le r) σ' :=
  tn_met (by decide) (Nat.le_of_ble_eq_true rfl) (fun G _ g o => b_X5_allOf g o  a1 a2 σ) h
theorem yy_X5_allOf : tn_Yv RX5 yX5_allOf cX5_allOf 5 (some .long) 2 := ⟨wd_972, wd_971, wd_44, wd_70, by decide, by decide, by decide +kernel⟩
theorem kv_X5_allOf {E : tn_E} {G : tn_G} {cc : ByteArray} {own : String} {nL : Nat} {R : Room} {ρ : Type} {enc : ρ → Option Value} {pc : Nat} {lv : List (Nat × Value)} {st : List Value} {σ : tn_M} {kk : Int64 → tn_M → Option (ρ × tn_M)} {i : Nat}  {a1 : Int32} {a2 : Int32} (g : tn_Ok E G cc own nL R)  (hw : Cond.methodLink own i yX5_allOf ∈ tn_T) (hroom : 7 ≤ R.frames ∧ 161 ≤ R.locals) (hW : (st.map fun v => v.category).sum ≤ 8) (n : Nat) (hd : decode cc pc = .ok (.invokevirtual i, 3)) (hn : pc + 3 = n) (k : ∀ r σ1, tn_V E G enc n lv (.long r :: st) σ1 (kk r σ1)) : tn_V E G enc pc lv (.int a2 :: .int a1 :: .ref (tn_ad E 5) :: st) σ (tn_bd (f_X5_allOf a1 a2 σ) kk) :=
  tr_callV (As := [.int a1, .int a2]) (enc1 := tn_le) g yy_X5_allOf hw (ci := 5) rfl (by decide) rfl (fun r σ1 h => ok_X5_allOf  a1 a2 h) ⟨rfl, rfl⟩ ⟨hroom.1, by have h2 := hroom.2; show 8 + (5 + 11) + 137 ≤ R.locals; omega⟩ rfl rfl hW n hd hn k
/-! X5_all -/
def F_X5_all_23   (σ : tn_M) : Option (Int64 × tn_M) :=
  tn_bd (f_X5_no (-2) σ) fun r2 σ1 =>
  some (r2, σ1)
def f_X5_all  (a1 : Int32) (a2 : Int32) (σ : tn_M) : Option (Int64 × tn_M) :=
  tn_bd (f_X5_isTwo a1 σ) fun r2 σ1 =>
  if r2 = 0 then
    F_X5_all_23 σ1
  else
    tn_bd (f_X5_isTwo a2 σ1) fun r4 σ3 =>
    if r4 = 0 then
      F_X5_all_23 σ3
    else
      tn_bd (f_X5_allOf a1 a2 σ3) fun r6 σ5 =>
      some (r6, σ5)
set_option maxHeartbeats 4000000 in
set_option maxRecDepth 20000 in
theorem b_X5_all_23 {E : tn_E} {G : tn_G} (g : tn_Ok E G cX5_all RX5 3 (tn_rm 7 161)) (o : tn_Om E G (some .long))   (σ : tn_M) : tn_V E G tn_le 23 [] [] σ (F_X5_all_23 σ) := by
  unfold F_X5_all_23
  refine tr_bipush (v := (-2)) g 25 dX5_all_23 rfl rfl ?_
  refine kv_X5_no g wd_961 ⟨Nat.le_of_ble_eq_true rfl, Nat.le_of_ble_eq_true rfl⟩ (Nat.le_of_ble_eq_true rfl) 28 dX5_all_25 rfl (fun r2 σ1 => ?_)
  exact tr_lret g o dX5_all_28
set_option maxHeartbeats 4000000 in
set_option maxRecDepth 20000 in
theorem b_X5_all {E : tn_E} {G : tn_G} (g : tn_Ok E G cX5_all RX5 3 (tn_rm 7 161)) (o : tn_Om E G (some .long))  (a1 : Int32) (a2 : Int32) (σ : tn_M) : tn_V E G tn_le 0 [(0, .ref (tn_ad E 5)), (1, .int a1), (2, .int a2)] [] σ (f_X5_all a1 a2 σ) := by
  unfold f_X5_all
  refine tr_iload_n g 1 1 dX5_all_0 rfl rfl rfl ?_
  refine kv_X5_isTwo g wd_924 ⟨Nat.le_of_ble_eq_true rfl, Nat.le_of_ble_eq_true rfl⟩ (Nat.le_of_ble_eq_true rfl) 4 dX5_all_1 rfl (fun r2 σ1 => ?_)
  refine tr_if_eq g 23 7 dX5_all_4 rfl rfl ?_ ?_
  · refine tr_sub [] (lv' := []) rfl ?_
    exact b_X5_all_23 g o  _
  · refine tr_iload_n g 2 8 dX5_all_7 rfl rfl rfl ?_
    refine kv_X5_isTwo g wd_924 ⟨Nat.le_of_ble_eq_true rfl, Nat.le_of_ble_eq_true rfl⟩ (Nat.le_of_ble_eq_true rfl) 11 dX5_all_8 rfl (fun r4 σ3 => ?_)
    refine tr_if_eq g 23 14 dX5_all_11 rfl rfl ?_ ?_
    · refine tr_sub [] (lv' := []) rfl ?_
      exact b_X5_all_23 g o  _
    · refine tr_aload_n g 0 15 dX5_all_14 rfl rfl rfl ?_
      refine tr_iload_n g 1 16 dX5_all_15 rfl rfl rfl ?_
      refine tr_iload_n g 2 17 dX5_all_16 rfl rfl rfl ?_
      refine kv_X5_allOf g wd_969 ⟨Nat.le_of_ble_eq_true rfl, Nat.le_of_ble_eq_true rfl⟩ (Nat.le_of_ble_eq_true rfl) 20 dX5_all_17 rfl (fun r6 σ5 => ?_)
      refine tr_goto g 28 dX5_all_20 rfl ?_
      exact tr_lret g o dX5_all_28
theorem ok_X5_all {E : tn_E} {l : Launch}   (a1 : Int32) (a2 : Int32) {σ : tn_M} {r : Int64} {σ' : tn_M} (h : f_X5_all a1 a2 σ = some (r, σ')) : tn_C E l yX5_all cX5_all 3 (some .long) (tn_rm 7 161) [.ref (tn_ad E 5), .int a1, .int a2] σ (tn_le r) σ' :=
  tn_met (by decide) (Nat.le_of_ble_eq_true rfl) (fun G _ g o => b_X5_all g o  a1 a2 σ) h
theorem yy_X5_all : tn_Yv RX5 yX5_all cX5_all 3 (some .long) 2 := ⟨wd_968, wd_966, wd_967, wd_70, by decide, by decide, by decide +kernel⟩
theorem kv_X5_all {E : tn_E} {G : tn_G} {cc : ByteArray} {own : String} {nL : Nat} {R : Room} {ρ : Type} {enc : ρ → Option Value} {pc : Nat} {lv : List (Nat × Value)} {st : List Value} {σ : tn_M} {kk : Int64 → tn_M → Option (ρ × tn_M)} {i : Nat}  {a1 : Int32} {a2 : Int32} (g : tn_Ok E G cc own nL R)  (hw : Cond.methodLink own i yX5_all ∈ tn_T) (hroom : 8 ≤ R.frames ∧ 183 ≤ R.locals) (hW : (st.map fun v => v.category).sum ≤ 8) (n : Nat) (hd : decode cc pc = .ok (.invokevirtual i, 3)) (hn : pc + 3 = n) (k : ∀ r σ1, tn_V E G enc n lv (.long r :: st) σ1 (kk r σ1)) : tn_V E G enc pc lv (.int a2 :: .int a1 :: .ref (tn_ad E 5) :: st) σ (tn_bd (f_X5_all a1 a2 σ) kk) :=
  tr_callV (As := [.int a1, .int a2]) (enc1 := tn_le) g yy_X5_all hw (ci := 5) rfl (by decide) rfl (fun r σ1 h => ok_X5_all  a1 a2 h) ⟨rfl, rfl⟩ ⟨hroom.1, by have h2 := hroom.2; show 8 + (3 + 11) + 161 ≤ R.locals; omega⟩ rfl rfl hW n hd hn k
/-! X5_answerNow -/
def f_X5_answerNow  (a1 : Int32) (σ : tn_M) : Option (Int32 × tn_M) :=
  tn_bd (f_X5_tries σ) fun _ σ1 =>
  tn_bd (f_X5_answerOf a1 σ1) fun r3 σ2 =>
  some (r3, σ2)
set_option maxHeartbeats 4000000 in
set_option maxRecDepth 20000 in
theorem b_X5_answerNow {E : tn_E} {G : tn_G} (g : tn_Ok E G cX5_answerNow RX5 2 (tn_rm 6 156)) (o : tn_Om E G (some .int))  (a1 : Int32) (σ : tn_M) : tn_V E G tn_ie 0 [(0, .ref (tn_ad E 5)), (1, .int a1)] [] σ (f_X5_answerNow a1 σ) := by
  unfold f_X5_answerNow
  refine tr_aload_n g 0 1 dX5_answerNow_0 rfl rfl rfl ?_
  refine kv_X5_tries g wd_912 ⟨Nat.le_of_ble_eq_true rfl, Nat.le_of_ble_eq_true rfl⟩ (Nat.le_of_ble_eq_true rfl) 4 dX5_answerNow_1 rfl (fun _ σ1 => ?_)
  refine tr_aload_n g 0 5 dX5_answerNow_4 rfl rfl rfl ?_
  refine tr_iload_n g 1 6 dX5_answerNow_5 rfl rfl rfl ?_
  refine kv_X5_answerOf g wd_985 ⟨Nat.le_of_ble_eq_true rfl, Nat.le_of_ble_eq_true rfl⟩ (Nat.le_of_ble_eq_true rfl) 9 dX5_answerNow_6 rfl (fun r3 σ2 => ?_)
  exact tr_iret g o dX5_answerNow_9
theorem ok_X5_answerNow {E : tn_E} {l : Launch}   (a1 : Int32) {σ : tn_M} {r : Int32} {σ' : tn_M} (h : f_X5_answerNow a1 σ = some (r, σ')) : tn_C E l yX5_answerNow cX5_answerNow 2 (some .int) (tn_rm 6 156) [.ref (tn_ad E 5), .int a1] σ (tn_ie r) σ' :=
  tn_met (by decide) (Nat.le_of_ble_eq_true rfl) (fun G _ g o => b_X5_answerNow g o  a1 σ) h
theorem yy_X5_answerNow : tn_Yv RX5 yX5_answerNow cX5_answerNow 2 (some .int) 1 := ⟨wd_984, wd_983, wd_46, wd_70, by decide, by decide, by decide +kernel⟩
theorem kv_X5_answerNow {E : tn_E} {G : tn_G} {cc : ByteArray} {own : String} {nL : Nat} {R : Room} {ρ : Type} {enc : ρ → Option Value} {pc : Nat} {lv : List (Nat × Value)} {st : List Value} {σ : tn_M} {kk : Int32 → tn_M → Option (ρ × tn_M)} {i : Nat}  {a1 : Int32} (g : tn_Ok E G cc own nL R)  (hw : Cond.methodLink own i yX5_answerNow ∈ tn_T) (hroom : 7 ≤ R.frames ∧ 177 ≤ R.locals) (hW : (st.map fun v => v.category).sum ≤ 8) (n : Nat) (hd : decode cc pc = .ok (.invokevirtual i, 3)) (hn : pc + 3 = n) (k : ∀ r σ1, tn_V E G enc n lv (.int r :: st) σ1 (kk r σ1)) : tn_V E G enc pc lv (.int a1 :: .ref (tn_ad E 5) :: st) σ (tn_bd (f_X5_answerNow a1 σ) kk) :=
  tr_callV (As := [.int a1]) (enc1 := tn_ie) g yy_X5_answerNow hw (ci := 5) rfl (by decide) rfl (fun r σ1 h => ok_X5_answerNow  a1 h) ⟨rfl, rfl⟩ ⟨hroom.1, by have h2 := hroom.2; show 8 + (2 + 11) + 156 ≤ R.locals; omega⟩ rfl rfl hW n hd hn k
/-! X5_answer -/
def f_X5_answer  (a1 : Int32) (σ : tn_M) : Option (Int32 × tn_M) :=
  tn_bd (f_X5_isShop a1 σ) fun r2 σ1 =>
  if r2 = 0 then
    some ((-2), σ1)
  else
    tn_bd (f_X5_answerNow a1 σ1) fun r4 σ3 =>
    some (r4, σ3)
set_option maxHeartbeats 4000000 in
set_option maxRecDepth 20000 in
theorem b_X5_answer {E : tn_E} {G : tn_G} (g : tn_Ok E G cX5_answer RX5 2 (tn_rm 7 177)) (o : tn_Om E G (some .int))  (a1 : Int32) (σ : tn_M) : tn_V E G tn_ie 0 [(0, .ref (tn_ad E 5)), (1, .int a1)] [] σ (f_X5_answer a1 σ) := by
  unfold f_X5_answer
  refine tr_aload_n g 0 1 dX5_answer_0 rfl rfl rfl ?_
  refine tr_iload_n g 1 2 dX5_answer_1 rfl rfl rfl ?_
  refine kv_X5_isShop g wd_877 ⟨Nat.le_of_ble_eq_true rfl, Nat.le_of_ble_eq_true rfl⟩ (Nat.le_of_ble_eq_true rfl) 5 dX5_answer_2 rfl (fun r2 σ1 => ?_)
  refine tr_if_eq g 16 8 dX5_answer_5 rfl rfl ?_ ?_
  · refine tr_bipush (v := (-2)) g 18 dX5_answer_16 rfl rfl ?_
    exact tr_iret g o dX5_answer_18
  · refine tr_aload_n g 0 9 dX5_answer_8 rfl rfl rfl ?_
    refine tr_iload_n g 1 10 dX5_answer_9 rfl rfl rfl ?_
    refine kv_X5_answerNow g wd_981 ⟨Nat.le_of_ble_eq_true rfl, Nat.le_of_ble_eq_true rfl⟩ (Nat.le_of_ble_eq_true rfl) 13 dX5_answer_10 rfl (fun r4 σ3 => ?_)
    refine tr_goto g 18 dX5_answer_13 rfl ?_
    exact tr_iret g o dX5_answer_18
theorem ok_X5_answer {E : tn_E} {l : Launch}   (a1 : Int32) {σ : tn_M} {r : Int32} {σ' : tn_M} (h : f_X5_answer a1 σ = some (r, σ')) : tn_C E l yX5_answer cX5_answer 2 (some .int) (tn_rm 7 177) [.ref (tn_ad E 5), .int a1] σ (tn_ie r) σ' :=
  tn_met (by decide) (Nat.le_of_ble_eq_true rfl) (fun G _ g o => b_X5_answer g o  a1 σ) h
theorem yy_X5_answer : tn_Yv RX5 yX5_answer cX5_answer 2 (some .int) 1 := ⟨wd_980, wd_978, wd_979, wd_70, by decide, by decide, by decide +kernel⟩
theorem kv_X5_answer {E : tn_E} {G : tn_G} {cc : ByteArray} {own : String} {nL : Nat} {R : Room} {ρ : Type} {enc : ρ → Option Value} {pc : Nat} {lv : List (Nat × Value)} {st : List Value} {σ : tn_M} {kk : Int32 → tn_M → Option (ρ × tn_M)} {i : Nat}  {a1 : Int32} (g : tn_Ok E G cc own nL R)  (hw : Cond.methodLink own i yX5_answer ∈ tn_T) (hroom : 8 ≤ R.frames ∧ 198 ≤ R.locals) (hW : (st.map fun v => v.category).sum ≤ 8) (n : Nat) (hd : decode cc pc = .ok (.invokevirtual i, 3)) (hn : pc + 3 = n) (k : ∀ r σ1, tn_V E G enc n lv (.int r :: st) σ1 (kk r σ1)) : tn_V E G enc pc lv (.int a1 :: .ref (tn_ad E 5) :: st) σ (tn_bd (f_X5_answer a1 σ) kk) :=
  tr_callV (As := [.int a1]) (enc1 := tn_ie) g yy_X5_answer hw (ci := 5) rfl (by decide) rfl (fun r σ1 h => ok_X5_answer  a1 h) ⟨rfl, rfl⟩ ⟨hroom.1, by have h2 := hroom.2; show 8 + (2 + 11) + 177 ≤ R.locals; omega⟩ rfl rfl hW n hd hn k
/-! X5_roundGoes -/
def F_X5_roundGoes_84 (c4 : Int32 → Int32 → tn_M → Option (Int32 × tn_M)) (x2 : Int32) (σ : tn_M) : Option (Int32 × tn_M) :=
  c4 1 (x2 + 1) σ
def F_X5_roundGoes_74 (c4 : Int32 → Int32 → tn_M → Option (Int32 × tn_M)) (x1 : Int32) (x2 : Int32) (x4 : Int32) (y1 : Int32) (y2 : Int32) (σ : tn_M) : Option (Int32 × tn_M) :=
  tn_ck y1 5 <|
  tn_lt (tn_si σ 44 (tn_x y1) y2) fun σ1 =>
  if x1 = 0 then
    if x4 = 0 then
      c4 0 (x2 + 1) σ1
    else
      F_X5_roundGoes_84 c4 x2 σ1
  else
    F_X5_roundGoes_84 c4 x2 σ1
def F_X5_roundGoes_4  : Nat → Int32 → Int32 → tn_M → Option (Int32 × tn_M)
  | 0, _, _, _ => none
  | tn_n + 1, x1, x2, σ => 
    if (σ.1 5 8) ≤ x2 then
      tn_zr x1 σ
    else
      if x2 = (σ.1 5 20) then
        F_X5_roundGoes_4 tn_n x1 (x2 + 1) σ
      else
        tn_bd (f_X5_answerOf x2 σ) fun r2 σ1 =>
        tn_bd (f_X5_earnsBy x2 r2 σ1) fun r4 σ3 =>
        tn_ck x2 5 <|
        tn_bd (f_X5_earnsBy x2 (σ3.1 44 (tn_x x2)) σ3) fun r6 σ5 =>
        tn_lt (α := Int32) (if r4 ≤ r6 then 0 else 1) fun v7 =>
        if v7 = 0 then
          tn_ck x2 5 <|
          F_X5_roundGoes_74 (fun z0 z1 zs => F_X5_roundGoes_4 tn_n z0 z1 zs) x1 x2 v7 x2 (σ5.1 44 (tn_x x2)) σ5
        else
          F_X5_roundGoes_74 (fun z0 z1 zs => F_X5_roundGoes_4 tn_n z0 z1 zs) x1 x2 v7 x2 r2 σ5
def f_X5_roundGoes   (σ : tn_M) : Option (Int32 × tn_M) :=
  F_X5_roundGoes_4 tn_fuel 0 0 σ
set_option maxHeartbeats 4000000 in
set_option maxRecDepth 20000 in
theorem b_X5_roundGoes_84 {E : tn_E} {G : tn_G} (g : tn_Ok E G cX5_roundGoes RX5 5 (tn_rm 6 156)) (o : tn_Om E G (some .boolean)) (c4 : Int32 → Int32 → tn_M → Option (Int32 × tn_M)) (hc4 : ∀ (x1 : Int32) (x2 : Int32) (σ : tn_M), tn_V E G tn_ie 4 [(0, .ref (tn_ad E 5)), (1, .int x1), (2, .int x2)] [] σ (c4 x1 x2 σ)) (x2 : Int32) (σ : tn_M) : tn_V E G tn_ie 84 [(0, .ref (tn_ad E 5)), (2, .int x2)] [] σ (F_X5_roundGoes_84 c4 x2 σ) := by
  unfold F_X5_roundGoes_84
  refine tr_iconst (v := 1) g 85 dX5_roundGoes_84 rfl rfl ?_
  refine tr_goto g 89 dX5_roundGoes_85 rfl ?_
  refine tr_istore_n (lv' := [(1, .int 1), (0, .ref (tn_ad E 5)), (2, .int x2)]) g 90 dX5_roundGoes_89 rfl rfl (by decide) rfl ?_
  refine tr_iinc (lv' := [(2, .int (x2 + 1)), (1, .int 1), (0, .ref (tn_ad E 5))]) (x := (x2 + 1)) g 2 93 dX5_roundGoes_90 rfl rfl rfl (by decide) rfl ?_
  refine tr_goto g 4 dX5_roundGoes_93 rfl ?_
  refine tr_sub [2, 1, 0] (lv' := [(0, .ref (tn_ad E 5)), (1, .int 1), (2, .int (x2 + 1))]) rfl ?_
  exact hc4 _ _ _
set_option maxHeartbeats 4000000 in
set_option maxRecDepth 20000 in
theorem b_X5_roundGoes_74 {E : tn_E} {G : tn_G} (g : tn_Ok E G cX5_roundGoes RX5 5 (tn_rm 6 156)) (o : tn_Om E G (some .boolean)) (c4 : Int32 → Int32 → tn_M → Option (Int32 × tn_M)) (hc4 : ∀ (x1 : Int32) (x2 : Int32) (σ : tn_M), tn_V E G tn_ie 4 [(0, .ref (tn_ad E 5)), (1, .int x1), (2, .int x2)] [] σ (c4 x1 x2 σ)) (x1 : Int32) (x2 : Int32) (x4 : Int32) (y1 : Int32) (y2 : Int32) (σ : tn_M) : tn_V E G tn_ie 74 [(0, .ref (tn_ad E 5)), (1, .int x1), (2, .int x2), (4, .int x4)] [.int y2, .int y1, .ref (tn_ad E 44)] σ (F_X5_roundGoes_74 c4 x1 x2 x4 y1 y2 σ) := by
  unfold F_X5_roundGoes_74
  refine tr_iast (N := 5) g 75 rfl rfl dX5_roundGoes_74 rfl (fun σ1 => ?_)
  refine tr_iload_n g 1 76 dX5_roundGoes_75 rfl rfl rfl ?_
  refine tr_if_ne g 84 79 dX5_roundGoes_76 rfl rfl ?_ ?_
  · refine tr_sub [0, 2] (lv' := [(0, .ref (tn_ad E 5)), (2, .int x2)]) rfl ?_
    exact b_X5_roundGoes_84 g o c4 hc4 _ _
  · refine tr_iload g 3 81 dX5_roundGoes_79 rfl rfl ?_
    refine tr_if_eq g 88 84 dX5_roundGoes_81 rfl rfl ?_ ?_
    · refine tr_iconst (v := 0) g 89 dX5_roundGoes_88 rfl rfl ?_
      refine tr_istore_n (lv' := [(1, .int 0), (0, .ref (tn_ad E 5)), (2, .int x2), (4, .int x4)]) g 90 dX5_roundGoes_89 rfl rfl (by decide) rfl ?_
      refine tr_iinc (lv' := [(2, .int (x2 + 1)), (1, .int 0), (0, .ref (tn_ad E 5)), (4, .int x4)]) (x := (x2 + 1)) g 2 93 dX5_roundGoes_90 rfl rfl rfl (by decide) rfl ?_
      refine tr_goto g 4 dX5_roundGoes_93 rfl ?_
      refine tr_sub [2, 1, 0] (lv' := [(0, .ref (tn_ad E 5)), (1, .int 0), (2, .int (x2 + 1))]) rfl ?_
      exact hc4 _ _ _
    · refine tr_sub [0, 2] (lv' := [(0, .ref (tn_ad E 5)), (2, .int x2)]) rfl ?_
      exact b_X5_roundGoes_84 g o c4 hc4 _ _
set_option maxHeartbeats 4000000 in
set_option maxRecDepth 20000 in
theorem b_X5_roundGoes_4 {E : tn_E} {G : tn_G} (g : tn_Ok E G cX5_roundGoes RX5 5 (tn_rm 6 156)) (o : tn_Om E G (some .boolean))  : ∀ (n : Nat) (x1 : Int32) (x2 : Int32) (σ : tn_M), tn_V E G tn_ie 4 [(0, .ref (tn_ad E 5)), (1, .int x1), (2, .int x2)] [] σ (F_X5_roundGoes_4 n x1 x2 σ) := by
  intro n
  induction n with
  | zero => intros; exact tr_none
  | succ tn_n ih =>
    intro x1 x2 σ
    rw [F_X5_roundGoes_4]
    refine tr_iload_n g 2 5 dX5_roundGoes_4 rfl rfl rfl ?_
    refine tr_aload_n g 0 6 dX5_roundGoes_5 rfl rfl rfl ?_
    refine gf_X5_8 g wd_712 9 dX5_roundGoes_6 rfl ?_
    refine tr_icmp_ge g 96 12 dX5_roundGoes_9 rfl rfl ?_ ?_
    · refine tr_iload_n g 1 97 dX5_roundGoes_96 rfl rfl rfl ?_
      exact tr_zretv g o dX5_roundGoes_97
    · refine tr_iload_n g 2 13 dX5_roundGoes_12 rfl rfl rfl ?_
      refine tr_aload_n g 0 14 dX5_roundGoes_13 rfl rfl rfl ?_
      refine gf_X5_20 g wd_724 17 dX5_roundGoes_14 rfl ?_
      refine tr_icmp_eq g 90 20 dX5_roundGoes_17 rfl rfl ?_ ?_
      · refine tr_iinc (lv' := [(2, .int (x2 + 1)), (0, .ref (tn_ad E 5)), (1, .int x1)]) (x := (x2 + 1)) g 2 93 dX5_roundGoes_90 rfl rfl rfl (by decide) rfl ?_
        refine tr_goto g 4 dX5_roundGoes_93 rfl ?_
        refine tr_sub [1, 2, 0] (lv' := [(0, .ref (tn_ad E 5)), (1, .int x1), (2, .int (x2 + 1))]) rfl ?_
        exact ih _ _ _
      · refine tr_aload_n g 0 21 dX5_roundGoes_20 rfl rfl rfl ?_
        refine tr_iload_n g 2 22 dX5_roundGoes_21 rfl rfl rfl ?_
        refine kv_X5_answerOf g wd_985 ⟨Nat.le_of_ble_eq_true rfl, Nat.le_of_ble_eq_true rfl⟩ (Nat.le_of_ble_eq_true rfl) 25 dX5_roundGoes_22 rfl (fun r2 σ1 => ?_)
        refine tr_istore_n (lv' := [(3, .int r2), (0, .ref (tn_ad E 5)), (1, .int x1), (2, .int x2)]) g 26 dX5_roundGoes_25 rfl rfl (by decide) rfl ?_
        refine tr_aload_n g 1 27 dX5_roundGoes_26 rfl rfl rfl ?_
        refine tr_iload_n g 3 28 dX5_roundGoes_27 rfl rfl rfl ?_
        refine tr_iload_n g 0 29 dX5_roundGoes_28 rfl rfl rfl ?_
        refine kv_X5_earnsBy g wd_989 ⟨Nat.le_of_ble_eq_true rfl, Nat.le_of_ble_eq_true rfl⟩ (Nat.le_of_ble_eq_true rfl) 32 dX5_roundGoes_29 rfl (fun r4 σ3 => ?_)
        refine tr_aload_n g 1 33 dX5_roundGoes_32 rfl rfl rfl ?_
        refine tr_iload_n g 3 34 dX5_roundGoes_33 rfl rfl rfl ?_
        refine tr_aload_n g 1 35 dX5_roundGoes_34 rfl rfl rfl ?_
        refine gf_X5_16 g wd_720 38 dX5_roundGoes_35 rfl ?_
        refine tr_iload_n g 3 39 dX5_roundGoes_38 rfl rfl rfl ?_
        refine tr_iald (N := 5) g 40 rfl rfl dX5_roundGoes_39 rfl ?_
        refine kv_X5_earnsBy g wd_989 ⟨Nat.le_of_ble_eq_true rfl, Nat.le_of_ble_eq_true rfl⟩ (Nat.le_of_ble_eq_true rfl) 43 dX5_roundGoes_40 rfl (fun r6 σ5 => ?_)
        refine tr_lleD (inj := fun z => Value.int z) g 52 51 47 dX5_roundGoes_43 dX5_roundGoes_44 rfl rfl (fun rs hj => ?_) (fun rs hj => ?_) (fun v7 => ?_)
        · refine tr_iconst (v := 0) g 52 dX5_roundGoes_51 rfl rfl ?_
          exact hj
        · refine tr_iconst (v := 1) g 48 dX5_roundGoes_47 rfl rfl ?_
          refine tr_goto g 52 dX5_roundGoes_48 rfl ?_
          exact hj
        · refine tr_istore (lv' := [(4, .int v7), (3, .int r2), (0, .ref (tn_ad E 5)), (1, .int x1), (2, .int x2)]) g 54 dX5_roundGoes_52 rfl (by decide) rfl ?_
          refine tr_aload_n g 2 55 dX5_roundGoes_54 rfl rfl rfl ?_
          refine gf_X5_16 g wd_720 58 dX5_roundGoes_55 rfl ?_
          refine tr_iload_n g 4 59 dX5_roundGoes_58 rfl rfl rfl ?_
          refine tr_iload g 0 61 dX5_roundGoes_59 rfl rfl ?_
          refine tr_if_eq g 68 64 dX5_roundGoes_61 rfl rfl ?_ ?_
          · refine tr_aload_n g 2 69 dX5_roundGoes_68 rfl rfl rfl ?_
            refine gf_X5_16 g wd_720 72 dX5_roundGoes_69 rfl ?_
            refine tr_iload_n g 4 73 dX5_roundGoes_72 rfl rfl rfl ?_
            refine tr_iald (N := 5) g 74 rfl rfl dX5_roundGoes_73 rfl ?_
            refine tr_sub [2, 3, 4, 0] (lv' := [(0, .ref (tn_ad E 5)), (1, .int x1), (2, .int x2), (4, .int v7)]) rfl ?_
            exact b_X5_roundGoes_74 g o (fun z0 z1 zs => F_X5_roundGoes_4 tn_n z0 z1 zs) (fun z0 z1 zs => ih z0 z1 zs) _ _ _ _ _ _
          · refine tr_iload_n g 1 65 dX5_roundGoes_64 rfl rfl rfl ?_
            refine tr_goto g 74 dX5_roundGoes_65 rfl ?_
            refine tr_sub [2, 3, 4, 0] (lv' := [(0, .ref (tn_ad E 5)), (1, .int x1), (2, .int x2), (4, .int v7)]) rfl ?_
            exact b_X5_roundGoes_74 g o (fun z0 z1 zs => F_X5_roundGoes_4 tn_n z0 z1 zs) (fun z0 z1 zs => ih z0 z1 zs) _ _ _ _ _ _
set_option maxHeartbeats 4000000 in
set_option maxRecDepth 20000 in
theorem b_X5_roundGoes {E : tn_E} {G : tn_G} (g : tn_Ok E G cX5_roundGoes RX5 5 (tn_rm 6 156)) (o : tn_Om E G (some .boolean))   (σ : tn_M) : tn_V E G tn_ie 0 [(0, .ref (tn_ad E 5))] [] σ (f_X5_roundGoes σ) := by
  unfold f_X5_roundGoes
  refine tr_iconst (v := 0) g 1 dX5_roundGoes_0 rfl rfl ?_
  refine tr_istore_n (lv' := [(1, .int 0), (0, .ref (tn_ad E 5))]) g 2 dX5_roundGoes_1 rfl rfl (by decide) rfl ?_
  refine tr_iconst (v := 0) g 3 dX5_roundGoes_2 rfl rfl ?_
  refine tr_istore_n (lv' := [(2, .int 0), (1, .int 0), (0, .ref (tn_ad E 5))]) g 4 dX5_roundGoes_3 rfl rfl (by decide) rfl ?_
  refine tr_sub [2, 1, 0] (lv' := [(0, .ref (tn_ad E 5)), (1, .int 0), (2, .int 0)]) rfl ?_
  exact b_X5_roundGoes_4 g o  tn_fuel _ _ _
theorem ok_X5_roundGoes {E : tn_E} {l : Launch}    {σ : tn_M} {r : Int32} {σ' : tn_M} (h : f_X5_roundGoes  σ = some (r, σ')) : tn_C E l yX5_roundGoes cX5_roundGoes 5 (some .boolean) (tn_rm 6 156) [.ref (tn_ad E 5)] σ (tn_ie r) σ' :=
  tn_met (by decide) (Nat.le_of_ble_eq_true rfl) (fun G _ g o => b_X5_roundGoes g o   σ) h
theorem yy_X5_roundGoes : tn_Yv RX5 yX5_roundGoes cX5_roundGoes 5 (some .boolean) 0 := ⟨wd_1008, wd_1007, wd_51, wd_70, by decide, by decide, by decide +kernel⟩
theorem kv_X5_roundGoes {E : tn_E} {G : tn_G} {cc : ByteArray} {own : String} {nL : Nat} {R : Room} {ρ : Type} {enc : ρ → Option Value} {pc : Nat} {lv : List (Nat × Value)} {st : List Value} {σ : tn_M} {kk : Int32 → tn_M → Option (ρ × tn_M)} {i : Nat}   (g : tn_Ok E G cc own nL R)  (hw : Cond.methodLink own i yX5_roundGoes ∈ tn_T) (hroom : 7 ≤ R.frames ∧ 180 ≤ R.locals) (hW : (st.map fun v => v.category).sum ≤ 8) (n : Nat) (hd : decode cc pc = .ok (.invokevirtual i, 3)) (hn : pc + 3 = n) (k : ∀ r σ1, tn_V E G enc n lv (.int r :: st) σ1 (kk r σ1)) : tn_V E G enc pc lv (.ref (tn_ad E 5) :: st) σ (tn_bd (f_X5_roundGoes  σ) kk) :=
  tr_callV (As := []) (enc1 := tn_ie) g yy_X5_roundGoes hw (ci := 5) rfl (by decide) rfl (fun r σ1 h => ok_X5_roundGoes   h) ⟨rfl, rfl⟩ ⟨hroom.1, by have h2 := hroom.2; show 8 + (5 + 11) + 156 ≤ R.locals; omega⟩ rfl rfl hW n hd hn k
/-! X5_runsDown -/
def F_X5_runsDown_5  : Nat → tn_M → Option (Int32 × tn_M)
  | 0, _ => none
  | tn_n + 1, σ => 
    tn_bd (f_X5_roundGoes σ) fun r2 σ1 =>
    if r2 = 0 then
      some (1, σ1)
    else
      tn_lt (tn_si σ1 5 24 ((σ1.1 5 24) + 1)) fun σ3 =>
      if (σ3.1 5 24) = 40 then
        some (0, σ3)
      else
        F_X5_runsDown_5 tn_n σ3
def f_X5_runsDown   (σ : tn_M) : Option (Int32 × tn_M) :=
  tn_lt (tn_si σ 5 24 0) fun σ1 =>
  F_X5_runsDown_5 tn_fuel σ1
set_option maxHeartbeats 4000000 in
set_option maxRecDepth 20000 in
theorem b_X5_runsDown_5 {E : tn_E} {G : tn_G} (g : tn_Ok E G cX5_runsDown RX5 1 (tn_rm 7 180)) (o : tn_Om E G (some .boolean))  : ∀ (n : Nat)  (σ : tn_M), tn_V E G tn_ie 5 [(0, .ref (tn_ad E 5))] [] σ (F_X5_runsDown_5 n σ) := by
  intro n
  induction n with
  | zero => intros; exact tr_none
  | succ tn_n ih =>
    intro  σ
    rw [F_X5_runsDown_5]
    refine tr_aload_n g 0 6 dX5_runsDown_5 rfl rfl rfl ?_
    refine kv_X5_roundGoes g wd_1005 ⟨Nat.le_of_ble_eq_true rfl, Nat.le_of_ble_eq_true rfl⟩ (Nat.le_of_ble_eq_true rfl) 9 dX5_runsDown_6 rfl (fun r2 σ1 => ?_)
    refine tr_if_eq g 33 12 dX5_runsDown_9 rfl rfl ?_ ?_
    · refine tr_iconst (v := 1) g 34 dX5_runsDown_33 rfl rfl ?_
      exact tr_zret g o rfl dX5_runsDown_34
    · refine tr_aload_n g 0 13 dX5_runsDown_12 rfl rfl rfl ?_
      refine tr_dup g 14 dX5_runsDown_13 rfl rfl ?_
      refine gf_X5_24 g wd_728 17 dX5_runsDown_14 rfl ?_
      refine tr_iconst (v := 1) g 18 dX5_runsDown_17 rfl rfl ?_
      refine tr_iadd g 19 dX5_runsDown_18 rfl ?_
      refine pf_X5_24 g wd_728 22 dX5_runsDown_19 rfl (fun σ3 => ?_)
      refine tr_aload_n g 0 23 dX5_runsDown_22 rfl rfl rfl ?_
      refine gf_X5_24 g wd_728 26 dX5_runsDown_23 rfl ?_
      refine tr_bipush (v := 40) g 28 dX5_runsDown_26 rfl rfl ?_
      refine tr_icmp_ne g 5 31 dX5_runsDown_28 rfl rfl ?_ ?_
      · exact ih  _
      · refine tr_iconst (v := 0) g 32 dX5_runsDown_31 rfl rfl ?_
        exact tr_zret g o rfl dX5_runsDown_32
set_option maxHeartbeats 4000000 in
set_option maxRecDepth 20000 in
theorem b_X5_runsDown {E : tn_E} {G : tn_G} (g : tn_Ok E G cX5_runsDown RX5 1 (tn_rm 7 180)) (o : tn_Om E G (some .boolean))   (σ : tn_M) : tn_V E G tn_ie 0 [(0, .ref (tn_ad E 5))] [] σ (f_X5_runsDown σ) := by
  unfold f_X5_runsDown
  refine tr_aload_n g 0 1 dX5_runsDown_0 rfl rfl rfl ?_
  refine tr_iconst (v := 0) g 2 dX5_runsDown_1 rfl rfl ?_
  refine pf_X5_24 g wd_728 5 dX5_runsDown_2 rfl (fun σ1 => ?_)
  exact b_X5_runsDown_5 g o  tn_fuel _
theorem ok_X5_runsDown {E : tn_E} {l : Launch}    {σ : tn_M} {r : Int32} {σ' : tn_M} (h : f_X5_runsDown  σ = some (r, σ')) : tn_C E l yX5_runsDown cX5_runsDown 1 (some .boolean) (tn_rm 7 180) [.ref (tn_ad E 5)] σ (tn_ie r) σ' :=
  tn_met (by decide) (Nat.le_of_ble_eq_true rfl) (fun G _ g o => b_X5_runsDown g o   σ) h
theorem yy_X5_runsDown : tn_Yv RX5 yX5_runsDown cX5_runsDown 1 (some .boolean) 0 := ⟨wd_1004, wd_1003, wd_50, wd_70, by decide, by decide, by decide +kernel⟩
theorem kv_X5_runsDown {E : tn_E} {G : tn_G} {cc : ByteArray} {own : String} {nL : Nat} {R : Room} {ρ : Type} {enc : ρ → Option Value} {pc : Nat} {lv : List (Nat × Value)} {st : List Value} {σ : tn_M} {kk : Int32 → tn_M → Option (ρ × tn_M)} {i : Nat}   (g : tn_Ok E G cc own nL R)  (hw : Cond.methodLink own i yX5_runsDown ∈ tn_T) (hroom : 8 ≤ R.frames ∧ 200 ≤ R.locals) (hW : (st.map fun v => v.category).sum ≤ 8) (n : Nat) (hd : decode cc pc = .ok (.invokevirtual i, 3)) (hn : pc + 3 = n) (k : ∀ r σ1, tn_V E G enc n lv (.int r :: st) σ1 (kk r σ1)) : tn_V E G enc pc lv (.ref (tn_ad E 5) :: st) σ (tn_bd (f_X5_runsDown  σ) kk) :=
  tr_callV (As := []) (enc1 := tn_ie) g yy_X5_runsDown hw (ci := 5) rfl (by decide) rfl (fun r σ1 h => ok_X5_runsDown   h) ⟨rfl, rfl⟩ ⟨hroom.1, by have h2 := hroom.2; show 8 + (1 + 11) + 180 ≤ R.locals; omega⟩ rfl rfl hW n hd hn k
/-! X5_restOf -/
def f_X5_restOf  (a1 : Int32) (σ : tn_M) : Option (Int32 × tn_M) :=
  tn_bd (f_X5_tries σ) fun _ σ1 =>
  tn_bd (f_X5_runsDown σ1) fun r3 σ2 =>
  if r3 = 0 then
    some ((-3), σ2)
  else
    if a1 = (-1) then
      some ((σ2.1 5 24), σ2)
    else
      tn_ck a1 5 <|
      some ((σ2.1 44 (tn_x a1)), σ2)
set_option maxHeartbeats 4000000 in
set_option maxRecDepth 20000 in
theorem b_X5_restOf {E : tn_E} {G : tn_G} (g : tn_Ok E G cX5_restOf RX5 2 (tn_rm 8 200)) (o : tn_Om E G (some .int))  (a1 : Int32) (σ : tn_M) : tn_V E G tn_ie 0 [(0, .ref (tn_ad E 5)), (1, .int a1)] [] σ (f_X5_restOf a1 σ) := by
  unfold f_X5_restOf
  refine tr_aload_n g 0 1 dX5_restOf_0 rfl rfl rfl ?_
  refine kv_X5_tries g wd_912 ⟨Nat.le_of_ble_eq_true rfl, Nat.le_of_ble_eq_true rfl⟩ (Nat.le_of_ble_eq_true rfl) 4 dX5_restOf_1 rfl (fun _ σ1 => ?_)
  refine tr_aload_n g 0 5 dX5_restOf_4 rfl rfl rfl ?_
  refine kv_X5_runsDown g wd_1001 ⟨Nat.le_of_ble_eq_true rfl, Nat.le_of_ble_eq_true rfl⟩ (Nat.le_of_ble_eq_true rfl) 8 dX5_restOf_5 rfl (fun r3 σ2 => ?_)
  refine tr_if_ne g 16 11 dX5_restOf_8 rfl rfl ?_ ?_
  · refine tr_iload_n g 1 17 dX5_restOf_16 rfl rfl rfl ?_
    refine tr_iconst (v := (-1)) g 18 dX5_restOf_17 rfl rfl ?_
    refine tr_icmp_ne g 28 21 dX5_restOf_18 rfl rfl ?_ ?_
    · refine tr_aload_n g 0 29 dX5_restOf_28 rfl rfl rfl ?_
      refine gf_X5_16 g wd_720 32 dX5_restOf_29 rfl ?_
      refine tr_iload_n g 1 33 dX5_restOf_32 rfl rfl rfl ?_
      refine tr_iald (N := 5) g 34 rfl rfl dX5_restOf_33 rfl ?_
      exact tr_iret g o dX5_restOf_34
    · refine tr_aload_n g 0 22 dX5_restOf_21 rfl rfl rfl ?_
      refine gf_X5_24 g wd_728 25 dX5_restOf_22 rfl ?_
      refine tr_goto g 34 dX5_restOf_25 rfl ?_
      exact tr_iret g o dX5_restOf_34
  · refine tr_bipush (v := (-3)) g 13 dX5_restOf_11 rfl rfl ?_
    refine tr_goto g 34 dX5_restOf_13 rfl ?_
    exact tr_iret g o dX5_restOf_34
theorem ok_X5_restOf {E : tn_E} {l : Launch}   (a1 : Int32) {σ : tn_M} {r : Int32} {σ' : tn_M} (h : f_X5_restOf a1 σ = some (r, σ')) : tn_C E l yX5_restOf cX5_restOf 2 (some .int) (tn_rm 8 200) [.ref (tn_ad E 5), .int a1] σ (tn_ie r) σ' :=
  tn_met (by decide) (Nat.le_of_ble_eq_true rfl) (fun G _ g o => b_X5_restOf g o  a1 σ) h
theorem yy_X5_restOf : tn_Yv RX5 yX5_restOf cX5_restOf 2 (some .int) 1 := ⟨wd_1000, wd_999, wd_49, wd_70, by decide, by decide, by decide +kernel⟩
theorem kv_X5_restOf {E : tn_E} {G : tn_G} {cc : ByteArray} {own : String} {nL : Nat} {R : Room} {ρ : Type} {enc : ρ → Option Value} {pc : Nat} {lv : List (Nat × Value)} {st : List Value} {σ : tn_M} {kk : Int32 → tn_M → Option (ρ × tn_M)} {i : Nat}  {a1 : Int32} (g : tn_Ok E G cc own nL R)  (hw : Cond.methodLink own i yX5_restOf ∈ tn_T) (hroom : 9 ≤ R.frames ∧ 221 ≤ R.locals) (hW : (st.map fun v => v.category).sum ≤ 8) (n : Nat) (hd : decode cc pc = .ok (.invokevirtual i, 3)) (hn : pc + 3 = n) (k : ∀ r σ1, tn_V E G enc n lv (.int r :: st) σ1 (kk r σ1)) : tn_V E G enc pc lv (.int a1 :: .ref (tn_ad E 5) :: st) σ (tn_bd (f_X5_restOf a1 σ) kk) :=
  tr_callV (As := [.int a1]) (enc1 := tn_ie) g yy_X5_restOf hw (ci := 5) rfl (by decide) rfl (fun r σ1 h => ok_X5_restOf  a1 h) ⟨rfl, rfl⟩ ⟨hroom.1, by have h2 := hroom.2; show 8 + (2 + 11) + 200 ≤ R.locals; omega⟩ rfl rfl hW n hd hn k
/-! X5_rest -/
def F_X5_rest_13  (x1 : Int32) (σ : tn_M) : Option (Int32 × tn_M) :=
  tn_bd (f_X5_restOf x1 σ) fun r2 σ1 =>
  some (r2, σ1)
def f_X5_rest  (a1 : Int32) (σ : tn_M) : Option (Int32 × tn_M) :=
  if a1 = (-1) then
    F_X5_rest_13 a1 σ
  else
    tn_bd (f_X5_isShop a1 σ) fun r2 σ1 =>
    if r2 = 0 then
      some ((-2), σ1)
    else
      F_X5_rest_13 a1 σ1
set_option maxHeartbeats 4000000 in
set_option maxRecDepth 20000 in
theorem b_X5_rest_13 {E : tn_E} {G : tn_G} (g : tn_Ok E G cX5_rest RX5 2 (tn_rm 9 221)) (o : tn_Om E G (some .int))  (x1 : Int32) (σ : tn_M) : tn_V E G tn_ie 13 [(0, .ref (tn_ad E 5)), (1, .int x1)] [] σ (F_X5_rest_13 x1 σ) := by
  unfold F_X5_rest_13
  refine tr_aload_n g 0 14 dX5_rest_13 rfl rfl rfl ?_
  refine tr_iload_n g 1 15 dX5_rest_14 rfl rfl rfl ?_
  refine kv_X5_restOf g wd_997 ⟨Nat.le_of_ble_eq_true rfl, Nat.le_of_ble_eq_true rfl⟩ (Nat.le_of_ble_eq_true rfl) 18 dX5_rest_15 rfl (fun r2 σ1 => ?_)
  refine tr_goto g 23 dX5_rest_18 rfl ?_
  exact tr_iret g o dX5_rest_23
set_option maxHeartbeats 4000000 in
set_option maxRecDepth 20000 in
theorem b_X5_rest {E : tn_E} {G : tn_G} (g : tn_Ok E G cX5_rest RX5 2 (tn_rm 9 221)) (o : tn_Om E G (some .int))  (a1 : Int32) (σ : tn_M) : tn_V E G tn_ie 0 [(0, .ref (tn_ad E 5)), (1, .int a1)] [] σ (f_X5_rest a1 σ) := by
  unfold f_X5_rest
  refine tr_iload_n g 1 1 dX5_rest_0 rfl rfl rfl ?_
  refine tr_iconst (v := (-1)) g 2 dX5_rest_1 rfl rfl ?_
  refine tr_icmp_eq g 13 5 dX5_rest_2 rfl rfl ?_ ?_
  · exact b_X5_rest_13 g o  _ _
  · refine tr_aload_n g 0 6 dX5_rest_5 rfl rfl rfl ?_
    refine tr_iload_n g 1 7 dX5_rest_6 rfl rfl rfl ?_
    refine kv_X5_isShop g wd_877 ⟨Nat.le_of_ble_eq_true rfl, Nat.le_of_ble_eq_true rfl⟩ (Nat.le_of_ble_eq_true rfl) 10 dX5_rest_7 rfl (fun r2 σ1 => ?_)
    refine tr_if_eq g 21 13 dX5_rest_10 rfl rfl ?_ ?_
    · refine tr_bipush (v := (-2)) g 23 dX5_rest_21 rfl rfl ?_
      exact tr_iret g o dX5_rest_23
    · exact b_X5_rest_13 g o  _ _
theorem ok_X5_rest {E : tn_E} {l : Launch}   (a1 : Int32) {σ : tn_M} {r : Int32} {σ' : tn_M} (h : f_X5_rest a1 σ = some (r, σ')) : tn_C E l yX5_rest cX5_rest 2 (some .int) (tn_rm 9 221) [.ref (tn_ad E 5), .int a1] σ (tn_ie r) σ' :=
  tn_met (by decide) (Nat.le_of_ble_eq_true rfl) (fun G _ g o => b_X5_rest g o  a1 σ) h
theorem yy_X5_rest : tn_Yv RX5 yX5_rest cX5_rest 2 (some .int) 1 := ⟨wd_996, wd_994, wd_995, wd_70, by decide, by decide, by decide +kernel⟩
theorem kv_X5_rest {E : tn_E} {G : tn_G} {cc : ByteArray} {own : String} {nL : Nat} {R : Room} {ρ : Type} {enc : ρ → Option Value} {pc : Nat} {lv : List (Nat × Value)} {st : List Value} {σ : tn_M} {kk : Int32 → tn_M → Option (ρ × tn_M)} {i : Nat}  {a1 : Int32} (g : tn_Ok E G cc own nL R)  (hw : Cond.methodLink own i yX5_rest ∈ tn_T) (hroom : 10 ≤ R.frames ∧ 242 ≤ R.locals) (hW : (st.map fun v => v.category).sum ≤ 8) (n : Nat) (hd : decode cc pc = .ok (.invokevirtual i, 3)) (hn : pc + 3 = n) (k : ∀ r σ1, tn_V E G enc n lv (.int r :: st) σ1 (kk r σ1)) : tn_V E G enc pc lv (.int a1 :: .ref (tn_ad E 5) :: st) σ (tn_bd (f_X5_rest a1 σ) kk) :=
  tr_callV (As := [.int a1]) (enc1 := tn_ie) g yy_X5_rest hw (ci := 5) rfl (by decide) rfl (fun r σ1 h => ok_X5_rest  a1 h) ⟨rfl, rfl⟩ ⟨hroom.1, by have h2 := hroom.2; show 8 + (2 + 11) + 221 ≤ R.locals; omega⟩ rfl rfl hW n hd hn k
/-! X5_isStill -/
def F_X5_isStill_25 (c2 : Int32 → tn_M → Option (Int32 × tn_M)) : Nat → Int32 → Int64 → Int32 → tn_M → Option (Int32 × tn_M)
  | 0, _, _, _, _ => none
  | tn_n + 1, x1, x2, x4, σ => 
    if 4 ≤ x4 then
      c2 (x1 + 1) σ
    else
      tn_bd (f_X5_earnsBy x1 x4 σ) fun r2 σ1 =>
      if r2 ≤ x2 then
        F_X5_isStill_25 c2 tn_n x1 x2 (x4 + 1) σ1
      else
        some (0, σ1)
def F_X5_isStill_2  : Nat → Int32 → tn_M → Option (Int32 × tn_M)
  | 0, _, _ => none
  | tn_n + 1, x1, σ => 
    if (σ.1 5 8) ≤ x1 then
      some (1, σ)
    else
      tn_ck x1 5 <|
      tn_bd (f_X5_earnsBy x1 (σ.1 44 (tn_x x1)) σ) fun r2 σ1 =>
      F_X5_isStill_25 (fun z0 zs => F_X5_isStill_2 tn_n z0 zs) tn_fuel x1 r2 0 σ1
def f_X5_isStill   (σ : tn_M) : Option (Int32 × tn_M) :=
  F_X5_isStill_2 tn_fuel 0 σ
set_option maxHeartbeats 4000000 in
set_option maxRecDepth 20000 in
theorem b_X5_isStill_25 {E : tn_E} {G : tn_G} (g : tn_Ok E G cX5_isStill RX5 5 (tn_rm 5 128)) (o : tn_Om E G (some .boolean)) (c2 : Int32 → tn_M → Option (Int32 × tn_M)) (hc2 : ∀ (x1 : Int32) (σ : tn_M), tn_V E G tn_ie 2 [(0, .ref (tn_ad E 5)), (1, .int x1)] [] σ (c2 x1 σ)) : ∀ (n : Nat) (x1 : Int32) (x2 : Int64) (x4 : Int32) (σ : tn_M), tn_V E G tn_ie 25 [(0, .ref (tn_ad E 5)), (1, .int x1), (2, .long x2), (4, .int x4)] [] σ (F_X5_isStill_25 c2 n x1 x2 x4 σ) := by
  intro n
  induction n with
  | zero => intros; exact tr_none
  | succ tn_n ih =>
    intro x1 x2 x4 σ
    rw [F_X5_isStill_25]
    refine tr_iload g 3 27 dX5_isStill_25 rfl rfl ?_
    refine tr_iconst (v := 4) g 28 dX5_isStill_27 rfl rfl ?_
    refine tr_icmp_ge g 51 31 dX5_isStill_28 rfl rfl ?_ ?_
    · refine tr_iinc (lv' := [(1, .int (x1 + 1)), (0, .ref (tn_ad E 5)), (2, .long x2), (4, .int x4)]) (x := (x1 + 1)) g 1 54 dX5_isStill_51 rfl rfl rfl (by decide) rfl ?_
      refine tr_goto g 2 dX5_isStill_54 rfl ?_
      refine tr_sub [1, 0] (lv' := [(0, .ref (tn_ad E 5)), (1, .int (x1 + 1))]) rfl ?_
      exact hc2 _ _
    · refine tr_aload_n g 0 32 dX5_isStill_31 rfl rfl rfl ?_
      refine tr_iload_n g 1 33 dX5_isStill_32 rfl rfl rfl ?_
      refine tr_iload g 3 35 dX5_isStill_33 rfl rfl ?_
      refine kv_X5_earnsBy g wd_989 ⟨Nat.le_of_ble_eq_true rfl, Nat.le_of_ble_eq_true rfl⟩ (Nat.le_of_ble_eq_true rfl) 38 dX5_isStill_35 rfl (fun r2 σ1 => ?_)
      refine tr_lload_n g 2 39 dX5_isStill_38 rfl rfl rfl ?_
      refine tr_lle g 45 43 dX5_isStill_39 dX5_isStill_40 rfl rfl ?_ ?_
      · refine tr_iinc (lv' := [(4, .int (x4 + 1)), (0, .ref (tn_ad E 5)), (1, .int x1), (2, .long x2)]) (x := (x4 + 1)) g 3 48 dX5_isStill_45 rfl rfl rfl (by decide) rfl ?_
        refine tr_goto g 25 dX5_isStill_48 rfl ?_
        refine tr_sub [1, 2, 3, 0] (lv' := [(0, .ref (tn_ad E 5)), (1, .int x1), (2, .long x2), (4, .int (x4 + 1))]) rfl ?_
        exact ih _ _ _ _
      · refine tr_iconst (v := 0) g 44 dX5_isStill_43 rfl rfl ?_
        exact tr_zret g o rfl dX5_isStill_44
set_option maxHeartbeats 4000000 in
set_option maxRecDepth 20000 in
theorem b_X5_isStill_2 {E : tn_E} {G : tn_G} (g : tn_Ok E G cX5_isStill RX5 5 (tn_rm 5 128)) (o : tn_Om E G (some .boolean))  : ∀ (n : Nat) (x1 : Int32) (σ : tn_M), tn_V E G tn_ie 2 [(0, .ref (tn_ad E 5)), (1, .int x1)] [] σ (F_X5_isStill_2 n x1 σ) := by
  intro n
  induction n with
  | zero => intros; exact tr_none
  | succ tn_n ih =>
    intro x1 σ
    rw [F_X5_isStill_2]
    refine tr_iload_n g 1 3 dX5_isStill_2 rfl rfl rfl ?_
    refine tr_aload_n g 0 4 dX5_isStill_3 rfl rfl rfl ?_
    refine gf_X5_8 g wd_712 7 dX5_isStill_4 rfl ?_
    refine tr_icmp_ge g 57 10 dX5_isStill_7 rfl rfl ?_ ?_
    · refine tr_iconst (v := 1) g 58 dX5_isStill_57 rfl rfl ?_
      exact tr_zret g o rfl dX5_isStill_58
    · refine tr_aload_n g 0 11 dX5_isStill_10 rfl rfl rfl ?_
      refine tr_iload_n g 1 12 dX5_isStill_11 rfl rfl rfl ?_
      refine tr_aload_n g 0 13 dX5_isStill_12 rfl rfl rfl ?_
      refine gf_X5_16 g wd_720 16 dX5_isStill_13 rfl ?_
      refine tr_iload_n g 1 17 dX5_isStill_16 rfl rfl rfl ?_
      refine tr_iald (N := 5) g 18 rfl rfl dX5_isStill_17 rfl ?_
      refine kv_X5_earnsBy g wd_989 ⟨Nat.le_of_ble_eq_true rfl, Nat.le_of_ble_eq_true rfl⟩ (Nat.le_of_ble_eq_true rfl) 21 dX5_isStill_18 rfl (fun r2 σ1 => ?_)
      refine tr_lstore_n (lv' := [(2, .long r2), (0, .ref (tn_ad E 5)), (1, .int x1)]) g 22 dX5_isStill_21 rfl rfl (by decide) rfl ?_
      refine tr_iconst (v := 0) g 23 dX5_isStill_22 rfl rfl ?_
      refine tr_istore (lv' := [(4, .int 0), (2, .long r2), (0, .ref (tn_ad E 5)), (1, .int x1)]) g 25 dX5_isStill_23 rfl (by decide) rfl ?_
      refine tr_sub [2, 3, 1, 0] (lv' := [(0, .ref (tn_ad E 5)), (1, .int x1), (2, .long r2), (4, .int 0)]) rfl ?_
      exact b_X5_isStill_25 g o (fun z0 zs => F_X5_isStill_2 tn_n z0 zs) (fun z0 zs => ih z0 zs) tn_fuel _ _ _ _
set_option maxHeartbeats 4000000 in
set_option maxRecDepth 20000 in
theorem b_X5_isStill {E : tn_E} {G : tn_G} (g : tn_Ok E G cX5_isStill RX5 5 (tn_rm 5 128)) (o : tn_Om E G (some .boolean))   (σ : tn_M) : tn_V E G tn_ie 0 [(0, .ref (tn_ad E 5))] [] σ (f_X5_isStill σ) := by
  unfold f_X5_isStill
  refine tr_iconst (v := 0) g 1 dX5_isStill_0 rfl rfl ?_
  refine tr_istore_n (lv' := [(1, .int 0), (0, .ref (tn_ad E 5))]) g 2 dX5_isStill_1 rfl rfl (by decide) rfl ?_
  refine tr_sub [1, 0] (lv' := [(0, .ref (tn_ad E 5)), (1, .int 0)]) rfl ?_
  exact b_X5_isStill_2 g o  tn_fuel _ _
theorem ok_X5_isStill {E : tn_E} {l : Launch}    {σ : tn_M} {r : Int32} {σ' : tn_M} (h : f_X5_isStill  σ = some (r, σ')) : tn_C E l yX5_isStill cX5_isStill 5 (some .boolean) (tn_rm 5 128) [.ref (tn_ad E 5)] σ (tn_ie r) σ' :=
  tn_met (by decide) (Nat.le_of_ble_eq_true rfl) (fun G _ g o => b_X5_isStill g o   σ) h
theorem yy_X5_isStill : tn_Yv RX5 yX5_isStill cX5_isStill 5 (some .boolean) 0 := ⟨wd_1024, wd_1023, wd_54, wd_70, by decide, by decide, by decide +kernel⟩
theorem kv_X5_isStill {E : tn_E} {G : tn_G} {cc : ByteArray} {own : String} {nL : Nat} {R : Room} {ρ : Type} {enc : ρ → Option Value} {pc : Nat} {lv : List (Nat × Value)} {st : List Value} {σ : tn_M} {kk : Int32 → tn_M → Option (ρ × tn_M)} {i : Nat}   (g : tn_Ok E G cc own nL R)  (hw : Cond.methodLink own i yX5_isStill ∈ tn_T) (hroom : 6 ≤ R.frames ∧ 152 ≤ R.locals) (hW : (st.map fun v => v.category).sum ≤ 8) (n : Nat) (hd : decode cc pc = .ok (.invokevirtual i, 3)) (hn : pc + 3 = n) (k : ∀ r σ1, tn_V E G enc n lv (.int r :: st) σ1 (kk r σ1)) : tn_V E G enc pc lv (.ref (tn_ad E 5) :: st) σ (tn_bd (f_X5_isStill  σ) kk) :=
  tr_callV (As := []) (enc1 := tn_ie) g yy_X5_isStill hw (ci := 5) rfl (by decide) rfl (fun r σ1 h => ok_X5_isStill   h) ⟨rfl, rfl⟩ ⟨hroom.1, by have h2 := hroom.2; show 8 + (5 + 11) + 128 ≤ R.locals; omega⟩ rfl rfl hW n hd hn k
/-! X5_lays -/
def F_X5_lays_9  : Nat → Int32 → Int32 → tn_M → Option (Unit × tn_M)
  | 0, _, _, _ => none
  | tn_n + 1, x2, x3, σ => 
    if x3 < 0 then
      some ((), σ)
    else
      tn_ck x3 5 <|
      tn_lt (tn_si σ 44 (tn_x x3) (x2 - x2 / 4 * 4)) fun σ1 =>
      F_X5_lays_9 tn_n (x2 / 4) (x3 + (-1)) σ1
def f_X5_lays  (a1 : Int32) (σ : tn_M) : Option (Unit × tn_M) :=
  tn_lt (α := Int32) ((σ.1 5 8) - 1) fun w1 =>
  F_X5_lays_9 tn_fuel a1 w1 σ
set_option maxHeartbeats 4000000 in
set_option maxRecDepth 20000 in
theorem b_X5_lays_9 {E : tn_E} {G : tn_G} (g : tn_Ok E G cX5_lays RX5 4 (tn_rm 0 0)) (o : tn_Om E G none)  : ∀ (n : Nat) (x2 : Int32) (x3 : Int32) (σ : tn_M), tn_V E G tn_ve 9 [(0, .ref (tn_ad E 5)), (2, .int x2), (3, .int x3)] [] σ (F_X5_lays_9 n x2 x3 σ) := by
  intro n
  induction n with
  | zero => intros; exact tr_none
  | succ tn_n ih =>
    intro x2 x3 σ
    rw [F_X5_lays_9]
    refine tr_iload_n g 2 10 dX5_lays_9 rfl rfl rfl ?_
    refine tr_if_lt g 32 13 dX5_lays_10 rfl rfl ?_ ?_
    · exact tr_vret g o dX5_lays_32
    · refine tr_aload_n g 0 14 dX5_lays_13 rfl rfl rfl ?_
      refine gf_X5_16 g wd_720 17 dX5_lays_14 rfl ?_
      refine tr_iload_n g 2 18 dX5_lays_17 rfl rfl rfl ?_
      refine tr_iload_n g 1 19 dX5_lays_18 rfl rfl rfl ?_
      refine tr_iconst (v := 4) g 20 dX5_lays_19 rfl rfl ?_
      refine tr_iremK g 21 dX5_lays_20 rfl (by decide) ?_
      refine tr_iast (N := 5) g 22 rfl rfl dX5_lays_21 rfl (fun σ1 => ?_)
      refine tr_iload_n g 1 23 dX5_lays_22 rfl rfl rfl ?_
      refine tr_iconst (v := 4) g 24 dX5_lays_23 rfl rfl ?_
      refine tr_idivK g 25 dX5_lays_24 rfl (by decide) ?_
      refine tr_istore_n (lv' := [(2, .int (x2 / 4)), (0, .ref (tn_ad E 5)), (3, .int x3)]) g 26 dX5_lays_25 rfl rfl (by decide) rfl ?_
      refine tr_iinc (lv' := [(3, .int (x3 + (-1))), (2, .int (x2 / 4)), (0, .ref (tn_ad E 5))]) (x := (x3 + (-1))) g 2 29 dX5_lays_26 rfl rfl rfl (by decide) rfl ?_
      refine tr_goto g 9 dX5_lays_29 rfl ?_
      refine tr_sub [2, 1, 0] (lv' := [(0, .ref (tn_ad E 5)), (2, .int (x2 / 4)), (3, .int (x3 + (-1)))]) rfl ?_
      exact ih _ _ _
set_option maxHeartbeats 4000000 in
set_option maxRecDepth 20000 in
theorem b_X5_lays {E : tn_E} {G : tn_G} (g : tn_Ok E G cX5_lays RX5 4 (tn_rm 0 0)) (o : tn_Om E G none)  (a1 : Int32) (σ : tn_M) : tn_V E G tn_ve 0 [(0, .ref (tn_ad E 5)), (1, .int a1)] [] σ (f_X5_lays a1 σ) := by
  unfold f_X5_lays
  refine tr_iload_n g 1 1 dX5_lays_0 rfl rfl rfl ?_
  refine tr_istore_n (lv' := [(2, .int a1), (0, .ref (tn_ad E 5)), (1, .int a1)]) g 2 dX5_lays_1 rfl rfl (by decide) rfl ?_
  refine tr_aload_n g 1 3 dX5_lays_2 rfl rfl rfl ?_
  refine gf_X5_8 g wd_712 6 dX5_lays_3 rfl ?_
  refine tr_iconst (v := 1) g 7 dX5_lays_6 rfl rfl ?_
  refine tr_isub g 8 dX5_lays_7 rfl ?_
  refine tr_lti (fun w1 => ?_)
  refine tr_istore_n (lv' := [(3, .int w1), (2, .int a1), (0, .ref (tn_ad E 5)), (1, .int a1)]) g 9 dX5_lays_8 rfl rfl (by decide) rfl ?_
  refine tr_sub [2, 1, 0] (lv' := [(0, .ref (tn_ad E 5)), (2, .int a1), (3, .int w1)]) rfl ?_
  exact b_X5_lays_9 g o  tn_fuel _ _ _
theorem ok_X5_lays {E : tn_E} {l : Launch}   (a1 : Int32) {σ : tn_M} {r : Unit} {σ' : tn_M} (h : f_X5_lays a1 σ = some (r, σ')) : tn_C E l yX5_lays cX5_lays 4 none (tn_rm 0 0) [.ref (tn_ad E 5), .int a1] σ (tn_ve r) σ' :=
  tn_met (by decide) (Nat.le_of_ble_eq_true rfl) (fun G _ g o => b_X5_lays g o  a1 σ) h
theorem yy_X5_lays : tn_Yv RX5 yX5_lays cX5_lays 4 none 1 := ⟨wd_1020, wd_1019, wd_53, wd_70, by decide, by decide, by decide +kernel⟩
theorem kv_X5_lays {E : tn_E} {G : tn_G} {cc : ByteArray} {own : String} {nL : Nat} {R : Room} {ρ : Type} {enc : ρ → Option Value} {pc : Nat} {lv : List (Nat × Value)} {st : List Value} {σ : tn_M} {kk : Unit → tn_M → Option (ρ × tn_M)} {i : Nat}  {a1 : Int32} (g : tn_Ok E G cc own nL R)  (hw : Cond.methodLink own i yX5_lays ∈ tn_T) (hroom : 1 ≤ R.frames ∧ 23 ≤ R.locals) (hW : (st.map fun v => v.category).sum ≤ 8) (n : Nat) (hd : decode cc pc = .ok (.invokevirtual i, 3)) (hn : pc + 3 = n) (k : ∀ r σ1, tn_V E G enc n lv (st) σ1 (kk r σ1)) : tn_V E G enc pc lv (.int a1 :: .ref (tn_ad E 5) :: st) σ (tn_bd (f_X5_lays a1 σ) kk) :=
  tr_callV (As := [.int a1]) (enc1 := tn_ve) g yy_X5_lays hw (ci := 5) rfl (by decide) rfl (fun r σ1 h => ok_X5_lays  a1 h) ⟨rfl, rfl⟩ ⟨hroom.1, by have h2 := hroom.2; show 8 + (4 + 11) + 0 ≤ R.locals; omega⟩ rfl rfl hW n hd hn k
/-! X5_stillOf -/
def F_X5_stillOf_56  (x1 : Int32) (x3 : Int32) (σ : tn_M) : Option (Int32 × tn_M) :=
  tn_lt (α := Int32) (if x1 = (-1) then x3 else (-1)) fun v1 =>
  some (v1, σ)
def F_X5_stillOf_9  : Nat → Int32 → Int32 → Int32 → Int32 → tn_M → Option (Int32 × tn_M)
  | 0, _, _, _, _, _ => none
  | tn_n + 1, x1, x2, x3, x4, σ => 
    if (1 <<< ((2 * (σ.1 5 8)) &&& 31)) ≤ x4 then
      F_X5_stillOf_56 x1 x3 σ
    else
      tn_bd (f_X5_lays x4 σ) fun _ σ1 =>
      tn_bd (f_X5_isStill σ1) fun r3 σ2 =>
      if r3 = 0 then
        F_X5_stillOf_9 tn_n x1 x2 x3 (x4 + 1) σ2
      else
        if x3 = x1 then
          tn_ck x2 5 <|
          some ((σ2.1 44 (tn_x x2)), σ2)
        else
          F_X5_stillOf_9 tn_n x1 x2 (x3 + 1) (x4 + 1) σ2
def f_X5_stillOf  (a1 : Int32) (a2 : Int32) (σ : tn_M) : Option (Int32 × tn_M) :=
  tn_bd (f_X5_tries σ) fun _ σ1 =>
  F_X5_stillOf_9 tn_fuel a1 a2 0 0 σ1
set_option maxHeartbeats 4000000 in
set_option maxRecDepth 20000 in
theorem b_X5_stillOf_56 {E : tn_E} {G : tn_G} (g : tn_Ok E G cX5_stillOf RX5 5 (tn_rm 6 152)) (o : tn_Om E G (some .int))  (x1 : Int32) (x3 : Int32) (σ : tn_M) : tn_V E G tn_ie 56 [(1, .int x1), (3, .int x3)] [] σ (F_X5_stillOf_56 x1 x3 σ) := by
  unfold F_X5_stillOf_56
  refine tr_iload_n g 0 57 dX5_stillOf_56 rfl rfl rfl ?_
  refine tr_iconst (v := (-1)) g 58 dX5_stillOf_57 rfl rfl ?_
  refine tr_icmp_neD (inj := fun z => Value.int z) g 66 65 61 dX5_stillOf_58 rfl rfl (fun rs hj => ?_) (fun rs hj => ?_) (fun v1 => ?_)
  · refine tr_iconst (v := (-1)) g 66 dX5_stillOf_65 rfl rfl ?_
    exact hj
  · refine tr_iload_n g 1 62 dX5_stillOf_61 rfl rfl rfl ?_
    refine tr_goto g 66 dX5_stillOf_62 rfl ?_
    exact hj
  · exact tr_iret g o dX5_stillOf_66
set_option maxHeartbeats 4000000 in
set_option maxRecDepth 20000 in
theorem b_X5_stillOf_9 {E : tn_E} {G : tn_G} (g : tn_Ok E G cX5_stillOf RX5 5 (tn_rm 6 152)) (o : tn_Om E G (some .int))  : ∀ (n : Nat) (x1 : Int32) (x2 : Int32) (x3 : Int32) (x4 : Int32) (σ : tn_M), tn_V E G tn_ie 9 [(0, .ref (tn_ad E 5)), (1, .int x1), (2, .int x2), (3, .int x3), (4, .int x4)] [] σ (F_X5_stillOf_9 n x1 x2 x3 x4 σ) := by
  intro n
  induction n with
  | zero => intros; exact tr_none
  | succ tn_n ih =>
    intro x1 x2 x3 x4 σ
    rw [F_X5_stillOf_9]
    refine tr_iload g 4 11 dX5_stillOf_9 rfl rfl ?_
    refine tr_iconst (v := 1) g 12 dX5_stillOf_11 rfl rfl ?_
    refine tr_iconst (v := 2) g 13 dX5_stillOf_12 rfl rfl ?_
    refine tr_aload_n g 0 14 dX5_stillOf_13 rfl rfl rfl ?_
    refine gf_X5_8 g wd_712 17 dX5_stillOf_14 rfl ?_
    refine tr_imul g 18 dX5_stillOf_17 rfl ?_
    refine tr_ishl g 19 dX5_stillOf_18 rfl ?_
    refine tr_icmp_ge g 56 22 dX5_stillOf_19 rfl rfl ?_ ?_
    · refine tr_sub [1, 3] (lv' := [(1, .int x1), (3, .int x3)]) rfl ?_
      exact b_X5_stillOf_56 g o  _ _ _
    · refine tr_aload_n g 0 23 dX5_stillOf_22 rfl rfl rfl ?_
      refine tr_iload g 4 25 dX5_stillOf_23 rfl rfl ?_
      refine kv_X5_lays g wd_1017 ⟨Nat.le_of_ble_eq_true rfl, Nat.le_of_ble_eq_true rfl⟩ (Nat.le_of_ble_eq_true rfl) 28 dX5_stillOf_25 rfl (fun _ σ1 => ?_)
      refine tr_aload_n g 0 29 dX5_stillOf_28 rfl rfl rfl ?_
      refine kv_X5_isStill g wd_1021 ⟨Nat.le_of_ble_eq_true rfl, Nat.le_of_ble_eq_true rfl⟩ (Nat.le_of_ble_eq_true rfl) 32 dX5_stillOf_29 rfl (fun r3 σ2 => ?_)
      refine tr_if_eq g 50 35 dX5_stillOf_32 rfl rfl ?_ ?_
      · refine tr_iinc (lv' := [(4, .int (x4 + 1)), (0, .ref (tn_ad E 5)), (1, .int x1), (2, .int x2), (3, .int x3)]) (x := (x4 + 1)) g 4 53 dX5_stillOf_50 rfl rfl rfl (by decide) rfl ?_
        refine tr_goto g 9 dX5_stillOf_53 rfl ?_
        refine tr_sub [1, 2, 3, 4, 0] (lv' := [(0, .ref (tn_ad E 5)), (1, .int x1), (2, .int x2), (3, .int x3), (4, .int (x4 + 1))]) rfl ?_
        exact ih _ _ _ _ _
      · refine tr_iload_n g 3 36 dX5_stillOf_35 rfl rfl rfl ?_
        refine tr_iload_n g 1 37 dX5_stillOf_36 rfl rfl rfl ?_
        refine tr_icmp_ne g 47 40 dX5_stillOf_37 rfl rfl ?_ ?_
        · refine tr_iinc (lv' := [(3, .int (x3 + 1)), (0, .ref (tn_ad E 5)), (1, .int x1), (2, .int x2), (4, .int x4)]) (x := (x3 + 1)) g 3 50 dX5_stillOf_47 rfl rfl rfl (by decide) rfl ?_
          refine tr_iinc (lv' := [(4, .int (x4 + 1)), (3, .int (x3 + 1)), (0, .ref (tn_ad E 5)), (1, .int x1), (2, .int x2)]) (x := (x4 + 1)) g 4 53 dX5_stillOf_50 rfl rfl rfl (by decide) rfl ?_
          refine tr_goto g 9 dX5_stillOf_53 rfl ?_
          refine tr_sub [2, 3, 4, 1, 0] (lv' := [(0, .ref (tn_ad E 5)), (1, .int x1), (2, .int x2), (3, .int (x3 + 1)), (4, .int (x4 + 1))]) rfl ?_
          exact ih _ _ _ _ _
        · refine tr_aload_n g 0 41 dX5_stillOf_40 rfl rfl rfl ?_
          refine gf_X5_16 g wd_720 44 dX5_stillOf_41 rfl ?_
          refine tr_iload_n g 2 45 dX5_stillOf_44 rfl rfl rfl ?_
          refine tr_iald (N := 5) g 46 rfl rfl dX5_stillOf_45 rfl ?_
          exact tr_iret g o dX5_stillOf_46
set_option maxHeartbeats 4000000 in
set_option maxRecDepth 20000 in
theorem b_X5_stillOf {E : tn_E} {G : tn_G} (g : tn_Ok E G cX5_stillOf RX5 5 (tn_rm 6 152)) (o : tn_Om E G (some .int))  (a1 : Int32) (a2 : Int32) (σ : tn_M) : tn_V E G tn_ie 0 [(0, .ref (tn_ad E 5)), (1, .int a1), (2, .int a2)] [] σ (f_X5_stillOf a1 a2 σ) := by
  unfold f_X5_stillOf
  refine tr_aload_n g 0 1 dX5_stillOf_0 rfl rfl rfl ?_
  refine kv_X5_tries g wd_912 ⟨Nat.le_of_ble_eq_true rfl, Nat.le_of_ble_eq_true rfl⟩ (Nat.le_of_ble_eq_true rfl) 4 dX5_stillOf_1 rfl (fun _ σ1 => ?_)
  refine tr_iconst (v := 0) g 5 dX5_stillOf_4 rfl rfl ?_
  refine tr_istore_n (lv' := [(3, .int 0), (0, .ref (tn_ad E 5)), (1, .int a1), (2, .int a2)]) g 6 dX5_stillOf_5 rfl rfl (by decide) rfl ?_
  refine tr_iconst (v := 0) g 7 dX5_stillOf_6 rfl rfl ?_
  refine tr_istore (lv' := [(4, .int 0), (3, .int 0), (0, .ref (tn_ad E 5)), (1, .int a1), (2, .int a2)]) g 9 dX5_stillOf_7 rfl (by decide) rfl ?_
  refine tr_sub [2, 3, 4, 1, 0] (lv' := [(0, .ref (tn_ad E 5)), (1, .int a1), (2, .int a2), (3, .int 0), (4, .int 0)]) rfl ?_
  exact b_X5_stillOf_9 g o  tn_fuel _ _ _ _ _
theorem ok_X5_stillOf {E : tn_E} {l : Launch}   (a1 : Int32) (a2 : Int32) {σ : tn_M} {r : Int32} {σ' : tn_M} (h : f_X5_stillOf a1 a2 σ = some (r, σ')) : tn_C E l yX5_stillOf cX5_stillOf 5 (some .int) (tn_rm 6 152) [.ref (tn_ad E 5), .int a1, .int a2] σ (tn_ie r) σ' :=
  tn_met (by decide) (Nat.le_of_ble_eq_true rfl) (fun G _ g o => b_X5_stillOf g o  a1 a2 σ) h
theorem yy_X5_stillOf : tn_Yv RX5 yX5_stillOf cX5_stillOf 5 (some .int) 2 := ⟨wd_1016, wd_1015, wd_52, wd_70, by decide, by decide, by decide +kernel⟩
theorem kv_X5_stillOf {E : tn_E} {G : tn_G} {cc : ByteArray} {own : String} {nL : Nat} {R : Room} {ρ : Type} {enc : ρ → Option Value} {pc : Nat} {lv : List (Nat × Value)} {st : List Value} {σ : tn_M} {kk : Int32 → tn_M → Option (ρ × tn_M)} {i : Nat}  {a1 : Int32} {a2 : Int32} (g : tn_Ok E G cc own nL R)  (hw : Cond.methodLink own i yX5_stillOf ∈ tn_T) (hroom : 7 ≤ R.frames ∧ 176 ≤ R.locals) (hW : (st.map fun v => v.category).sum ≤ 8) (n : Nat) (hd : decode cc pc = .ok (.invokevirtual i, 3)) (hn : pc + 3 = n) (k : ∀ r σ1, tn_V E G enc n lv (.int r :: st) σ1 (kk r σ1)) : tn_V E G enc pc lv (.int a2 :: .int a1 :: .ref (tn_ad E 5) :: st) σ (tn_bd (f_X5_stillOf a1 a2 σ) kk) :=
  tr_callV (As := [.int a1, .int a2]) (enc1 := tn_ie) g yy_X5_stillOf hw (ci := 5) rfl (by decide) rfl (fun r σ1 h => ok_X5_stillOf  a1 a2 h) ⟨rfl, rfl⟩ ⟨hroom.1, by have h2 := hroom.2; show 8 + (5 + 11) + 152 ≤ R.locals; omega⟩ rfl rfl hW n hd hn k
/-! X5_still -/
def F_X5_still_35  (x1 : Int32) (x2 : Int32) (y0 : Int32) (σ : tn_M) : Option (Int32 × tn_M) :=
  if y0 = 0 then
    some ((-2), σ)
  else
    tn_bd (f_X5_stillOf x1 x2 σ) fun r2 σ1 =>
    some (r2, σ1)
def F_X5_still_34  (x1 : Int32) (x2 : Int32) (σ : tn_M) : Option (Int32 × tn_M) :=
  F_X5_still_35 x1 x2 0 σ
def f_X5_still  (a1 : Int32) (a2 : Int32) (σ : tn_M) : Option (Int32 × tn_M) :=
  if a1 = (-1) then
    if a2 = (-1) then
      F_X5_still_35 a1 a2 1 σ
    else
      F_X5_still_35 a1 a2 0 σ
  else
    if a1 < 0 then
      F_X5_still_34 a1 a2 σ
    else
      tn_bd (f_X5_isShop a2 σ) fun r2 σ1 =>
      if r2 = 0 then
        F_X5_still_34 a1 a2 σ1
      else
        F_X5_still_35 a1 a2 1 σ1
set_option maxHeartbeats 4000000 in
set_option maxRecDepth 20000 in
theorem b_X5_still_35 {E : tn_E} {G : tn_G} (g : tn_Ok E G cX5_still RX5 4 (tn_rm 7 176)) (o : tn_Om E G (some .int))  (x1 : Int32) (x2 : Int32) (y0 : Int32) (σ : tn_M) : tn_V E G tn_ie 35 [(0, .ref (tn_ad E 5)), (1, .int x1), (2, .int x2)] [.int y0] σ (F_X5_still_35 x1 x2 y0 σ) := by
  unfold F_X5_still_35
  refine tr_istore_n (lv' := [(3, .int y0), (0, .ref (tn_ad E 5)), (1, .int x1), (2, .int x2)]) g 36 dX5_still_35 rfl rfl (by decide) rfl ?_
  refine tr_iload_n g 0 37 dX5_still_36 rfl rfl rfl ?_
  refine tr_if_eq g 49 40 dX5_still_37 rfl rfl ?_ ?_
  · refine tr_bipush (v := (-2)) g 51 dX5_still_49 rfl rfl ?_
    exact tr_iret g o dX5_still_51
  · refine tr_aload_n g 1 41 dX5_still_40 rfl rfl rfl ?_
    refine tr_iload_n g 2 42 dX5_still_41 rfl rfl rfl ?_
    refine tr_iload_n g 3 43 dX5_still_42 rfl rfl rfl ?_
    refine kv_X5_stillOf g wd_1013 ⟨Nat.le_of_ble_eq_true rfl, Nat.le_of_ble_eq_true rfl⟩ (Nat.le_of_ble_eq_true rfl) 46 dX5_still_43 rfl (fun r2 σ1 => ?_)
    refine tr_goto g 51 dX5_still_46 rfl ?_
    exact tr_iret g o dX5_still_51
set_option maxHeartbeats 4000000 in
set_option maxRecDepth 20000 in
theorem b_X5_still_34 {E : tn_E} {G : tn_G} (g : tn_Ok E G cX5_still RX5 4 (tn_rm 7 176)) (o : tn_Om E G (some .int))  (x1 : Int32) (x2 : Int32) (σ : tn_M) : tn_V E G tn_ie 34 [(0, .ref (tn_ad E 5)), (1, .int x1), (2, .int x2)] [] σ (F_X5_still_34 x1 x2 σ) := by
  unfold F_X5_still_34
  refine tr_iconst (v := 0) g 35 dX5_still_34 rfl rfl ?_
  exact b_X5_still_35 g o  _ _ _ _
set_option maxHeartbeats 4000000 in
set_option maxRecDepth 20000 in
theorem b_X5_still {E : tn_E} {G : tn_G} (g : tn_Ok E G cX5_still RX5 4 (tn_rm 7 176)) (o : tn_Om E G (some .int))  (a1 : Int32) (a2 : Int32) (σ : tn_M) : tn_V E G tn_ie 0 [(0, .ref (tn_ad E 5)), (1, .int a1), (2, .int a2)] [] σ (f_X5_still a1 a2 σ) := by
  unfold f_X5_still
  refine tr_iload_n g 1 1 dX5_still_0 rfl rfl rfl ?_
  refine tr_iconst (v := (-1)) g 2 dX5_still_1 rfl rfl ?_
  refine tr_icmp_ne g 18 5 dX5_still_2 rfl rfl ?_ ?_
  · refine tr_iload_n g 1 19 dX5_still_18 rfl rfl rfl ?_
    refine tr_if_lt g 34 22 dX5_still_19 rfl rfl ?_ ?_
    · exact b_X5_still_34 g o  _ _ _
    · refine tr_aload_n g 0 23 dX5_still_22 rfl rfl rfl ?_
      refine tr_iload_n g 2 24 dX5_still_23 rfl rfl rfl ?_
      refine kv_X5_isShop g wd_877 ⟨Nat.le_of_ble_eq_true rfl, Nat.le_of_ble_eq_true rfl⟩ (Nat.le_of_ble_eq_true rfl) 27 dX5_still_24 rfl (fun r2 σ1 => ?_)
      refine tr_if_eq g 34 30 dX5_still_27 rfl rfl ?_ ?_
      · exact b_X5_still_34 g o  _ _ _
      · refine tr_iconst (v := 1) g 31 dX5_still_30 rfl rfl ?_
        refine tr_goto g 35 dX5_still_31 rfl ?_
        exact b_X5_still_35 g o  _ _ _ _
  · refine tr_iload_n g 2 6 dX5_still_5 rfl rfl rfl ?_
    refine tr_iconst (v := (-1)) g 7 dX5_still_6 rfl rfl ?_
    refine tr_icmp_ne g 14 10 dX5_still_7 rfl rfl ?_ ?_
    · refine tr_iconst (v := 0) g 15 dX5_still_14 rfl rfl ?_
      refine tr_goto g 35 dX5_still_15 rfl ?_
      exact b_X5_still_35 g o  _ _ _ _
    · refine tr_iconst (v := 1) g 11 dX5_still_10 rfl rfl ?_
      refine tr_goto g 35 dX5_still_11 rfl ?_
      exact b_X5_still_35 g o  _ _ _ _
theorem ok_X5_still {E : tn_E} {l : Launch}   (a1 : Int32) (a2 : Int32) {σ : tn_M} {r : Int32} {σ' : tn_M} (h : f_X5_still a1 a2 σ = some (r, σ')) : tn_C E l yX5_still cX5_still 4 (some .int) (tn_rm 7 176) [.ref (tn_ad E 5), .int a1, .int a2] σ (tn_ie r) σ' :=
  tn_met (by decide) (Nat.le_of_ble_eq_true rfl) (fun G _ g o => b_X5_still g o  a1 a2 σ) h
theorem yy_X5_still : tn_Yv RX5 yX5_still cX5_still 4 (some .int) 2 := ⟨wd_1012, wd_1010, wd_1011, wd_70, by decide, by decide, by decide +kernel⟩
theorem kv_X5_still {E : tn_E} {G : tn_G} {cc : ByteArray} {own : String} {nL : Nat} {R : Room} {ρ : Type} {enc : ρ → Option Value} {pc : Nat} {lv : List (Nat × Value)} {st : List Value} {σ : tn_M} {kk : Int32 → tn_M → Option (ρ × tn_M)} {i : Nat}  {a1 : Int32} {a2 : Int32} (g : tn_Ok E G cc own nL R)  (hw : Cond.methodLink own i yX5_still ∈ tn_T) (hroom : 8 ≤ R.frames ∧ 199 ≤ R.locals) (hW : (st.map fun v => v.category).sum ≤ 8) (n : Nat) (hd : decode cc pc = .ok (.invokevirtual i, 3)) (hn : pc + 3 = n) (k : ∀ r σ1, tn_V E G enc n lv (.int r :: st) σ1 (kk r σ1)) : tn_V E G enc pc lv (.int a2 :: .int a1 :: .ref (tn_ad E 5) :: st) σ (tn_bd (f_X5_still a1 a2 σ) kk) :=
  tr_callV (As := [.int a1, .int a2]) (enc1 := tn_ie) g yy_X5_still hw (ci := 5) rfl (by decide) rfl (fun r σ1 h => ok_X5_still  a1 a2 h) ⟨rfl, rfl⟩ ⟨hroom.1, by have h2 := hroom.2; show 8 + (4 + 11) + 176 ≤ R.locals; omega⟩ rfl rfl hW n hd hn k
/-! X5_findBest -/
def F_X5_findBest_15  : Nat → Int32 → Int32 → Int32 → tn_M → Option (Int32 × tn_M)
  | 0, _, _, _, _ => none
  | tn_n + 1, x1, x2, x3, σ => 
    if (1 <<< ((2 * (σ.1 5 8)) &&& 31)) ≤ x3 then
      some (x2, σ)
    else
      tn_bd (f_X5_lays x3 σ) fun _ σ1 =>
      tn_bd (f_X5_together σ1) fun r3 σ2 =>
      tn_lt (α := Int64) (if x1 = 0 then r3 else (σ2.2 5 23)) fun v4 =>
      tn_lt (α := Int32) (if v4 ≤ (σ2.2 5 25) then x2 else x3) fun v5 =>
      tn_lt (α := Int64) (if v4 ≤ (σ2.2 5 25) then (σ2.2 5 25) else v4) fun v6 =>
      tn_lt (tn_sl σ2 5 25 v6) fun σ7 =>
      F_X5_findBest_15 tn_n x1 v5 (x3 + 1) σ7
def f_X5_findBest  (a1 : Int32) (σ : tn_M) : Option (Int32 × tn_M) :=
  tn_bd (f_X5_tries σ) fun _ σ1 =>
  tn_lt (tn_sl σ1 5 25 (-9223372036854775808)) fun σ2 =>
  F_X5_findBest_15 tn_fuel a1 0 0 σ2
set_option maxHeartbeats 4000000 in
set_option maxRecDepth 20000 in
theorem b_X5_findBest_15 {E : tn_E} {G : tn_G} (g : tn_Ok E G cX5_findBest RX5 8 (tn_rm 6 137)) (o : tn_Om E G (some .int))  : ∀ (n : Nat) (x1 : Int32) (x2 : Int32) (x3 : Int32) (σ : tn_M), tn_V E G tn_ie 15 [(0, .ref (tn_ad E 5)), (1, .int x1), (2, .int x2), (3, .int x3)] [] σ (F_X5_findBest_15 n x1 x2 x3 σ) := by
  intro n
  induction n with
  | zero => intros; exact tr_none
  | succ tn_n ih =>
    intro x1 x2 x3 σ
    rw [F_X5_findBest_15]
    refine tr_iload_n g 3 16 dX5_findBest_15 rfl rfl rfl ?_
    refine tr_iconst (v := 1) g 17 dX5_findBest_16 rfl rfl ?_
    refine tr_iconst (v := 2) g 18 dX5_findBest_17 rfl rfl ?_
    refine tr_aload_n g 0 19 dX5_findBest_18 rfl rfl rfl ?_
    refine gf_X5_8 g wd_712 22 dX5_findBest_19 rfl ?_
    refine tr_imul g 23 dX5_findBest_22 rfl ?_
    refine tr_ishl g 24 dX5_findBest_23 rfl ?_
    refine tr_icmp_ge g 98 27 dX5_findBest_24 rfl rfl ?_ ?_
    · refine tr_iload_n g 2 99 dX5_findBest_98 rfl rfl rfl ?_
      exact tr_iret g o dX5_findBest_99
    · refine tr_aload_n g 0 28 dX5_findBest_27 rfl rfl rfl ?_
      refine tr_iload_n g 3 29 dX5_findBest_28 rfl rfl rfl ?_
      refine kv_X5_lays g wd_1017 ⟨Nat.le_of_ble_eq_true rfl, Nat.le_of_ble_eq_true rfl⟩ (Nat.le_of_ble_eq_true rfl) 32 dX5_findBest_29 rfl (fun _ σ1 => ?_)
      refine tr_aload_n g 0 33 dX5_findBest_32 rfl rfl rfl ?_
      refine kv_X5_together g wd_973 ⟨Nat.le_of_ble_eq_true rfl, Nat.le_of_ble_eq_true rfl⟩ (Nat.le_of_ble_eq_true rfl) 36 dX5_findBest_33 rfl (fun r3 σ2 => ?_)
      refine tr_lstore (lv' := [(4, .long r3), (0, .ref (tn_ad E 5)), (1, .int x1), (2, .int x2), (3, .int x3)]) g 38 dX5_findBest_36 rfl (by decide) rfl ?_
      refine tr_iload_n g 2 39 dX5_findBest_38 rfl rfl rfl ?_
      refine tr_if_neD (inj := fun z => Value.long z) g 51 47 42 dX5_findBest_39 rfl rfl (fun rs hj => ?_) (fun rs hj => ?_) (fun v4 => ?_)
      · refine tr_aload_n g 1 48 dX5_findBest_47 rfl rfl rfl ?_
        refine gf_X5_23 g wd_727 51 dX5_findBest_48 rfl ?_
        exact hj
      · refine tr_lload g 0 44 dX5_findBest_42 rfl rfl ?_
        refine tr_goto g 51 dX5_findBest_44 rfl ?_
        exact hj
      · refine tr_lstore (lv' := [(6, .long v4), (4, .long r3), (0, .ref (tn_ad E 5)), (1, .int x1), (2, .int x2), (3, .int x3)]) g 53 dX5_findBest_51 rfl (by decide) rfl ?_
        refine tr_lload g 0 55 dX5_findBest_53 rfl rfl ?_
        refine tr_aload_n g 2 56 dX5_findBest_55 rfl rfl rfl ?_
        refine gf_X5_25 g wd_729 59 dX5_findBest_56 rfl ?_
        refine tr_lleD (inj := fun z => Value.int z) g 68 67 63 dX5_findBest_59 dX5_findBest_60 rfl rfl (fun rs hj => ?_) (fun rs hj => ?_) (fun v5 => ?_)
        · refine tr_iload_n g 4 68 dX5_findBest_67 rfl rfl rfl ?_
          exact hj
        · refine tr_iload_n g 5 64 dX5_findBest_63 rfl rfl rfl ?_
          refine tr_goto g 68 dX5_findBest_64 rfl ?_
          exact hj
        · refine tr_istore_n (lv' := [(2, .int v5), (6, .long v4), (4, .long r3), (0, .ref (tn_ad E 5)), (1, .int x1), (3, .int x3)]) g 69 dX5_findBest_68 rfl rfl (by decide) rfl ?_
          refine tr_aload_n g 3 70 dX5_findBest_69 rfl rfl rfl ?_
          refine tr_lload g 1 72 dX5_findBest_70 rfl rfl ?_
          refine tr_aload_n g 3 73 dX5_findBest_72 rfl rfl rfl ?_
          refine gf_X5_25 g wd_729 76 dX5_findBest_73 rfl ?_
          refine tr_lleD (inj := fun z => Value.long z) g 89 85 80 dX5_findBest_76 dX5_findBest_77 rfl rfl (fun rs hj => ?_) (fun rs hj => ?_) (fun v6 => ?_)
          · refine tr_aload_n g 3 86 dX5_findBest_85 rfl rfl rfl ?_
            refine gf_X5_25 g wd_729 89 dX5_findBest_86 rfl ?_
            exact hj
          · refine tr_lload g 1 82 dX5_findBest_80 rfl rfl ?_
            refine tr_goto g 89 dX5_findBest_82 rfl ?_
            exact hj
          · refine pf_X5_25 g wd_729 92 dX5_findBest_89 rfl (fun σ7 => ?_)
            refine tr_iinc (lv' := [(3, .int (x3 + 1)), (2, .int v5), (6, .long v4), (4, .long r3), (0, .ref (tn_ad E 5)), (1, .int x1)]) (x := (x3 + 1)) g 5 95 dX5_findBest_92 rfl rfl rfl (by decide) rfl ?_
            refine tr_goto g 15 dX5_findBest_95 rfl ?_
            refine tr_sub [4, 5, 1, 0] (lv' := [(0, .ref (tn_ad E 5)), (1, .int x1), (2, .int v5), (3, .int (x3 + 1))]) rfl ?_
            exact ih _ _ _ _
set_option maxHeartbeats 4000000 in
set_option maxRecDepth 20000 in
theorem b_X5_findBest {E : tn_E} {G : tn_G} (g : tn_Ok E G cX5_findBest RX5 8 (tn_rm 6 137)) (o : tn_Om E G (some .int))  (a1 : Int32) (σ : tn_M) : tn_V E G tn_ie 0 [(0, .ref (tn_ad E 5)), (1, .int a1)] [] σ (f_X5_findBest a1 σ) := by
  unfold f_X5_findBest
  refine tr_aload_n g 0 1 dX5_findBest_0 rfl rfl rfl ?_
  refine kv_X5_tries g wd_912 ⟨Nat.le_of_ble_eq_true rfl, Nat.le_of_ble_eq_true rfl⟩ (Nat.le_of_ble_eq_true rfl) 4 dX5_findBest_1 rfl (fun _ σ1 => ?_)
  refine tr_iconst (v := 0) g 5 dX5_findBest_4 rfl rfl ?_
  refine tr_istore_n (lv' := [(2, .int 0), (0, .ref (tn_ad E 5)), (1, .int a1)]) g 6 dX5_findBest_5 rfl rfl (by decide) rfl ?_
  refine tr_aload_n g 1 7 dX5_findBest_6 rfl rfl rfl ?_
  refine tr_ldc2 (v := (-9223372036854775808)) g wd_964 10 dX5_findBest_7 rfl ?_
  refine pf_X5_25 g wd_729 13 dX5_findBest_10 rfl (fun σ2 => ?_)
  refine tr_iconst (v := 0) g 14 dX5_findBest_13 rfl rfl ?_
  refine tr_istore_n (lv' := [(3, .int 0), (2, .int 0), (0, .ref (tn_ad E 5)), (1, .int a1)]) g 15 dX5_findBest_14 rfl rfl (by decide) rfl ?_
  refine tr_sub [2, 3, 1, 0] (lv' := [(0, .ref (tn_ad E 5)), (1, .int a1), (2, .int 0), (3, .int 0)]) rfl ?_
  exact b_X5_findBest_15 g o  tn_fuel _ _ _ _
theorem ok_X5_findBest {E : tn_E} {l : Launch}   (a1 : Int32) {σ : tn_M} {r : Int32} {σ' : tn_M} (h : f_X5_findBest a1 σ = some (r, σ')) : tn_C E l yX5_findBest cX5_findBest 8 (some .int) (tn_rm 6 137) [.ref (tn_ad E 5), .int a1] σ (tn_ie r) σ' :=
  tn_met (by decide) (Nat.le_of_ble_eq_true rfl) (fun G _ g o => b_X5_findBest g o  a1 σ) h
theorem yy_X5_findBest : tn_Yv RX5 yX5_findBest cX5_findBest 8 (some .int) 1 := ⟨wd_1036, wd_1035, wd_56, wd_70, by decide, by decide, by decide +kernel⟩
theorem kv_X5_findBest {E : tn_E} {G : tn_G} {cc : ByteArray} {own : String} {nL : Nat} {R : Room} {ρ : Type} {enc : ρ → Option Value} {pc : Nat} {lv : List (Nat × Value)} {st : List Value} {σ : tn_M} {kk : Int32 → tn_M → Option (ρ × tn_M)} {i : Nat}  {a1 : Int32} (g : tn_Ok E G cc own nL R)  (hw : Cond.methodLink own i yX5_findBest ∈ tn_T) (hroom : 7 ≤ R.frames ∧ 164 ≤ R.locals) (hW : (st.map fun v => v.category).sum ≤ 8) (n : Nat) (hd : decode cc pc = .ok (.invokevirtual i, 3)) (hn : pc + 3 = n) (k : ∀ r σ1, tn_V E G enc n lv (.int r :: st) σ1 (kk r σ1)) : tn_V E G enc pc lv (.int a1 :: .ref (tn_ad E 5) :: st) σ (tn_bd (f_X5_findBest a1 σ) kk) :=
  tr_callV (As := [.int a1]) (enc1 := tn_ie) g yy_X5_findBest hw (ci := 5) rfl (by decide) rfl (fun r σ1 h => ok_X5_findBest  a1 h) ⟨rfl, rfl⟩ ⟨hroom.1, by have h2 := hroom.2; show 8 + (8 + 11) + 137 ≤ R.locals; omega⟩ rfl rfl hW n hd hn k
/-! X5_bestOf -/
def f_X5_bestOf  (a1 : Int32) (a2 : Int32) (σ : tn_M) : Option (Int32 × tn_M) :=
  tn_bd (f_X5_findBest a1 σ) fun r2 σ1 =>
  tn_bd (f_X5_lays r2 σ1) fun _ σ3 =>
  tn_ck a2 5 <|
  some ((σ3.1 44 (tn_x a2)), σ3)
set_option maxHeartbeats 4000000 in
set_option maxRecDepth 20000 in
theorem b_X5_bestOf {E : tn_E} {G : tn_G} (g : tn_Ok E G cX5_bestOf RX5 3 (tn_rm 7 164)) (o : tn_Om E G (some .int))  (a1 : Int32) (a2 : Int32) (σ : tn_M) : tn_V E G tn_ie 0 [(0, .ref (tn_ad E 5)), (1, .int a1), (2, .int a2)] [] σ (f_X5_bestOf a1 a2 σ) := by
  unfold f_X5_bestOf
  refine tr_aload_n g 0 1 dX5_bestOf_0 rfl rfl rfl ?_
  refine tr_aload_n g 0 2 dX5_bestOf_1 rfl rfl rfl ?_
  refine tr_iload_n g 1 3 dX5_bestOf_2 rfl rfl rfl ?_
  refine kv_X5_findBest g wd_1033 ⟨Nat.le_of_ble_eq_true rfl, Nat.le_of_ble_eq_true rfl⟩ (Nat.le_of_ble_eq_true rfl) 6 dX5_bestOf_3 rfl (fun r2 σ1 => ?_)
  refine kv_X5_lays g wd_1017 ⟨Nat.le_of_ble_eq_true rfl, Nat.le_of_ble_eq_true rfl⟩ (Nat.le_of_ble_eq_true rfl) 9 dX5_bestOf_6 rfl (fun _ σ3 => ?_)
  refine tr_aload_n g 0 10 dX5_bestOf_9 rfl rfl rfl ?_
  refine gf_X5_16 g wd_720 13 dX5_bestOf_10 rfl ?_
  refine tr_iload_n g 2 14 dX5_bestOf_13 rfl rfl rfl ?_
  refine tr_iald (N := 5) g 15 rfl rfl dX5_bestOf_14 rfl ?_
  exact tr_iret g o dX5_bestOf_15
theorem ok_X5_bestOf {E : tn_E} {l : Launch}   (a1 : Int32) (a2 : Int32) {σ : tn_M} {r : Int32} {σ' : tn_M} (h : f_X5_bestOf a1 a2 σ = some (r, σ')) : tn_C E l yX5_bestOf cX5_bestOf 3 (some .int) (tn_rm 7 164) [.ref (tn_ad E 5), .int a1, .int a2] σ (tn_ie r) σ' :=
  tn_met (by decide) (Nat.le_of_ble_eq_true rfl) (fun G _ g o => b_X5_bestOf g o  a1 a2 σ) h
theorem yy_X5_bestOf : tn_Yv RX5 yX5_bestOf cX5_bestOf 3 (some .int) 2 := ⟨wd_1032, wd_1031, wd_55, wd_70, by decide, by decide, by decide +kernel⟩
theorem kv_X5_bestOf {E : tn_E} {G : tn_G} {cc : ByteArray} {own : String} {nL : Nat} {R : Room} {ρ : Type} {enc : ρ → Option Value} {pc : Nat} {lv : List (Nat × Value)} {st : List Value} {σ : tn_M} {kk : Int32 → tn_M → Option (ρ × tn_M)} {i : Nat}  {a1 : Int32} {a2 : Int32} (g : tn_Ok E G cc own nL R)  (hw : Cond.methodLink own i yX5_bestOf ∈ tn_T) (hroom : 8 ≤ R.frames ∧ 186 ≤ R.locals) (hW : (st.map fun v => v.category).sum ≤ 8) (n : Nat) (hd : decode cc pc = .ok (.invokevirtual i, 3)) (hn : pc + 3 = n) (k : ∀ r σ1, tn_V E G enc n lv (.int r :: st) σ1 (kk r σ1)) : tn_V E G enc pc lv (.int a2 :: .int a1 :: .ref (tn_ad E 5) :: st) σ (tn_bd (f_X5_bestOf a1 a2 σ) kk) :=
  tr_callV (As := [.int a1, .int a2]) (enc1 := tn_ie) g yy_X5_bestOf hw (ci := 5) rfl (by decide) rfl (fun r σ1 h => ok_X5_bestOf  a1 a2 h) ⟨rfl, rfl⟩ ⟨hroom.1, by have h2 := hroom.2; show 8 + (3 + 11) + 164 ≤ R.locals; omega⟩ rfl rfl hW n hd hn k
/-! X5_best -/
def f_X5_best  (a1 : Int32) (a2 : Int32) (σ : tn_M) : Option (Int32 × tn_M) :=
  tn_bd (f_X5_isTwo a1 σ) fun r2 σ1 =>
  if r2 = 0 then
    some ((-2), σ1)
  else
    tn_bd (f_X5_isShop a2 σ1) fun r4 σ3 =>
    if r4 = 0 then
      some ((-2), σ3)
    else
      tn_bd (f_X5_bestOf a1 a2 σ3) fun r6 σ5 =>
      some (r6, σ5)
set_option maxHeartbeats 4000000 in
set_option maxRecDepth 20000 in
theorem b_X5_best {E : tn_E} {G : tn_G} (g : tn_Ok E G cX5_best RX5 3 (tn_rm 8 186)) (o : tn_Om E G (some .int))  (a1 : Int32) (a2 : Int32) (σ : tn_M) : tn_V E G tn_ie 0 [(0, .ref (tn_ad E 5)), (1, .int a1), (2, .int a2)] [] σ (f_X5_best a1 a2 σ) := by
  unfold f_X5_best
  refine tr_iload_n g 1 1 dX5_best_0 rfl rfl rfl ?_
  refine kv_X5_isTwo g wd_924 ⟨Nat.le_of_ble_eq_true rfl, Nat.le_of_ble_eq_true rfl⟩ (Nat.le_of_ble_eq_true rfl) 4 dX5_best_1 rfl (fun r2 σ1 => ?_)
  refine tr_if_eq g 24 7 dX5_best_4 rfl rfl ?_ ?_
  · refine tr_bipush (v := (-2)) g 26 dX5_best_24 rfl rfl ?_
    exact tr_iret g o dX5_best_26
  · refine tr_aload_n g 0 8 dX5_best_7 rfl rfl rfl ?_
    refine tr_iload_n g 2 9 dX5_best_8 rfl rfl rfl ?_
    refine kv_X5_isShop g wd_877 ⟨Nat.le_of_ble_eq_true rfl, Nat.le_of_ble_eq_true rfl⟩ (Nat.le_of_ble_eq_true rfl) 12 dX5_best_9 rfl (fun r4 σ3 => ?_)
    refine tr_if_eq g 24 15 dX5_best_12 rfl rfl ?_ ?_
    · refine tr_bipush (v := (-2)) g 26 dX5_best_24 rfl rfl ?_
      exact tr_iret g o dX5_best_26
    · refine tr_aload_n g 0 16 dX5_best_15 rfl rfl rfl ?_
      refine tr_iload_n g 1 17 dX5_best_16 rfl rfl rfl ?_
      refine tr_iload_n g 2 18 dX5_best_17 rfl rfl rfl ?_
      refine kv_X5_bestOf g wd_1029 ⟨Nat.le_of_ble_eq_true rfl, Nat.le_of_ble_eq_true rfl⟩ (Nat.le_of_ble_eq_true rfl) 21 dX5_best_18 rfl (fun r6 σ5 => ?_)
      refine tr_goto g 26 dX5_best_21 rfl ?_
      exact tr_iret g o dX5_best_26
theorem ok_X5_best {E : tn_E} {l : Launch}   (a1 : Int32) (a2 : Int32) {σ : tn_M} {r : Int32} {σ' : tn_M} (h : f_X5_best a1 a2 σ = some (r, σ')) : tn_C E l yX5_best cX5_best 3 (some .int) (tn_rm 8 186) [.ref (tn_ad E 5), .int a1, .int a2] σ (tn_ie r) σ' :=
  tn_met (by decide) (Nat.le_of_ble_eq_true rfl) (fun G _ g o => b_X5_best g o  a1 a2 σ) h
theorem yy_X5_best : tn_Yv RX5 yX5_best cX5_best 3 (some .int) 2 := ⟨wd_1028, wd_1026, wd_1027, wd_70, by decide, by decide, by decide +kernel⟩
theorem kv_X5_best {E : tn_E} {G : tn_G} {cc : ByteArray} {own : String} {nL : Nat} {R : Room} {ρ : Type} {enc : ρ → Option Value} {pc : Nat} {lv : List (Nat × Value)} {st : List Value} {σ : tn_M} {kk : Int32 → tn_M → Option (ρ × tn_M)} {i : Nat}  {a1 : Int32} {a2 : Int32} (g : tn_Ok E G cc own nL R)  (hw : Cond.methodLink own i yX5_best ∈ tn_T) (hroom : 9 ≤ R.frames ∧ 208 ≤ R.locals) (hW : (st.map fun v => v.category).sum ≤ 8) (n : Nat) (hd : decode cc pc = .ok (.invokevirtual i, 3)) (hn : pc + 3 = n) (k : ∀ r σ1, tn_V E G enc n lv (.int r :: st) σ1 (kk r σ1)) : tn_V E G enc pc lv (.int a2 :: .int a1 :: .ref (tn_ad E 5) :: st) σ (tn_bd (f_X5_best a1 a2 σ) kk) :=
  tr_callV (As := [.int a1, .int a2]) (enc1 := tn_ie) g yy_X5_best hw (ci := 5) rfl (by decide) rfl (fun r σ1 h => ok_X5_best  a1 a2 h) ⟨rfl, rfl⟩ ⟨hroom.1, by have h2 := hroom.2; show 8 + (3 + 11) + 186 ≤ R.locals; omega⟩ rfl rfl hW n hd hn k
/-! X5_loss -/
def f_X5_loss  (a1 : Int32) (σ : tn_M) : Option (Int64 × tn_M) :=
  tn_bd (f_X5_isTwo a1 σ) fun r2 σ1 =>
  if r2 = 0 then
    tn_bd (f_X5_no (-2) σ1) fun r11 σ10 =>
    some (r11, σ10)
  else
    tn_bd (f_X5_findBest 0 σ1) fun r4 σ3 =>
    tn_bd (f_X5_tries σ3) fun _ σ5 =>
    tn_bd (f_X5_together σ5) fun r7 σ6 =>
    tn_bd (f_X5_part ((σ3.2 5 25) - r7) 11808276480 a1 σ6) fun r9 σ8 =>
    some (r9, σ8)
set_option maxHeartbeats 4000000 in
set_option maxRecDepth 20000 in
theorem b_X5_loss {E : tn_E} {G : tn_G} (g : tn_Ok E G cX5_loss RX5 4 (tn_rm 7 164)) (o : tn_Om E G (some .long))  (a1 : Int32) (σ : tn_M) : tn_V E G tn_le 0 [(0, .ref (tn_ad E 5)), (1, .int a1)] [] σ (f_X5_loss a1 σ) := by
  unfold f_X5_loss
  refine tr_iload_n g 1 1 dX5_loss_0 rfl rfl rfl ?_
  refine kv_X5_isTwo g wd_924 ⟨Nat.le_of_ble_eq_true rfl, Nat.le_of_ble_eq_true rfl⟩ (Nat.le_of_ble_eq_true rfl) 4 dX5_loss_1 rfl (fun r2 σ1 => ?_)
  refine tr_if_ne g 13 7 dX5_loss_4 rfl rfl ?_ ?_
  · refine tr_aload_n g 0 14 dX5_loss_13 rfl rfl rfl ?_
    refine tr_iconst (v := 0) g 15 dX5_loss_14 rfl rfl ?_
    refine kv_X5_findBest g wd_1033 ⟨Nat.le_of_ble_eq_true rfl, Nat.le_of_ble_eq_true rfl⟩ (Nat.le_of_ble_eq_true rfl) 18 dX5_loss_15 rfl (fun r4 σ3 => ?_)
    refine tr_pop g 19 dX5_loss_18 rfl rfl ?_
    refine tr_aload_n g 0 20 dX5_loss_19 rfl rfl rfl ?_
    refine gf_X5_25 g wd_729 23 dX5_loss_20 rfl ?_
    refine tr_lstore_n (lv' := [(2, .long (σ3.2 5 25)), (0, .ref (tn_ad E 5)), (1, .int a1)]) g 24 dX5_loss_23 rfl rfl (by decide) rfl ?_
    refine tr_aload_n g 1 25 dX5_loss_24 rfl rfl rfl ?_
    refine kv_X5_tries g wd_912 ⟨Nat.le_of_ble_eq_true rfl, Nat.le_of_ble_eq_true rfl⟩ (Nat.le_of_ble_eq_true rfl) 28 dX5_loss_25 rfl (fun _ σ5 => ?_)
    refine tr_lload_n g 0 29 dX5_loss_28 rfl rfl rfl ?_
    refine tr_aload_n g 1 30 dX5_loss_29 rfl rfl rfl ?_
    refine kv_X5_together g wd_973 ⟨Nat.le_of_ble_eq_true rfl, Nat.le_of_ble_eq_true rfl⟩ (Nat.le_of_ble_eq_true rfl) 33 dX5_loss_30 rfl (fun r7 σ6 => ?_)
    refine tr_lsub g 34 dX5_loss_33 rfl ?_
    refine tr_ldc2 (v := 11808276480) g wd_953 37 dX5_loss_34 rfl ?_
    refine tr_iload_n g 2 38 dX5_loss_37 rfl rfl rfl ?_
    refine kv_X5_part g wd_955 ⟨Nat.le_of_ble_eq_true rfl, Nat.le_of_ble_eq_true rfl⟩ (Nat.le_of_ble_eq_true rfl) 41 dX5_loss_38 rfl (fun r9 σ8 => ?_)
    exact tr_lret g o dX5_loss_41
  · refine tr_bipush (v := (-2)) g 9 dX5_loss_7 rfl rfl ?_
    refine kv_X5_no g wd_961 ⟨Nat.le_of_ble_eq_true rfl, Nat.le_of_ble_eq_true rfl⟩ (Nat.le_of_ble_eq_true rfl) 12 dX5_loss_9 rfl (fun r11 σ10 => ?_)
    exact tr_lret g o dX5_loss_12
theorem ok_X5_loss {E : tn_E} {l : Launch}   (a1 : Int32) {σ : tn_M} {r : Int64} {σ' : tn_M} (h : f_X5_loss a1 σ = some (r, σ')) : tn_C E l yX5_loss cX5_loss 4 (some .long) (tn_rm 7 164) [.ref (tn_ad E 5), .int a1] σ (tn_le r) σ' :=
  tn_met (by decide) (Nat.le_of_ble_eq_true rfl) (fun G _ g o => b_X5_loss g o  a1 σ) h
theorem yy_X5_loss : tn_Yv RX5 yX5_loss cX5_loss 4 (some .long) 1 := ⟨wd_1040, wd_1038, wd_1039, wd_70, by decide, by decide, by decide +kernel⟩
theorem kv_X5_loss {E : tn_E} {G : tn_G} {cc : ByteArray} {own : String} {nL : Nat} {R : Room} {ρ : Type} {enc : ρ → Option Value} {pc : Nat} {lv : List (Nat × Value)} {st : List Value} {σ : tn_M} {kk : Int64 → tn_M → Option (ρ × tn_M)} {i : Nat}  {a1 : Int32} (g : tn_Ok E G cc own nL R)  (hw : Cond.methodLink own i yX5_loss ∈ tn_T) (hroom : 8 ≤ R.frames ∧ 187 ≤ R.locals) (hW : (st.map fun v => v.category).sum ≤ 8) (n : Nat) (hd : decode cc pc = .ok (.invokevirtual i, 3)) (hn : pc + 3 = n) (k : ∀ r σ1, tn_V E G enc n lv (.long r :: st) σ1 (kk r σ1)) : tn_V E G enc pc lv (.int a1 :: .ref (tn_ad E 5) :: st) σ (tn_bd (f_X5_loss a1 σ) kk) :=
  tr_callV (As := [.int a1]) (enc1 := tn_le) g yy_X5_loss hw (ci := 5) rfl (by decide) rfl (fun r σ1 h => ok_X5_loss  a1 h) ⟨rfl, rfl⟩ ⟨hroom.1, by have h2 := hroom.2; show 8 + (4 + 11) + 164 ≤ R.locals; omega⟩ rfl rfl hW n hd hn k
/-! X5_leastNow -/
def F_X5_leastNow_153  : Nat → Int64 → Int32 → tn_M → Option (Int32 × tn_M)
  | 0, _, _, _ => none
  | tn_n + 1, x2, x4, σ => 
    if 1000 ≤ x4 then
      some ((-1), σ)
    else
      if ((738017280 * (Int32.toInt64 x4)) * (Int32.toInt64 (σ.1 41 4))) < x2 then
        F_X5_leastNow_153 tn_n x2 (x4 + 1) σ
      else
        some (x4, σ)
def F_X5_leastNow_150  (x2 : Int64) (σ : tn_M) : Option (Int32 × tn_M) :=
  F_X5_leastNow_153 tn_fuel x2 0 σ
def F_X5_leastNow_85 (c71 : Int32 → Int64 → Int32 → tn_M → Option (Int32 × tn_M)) : Nat → Int32 → Int64 → Int32 → Int32 → tn_M → Option (Int32 × tn_M)
  | 0, _, _, _, _, _ => none
  | tn_n + 1, x1, x2, x4, x5, σ => 
    if 4 ≤ x5 then
      c71 x1 x2 (x4 + 1) σ
    else
      tn_bd (f_X5_isBound x4 σ) fun r2 σ1 =>
      if r2 = 0 then
        c71 x1 x2 (x4 + 1) σ1
      else
        tn_bd (f_X5_earnsBy x4 x5 σ1) fun r4 σ3 =>
        tn_ck x4 5 <|
        tn_bd (f_X5_earnsBy x4 (σ3.1 44 (tn_x x4)) σ3) fun r6 σ5 =>
        tn_lt (α := Int64) (if (r4 - r6) ≤ x2 then x2 else (r4 - r6)) fun v7 =>
        F_X5_leastNow_85 c71 tn_n x1 v7 x4 (x5 + 1) σ5
def F_X5_leastNow_71  : Nat → Int32 → Int64 → Int32 → tn_M → Option (Int32 × tn_M)
  | 0, _, _, _, _ => none
  | tn_n + 1, x1, x2, x4, σ => 
    if (σ.1 5 8) ≤ x4 then
      F_X5_leastNow_150 x2 σ
    else
      F_X5_leastNow_85 (fun z0 z1 z2 zs => F_X5_leastNow_71 tn_n z0 z1 z2 zs) tn_fuel x1 x2 x4 (x1 + 1) σ
def F_X5_leastNow_61  (x1 : Int32) (σ : tn_M) : Option (Int32 × tn_M) :=
  tn_lt (tn_si σ 5 18 0) fun σ1 =>
  F_X5_leastNow_71 tn_fuel x1 0 0 σ1
def F_X5_leastNow_54 (c13 : Int32 → Int32 → tn_M → Option (Int32 × tn_M)) (x1 : Int32) (x2 : Int32) (y1 : Int32) (y2 : Int32) (σ : tn_M) : Option (Int32 × tn_M) :=
  tn_ck y1 5 <|
  tn_lt (tn_si σ 44 (tn_x y1) y2) fun σ1 =>
  c13 x1 (x2 + 1) σ1
def F_X5_leastNow_48 (c13 : Int32 → Int32 → tn_M → Option (Int32 × tn_M)) (x1 : Int32) (x2 : Int32) (y1 : Int32) (σ : tn_M) : Option (Int32 × tn_M) :=
  tn_ck x2 5 <|
  F_X5_leastNow_54 c13 x1 x2 y1 (σ.1 44 (tn_x x2)) σ
def F_X5_leastNow_13  : Nat → Int32 → Int32 → tn_M → Option (Int32 × tn_M)
  | 0, _, _, _ => none
  | tn_n + 1, x1, x2, σ => 
    if (σ.1 5 8) ≤ x2 then
      F_X5_leastNow_61 x1 σ
    else
      tn_bd (f_X5_isBound x2 σ) fun r2 σ1 =>
      if r2 = 0 then
        F_X5_leastNow_48 (fun z0 z1 zs => F_X5_leastNow_13 tn_n z0 z1 zs) x1 x2 x2 σ1
      else
        tn_ck x2 5 <|
        if (σ1.1 44 (tn_x x2)) ≤ x1 then
          F_X5_leastNow_48 (fun z0 z1 zs => F_X5_leastNow_13 tn_n z0 z1 zs) x1 x2 x2 σ1
        else
          F_X5_leastNow_54 (fun z0 z1 zs => F_X5_leastNow_13 tn_n z0 z1 zs) x1 x2 x2 x1 σ1
def f_X5_leastNow   (σ : tn_M) : Option (Int32 × tn_M) :=
  tn_bd (f_X5_tries σ) fun _ σ1 =>
  F_X5_leastNow_13 tn_fuel (σ1.1 41 1) 0 σ1
set_option maxHeartbeats 4000000 in
set_option maxRecDepth 20000 in
theorem b_X5_leastNow_153 {E : tn_E} {G : tn_G} (g : tn_Ok E G cX5_leastNow RX5 8 (tn_rm 6 137)) (o : tn_Om E G (some .int))  : ∀ (n : Nat) (x2 : Int64) (x4 : Int32) (σ : tn_M), tn_V E G tn_ie 153 [(0, .ref (tn_ad E 5)), (2, .long x2), (4, .int x4)] [] σ (F_X5_leastNow_153 n x2 x4 σ) := by
  intro n
  induction n with
  | zero => intros; exact tr_none
  | succ tn_n ih =>
    intro x2 x4 σ
    rw [F_X5_leastNow_153]
    refine tr_iload g 2 155 dX5_leastNow_153 rfl rfl ?_
    refine tr_sipush (v := 1000) g 158 dX5_leastNow_155 rfl rfl ?_
    refine tr_icmp_ge g 190 161 dX5_leastNow_158 rfl rfl ?_ ?_
    · refine tr_iconst (v := (-1)) g 191 dX5_leastNow_190 rfl rfl ?_
      exact tr_iret g o dX5_leastNow_191
    · refine tr_ldc2 (v := 738017280) g wd_954 164 dX5_leastNow_161 rfl ?_
      refine tr_iload g 2 166 dX5_leastNow_164 rfl rfl ?_
      refine tr_i2l g 167 dX5_leastNow_166 rfl ?_
      refine tr_lmul g 168 dX5_leastNow_167 rfl ?_
      refine tr_aload_n g 0 169 dX5_leastNow_168 rfl rfl rfl ?_
      refine gf_X5_13 g wd_717 172 dX5_leastNow_169 rfl ?_
      refine tr_iconst (v := 4) g 173 dX5_leastNow_172 rfl rfl ?_
      refine tr_ialdK (N := 8) g 174 4 rfl rfl rfl (by decide) dX5_leastNow_173 rfl ?_
      refine tr_i2l g 175 dX5_leastNow_174 rfl ?_
      refine tr_lmul g 176 dX5_leastNow_175 rfl ?_
      refine tr_lload_n g 1 177 dX5_leastNow_176 rfl rfl rfl ?_
      refine tr_llt g 184 181 dX5_leastNow_177 dX5_leastNow_178 rfl rfl ?_ ?_
      · refine tr_iinc (lv' := [(4, .int (x4 + 1)), (0, .ref (tn_ad E 5)), (2, .long x2)]) (x := (x4 + 1)) g 2 187 dX5_leastNow_184 rfl rfl rfl (by decide) rfl ?_
        refine tr_goto g 153 dX5_leastNow_187 rfl ?_
        refine tr_sub [1, 2, 0] (lv' := [(0, .ref (tn_ad E 5)), (2, .long x2), (4, .int (x4 + 1))]) rfl ?_
        exact ih _ _ _
      · refine tr_iload g 2 183 dX5_leastNow_181 rfl rfl ?_
        exact tr_iret g o dX5_leastNow_183
set_option maxHeartbeats 4000000 in
set_option maxRecDepth 20000 in
theorem b_X5_leastNow_150 {E : tn_E} {G : tn_G} (g : tn_Ok E G cX5_leastNow RX5 8 (tn_rm 6 137)) (o : tn_Om E G (some .int))  (x2 : Int64) (σ : tn_M) : tn_V E G tn_ie 150 [(0, .ref (tn_ad E 5)), (2, .long x2)] [] σ (F_X5_leastNow_150 x2 σ) := by
  unfold F_X5_leastNow_150
  refine tr_iconst (v := 0) g 151 dX5_leastNow_150 rfl rfl ?_
  refine tr_istore (lv' := [(4, .int 0), (0, .ref (tn_ad E 5)), (2, .long x2)]) g 153 dX5_leastNow_151 rfl (by decide) rfl ?_
  refine tr_sub [1, 2, 0] (lv' := [(0, .ref (tn_ad E 5)), (2, .long x2), (4, .int 0)]) rfl ?_
  exact b_X5_leastNow_153 g o  tn_fuel _ _ _
set_option maxHeartbeats 4000000 in
set_option maxRecDepth 20000 in
theorem b_X5_leastNow_85 {E : tn_E} {G : tn_G} (g : tn_Ok E G cX5_leastNow RX5 8 (tn_rm 6 137)) (o : tn_Om E G (some .int)) (c71 : Int32 → Int64 → Int32 → tn_M → Option (Int32 × tn_M)) (hc71 : ∀ (x1 : Int32) (x2 : Int64) (x4 : Int32) (σ : tn_M), tn_V E G tn_ie 71 [(0, .ref (tn_ad E 5)), (1, .int x1), (2, .long x2), (4, .int x4)] [] σ (c71 x1 x2 x4 σ)) : ∀ (n : Nat) (x1 : Int32) (x2 : Int64) (x4 : Int32) (x5 : Int32) (σ : tn_M), tn_V E G tn_ie 85 [(0, .ref (tn_ad E 5)), (1, .int x1), (2, .long x2), (4, .int x4), (5, .int x5)] [] σ (F_X5_leastNow_85 c71 n x1 x2 x4 x5 σ) := by
  intro n
  induction n with
  | zero => intros; exact tr_none
  | succ tn_n ih =>
    intro x1 x2 x4 x5 σ
    rw [F_X5_leastNow_85]
    refine tr_iload g 4 87 dX5_leastNow_85 rfl rfl ?_
    refine tr_iconst (v := 4) g 88 dX5_leastNow_87 rfl rfl ?_
    refine tr_icmp_ge g 144 91 dX5_leastNow_88 rfl rfl ?_ ?_
    · refine tr_iinc (lv' := [(4, .int (x4 + 1)), (0, .ref (tn_ad E 5)), (1, .int x1), (2, .long x2), (5, .int x5)]) (x := (x4 + 1)) g 3 147 dX5_leastNow_144 rfl rfl rfl (by decide) rfl ?_
      refine tr_goto g 71 dX5_leastNow_147 rfl ?_
      refine tr_sub [1, 2, 3, 0] (lv' := [(0, .ref (tn_ad E 5)), (1, .int x1), (2, .long x2), (4, .int (x4 + 1))]) rfl ?_
      exact hc71 _ _ _ _
    · refine tr_aload_n g 0 92 dX5_leastNow_91 rfl rfl rfl ?_
      refine tr_iload g 3 94 dX5_leastNow_92 rfl rfl ?_
      refine kv_X5_isBound g wd_881 ⟨Nat.le_of_ble_eq_true rfl, Nat.le_of_ble_eq_true rfl⟩ (Nat.le_of_ble_eq_true rfl) 97 dX5_leastNow_94 rfl (fun r2 σ1 => ?_)
      refine tr_if_eq g 144 100 dX5_leastNow_97 rfl rfl ?_ ?_
      · refine tr_iinc (lv' := [(4, .int (x4 + 1)), (0, .ref (tn_ad E 5)), (1, .int x1), (2, .long x2), (5, .int x5)]) (x := (x4 + 1)) g 3 147 dX5_leastNow_144 rfl rfl rfl (by decide) rfl ?_
        refine tr_goto g 71 dX5_leastNow_147 rfl ?_
        refine tr_sub [1, 2, 3, 0] (lv' := [(0, .ref (tn_ad E 5)), (1, .int x1), (2, .long x2), (4, .int (x4 + 1))]) rfl ?_
        exact hc71 _ _ _ _
      · refine tr_aload_n g 0 101 dX5_leastNow_100 rfl rfl rfl ?_
        refine tr_iload g 3 103 dX5_leastNow_101 rfl rfl ?_
        refine tr_iload g 4 105 dX5_leastNow_103 rfl rfl ?_
        refine kv_X5_earnsBy g wd_989 ⟨Nat.le_of_ble_eq_true rfl, Nat.le_of_ble_eq_true rfl⟩ (Nat.le_of_ble_eq_true rfl) 108 dX5_leastNow_105 rfl (fun r4 σ3 => ?_)
        refine tr_aload_n g 0 109 dX5_leastNow_108 rfl rfl rfl ?_
        refine tr_iload g 3 111 dX5_leastNow_109 rfl rfl ?_
        refine tr_aload_n g 0 112 dX5_leastNow_111 rfl rfl rfl ?_
        refine gf_X5_16 g wd_720 115 dX5_leastNow_112 rfl ?_
        refine tr_iload g 3 117 dX5_leastNow_115 rfl rfl ?_
        refine tr_iald (N := 5) g 118 rfl rfl dX5_leastNow_117 rfl ?_
        refine kv_X5_earnsBy g wd_989 ⟨Nat.le_of_ble_eq_true rfl, Nat.le_of_ble_eq_true rfl⟩ (Nat.le_of_ble_eq_true rfl) 121 dX5_leastNow_118 rfl (fun r6 σ5 => ?_)
        refine tr_lsub g 122 dX5_leastNow_121 rfl ?_
        refine tr_lstore (lv' := [(6, .long (r4 - r6)), (0, .ref (tn_ad E 5)), (1, .int x1), (2, .long x2), (4, .int x4), (5, .int x5)]) g 124 dX5_leastNow_122 rfl (by decide) rfl ?_
        refine tr_lload g 0 126 dX5_leastNow_124 rfl rfl ?_
        refine tr_lload_n g 3 127 dX5_leastNow_126 rfl rfl rfl ?_
        refine tr_lleD (inj := fun z => Value.long z) g 137 136 131 dX5_leastNow_127 dX5_leastNow_128 rfl rfl (fun rs hj => ?_) (fun rs hj => ?_) (fun v7 => ?_)
        · refine tr_lload_n g 3 137 dX5_leastNow_136 rfl rfl rfl ?_
          exact hj
        · refine tr_lload g 0 133 dX5_leastNow_131 rfl rfl ?_
          refine tr_goto g 137 dX5_leastNow_133 rfl ?_
          exact hj
        · refine tr_lstore_n (lv' := [(2, .long v7), (6, .long (r4 - r6)), (0, .ref (tn_ad E 5)), (1, .int x1), (4, .int x4), (5, .int x5)]) g 138 dX5_leastNow_137 rfl rfl (by decide) rfl ?_
          refine tr_iinc (lv' := [(5, .int (x5 + 1)), (2, .long v7), (6, .long (r4 - r6)), (0, .ref (tn_ad E 5)), (1, .int x1), (4, .int x4)]) (x := (x5 + 1)) g 5 141 dX5_leastNow_138 rfl rfl rfl (by decide) rfl ?_
          refine tr_goto g 85 dX5_leastNow_141 rfl ?_
          refine tr_sub [3, 4, 1, 5, 0] (lv' := [(0, .ref (tn_ad E 5)), (1, .int x1), (2, .long v7), (4, .int x4), (5, .int (x5 + 1))]) rfl ?_
          exact ih _ _ _ _ _
set_option maxHeartbeats 4000000 in
set_option maxRecDepth 20000 in
theorem b_X5_leastNow_71 {E : tn_E} {G : tn_G} (g : tn_Ok E G cX5_leastNow RX5 8 (tn_rm 6 137)) (o : tn_Om E G (some .int))  : ∀ (n : Nat) (x1 : Int32) (x2 : Int64) (x4 : Int32) (σ : tn_M), tn_V E G tn_ie 71 [(0, .ref (tn_ad E 5)), (1, .int x1), (2, .long x2), (4, .int x4)] [] σ (F_X5_leastNow_71 n x1 x2 x4 σ) := by
  intro n
  induction n with
  | zero => intros; exact tr_none
  | succ tn_n ih =>
    intro x1 x2 x4 σ
    rw [F_X5_leastNow_71]
    refine tr_iload g 3 73 dX5_leastNow_71 rfl rfl ?_
    refine tr_aload_n g 0 74 dX5_leastNow_73 rfl rfl rfl ?_
    refine gf_X5_8 g wd_712 77 dX5_leastNow_74 rfl ?_
    refine tr_icmp_ge g 150 80 dX5_leastNow_77 rfl rfl ?_ ?_
    · refine tr_sub [0, 2] (lv' := [(0, .ref (tn_ad E 5)), (2, .long x2)]) rfl ?_
      exact b_X5_leastNow_150 g o  _ _
    · refine tr_iload_n g 1 81 dX5_leastNow_80 rfl rfl rfl ?_
      refine tr_iconst (v := 1) g 82 dX5_leastNow_81 rfl rfl ?_
      refine tr_iadd g 83 dX5_leastNow_82 rfl ?_
      refine tr_istore (lv' := [(5, .int (x1 + 1)), (0, .ref (tn_ad E 5)), (1, .int x1), (2, .long x2), (4, .int x4)]) g 85 dX5_leastNow_83 rfl (by decide) rfl ?_
      refine tr_sub [1, 2, 3, 4, 0] (lv' := [(0, .ref (tn_ad E 5)), (1, .int x1), (2, .long x2), (4, .int x4), (5, .int (x1 + 1))]) rfl ?_
      exact b_X5_leastNow_85 g o (fun z0 z1 z2 zs => F_X5_leastNow_71 tn_n z0 z1 z2 zs) (fun z0 z1 z2 zs => ih z0 z1 z2 zs) tn_fuel _ _ _ _ _
set_option maxHeartbeats 4000000 in
set_option maxRecDepth 20000 in
theorem b_X5_leastNow_61 {E : tn_E} {G : tn_G} (g : tn_Ok E G cX5_leastNow RX5 8 (tn_rm 6 137)) (o : tn_Om E G (some .int))  (x1 : Int32) (σ : tn_M) : tn_V E G tn_ie 61 [(0, .ref (tn_ad E 5)), (1, .int x1)] [] σ (F_X5_leastNow_61 x1 σ) := by
  unfold F_X5_leastNow_61
  refine tr_aload_n g 0 62 dX5_leastNow_61 rfl rfl rfl ?_
  refine tr_iconst (v := 0) g 63 dX5_leastNow_62 rfl rfl ?_
  refine pf_X5_18 g wd_722 rfl rfl 66 dX5_leastNow_63 rfl (fun σ1 => ?_)
  refine tr_lconst (v := 0) g 67 dX5_leastNow_66 rfl rfl ?_
  refine tr_lstore_n (lv' := [(2, .long 0), (0, .ref (tn_ad E 5)), (1, .int x1)]) g 68 dX5_leastNow_67 rfl rfl (by decide) rfl ?_
  refine tr_iconst (v := 0) g 69 dX5_leastNow_68 rfl rfl ?_
  refine tr_istore (lv' := [(4, .int 0), (2, .long 0), (0, .ref (tn_ad E 5)), (1, .int x1)]) g 71 dX5_leastNow_69 rfl (by decide) rfl ?_
  refine tr_sub [2, 3, 1, 0] (lv' := [(0, .ref (tn_ad E 5)), (1, .int x1), (2, .long 0), (4, .int 0)]) rfl ?_
  exact b_X5_leastNow_71 g o  tn_fuel _ _ _ _
set_option maxHeartbeats 4000000 in
set_option maxRecDepth 20000 in
theorem b_X5_leastNow_54 {E : tn_E} {G : tn_G} (g : tn_Ok E G cX5_leastNow RX5 8 (tn_rm 6 137)) (o : tn_Om E G (some .int)) (c13 : Int32 → Int32 → tn_M → Option (Int32 × tn_M)) (hc13 : ∀ (x1 : Int32) (x2 : Int32) (σ : tn_M), tn_V E G tn_ie 13 [(0, .ref (tn_ad E 5)), (1, .int x1), (2, .int x2)] [] σ (c13 x1 x2 σ)) (x1 : Int32) (x2 : Int32) (y1 : Int32) (y2 : Int32) (σ : tn_M) : tn_V E G tn_ie 54 [(0, .ref (tn_ad E 5)), (1, .int x1), (2, .int x2)] [.int y2, .int y1, .ref (tn_ad E 44)] σ (F_X5_leastNow_54 c13 x1 x2 y1 y2 σ) := by
  unfold F_X5_leastNow_54
  refine tr_iast (N := 5) g 55 rfl rfl dX5_leastNow_54 rfl (fun σ1 => ?_)
  refine tr_iinc (lv' := [(2, .int (x2 + 1)), (0, .ref (tn_ad E 5)), (1, .int x1)]) (x := (x2 + 1)) g 2 58 dX5_leastNow_55 rfl rfl rfl (by decide) rfl ?_
  refine tr_goto g 13 dX5_leastNow_58 rfl ?_
  refine tr_sub [1, 2, 0] (lv' := [(0, .ref (tn_ad E 5)), (1, .int x1), (2, .int (x2 + 1))]) rfl ?_
  exact hc13 _ _ _
set_option maxHeartbeats 4000000 in
set_option maxRecDepth 20000 in
theorem b_X5_leastNow_48 {E : tn_E} {G : tn_G} (g : tn_Ok E G cX5_leastNow RX5 8 (tn_rm 6 137)) (o : tn_Om E G (some .int)) (c13 : Int32 → Int32 → tn_M → Option (Int32 × tn_M)) (hc13 : ∀ (x1 : Int32) (x2 : Int32) (σ : tn_M), tn_V E G tn_ie 13 [(0, .ref (tn_ad E 5)), (1, .int x1), (2, .int x2)] [] σ (c13 x1 x2 σ)) (x1 : Int32) (x2 : Int32) (y1 : Int32) (σ : tn_M) : tn_V E G tn_ie 48 [(0, .ref (tn_ad E 5)), (1, .int x1), (2, .int x2)] [.int y1, .ref (tn_ad E 44)] σ (F_X5_leastNow_48 c13 x1 x2 y1 σ) := by
  unfold F_X5_leastNow_48
  refine tr_aload_n g 0 49 dX5_leastNow_48 rfl rfl rfl ?_
  refine gf_X5_16 g wd_720 52 dX5_leastNow_49 rfl ?_
  refine tr_iload_n g 2 53 dX5_leastNow_52 rfl rfl rfl ?_
  refine tr_iald (N := 5) g 54 rfl rfl dX5_leastNow_53 rfl ?_
  exact b_X5_leastNow_54 g o c13 hc13 _ _ _ _ _
set_option maxHeartbeats 4000000 in
set_option maxRecDepth 20000 in
theorem b_X5_leastNow_13 {E : tn_E} {G : tn_G} (g : tn_Ok E G cX5_leastNow RX5 8 (tn_rm 6 137)) (o : tn_Om E G (some .int))  : ∀ (n : Nat) (x1 : Int32) (x2 : Int32) (σ : tn_M), tn_V E G tn_ie 13 [(0, .ref (tn_ad E 5)), (1, .int x1), (2, .int x2)] [] σ (F_X5_leastNow_13 n x1 x2 σ) := by
  intro n
  induction n with
  | zero => intros; exact tr_none
  | succ tn_n ih =>
    intro x1 x2 σ
    rw [F_X5_leastNow_13]
    refine tr_iload_n g 2 14 dX5_leastNow_13 rfl rfl rfl ?_
    refine tr_aload_n g 0 15 dX5_leastNow_14 rfl rfl rfl ?_
    refine gf_X5_8 g wd_712 18 dX5_leastNow_15 rfl ?_
    refine tr_icmp_ge g 61 21 dX5_leastNow_18 rfl rfl ?_ ?_
    · refine tr_sub [0, 1] (lv' := [(0, .ref (tn_ad E 5)), (1, .int x1)]) rfl ?_
      exact b_X5_leastNow_61 g o  _ _
    · refine tr_aload_n g 0 22 dX5_leastNow_21 rfl rfl rfl ?_
      refine gf_X5_16 g wd_720 25 dX5_leastNow_22 rfl ?_
      refine tr_iload_n g 2 26 dX5_leastNow_25 rfl rfl rfl ?_
      refine tr_aload_n g 0 27 dX5_leastNow_26 rfl rfl rfl ?_
      refine tr_iload_n g 2 28 dX5_leastNow_27 rfl rfl rfl ?_
      refine kv_X5_isBound g wd_881 ⟨Nat.le_of_ble_eq_true rfl, Nat.le_of_ble_eq_true rfl⟩ (Nat.le_of_ble_eq_true rfl) 31 dX5_leastNow_28 rfl (fun r2 σ1 => ?_)
      refine tr_if_eq g 48 34 dX5_leastNow_31 rfl rfl ?_ ?_
      · exact b_X5_leastNow_48 g o (fun z0 z1 zs => F_X5_leastNow_13 tn_n z0 z1 zs) (fun z0 z1 zs => ih z0 z1 zs) _ _ _ _
      · refine tr_aload_n g 0 35 dX5_leastNow_34 rfl rfl rfl ?_
        refine gf_X5_16 g wd_720 38 dX5_leastNow_35 rfl ?_
        refine tr_iload_n g 2 39 dX5_leastNow_38 rfl rfl rfl ?_
        refine tr_iald (N := 5) g 40 rfl rfl dX5_leastNow_39 rfl ?_
        refine tr_iload_n g 1 41 dX5_leastNow_40 rfl rfl rfl ?_
        refine tr_icmp_le g 48 44 dX5_leastNow_41 rfl rfl ?_ ?_
        · exact b_X5_leastNow_48 g o (fun z0 z1 zs => F_X5_leastNow_13 tn_n z0 z1 zs) (fun z0 z1 zs => ih z0 z1 zs) _ _ _ _
        · refine tr_iload_n g 1 45 dX5_leastNow_44 rfl rfl rfl ?_
          refine tr_goto g 54 dX5_leastNow_45 rfl ?_
          exact b_X5_leastNow_54 g o (fun z0 z1 zs => F_X5_leastNow_13 tn_n z0 z1 zs) (fun z0 z1 zs => ih z0 z1 zs) _ _ _ _ _
set_option maxHeartbeats 4000000 in
set_option maxRecDepth 20000 in
theorem b_X5_leastNow {E : tn_E} {G : tn_G} (g : tn_Ok E G cX5_leastNow RX5 8 (tn_rm 6 137)) (o : tn_Om E G (some .int))   (σ : tn_M) : tn_V E G tn_ie 0 [(0, .ref (tn_ad E 5))] [] σ (f_X5_leastNow σ) := by
  unfold f_X5_leastNow
  refine tr_aload_n g 0 1 dX5_leastNow_0 rfl rfl rfl ?_
  refine kv_X5_tries g wd_912 ⟨Nat.le_of_ble_eq_true rfl, Nat.le_of_ble_eq_true rfl⟩ (Nat.le_of_ble_eq_true rfl) 4 dX5_leastNow_1 rfl (fun _ σ1 => ?_)
  refine tr_aload_n g 0 5 dX5_leastNow_4 rfl rfl rfl ?_
  refine gf_X5_13 g wd_717 8 dX5_leastNow_5 rfl ?_
  refine tr_iconst (v := 1) g 9 dX5_leastNow_8 rfl rfl ?_
  refine tr_ialdK (N := 8) g 10 1 rfl rfl rfl (by decide) dX5_leastNow_9 rfl ?_
  refine tr_istore_n (lv' := [(1, .int (σ1.1 41 1)), (0, .ref (tn_ad E 5))]) g 11 dX5_leastNow_10 rfl rfl (by decide) rfl ?_
  refine tr_iconst (v := 0) g 12 dX5_leastNow_11 rfl rfl ?_
  refine tr_istore_n (lv' := [(2, .int 0), (1, .int (σ1.1 41 1)), (0, .ref (tn_ad E 5))]) g 13 dX5_leastNow_12 rfl rfl (by decide) rfl ?_
  refine tr_sub [2, 1, 0] (lv' := [(0, .ref (tn_ad E 5)), (1, .int (σ1.1 41 1)), (2, .int 0)]) rfl ?_
  exact b_X5_leastNow_13 g o  tn_fuel _ _ _
theorem ok_X5_leastNow {E : tn_E} {l : Launch}    {σ : tn_M} {r : Int32} {σ' : tn_M} (h : f_X5_leastNow  σ = some (r, σ')) : tn_C E l yX5_leastNow cX5_leastNow 8 (some .int) (tn_rm 6 137) [.ref (tn_ad E 5)] σ (tn_ie r) σ' :=
  tn_met (by decide) (Nat.le_of_ble_eq_true rfl) (fun G _ g o => b_X5_leastNow g o   σ) h
theorem yy_X5_leastNow : tn_Yv RX5 yX5_leastNow cX5_leastNow 8 (some .int) 0 := ⟨wd_1048, wd_1047, wd_57, wd_70, by decide, by decide, by decide +kernel⟩
theorem kv_X5_leastNow {E : tn_E} {G : tn_G} {cc : ByteArray} {own : String} {nL : Nat} {R : Room} {ρ : Type} {enc : ρ → Option Value} {pc : Nat} {lv : List (Nat × Value)} {st : List Value} {σ : tn_M} {kk : Int32 → tn_M → Option (ρ × tn_M)} {i : Nat}   (g : tn_Ok E G cc own nL R)  (hw : Cond.methodLink own i yX5_leastNow ∈ tn_T) (hroom : 7 ≤ R.frames ∧ 164 ≤ R.locals) (hW : (st.map fun v => v.category).sum ≤ 8) (n : Nat) (hd : decode cc pc = .ok (.invokevirtual i, 3)) (hn : pc + 3 = n) (k : ∀ r σ1, tn_V E G enc n lv (.int r :: st) σ1 (kk r σ1)) : tn_V E G enc pc lv (.ref (tn_ad E 5) :: st) σ (tn_bd (f_X5_leastNow  σ) kk) :=
  tr_callV (As := []) (enc1 := tn_ie) g yy_X5_leastNow hw (ci := 5) rfl (by decide) rfl (fun r σ1 h => ok_X5_leastNow   h) ⟨rfl, rfl⟩ ⟨hroom.1, by have h2 := hroom.2; show 8 + (8 + 11) + 137 ≤ R.locals; omega⟩ rfl rfl hW n hd hn k
/-! X5_leastFine -/
def f_X5_leastFine   (σ : tn_M) : Option (Int32 × tn_M) :=
  tn_bd (f_X5_leastNow σ) fun r2 σ1 =>
  some (r2, σ1)
set_option maxHeartbeats 4000000 in
set_option maxRecDepth 20000 in
theorem b_X5_leastFine {E : tn_E} {G : tn_G} (g : tn_Ok E G cX5_leastFine RX5 1 (tn_rm 7 164)) (o : tn_Om E G (some .int))   (σ : tn_M) : tn_V E G tn_ie 0 [(0, .ref (tn_ad E 5))] [] σ (f_X5_leastFine σ) := by
  unfold f_X5_leastFine
  refine tr_aload_n g 0 1 dX5_leastFine_0 rfl rfl rfl ?_
  refine kv_X5_leastNow g wd_1045 ⟨Nat.le_of_ble_eq_true rfl, Nat.le_of_ble_eq_true rfl⟩ (Nat.le_of_ble_eq_true rfl) 4 dX5_leastFine_1 rfl (fun r2 σ1 => ?_)
  exact tr_iret g o dX5_leastFine_4
theorem ok_X5_leastFine {E : tn_E} {l : Launch}    {σ : tn_M} {r : Int32} {σ' : tn_M} (h : f_X5_leastFine  σ = some (r, σ')) : tn_C E l yX5_leastFine cX5_leastFine 1 (some .int) (tn_rm 7 164) [.ref (tn_ad E 5)] σ (tn_ie r) σ' :=
  tn_met (by decide) (Nat.le_of_ble_eq_true rfl) (fun G _ g o => b_X5_leastFine g o   σ) h
theorem yy_X5_leastFine : tn_Yv RX5 yX5_leastFine cX5_leastFine 1 (some .int) 0 := ⟨wd_1044, wd_1042, wd_1043, wd_70, by decide, by decide, by decide +kernel⟩
theorem kv_X5_leastFine {E : tn_E} {G : tn_G} {cc : ByteArray} {own : String} {nL : Nat} {R : Room} {ρ : Type} {enc : ρ → Option Value} {pc : Nat} {lv : List (Nat × Value)} {st : List Value} {σ : tn_M} {kk : Int32 → tn_M → Option (ρ × tn_M)} {i : Nat}   (g : tn_Ok E G cc own nL R)  (hw : Cond.methodLink own i yX5_leastFine ∈ tn_T) (hroom : 8 ≤ R.frames ∧ 184 ≤ R.locals) (hW : (st.map fun v => v.category).sum ≤ 8) (n : Nat) (hd : decode cc pc = .ok (.invokevirtual i, 3)) (hn : pc + 3 = n) (k : ∀ r σ1, tn_V E G enc n lv (.int r :: st) σ1 (kk r σ1)) : tn_V E G enc pc lv (.ref (tn_ad E 5) :: st) σ (tn_bd (f_X5_leastFine  σ) kk) :=
  tr_callV (As := []) (enc1 := tn_ie) g yy_X5_leastFine hw (ci := 5) rfl (by decide) rfl (fun r σ1 h => ok_X5_leastFine   h) ⟨rfl, rfl⟩ ⟨hroom.1, by have h2 := hroom.2; show 8 + (1 + 11) + 164 ≤ R.locals; omega⟩ rfl rfl hW n hd hn k
/-! X5_bestCap -/
def F_X5_bestCap_88  (x1 : Int32) (x2 : Int32) (x3 : Int64) (σ : tn_M) : Option (Int64 × tn_M) :=
  if x1 = 2 then
    some ((Int32.toInt64 x2), σ)
  else
    if x2 = (-1) then
      tn_bd (f_X5_no (-3) σ) fun r4 σ3 =>
      some (r4, σ3)
    else
      tn_bd (f_X5_part x3 11808276480 x1 σ) fun r2 σ1 =>
      some (r2, σ1)
def F_X5_bestCap_76 (c25 : Int32 → Int32 → Int64 → Int32 → tn_M → Option (Int64 × tn_M)) (x1 : Int32) (x5 : Int32) (x6 : Int64) (σ : tn_M) : Option (Int64 × tn_M) :=
  c25 x1 x5 x6 (x5 + 1) σ
def F_X5_bestCap_25  : Nat → Int32 → Int32 → Int64 → Int32 → tn_M → Option (Int64 × tn_M)
  | 0, _, _, _, _, _ => none
  | tn_n + 1, x1, x2, x3, x5, σ => 
    if 4 ≤ x5 then
      F_X5_bestCap_88 x1 x2 x3 σ
    else
      tn_bd (f_X5_tries σ) fun _ σ1 =>
      tn_lt (tn_si σ1 5 18 0) fun σ2 =>
      tn_lt (tn_si σ2 5 19 x5) fun σ3 =>
      tn_bd (f_X5_lays 0 σ3) fun _ σ4 =>
      tn_bd (f_X5_runsDown σ4) fun r6 σ5 =>
      if r6 = 0 then
        F_X5_bestCap_25 tn_n x1 x2 x3 (x5 + 1) σ5
      else
        tn_bd (f_X5_together σ5) fun r8 σ7 =>
        if x2 = (-1) then
          F_X5_bestCap_76 (fun z0 z1 z2 z3 zs => F_X5_bestCap_25 tn_n z0 z1 z2 z3 zs) x1 x5 r8 σ7
        else
          if r8 ≤ x3 then
            F_X5_bestCap_25 tn_n x1 x2 x3 (x5 + 1) σ7
          else
            F_X5_bestCap_76 (fun z0 z1 z2 z3 zs => F_X5_bestCap_25 tn_n z0 z1 z2 z3 zs) x1 x5 r8 σ7
def f_X5_bestCap  (a1 : Int32) (σ : tn_M) : Option (Int64 × tn_M) :=
  tn_bd (f_X5_in (Int32.toInt64 a1) 0 2 σ) fun r2 σ1 =>
  if r2 = 0 then
    tn_bd (f_X5_no (-2) σ1) fun r4 σ3 =>
    some (r4, σ3)
  else
    F_X5_bestCap_25 tn_fuel a1 (-1) 0 0 σ1
set_option maxHeartbeats 4000000 in
set_option maxRecDepth 20000 in
theorem b_X5_bestCap_88 {E : tn_E} {G : tn_G} (g : tn_Ok E G cX5_bestCap RX5 8 (tn_rm 8 200)) (o : tn_Om E G (some .long))  (x1 : Int32) (x2 : Int32) (x3 : Int64) (σ : tn_M) : tn_V E G tn_le 88 [(1, .int x1), (2, .int x2), (3, .long x3)] [] σ (F_X5_bestCap_88 x1 x2 x3 σ) := by
  unfold F_X5_bestCap_88
  refine tr_iload_n g 0 89 dX5_bestCap_88 rfl rfl rfl ?_
  refine tr_iconst (v := 2) g 90 dX5_bestCap_89 rfl rfl ?_
  refine tr_icmp_ne g 98 93 dX5_bestCap_90 rfl rfl ?_ ?_
  · refine tr_iload_n g 1 99 dX5_bestCap_98 rfl rfl rfl ?_
    refine tr_iconst (v := (-1)) g 100 dX5_bestCap_99 rfl rfl ?_
    refine tr_icmp_ne g 111 103 dX5_bestCap_100 rfl rfl ?_ ?_
    · refine tr_lload_n g 2 112 dX5_bestCap_111 rfl rfl rfl ?_
      refine tr_ldc2 (v := 11808276480) g wd_953 115 dX5_bestCap_112 rfl ?_
      refine tr_iload_n g 0 116 dX5_bestCap_115 rfl rfl rfl ?_
      refine kv_X5_part g wd_955 ⟨Nat.le_of_ble_eq_true rfl, Nat.le_of_ble_eq_true rfl⟩ (Nat.le_of_ble_eq_true rfl) 119 dX5_bestCap_116 rfl (fun r2 σ1 => ?_)
      exact tr_lret g o dX5_bestCap_119
    · refine tr_bipush (v := (-3)) g 105 dX5_bestCap_103 rfl rfl ?_
      refine kv_X5_no g wd_961 ⟨Nat.le_of_ble_eq_true rfl, Nat.le_of_ble_eq_true rfl⟩ (Nat.le_of_ble_eq_true rfl) 108 dX5_bestCap_105 rfl (fun r4 σ3 => ?_)
      refine tr_goto g 119 dX5_bestCap_108 rfl ?_
      exact tr_lret g o dX5_bestCap_119
  · refine tr_iload_n g 1 94 dX5_bestCap_93 rfl rfl rfl ?_
    refine tr_i2l g 95 dX5_bestCap_94 rfl ?_
    refine tr_goto g 119 dX5_bestCap_95 rfl ?_
    exact tr_lret g o dX5_bestCap_119
set_option maxHeartbeats 4000000 in
set_option maxRecDepth 20000 in
theorem b_X5_bestCap_76 {E : tn_E} {G : tn_G} (g : tn_Ok E G cX5_bestCap RX5 8 (tn_rm 8 200)) (o : tn_Om E G (some .long)) (c25 : Int32 → Int32 → Int64 → Int32 → tn_M → Option (Int64 × tn_M)) (hc25 : ∀ (x1 : Int32) (x2 : Int32) (x3 : Int64) (x5 : Int32) (σ : tn_M), tn_V E G tn_le 25 [(0, .ref (tn_ad E 5)), (1, .int x1), (2, .int x2), (3, .long x3), (5, .int x5)] [] σ (c25 x1 x2 x3 x5 σ)) (x1 : Int32) (x5 : Int32) (x6 : Int64) (σ : tn_M) : tn_V E G tn_le 76 [(0, .ref (tn_ad E 5)), (1, .int x1), (5, .int x5), (6, .long x6)] [] σ (F_X5_bestCap_76 c25 x1 x5 x6 σ) := by
  unfold F_X5_bestCap_76
  refine tr_iload g 2 78 dX5_bestCap_76 rfl rfl ?_
  refine tr_istore_n (lv' := [(2, .int x5), (0, .ref (tn_ad E 5)), (1, .int x1), (5, .int x5), (6, .long x6)]) g 79 dX5_bestCap_78 rfl rfl (by decide) rfl ?_
  refine tr_lload g 4 81 dX5_bestCap_79 rfl rfl ?_
  refine tr_lstore_n (lv' := [(3, .long x6), (2, .int x5), (0, .ref (tn_ad E 5)), (1, .int x1), (5, .int x5), (6, .long x6)]) g 82 dX5_bestCap_81 rfl rfl (by decide) rfl ?_
  refine tr_iinc (lv' := [(5, .int (x5 + 1)), (3, .long x6), (2, .int x5), (0, .ref (tn_ad E 5)), (1, .int x1), (6, .long x6)]) (x := (x5 + 1)) g 4 85 dX5_bestCap_82 rfl rfl rfl (by decide) rfl ?_
  refine tr_goto g 25 dX5_bestCap_85 rfl ?_
  refine tr_sub [3, 4, 2, 1, 0] (lv' := [(0, .ref (tn_ad E 5)), (1, .int x1), (2, .int x5), (3, .long x6), (5, .int (x5 + 1))]) rfl ?_
  exact hc25 _ _ _ _ _
set_option maxHeartbeats 4000000 in
set_option maxRecDepth 20000 in
theorem b_X5_bestCap_25 {E : tn_E} {G : tn_G} (g : tn_Ok E G cX5_bestCap RX5 8 (tn_rm 8 200)) (o : tn_Om E G (some .long))  : ∀ (n : Nat) (x1 : Int32) (x2 : Int32) (x3 : Int64) (x5 : Int32) (σ : tn_M), tn_V E G tn_le 25 [(0, .ref (tn_ad E 5)), (1, .int x1), (2, .int x2), (3, .long x3), (5, .int x5)] [] σ (F_X5_bestCap_25 n x1 x2 x3 x5 σ) := by
  intro n
  induction n with
  | zero => intros; exact tr_none
  | succ tn_n ih =>
    intro x1 x2 x3 x5 σ
    rw [F_X5_bestCap_25]
    refine tr_iload g 4 27 dX5_bestCap_25 rfl rfl ?_
    refine tr_iconst (v := 4) g 28 dX5_bestCap_27 rfl rfl ?_
    refine tr_icmp_ge g 88 31 dX5_bestCap_28 rfl rfl ?_ ?_
    · refine tr_sub [1, 2, 3] (lv' := [(1, .int x1), (2, .int x2), (3, .long x3)]) rfl ?_
      exact b_X5_bestCap_88 g o  _ _ _ _
    · refine tr_aload_n g 0 32 dX5_bestCap_31 rfl rfl rfl ?_
      refine kv_X5_tries g wd_912 ⟨Nat.le_of_ble_eq_true rfl, Nat.le_of_ble_eq_true rfl⟩ (Nat.le_of_ble_eq_true rfl) 35 dX5_bestCap_32 rfl (fun _ σ1 => ?_)
      refine tr_aload_n g 0 36 dX5_bestCap_35 rfl rfl rfl ?_
      refine tr_iconst (v := 0) g 37 dX5_bestCap_36 rfl rfl ?_
      refine pf_X5_18 g wd_722 rfl rfl 40 dX5_bestCap_37 rfl (fun σ2 => ?_)
      refine tr_aload_n g 0 41 dX5_bestCap_40 rfl rfl rfl ?_
      refine tr_iload g 4 43 dX5_bestCap_41 rfl rfl ?_
      refine pf_X5_19 g wd_723 46 dX5_bestCap_43 rfl (fun σ3 => ?_)
      refine tr_aload_n g 0 47 dX5_bestCap_46 rfl rfl rfl ?_
      refine tr_iconst (v := 0) g 48 dX5_bestCap_47 rfl rfl ?_
      refine kv_X5_lays g wd_1017 ⟨Nat.le_of_ble_eq_true rfl, Nat.le_of_ble_eq_true rfl⟩ (Nat.le_of_ble_eq_true rfl) 51 dX5_bestCap_48 rfl (fun _ σ4 => ?_)
      refine tr_aload_n g 0 52 dX5_bestCap_51 rfl rfl rfl ?_
      refine kv_X5_runsDown g wd_1001 ⟨Nat.le_of_ble_eq_true rfl, Nat.le_of_ble_eq_true rfl⟩ (Nat.le_of_ble_eq_true rfl) 55 dX5_bestCap_52 rfl (fun r6 σ5 => ?_)
      refine tr_if_eq g 82 58 dX5_bestCap_55 rfl rfl ?_ ?_
      · refine tr_iinc (lv' := [(5, .int (x5 + 1)), (0, .ref (tn_ad E 5)), (1, .int x1), (2, .int x2), (3, .long x3)]) (x := (x5 + 1)) g 4 85 dX5_bestCap_82 rfl rfl rfl (by decide) rfl ?_
        refine tr_goto g 25 dX5_bestCap_85 rfl ?_
        refine tr_sub [1, 2, 3, 4, 0] (lv' := [(0, .ref (tn_ad E 5)), (1, .int x1), (2, .int x2), (3, .long x3), (5, .int (x5 + 1))]) rfl ?_
        exact ih _ _ _ _ _
      · refine tr_aload_n g 0 59 dX5_bestCap_58 rfl rfl rfl ?_
        refine kv_X5_together g wd_973 ⟨Nat.le_of_ble_eq_true rfl, Nat.le_of_ble_eq_true rfl⟩ (Nat.le_of_ble_eq_true rfl) 62 dX5_bestCap_59 rfl (fun r8 σ7 => ?_)
        refine tr_lstore (lv' := [(6, .long r8), (0, .ref (tn_ad E 5)), (1, .int x1), (2, .int x2), (3, .long x3), (5, .int x5)]) g 64 dX5_bestCap_62 rfl (by decide) rfl ?_
        refine tr_iload_n g 3 65 dX5_bestCap_64 rfl rfl rfl ?_
        refine tr_iconst (v := (-1)) g 66 dX5_bestCap_65 rfl rfl ?_
        refine tr_icmp_eq g 76 69 dX5_bestCap_66 rfl rfl ?_ ?_
        · refine tr_sub [1, 2, 5, 0] (lv' := [(0, .ref (tn_ad E 5)), (1, .int x1), (5, .int x5), (6, .long r8)]) rfl ?_
          exact b_X5_bestCap_76 g o (fun z0 z1 z2 z3 zs => F_X5_bestCap_25 tn_n z0 z1 z2 z3 zs) (fun z0 z1 z2 z3 zs => ih z0 z1 z2 z3 zs) _ _ _ _
        · refine tr_lload g 0 71 dX5_bestCap_69 rfl rfl ?_
          refine tr_lload_n g 4 72 dX5_bestCap_71 rfl rfl rfl ?_
          refine tr_lle g 82 76 dX5_bestCap_72 dX5_bestCap_73 rfl rfl ?_ ?_
          · refine tr_iinc (lv' := [(5, .int (x5 + 1)), (6, .long r8), (0, .ref (tn_ad E 5)), (1, .int x1), (2, .int x2), (3, .long x3)]) (x := (x5 + 1)) g 5 85 dX5_bestCap_82 rfl rfl rfl (by decide) rfl ?_
            refine tr_goto g 25 dX5_bestCap_85 rfl ?_
            refine tr_sub [2, 3, 4, 5, 0] (lv' := [(0, .ref (tn_ad E 5)), (1, .int x1), (2, .int x2), (3, .long x3), (5, .int (x5 + 1))]) rfl ?_
            exact ih _ _ _ _ _
          · refine tr_sub [1, 2, 5, 0] (lv' := [(0, .ref (tn_ad E 5)), (1, .int x1), (5, .int x5), (6, .long r8)]) rfl ?_
            exact b_X5_bestCap_76 g o (fun z0 z1 z2 z3 zs => F_X5_bestCap_25 tn_n z0 z1 z2 z3 zs) (fun z0 z1 z2 z3 zs => ih z0 z1 z2 z3 zs) _ _ _ _
set_option maxHeartbeats 4000000 in
set_option maxRecDepth 20000 in
theorem b_X5_bestCap {E : tn_E} {G : tn_G} (g : tn_Ok E G cX5_bestCap RX5 8 (tn_rm 8 200)) (o : tn_Om E G (some .long))  (a1 : Int32) (σ : tn_M) : tn_V E G tn_le 0 [(0, .ref (tn_ad E 5)), (1, .int a1)] [] σ (f_X5_bestCap a1 σ) := by
  unfold f_X5_bestCap
  refine tr_iload_n g 1 1 dX5_bestCap_0 rfl rfl rfl ?_
  refine tr_i2l g 2 dX5_bestCap_1 rfl ?_
  refine tr_lconst (v := 0) g 3 dX5_bestCap_2 rfl rfl ?_
  refine tr_ldc2 (v := 2) g wd_797 6 dX5_bestCap_3 rfl ?_
  refine kv_X5_in g wd_794 ⟨Nat.le_of_ble_eq_true rfl, Nat.le_of_ble_eq_true rfl⟩ (Nat.le_of_ble_eq_true rfl) 9 dX5_bestCap_6 rfl (fun r2 σ1 => ?_)
  refine tr_if_ne g 18 12 dX5_bestCap_9 rfl rfl ?_ ?_
  · refine tr_iconst (v := (-1)) g 19 dX5_bestCap_18 rfl rfl ?_
    refine tr_istore_n (lv' := [(2, .int (-1)), (0, .ref (tn_ad E 5)), (1, .int a1)]) g 20 dX5_bestCap_19 rfl rfl (by decide) rfl ?_
    refine tr_lconst (v := 0) g 21 dX5_bestCap_20 rfl rfl ?_
    refine tr_lstore_n (lv' := [(3, .long 0), (2, .int (-1)), (0, .ref (tn_ad E 5)), (1, .int a1)]) g 22 dX5_bestCap_21 rfl rfl (by decide) rfl ?_
    refine tr_iconst (v := 0) g 23 dX5_bestCap_22 rfl rfl ?_
    refine tr_istore (lv' := [(5, .int 0), (3, .long 0), (2, .int (-1)), (0, .ref (tn_ad E 5)), (1, .int a1)]) g 25 dX5_bestCap_23 rfl (by decide) rfl ?_
    refine tr_sub [3, 4, 2, 1, 0] (lv' := [(0, .ref (tn_ad E 5)), (1, .int a1), (2, .int (-1)), (3, .long 0), (5, .int 0)]) rfl ?_
    exact b_X5_bestCap_25 g o  tn_fuel _ _ _ _ _
  · refine tr_bipush (v := (-2)) g 14 dX5_bestCap_12 rfl rfl ?_
    refine kv_X5_no g wd_961 ⟨Nat.le_of_ble_eq_true rfl, Nat.le_of_ble_eq_true rfl⟩ (Nat.le_of_ble_eq_true rfl) 17 dX5_bestCap_14 rfl (fun r4 σ3 => ?_)
    exact tr_lret g o dX5_bestCap_17
theorem ok_X5_bestCap {E : tn_E} {l : Launch}   (a1 : Int32) {σ : tn_M} {r : Int64} {σ' : tn_M} (h : f_X5_bestCap a1 σ = some (r, σ')) : tn_C E l yX5_bestCap cX5_bestCap 8 (some .long) (tn_rm 8 200) [.ref (tn_ad E 5), .int a1] σ (tn_le r) σ' :=
  tn_met (by decide) (Nat.le_of_ble_eq_true rfl) (fun G _ g o => b_X5_bestCap g o  a1 σ) h
theorem yy_X5_bestCap : tn_Yv RX5 yX5_bestCap cX5_bestCap 8 (some .long) 1 := ⟨wd_1052, wd_1050, wd_1051, wd_70, by decide, by decide, by decide +kernel⟩
theorem kv_X5_bestCap {E : tn_E} {G : tn_G} {cc : ByteArray} {own : String} {nL : Nat} {R : Room} {ρ : Type} {enc : ρ → Option Value} {pc : Nat} {lv : List (Nat × Value)} {st : List Value} {σ : tn_M} {kk : Int64 → tn_M → Option (ρ × tn_M)} {i : Nat}  {a1 : Int32} (g : tn_Ok E G cc own nL R)  (hw : Cond.methodLink own i yX5_bestCap ∈ tn_T) (hroom : 9 ≤ R.frames ∧ 227 ≤ R.locals) (hW : (st.map fun v => v.category).sum ≤ 8) (n : Nat) (hd : decode cc pc = .ok (.invokevirtual i, 3)) (hn : pc + 3 = n) (k : ∀ r σ1, tn_V E G enc n lv (.long r :: st) σ1 (kk r σ1)) : tn_V E G enc pc lv (.int a1 :: .ref (tn_ad E 5) :: st) σ (tn_bd (f_X5_bestCap a1 σ) kk) :=
  tr_callV (As := [.int a1]) (enc1 := tn_le) g yy_X5_bestCap hw (ci := 5) rfl (by decide) rfl (fun r σ1 h => ok_X5_bestCap  a1 h) ⟨rfl, rfl⟩ ⟨hroom.1, by have h2 := hroom.2; show 8 + (8 + 11) + 200 ≤ R.locals; omega⟩ rfl rfl hW n hd hn k
/-! X5_edge -/
def F_X5_edge_17  : Nat → Int32 → Int32 → tn_M → Option (Int32 × tn_M)
  | 0, _, _, _ => none
  | tn_n + 1, x1, x2, σ => 
    if 100 ≤ x2 then
      some ((-1), σ)
    else
      tn_ck x1 5 <|
      tn_lt (tn_si σ 46 (tn_x x1) x2) fun σ1 =>
      tn_bd (f_X5_answerOf x1 σ1) fun r3 σ2 =>
      if r3 = 0 then
        some (x2, σ2)
      else
        F_X5_edge_17 tn_n x1 (x2 + 1) σ2
def f_X5_edge  (a1 : Int32) (σ : tn_M) : Option (Int32 × tn_M) :=
  tn_bd (f_X5_isShop a1 σ) fun r2 σ1 =>
  if r2 = 0 then
    some ((-2), σ1)
  else
    tn_bd (f_X5_tries σ1) fun _ σ3 =>
    F_X5_edge_17 tn_fuel a1 0 σ3
set_option maxHeartbeats 4000000 in
set_option maxRecDepth 20000 in
theorem b_X5_edge_17 {E : tn_E} {G : tn_G} (g : tn_Ok E G cX5_edge RX5 3 (tn_rm 6 156)) (o : tn_Om E G (some .int))  : ∀ (n : Nat) (x1 : Int32) (x2 : Int32) (σ : tn_M), tn_V E G tn_ie 17 [(0, .ref (tn_ad E 5)), (1, .int x1), (2, .int x2)] [] σ (F_X5_edge_17 n x1 x2 σ) := by
  intro n
  induction n with
  | zero => intros; exact tr_none
  | succ tn_n ih =>
    intro x1 x2 σ
    rw [F_X5_edge_17]
    refine tr_iload_n g 2 18 dX5_edge_17 rfl rfl rfl ?_
    refine tr_bipush (v := 100) g 20 dX5_edge_18 rfl rfl ?_
    refine tr_icmp_ge g 46 23 dX5_edge_20 rfl rfl ?_ ?_
    · refine tr_iconst (v := (-1)) g 47 dX5_edge_46 rfl rfl ?_
      exact tr_iret g o dX5_edge_47
    · refine tr_aload_n g 0 24 dX5_edge_23 rfl rfl rfl ?_
      refine gf_X5_21 g wd_725 27 dX5_edge_24 rfl ?_
      refine tr_iload_n g 1 28 dX5_edge_27 rfl rfl rfl ?_
      refine tr_iload_n g 2 29 dX5_edge_28 rfl rfl rfl ?_
      refine tr_iast (N := 5) g 30 rfl rfl dX5_edge_29 rfl (fun σ1 => ?_)
      refine tr_aload_n g 0 31 dX5_edge_30 rfl rfl rfl ?_
      refine tr_iload_n g 1 32 dX5_edge_31 rfl rfl rfl ?_
      refine kv_X5_answerOf g wd_985 ⟨Nat.le_of_ble_eq_true rfl, Nat.le_of_ble_eq_true rfl⟩ (Nat.le_of_ble_eq_true rfl) 35 dX5_edge_32 rfl (fun r3 σ2 => ?_)
      refine tr_if_ne g 40 38 dX5_edge_35 rfl rfl ?_ ?_
      · refine tr_iinc (lv' := [(2, .int (x2 + 1)), (0, .ref (tn_ad E 5)), (1, .int x1)]) (x := (x2 + 1)) g 2 43 dX5_edge_40 rfl rfl rfl (by decide) rfl ?_
        refine tr_goto g 17 dX5_edge_43 rfl ?_
        refine tr_sub [1, 2, 0] (lv' := [(0, .ref (tn_ad E 5)), (1, .int x1), (2, .int (x2 + 1))]) rfl ?_
        exact ih _ _ _
      · refine tr_iload_n g 2 39 dX5_edge_38 rfl rfl rfl ?_
        exact tr_iret g o dX5_edge_39
set_option maxHeartbeats 4000000 in
set_option maxRecDepth 20000 in
theorem b_X5_edge {E : tn_E} {G : tn_G} (g : tn_Ok E G cX5_edge RX5 3 (tn_rm 6 156)) (o : tn_Om E G (some .int))  (a1 : Int32) (σ : tn_M) : tn_V E G tn_ie 0 [(0, .ref (tn_ad E 5)), (1, .int a1)] [] σ (f_X5_edge a1 σ) := by
  unfold f_X5_edge
  refine tr_aload_n g 0 1 dX5_edge_0 rfl rfl rfl ?_
  refine tr_iload_n g 1 2 dX5_edge_1 rfl rfl rfl ?_
  refine kv_X5_isShop g wd_877 ⟨Nat.le_of_ble_eq_true rfl, Nat.le_of_ble_eq_true rfl⟩ (Nat.le_of_ble_eq_true rfl) 5 dX5_edge_2 rfl (fun r2 σ1 => ?_)
  refine tr_if_ne g 11 8 dX5_edge_5 rfl rfl ?_ ?_
  · refine tr_aload_n g 0 12 dX5_edge_11 rfl rfl rfl ?_
    refine kv_X5_tries g wd_912 ⟨Nat.le_of_ble_eq_true rfl, Nat.le_of_ble_eq_true rfl⟩ (Nat.le_of_ble_eq_true rfl) 15 dX5_edge_12 rfl (fun _ σ3 => ?_)
    refine tr_iconst (v := 0) g 16 dX5_edge_15 rfl rfl ?_
    refine tr_istore_n (lv' := [(2, .int 0), (0, .ref (tn_ad E 5)), (1, .int a1)]) g 17 dX5_edge_16 rfl rfl (by decide) rfl ?_
    refine tr_sub [1, 2, 0] (lv' := [(0, .ref (tn_ad E 5)), (1, .int a1), (2, .int 0)]) rfl ?_
    exact b_X5_edge_17 g o  tn_fuel _ _ _
  · refine tr_bipush (v := (-2)) g 10 dX5_edge_8 rfl rfl ?_
    exact tr_iret g o dX5_edge_10
theorem ok_X5_edge {E : tn_E} {l : Launch}   (a1 : Int32) {σ : tn_M} {r : Int32} {σ' : tn_M} (h : f_X5_edge a1 σ = some (r, σ')) : tn_C E l yX5_edge cX5_edge 3 (some .int) (tn_rm 6 156) [.ref (tn_ad E 5), .int a1] σ (tn_ie r) σ' :=
  tn_met (by decide) (Nat.le_of_ble_eq_true rfl) (fun G _ g o => b_X5_edge g o  a1 σ) h
theorem yy_X5_edge : tn_Yv RX5 yX5_edge cX5_edge 3 (some .int) 1 := ⟨wd_1056, wd_1054, wd_1055, wd_70, by decide, by decide, by decide +kernel⟩
theorem kv_X5_edge {E : tn_E} {G : tn_G} {cc : ByteArray} {own : String} {nL : Nat} {R : Room} {ρ : Type} {enc : ρ → Option Value} {pc : Nat} {lv : List (Nat × Value)} {st : List Value} {σ : tn_M} {kk : Int32 → tn_M → Option (ρ × tn_M)} {i : Nat}  {a1 : Int32} (g : tn_Ok E G cc own nL R)  (hw : Cond.methodLink own i yX5_edge ∈ tn_T) (hroom : 7 ≤ R.frames ∧ 178 ≤ R.locals) (hW : (st.map fun v => v.category).sum ≤ 8) (n : Nat) (hd : decode cc pc = .ok (.invokevirtual i, 3)) (hn : pc + 3 = n) (k : ∀ r σ1, tn_V E G enc n lv (.int r :: st) σ1 (kk r σ1)) : tn_V E G enc pc lv (.int a1 :: .ref (tn_ad E 5) :: st) σ (tn_bd (f_X5_edge a1 σ) kk) :=
  tr_callV (As := [.int a1]) (enc1 := tn_ie) g yy_X5_edge hw (ci := 5) rfl (by decide) rfl (fun r σ1 h => ok_X5_edge  a1 h) ⟨rfl, rfl⟩ ⟨hroom.1, by have h2 := hroom.2; show 8 + (3 + 11) + 156 ≤ R.locals; omega⟩ rfl rfl hW n hd hn k
/-! X5_always -/
def F_X5_always_15   (σ : tn_M) : Option (Int64 × tn_M) :=
  tn_bd (f_X5_no (-2) σ) fun r2 σ1 =>
  some (r2, σ1)
def f_X5_always  (a1 : Int32) (a2 : Int32) (σ : tn_M) : Option (Int64 × tn_M) :=
  tn_bd (f_X5_isShop a1 σ) fun r2 σ1 =>
  if r2 = 0 then
    F_X5_always_15 σ1
  else
    tn_bd (f_X5_isTwo a2 σ1) fun r4 σ3 =>
    if r4 = 0 then
      F_X5_always_15 σ3
    else
      tn_bd (f_X5_tries σ3) fun _ σ5 =>
      tn_ck a1 5 <|
      tn_lt (tn_si σ5 44 (tn_x a1) 3) fun σ6 =>
      tn_lt (tn_si σ6 5 20 a1) fun σ7 =>
      tn_bd (f_X5_runsDown σ7) fun r9 σ8 =>
      if r9 = 0 then
        tn_bd (f_X5_no (-3) σ8) fun r21 σ20 =>
        some (r21, σ20)
      else
        tn_bd (f_X5_earnAll σ8) fun _ σ10 =>
        tn_ck a1 5 <|
        tn_lt (α := Int64) (σ10.2 47 (tn_x a1)) fun w11 =>
        tn_bd (f_X5_tries σ10) fun _ σ12 =>
        tn_bd (f_X5_runsDown σ12) fun r14 σ13 =>
        if r14 = 0 then
          tn_bd (f_X5_no (-3) σ13) fun r19 σ18 =>
          some (r19, σ18)
        else
          tn_bd (f_X5_earnAll σ13) fun _ σ15 =>
          tn_ck a1 5 <|
          tn_bd (f_X5_part (w11 - (σ15.2 47 (tn_x a1))) 11808276480 a2 σ15) fun r17 σ16 =>
          some (r17, σ16)
set_option maxHeartbeats 4000000 in
set_option maxRecDepth 20000 in
theorem b_X5_always_15 {E : tn_E} {G : tn_G} (g : tn_Ok E G cX5_always RX5 5 (tn_rm 8 200)) (o : tn_Om E G (some .long))   (σ : tn_M) : tn_V E G tn_le 15 [] [] σ (F_X5_always_15 σ) := by
  unfold F_X5_always_15
  refine tr_bipush (v := (-2)) g 17 dX5_always_15 rfl rfl ?_
  refine kv_X5_no g wd_961 ⟨Nat.le_of_ble_eq_true rfl, Nat.le_of_ble_eq_true rfl⟩ (Nat.le_of_ble_eq_true rfl) 20 dX5_always_17 rfl (fun r2 σ1 => ?_)
  exact tr_lret g o dX5_always_20
set_option maxHeartbeats 4000000 in
set_option maxRecDepth 20000 in
theorem b_X5_always {E : tn_E} {G : tn_G} (g : tn_Ok E G cX5_always RX5 5 (tn_rm 8 200)) (o : tn_Om E G (some .long))  (a1 : Int32) (a2 : Int32) (σ : tn_M) : tn_V E G tn_le 0 [(0, .ref (tn_ad E 5)), (1, .int a1), (2, .int a2)] [] σ (f_X5_always a1 a2 σ) := by
  unfold f_X5_always
  refine tr_aload_n g 0 1 dX5_always_0 rfl rfl rfl ?_
  refine tr_iload_n g 1 2 dX5_always_1 rfl rfl rfl ?_
  refine kv_X5_isShop g wd_877 ⟨Nat.le_of_ble_eq_true rfl, Nat.le_of_ble_eq_true rfl⟩ (Nat.le_of_ble_eq_true rfl) 5 dX5_always_2 rfl (fun r2 σ1 => ?_)
  refine tr_if_eq g 15 8 dX5_always_5 rfl rfl ?_ ?_
  · refine tr_sub [] (lv' := []) rfl ?_
    exact b_X5_always_15 g o  _
  · refine tr_iload_n g 2 9 dX5_always_8 rfl rfl rfl ?_
    refine kv_X5_isTwo g wd_924 ⟨Nat.le_of_ble_eq_true rfl, Nat.le_of_ble_eq_true rfl⟩ (Nat.le_of_ble_eq_true rfl) 12 dX5_always_9 rfl (fun r4 σ3 => ?_)
    refine tr_if_ne g 21 15 dX5_always_12 rfl rfl ?_ ?_
    · refine tr_aload_n g 0 22 dX5_always_21 rfl rfl rfl ?_
      refine kv_X5_tries g wd_912 ⟨Nat.le_of_ble_eq_true rfl, Nat.le_of_ble_eq_true rfl⟩ (Nat.le_of_ble_eq_true rfl) 25 dX5_always_22 rfl (fun _ σ5 => ?_)
      refine tr_aload_n g 0 26 dX5_always_25 rfl rfl rfl ?_
      refine gf_X5_16 g wd_720 29 dX5_always_26 rfl ?_
      refine tr_iload_n g 1 30 dX5_always_29 rfl rfl rfl ?_
      refine tr_iconst (v := 3) g 31 dX5_always_30 rfl rfl ?_
      refine tr_iast (N := 5) g 32 rfl rfl dX5_always_31 rfl (fun σ6 => ?_)
      refine tr_aload_n g 0 33 dX5_always_32 rfl rfl rfl ?_
      refine tr_iload_n g 1 34 dX5_always_33 rfl rfl rfl ?_
      refine pf_X5_20 g wd_724 37 dX5_always_34 rfl (fun σ7 => ?_)
      refine tr_aload_n g 0 38 dX5_always_37 rfl rfl rfl ?_
      refine kv_X5_runsDown g wd_1001 ⟨Nat.le_of_ble_eq_true rfl, Nat.le_of_ble_eq_true rfl⟩ (Nat.le_of_ble_eq_true rfl) 41 dX5_always_38 rfl (fun r9 σ8 => ?_)
      refine tr_if_ne g 50 44 dX5_always_41 rfl rfl ?_ ?_
      · refine tr_aload_n g 0 51 dX5_always_50 rfl rfl rfl ?_
        refine kv_X5_earnAll g wd_931 ⟨Nat.le_of_ble_eq_true rfl, Nat.le_of_ble_eq_true rfl⟩ (Nat.le_of_ble_eq_true rfl) 54 dX5_always_51 rfl (fun _ σ10 => ?_)
        refine tr_aload_n g 0 55 dX5_always_54 rfl rfl rfl ?_
        refine gf_X5_22 g wd_726 58 dX5_always_55 rfl ?_
        refine tr_iload_n g 1 59 dX5_always_58 rfl rfl rfl ?_
        refine tr_lald (N := 5) g 60 rfl rfl dX5_always_59 rfl ?_
        refine tr_ltl (fun w11 => ?_)
        refine tr_lstore_n (lv' := [(3, .long w11), (0, .ref (tn_ad E 5)), (1, .int a1), (2, .int a2)]) g 61 dX5_always_60 rfl rfl (by decide) rfl ?_
        refine tr_aload_n g 1 62 dX5_always_61 rfl rfl rfl ?_
        refine kv_X5_tries g wd_912 ⟨Nat.le_of_ble_eq_true rfl, Nat.le_of_ble_eq_true rfl⟩ (Nat.le_of_ble_eq_true rfl) 65 dX5_always_62 rfl (fun _ σ12 => ?_)
        refine tr_aload_n g 1 66 dX5_always_65 rfl rfl rfl ?_
        refine kv_X5_runsDown g wd_1001 ⟨Nat.le_of_ble_eq_true rfl, Nat.le_of_ble_eq_true rfl⟩ (Nat.le_of_ble_eq_true rfl) 69 dX5_always_66 rfl (fun r14 σ13 => ?_)
        refine tr_if_ne g 78 72 dX5_always_69 rfl rfl ?_ ?_
        · refine tr_aload_n g 1 79 dX5_always_78 rfl rfl rfl ?_
          refine kv_X5_earnAll g wd_931 ⟨Nat.le_of_ble_eq_true rfl, Nat.le_of_ble_eq_true rfl⟩ (Nat.le_of_ble_eq_true rfl) 82 dX5_always_79 rfl (fun _ σ15 => ?_)
          refine tr_lload_n g 0 83 dX5_always_82 rfl rfl rfl ?_
          refine tr_aload_n g 1 84 dX5_always_83 rfl rfl rfl ?_
          refine gf_X5_22 g wd_726 87 dX5_always_84 rfl ?_
          refine tr_iload_n g 2 88 dX5_always_87 rfl rfl rfl ?_
          refine tr_lald (N := 5) g 89 rfl rfl dX5_always_88 rfl ?_
          refine tr_lsub g 90 dX5_always_89 rfl ?_
          refine tr_ldc2 (v := 11808276480) g wd_953 93 dX5_always_90 rfl ?_
          refine tr_iload_n g 3 94 dX5_always_93 rfl rfl rfl ?_
          refine kv_X5_part g wd_955 ⟨Nat.le_of_ble_eq_true rfl, Nat.le_of_ble_eq_true rfl⟩ (Nat.le_of_ble_eq_true rfl) 97 dX5_always_94 rfl (fun r17 σ16 => ?_)
          exact tr_lret g o dX5_always_97
        · refine tr_bipush (v := (-3)) g 74 dX5_always_72 rfl rfl ?_
          refine kv_X5_no g wd_961 ⟨Nat.le_of_ble_eq_true rfl, Nat.le_of_ble_eq_true rfl⟩ (Nat.le_of_ble_eq_true rfl) 77 dX5_always_74 rfl (fun r19 σ18 => ?_)
          exact tr_lret g o dX5_always_77
      · refine tr_bipush (v := (-3)) g 46 dX5_always_44 rfl rfl ?_
        refine kv_X5_no g wd_961 ⟨Nat.le_of_ble_eq_true rfl, Nat.le_of_ble_eq_true rfl⟩ (Nat.le_of_ble_eq_true rfl) 49 dX5_always_46 rfl (fun r21 σ20 => ?_)
        exact tr_lret g o dX5_always_49
    · refine tr_sub [] (lv' := []) rfl ?_
      exact b_X5_always_15 g o  _
theorem ok_X5_always {E : tn_E} {l : Launch}   (a1 : Int32) (a2 : Int32) {σ : tn_M} {r : Int64} {σ' : tn_M} (h : f_X5_always a1 a2 σ = some (r, σ')) : tn_C E l yX5_always cX5_always 5 (some .long) (tn_rm 8 200) [.ref (tn_ad E 5), .int a1, .int a2] σ (tn_le r) σ' :=
  tn_met (by decide) (Nat.le_of_ble_eq_true rfl) (fun G _ g o => b_X5_always g o  a1 a2 σ) h
theorem yy_X5_always : tn_Yv RX5 yX5_always cX5_always 5 (some .long) 2 := ⟨wd_1060, wd_1058, wd_1059, wd_70, by decide, by decide, by decide +kernel⟩
theorem kv_X5_always {E : tn_E} {G : tn_G} {cc : ByteArray} {own : String} {nL : Nat} {R : Room} {ρ : Type} {enc : ρ → Option Value} {pc : Nat} {lv : List (Nat × Value)} {st : List Value} {σ : tn_M} {kk : Int64 → tn_M → Option (ρ × tn_M)} {i : Nat}  {a1 : Int32} {a2 : Int32} (g : tn_Ok E G cc own nL R)  (hw : Cond.methodLink own i yX5_always ∈ tn_T) (hroom : 9 ≤ R.frames ∧ 224 ≤ R.locals) (hW : (st.map fun v => v.category).sum ≤ 8) (n : Nat) (hd : decode cc pc = .ok (.invokevirtual i, 3)) (hn : pc + 3 = n) (k : ∀ r σ1, tn_V E G enc n lv (.long r :: st) σ1 (kk r σ1)) : tn_V E G enc pc lv (.int a2 :: .int a1 :: .ref (tn_ad E 5) :: st) σ (tn_bd (f_X5_always a1 a2 σ) kk) :=
  tr_callV (As := [.int a1, .int a2]) (enc1 := tn_le) g yy_X5_always hw (ci := 5) rfl (by decide) rfl (fun r σ1 h => ok_X5_always  a1 a2 h) ⟨rfl, rfl⟩ ⟨hroom.1, by have h2 := hroom.2; show 8 + (5 + 11) + 200 ≤ R.locals; omega⟩ rfl rfl hW n hd hn k
/-! X5_turn -/
def f_X5_turn  (a1 : Int32) (a2 : Int32) (σ : tn_M) : Option (Int32 × tn_M) :=
  tn_bd (f_X5_in (Int32.toInt64 a1) 0 5 σ) fun r2 σ1 =>
  if r2 = 0 then
    some ((-2), σ1)
  else
    tn_bd (f_X5_in (Int32.toInt64 a2) 0 31 σ1) fun r4 σ3 =>
    if r4 = 0 then
      some ((-2), σ3)
    else
      tn_ck a1 6 <|
      tn_lt (α := Int32) (σ3.1 43 (tn_x a1)) fun w5 =>
      tn_ck a1 6 <|
      tn_lt (tn_si σ3 43 (tn_x a1) a2) fun σ6 =>
      some (w5, σ6)
set_option maxHeartbeats 4000000 in
set_option maxRecDepth 20000 in
theorem b_X5_turn {E : tn_E} {G : tn_G} (g : tn_Ok E G cX5_turn RX5 4 (tn_rm 1 25)) (o : tn_Om E G (some .int))  (a1 : Int32) (a2 : Int32) (σ : tn_M) : tn_V E G tn_ie 0 [(0, .ref (tn_ad E 5)), (1, .int a1), (2, .int a2)] [] σ (f_X5_turn a1 a2 σ) := by
  unfold f_X5_turn
  refine tr_iload_n g 1 1 dX5_turn_0 rfl rfl rfl ?_
  refine tr_i2l g 2 dX5_turn_1 rfl ?_
  refine tr_lconst (v := 0) g 3 dX5_turn_2 rfl rfl ?_
  refine tr_ldc2 (v := 5) g wd_889 6 dX5_turn_3 rfl ?_
  refine kv_X5_in g wd_794 ⟨Nat.le_of_ble_eq_true rfl, Nat.le_of_ble_eq_true rfl⟩ (Nat.le_of_ble_eq_true rfl) 9 dX5_turn_6 rfl (fun r2 σ1 => ?_)
  refine tr_if_eq g 24 12 dX5_turn_9 rfl rfl ?_ ?_
  · refine tr_bipush (v := (-2)) g 26 dX5_turn_24 rfl rfl ?_
    exact tr_iret g o dX5_turn_26
  · refine tr_iload_n g 2 13 dX5_turn_12 rfl rfl rfl ?_
    refine tr_i2l g 14 dX5_turn_13 rfl ?_
    refine tr_lconst (v := 0) g 15 dX5_turn_14 rfl rfl ?_
    refine tr_ldc2 (v := 31) g wd_1065 18 dX5_turn_15 rfl ?_
    refine kv_X5_in g wd_794 ⟨Nat.le_of_ble_eq_true rfl, Nat.le_of_ble_eq_true rfl⟩ (Nat.le_of_ble_eq_true rfl) 21 dX5_turn_18 rfl (fun r4 σ3 => ?_)
    refine tr_if_ne g 27 24 dX5_turn_21 rfl rfl ?_ ?_
    · refine tr_aload_n g 0 28 dX5_turn_27 rfl rfl rfl ?_
      refine gf_X5_15 g wd_719 31 dX5_turn_28 rfl ?_
      refine tr_iload_n g 1 32 dX5_turn_31 rfl rfl rfl ?_
      refine tr_iald (N := 6) g 33 rfl rfl dX5_turn_32 rfl ?_
      refine tr_lti (fun w5 => ?_)
      refine tr_istore_n (lv' := [(3, .int w5), (0, .ref (tn_ad E 5)), (1, .int a1), (2, .int a2)]) g 34 dX5_turn_33 rfl rfl (by decide) rfl ?_
      refine tr_aload_n g 1 35 dX5_turn_34 rfl rfl rfl ?_
      refine gf_X5_15 g wd_719 38 dX5_turn_35 rfl ?_
      refine tr_iload_n g 2 39 dX5_turn_38 rfl rfl rfl ?_
      refine tr_iload_n g 3 40 dX5_turn_39 rfl rfl rfl ?_
      refine tr_iast (N := 6) g 41 rfl rfl dX5_turn_40 rfl (fun σ6 => ?_)
      refine tr_iload_n g 0 42 dX5_turn_41 rfl rfl rfl ?_
      exact tr_iret g o dX5_turn_42
    · refine tr_bipush (v := (-2)) g 26 dX5_turn_24 rfl rfl ?_
      exact tr_iret g o dX5_turn_26
theorem ok_X5_turn {E : tn_E} {l : Launch}   (a1 : Int32) (a2 : Int32) {σ : tn_M} {r : Int32} {σ' : tn_M} (h : f_X5_turn a1 a2 σ = some (r, σ')) : tn_C E l yX5_turn cX5_turn 4 (some .int) (tn_rm 1 25) [.ref (tn_ad E 5), .int a1, .int a2] σ (tn_ie r) σ' :=
  tn_met (by decide) (Nat.le_of_ble_eq_true rfl) (fun G _ g o => b_X5_turn g o  a1 a2 σ) h
theorem yy_X5_turn : tn_Yv RX5 yX5_turn cX5_turn 4 (some .int) 2 := ⟨wd_1064, wd_1062, wd_1063, wd_70, by decide, by decide, by decide +kernel⟩
theorem kv_X5_turn {E : tn_E} {G : tn_G} {cc : ByteArray} {own : String} {nL : Nat} {R : Room} {ρ : Type} {enc : ρ → Option Value} {pc : Nat} {lv : List (Nat × Value)} {st : List Value} {σ : tn_M} {kk : Int32 → tn_M → Option (ρ × tn_M)} {i : Nat}  {a1 : Int32} {a2 : Int32} (g : tn_Ok E G cc own nL R)  (hw : Cond.methodLink own i yX5_turn ∈ tn_T) (hroom : 2 ≤ R.frames ∧ 48 ≤ R.locals) (hW : (st.map fun v => v.category).sum ≤ 8) (n : Nat) (hd : decode cc pc = .ok (.invokevirtual i, 3)) (hn : pc + 3 = n) (k : ∀ r σ1, tn_V E G enc n lv (.int r :: st) σ1 (kk r σ1)) : tn_V E G enc pc lv (.int a2 :: .int a1 :: .ref (tn_ad E 5) :: st) σ (tn_bd (f_X5_turn a1 a2 σ) kk) :=
  tr_callV (As := [.int a1, .int a2]) (enc1 := tn_ie) g yy_X5_turn hw (ci := 5) rfl (by decide) rfl (fun r σ1 h => ok_X5_turn  a1 a2 h) ⟨rfl, rfl⟩ ⟨hroom.1, by have h2 := hroom.2; show 8 + (4 + 11) + 25 ≤ R.locals; omega⟩ rfl rfl hW n hd hn k
/-! X5_layTurn -/
def F_X5_layTurn_6  : Nat → Int32 → Int32 → tn_M → Option (Unit × tn_M)
  | 0, _, _, _ => none
  | tn_n + 1, x1, x2, σ => 
    if (σ.1 5 8) ≤ x2 then
      some ((), σ)
    else
      tn_ck x1 6 <|
      tn_lt (α := Int32) (if (((σ.1 43 (tn_x x1)) >>> (x2 &&& 31)) &&& 1) = 1 then 3 else 0) fun v1 =>
      tn_ck x2 5 <|
      tn_lt (tn_si σ 44 (tn_x x2) v1) fun σ2 =>
      F_X5_layTurn_6 tn_n x1 (x2 + 1) σ2
def f_X5_layTurn  (a1 : Int32) (σ : tn_M) : Option (Unit × tn_M) :=
  tn_bd (f_X5_tries σ) fun _ σ1 =>
  F_X5_layTurn_6 tn_fuel a1 0 σ1
set_option maxHeartbeats 4000000 in
set_option maxRecDepth 20000 in
theorem b_X5_layTurn_6 {E : tn_E} {G : tn_G} (g : tn_Ok E G cX5_layTurn RX5 3 (tn_rm 6 137)) (o : tn_Om E G none)  : ∀ (n : Nat) (x1 : Int32) (x2 : Int32) (σ : tn_M), tn_V E G tn_ve 6 [(0, .ref (tn_ad E 5)), (1, .int x1), (2, .int x2)] [] σ (F_X5_layTurn_6 n x1 x2 σ) := by
  intro n
  induction n with
  | zero => intros; exact tr_none
  | succ tn_n ih =>
    intro x1 x2 σ
    rw [F_X5_layTurn_6]
    refine tr_iload_n g 2 7 dX5_layTurn_6 rfl rfl rfl ?_
    refine tr_aload_n g 0 8 dX5_layTurn_7 rfl rfl rfl ?_
    refine gf_X5_8 g wd_712 11 dX5_layTurn_8 rfl ?_
    refine tr_icmp_ge g 45 14 dX5_layTurn_11 rfl rfl ?_ ?_
    · exact tr_vret g o dX5_layTurn_45
    · refine tr_aload_n g 0 15 dX5_layTurn_14 rfl rfl rfl ?_
      refine gf_X5_16 g wd_720 18 dX5_layTurn_15 rfl ?_
      refine tr_iload_n g 2 19 dX5_layTurn_18 rfl rfl rfl ?_
      refine tr_aload_n g 0 20 dX5_layTurn_19 rfl rfl rfl ?_
      refine gf_X5_15 g wd_719 23 dX5_layTurn_20 rfl ?_
      refine tr_iload_n g 1 24 dX5_layTurn_23 rfl rfl rfl ?_
      refine tr_iald (N := 6) g 25 rfl rfl dX5_layTurn_24 rfl ?_
      refine tr_iload_n g 2 26 dX5_layTurn_25 rfl rfl rfl ?_
      refine tr_ishr g 27 dX5_layTurn_26 rfl ?_
      refine tr_iconst (v := 1) g 28 dX5_layTurn_27 rfl rfl ?_
      refine tr_iand g 29 dX5_layTurn_28 rfl ?_
      refine tr_iconst (v := 1) g 30 dX5_layTurn_29 rfl rfl ?_
      refine tr_icmp_neD (inj := fun z => Value.int z) g 38 37 33 dX5_layTurn_30 rfl rfl (fun rs hj => ?_) (fun rs hj => ?_) (fun v1 => ?_)
      · refine tr_iconst (v := 0) g 38 dX5_layTurn_37 rfl rfl ?_
        exact hj
      · refine tr_iconst (v := 3) g 34 dX5_layTurn_33 rfl rfl ?_
        refine tr_goto g 38 dX5_layTurn_34 rfl ?_
        exact hj
      · refine tr_iast (N := 5) g 39 rfl rfl dX5_layTurn_38 rfl (fun σ2 => ?_)
        refine tr_iinc (lv' := [(2, .int (x2 + 1)), (0, .ref (tn_ad E 5)), (1, .int x1)]) (x := (x2 + 1)) g 2 42 dX5_layTurn_39 rfl rfl rfl (by decide) rfl ?_
        refine tr_goto g 6 dX5_layTurn_42 rfl ?_
        refine tr_sub [1, 2, 0] (lv' := [(0, .ref (tn_ad E 5)), (1, .int x1), (2, .int (x2 + 1))]) rfl ?_
        exact ih _ _ _
set_option maxHeartbeats 4000000 in
set_option maxRecDepth 20000 in
theorem b_X5_layTurn {E : tn_E} {G : tn_G} (g : tn_Ok E G cX5_layTurn RX5 3 (tn_rm 6 137)) (o : tn_Om E G none)  (a1 : Int32) (σ : tn_M) : tn_V E G tn_ve 0 [(0, .ref (tn_ad E 5)), (1, .int a1)] [] σ (f_X5_layTurn a1 σ) := by
  unfold f_X5_layTurn
  refine tr_aload_n g 0 1 dX5_layTurn_0 rfl rfl rfl ?_
  refine kv_X5_tries g wd_912 ⟨Nat.le_of_ble_eq_true rfl, Nat.le_of_ble_eq_true rfl⟩ (Nat.le_of_ble_eq_true rfl) 4 dX5_layTurn_1 rfl (fun _ σ1 => ?_)
  refine tr_iconst (v := 0) g 5 dX5_layTurn_4 rfl rfl ?_
  refine tr_istore_n (lv' := [(2, .int 0), (0, .ref (tn_ad E 5)), (1, .int a1)]) g 6 dX5_layTurn_5 rfl rfl (by decide) rfl ?_
  refine tr_sub [1, 2, 0] (lv' := [(0, .ref (tn_ad E 5)), (1, .int a1), (2, .int 0)]) rfl ?_
  exact b_X5_layTurn_6 g o  tn_fuel _ _ _
theorem ok_X5_layTurn {E : tn_E} {l : Launch}   (a1 : Int32) {σ : tn_M} {r : Unit} {σ' : tn_M} (h : f_X5_layTurn a1 σ = some (r, σ')) : tn_C E l yX5_layTurn cX5_layTurn 3 none (tn_rm 6 137) [.ref (tn_ad E 5), .int a1] σ (tn_ve r) σ' :=
  tn_met (by decide) (Nat.le_of_ble_eq_true rfl) (fun G _ g o => b_X5_layTurn g o  a1 σ) h
theorem yy_X5_layTurn : tn_Yv RX5 yX5_layTurn cX5_layTurn 3 none 1 := ⟨wd_1077, wd_1076, wd_59, wd_70, by decide, by decide, by decide +kernel⟩
theorem kv_X5_layTurn {E : tn_E} {G : tn_G} {cc : ByteArray} {own : String} {nL : Nat} {R : Room} {ρ : Type} {enc : ρ → Option Value} {pc : Nat} {lv : List (Nat × Value)} {st : List Value} {σ : tn_M} {kk : Unit → tn_M → Option (ρ × tn_M)} {i : Nat}  {a1 : Int32} (g : tn_Ok E G cc own nL R)  (hw : Cond.methodLink own i yX5_layTurn ∈ tn_T) (hroom : 7 ≤ R.frames ∧ 159 ≤ R.locals) (hW : (st.map fun v => v.category).sum ≤ 8) (n : Nat) (hd : decode cc pc = .ok (.invokevirtual i, 3)) (hn : pc + 3 = n) (k : ∀ r σ1, tn_V E G enc n lv (st) σ1 (kk r σ1)) : tn_V E G enc pc lv (.int a1 :: .ref (tn_ad E 5) :: st) σ (tn_bd (f_X5_layTurn a1 σ) kk) :=
  tr_callV (As := [.int a1]) (enc1 := tn_ve) g yy_X5_layTurn hw (ci := 5) rfl (by decide) rfl (fun r σ1 h => ok_X5_layTurn  a1 h) ⟨rfl, rfl⟩ ⟨hroom.1, by have h2 := hroom.2; show 8 + (3 + 11) + 137 ≤ R.locals; omega⟩ rfl rfl hW n hd hn k
/-! X5_keepsOf -/
def F_X5_keepsOf_48  (x1 : Int32) (x2 : Int32) (x3 : Int32) (σ : tn_M) : Option (Int32 × tn_M) :=
  tn_lt (α := Int32) (if x1 = 0 then x2 else x3) fun v1 =>
  some (v1, σ)
def F_X5_keepsOf_15 (c2 : Int32 → Int32 → tn_M → Option (Int32 × tn_M)) : Nat → Int32 → Int32 → Int32 → tn_M → Option (Int32 × tn_M)
  | 0, _, _, _, _ => none
  | tn_n + 1, x1, x2, x3, σ => 
    if (σ.1 5 8) ≤ x3 then
      c2 x1 (x2 + 1) σ
    else
      tn_bd (f_X5_answerOf x3 σ) fun r2 σ1 =>
      tn_bd (f_X5_earnsBy x3 r2 σ1) fun r4 σ3 =>
      tn_ck x3 5 <|
      tn_bd (f_X5_earnsBy x3 (σ3.1 44 (tn_x x3)) σ3) fun r6 σ5 =>
      if r4 ≤ r6 then
        F_X5_keepsOf_15 c2 tn_n x1 x2 (x3 + 1) σ5
      else
        F_X5_keepsOf_48 x1 x2 x3 σ5
def F_X5_keepsOf_2  : Nat → Int32 → Int32 → tn_M → Option (Int32 × tn_M)
  | 0, _, _, _ => none
  | tn_n + 1, x1, x2, σ => 
    if 6 ≤ x2 then
      some ((-1), σ)
    else
      tn_bd (f_X5_layTurn x2 σ) fun _ σ1 =>
      F_X5_keepsOf_15 (fun z0 z1 zs => F_X5_keepsOf_2 tn_n z0 z1 zs) tn_fuel x1 x2 0 σ1
def f_X5_keepsOf  (a1 : Int32) (σ : tn_M) : Option (Int32 × tn_M) :=
  F_X5_keepsOf_2 tn_fuel a1 0 σ
set_option maxHeartbeats 4000000 in
set_option maxRecDepth 20000 in
theorem b_X5_keepsOf_48 {E : tn_E} {G : tn_G} (g : tn_Ok E G cX5_keepsOf RX5 4 (tn_rm 7 159)) (o : tn_Om E G (some .int))  (x1 : Int32) (x2 : Int32) (x3 : Int32) (σ : tn_M) : tn_V E G tn_ie 48 [(1, .int x1), (2, .int x2), (3, .int x3)] [] σ (F_X5_keepsOf_48 x1 x2 x3 σ) := by
  unfold F_X5_keepsOf_48
  refine tr_iload_n g 0 49 dX5_keepsOf_48 rfl rfl rfl ?_
  refine tr_if_neD (inj := fun z => Value.int z) g 57 56 52 dX5_keepsOf_49 rfl rfl (fun rs hj => ?_) (fun rs hj => ?_) (fun v1 => ?_)
  · refine tr_iload_n g 2 57 dX5_keepsOf_56 rfl rfl rfl ?_
    exact hj
  · refine tr_iload_n g 1 53 dX5_keepsOf_52 rfl rfl rfl ?_
    refine tr_goto g 57 dX5_keepsOf_53 rfl ?_
    exact hj
  · exact tr_iret g o dX5_keepsOf_57
set_option maxHeartbeats 4000000 in
set_option maxRecDepth 20000 in
theorem b_X5_keepsOf_15 {E : tn_E} {G : tn_G} (g : tn_Ok E G cX5_keepsOf RX5 4 (tn_rm 7 159)) (o : tn_Om E G (some .int)) (c2 : Int32 → Int32 → tn_M → Option (Int32 × tn_M)) (hc2 : ∀ (x1 : Int32) (x2 : Int32) (σ : tn_M), tn_V E G tn_ie 2 [(0, .ref (tn_ad E 5)), (1, .int x1), (2, .int x2)] [] σ (c2 x1 x2 σ)) : ∀ (n : Nat) (x1 : Int32) (x2 : Int32) (x3 : Int32) (σ : tn_M), tn_V E G tn_ie 15 [(0, .ref (tn_ad E 5)), (1, .int x1), (2, .int x2), (3, .int x3)] [] σ (F_X5_keepsOf_15 c2 n x1 x2 x3 σ) := by
  intro n
  induction n with
  | zero => intros; exact tr_none
  | succ tn_n ih =>
    intro x1 x2 x3 σ
    rw [F_X5_keepsOf_15]
    refine tr_iload_n g 3 16 dX5_keepsOf_15 rfl rfl rfl ?_
    refine tr_aload_n g 0 17 dX5_keepsOf_16 rfl rfl rfl ?_
    refine gf_X5_8 g wd_712 20 dX5_keepsOf_17 rfl ?_
    refine tr_icmp_ge g 64 23 dX5_keepsOf_20 rfl rfl ?_ ?_
    · refine tr_iinc (lv' := [(2, .int (x2 + 1)), (0, .ref (tn_ad E 5)), (1, .int x1), (3, .int x3)]) (x := (x2 + 1)) g 2 67 dX5_keepsOf_64 rfl rfl rfl (by decide) rfl ?_
      refine tr_goto g 2 dX5_keepsOf_67 rfl ?_
      refine tr_sub [1, 2, 0] (lv' := [(0, .ref (tn_ad E 5)), (1, .int x1), (2, .int (x2 + 1))]) rfl ?_
      exact hc2 _ _ _
    · refine tr_aload_n g 0 24 dX5_keepsOf_23 rfl rfl rfl ?_
      refine tr_iload_n g 3 25 dX5_keepsOf_24 rfl rfl rfl ?_
      refine tr_aload_n g 0 26 dX5_keepsOf_25 rfl rfl rfl ?_
      refine tr_iload_n g 3 27 dX5_keepsOf_26 rfl rfl rfl ?_
      refine kv_X5_answerOf g wd_985 ⟨Nat.le_of_ble_eq_true rfl, Nat.le_of_ble_eq_true rfl⟩ (Nat.le_of_ble_eq_true rfl) 30 dX5_keepsOf_27 rfl (fun r2 σ1 => ?_)
      refine kv_X5_earnsBy g wd_989 ⟨Nat.le_of_ble_eq_true rfl, Nat.le_of_ble_eq_true rfl⟩ (Nat.le_of_ble_eq_true rfl) 33 dX5_keepsOf_30 rfl (fun r4 σ3 => ?_)
      refine tr_aload_n g 0 34 dX5_keepsOf_33 rfl rfl rfl ?_
      refine tr_iload_n g 3 35 dX5_keepsOf_34 rfl rfl rfl ?_
      refine tr_aload_n g 0 36 dX5_keepsOf_35 rfl rfl rfl ?_
      refine gf_X5_16 g wd_720 39 dX5_keepsOf_36 rfl ?_
      refine tr_iload_n g 3 40 dX5_keepsOf_39 rfl rfl rfl ?_
      refine tr_iald (N := 5) g 41 rfl rfl dX5_keepsOf_40 rfl ?_
      refine kv_X5_earnsBy g wd_989 ⟨Nat.le_of_ble_eq_true rfl, Nat.le_of_ble_eq_true rfl⟩ (Nat.le_of_ble_eq_true rfl) 44 dX5_keepsOf_41 rfl (fun r6 σ5 => ?_)
      refine tr_lle g 58 48 dX5_keepsOf_44 dX5_keepsOf_45 rfl rfl ?_ ?_
      · refine tr_iinc (lv' := [(3, .int (x3 + 1)), (0, .ref (tn_ad E 5)), (1, .int x1), (2, .int x2)]) (x := (x3 + 1)) g 3 61 dX5_keepsOf_58 rfl rfl rfl (by decide) rfl ?_
        refine tr_goto g 15 dX5_keepsOf_61 rfl ?_
        refine tr_sub [1, 2, 3, 0] (lv' := [(0, .ref (tn_ad E 5)), (1, .int x1), (2, .int x2), (3, .int (x3 + 1))]) rfl ?_
        exact ih _ _ _ _
      · refine tr_sub [1, 2, 3] (lv' := [(1, .int x1), (2, .int x2), (3, .int x3)]) rfl ?_
        exact b_X5_keepsOf_48 g o  _ _ _ _
set_option maxHeartbeats 4000000 in
set_option maxRecDepth 20000 in
theorem b_X5_keepsOf_2 {E : tn_E} {G : tn_G} (g : tn_Ok E G cX5_keepsOf RX5 4 (tn_rm 7 159)) (o : tn_Om E G (some .int))  : ∀ (n : Nat) (x1 : Int32) (x2 : Int32) (σ : tn_M), tn_V E G tn_ie 2 [(0, .ref (tn_ad E 5)), (1, .int x1), (2, .int x2)] [] σ (F_X5_keepsOf_2 n x1 x2 σ) := by
  intro n
  induction n with
  | zero => intros; exact tr_none
  | succ tn_n ih =>
    intro x1 x2 σ
    rw [F_X5_keepsOf_2]
    refine tr_iload_n g 2 3 dX5_keepsOf_2 rfl rfl rfl ?_
    refine tr_bipush (v := 6) g 5 dX5_keepsOf_3 rfl rfl ?_
    refine tr_icmp_ge g 70 8 dX5_keepsOf_5 rfl rfl ?_ ?_
    · refine tr_iconst (v := (-1)) g 71 dX5_keepsOf_70 rfl rfl ?_
      exact tr_iret g o dX5_keepsOf_71
    · refine tr_aload_n g 0 9 dX5_keepsOf_8 rfl rfl rfl ?_
      refine tr_iload_n g 2 10 dX5_keepsOf_9 rfl rfl rfl ?_
      refine kv_X5_layTurn g wd_1074 ⟨Nat.le_of_ble_eq_true rfl, Nat.le_of_ble_eq_true rfl⟩ (Nat.le_of_ble_eq_true rfl) 13 dX5_keepsOf_10 rfl (fun _ σ1 => ?_)
      refine tr_iconst (v := 0) g 14 dX5_keepsOf_13 rfl rfl ?_
      refine tr_istore_n (lv' := [(3, .int 0), (0, .ref (tn_ad E 5)), (1, .int x1), (2, .int x2)]) g 15 dX5_keepsOf_14 rfl rfl (by decide) rfl ?_
      refine tr_sub [1, 2, 3, 0] (lv' := [(0, .ref (tn_ad E 5)), (1, .int x1), (2, .int x2), (3, .int 0)]) rfl ?_
      exact b_X5_keepsOf_15 g o (fun z0 z1 zs => F_X5_keepsOf_2 tn_n z0 z1 zs) (fun z0 z1 zs => ih z0 z1 zs) tn_fuel _ _ _ _
set_option maxHeartbeats 4000000 in
set_option maxRecDepth 20000 in
theorem b_X5_keepsOf {E : tn_E} {G : tn_G} (g : tn_Ok E G cX5_keepsOf RX5 4 (tn_rm 7 159)) (o : tn_Om E G (some .int))  (a1 : Int32) (σ : tn_M) : tn_V E G tn_ie 0 [(0, .ref (tn_ad E 5)), (1, .int a1)] [] σ (f_X5_keepsOf a1 σ) := by
  unfold f_X5_keepsOf
  refine tr_iconst (v := 0) g 1 dX5_keepsOf_0 rfl rfl ?_
  refine tr_istore_n (lv' := [(2, .int 0), (0, .ref (tn_ad E 5)), (1, .int a1)]) g 2 dX5_keepsOf_1 rfl rfl (by decide) rfl ?_
  refine tr_sub [1, 2, 0] (lv' := [(0, .ref (tn_ad E 5)), (1, .int a1), (2, .int 0)]) rfl ?_
  exact b_X5_keepsOf_2 g o  tn_fuel _ _ _
theorem ok_X5_keepsOf {E : tn_E} {l : Launch}   (a1 : Int32) {σ : tn_M} {r : Int32} {σ' : tn_M} (h : f_X5_keepsOf a1 σ = some (r, σ')) : tn_C E l yX5_keepsOf cX5_keepsOf 4 (some .int) (tn_rm 7 159) [.ref (tn_ad E 5), .int a1] σ (tn_ie r) σ' :=
  tn_met (by decide) (Nat.le_of_ble_eq_true rfl) (fun G _ g o => b_X5_keepsOf g o  a1 σ) h
theorem yy_X5_keepsOf : tn_Yv RX5 yX5_keepsOf cX5_keepsOf 4 (some .int) 1 := ⟨wd_1073, wd_1072, wd_58, wd_70, by decide, by decide, by decide +kernel⟩
theorem kv_X5_keepsOf {E : tn_E} {G : tn_G} {cc : ByteArray} {own : String} {nL : Nat} {R : Room} {ρ : Type} {enc : ρ → Option Value} {pc : Nat} {lv : List (Nat × Value)} {st : List Value} {σ : tn_M} {kk : Int32 → tn_M → Option (ρ × tn_M)} {i : Nat}  {a1 : Int32} (g : tn_Ok E G cc own nL R)  (hw : Cond.methodLink own i yX5_keepsOf ∈ tn_T) (hroom : 8 ≤ R.frames ∧ 182 ≤ R.locals) (hW : (st.map fun v => v.category).sum ≤ 8) (n : Nat) (hd : decode cc pc = .ok (.invokevirtual i, 3)) (hn : pc + 3 = n) (k : ∀ r σ1, tn_V E G enc n lv (.int r :: st) σ1 (kk r σ1)) : tn_V E G enc pc lv (.int a1 :: .ref (tn_ad E 5) :: st) σ (tn_bd (f_X5_keepsOf a1 σ) kk) :=
  tr_callV (As := [.int a1]) (enc1 := tn_ie) g yy_X5_keepsOf hw (ci := 5) rfl (by decide) rfl (fun r σ1 h => ok_X5_keepsOf  a1 h) ⟨rfl, rfl⟩ ⟨hroom.1, by have h2 := hroom.2; show 8 + (4 + 11) + 159 ≤ R.locals; omega⟩ rfl rfl hW n hd hn k
/-! X5_keeps -/
def f_X5_keeps  (a1 : Int32) (σ : tn_M) : Option (Int32 × tn_M) :=
  tn_bd (f_X5_isTwo a1 σ) fun r2 σ1 =>
  if r2 = 0 then
    some ((-2), σ1)
  else
    tn_bd (f_X5_keepsOf a1 σ1) fun r4 σ3 =>
    some (r4, σ3)
set_option maxHeartbeats 4000000 in
set_option maxRecDepth 20000 in
theorem b_X5_keeps {E : tn_E} {G : tn_G} (g : tn_Ok E G cX5_keeps RX5 2 (tn_rm 8 182)) (o : tn_Om E G (some .int))  (a1 : Int32) (σ : tn_M) : tn_V E G tn_ie 0 [(0, .ref (tn_ad E 5)), (1, .int a1)] [] σ (f_X5_keeps a1 σ) := by
  unfold f_X5_keeps
  refine tr_iload_n g 1 1 dX5_keeps_0 rfl rfl rfl ?_
  refine kv_X5_isTwo g wd_924 ⟨Nat.le_of_ble_eq_true rfl, Nat.le_of_ble_eq_true rfl⟩ (Nat.le_of_ble_eq_true rfl) 4 dX5_keeps_1 rfl (fun r2 σ1 => ?_)
  refine tr_if_eq g 15 7 dX5_keeps_4 rfl rfl ?_ ?_
  · refine tr_bipush (v := (-2)) g 17 dX5_keeps_15 rfl rfl ?_
    exact tr_iret g o dX5_keeps_17
  · refine tr_aload_n g 0 8 dX5_keeps_7 rfl rfl rfl ?_
    refine tr_iload_n g 1 9 dX5_keeps_8 rfl rfl rfl ?_
    refine kv_X5_keepsOf g wd_1070 ⟨Nat.le_of_ble_eq_true rfl, Nat.le_of_ble_eq_true rfl⟩ (Nat.le_of_ble_eq_true rfl) 12 dX5_keeps_9 rfl (fun r4 σ3 => ?_)
    refine tr_goto g 17 dX5_keeps_12 rfl ?_
    exact tr_iret g o dX5_keeps_17
theorem ok_X5_keeps {E : tn_E} {l : Launch}   (a1 : Int32) {σ : tn_M} {r : Int32} {σ' : tn_M} (h : f_X5_keeps a1 σ = some (r, σ')) : tn_C E l yX5_keeps cX5_keeps 2 (some .int) (tn_rm 8 182) [.ref (tn_ad E 5), .int a1] σ (tn_ie r) σ' :=
  tn_met (by decide) (Nat.le_of_ble_eq_true rfl) (fun G _ g o => b_X5_keeps g o  a1 σ) h
theorem yy_X5_keeps : tn_Yv RX5 yX5_keeps cX5_keeps 2 (some .int) 1 := ⟨wd_1069, wd_1067, wd_1068, wd_70, by decide, by decide, by decide +kernel⟩
theorem kv_X5_keeps {E : tn_E} {G : tn_G} {cc : ByteArray} {own : String} {nL : Nat} {R : Room} {ρ : Type} {enc : ρ → Option Value} {pc : Nat} {lv : List (Nat × Value)} {st : List Value} {σ : tn_M} {kk : Int32 → tn_M → Option (ρ × tn_M)} {i : Nat}  {a1 : Int32} (g : tn_Ok E G cc own nL R)  (hw : Cond.methodLink own i yX5_keeps ∈ tn_T) (hroom : 9 ≤ R.frames ∧ 203 ≤ R.locals) (hW : (st.map fun v => v.category).sum ≤ 8) (n : Nat) (hd : decode cc pc = .ok (.invokevirtual i, 3)) (hn : pc + 3 = n) (k : ∀ r σ1, tn_V E G enc n lv (.int r :: st) σ1 (kk r σ1)) : tn_V E G enc pc lv (.int a1 :: .ref (tn_ad E 5) :: st) σ (tn_bd (f_X5_keeps a1 σ) kk) :=
  tr_callV (As := [.int a1]) (enc1 := tn_ie) g yy_X5_keeps hw (ci := 5) rfl (by decide) rfl (fun r σ1 h => ok_X5_keeps  a1 h) ⟨rfl, rfl⟩ ⟨hroom.1, by have h2 := hroom.2; show 8 + (2 + 11) + 182 ≤ R.locals; omega⟩ rfl rfl hW n hd hn k
/-! X5_week -/
def F_X5_week_58  (x2 : Int32) (x3 : Int64) (σ : tn_M) : Option (Int64 × tn_M) :=
  tn_bd (f_X5_part x3 11808276480 x2 σ) fun r2 σ1 =>
  some (r2, σ1)
def F_X5_week_26  : Nat → Int32 → Int32 → Int64 → Int32 → tn_M → Option (Int64 × tn_M)
  | 0, _, _, _, _, _ => none
  | tn_n + 1, x1, x2, x3, x5, σ => 
    if 6 ≤ x5 then
      F_X5_week_58 x2 x3 σ
    else
      tn_bd (f_X5_layTurn x5 σ) fun _ σ1 =>
      tn_bd (f_X5_earnAll σ1) fun _ σ2 =>
      tn_ck x1 5 <|
      tn_lt (α := Int64) (x3 + (σ2.2 47 (tn_x x1))) fun w3 =>
      F_X5_week_26 tn_n x1 x2 w3 (x5 + 1) σ2
def F_X5_week_15   (σ : tn_M) : Option (Int64 × tn_M) :=
  tn_bd (f_X5_no (-2) σ) fun r2 σ1 =>
  some (r2, σ1)
def f_X5_week  (a1 : Int32) (a2 : Int32) (σ : tn_M) : Option (Int64 × tn_M) :=
  tn_bd (f_X5_isShop a1 σ) fun r2 σ1 =>
  if r2 = 0 then
    F_X5_week_15 σ1
  else
    tn_bd (f_X5_isTwo a2 σ1) fun r4 σ3 =>
    if r4 = 0 then
      F_X5_week_15 σ3
    else
      F_X5_week_26 tn_fuel a1 a2 0 0 σ3
set_option maxHeartbeats 4000000 in
set_option maxRecDepth 20000 in
theorem b_X5_week_58 {E : tn_E} {G : tn_G} (g : tn_Ok E G cX5_week RX5 6 (tn_rm 7 159)) (o : tn_Om E G (some .long))  (x2 : Int32) (x3 : Int64) (σ : tn_M) : tn_V E G tn_le 58 [(2, .int x2), (3, .long x3)] [] σ (F_X5_week_58 x2 x3 σ) := by
  unfold F_X5_week_58
  refine tr_lload_n g 1 59 dX5_week_58 rfl rfl rfl ?_
  refine tr_ldc2 (v := 11808276480) g wd_953 62 dX5_week_59 rfl ?_
  refine tr_iload_n g 0 63 dX5_week_62 rfl rfl rfl ?_
  refine kv_X5_part g wd_955 ⟨Nat.le_of_ble_eq_true rfl, Nat.le_of_ble_eq_true rfl⟩ (Nat.le_of_ble_eq_true rfl) 66 dX5_week_63 rfl (fun r2 σ1 => ?_)
  exact tr_lret g o dX5_week_66
set_option maxHeartbeats 4000000 in
set_option maxRecDepth 20000 in
theorem b_X5_week_26 {E : tn_E} {G : tn_G} (g : tn_Ok E G cX5_week RX5 6 (tn_rm 7 159)) (o : tn_Om E G (some .long))  : ∀ (n : Nat) (x1 : Int32) (x2 : Int32) (x3 : Int64) (x5 : Int32) (σ : tn_M), tn_V E G tn_le 26 [(0, .ref (tn_ad E 5)), (1, .int x1), (2, .int x2), (3, .long x3), (5, .int x5)] [] σ (F_X5_week_26 n x1 x2 x3 x5 σ) := by
  intro n
  induction n with
  | zero => intros; exact tr_none
  | succ tn_n ih =>
    intro x1 x2 x3 x5 σ
    rw [F_X5_week_26]
    refine tr_iload g 4 28 dX5_week_26 rfl rfl ?_
    refine tr_bipush (v := 6) g 30 dX5_week_28 rfl rfl ?_
    refine tr_icmp_ge g 58 33 dX5_week_30 rfl rfl ?_ ?_
    · refine tr_sub [2, 3] (lv' := [(2, .int x2), (3, .long x3)]) rfl ?_
      exact b_X5_week_58 g o  _ _ _
    · refine tr_aload_n g 0 34 dX5_week_33 rfl rfl rfl ?_
      refine tr_iload g 4 36 dX5_week_34 rfl rfl ?_
      refine kv_X5_layTurn g wd_1074 ⟨Nat.le_of_ble_eq_true rfl, Nat.le_of_ble_eq_true rfl⟩ (Nat.le_of_ble_eq_true rfl) 39 dX5_week_36 rfl (fun _ σ1 => ?_)
      refine tr_aload_n g 0 40 dX5_week_39 rfl rfl rfl ?_
      refine kv_X5_earnAll g wd_931 ⟨Nat.le_of_ble_eq_true rfl, Nat.le_of_ble_eq_true rfl⟩ (Nat.le_of_ble_eq_true rfl) 43 dX5_week_40 rfl (fun _ σ2 => ?_)
      refine tr_lload_n g 3 44 dX5_week_43 rfl rfl rfl ?_
      refine tr_aload_n g 0 45 dX5_week_44 rfl rfl rfl ?_
      refine gf_X5_22 g wd_726 48 dX5_week_45 rfl ?_
      refine tr_iload_n g 1 49 dX5_week_48 rfl rfl rfl ?_
      refine tr_lald (N := 5) g 50 rfl rfl dX5_week_49 rfl ?_
      refine tr_ladd g 51 dX5_week_50 rfl ?_
      refine tr_ltl (fun w3 => ?_)
      refine tr_lstore_n (lv' := [(3, .long w3), (0, .ref (tn_ad E 5)), (1, .int x1), (2, .int x2), (5, .int x5)]) g 52 dX5_week_51 rfl rfl (by decide) rfl ?_
      refine tr_iinc (lv' := [(5, .int (x5 + 1)), (3, .long w3), (0, .ref (tn_ad E 5)), (1, .int x1), (2, .int x2)]) (x := (x5 + 1)) g 4 55 dX5_week_52 rfl rfl rfl (by decide) rfl ?_
      refine tr_goto g 26 dX5_week_55 rfl ?_
      refine tr_sub [2, 3, 4, 1, 0] (lv' := [(0, .ref (tn_ad E 5)), (1, .int x1), (2, .int x2), (3, .long w3), (5, .int (x5 + 1))]) rfl ?_
      exact ih _ _ _ _ _
set_option maxHeartbeats 4000000 in
set_option maxRecDepth 20000 in
theorem b_X5_week_15 {E : tn_E} {G : tn_G} (g : tn_Ok E G cX5_week RX5 6 (tn_rm 7 159)) (o : tn_Om E G (some .long))   (σ : tn_M) : tn_V E G tn_le 15 [] [] σ (F_X5_week_15 σ) := by
  unfold F_X5_week_15
  refine tr_bipush (v := (-2)) g 17 dX5_week_15 rfl rfl ?_
  refine kv_X5_no g wd_961 ⟨Nat.le_of_ble_eq_true rfl, Nat.le_of_ble_eq_true rfl⟩ (Nat.le_of_ble_eq_true rfl) 20 dX5_week_17 rfl (fun r2 σ1 => ?_)
  exact tr_lret g o dX5_week_20
set_option maxHeartbeats 4000000 in
set_option maxRecDepth 20000 in
theorem b_X5_week {E : tn_E} {G : tn_G} (g : tn_Ok E G cX5_week RX5 6 (tn_rm 7 159)) (o : tn_Om E G (some .long))  (a1 : Int32) (a2 : Int32) (σ : tn_M) : tn_V E G tn_le 0 [(0, .ref (tn_ad E 5)), (1, .int a1), (2, .int a2)] [] σ (f_X5_week a1 a2 σ) := by
  unfold f_X5_week
  refine tr_aload_n g 0 1 dX5_week_0 rfl rfl rfl ?_
  refine tr_iload_n g 1 2 dX5_week_1 rfl rfl rfl ?_
  refine kv_X5_isShop g wd_877 ⟨Nat.le_of_ble_eq_true rfl, Nat.le_of_ble_eq_true rfl⟩ (Nat.le_of_ble_eq_true rfl) 5 dX5_week_2 rfl (fun r2 σ1 => ?_)
  refine tr_if_eq g 15 8 dX5_week_5 rfl rfl ?_ ?_
  · refine tr_sub [] (lv' := []) rfl ?_
    exact b_X5_week_15 g o  _
  · refine tr_iload_n g 2 9 dX5_week_8 rfl rfl rfl ?_
    refine kv_X5_isTwo g wd_924 ⟨Nat.le_of_ble_eq_true rfl, Nat.le_of_ble_eq_true rfl⟩ (Nat.le_of_ble_eq_true rfl) 12 dX5_week_9 rfl (fun r4 σ3 => ?_)
    refine tr_if_ne g 21 15 dX5_week_12 rfl rfl ?_ ?_
    · refine tr_lconst (v := 0) g 22 dX5_week_21 rfl rfl ?_
      refine tr_lstore_n (lv' := [(3, .long 0), (0, .ref (tn_ad E 5)), (1, .int a1), (2, .int a2)]) g 23 dX5_week_22 rfl rfl (by decide) rfl ?_
      refine tr_iconst (v := 0) g 24 dX5_week_23 rfl rfl ?_
      refine tr_istore (lv' := [(5, .int 0), (3, .long 0), (0, .ref (tn_ad E 5)), (1, .int a1), (2, .int a2)]) g 26 dX5_week_24 rfl (by decide) rfl ?_
      refine tr_sub [2, 3, 4, 1, 0] (lv' := [(0, .ref (tn_ad E 5)), (1, .int a1), (2, .int a2), (3, .long 0), (5, .int 0)]) rfl ?_
      exact b_X5_week_26 g o  tn_fuel _ _ _ _ _
    · refine tr_sub [] (lv' := []) rfl ?_
      exact b_X5_week_15 g o  _
theorem ok_X5_week {E : tn_E} {l : Launch}   (a1 : Int32) (a2 : Int32) {σ : tn_M} {r : Int64} {σ' : tn_M} (h : f_X5_week a1 a2 σ = some (r, σ')) : tn_C E l yX5_week cX5_week 6 (some .long) (tn_rm 7 159) [.ref (tn_ad E 5), .int a1, .int a2] σ (tn_le r) σ' :=
  tn_met (by decide) (Nat.le_of_ble_eq_true rfl) (fun G _ g o => b_X5_week g o  a1 a2 σ) h
theorem yy_X5_week : tn_Yv RX5 yX5_week cX5_week 6 (some .long) 2 := ⟨wd_1081, wd_1079, wd_1080, wd_70, by decide, by decide, by decide +kernel⟩
theorem kv_X5_week {E : tn_E} {G : tn_G} {cc : ByteArray} {own : String} {nL : Nat} {R : Room} {ρ : Type} {enc : ρ → Option Value} {pc : Nat} {lv : List (Nat × Value)} {st : List Value} {σ : tn_M} {kk : Int64 → tn_M → Option (ρ × tn_M)} {i : Nat}  {a1 : Int32} {a2 : Int32} (g : tn_Ok E G cc own nL R)  (hw : Cond.methodLink own i yX5_week ∈ tn_T) (hroom : 8 ≤ R.frames ∧ 184 ≤ R.locals) (hW : (st.map fun v => v.category).sum ≤ 8) (n : Nat) (hd : decode cc pc = .ok (.invokevirtual i, 3)) (hn : pc + 3 = n) (k : ∀ r σ1, tn_V E G enc n lv (.long r :: st) σ1 (kk r σ1)) : tn_V E G enc pc lv (.int a2 :: .int a1 :: .ref (tn_ad E 5) :: st) σ (tn_bd (f_X5_week a1 a2 σ) kk) :=
  tr_callV (As := [.int a1, .int a2]) (enc1 := tn_le) g yy_X5_week hw (ci := 5) rfl (by decide) rfl (fun r σ1 h => ok_X5_week  a1 a2 h) ⟨rfl, rfl⟩ ⟨hroom.1, by have h2 := hroom.2; show 8 + (6 + 11) + 159 ≤ R.locals; omega⟩ rfl rfl hW n hd hn k
/-! X5_weekGoes -/
def F_X5_weekGoes_110 (c59 : Int32 → tn_M → Option (Unit × tn_M)) (x1 : Int32) (y1 : Int32) (y2 : Int32) (σ : tn_M) : Option (Unit × tn_M) :=
  tn_ck y1 4 <|
  tn_lt (tn_si σ 45 (tn_x y1) y2) fun σ1 =>
  c59 (x1 + 1) σ1
def F_X5_weekGoes_59  : Nat → Int32 → tn_M → Option (Unit × tn_M)
  | 0, _, _ => none
  | tn_n + 1, x1, σ => 
    if 4 ≤ x1 then
      some ((), σ)
    else
      tn_ck x1 4 <|
      tn_bd (f_X5_openIn x1 σ) fun r2 σ1 =>
      tn_lt (α := Int32) (if r2 = 0 then (-1) else 1) fun v3 =>
      tn_lt (α := Int32) ((σ.1 45 (tn_x x1)) + v3) fun w4 =>
      if 0 ≤ w4 then
        if w4 ≤ 8 then
          F_X5_weekGoes_110 (fun z0 zs => F_X5_weekGoes_59 tn_n z0 zs) x1 x1 w4 σ1
        else
          F_X5_weekGoes_110 (fun z0 zs => F_X5_weekGoes_59 tn_n z0 zs) x1 x1 8 σ1
      else
        F_X5_weekGoes_110 (fun z0 zs => F_X5_weekGoes_59 tn_n z0 zs) x1 x1 0 σ1
def F_X5_weekGoes_57   (σ : tn_M) : Option (Unit × tn_M) :=
  F_X5_weekGoes_59 tn_fuel 1 σ
def F_X5_weekGoes_34  : Nat → Int32 → tn_M → Option (Unit × tn_M)
  | 0, _, _ => none
  | tn_n + 1, x1, σ => 
    if 5 ≤ x1 then
      F_X5_weekGoes_57 σ
    else
      tn_ck x1 5 <|
      tn_ck x1 5 <|
      tn_lt (tn_si σ 44 (tn_x x1) (σ.1 48 (tn_x x1))) fun σ1 =>
      F_X5_weekGoes_34 tn_n (x1 + 1) σ1
def F_X5_weekGoes_25   (σ : tn_M) : Option (Unit × tn_M) :=
  tn_bd (f_X5_runsDown σ) fun r2 σ1 =>
  if r2 = 0 then
    F_X5_weekGoes_34 tn_fuel 0 σ1
  else
    F_X5_weekGoes_57 σ1
def F_X5_weekGoes_2  : Nat → Int32 → tn_M → Option (Unit × tn_M)
  | 0, _, _ => none
  | tn_n + 1, x1, σ => 
    if 5 ≤ x1 then
      F_X5_weekGoes_25 σ
    else
      tn_ck x1 5 <|
      tn_ck x1 5 <|
      tn_lt (tn_si σ 48 (tn_x x1) (σ.1 44 (tn_x x1))) fun σ1 =>
      F_X5_weekGoes_2 tn_n (x1 + 1) σ1
def f_X5_weekGoes   (σ : tn_M) : Option (Unit × tn_M) :=
  F_X5_weekGoes_2 tn_fuel 0 σ
set_option maxHeartbeats 4000000 in
set_option maxRecDepth 20000 in
theorem b_X5_weekGoes_110 {E : tn_E} {G : tn_G} (g : tn_Ok E G cX5_weekGoes RX5 3 (tn_rm 8 200)) (o : tn_Om E G none) (c59 : Int32 → tn_M → Option (Unit × tn_M)) (hc59 : ∀ (x1 : Int32) (σ : tn_M), tn_V E G tn_ve 59 [(0, .ref (tn_ad E 5)), (1, .int x1)] [] σ (c59 x1 σ)) (x1 : Int32) (y1 : Int32) (y2 : Int32) (σ : tn_M) : tn_V E G tn_ve 110 [(0, .ref (tn_ad E 5)), (1, .int x1)] [.int y2, .int y1, .ref (tn_ad E 45)] σ (F_X5_weekGoes_110 c59 x1 y1 y2 σ) := by
  unfold F_X5_weekGoes_110
  refine tr_iast (N := 4) g 111 rfl rfl dX5_weekGoes_110 rfl (fun σ1 => ?_)
  refine tr_iinc (lv' := [(1, .int (x1 + 1)), (0, .ref (tn_ad E 5))]) (x := (x1 + 1)) g 1 114 dX5_weekGoes_111 rfl rfl rfl (by decide) rfl ?_
  refine tr_goto g 59 dX5_weekGoes_114 rfl ?_
  refine tr_sub [1, 0] (lv' := [(0, .ref (tn_ad E 5)), (1, .int (x1 + 1))]) rfl ?_
  exact hc59 _ _
set_option maxHeartbeats 4000000 in
set_option maxRecDepth 20000 in
theorem b_X5_weekGoes_59 {E : tn_E} {G : tn_G} (g : tn_Ok E G cX5_weekGoes RX5 3 (tn_rm 8 200)) (o : tn_Om E G none)  : ∀ (n : Nat) (x1 : Int32) (σ : tn_M), tn_V E G tn_ve 59 [(0, .ref (tn_ad E 5)), (1, .int x1)] [] σ (F_X5_weekGoes_59 n x1 σ) := by
  intro n
  induction n with
  | zero => intros; exact tr_none
  | succ tn_n ih =>
    intro x1 σ
    rw [F_X5_weekGoes_59]
    refine tr_iload_n g 1 60 dX5_weekGoes_59 rfl rfl rfl ?_
    refine tr_iconst (v := 4) g 61 dX5_weekGoes_60 rfl rfl ?_
    refine tr_icmp_ge g 117 64 dX5_weekGoes_61 rfl rfl ?_ ?_
    · exact tr_vret g o dX5_weekGoes_117
    · refine tr_aload_n g 0 65 dX5_weekGoes_64 rfl rfl rfl ?_
      refine gf_X5_17 g wd_721 68 dX5_weekGoes_65 rfl ?_
      refine tr_iload_n g 1 69 dX5_weekGoes_68 rfl rfl rfl ?_
      refine tr_iald (N := 4) g 70 rfl rfl dX5_weekGoes_69 rfl ?_
      refine tr_aload_n g 0 71 dX5_weekGoes_70 rfl rfl rfl ?_
      refine tr_iload_n g 1 72 dX5_weekGoes_71 rfl rfl rfl ?_
      refine kv_X5_openIn g wd_916 ⟨Nat.le_of_ble_eq_true rfl, Nat.le_of_ble_eq_true rfl⟩ (Nat.le_of_ble_eq_true rfl) 75 dX5_weekGoes_72 rfl (fun r2 σ1 => ?_)
      refine tr_if_eqD (inj := fun z => Value.int z) g 83 82 78 dX5_weekGoes_75 rfl rfl (fun rs hj => ?_) (fun rs hj => ?_) (fun v3 => ?_)
      · refine tr_iconst (v := (-1)) g 83 dX5_weekGoes_82 rfl rfl ?_
        exact hj
      · refine tr_iconst (v := 1) g 79 dX5_weekGoes_78 rfl rfl ?_
        refine tr_goto g 83 dX5_weekGoes_79 rfl ?_
        exact hj
      · refine tr_iadd g 84 dX5_weekGoes_83 rfl ?_
        refine tr_lti (fun w4 => ?_)
        refine tr_istore_n (lv' := [(2, .int w4), (0, .ref (tn_ad E 5)), (1, .int x1)]) g 85 dX5_weekGoes_84 rfl rfl (by decide) rfl ?_
        refine tr_aload_n g 1 86 dX5_weekGoes_85 rfl rfl rfl ?_
        refine gf_X5_17 g wd_721 89 dX5_weekGoes_86 rfl ?_
        refine tr_iload_n g 2 90 dX5_weekGoes_89 rfl rfl rfl ?_
        refine tr_iload_n g 0 91 dX5_weekGoes_90 rfl rfl rfl ?_
        refine tr_if_ge g 98 94 dX5_weekGoes_91 rfl rfl ?_ ?_
        · refine tr_iload_n g 0 99 dX5_weekGoes_98 rfl rfl rfl ?_
          refine tr_bipush (v := 8) g 101 dX5_weekGoes_99 rfl rfl ?_
          refine tr_icmp_le g 109 104 dX5_weekGoes_101 rfl rfl ?_ ?_
          · refine tr_iload_n g 0 110 dX5_weekGoes_109 rfl rfl rfl ?_
            refine tr_sub [1, 2] (lv' := [(0, .ref (tn_ad E 5)), (1, .int x1)]) rfl ?_
            exact b_X5_weekGoes_110 g o (fun z0 zs => F_X5_weekGoes_59 tn_n z0 zs) (fun z0 zs => ih z0 zs) _ _ _ _
          · refine tr_bipush (v := 8) g 106 dX5_weekGoes_104 rfl rfl ?_
            refine tr_goto g 110 dX5_weekGoes_106 rfl ?_
            refine tr_sub [1, 2] (lv' := [(0, .ref (tn_ad E 5)), (1, .int x1)]) rfl ?_
            exact b_X5_weekGoes_110 g o (fun z0 zs => F_X5_weekGoes_59 tn_n z0 zs) (fun z0 zs => ih z0 zs) _ _ _ _
        · refine tr_iconst (v := 0) g 95 dX5_weekGoes_94 rfl rfl ?_
          refine tr_goto g 110 dX5_weekGoes_95 rfl ?_
          refine tr_sub [1, 2] (lv' := [(0, .ref (tn_ad E 5)), (1, .int x1)]) rfl ?_
          exact b_X5_weekGoes_110 g o (fun z0 zs => F_X5_weekGoes_59 tn_n z0 zs) (fun z0 zs => ih z0 zs) _ _ _ _
set_option maxHeartbeats 4000000 in
set_option maxRecDepth 20000 in
theorem b_X5_weekGoes_57 {E : tn_E} {G : tn_G} (g : tn_Ok E G cX5_weekGoes RX5 3 (tn_rm 8 200)) (o : tn_Om E G none)   (σ : tn_M) : tn_V E G tn_ve 57 [(0, .ref (tn_ad E 5))] [] σ (F_X5_weekGoes_57 σ) := by
  unfold F_X5_weekGoes_57
  refine tr_iconst (v := 1) g 58 dX5_weekGoes_57 rfl rfl ?_
  refine tr_istore_n (lv' := [(1, .int 1), (0, .ref (tn_ad E 5))]) g 59 dX5_weekGoes_58 rfl rfl (by decide) rfl ?_
  refine tr_sub [1, 0] (lv' := [(0, .ref (tn_ad E 5)), (1, .int 1)]) rfl ?_
  exact b_X5_weekGoes_59 g o  tn_fuel _ _
set_option maxHeartbeats 4000000 in
set_option maxRecDepth 20000 in
theorem b_X5_weekGoes_34 {E : tn_E} {G : tn_G} (g : tn_Ok E G cX5_weekGoes RX5 3 (tn_rm 8 200)) (o : tn_Om E G none)  : ∀ (n : Nat) (x1 : Int32) (σ : tn_M), tn_V E G tn_ve 34 [(0, .ref (tn_ad E 5)), (1, .int x1)] [] σ (F_X5_weekGoes_34 n x1 σ) := by
  intro n
  induction n with
  | zero => intros; exact tr_none
  | succ tn_n ih =>
    intro x1 σ
    rw [F_X5_weekGoes_34]
    refine tr_iload_n g 1 35 dX5_weekGoes_34 rfl rfl rfl ?_
    refine tr_iconst (v := 5) g 36 dX5_weekGoes_35 rfl rfl ?_
    refine tr_icmp_ge g 57 39 dX5_weekGoes_36 rfl rfl ?_ ?_
    · refine tr_sub [0] (lv' := [(0, .ref (tn_ad E 5))]) rfl ?_
      exact b_X5_weekGoes_57 g o  _
    · refine tr_aload_n g 0 40 dX5_weekGoes_39 rfl rfl rfl ?_
      refine gf_X5_16 g wd_720 43 dX5_weekGoes_40 rfl ?_
      refine tr_iload_n g 1 44 dX5_weekGoes_43 rfl rfl rfl ?_
      refine tr_aload_n g 0 45 dX5_weekGoes_44 rfl rfl rfl ?_
      refine gf_X5_26 g wd_730 48 dX5_weekGoes_45 rfl ?_
      refine tr_iload_n g 1 49 dX5_weekGoes_48 rfl rfl rfl ?_
      refine tr_iald (N := 5) g 50 rfl rfl dX5_weekGoes_49 rfl ?_
      refine tr_iast (N := 5) g 51 rfl rfl dX5_weekGoes_50 rfl (fun σ1 => ?_)
      refine tr_iinc (lv' := [(1, .int (x1 + 1)), (0, .ref (tn_ad E 5))]) (x := (x1 + 1)) g 1 54 dX5_weekGoes_51 rfl rfl rfl (by decide) rfl ?_
      refine tr_goto g 34 dX5_weekGoes_54 rfl ?_
      refine tr_sub [1, 0] (lv' := [(0, .ref (tn_ad E 5)), (1, .int (x1 + 1))]) rfl ?_
      exact ih _ _
set_option maxHeartbeats 4000000 in
set_option maxRecDepth 20000 in
theorem b_X5_weekGoes_25 {E : tn_E} {G : tn_G} (g : tn_Ok E G cX5_weekGoes RX5 3 (tn_rm 8 200)) (o : tn_Om E G none)   (σ : tn_M) : tn_V E G tn_ve 25 [(0, .ref (tn_ad E 5))] [] σ (F_X5_weekGoes_25 σ) := by
  unfold F_X5_weekGoes_25
  refine tr_aload_n g 0 26 dX5_weekGoes_25 rfl rfl rfl ?_
  refine kv_X5_runsDown g wd_1001 ⟨Nat.le_of_ble_eq_true rfl, Nat.le_of_ble_eq_true rfl⟩ (Nat.le_of_ble_eq_true rfl) 29 dX5_weekGoes_26 rfl (fun r2 σ1 => ?_)
  refine tr_if_ne g 57 32 dX5_weekGoes_29 rfl rfl ?_ ?_
  · exact b_X5_weekGoes_57 g o  _
  · refine tr_iconst (v := 0) g 33 dX5_weekGoes_32 rfl rfl ?_
    refine tr_istore_n (lv' := [(1, .int 0), (0, .ref (tn_ad E 5))]) g 34 dX5_weekGoes_33 rfl rfl (by decide) rfl ?_
    refine tr_sub [1, 0] (lv' := [(0, .ref (tn_ad E 5)), (1, .int 0)]) rfl ?_
    exact b_X5_weekGoes_34 g o  tn_fuel _ _
set_option maxHeartbeats 4000000 in
set_option maxRecDepth 20000 in
theorem b_X5_weekGoes_2 {E : tn_E} {G : tn_G} (g : tn_Ok E G cX5_weekGoes RX5 3 (tn_rm 8 200)) (o : tn_Om E G none)  : ∀ (n : Nat) (x1 : Int32) (σ : tn_M), tn_V E G tn_ve 2 [(0, .ref (tn_ad E 5)), (1, .int x1)] [] σ (F_X5_weekGoes_2 n x1 σ) := by
  intro n
  induction n with
  | zero => intros; exact tr_none
  | succ tn_n ih =>
    intro x1 σ
    rw [F_X5_weekGoes_2]
    refine tr_iload_n g 1 3 dX5_weekGoes_2 rfl rfl rfl ?_
    refine tr_iconst (v := 5) g 4 dX5_weekGoes_3 rfl rfl ?_
    refine tr_icmp_ge g 25 7 dX5_weekGoes_4 rfl rfl ?_ ?_
    · refine tr_sub [0] (lv' := [(0, .ref (tn_ad E 5))]) rfl ?_
      exact b_X5_weekGoes_25 g o  _
    · refine tr_aload_n g 0 8 dX5_weekGoes_7 rfl rfl rfl ?_
      refine gf_X5_26 g wd_730 11 dX5_weekGoes_8 rfl ?_
      refine tr_iload_n g 1 12 dX5_weekGoes_11 rfl rfl rfl ?_
      refine tr_aload_n g 0 13 dX5_weekGoes_12 rfl rfl rfl ?_
      refine gf_X5_16 g wd_720 16 dX5_weekGoes_13 rfl ?_
      refine tr_iload_n g 1 17 dX5_weekGoes_16 rfl rfl rfl ?_
      refine tr_iald (N := 5) g 18 rfl rfl dX5_weekGoes_17 rfl ?_
      refine tr_iast (N := 5) g 19 rfl rfl dX5_weekGoes_18 rfl (fun σ1 => ?_)
      refine tr_iinc (lv' := [(1, .int (x1 + 1)), (0, .ref (tn_ad E 5))]) (x := (x1 + 1)) g 1 22 dX5_weekGoes_19 rfl rfl rfl (by decide) rfl ?_
      refine tr_goto g 2 dX5_weekGoes_22 rfl ?_
      refine tr_sub [1, 0] (lv' := [(0, .ref (tn_ad E 5)), (1, .int (x1 + 1))]) rfl ?_
      exact ih _ _
set_option maxHeartbeats 4000000 in
set_option maxRecDepth 20000 in
theorem b_X5_weekGoes {E : tn_E} {G : tn_G} (g : tn_Ok E G cX5_weekGoes RX5 3 (tn_rm 8 200)) (o : tn_Om E G none)   (σ : tn_M) : tn_V E G tn_ve 0 [(0, .ref (tn_ad E 5))] [] σ (f_X5_weekGoes σ) := by
  unfold f_X5_weekGoes
  refine tr_iconst (v := 0) g 1 dX5_weekGoes_0 rfl rfl ?_
  refine tr_istore_n (lv' := [(1, .int 0), (0, .ref (tn_ad E 5))]) g 2 dX5_weekGoes_1 rfl rfl (by decide) rfl ?_
  refine tr_sub [1, 0] (lv' := [(0, .ref (tn_ad E 5)), (1, .int 0)]) rfl ?_
  exact b_X5_weekGoes_2 g o  tn_fuel _ _
theorem ok_X5_weekGoes {E : tn_E} {l : Launch}    {σ : tn_M} {r : Unit} {σ' : tn_M} (h : f_X5_weekGoes  σ = some (r, σ')) : tn_C E l yX5_weekGoes cX5_weekGoes 3 none (tn_rm 8 200) [.ref (tn_ad E 5)] σ (tn_ve r) σ' :=
  tn_met (by decide) (Nat.le_of_ble_eq_true rfl) (fun G _ g o => b_X5_weekGoes g o   σ) h
theorem yy_X5_weekGoes : tn_Yv RX5 yX5_weekGoes cX5_weekGoes 3 none 0 := ⟨wd_1094, wd_1093, wd_61, wd_70, by decide, by decide, by decide +kernel⟩
theorem kv_X5_weekGoes {E : tn_E} {G : tn_G} {cc : ByteArray} {own : String} {nL : Nat} {R : Room} {ρ : Type} {enc : ρ → Option Value} {pc : Nat} {lv : List (Nat × Value)} {st : List Value} {σ : tn_M} {kk : Unit → tn_M → Option (ρ × tn_M)} {i : Nat}   (g : tn_Ok E G cc own nL R)  (hw : Cond.methodLink own i yX5_weekGoes ∈ tn_T) (hroom : 9 ≤ R.frames ∧ 222 ≤ R.locals) (hW : (st.map fun v => v.category).sum ≤ 8) (n : Nat) (hd : decode cc pc = .ok (.invokevirtual i, 3)) (hn : pc + 3 = n) (k : ∀ r σ1, tn_V E G enc n lv (st) σ1 (kk r σ1)) : tn_V E G enc pc lv (.ref (tn_ad E 5) :: st) σ (tn_bd (f_X5_weekGoes  σ) kk) :=
  tr_callV (As := []) (enc1 := tn_ve) g yy_X5_weekGoes hw (ci := 5) rfl (by decide) rfl (fun r σ1 h => ok_X5_weekGoes   h) ⟨rfl, rfl⟩ ⟨hroom.1, by have h2 := hroom.2; show 8 + (3 + 11) + 200 ≤ R.locals; omega⟩ rfl rfl hW n hd hn k
/-! X5_weeksOf -/
def F_X5_weeksOf_21  (x2 : Int32) (σ : tn_M) : Option (Int32 × tn_M) :=
  if 5 ≤ x2 then
    tn_ck (x2 - 4) 4 <|
    some ((σ.1 45 (tn_x (x2 - 4))), σ)
  else
    tn_ck x2 5 <|
    some ((σ.1 44 (tn_x x2)), σ)
def F_X5_weeksOf_6  : Nat → Int32 → Int32 → Int32 → tn_M → Option (Int32 × tn_M)
  | 0, _, _, _, _ => none
  | tn_n + 1, x1, x2, x3, σ => 
    if x1 ≤ x3 then
      F_X5_weeksOf_21 x2 σ
    else
      tn_bd (f_X5_weekGoes σ) fun _ σ1 =>
      F_X5_weeksOf_6 tn_n x1 x2 (x3 + 1) σ1
def f_X5_weeksOf  (a1 : Int32) (a2 : Int32) (σ : tn_M) : Option (Int32 × tn_M) :=
  tn_bd (f_X5_tries σ) fun _ σ1 =>
  F_X5_weeksOf_6 tn_fuel a1 a2 0 σ1
set_option maxHeartbeats 4000000 in
set_option maxRecDepth 20000 in
theorem b_X5_weeksOf_21 {E : tn_E} {G : tn_G} (g : tn_Ok E G cX5_weeksOf RX5 4 (tn_rm 9 222)) (o : tn_Om E G (some .int))  (x2 : Int32) (σ : tn_M) : tn_V E G tn_ie 21 [(0, .ref (tn_ad E 5)), (2, .int x2)] [] σ (F_X5_weeksOf_21 x2 σ) := by
  unfold F_X5_weeksOf_21
  refine tr_iload_n g 1 22 dX5_weeksOf_21 rfl rfl rfl ?_
  refine tr_iconst (v := 5) g 23 dX5_weeksOf_22 rfl rfl ?_
  refine tr_icmp_ge g 35 26 dX5_weeksOf_23 rfl rfl ?_ ?_
  · refine tr_aload_n g 0 36 dX5_weeksOf_35 rfl rfl rfl ?_
    refine gf_X5_17 g wd_721 39 dX5_weeksOf_36 rfl ?_
    refine tr_iload_n g 1 40 dX5_weeksOf_39 rfl rfl rfl ?_
    refine tr_iconst (v := 4) g 41 dX5_weeksOf_40 rfl rfl ?_
    refine tr_isub g 42 dX5_weeksOf_41 rfl ?_
    refine tr_iald (N := 4) g 43 rfl rfl dX5_weeksOf_42 rfl ?_
    exact tr_iret g o dX5_weeksOf_43
  · refine tr_aload_n g 0 27 dX5_weeksOf_26 rfl rfl rfl ?_
    refine gf_X5_16 g wd_720 30 dX5_weeksOf_27 rfl ?_
    refine tr_iload_n g 1 31 dX5_weeksOf_30 rfl rfl rfl ?_
    refine tr_iald (N := 5) g 32 rfl rfl dX5_weeksOf_31 rfl ?_
    refine tr_goto g 43 dX5_weeksOf_32 rfl ?_
    exact tr_iret g o dX5_weeksOf_43
set_option maxHeartbeats 4000000 in
set_option maxRecDepth 20000 in
theorem b_X5_weeksOf_6 {E : tn_E} {G : tn_G} (g : tn_Ok E G cX5_weeksOf RX5 4 (tn_rm 9 222)) (o : tn_Om E G (some .int))  : ∀ (n : Nat) (x1 : Int32) (x2 : Int32) (x3 : Int32) (σ : tn_M), tn_V E G tn_ie 6 [(0, .ref (tn_ad E 5)), (1, .int x1), (2, .int x2), (3, .int x3)] [] σ (F_X5_weeksOf_6 n x1 x2 x3 σ) := by
  intro n
  induction n with
  | zero => intros; exact tr_none
  | succ tn_n ih =>
    intro x1 x2 x3 σ
    rw [F_X5_weeksOf_6]
    refine tr_iload_n g 3 7 dX5_weeksOf_6 rfl rfl rfl ?_
    refine tr_iload_n g 1 8 dX5_weeksOf_7 rfl rfl rfl ?_
    refine tr_icmp_ge g 21 11 dX5_weeksOf_8 rfl rfl ?_ ?_
    · refine tr_sub [0, 2] (lv' := [(0, .ref (tn_ad E 5)), (2, .int x2)]) rfl ?_
      exact b_X5_weeksOf_21 g o  _ _
    · refine tr_aload_n g 0 12 dX5_weeksOf_11 rfl rfl rfl ?_
      refine kv_X5_weekGoes g wd_1091 ⟨Nat.le_of_ble_eq_true rfl, Nat.le_of_ble_eq_true rfl⟩ (Nat.le_of_ble_eq_true rfl) 15 dX5_weeksOf_12 rfl (fun _ σ1 => ?_)
      refine tr_iinc (lv' := [(3, .int (x3 + 1)), (0, .ref (tn_ad E 5)), (1, .int x1), (2, .int x2)]) (x := (x3 + 1)) g 3 18 dX5_weeksOf_15 rfl rfl rfl (by decide) rfl ?_
      refine tr_goto g 6 dX5_weeksOf_18 rfl ?_
      refine tr_sub [1, 2, 3, 0] (lv' := [(0, .ref (tn_ad E 5)), (1, .int x1), (2, .int x2), (3, .int (x3 + 1))]) rfl ?_
      exact ih _ _ _ _
set_option maxHeartbeats 4000000 in
set_option maxRecDepth 20000 in
theorem b_X5_weeksOf {E : tn_E} {G : tn_G} (g : tn_Ok E G cX5_weeksOf RX5 4 (tn_rm 9 222)) (o : tn_Om E G (some .int))  (a1 : Int32) (a2 : Int32) (σ : tn_M) : tn_V E G tn_ie 0 [(0, .ref (tn_ad E 5)), (1, .int a1), (2, .int a2)] [] σ (f_X5_weeksOf a1 a2 σ) := by
  unfold f_X5_weeksOf
  refine tr_aload_n g 0 1 dX5_weeksOf_0 rfl rfl rfl ?_
  refine kv_X5_tries g wd_912 ⟨Nat.le_of_ble_eq_true rfl, Nat.le_of_ble_eq_true rfl⟩ (Nat.le_of_ble_eq_true rfl) 4 dX5_weeksOf_1 rfl (fun _ σ1 => ?_)
  refine tr_iconst (v := 0) g 5 dX5_weeksOf_4 rfl rfl ?_
  refine tr_istore_n (lv' := [(3, .int 0), (0, .ref (tn_ad E 5)), (1, .int a1), (2, .int a2)]) g 6 dX5_weeksOf_5 rfl rfl (by decide) rfl ?_
  refine tr_sub [1, 2, 3, 0] (lv' := [(0, .ref (tn_ad E 5)), (1, .int a1), (2, .int a2), (3, .int 0)]) rfl ?_
  exact b_X5_weeksOf_6 g o  tn_fuel _ _ _ _
theorem ok_X5_weeksOf {E : tn_E} {l : Launch}   (a1 : Int32) (a2 : Int32) {σ : tn_M} {r : Int32} {σ' : tn_M} (h : f_X5_weeksOf a1 a2 σ = some (r, σ')) : tn_C E l yX5_weeksOf cX5_weeksOf 4 (some .int) (tn_rm 9 222) [.ref (tn_ad E 5), .int a1, .int a2] σ (tn_ie r) σ' :=
  tn_met (by decide) (Nat.le_of_ble_eq_true rfl) (fun G _ g o => b_X5_weeksOf g o  a1 a2 σ) h
theorem yy_X5_weeksOf : tn_Yv RX5 yX5_weeksOf cX5_weeksOf 4 (some .int) 2 := ⟨wd_1090, wd_1089, wd_60, wd_70, by decide, by decide, by decide +kernel⟩
theorem kv_X5_weeksOf {E : tn_E} {G : tn_G} {cc : ByteArray} {own : String} {nL : Nat} {R : Room} {ρ : Type} {enc : ρ → Option Value} {pc : Nat} {lv : List (Nat × Value)} {st : List Value} {σ : tn_M} {kk : Int32 → tn_M → Option (ρ × tn_M)} {i : Nat}  {a1 : Int32} {a2 : Int32} (g : tn_Ok E G cc own nL R)  (hw : Cond.methodLink own i yX5_weeksOf ∈ tn_T) (hroom : 10 ≤ R.frames ∧ 245 ≤ R.locals) (hW : (st.map fun v => v.category).sum ≤ 8) (n : Nat) (hd : decode cc pc = .ok (.invokevirtual i, 3)) (hn : pc + 3 = n) (k : ∀ r σ1, tn_V E G enc n lv (.int r :: st) σ1 (kk r σ1)) : tn_V E G enc pc lv (.int a2 :: .int a1 :: .ref (tn_ad E 5) :: st) σ (tn_bd (f_X5_weeksOf a1 a2 σ) kk) :=
  tr_callV (As := [.int a1, .int a2]) (enc1 := tn_ie) g yy_X5_weeksOf hw (ci := 5) rfl (by decide) rfl (fun r σ1 h => ok_X5_weeksOf  a1 a2 h) ⟨rfl, rfl⟩ ⟨hroom.1, by have h2 := hroom.2; show 8 + (4 + 11) + 222 ≤ R.locals; omega⟩ rfl rfl hW n hd hn k
/-! X5_weeks -/
def f_X5_weeks  (a1 : Int32) (a2 : Int32) (σ : tn_M) : Option (Int32 × tn_M) :=
  tn_bd (f_X5_in (Int32.toInt64 a1) 0 50 σ) fun r2 σ1 =>
  if r2 = 0 then
    some ((-2), σ1)
  else
    tn_bd (f_X5_in (Int32.toInt64 a2) 0 7 σ1) fun r4 σ3 =>
    if r4 = 0 then
      some ((-2), σ3)
    else
      tn_bd (f_X5_weeksOf a1 a2 σ3) fun r6 σ5 =>
      some (r6, σ5)
set_option maxHeartbeats 4000000 in
set_option maxRecDepth 20000 in
theorem b_X5_weeks {E : tn_E} {G : tn_G} (g : tn_Ok E G cX5_weeks RX5 3 (tn_rm 10 245)) (o : tn_Om E G (some .int))  (a1 : Int32) (a2 : Int32) (σ : tn_M) : tn_V E G tn_ie 0 [(0, .ref (tn_ad E 5)), (1, .int a1), (2, .int a2)] [] σ (f_X5_weeks a1 a2 σ) := by
  unfold f_X5_weeks
  refine tr_iload_n g 1 1 dX5_weeks_0 rfl rfl rfl ?_
  refine tr_i2l g 2 dX5_weeks_1 rfl ?_
  refine tr_lconst (v := 0) g 3 dX5_weeks_2 rfl rfl ?_
  refine tr_ldc2 (v := 50) g wd_1086 6 dX5_weeks_3 rfl ?_
  refine kv_X5_in g wd_794 ⟨Nat.le_of_ble_eq_true rfl, Nat.le_of_ble_eq_true rfl⟩ (Nat.le_of_ble_eq_true rfl) 9 dX5_weeks_6 rfl (fun r2 σ1 => ?_)
  refine tr_if_eq g 33 12 dX5_weeks_9 rfl rfl ?_ ?_
  · refine tr_bipush (v := (-2)) g 35 dX5_weeks_33 rfl rfl ?_
    exact tr_iret g o dX5_weeks_35
  · refine tr_iload_n g 2 13 dX5_weeks_12 rfl rfl rfl ?_
    refine tr_i2l g 14 dX5_weeks_13 rfl ?_
    refine tr_lconst (v := 0) g 15 dX5_weeks_14 rfl rfl ?_
    refine tr_ldc2 (v := 7) g wd_894 18 dX5_weeks_15 rfl ?_
    refine kv_X5_in g wd_794 ⟨Nat.le_of_ble_eq_true rfl, Nat.le_of_ble_eq_true rfl⟩ (Nat.le_of_ble_eq_true rfl) 21 dX5_weeks_18 rfl (fun r4 σ3 => ?_)
    refine tr_if_eq g 33 24 dX5_weeks_21 rfl rfl ?_ ?_
    · refine tr_bipush (v := (-2)) g 35 dX5_weeks_33 rfl rfl ?_
      exact tr_iret g o dX5_weeks_35
    · refine tr_aload_n g 0 25 dX5_weeks_24 rfl rfl rfl ?_
      refine tr_iload_n g 1 26 dX5_weeks_25 rfl rfl rfl ?_
      refine tr_iload_n g 2 27 dX5_weeks_26 rfl rfl rfl ?_
      refine kv_X5_weeksOf g wd_1087 ⟨Nat.le_of_ble_eq_true rfl, Nat.le_of_ble_eq_true rfl⟩ (Nat.le_of_ble_eq_true rfl) 30 dX5_weeks_27 rfl (fun r6 σ5 => ?_)
      refine tr_goto g 35 dX5_weeks_30 rfl ?_
      exact tr_iret g o dX5_weeks_35
theorem ok_X5_weeks {E : tn_E} {l : Launch}   (a1 : Int32) (a2 : Int32) {σ : tn_M} {r : Int32} {σ' : tn_M} (h : f_X5_weeks a1 a2 σ = some (r, σ')) : tn_C E l yX5_weeks cX5_weeks 3 (some .int) (tn_rm 10 245) [.ref (tn_ad E 5), .int a1, .int a2] σ (tn_ie r) σ' :=
  tn_met (by decide) (Nat.le_of_ble_eq_true rfl) (fun G _ g o => b_X5_weeks g o  a1 a2 σ) h
theorem yy_X5_weeks : tn_Yv RX5 yX5_weeks cX5_weeks 3 (some .int) 2 := ⟨wd_1085, wd_1083, wd_1084, wd_70, by decide, by decide, by decide +kernel⟩
theorem kv_X5_weeks {E : tn_E} {G : tn_G} {cc : ByteArray} {own : String} {nL : Nat} {R : Room} {ρ : Type} {enc : ρ → Option Value} {pc : Nat} {lv : List (Nat × Value)} {st : List Value} {σ : tn_M} {kk : Int32 → tn_M → Option (ρ × tn_M)} {i : Nat}  {a1 : Int32} {a2 : Int32} (g : tn_Ok E G cc own nL R)  (hw : Cond.methodLink own i yX5_weeks ∈ tn_T) (hroom : 11 ≤ R.frames ∧ 267 ≤ R.locals) (hW : (st.map fun v => v.category).sum ≤ 8) (n : Nat) (hd : decode cc pc = .ok (.invokevirtual i, 3)) (hn : pc + 3 = n) (k : ∀ r σ1, tn_V E G enc n lv (.int r :: st) σ1 (kk r σ1)) : tn_V E G enc pc lv (.int a2 :: .int a1 :: .ref (tn_ad E 5) :: st) σ (tn_bd (f_X5_weeks a1 a2 σ) kk) :=
  tr_callV (As := [.int a1, .int a2]) (enc1 := tn_ie) g yy_X5_weeks hw (ci := 5) rfl (by decide) rfl (fun r σ1 h => ok_X5_weeks  a1 a2 h) ⟨rfl, rfl⟩ ⟨hroom.1, by have h2 := hroom.2; show 8 + (3 + 11) + 245 ≤ R.locals; omega⟩ rfl rfl hW n hd hn k
/-! X5_isNoWayBack -/
def F_X5_isNoWayBack_60  (x1 : Int32) (σ : tn_M) : Option (Int32 × tn_M) :=
  tn_lt (α := Int32) (if x1 = 0 then 1 else 0) fun v1 =>
  tn_zr v1 σ
def F_X5_isNoWayBack_37  : Nat → Int32 → Int32 → tn_M → Option (Int32 × tn_M)
  | 0, _, _, _ => none
  | tn_n + 1, x1, x2, σ => 
    if 5 ≤ x2 then
      F_X5_isNoWayBack_60 x1 σ
    else
      tn_ck x2 5 <|
      tn_ck x2 5 <|
      tn_lt (tn_si σ 44 (tn_x x2) (σ.1 48 (tn_x x2))) fun σ1 =>
      F_X5_isNoWayBack_37 tn_n x1 (x2 + 1) σ1
def F_X5_isNoWayBack_25   (σ : tn_M) : Option (Int32 × tn_M) :=
  tn_bd (f_X5_lays 0 σ) fun _ σ1 =>
  tn_bd (f_X5_isStill σ1) fun r3 σ2 =>
  F_X5_isNoWayBack_37 tn_fuel r3 0 σ2
def F_X5_isNoWayBack_2  : Nat → Int32 → tn_M → Option (Int32 × tn_M)
  | 0, _, _ => none
  | tn_n + 1, x1, σ => 
    if 5 ≤ x1 then
      F_X5_isNoWayBack_25 σ
    else
      tn_ck x1 5 <|
      tn_ck x1 5 <|
      tn_lt (tn_si σ 48 (tn_x x1) (σ.1 44 (tn_x x1))) fun σ1 =>
      F_X5_isNoWayBack_2 tn_n (x1 + 1) σ1
def f_X5_isNoWayBack   (σ : tn_M) : Option (Int32 × tn_M) :=
  F_X5_isNoWayBack_2 tn_fuel 0 σ
set_option maxHeartbeats 4000000 in
set_option maxRecDepth 20000 in
theorem b_X5_isNoWayBack_60 {E : tn_E} {G : tn_G} (g : tn_Ok E G cX5_isNoWayBack RX5 3 (tn_rm 6 152)) (o : tn_Om E G (some .boolean))  (x1 : Int32) (σ : tn_M) : tn_V E G tn_ie 60 [(1, .int x1)] [] σ (F_X5_isNoWayBack_60 x1 σ) := by
  unfold F_X5_isNoWayBack_60
  refine tr_iload_n g 0 61 dX5_isNoWayBack_60 rfl rfl rfl ?_
  refine tr_if_neD (inj := fun z => Value.int z) g 69 68 64 dX5_isNoWayBack_61 rfl rfl (fun rs hj => ?_) (fun rs hj => ?_) (fun v1 => ?_)
  · refine tr_iconst (v := 0) g 69 dX5_isNoWayBack_68 rfl rfl ?_
    exact hj
  · refine tr_iconst (v := 1) g 65 dX5_isNoWayBack_64 rfl rfl ?_
    refine tr_goto g 69 dX5_isNoWayBack_65 rfl ?_
    exact hj
  · exact tr_zretv g o dX5_isNoWayBack_69
set_option maxHeartbeats 4000000 in
set_option maxRecDepth 20000 in
theorem b_X5_isNoWayBack_37 {E : tn_E} {G : tn_G} (g : tn_Ok E G cX5_isNoWayBack RX5 3 (tn_rm 6 152)) (o : tn_Om E G (some .boolean))  : ∀ (n : Nat) (x1 : Int32) (x2 : Int32) (σ : tn_M), tn_V E G tn_ie 37 [(0, .ref (tn_ad E 5)), (1, .int x1), (2, .int x2)] [] σ (F_X5_isNoWayBack_37 n x1 x2 σ) := by
  intro n
  induction n with
  | zero => intros; exact tr_none
  | succ tn_n ih =>
    intro x1 x2 σ
    rw [F_X5_isNoWayBack_37]
    refine tr_iload_n g 2 38 dX5_isNoWayBack_37 rfl rfl rfl ?_
    refine tr_iconst (v := 5) g 39 dX5_isNoWayBack_38 rfl rfl ?_
    refine tr_icmp_ge g 60 42 dX5_isNoWayBack_39 rfl rfl ?_ ?_
    · refine tr_sub [1] (lv' := [(1, .int x1)]) rfl ?_
      exact b_X5_isNoWayBack_60 g o  _ _
    · refine tr_aload_n g 0 43 dX5_isNoWayBack_42 rfl rfl rfl ?_
      refine gf_X5_16 g wd_720 46 dX5_isNoWayBack_43 rfl ?_
      refine tr_iload_n g 2 47 dX5_isNoWayBack_46 rfl rfl rfl ?_
      refine tr_aload_n g 0 48 dX5_isNoWayBack_47 rfl rfl rfl ?_
      refine gf_X5_26 g wd_730 51 dX5_isNoWayBack_48 rfl ?_
      refine tr_iload_n g 2 52 dX5_isNoWayBack_51 rfl rfl rfl ?_
      refine tr_iald (N := 5) g 53 rfl rfl dX5_isNoWayBack_52 rfl ?_
      refine tr_iast (N := 5) g 54 rfl rfl dX5_isNoWayBack_53 rfl (fun σ1 => ?_)
      refine tr_iinc (lv' := [(2, .int (x2 + 1)), (0, .ref (tn_ad E 5)), (1, .int x1)]) (x := (x2 + 1)) g 2 57 dX5_isNoWayBack_54 rfl rfl rfl (by decide) rfl ?_
      refine tr_goto g 37 dX5_isNoWayBack_57 rfl ?_
      refine tr_sub [1, 2, 0] (lv' := [(0, .ref (tn_ad E 5)), (1, .int x1), (2, .int (x2 + 1))]) rfl ?_
      exact ih _ _ _
set_option maxHeartbeats 4000000 in
set_option maxRecDepth 20000 in
theorem b_X5_isNoWayBack_25 {E : tn_E} {G : tn_G} (g : tn_Ok E G cX5_isNoWayBack RX5 3 (tn_rm 6 152)) (o : tn_Om E G (some .boolean))   (σ : tn_M) : tn_V E G tn_ie 25 [(0, .ref (tn_ad E 5))] [] σ (F_X5_isNoWayBack_25 σ) := by
  unfold F_X5_isNoWayBack_25
  refine tr_aload_n g 0 26 dX5_isNoWayBack_25 rfl rfl rfl ?_
  refine tr_iconst (v := 0) g 27 dX5_isNoWayBack_26 rfl rfl ?_
  refine kv_X5_lays g wd_1017 ⟨Nat.le_of_ble_eq_true rfl, Nat.le_of_ble_eq_true rfl⟩ (Nat.le_of_ble_eq_true rfl) 30 dX5_isNoWayBack_27 rfl (fun _ σ1 => ?_)
  refine tr_aload_n g 0 31 dX5_isNoWayBack_30 rfl rfl rfl ?_
  refine kv_X5_isStill g wd_1021 ⟨Nat.le_of_ble_eq_true rfl, Nat.le_of_ble_eq_true rfl⟩ (Nat.le_of_ble_eq_true rfl) 34 dX5_isNoWayBack_31 rfl (fun r3 σ2 => ?_)
  refine tr_istore_n (lv' := [(1, .int r3), (0, .ref (tn_ad E 5))]) g 35 dX5_isNoWayBack_34 rfl rfl (by decide) rfl ?_
  refine tr_iconst (v := 0) g 36 dX5_isNoWayBack_35 rfl rfl ?_
  refine tr_istore_n (lv' := [(2, .int 0), (1, .int r3), (0, .ref (tn_ad E 5))]) g 37 dX5_isNoWayBack_36 rfl rfl (by decide) rfl ?_
  refine tr_sub [2, 1, 0] (lv' := [(0, .ref (tn_ad E 5)), (1, .int r3), (2, .int 0)]) rfl ?_
  exact b_X5_isNoWayBack_37 g o  tn_fuel _ _ _
set_option maxHeartbeats 4000000 in
set_option maxRecDepth 20000 in
theorem b_X5_isNoWayBack_2 {E : tn_E} {G : tn_G} (g : tn_Ok E G cX5_isNoWayBack RX5 3 (tn_rm 6 152)) (o : tn_Om E G (some .boolean))  : ∀ (n : Nat) (x1 : Int32) (σ : tn_M), tn_V E G tn_ie 2 [(0, .ref (tn_ad E 5)), (1, .int x1)] [] σ (F_X5_isNoWayBack_2 n x1 σ) := by
  intro n
  induction n with
  | zero => intros; exact tr_none
  | succ tn_n ih =>
    intro x1 σ
    rw [F_X5_isNoWayBack_2]
    refine tr_iload_n g 1 3 dX5_isNoWayBack_2 rfl rfl rfl ?_
    refine tr_iconst (v := 5) g 4 dX5_isNoWayBack_3 rfl rfl ?_
    refine tr_icmp_ge g 25 7 dX5_isNoWayBack_4 rfl rfl ?_ ?_
    · refine tr_sub [0] (lv' := [(0, .ref (tn_ad E 5))]) rfl ?_
      exact b_X5_isNoWayBack_25 g o  _
    · refine tr_aload_n g 0 8 dX5_isNoWayBack_7 rfl rfl rfl ?_
      refine gf_X5_26 g wd_730 11 dX5_isNoWayBack_8 rfl ?_
      refine tr_iload_n g 1 12 dX5_isNoWayBack_11 rfl rfl rfl ?_
      refine tr_aload_n g 0 13 dX5_isNoWayBack_12 rfl rfl rfl ?_
      refine gf_X5_16 g wd_720 16 dX5_isNoWayBack_13 rfl ?_
      refine tr_iload_n g 1 17 dX5_isNoWayBack_16 rfl rfl rfl ?_
      refine tr_iald (N := 5) g 18 rfl rfl dX5_isNoWayBack_17 rfl ?_
      refine tr_iast (N := 5) g 19 rfl rfl dX5_isNoWayBack_18 rfl (fun σ1 => ?_)
      refine tr_iinc (lv' := [(1, .int (x1 + 1)), (0, .ref (tn_ad E 5))]) (x := (x1 + 1)) g 1 22 dX5_isNoWayBack_19 rfl rfl rfl (by decide) rfl ?_
      refine tr_goto g 2 dX5_isNoWayBack_22 rfl ?_
      refine tr_sub [1, 0] (lv' := [(0, .ref (tn_ad E 5)), (1, .int (x1 + 1))]) rfl ?_
      exact ih _ _
set_option maxHeartbeats 4000000 in
set_option maxRecDepth 20000 in
theorem b_X5_isNoWayBack {E : tn_E} {G : tn_G} (g : tn_Ok E G cX5_isNoWayBack RX5 3 (tn_rm 6 152)) (o : tn_Om E G (some .boolean))   (σ : tn_M) : tn_V E G tn_ie 0 [(0, .ref (tn_ad E 5))] [] σ (f_X5_isNoWayBack σ) := by
  unfold f_X5_isNoWayBack
  refine tr_iconst (v := 0) g 1 dX5_isNoWayBack_0 rfl rfl ?_
  refine tr_istore_n (lv' := [(1, .int 0), (0, .ref (tn_ad E 5))]) g 2 dX5_isNoWayBack_1 rfl rfl (by decide) rfl ?_
  refine tr_sub [1, 0] (lv' := [(0, .ref (tn_ad E 5)), (1, .int 0)]) rfl ?_
  exact b_X5_isNoWayBack_2 g o  tn_fuel _ _
theorem ok_X5_isNoWayBack {E : tn_E} {l : Launch}    {σ : tn_M} {r : Int32} {σ' : tn_M} (h : f_X5_isNoWayBack  σ = some (r, σ')) : tn_C E l yX5_isNoWayBack cX5_isNoWayBack 3 (some .boolean) (tn_rm 6 152) [.ref (tn_ad E 5)] σ (tn_ie r) σ' :=
  tn_met (by decide) (Nat.le_of_ble_eq_true rfl) (fun G _ g o => b_X5_isNoWayBack g o   σ) h
theorem yy_X5_isNoWayBack : tn_Yv RX5 yX5_isNoWayBack cX5_isNoWayBack 3 (some .boolean) 0 := ⟨wd_1106, wd_1105, wd_63, wd_70, by decide, by decide, by decide +kernel⟩
theorem kv_X5_isNoWayBack {E : tn_E} {G : tn_G} {cc : ByteArray} {own : String} {nL : Nat} {R : Room} {ρ : Type} {enc : ρ → Option Value} {pc : Nat} {lv : List (Nat × Value)} {st : List Value} {σ : tn_M} {kk : Int32 → tn_M → Option (ρ × tn_M)} {i : Nat}   (g : tn_Ok E G cc own nL R)  (hw : Cond.methodLink own i yX5_isNoWayBack ∈ tn_T) (hroom : 7 ≤ R.frames ∧ 174 ≤ R.locals) (hW : (st.map fun v => v.category).sum ≤ 8) (n : Nat) (hd : decode cc pc = .ok (.invokevirtual i, 3)) (hn : pc + 3 = n) (k : ∀ r σ1, tn_V E G enc n lv (.int r :: st) σ1 (kk r σ1)) : tn_V E G enc pc lv (.ref (tn_ad E 5) :: st) σ (tn_bd (f_X5_isNoWayBack  σ) kk) :=
  tr_callV (As := []) (enc1 := tn_ie) g yy_X5_isNoWayBack hw (ci := 5) rfl (by decide) rfl (fun r σ1 h => ok_X5_isNoWayBack   h) ⟨rfl, rfl⟩ ⟨hroom.1, by have h2 := hroom.2; show 8 + (3 + 11) + 152 ≤ R.locals; omega⟩ rfl rfl hW n hd hn k
/-! X5_backNow -/
def F_X5_backNow_6  : Nat → Int32 → tn_M → Option (Int32 × tn_M)
  | 0, _, _ => none
  | tn_n + 1, x1, σ => 
    if 50 < x1 then
      some ((-1), σ)
    else
      tn_bd (f_X5_isNoWayBack σ) fun r2 σ1 =>
      if r2 = 0 then
        tn_bd (f_X5_weekGoes σ1) fun _ σ3 =>
        F_X5_backNow_6 tn_n (x1 + 1) σ3
      else
        some (x1, σ1)
def f_X5_backNow   (σ : tn_M) : Option (Int32 × tn_M) :=
  tn_bd (f_X5_tries σ) fun _ σ1 =>
  F_X5_backNow_6 tn_fuel 0 σ1
set_option maxHeartbeats 4000000 in
set_option maxRecDepth 20000 in
theorem b_X5_backNow_6 {E : tn_E} {G : tn_G} (g : tn_Ok E G cX5_backNow RX5 2 (tn_rm 9 222)) (o : tn_Om E G (some .int))  : ∀ (n : Nat) (x1 : Int32) (σ : tn_M), tn_V E G tn_ie 6 [(0, .ref (tn_ad E 5)), (1, .int x1)] [] σ (F_X5_backNow_6 n x1 σ) := by
  intro n
  induction n with
  | zero => intros; exact tr_none
  | succ tn_n ih =>
    intro x1 σ
    rw [F_X5_backNow_6]
    refine tr_iload_n g 1 7 dX5_backNow_6 rfl rfl rfl ?_
    refine tr_bipush (v := 50) g 9 dX5_backNow_7 rfl rfl ?_
    refine tr_icmp_gt g 31 12 dX5_backNow_9 rfl rfl ?_ ?_
    · refine tr_iconst (v := (-1)) g 32 dX5_backNow_31 rfl rfl ?_
      exact tr_iret g o dX5_backNow_32
    · refine tr_aload_n g 0 13 dX5_backNow_12 rfl rfl rfl ?_
      refine kv_X5_isNoWayBack g wd_1103 ⟨Nat.le_of_ble_eq_true rfl, Nat.le_of_ble_eq_true rfl⟩ (Nat.le_of_ble_eq_true rfl) 16 dX5_backNow_13 rfl (fun r2 σ1 => ?_)
      refine tr_if_eq g 21 19 dX5_backNow_16 rfl rfl ?_ ?_
      · refine tr_aload_n g 0 22 dX5_backNow_21 rfl rfl rfl ?_
        refine kv_X5_weekGoes g wd_1091 ⟨Nat.le_of_ble_eq_true rfl, Nat.le_of_ble_eq_true rfl⟩ (Nat.le_of_ble_eq_true rfl) 25 dX5_backNow_22 rfl (fun _ σ3 => ?_)
        refine tr_iinc (lv' := [(1, .int (x1 + 1)), (0, .ref (tn_ad E 5))]) (x := (x1 + 1)) g 1 28 dX5_backNow_25 rfl rfl rfl (by decide) rfl ?_
        refine tr_goto g 6 dX5_backNow_28 rfl ?_
        refine tr_sub [1, 0] (lv' := [(0, .ref (tn_ad E 5)), (1, .int (x1 + 1))]) rfl ?_
        exact ih _ _
      · refine tr_iload_n g 1 20 dX5_backNow_19 rfl rfl rfl ?_
        exact tr_iret g o dX5_backNow_20
set_option maxHeartbeats 4000000 in
set_option maxRecDepth 20000 in
theorem b_X5_backNow {E : tn_E} {G : tn_G} (g : tn_Ok E G cX5_backNow RX5 2 (tn_rm 9 222)) (o : tn_Om E G (some .int))   (σ : tn_M) : tn_V E G tn_ie 0 [(0, .ref (tn_ad E 5))] [] σ (f_X5_backNow σ) := by
  unfold f_X5_backNow
  refine tr_aload_n g 0 1 dX5_backNow_0 rfl rfl rfl ?_
  refine kv_X5_tries g wd_912 ⟨Nat.le_of_ble_eq_true rfl, Nat.le_of_ble_eq_true rfl⟩ (Nat.le_of_ble_eq_true rfl) 4 dX5_backNow_1 rfl (fun _ σ1 => ?_)
  refine tr_iconst (v := 0) g 5 dX5_backNow_4 rfl rfl ?_
  refine tr_istore_n (lv' := [(1, .int 0), (0, .ref (tn_ad E 5))]) g 6 dX5_backNow_5 rfl rfl (by decide) rfl ?_
  refine tr_sub [1, 0] (lv' := [(0, .ref (tn_ad E 5)), (1, .int 0)]) rfl ?_
  exact b_X5_backNow_6 g o  tn_fuel _ _
theorem ok_X5_backNow {E : tn_E} {l : Launch}    {σ : tn_M} {r : Int32} {σ' : tn_M} (h : f_X5_backNow  σ = some (r, σ')) : tn_C E l yX5_backNow cX5_backNow 2 (some .int) (tn_rm 9 222) [.ref (tn_ad E 5)] σ (tn_ie r) σ' :=
  tn_met (by decide) (Nat.le_of_ble_eq_true rfl) (fun G _ g o => b_X5_backNow g o   σ) h
theorem yy_X5_backNow : tn_Yv RX5 yX5_backNow cX5_backNow 2 (some .int) 0 := ⟨wd_1102, wd_1101, wd_62, wd_70, by decide, by decide, by decide +kernel⟩
theorem kv_X5_backNow {E : tn_E} {G : tn_G} {cc : ByteArray} {own : String} {nL : Nat} {R : Room} {ρ : Type} {enc : ρ → Option Value} {pc : Nat} {lv : List (Nat × Value)} {st : List Value} {σ : tn_M} {kk : Int32 → tn_M → Option (ρ × tn_M)} {i : Nat}   (g : tn_Ok E G cc own nL R)  (hw : Cond.methodLink own i yX5_backNow ∈ tn_T) (hroom : 10 ≤ R.frames ∧ 243 ≤ R.locals) (hW : (st.map fun v => v.category).sum ≤ 8) (n : Nat) (hd : decode cc pc = .ok (.invokevirtual i, 3)) (hn : pc + 3 = n) (k : ∀ r σ1, tn_V E G enc n lv (.int r :: st) σ1 (kk r σ1)) : tn_V E G enc pc lv (.ref (tn_ad E 5) :: st) σ (tn_bd (f_X5_backNow  σ) kk) :=
  tr_callV (As := []) (enc1 := tn_ie) g yy_X5_backNow hw (ci := 5) rfl (by decide) rfl (fun r σ1 h => ok_X5_backNow   h) ⟨rfl, rfl⟩ ⟨hroom.1, by have h2 := hroom.2; show 8 + (2 + 11) + 222 ≤ R.locals; omega⟩ rfl rfl hW n hd hn k
/-! X5_back -/
def f_X5_back   (σ : tn_M) : Option (Int32 × tn_M) :=
  tn_bd (f_X5_backNow σ) fun r2 σ1 =>
  some (r2, σ1)
set_option maxHeartbeats 4000000 in
set_option maxRecDepth 20000 in
theorem b_X5_back {E : tn_E} {G : tn_G} (g : tn_Ok E G cX5_back RX5 1 (tn_rm 10 243)) (o : tn_Om E G (some .int))   (σ : tn_M) : tn_V E G tn_ie 0 [(0, .ref (tn_ad E 5))] [] σ (f_X5_back σ) := by
  unfold f_X5_back
  refine tr_aload_n g 0 1 dX5_back_0 rfl rfl rfl ?_
  refine kv_X5_backNow g wd_1099 ⟨Nat.le_of_ble_eq_true rfl, Nat.le_of_ble_eq_true rfl⟩ (Nat.le_of_ble_eq_true rfl) 4 dX5_back_1 rfl (fun r2 σ1 => ?_)
  exact tr_iret g o dX5_back_4
theorem ok_X5_back {E : tn_E} {l : Launch}    {σ : tn_M} {r : Int32} {σ' : tn_M} (h : f_X5_back  σ = some (r, σ')) : tn_C E l yX5_back cX5_back 1 (some .int) (tn_rm 10 243) [.ref (tn_ad E 5)] σ (tn_ie r) σ' :=
  tn_met (by decide) (Nat.le_of_ble_eq_true rfl) (fun G _ g o => b_X5_back g o   σ) h
theorem yy_X5_back : tn_Yv RX5 yX5_back cX5_back 1 (some .int) 0 := ⟨wd_1098, wd_1096, wd_1097, wd_70, by decide, by decide, by decide +kernel⟩
theorem kv_X5_back {E : tn_E} {G : tn_G} {cc : ByteArray} {own : String} {nL : Nat} {R : Room} {ρ : Type} {enc : ρ → Option Value} {pc : Nat} {lv : List (Nat × Value)} {st : List Value} {σ : tn_M} {kk : Int32 → tn_M → Option (ρ × tn_M)} {i : Nat}   (g : tn_Ok E G cc own nL R)  (hw : Cond.methodLink own i yX5_back ∈ tn_T) (hroom : 11 ≤ R.frames ∧ 263 ≤ R.locals) (hW : (st.map fun v => v.category).sum ≤ 8) (n : Nat) (hd : decode cc pc = .ok (.invokevirtual i, 3)) (hn : pc + 3 = n) (k : ∀ r σ1, tn_V E G enc n lv (.int r :: st) σ1 (kk r σ1)) : tn_V E G enc pc lv (.ref (tn_ad E 5) :: st) σ (tn_bd (f_X5_back  σ) kk) :=
  tr_callV (As := []) (enc1 := tn_ie) g yy_X5_back hw (ci := 5) rfl (by decide) rfl (fun r σ1 h => ok_X5_back   h) ⟨rfl, rfl⟩ ⟨hroom.1, by have h2 := hroom.2; show 8 + (1 + 11) + 243 ≤ R.locals; omega⟩ rfl rfl hW n hd hn k
/-! X5_write -/
def F_X5_write_58  : Nat → Int32 → Int32 → Int32 → tn_M → Option (Int32 × tn_M)
  | 0, _, _, _, _ => none
  | tn_n + 1, x1, x2, x3, σ => 
    if x2 ≤ x3 then
      some (x2, σ)
    else
      tn_ck x1 4 <|
      tn_bd (f_X5_answerOf x3 σ) fun r2 σ1 =>
      tn_bd (f_X5_cut (σ.1 33 (tn_x x1)) r2 σ1) fun r4 σ3 =>
      tn_ck ((60 * x1) + x3) 240 <|
      tn_lt (tn_si σ3 35 (tn_x ((60 * x1) + x3)) r4) fun σ5 =>
      F_X5_write_58 tn_n x1 x2 (x3 + 1) σ5
def F_X5_write_55  (x1 : Int32) (y0 : Int32) (σ : tn_M) : Option (Int32 × tn_M) :=
  F_X5_write_58 tn_fuel x1 y0 0 σ
def f_X5_write  (a1 : Int32) (σ : tn_M) : Option (Int32 × tn_M) :=
  tn_bd (f_X5_isSheet a1 σ) fun r2 σ1 =>
  if r2 = 0 then
    some ((-2), σ1)
  else
    tn_ck a1 4 <|
    if 0 ≤ (σ1.1 33 (tn_x a1)) then
      tn_bd (f_X5_tries σ1) fun _ σ3 =>
      tn_ck a1 4 <|
      if (σ3.1 5 8) ≤ (σ3.1 34 (tn_x a1)) then
        F_X5_write_55 a1 (σ3.1 5 8) σ3
      else
        tn_ck a1 4 <|
        F_X5_write_55 a1 (σ3.1 34 (tn_x a1)) σ3
    else
      tn_bd (f_X5_met 1 σ1) fun r5 σ4 =>
      some (r5, σ4)
set_option maxHeartbeats 4000000 in
set_option maxRecDepth 20000 in
theorem b_X5_write_58 {E : tn_E} {G : tn_G} (g : tn_Ok E G cX5_write RX5 4 (tn_rm 6 156)) (o : tn_Om E G (some .int))  : ∀ (n : Nat) (x1 : Int32) (x2 : Int32) (x3 : Int32) (σ : tn_M), tn_V E G tn_ie 58 [(0, .ref (tn_ad E 5)), (1, .int x1), (2, .int x2), (3, .int x3)] [] σ (F_X5_write_58 n x1 x2 x3 σ) := by
  intro n
  induction n with
  | zero => intros; exact tr_none
  | succ tn_n ih =>
    intro x1 x2 x3 σ
    rw [F_X5_write_58]
    refine tr_iload_n g 3 59 dX5_write_58 rfl rfl rfl ?_
    refine tr_iload_n g 2 60 dX5_write_59 rfl rfl rfl ?_
    refine tr_icmp_ge g 94 63 dX5_write_60 rfl rfl ?_ ?_
    · refine tr_iload_n g 2 95 dX5_write_94 rfl rfl rfl ?_
      exact tr_iret g o dX5_write_95
    · refine tr_aload_n g 0 64 dX5_write_63 rfl rfl rfl ?_
      refine gf_X5_2 g wd_706 67 dX5_write_64 rfl ?_
      refine tr_bipush (v := 60) g 69 dX5_write_67 rfl rfl ?_
      refine tr_iload_n g 1 70 dX5_write_69 rfl rfl rfl ?_
      refine tr_imul g 71 dX5_write_70 rfl ?_
      refine tr_iload_n g 3 72 dX5_write_71 rfl rfl rfl ?_
      refine tr_iadd g 73 dX5_write_72 rfl ?_
      refine tr_aload_n g 0 74 dX5_write_73 rfl rfl rfl ?_
      refine gf_X5_0 g wd_704 77 dX5_write_74 rfl ?_
      refine tr_iload_n g 1 78 dX5_write_77 rfl rfl rfl ?_
      refine tr_iald (N := 4) g 79 rfl rfl dX5_write_78 rfl ?_
      refine tr_aload_n g 0 80 dX5_write_79 rfl rfl rfl ?_
      refine tr_iload_n g 3 81 dX5_write_80 rfl rfl rfl ?_
      refine kv_X5_answerOf g wd_985 ⟨Nat.le_of_ble_eq_true rfl, Nat.le_of_ble_eq_true rfl⟩ (Nat.le_of_ble_eq_true rfl) 84 dX5_write_81 rfl (fun r2 σ1 => ?_)
      refine kv_X5_cut g wd_814 ⟨Nat.le_of_ble_eq_true rfl, Nat.le_of_ble_eq_true rfl⟩ (Nat.le_of_ble_eq_true rfl) 87 dX5_write_84 rfl (fun r4 σ3 => ?_)
      refine tr_iast (N := 240) g 88 rfl rfl dX5_write_87 rfl (fun σ5 => ?_)
      refine tr_iinc (lv' := [(3, .int (x3 + 1)), (0, .ref (tn_ad E 5)), (1, .int x1), (2, .int x2)]) (x := (x3 + 1)) g 3 91 dX5_write_88 rfl rfl rfl (by decide) rfl ?_
      refine tr_goto g 58 dX5_write_91 rfl ?_
      refine tr_sub [1, 2, 3, 0] (lv' := [(0, .ref (tn_ad E 5)), (1, .int x1), (2, .int x2), (3, .int (x3 + 1))]) rfl ?_
      exact ih _ _ _ _
set_option maxHeartbeats 4000000 in
set_option maxRecDepth 20000 in
theorem b_X5_write_55 {E : tn_E} {G : tn_G} (g : tn_Ok E G cX5_write RX5 4 (tn_rm 6 156)) (o : tn_Om E G (some .int))  (x1 : Int32) (y0 : Int32) (σ : tn_M) : tn_V E G tn_ie 55 [(0, .ref (tn_ad E 5)), (1, .int x1)] [.int y0] σ (F_X5_write_55 x1 y0 σ) := by
  unfold F_X5_write_55
  refine tr_istore_n (lv' := [(2, .int y0), (0, .ref (tn_ad E 5)), (1, .int x1)]) g 56 dX5_write_55 rfl rfl (by decide) rfl ?_
  refine tr_iconst (v := 0) g 57 dX5_write_56 rfl rfl ?_
  refine tr_istore_n (lv' := [(3, .int 0), (2, .int y0), (0, .ref (tn_ad E 5)), (1, .int x1)]) g 58 dX5_write_57 rfl rfl (by decide) rfl ?_
  refine tr_sub [2, 3, 1, 0] (lv' := [(0, .ref (tn_ad E 5)), (1, .int x1), (2, .int y0), (3, .int 0)]) rfl ?_
  exact b_X5_write_58 g o  tn_fuel _ _ _ _
set_option maxHeartbeats 4000000 in
set_option maxRecDepth 20000 in
theorem b_X5_write {E : tn_E} {G : tn_G} (g : tn_Ok E G cX5_write RX5 4 (tn_rm 6 156)) (o : tn_Om E G (some .int))  (a1 : Int32) (σ : tn_M) : tn_V E G tn_ie 0 [(0, .ref (tn_ad E 5)), (1, .int a1)] [] σ (f_X5_write a1 σ) := by
  unfold f_X5_write
  refine tr_iload_n g 1 1 dX5_write_0 rfl rfl rfl ?_
  refine kv_X5_isSheet g wd_790 ⟨Nat.le_of_ble_eq_true rfl, Nat.le_of_ble_eq_true rfl⟩ (Nat.le_of_ble_eq_true rfl) 4 dX5_write_1 rfl (fun r2 σ1 => ?_)
  refine tr_if_ne g 10 7 dX5_write_4 rfl rfl ?_ ?_
  · refine tr_aload_n g 0 11 dX5_write_10 rfl rfl rfl ?_
    refine gf_X5_0 g wd_704 14 dX5_write_11 rfl ?_
    refine tr_iload_n g 1 15 dX5_write_14 rfl rfl rfl ?_
    refine tr_iald (N := 4) g 16 rfl rfl dX5_write_15 rfl ?_
    refine tr_if_ge g 25 19 dX5_write_16 rfl rfl ?_ ?_
    · refine tr_aload_n g 0 26 dX5_write_25 rfl rfl rfl ?_
      refine kv_X5_tries g wd_912 ⟨Nat.le_of_ble_eq_true rfl, Nat.le_of_ble_eq_true rfl⟩ (Nat.le_of_ble_eq_true rfl) 29 dX5_write_26 rfl (fun _ σ3 => ?_)
      refine tr_aload_n g 0 30 dX5_write_29 rfl rfl rfl ?_
      refine gf_X5_1 g wd_705 33 dX5_write_30 rfl ?_
      refine tr_iload_n g 1 34 dX5_write_33 rfl rfl rfl ?_
      refine tr_iald (N := 4) g 35 rfl rfl dX5_write_34 rfl ?_
      refine tr_aload_n g 0 36 dX5_write_35 rfl rfl rfl ?_
      refine gf_X5_8 g wd_712 39 dX5_write_36 rfl ?_
      refine tr_icmp_ge g 51 42 dX5_write_39 rfl rfl ?_ ?_
      · refine tr_aload_n g 0 52 dX5_write_51 rfl rfl rfl ?_
        refine gf_X5_8 g wd_712 55 dX5_write_52 rfl ?_
        exact b_X5_write_55 g o  _ _ _
      · refine tr_aload_n g 0 43 dX5_write_42 rfl rfl rfl ?_
        refine gf_X5_1 g wd_705 46 dX5_write_43 rfl ?_
        refine tr_iload_n g 1 47 dX5_write_46 rfl rfl rfl ?_
        refine tr_iald (N := 4) g 48 rfl rfl dX5_write_47 rfl ?_
        refine tr_goto g 55 dX5_write_48 rfl ?_
        exact b_X5_write_55 g o  _ _ _
    · refine tr_aload_n g 0 20 dX5_write_19 rfl rfl rfl ?_
      refine tr_iconst (v := 1) g 21 dX5_write_20 rfl rfl ?_
      refine kv_X5_met g wd_798 ⟨Nat.le_of_ble_eq_true rfl, Nat.le_of_ble_eq_true rfl⟩ (Nat.le_of_ble_eq_true rfl) 24 dX5_write_21 rfl (fun r5 σ4 => ?_)
      exact tr_iret g o dX5_write_24
  · refine tr_bipush (v := (-2)) g 9 dX5_write_7 rfl rfl ?_
    exact tr_iret g o dX5_write_9
theorem ok_X5_write {E : tn_E} {l : Launch}   (a1 : Int32) {σ : tn_M} {r : Int32} {σ' : tn_M} (h : f_X5_write a1 σ = some (r, σ')) : tn_C E l yX5_write cX5_write 4 (some .int) (tn_rm 6 156) [.ref (tn_ad E 5), .int a1] σ (tn_ie r) σ' :=
  tn_met (by decide) (Nat.le_of_ble_eq_true rfl) (fun G _ g o => b_X5_write g o  a1 σ) h
theorem yy_X5_write : tn_Yv RX5 yX5_write cX5_write 4 (some .int) 1 := ⟨wd_1110, wd_1108, wd_1109, wd_70, by decide, by decide, by decide +kernel⟩
theorem kv_X5_write {E : tn_E} {G : tn_G} {cc : ByteArray} {own : String} {nL : Nat} {R : Room} {ρ : Type} {enc : ρ → Option Value} {pc : Nat} {lv : List (Nat × Value)} {st : List Value} {σ : tn_M} {kk : Int32 → tn_M → Option (ρ × tn_M)} {i : Nat}  {a1 : Int32} (g : tn_Ok E G cc own nL R)  (hw : Cond.methodLink own i yX5_write ∈ tn_T) (hroom : 7 ≤ R.frames ∧ 179 ≤ R.locals) (hW : (st.map fun v => v.category).sum ≤ 8) (n : Nat) (hd : decode cc pc = .ok (.invokevirtual i, 3)) (hn : pc + 3 = n) (k : ∀ r σ1, tn_V E G enc n lv (.int r :: st) σ1 (kk r σ1)) : tn_V E G enc pc lv (.int a1 :: .ref (tn_ad E 5) :: st) σ (tn_bd (f_X5_write a1 σ) kk) :=
  tr_callV (As := [.int a1]) (enc1 := tn_ie) g yy_X5_write hw (ci := 5) rfl (by decide) rfl (fun r σ1 h => ok_X5_write  a1 h) ⟨rfl, rfl⟩ ⟨hroom.1, by have h2 := hroom.2; show 8 + (4 + 11) + 156 ≤ R.locals; omega⟩ rfl rfl hW n hd hn k
/-! X5_count -/
def F_X5_count_159  : Nat → Int32 → Int32 → tn_M → Option (Int32 × tn_M)
  | 0, _, _, _ => none
  | tn_n + 1, x2, x3, σ => 
    if (σ.1 5 11) ≤ x3 then
      some (x2, σ)
    else
      tn_ck ((6 * x3) + 1) 36 <|
      tn_lt (α := Int32) (x2 + (σ.1 40 (tn_x ((6 * x3) + 1)))) fun w1 =>
      F_X5_count_159 tn_n w1 (x3 + 1) σ
def F_X5_count_104  : Nat → Int32 → Int32 → tn_M → Option (Int32 × tn_M)
  | 0, _, _, _ => none
  | tn_n + 1, x2, x3, σ => 
    if 6 ≤ x3 then
      some (x2, σ)
    else
      tn_ck x3 6 <|
      tn_lt (α := Int32) (x2 + (σ.1 43 (tn_x x3))) fun w1 =>
      F_X5_count_104 tn_n w1 (x3 + 1) σ
def F_X5_count_77  : Nat → Int32 → Int32 → tn_M → Option (Int32 × tn_M)
  | 0, _, _, _ => none
  | tn_n + 1, x2, x3, σ => 
    if (σ.1 5 8) ≤ x3 then
      some (x2, σ)
    else
      tn_ck x3 5 <|
      tn_lt (α := Int32) (x2 + (σ.1 42 (tn_x x3))) fun w1 =>
      F_X5_count_77 tn_n w1 (x3 + 1) σ
def f_X5_count  (a1 : Int32) (σ : tn_M) : Option (Int32 × tn_M) :=
  tn_bd (f_X5_reads σ) fun r2 σ1 =>
  if a1 = 0 then
    some ((σ1.1 5 8), σ1)
  else
    if a1 = 1 then
      some ((σ1.1 5 11), σ1)
    else
      if a1 = 2 then
        some ((σ1.1 5 6), σ1)
      else
        if a1 = 3 then
          F_X5_count_77 tn_fuel 0 0 σ1
        else
          if a1 = 4 then
            F_X5_count_104 tn_fuel 0 0 σ1
          else
            if a1 = 5 then
              some ((((σ1.1 41 5) + (σ1.1 41 6)) + (σ1.1 41 7)), σ1)
            else
              if a1 = 6 then
                some ((σ1.1 41 1), σ1)
              else
                if a1 = 7 then
                  F_X5_count_159 tn_fuel 0 0 σ1
                else
                  if a1 = 8 then
                    some ((σ1.1 5 4), σ1)
                  else
                    some ((-2), σ1)
set_option maxHeartbeats 4000000 in
set_option maxRecDepth 20000 in
theorem b_X5_count_159 {E : tn_E} {G : tn_G} (g : tn_Ok E G cX5_count RX5 4 (tn_rm 5 116)) (o : tn_Om E G (some .int))  : ∀ (n : Nat) (x2 : Int32) (x3 : Int32) (σ : tn_M), tn_V E G tn_ie 159 [(0, .ref (tn_ad E 5)), (2, .int x2), (3, .int x3)] [] σ (F_X5_count_159 n x2 x3 σ) := by
  intro n
  induction n with
  | zero => intros; exact tr_none
  | succ tn_n ih =>
    intro x2 x3 σ
    rw [F_X5_count_159]
    refine tr_iload_n g 2 160 dX5_count_159 rfl rfl rfl ?_
    refine tr_aload_n g 0 161 dX5_count_160 rfl rfl rfl ?_
    refine gf_X5_11 g wd_715 164 dX5_count_161 rfl ?_
    refine tr_icmp_ge g 187 167 dX5_count_164 rfl rfl ?_ ?_
    · refine tr_iload_n g 1 188 dX5_count_187 rfl rfl rfl ?_
      exact tr_iret g o dX5_count_188
    · refine tr_iload_n g 1 168 dX5_count_167 rfl rfl rfl ?_
      refine tr_aload_n g 0 169 dX5_count_168 rfl rfl rfl ?_
      refine gf_X5_12 g wd_716 172 dX5_count_169 rfl ?_
      refine tr_bipush (v := 6) g 174 dX5_count_172 rfl rfl ?_
      refine tr_iload_n g 2 175 dX5_count_174 rfl rfl rfl ?_
      refine tr_imul g 176 dX5_count_175 rfl ?_
      refine tr_iconst (v := 1) g 177 dX5_count_176 rfl rfl ?_
      refine tr_iadd g 178 dX5_count_177 rfl ?_
      refine tr_iald (N := 36) g 179 rfl rfl dX5_count_178 rfl ?_
      refine tr_iadd g 180 dX5_count_179 rfl ?_
      refine tr_lti (fun w1 => ?_)
      refine tr_istore_n (lv' := [(2, .int w1), (0, .ref (tn_ad E 5)), (3, .int x3)]) g 181 dX5_count_180 rfl rfl (by decide) rfl ?_
      refine tr_iinc (lv' := [(3, .int (x3 + 1)), (2, .int w1), (0, .ref (tn_ad E 5))]) (x := (x3 + 1)) g 2 184 dX5_count_181 rfl rfl rfl (by decide) rfl ?_
      refine tr_goto g 159 dX5_count_184 rfl ?_
      refine tr_sub [2, 1, 0] (lv' := [(0, .ref (tn_ad E 5)), (2, .int w1), (3, .int (x3 + 1))]) rfl ?_
      exact ih _ _ _
set_option maxHeartbeats 4000000 in
set_option maxRecDepth 20000 in
theorem b_X5_count_104 {E : tn_E} {G : tn_G} (g : tn_Ok E G cX5_count RX5 4 (tn_rm 5 116)) (o : tn_Om E G (some .int))  : ∀ (n : Nat) (x2 : Int32) (x3 : Int32) (σ : tn_M), tn_V E G tn_ie 104 [(0, .ref (tn_ad E 5)), (2, .int x2), (3, .int x3)] [] σ (F_X5_count_104 n x2 x3 σ) := by
  intro n
  induction n with
  | zero => intros; exact tr_none
  | succ tn_n ih =>
    intro x2 x3 σ
    rw [F_X5_count_104]
    refine tr_iload_n g 2 105 dX5_count_104 rfl rfl rfl ?_
    refine tr_bipush (v := 6) g 107 dX5_count_105 rfl rfl ?_
    refine tr_icmp_ge g 125 110 dX5_count_107 rfl rfl ?_ ?_
    · refine tr_iload_n g 1 126 dX5_count_125 rfl rfl rfl ?_
      exact tr_iret g o dX5_count_126
    · refine tr_iload_n g 1 111 dX5_count_110 rfl rfl rfl ?_
      refine tr_aload_n g 0 112 dX5_count_111 rfl rfl rfl ?_
      refine gf_X5_15 g wd_719 115 dX5_count_112 rfl ?_
      refine tr_iload_n g 2 116 dX5_count_115 rfl rfl rfl ?_
      refine tr_iald (N := 6) g 117 rfl rfl dX5_count_116 rfl ?_
      refine tr_iadd g 118 dX5_count_117 rfl ?_
      refine tr_lti (fun w1 => ?_)
      refine tr_istore_n (lv' := [(2, .int w1), (0, .ref (tn_ad E 5)), (3, .int x3)]) g 119 dX5_count_118 rfl rfl (by decide) rfl ?_
      refine tr_iinc (lv' := [(3, .int (x3 + 1)), (2, .int w1), (0, .ref (tn_ad E 5))]) (x := (x3 + 1)) g 2 122 dX5_count_119 rfl rfl rfl (by decide) rfl ?_
      refine tr_goto g 104 dX5_count_122 rfl ?_
      refine tr_sub [2, 1, 0] (lv' := [(0, .ref (tn_ad E 5)), (2, .int w1), (3, .int (x3 + 1))]) rfl ?_
      exact ih _ _ _
set_option maxHeartbeats 4000000 in
set_option maxRecDepth 20000 in
theorem b_X5_count_77 {E : tn_E} {G : tn_G} (g : tn_Ok E G cX5_count RX5 4 (tn_rm 5 116)) (o : tn_Om E G (some .int))  : ∀ (n : Nat) (x2 : Int32) (x3 : Int32) (σ : tn_M), tn_V E G tn_ie 77 [(0, .ref (tn_ad E 5)), (2, .int x2), (3, .int x3)] [] σ (F_X5_count_77 n x2 x3 σ) := by
  intro n
  induction n with
  | zero => intros; exact tr_none
  | succ tn_n ih =>
    intro x2 x3 σ
    rw [F_X5_count_77]
    refine tr_iload_n g 2 78 dX5_count_77 rfl rfl rfl ?_
    refine tr_aload_n g 0 79 dX5_count_78 rfl rfl rfl ?_
    refine gf_X5_8 g wd_712 82 dX5_count_79 rfl ?_
    refine tr_icmp_ge g 100 85 dX5_count_82 rfl rfl ?_ ?_
    · refine tr_iload_n g 1 101 dX5_count_100 rfl rfl rfl ?_
      exact tr_iret g o dX5_count_101
    · refine tr_iload_n g 1 86 dX5_count_85 rfl rfl rfl ?_
      refine tr_aload_n g 0 87 dX5_count_86 rfl rfl rfl ?_
      refine gf_X5_14 g wd_718 90 dX5_count_87 rfl ?_
      refine tr_iload_n g 2 91 dX5_count_90 rfl rfl rfl ?_
      refine tr_iald (N := 5) g 92 rfl rfl dX5_count_91 rfl ?_
      refine tr_iadd g 93 dX5_count_92 rfl ?_
      refine tr_lti (fun w1 => ?_)
      refine tr_istore_n (lv' := [(2, .int w1), (0, .ref (tn_ad E 5)), (3, .int x3)]) g 94 dX5_count_93 rfl rfl (by decide) rfl ?_
      refine tr_iinc (lv' := [(3, .int (x3 + 1)), (2, .int w1), (0, .ref (tn_ad E 5))]) (x := (x3 + 1)) g 2 97 dX5_count_94 rfl rfl rfl (by decide) rfl ?_
      refine tr_goto g 77 dX5_count_97 rfl ?_
      refine tr_sub [2, 1, 0] (lv' := [(0, .ref (tn_ad E 5)), (2, .int w1), (3, .int (x3 + 1))]) rfl ?_
      exact ih _ _ _
set_option maxHeartbeats 4000000 in
set_option maxRecDepth 20000 in
theorem b_X5_count {E : tn_E} {G : tn_G} (g : tn_Ok E G cX5_count RX5 4 (tn_rm 5 116)) (o : tn_Om E G (some .int))  (a1 : Int32) (σ : tn_M) : tn_V E G tn_ie 0 [(0, .ref (tn_ad E 5)), (1, .int a1)] [] σ (f_X5_count a1 σ) := by
  unfold f_X5_count
  refine tr_iconst (v := 0) g 1 dX5_count_0 rfl rfl ?_
  refine tr_istore_n (lv' := [(2, .int 0), (0, .ref (tn_ad E 5)), (1, .int a1)]) g 2 dX5_count_1 rfl rfl (by decide) rfl ?_
  refine tr_aload_n g 1 3 dX5_count_2 rfl rfl rfl ?_
  refine kv_X5_reads g wd_839 ⟨Nat.le_of_ble_eq_true rfl, Nat.le_of_ble_eq_true rfl⟩ (Nat.le_of_ble_eq_true rfl) 6 dX5_count_3 rfl (fun r2 σ1 => ?_)
  refine tr_pop g 7 dX5_count_6 rfl rfl ?_
  refine tr_iload_n g 2 8 dX5_count_7 rfl rfl rfl ?_
  refine tr_ite (fun h => ?_) (fun hs0 => ?_)
  · refine tr_swIn g 60 dX5_count_8 (by rw [h]; decide) (by rw [h]; decide) (by rw [h]; rfl) rfl ?_
    refine tr_aload_n g 1 61 dX5_count_60 rfl rfl rfl ?_
    refine gf_X5_8 g wd_712 64 dX5_count_61 rfl ?_
    exact tr_iret g o dX5_count_64
  · skip
    refine tr_ite (fun h => ?_) (fun hs1 => ?_)
    · refine tr_swIn g 65 dX5_count_8 (by rw [h]; decide) (by rw [h]; decide) (by rw [h]; rfl) rfl ?_
      refine tr_aload_n g 1 66 dX5_count_65 rfl rfl rfl ?_
      refine gf_X5_11 g wd_715 69 dX5_count_66 rfl ?_
      exact tr_iret g o dX5_count_69
    · skip
      refine tr_ite (fun h => ?_) (fun hs2 => ?_)
      · refine tr_swIn g 70 dX5_count_8 (by rw [h]; decide) (by rw [h]; decide) (by rw [h]; rfl) rfl ?_
        refine tr_aload_n g 1 71 dX5_count_70 rfl rfl rfl ?_
        refine gf_X5_6 g wd_710 74 dX5_count_71 rfl ?_
        exact tr_iret g o dX5_count_74
      · skip
        refine tr_ite (fun h => ?_) (fun hs3 => ?_)
        · refine tr_swIn g 75 dX5_count_8 (by rw [h]; decide) (by rw [h]; decide) (by rw [h]; rfl) rfl ?_
          refine tr_iconst (v := 0) g 76 dX5_count_75 rfl rfl ?_
          refine tr_istore_n (lv' := [(3, .int 0), (2, .int 0), (0, .ref (tn_ad E 5)), (1, .int a1)]) g 77 dX5_count_76 rfl rfl (by decide) rfl ?_
          refine tr_sub [2, 1, 0] (lv' := [(0, .ref (tn_ad E 5)), (2, .int 0), (3, .int 0)]) rfl ?_
          exact b_X5_count_77 g o  tn_fuel _ _ _
        · skip
          refine tr_ite (fun h => ?_) (fun hs4 => ?_)
          · refine tr_swIn g 102 dX5_count_8 (by rw [h]; decide) (by rw [h]; decide) (by rw [h]; rfl) rfl ?_
            refine tr_iconst (v := 0) g 103 dX5_count_102 rfl rfl ?_
            refine tr_istore_n (lv' := [(3, .int 0), (2, .int 0), (0, .ref (tn_ad E 5)), (1, .int a1)]) g 104 dX5_count_103 rfl rfl (by decide) rfl ?_
            refine tr_sub [2, 1, 0] (lv' := [(0, .ref (tn_ad E 5)), (2, .int 0), (3, .int 0)]) rfl ?_
            exact b_X5_count_104 g o  tn_fuel _ _ _
          · skip
            refine tr_ite (fun h => ?_) (fun hs5 => ?_)
            · refine tr_swIn g 127 dX5_count_8 (by rw [h]; decide) (by rw [h]; decide) (by rw [h]; rfl) rfl ?_
              refine tr_aload_n g 1 128 dX5_count_127 rfl rfl rfl ?_
              refine gf_X5_13 g wd_717 131 dX5_count_128 rfl ?_
              refine tr_iconst (v := 5) g 132 dX5_count_131 rfl rfl ?_
              refine tr_ialdK (N := 8) g 133 5 rfl rfl rfl (by decide) dX5_count_132 rfl ?_
              refine tr_aload_n g 1 134 dX5_count_133 rfl rfl rfl ?_
              refine gf_X5_13 g wd_717 137 dX5_count_134 rfl ?_
              refine tr_bipush (v := 6) g 139 dX5_count_137 rfl rfl ?_
              refine tr_ialdK (N := 8) g 140 6 rfl rfl rfl (by decide) dX5_count_139 rfl ?_
              refine tr_iadd g 141 dX5_count_140 rfl ?_
              refine tr_aload_n g 1 142 dX5_count_141 rfl rfl rfl ?_
              refine gf_X5_13 g wd_717 145 dX5_count_142 rfl ?_
              refine tr_bipush (v := 7) g 147 dX5_count_145 rfl rfl ?_
              refine tr_ialdK (N := 8) g 148 7 rfl rfl rfl (by decide) dX5_count_147 rfl ?_
              refine tr_iadd g 149 dX5_count_148 rfl ?_
              exact tr_iret g o dX5_count_149
            · skip
              refine tr_ite (fun h => ?_) (fun hs6 => ?_)
              · refine tr_swIn g 150 dX5_count_8 (by rw [h]; decide) (by rw [h]; decide) (by rw [h]; rfl) rfl ?_
                refine tr_aload_n g 1 151 dX5_count_150 rfl rfl rfl ?_
                refine gf_X5_13 g wd_717 154 dX5_count_151 rfl ?_
                refine tr_iconst (v := 1) g 155 dX5_count_154 rfl rfl ?_
                refine tr_ialdK (N := 8) g 156 1 rfl rfl rfl (by decide) dX5_count_155 rfl ?_
                exact tr_iret g o dX5_count_156
              · skip
                refine tr_ite (fun h => ?_) (fun hs7 => ?_)
                · refine tr_swIn g 157 dX5_count_8 (by rw [h]; decide) (by rw [h]; decide) (by rw [h]; rfl) rfl ?_
                  refine tr_iconst (v := 0) g 158 dX5_count_157 rfl rfl ?_
                  refine tr_istore_n (lv' := [(3, .int 0), (2, .int 0), (0, .ref (tn_ad E 5)), (1, .int a1)]) g 159 dX5_count_158 rfl rfl (by decide) rfl ?_
                  refine tr_sub [2, 1, 0] (lv' := [(0, .ref (tn_ad E 5)), (2, .int 0), (3, .int 0)]) rfl ?_
                  exact b_X5_count_159 g o  tn_fuel _ _ _
                · skip
                  refine tr_ite (fun h => ?_) (fun hs8 => ?_)
                  · refine tr_swIn g 189 dX5_count_8 (by rw [h]; decide) (by rw [h]; decide) (by rw [h]; rfl) rfl ?_
                    refine tr_aload_n g 1 190 dX5_count_189 rfl rfl rfl ?_
                    refine gf_X5_4 g wd_708 193 dX5_count_190 rfl ?_
                    exact tr_iret g o dX5_count_193
                  · skip
                    refine tr_swOut g 194 dX5_count_8 (tn_swd (m := 8) (by exact tn_all9 hs0 hs1 hs2 hs3 hs4 hs5 hs6 hs7 hs8)) rfl ?_
                    refine tr_bipush (v := (-2)) g 196 dX5_count_194 rfl rfl ?_
                    exact tr_iret g o dX5_count_196
theorem ok_X5_count {E : tn_E} {l : Launch}   (a1 : Int32) {σ : tn_M} {r : Int32} {σ' : tn_M} (h : f_X5_count a1 σ = some (r, σ')) : tn_C E l yX5_count cX5_count 4 (some .int) (tn_rm 5 116) [.ref (tn_ad E 5), .int a1] σ (tn_ie r) σ' :=
  tn_met (by decide) (Nat.le_of_ble_eq_true rfl) (fun G _ g o => b_X5_count g o  a1 σ) h
theorem yy_X5_count : tn_Yv RX5 yX5_count cX5_count 4 (some .int) 1 := ⟨wd_1114, wd_1112, wd_1113, wd_70, by decide, by decide, by decide +kernel⟩
theorem kv_X5_count {E : tn_E} {G : tn_G} {cc : ByteArray} {own : String} {nL : Nat} {R : Room} {ρ : Type} {enc : ρ → Option Value} {pc : Nat} {lv : List (Nat × Value)} {st : List Value} {σ : tn_M} {kk : Int32 → tn_M → Option (ρ × tn_M)} {i : Nat}  {a1 : Int32} (g : tn_Ok E G cc own nL R)  (hw : Cond.methodLink own i yX5_count ∈ tn_T) (hroom : 6 ≤ R.frames ∧ 139 ≤ R.locals) (hW : (st.map fun v => v.category).sum ≤ 8) (n : Nat) (hd : decode cc pc = .ok (.invokevirtual i, 3)) (hn : pc + 3 = n) (k : ∀ r σ1, tn_V E G enc n lv (.int r :: st) σ1 (kk r σ1)) : tn_V E G enc pc lv (.int a1 :: .ref (tn_ad E 5) :: st) σ (tn_bd (f_X5_count a1 σ) kk) :=
  tr_callV (As := [.int a1]) (enc1 := tn_ie) g yy_X5_count hw (ci := 5) rfl (by decide) rfl (fun r σ1 h => ok_X5_count  a1 h) ⟨rfl, rfl⟩ ⟨hroom.1, by have h2 := hroom.2; show 8 + (4 + 11) + 116 ≤ R.locals; omega⟩ rfl rfl hW n hd hn k
/-! X5_digest -/
def F_X5_digest_262  (x1 : Int64) (σ : tn_M) : Option (Int64 × tn_M) :=
  tn_bd (f_X5_backNow σ) fun r2 σ1 =>
  some (((31 * x1) + (Int32.toInt64 r2)), σ1)
def F_X5_digest_236  : Nat → Int64 → Int32 → tn_M → Option (Int64 × tn_M)
  | 0, _, _, _ => none
  | tn_n + 1, x1, x3, σ => 
    if 8 ≤ x3 then
      F_X5_digest_262 x1 σ
    else
      tn_bd (f_X5_weeksOf 5 x3 σ) fun r2 σ1 =>
      tn_lt (α := Int64) ((31 * x1) + (Int32.toInt64 r2)) fun w3 =>
      F_X5_digest_236 tn_n w3 (x3 + 1) σ1
def F_X5_digest_169  (x1 : Int64) (σ : tn_M) : Option (Int64 × tn_M) :=
  tn_bd (f_X5_restOf (-1) σ) fun r2 σ1 =>
  tn_lt (α := Int64) ((31 * x1) + (Int32.toInt64 r2)) fun w3 =>
  tn_bd (f_X5_stillOf (-1) (-1) σ1) fun r5 σ4 =>
  tn_lt (α := Int64) ((31 * w3) + (Int32.toInt64 r5)) fun w6 =>
  tn_bd (f_X5_leastNow σ4) fun r8 σ7 =>
  tn_lt (α := Int64) ((31 * w6) + (Int32.toInt64 r8)) fun w9 =>
  tn_bd (f_X5_keepsOf 0 σ7) fun r11 σ10 =>
  tn_lt (α := Int64) ((31 * w9) + (Int32.toInt64 r11)) fun w12 =>
  tn_bd (f_X5_keepsOf 1 σ10) fun r14 σ13 =>
  tn_lt (α := Int64) ((31 * w12) + (Int32.toInt64 r14)) fun w15 =>
  F_X5_digest_236 tn_fuel w15 0 σ13
def F_X5_digest_141  : Nat → Int64 → Int32 → tn_M → Option (Int64 × tn_M)
  | 0, _, _, _ => none
  | tn_n + 1, x1, x3, σ => 
    if 4 ≤ x3 then
      F_X5_digest_169 x1 σ
    else
      tn_bd (f_X5_allOf (x3 / 2) (x3 - x3 / 2 * 2) σ) fun r2 σ1 =>
      tn_lt (α := Int64) ((31 * x1) + r2) fun w3 =>
      F_X5_digest_141 tn_n w3 (x3 + 1) σ1
def F_X5_digest_139  (x1 : Int64) (σ : tn_M) : Option (Int64 × tn_M) :=
  F_X5_digest_141 tn_fuel x1 0 σ
def F_X5_digest_45  : Nat → Int64 → Int32 → tn_M → Option (Int64 × tn_M)
  | 0, _, _, _ => none
  | tn_n + 1, x1, x3, σ => 
    if (σ.1 5 8) ≤ x3 then
      F_X5_digest_139 x1 σ
    else
      tn_bd (f_X5_earnsOf x3 0 σ) fun r2 σ1 =>
      tn_lt (α := Int64) ((31 * x1) + r2) fun w3 =>
      tn_bd (f_X5_earnsOf x3 1 σ1) fun r5 σ4 =>
      tn_lt (α := Int64) ((31 * w3) + r5) fun w6 =>
      tn_bd (f_X5_answerNow x3 σ4) fun r8 σ7 =>
      tn_lt (α := Int64) ((31 * w6) + (Int32.toInt64 r8)) fun w9 =>
      tn_bd (f_X5_restOf x3 σ7) fun r11 σ10 =>
      tn_lt (α := Int64) ((31 * w9) + (Int32.toInt64 r11)) fun w12 =>
      tn_bd (f_X5_bestOf 0 x3 σ10) fun r14 σ13 =>
      tn_lt (α := Int64) ((31 * w12) + (Int32.toInt64 r14)) fun w15 =>
      tn_bd (f_X5_bestOf 1 x3 σ13) fun r17 σ16 =>
      tn_lt (α := Int64) ((31 * w15) + (Int32.toInt64 r17)) fun w18 =>
      F_X5_digest_45 tn_n w18 (x3 + 1) σ16
def F_X5_digest_31  (x1 : Int64) (σ : tn_M) : Option (Int64 × tn_M) :=
  tn_bd (f_X5_reads σ) fun r2 σ1 =>
  tn_lt (α := Int64) ((31 * x1) + (Int32.toInt64 r2)) fun w3 =>
  F_X5_digest_45 tn_fuel w3 0 σ1
def F_X5_digest_6  : Nat → Int64 → Int32 → tn_M → Option (Int64 × tn_M)
  | 0, _, _, _ => none
  | tn_n + 1, x1, x3, σ => 
    if 8 ≤ x3 then
      F_X5_digest_31 x1 σ
    else
      tn_bd (f_X5_count x3 σ) fun r2 σ1 =>
      tn_lt (α := Int64) ((31 * x1) + (Int32.toInt64 r2)) fun w3 =>
      F_X5_digest_6 tn_n w3 (x3 + 1) σ1
def f_X5_digest   (σ : tn_M) : Option (Int64 × tn_M) :=
  F_X5_digest_6 tn_fuel 17 0 σ
set_option maxHeartbeats 4000000 in
set_option maxRecDepth 20000 in
theorem b_X5_digest_262 {E : tn_E} {G : tn_G} (g : tn_Ok E G cX5_digest RX5 4 (tn_rm 10 245)) (o : tn_Om E G (some .long))  (x1 : Int64) (σ : tn_M) : tn_V E G tn_le 262 [(0, .ref (tn_ad E 5)), (1, .long x1)] [] σ (F_X5_digest_262 x1 σ) := by
  unfold F_X5_digest_262
  refine tr_ldc2 (v := 31) g wd_1065 265 dX5_digest_262 rfl ?_
  refine tr_lload_n g 1 266 dX5_digest_265 rfl rfl rfl ?_
  refine tr_lmul g 267 dX5_digest_266 rfl ?_
  refine tr_aload_n g 0 268 dX5_digest_267 rfl rfl rfl ?_
  refine kv_X5_backNow g wd_1099 ⟨Nat.le_of_ble_eq_true rfl, Nat.le_of_ble_eq_true rfl⟩ (Nat.le_of_ble_eq_true rfl) 271 dX5_digest_268 rfl (fun r2 σ1 => ?_)
  refine tr_i2l g 272 dX5_digest_271 rfl ?_
  refine tr_ladd g 273 dX5_digest_272 rfl ?_
  exact tr_lret g o dX5_digest_273
set_option maxHeartbeats 4000000 in
set_option maxRecDepth 20000 in
theorem b_X5_digest_236 {E : tn_E} {G : tn_G} (g : tn_Ok E G cX5_digest RX5 4 (tn_rm 10 245)) (o : tn_Om E G (some .long))  : ∀ (n : Nat) (x1 : Int64) (x3 : Int32) (σ : tn_M), tn_V E G tn_le 236 [(0, .ref (tn_ad E 5)), (1, .long x1), (3, .int x3)] [] σ (F_X5_digest_236 n x1 x3 σ) := by
  intro n
  induction n with
  | zero => intros; exact tr_none
  | succ tn_n ih =>
    intro x1 x3 σ
    rw [F_X5_digest_236]
    refine tr_iload_n g 2 237 dX5_digest_236 rfl rfl rfl ?_
    refine tr_bipush (v := 8) g 239 dX5_digest_237 rfl rfl ?_
    refine tr_icmp_ge g 262 242 dX5_digest_239 rfl rfl ?_ ?_
    · refine tr_sub [0, 1] (lv' := [(0, .ref (tn_ad E 5)), (1, .long x1)]) rfl ?_
      exact b_X5_digest_262 g o  _ _
    · refine tr_ldc2 (v := 31) g wd_1065 245 dX5_digest_242 rfl ?_
      refine tr_lload_n g 1 246 dX5_digest_245 rfl rfl rfl ?_
      refine tr_lmul g 247 dX5_digest_246 rfl ?_
      refine tr_aload_n g 0 248 dX5_digest_247 rfl rfl rfl ?_
      refine tr_iconst (v := 5) g 249 dX5_digest_248 rfl rfl ?_
      refine tr_iload_n g 2 250 dX5_digest_249 rfl rfl rfl ?_
      refine kv_X5_weeksOf g wd_1087 ⟨Nat.le_of_ble_eq_true rfl, Nat.le_of_ble_eq_true rfl⟩ (Nat.le_of_ble_eq_true rfl) 253 dX5_digest_250 rfl (fun r2 σ1 => ?_)
      refine tr_i2l g 254 dX5_digest_253 rfl ?_
      refine tr_ladd g 255 dX5_digest_254 rfl ?_
      refine tr_ltl (fun w3 => ?_)
      refine tr_lstore_n (lv' := [(1, .long w3), (0, .ref (tn_ad E 5)), (3, .int x3)]) g 256 dX5_digest_255 rfl rfl (by decide) rfl ?_
      refine tr_iinc (lv' := [(3, .int (x3 + 1)), (1, .long w3), (0, .ref (tn_ad E 5))]) (x := (x3 + 1)) g 2 259 dX5_digest_256 rfl rfl rfl (by decide) rfl ?_
      refine tr_goto g 236 dX5_digest_259 rfl ?_
      refine tr_sub [2, 1, 0] (lv' := [(0, .ref (tn_ad E 5)), (1, .long w3), (3, .int (x3 + 1))]) rfl ?_
      exact ih _ _ _
set_option maxHeartbeats 4000000 in
set_option maxRecDepth 20000 in
theorem b_X5_digest_169 {E : tn_E} {G : tn_G} (g : tn_Ok E G cX5_digest RX5 4 (tn_rm 10 245)) (o : tn_Om E G (some .long))  (x1 : Int64) (σ : tn_M) : tn_V E G tn_le 169 [(0, .ref (tn_ad E 5)), (1, .long x1)] [] σ (F_X5_digest_169 x1 σ) := by
  unfold F_X5_digest_169
  refine tr_ldc2 (v := 31) g wd_1065 172 dX5_digest_169 rfl ?_
  refine tr_lload_n g 1 173 dX5_digest_172 rfl rfl rfl ?_
  refine tr_lmul g 174 dX5_digest_173 rfl ?_
  refine tr_aload_n g 0 175 dX5_digest_174 rfl rfl rfl ?_
  refine tr_iconst (v := (-1)) g 176 dX5_digest_175 rfl rfl ?_
  refine kv_X5_restOf g wd_997 ⟨Nat.le_of_ble_eq_true rfl, Nat.le_of_ble_eq_true rfl⟩ (Nat.le_of_ble_eq_true rfl) 179 dX5_digest_176 rfl (fun r2 σ1 => ?_)
  refine tr_i2l g 180 dX5_digest_179 rfl ?_
  refine tr_ladd g 181 dX5_digest_180 rfl ?_
  refine tr_ltl (fun w3 => ?_)
  refine tr_lstore_n (lv' := [(1, .long w3), (0, .ref (tn_ad E 5))]) g 182 dX5_digest_181 rfl rfl (by decide) rfl ?_
  refine tr_ldc2 (v := 31) g wd_1065 185 dX5_digest_182 rfl ?_
  refine tr_lload_n g 0 186 dX5_digest_185 rfl rfl rfl ?_
  refine tr_lmul g 187 dX5_digest_186 rfl ?_
  refine tr_aload_n g 1 188 dX5_digest_187 rfl rfl rfl ?_
  refine tr_iconst (v := (-1)) g 189 dX5_digest_188 rfl rfl ?_
  refine tr_iconst (v := (-1)) g 190 dX5_digest_189 rfl rfl ?_
  refine kv_X5_stillOf g wd_1013 ⟨Nat.le_of_ble_eq_true rfl, Nat.le_of_ble_eq_true rfl⟩ (Nat.le_of_ble_eq_true rfl) 193 dX5_digest_190 rfl (fun r5 σ4 => ?_)
  refine tr_i2l g 194 dX5_digest_193 rfl ?_
  refine tr_ladd g 195 dX5_digest_194 rfl ?_
  refine tr_ltl (fun w6 => ?_)
  refine tr_lstore_n (lv' := [(1, .long w6), (0, .ref (tn_ad E 5))]) g 196 dX5_digest_195 rfl rfl (by decide) rfl ?_
  refine tr_ldc2 (v := 31) g wd_1065 199 dX5_digest_196 rfl ?_
  refine tr_lload_n g 0 200 dX5_digest_199 rfl rfl rfl ?_
  refine tr_lmul g 201 dX5_digest_200 rfl ?_
  refine tr_aload_n g 1 202 dX5_digest_201 rfl rfl rfl ?_
  refine kv_X5_leastNow g wd_1045 ⟨Nat.le_of_ble_eq_true rfl, Nat.le_of_ble_eq_true rfl⟩ (Nat.le_of_ble_eq_true rfl) 205 dX5_digest_202 rfl (fun r8 σ7 => ?_)
  refine tr_i2l g 206 dX5_digest_205 rfl ?_
  refine tr_ladd g 207 dX5_digest_206 rfl ?_
  refine tr_ltl (fun w9 => ?_)
  refine tr_lstore_n (lv' := [(1, .long w9), (0, .ref (tn_ad E 5))]) g 208 dX5_digest_207 rfl rfl (by decide) rfl ?_
  refine tr_ldc2 (v := 31) g wd_1065 211 dX5_digest_208 rfl ?_
  refine tr_lload_n g 0 212 dX5_digest_211 rfl rfl rfl ?_
  refine tr_lmul g 213 dX5_digest_212 rfl ?_
  refine tr_aload_n g 1 214 dX5_digest_213 rfl rfl rfl ?_
  refine tr_iconst (v := 0) g 215 dX5_digest_214 rfl rfl ?_
  refine kv_X5_keepsOf g wd_1070 ⟨Nat.le_of_ble_eq_true rfl, Nat.le_of_ble_eq_true rfl⟩ (Nat.le_of_ble_eq_true rfl) 218 dX5_digest_215 rfl (fun r11 σ10 => ?_)
  refine tr_i2l g 219 dX5_digest_218 rfl ?_
  refine tr_ladd g 220 dX5_digest_219 rfl ?_
  refine tr_ltl (fun w12 => ?_)
  refine tr_lstore_n (lv' := [(1, .long w12), (0, .ref (tn_ad E 5))]) g 221 dX5_digest_220 rfl rfl (by decide) rfl ?_
  refine tr_ldc2 (v := 31) g wd_1065 224 dX5_digest_221 rfl ?_
  refine tr_lload_n g 0 225 dX5_digest_224 rfl rfl rfl ?_
  refine tr_lmul g 226 dX5_digest_225 rfl ?_
  refine tr_aload_n g 1 227 dX5_digest_226 rfl rfl rfl ?_
  refine tr_iconst (v := 1) g 228 dX5_digest_227 rfl rfl ?_
  refine kv_X5_keepsOf g wd_1070 ⟨Nat.le_of_ble_eq_true rfl, Nat.le_of_ble_eq_true rfl⟩ (Nat.le_of_ble_eq_true rfl) 231 dX5_digest_228 rfl (fun r14 σ13 => ?_)
  refine tr_i2l g 232 dX5_digest_231 rfl ?_
  refine tr_ladd g 233 dX5_digest_232 rfl ?_
  refine tr_ltl (fun w15 => ?_)
  refine tr_lstore_n (lv' := [(1, .long w15), (0, .ref (tn_ad E 5))]) g 234 dX5_digest_233 rfl rfl (by decide) rfl ?_
  refine tr_iconst (v := 0) g 235 dX5_digest_234 rfl rfl ?_
  refine tr_istore_n (lv' := [(3, .int 0), (1, .long w15), (0, .ref (tn_ad E 5))]) g 236 dX5_digest_235 rfl rfl (by decide) rfl ?_
  refine tr_sub [2, 1, 0] (lv' := [(0, .ref (tn_ad E 5)), (1, .long w15), (3, .int 0)]) rfl ?_
  exact b_X5_digest_236 g o  tn_fuel _ _ _
set_option maxHeartbeats 4000000 in
set_option maxRecDepth 20000 in
theorem b_X5_digest_141 {E : tn_E} {G : tn_G} (g : tn_Ok E G cX5_digest RX5 4 (tn_rm 10 245)) (o : tn_Om E G (some .long))  : ∀ (n : Nat) (x1 : Int64) (x3 : Int32) (σ : tn_M), tn_V E G tn_le 141 [(0, .ref (tn_ad E 5)), (1, .long x1), (3, .int x3)] [] σ (F_X5_digest_141 n x1 x3 σ) := by
  intro n
  induction n with
  | zero => intros; exact tr_none
  | succ tn_n ih =>
    intro x1 x3 σ
    rw [F_X5_digest_141]
    refine tr_iload_n g 2 142 dX5_digest_141 rfl rfl rfl ?_
    refine tr_iconst (v := 4) g 143 dX5_digest_142 rfl rfl ?_
    refine tr_icmp_ge g 169 146 dX5_digest_143 rfl rfl ?_ ?_
    · refine tr_sub [0, 1] (lv' := [(0, .ref (tn_ad E 5)), (1, .long x1)]) rfl ?_
      exact b_X5_digest_169 g o  _ _
    · refine tr_ldc2 (v := 31) g wd_1065 149 dX5_digest_146 rfl ?_
      refine tr_lload_n g 1 150 dX5_digest_149 rfl rfl rfl ?_
      refine tr_lmul g 151 dX5_digest_150 rfl ?_
      refine tr_aload_n g 0 152 dX5_digest_151 rfl rfl rfl ?_
      refine tr_iload_n g 2 153 dX5_digest_152 rfl rfl rfl ?_
      refine tr_iconst (v := 2) g 154 dX5_digest_153 rfl rfl ?_
      refine tr_idivK g 155 dX5_digest_154 rfl (by decide) ?_
      refine tr_iload_n g 2 156 dX5_digest_155 rfl rfl rfl ?_
      refine tr_iconst (v := 2) g 157 dX5_digest_156 rfl rfl ?_
      refine tr_iremK g 158 dX5_digest_157 rfl (by decide) ?_
      refine kv_X5_allOf g wd_969 ⟨Nat.le_of_ble_eq_true rfl, Nat.le_of_ble_eq_true rfl⟩ (Nat.le_of_ble_eq_true rfl) 161 dX5_digest_158 rfl (fun r2 σ1 => ?_)
      refine tr_ladd g 162 dX5_digest_161 rfl ?_
      refine tr_ltl (fun w3 => ?_)
      refine tr_lstore_n (lv' := [(1, .long w3), (0, .ref (tn_ad E 5)), (3, .int x3)]) g 163 dX5_digest_162 rfl rfl (by decide) rfl ?_
      refine tr_iinc (lv' := [(3, .int (x3 + 1)), (1, .long w3), (0, .ref (tn_ad E 5))]) (x := (x3 + 1)) g 2 166 dX5_digest_163 rfl rfl rfl (by decide) rfl ?_
      refine tr_goto g 141 dX5_digest_166 rfl ?_
      refine tr_sub [2, 1, 0] (lv' := [(0, .ref (tn_ad E 5)), (1, .long w3), (3, .int (x3 + 1))]) rfl ?_
      exact ih _ _ _
set_option maxHeartbeats 4000000 in
set_option maxRecDepth 20000 in
theorem b_X5_digest_139 {E : tn_E} {G : tn_G} (g : tn_Ok E G cX5_digest RX5 4 (tn_rm 10 245)) (o : tn_Om E G (some .long))  (x1 : Int64) (σ : tn_M) : tn_V E G tn_le 139 [(0, .ref (tn_ad E 5)), (1, .long x1)] [] σ (F_X5_digest_139 x1 σ) := by
  unfold F_X5_digest_139
  refine tr_iconst (v := 0) g 140 dX5_digest_139 rfl rfl ?_
  refine tr_istore_n (lv' := [(3, .int 0), (0, .ref (tn_ad E 5)), (1, .long x1)]) g 141 dX5_digest_140 rfl rfl (by decide) rfl ?_
  refine tr_sub [1, 2, 0] (lv' := [(0, .ref (tn_ad E 5)), (1, .long x1), (3, .int 0)]) rfl ?_
  exact b_X5_digest_141 g o  tn_fuel _ _ _
set_option maxHeartbeats 4000000 in
set_option maxRecDepth 20000 in
theorem b_X5_digest_45 {E : tn_E} {G : tn_G} (g : tn_Ok E G cX5_digest RX5 4 (tn_rm 10 245)) (o : tn_Om E G (some .long))  : ∀ (n : Nat) (x1 : Int64) (x3 : Int32) (σ : tn_M), tn_V E G tn_le 45 [(0, .ref (tn_ad E 5)), (1, .long x1), (3, .int x3)] [] σ (F_X5_digest_45 n x1 x3 σ) := by
  intro n
  induction n with
  | zero => intros; exact tr_none
  | succ tn_n ih =>
    intro x1 x3 σ
    rw [F_X5_digest_45]
    refine tr_iload_n g 2 46 dX5_digest_45 rfl rfl rfl ?_
    refine tr_aload_n g 0 47 dX5_digest_46 rfl rfl rfl ?_
    refine gf_X5_8 g wd_712 50 dX5_digest_47 rfl ?_
    refine tr_icmp_ge g 139 53 dX5_digest_50 rfl rfl ?_ ?_
    · refine tr_sub [0, 1] (lv' := [(0, .ref (tn_ad E 5)), (1, .long x1)]) rfl ?_
      exact b_X5_digest_139 g o  _ _
    · refine tr_ldc2 (v := 31) g wd_1065 56 dX5_digest_53 rfl ?_
      refine tr_lload_n g 1 57 dX5_digest_56 rfl rfl rfl ?_
      refine tr_lmul g 58 dX5_digest_57 rfl ?_
      refine tr_aload_n g 0 59 dX5_digest_58 rfl rfl rfl ?_
      refine tr_iload_n g 2 60 dX5_digest_59 rfl rfl rfl ?_
      refine tr_iconst (v := 0) g 61 dX5_digest_60 rfl rfl ?_
      refine kv_X5_earnsOf g wd_927 ⟨Nat.le_of_ble_eq_true rfl, Nat.le_of_ble_eq_true rfl⟩ (Nat.le_of_ble_eq_true rfl) 64 dX5_digest_61 rfl (fun r2 σ1 => ?_)
      refine tr_ladd g 65 dX5_digest_64 rfl ?_
      refine tr_ltl (fun w3 => ?_)
      refine tr_lstore_n (lv' := [(1, .long w3), (0, .ref (tn_ad E 5)), (3, .int x3)]) g 66 dX5_digest_65 rfl rfl (by decide) rfl ?_
      refine tr_ldc2 (v := 31) g wd_1065 69 dX5_digest_66 rfl ?_
      refine tr_lload_n g 0 70 dX5_digest_69 rfl rfl rfl ?_
      refine tr_lmul g 71 dX5_digest_70 rfl ?_
      refine tr_aload_n g 1 72 dX5_digest_71 rfl rfl rfl ?_
      refine tr_iload_n g 2 73 dX5_digest_72 rfl rfl rfl ?_
      refine tr_iconst (v := 1) g 74 dX5_digest_73 rfl rfl ?_
      refine kv_X5_earnsOf g wd_927 ⟨Nat.le_of_ble_eq_true rfl, Nat.le_of_ble_eq_true rfl⟩ (Nat.le_of_ble_eq_true rfl) 77 dX5_digest_74 rfl (fun r5 σ4 => ?_)
      refine tr_ladd g 78 dX5_digest_77 rfl ?_
      refine tr_ltl (fun w6 => ?_)
      refine tr_lstore_n (lv' := [(1, .long w6), (0, .ref (tn_ad E 5)), (3, .int x3)]) g 79 dX5_digest_78 rfl rfl (by decide) rfl ?_
      refine tr_ldc2 (v := 31) g wd_1065 82 dX5_digest_79 rfl ?_
      refine tr_lload_n g 0 83 dX5_digest_82 rfl rfl rfl ?_
      refine tr_lmul g 84 dX5_digest_83 rfl ?_
      refine tr_aload_n g 1 85 dX5_digest_84 rfl rfl rfl ?_
      refine tr_iload_n g 2 86 dX5_digest_85 rfl rfl rfl ?_
      refine kv_X5_answerNow g wd_981 ⟨Nat.le_of_ble_eq_true rfl, Nat.le_of_ble_eq_true rfl⟩ (Nat.le_of_ble_eq_true rfl) 89 dX5_digest_86 rfl (fun r8 σ7 => ?_)
      refine tr_i2l g 90 dX5_digest_89 rfl ?_
      refine tr_ladd g 91 dX5_digest_90 rfl ?_
      refine tr_ltl (fun w9 => ?_)
      refine tr_lstore_n (lv' := [(1, .long w9), (0, .ref (tn_ad E 5)), (3, .int x3)]) g 92 dX5_digest_91 rfl rfl (by decide) rfl ?_
      refine tr_ldc2 (v := 31) g wd_1065 95 dX5_digest_92 rfl ?_
      refine tr_lload_n g 0 96 dX5_digest_95 rfl rfl rfl ?_
      refine tr_lmul g 97 dX5_digest_96 rfl ?_
      refine tr_aload_n g 1 98 dX5_digest_97 rfl rfl rfl ?_
      refine tr_iload_n g 2 99 dX5_digest_98 rfl rfl rfl ?_
      refine kv_X5_restOf g wd_997 ⟨Nat.le_of_ble_eq_true rfl, Nat.le_of_ble_eq_true rfl⟩ (Nat.le_of_ble_eq_true rfl) 102 dX5_digest_99 rfl (fun r11 σ10 => ?_)
      refine tr_i2l g 103 dX5_digest_102 rfl ?_
      refine tr_ladd g 104 dX5_digest_103 rfl ?_
      refine tr_ltl (fun w12 => ?_)
      refine tr_lstore_n (lv' := [(1, .long w12), (0, .ref (tn_ad E 5)), (3, .int x3)]) g 105 dX5_digest_104 rfl rfl (by decide) rfl ?_
      refine tr_ldc2 (v := 31) g wd_1065 108 dX5_digest_105 rfl ?_
      refine tr_lload_n g 0 109 dX5_digest_108 rfl rfl rfl ?_
      refine tr_lmul g 110 dX5_digest_109 rfl ?_
      refine tr_aload_n g 1 111 dX5_digest_110 rfl rfl rfl ?_
      refine tr_iconst (v := 0) g 112 dX5_digest_111 rfl rfl ?_
      refine tr_iload_n g 2 113 dX5_digest_112 rfl rfl rfl ?_
      refine kv_X5_bestOf g wd_1029 ⟨Nat.le_of_ble_eq_true rfl, Nat.le_of_ble_eq_true rfl⟩ (Nat.le_of_ble_eq_true rfl) 116 dX5_digest_113 rfl (fun r14 σ13 => ?_)
      refine tr_i2l g 117 dX5_digest_116 rfl ?_
      refine tr_ladd g 118 dX5_digest_117 rfl ?_
      refine tr_ltl (fun w15 => ?_)
      refine tr_lstore_n (lv' := [(1, .long w15), (0, .ref (tn_ad E 5)), (3, .int x3)]) g 119 dX5_digest_118 rfl rfl (by decide) rfl ?_
      refine tr_ldc2 (v := 31) g wd_1065 122 dX5_digest_119 rfl ?_
      refine tr_lload_n g 0 123 dX5_digest_122 rfl rfl rfl ?_
      refine tr_lmul g 124 dX5_digest_123 rfl ?_
      refine tr_aload_n g 1 125 dX5_digest_124 rfl rfl rfl ?_
      refine tr_iconst (v := 1) g 126 dX5_digest_125 rfl rfl ?_
      refine tr_iload_n g 2 127 dX5_digest_126 rfl rfl rfl ?_
      refine kv_X5_bestOf g wd_1029 ⟨Nat.le_of_ble_eq_true rfl, Nat.le_of_ble_eq_true rfl⟩ (Nat.le_of_ble_eq_true rfl) 130 dX5_digest_127 rfl (fun r17 σ16 => ?_)
      refine tr_i2l g 131 dX5_digest_130 rfl ?_
      refine tr_ladd g 132 dX5_digest_131 rfl ?_
      refine tr_ltl (fun w18 => ?_)
      refine tr_lstore_n (lv' := [(1, .long w18), (0, .ref (tn_ad E 5)), (3, .int x3)]) g 133 dX5_digest_132 rfl rfl (by decide) rfl ?_
      refine tr_iinc (lv' := [(3, .int (x3 + 1)), (1, .long w18), (0, .ref (tn_ad E 5))]) (x := (x3 + 1)) g 2 136 dX5_digest_133 rfl rfl rfl (by decide) rfl ?_
      refine tr_goto g 45 dX5_digest_136 rfl ?_
      refine tr_sub [2, 1, 0] (lv' := [(0, .ref (tn_ad E 5)), (1, .long w18), (3, .int (x3 + 1))]) rfl ?_
      exact ih _ _ _
set_option maxHeartbeats 4000000 in
set_option maxRecDepth 20000 in
theorem b_X5_digest_31 {E : tn_E} {G : tn_G} (g : tn_Ok E G cX5_digest RX5 4 (tn_rm 10 245)) (o : tn_Om E G (some .long))  (x1 : Int64) (σ : tn_M) : tn_V E G tn_le 31 [(0, .ref (tn_ad E 5)), (1, .long x1)] [] σ (F_X5_digest_31 x1 σ) := by
  unfold F_X5_digest_31
  refine tr_ldc2 (v := 31) g wd_1065 34 dX5_digest_31 rfl ?_
  refine tr_lload_n g 1 35 dX5_digest_34 rfl rfl rfl ?_
  refine tr_lmul g 36 dX5_digest_35 rfl ?_
  refine tr_aload_n g 0 37 dX5_digest_36 rfl rfl rfl ?_
  refine kv_X5_reads g wd_839 ⟨Nat.le_of_ble_eq_true rfl, Nat.le_of_ble_eq_true rfl⟩ (Nat.le_of_ble_eq_true rfl) 40 dX5_digest_37 rfl (fun r2 σ1 => ?_)
  refine tr_i2l g 41 dX5_digest_40 rfl ?_
  refine tr_ladd g 42 dX5_digest_41 rfl ?_
  refine tr_ltl (fun w3 => ?_)
  refine tr_lstore_n (lv' := [(1, .long w3), (0, .ref (tn_ad E 5))]) g 43 dX5_digest_42 rfl rfl (by decide) rfl ?_
  refine tr_iconst (v := 0) g 44 dX5_digest_43 rfl rfl ?_
  refine tr_istore_n (lv' := [(3, .int 0), (1, .long w3), (0, .ref (tn_ad E 5))]) g 45 dX5_digest_44 rfl rfl (by decide) rfl ?_
  refine tr_sub [2, 1, 0] (lv' := [(0, .ref (tn_ad E 5)), (1, .long w3), (3, .int 0)]) rfl ?_
  exact b_X5_digest_45 g o  tn_fuel _ _ _
set_option maxHeartbeats 4000000 in
set_option maxRecDepth 20000 in
theorem b_X5_digest_6 {E : tn_E} {G : tn_G} (g : tn_Ok E G cX5_digest RX5 4 (tn_rm 10 245)) (o : tn_Om E G (some .long))  : ∀ (n : Nat) (x1 : Int64) (x3 : Int32) (σ : tn_M), tn_V E G tn_le 6 [(0, .ref (tn_ad E 5)), (1, .long x1), (3, .int x3)] [] σ (F_X5_digest_6 n x1 x3 σ) := by
  intro n
  induction n with
  | zero => intros; exact tr_none
  | succ tn_n ih =>
    intro x1 x3 σ
    rw [F_X5_digest_6]
    refine tr_iload_n g 2 7 dX5_digest_6 rfl rfl rfl ?_
    refine tr_bipush (v := 8) g 9 dX5_digest_7 rfl rfl ?_
    refine tr_icmp_ge g 31 12 dX5_digest_9 rfl rfl ?_ ?_
    · refine tr_sub [0, 1] (lv' := [(0, .ref (tn_ad E 5)), (1, .long x1)]) rfl ?_
      exact b_X5_digest_31 g o  _ _
    · refine tr_ldc2 (v := 31) g wd_1065 15 dX5_digest_12 rfl ?_
      refine tr_lload_n g 1 16 dX5_digest_15 rfl rfl rfl ?_
      refine tr_lmul g 17 dX5_digest_16 rfl ?_
      refine tr_aload_n g 0 18 dX5_digest_17 rfl rfl rfl ?_
      refine tr_iload_n g 2 19 dX5_digest_18 rfl rfl rfl ?_
      refine kv_X5_count g wd_1120 ⟨Nat.le_of_ble_eq_true rfl, Nat.le_of_ble_eq_true rfl⟩ (Nat.le_of_ble_eq_true rfl) 22 dX5_digest_19 rfl (fun r2 σ1 => ?_)
      refine tr_i2l g 23 dX5_digest_22 rfl ?_
      refine tr_ladd g 24 dX5_digest_23 rfl ?_
      refine tr_ltl (fun w3 => ?_)
      refine tr_lstore_n (lv' := [(1, .long w3), (0, .ref (tn_ad E 5)), (3, .int x3)]) g 25 dX5_digest_24 rfl rfl (by decide) rfl ?_
      refine tr_iinc (lv' := [(3, .int (x3 + 1)), (1, .long w3), (0, .ref (tn_ad E 5))]) (x := (x3 + 1)) g 2 28 dX5_digest_25 rfl rfl rfl (by decide) rfl ?_
      refine tr_goto g 6 dX5_digest_28 rfl ?_
      refine tr_sub [2, 1, 0] (lv' := [(0, .ref (tn_ad E 5)), (1, .long w3), (3, .int (x3 + 1))]) rfl ?_
      exact ih _ _ _
set_option maxHeartbeats 4000000 in
set_option maxRecDepth 20000 in
theorem b_X5_digest {E : tn_E} {G : tn_G} (g : tn_Ok E G cX5_digest RX5 4 (tn_rm 10 245)) (o : tn_Om E G (some .long))   (σ : tn_M) : tn_V E G tn_le 0 [(0, .ref (tn_ad E 5))] [] σ (f_X5_digest σ) := by
  unfold f_X5_digest
  refine tr_ldc2 (v := 17) g wd_1119 3 dX5_digest_0 rfl ?_
  refine tr_lstore_n (lv' := [(1, .long 17), (0, .ref (tn_ad E 5))]) g 4 dX5_digest_3 rfl rfl (by decide) rfl ?_
  refine tr_iconst (v := 0) g 5 dX5_digest_4 rfl rfl ?_
  refine tr_istore_n (lv' := [(3, .int 0), (1, .long 17), (0, .ref (tn_ad E 5))]) g 6 dX5_digest_5 rfl rfl (by decide) rfl ?_
  refine tr_sub [2, 1, 0] (lv' := [(0, .ref (tn_ad E 5)), (1, .long 17), (3, .int 0)]) rfl ?_
  exact b_X5_digest_6 g o  tn_fuel _ _ _
theorem ok_X5_digest {E : tn_E} {l : Launch}    {σ : tn_M} {r : Int64} {σ' : tn_M} (h : f_X5_digest  σ = some (r, σ')) : tn_C E l yX5_digest cX5_digest 4 (some .long) (tn_rm 10 245) [.ref (tn_ad E 5)] σ (tn_le r) σ' :=
  tn_met (by decide) (Nat.le_of_ble_eq_true rfl) (fun G _ g o => b_X5_digest g o   σ) h
theorem yy_X5_digest : tn_Yv RX5 yX5_digest cX5_digest 4 (some .long) 0 := ⟨wd_1118, wd_1116, wd_1117, wd_70, by decide, by decide, by decide +kernel⟩
theorem kv_X5_digest {E : tn_E} {G : tn_G} {cc : ByteArray} {own : String} {nL : Nat} {R : Room} {ρ : Type} {enc : ρ → Option Value} {pc : Nat} {lv : List (Nat × Value)} {st : List Value} {σ : tn_M} {kk : Int64 → tn_M → Option (ρ × tn_M)} {i : Nat}   (g : tn_Ok E G cc own nL R)  (hw : Cond.methodLink own i yX5_digest ∈ tn_T) (hroom : 11 ≤ R.frames ∧ 268 ≤ R.locals) (hW : (st.map fun v => v.category).sum ≤ 8) (n : Nat) (hd : decode cc pc = .ok (.invokevirtual i, 3)) (hn : pc + 3 = n) (k : ∀ r σ1, tn_V E G enc n lv (.long r :: st) σ1 (kk r σ1)) : tn_V E G enc pc lv (.ref (tn_ad E 5) :: st) σ (tn_bd (f_X5_digest  σ) kk) :=
  tr_callV (As := []) (enc1 := tn_le) g yy_X5_digest hw (ci := 5) rfl (by decide) rfl (fun r σ1 h => ok_X5_digest   h) ⟨rfl, rfl⟩ ⟨hroom.1, by have h2 := hroom.2; show 8 + (4 + 11) + 245 ≤ R.locals; omega⟩ rfl rfl hW n hd hn k

/-! X1_noSheet -/
def f_X1_noSheet  (a0 : Int32) (σ : tn_M) : Option (Int32 × tn_M) :=
  if a0 < 0 then
    some (1, σ)
  else
    if a0 < 4 then
      some (0, σ)
    else
      some (1, σ)
set_option maxHeartbeats 4000000 in
set_option maxRecDepth 20000 in
theorem b_X1_noSheet {E : tn_E} {G : tn_G} (g : tn_Ok E G cX1_noSheet RX1 1 (tn_rm 0 0)) (o : tn_Om E G (some .boolean))  (a0 : Int32) (σ : tn_M) : tn_V E G tn_ie 0 [(0, .int a0)] [] σ (f_X1_noSheet a0 σ) := by
  unfold f_X1_noSheet
  refine tr_iload_n g 0 1 dX1_noSheet_0 rfl rfl rfl ?_
  refine tr_if_lt g 9 4 dX1_noSheet_1 rfl rfl ?_ ?_
  · refine tr_iconst (v := 1) g 10 dX1_noSheet_9 rfl rfl ?_
    refine tr_goto g 14 dX1_noSheet_10 rfl ?_
    exact tr_zret g o rfl dX1_noSheet_14
  · refine tr_iload_n g 0 5 dX1_noSheet_4 rfl rfl rfl ?_
    refine tr_iconst (v := 4) g 6 dX1_noSheet_5 rfl rfl ?_
    refine tr_icmp_lt g 13 9 dX1_noSheet_6 rfl rfl ?_ ?_
    · refine tr_iconst (v := 0) g 14 dX1_noSheet_13 rfl rfl ?_
      exact tr_zret g o rfl dX1_noSheet_14
    · refine tr_iconst (v := 1) g 10 dX1_noSheet_9 rfl rfl ?_
      refine tr_goto g 14 dX1_noSheet_10 rfl ?_
      exact tr_zret g o rfl dX1_noSheet_14
theorem ok_X1_noSheet {E : tn_E} {l : Launch}   (a0 : Int32) {σ : tn_M} {r : Int32} {σ' : tn_M} (h : f_X1_noSheet a0 σ = some (r, σ')) : tn_C E l yX1_noSheet cX1_noSheet 1 (some .boolean) (tn_rm 0 0) [.int a0] σ (tn_ie r) σ' :=
  tn_met (by decide) (Nat.le_of_ble_eq_true rfl) (fun G _ g o => b_X1_noSheet g o  a0 σ) h
theorem yy_X1_noSheet : tn_Ys yX1_noSheet cX1_noSheet 1 (some .boolean) 1 := ⟨wd_342, wd_341, wd_69, by decide, by decide, by decide +kernel⟩
theorem kv_X1_noSheet {E : tn_E} {G : tn_G} {cc : ByteArray} {own : String} {nL : Nat} {R : Room} {ρ : Type} {enc : ρ → Option Value} {pc : Nat} {lv : List (Nat × Value)} {st : List Value} {σ : tn_M} {kk : Int32 → tn_M → Option (ρ × tn_M)} {i : Nat}  {a0 : Int32} (g : tn_Ok E G cc own nL R)  (hw : Cond.methodLink own i yX1_noSheet ∈ tn_T) (hroom : 1 ≤ R.frames ∧ 20 ≤ R.locals) (hW : (st.map fun v => v.category).sum ≤ 8) (n : Nat) (hd : decode cc pc = .ok (.invokestatic i, 3)) (hn : pc + 3 = n) (k : ∀ r σ1, tn_V E G enc n lv (.int r :: st) σ1 (kk r σ1)) : tn_V E G enc pc lv (.int a0 :: st) σ (tn_bd (f_X1_noSheet a0 σ) kk) :=
  tr_callS (As := [.int a0]) (enc1 := tn_ie) g yy_X1_noSheet hw (fun r σ1 h => ok_X1_noSheet  a0 h) ⟨rfl, rfl⟩ ⟨hroom.1, by have h2 := hroom.2; show 8 + (1 + 11) + 0 ≤ R.locals; omega⟩ rfl rfl hW n hd hn k
/-! X1_finding -/
def f_X1_finding  (a1 : Int32) (σ : tn_M) : Option (Int32 × tn_M) :=
  tn_lt (tn_si σ 4 3 a1) fun σ1 =>
  some (((-10) - a1), σ1)
set_option maxHeartbeats 4000000 in
set_option maxRecDepth 20000 in
theorem b_X1_finding {E : tn_E} {G : tn_G} (g : tn_Ok E G cX1_finding RX1 2 (tn_rm 0 0)) (o : tn_Om E G (some .int))  (a1 : Int32) (σ : tn_M) : tn_V E G tn_ie 0 [(0, .ref (tn_ad E 4)), (1, .int a1)] [] σ (f_X1_finding a1 σ) := by
  unfold f_X1_finding
  refine tr_aload_n g 0 1 dX1_finding_0 rfl rfl rfl ?_
  refine tr_iload_n g 1 2 dX1_finding_1 rfl rfl rfl ?_
  refine pf_X1_3 g wd_214 5 dX1_finding_2 rfl (fun σ1 => ?_)
  refine tr_bipush (v := (-10)) g 7 dX1_finding_5 rfl rfl ?_
  refine tr_iload_n g 1 8 dX1_finding_7 rfl rfl rfl ?_
  refine tr_isub g 9 dX1_finding_8 rfl ?_
  exact tr_iret g o dX1_finding_9
theorem ok_X1_finding {E : tn_E} {l : Launch}   (a1 : Int32) {σ : tn_M} {r : Int32} {σ' : tn_M} (h : f_X1_finding a1 σ = some (r, σ')) : tn_C E l yX1_finding cX1_finding 2 (some .int) (tn_rm 0 0) [.ref (tn_ad E 4), .int a1] σ (tn_ie r) σ' :=
  tn_met (by decide) (Nat.le_of_ble_eq_true rfl) (fun G _ g o => b_X1_finding g o  a1 σ) h
theorem yy_X1_finding : tn_Yv RX1 yX1_finding cX1_finding 2 (some .int) 1 := ⟨wd_346, wd_344, wd_345, wd_69, by decide, by decide, by decide +kernel⟩
theorem kv_X1_finding {E : tn_E} {G : tn_G} {cc : ByteArray} {own : String} {nL : Nat} {R : Room} {ρ : Type} {enc : ρ → Option Value} {pc : Nat} {lv : List (Nat × Value)} {st : List Value} {σ : tn_M} {kk : Int32 → tn_M → Option (ρ × tn_M)} {i : Nat}  {a1 : Int32} (g : tn_Ok E G cc own nL R)  (hw : Cond.methodLink own i yX1_finding ∈ tn_T) (hroom : 1 ≤ R.frames ∧ 21 ≤ R.locals) (hW : (st.map fun v => v.category).sum ≤ 8) (n : Nat) (hd : decode cc pc = .ok (.invokevirtual i, 3)) (hn : pc + 3 = n) (k : ∀ r σ1, tn_V E G enc n lv (.int r :: st) σ1 (kk r σ1)) : tn_V E G enc pc lv (.int a1 :: .ref (tn_ad E 4) :: st) σ (tn_bd (f_X1_finding a1 σ) kk) :=
  tr_callV (As := [.int a1]) (enc1 := tn_ie) g yy_X1_finding hw (ci := 1) rfl (by decide) rfl (fun r σ1 h => ok_X1_finding  a1 h) ⟨rfl, rfl⟩ ⟨hroom.1, by have h2 := hroom.2; show 8 + (2 + 11) + 0 ≤ R.locals; omega⟩ rfl rfl hW n hd hn k
/-! X1_refusal -/
def f_X1_refusal  (a1 : Int32) (σ : tn_M) : Option (Int32 × tn_M) :=
  tn_bd (f_X1_noSheet a1 σ) fun r2 σ1 =>
  if r2 = 0 then
    tn_ck a1 4 <|
    if (σ1.1 26 (tn_x a1)) = (-1) then
      tn_bd (f_X1_finding 1 σ1) fun r4 σ3 =>
      some (r4, σ3)
    else
      some (0, σ1)
  else
    some ((-2), σ1)
set_option maxHeartbeats 4000000 in
set_option maxRecDepth 20000 in
theorem b_X1_refusal {E : tn_E} {G : tn_G} (g : tn_Ok E G cX1_refusal RX1 2 (tn_rm 1 21)) (o : tn_Om E G (some .int))  (a1 : Int32) (σ : tn_M) : tn_V E G tn_ie 0 [(0, .ref (tn_ad E 4)), (1, .int a1)] [] σ (f_X1_refusal a1 σ) := by
  unfold f_X1_refusal
  refine tr_iload_n g 1 1 dX1_refusal_0 rfl rfl rfl ?_
  refine kv_X1_noSheet g wd_340 ⟨Nat.le_of_ble_eq_true rfl, Nat.le_of_ble_eq_true rfl⟩ (Nat.le_of_ble_eq_true rfl) 4 dX1_refusal_1 rfl (fun r2 σ1 => ?_)
  refine tr_if_eq g 10 7 dX1_refusal_4 rfl rfl ?_ ?_
  · refine tr_aload_n g 0 11 dX1_refusal_10 rfl rfl rfl ?_
    refine gf_X1_0 g wd_208 14 dX1_refusal_11 rfl ?_
    refine tr_iload_n g 1 15 dX1_refusal_14 rfl rfl rfl ?_
    refine tr_iald (N := 4) g 16 rfl rfl dX1_refusal_15 rfl ?_
    refine tr_iconst (v := (-1)) g 17 dX1_refusal_16 rfl rfl ?_
    refine tr_icmp_ne g 28 20 dX1_refusal_17 rfl rfl ?_ ?_
    · refine tr_iconst (v := 0) g 29 dX1_refusal_28 rfl rfl ?_
      exact tr_iret g o dX1_refusal_29
    · refine tr_aload_n g 0 21 dX1_refusal_20 rfl rfl rfl ?_
      refine tr_iconst (v := 1) g 22 dX1_refusal_21 rfl rfl ?_
      refine kv_X1_finding g wd_343 ⟨Nat.le_of_ble_eq_true rfl, Nat.le_of_ble_eq_true rfl⟩ (Nat.le_of_ble_eq_true rfl) 25 dX1_refusal_22 rfl (fun r4 σ3 => ?_)
      refine tr_goto g 29 dX1_refusal_25 rfl ?_
      exact tr_iret g o dX1_refusal_29
  · refine tr_bipush (v := (-2)) g 9 dX1_refusal_7 rfl rfl ?_
    exact tr_iret g o dX1_refusal_9
theorem ok_X1_refusal {E : tn_E} {l : Launch}   (a1 : Int32) {σ : tn_M} {r : Int32} {σ' : tn_M} (h : f_X1_refusal a1 σ = some (r, σ')) : tn_C E l yX1_refusal cX1_refusal 2 (some .int) (tn_rm 1 21) [.ref (tn_ad E 4), .int a1] σ (tn_ie r) σ' :=
  tn_met (by decide) (Nat.le_of_ble_eq_true rfl) (fun G _ g o => b_X1_refusal g o  a1 σ) h
theorem yy_X1_refusal : tn_Yv RX1 yX1_refusal cX1_refusal 2 (some .int) 1 := ⟨wd_339, wd_337, wd_338, wd_69, by decide, by decide, by decide +kernel⟩
theorem kv_X1_refusal {E : tn_E} {G : tn_G} {cc : ByteArray} {own : String} {nL : Nat} {R : Room} {ρ : Type} {enc : ρ → Option Value} {pc : Nat} {lv : List (Nat × Value)} {st : List Value} {σ : tn_M} {kk : Int32 → tn_M → Option (ρ × tn_M)} {i : Nat}  {a1 : Int32} (g : tn_Ok E G cc own nL R)  (hw : Cond.methodLink own i yX1_refusal ∈ tn_T) (hroom : 2 ≤ R.frames ∧ 42 ≤ R.locals) (hW : (st.map fun v => v.category).sum ≤ 8) (n : Nat) (hd : decode cc pc = .ok (.invokevirtual i, 3)) (hn : pc + 3 = n) (k : ∀ r σ1, tn_V E G enc n lv (.int r :: st) σ1 (kk r σ1)) : tn_V E G enc pc lv (.int a1 :: .ref (tn_ad E 4) :: st) σ (tn_bd (f_X1_refusal a1 σ) kk) :=
  tr_callV (As := [.int a1]) (enc1 := tn_ie) g yy_X1_refusal hw (ci := 1) rfl (by decide) rfl (fun r σ1 h => ok_X1_refusal  a1 h) ⟨rfl, rfl⟩ ⟨hroom.1, by have h2 := hroom.2; show 8 + (2 + 11) + 21 ≤ R.locals; omega⟩ rfl rfl hW n hd hn k
/-! X1_noForm -/
def f_X1_noForm  (a0 : Int32) (σ : tn_M) : Option (Int32 × tn_M) :=
  if a0 < 0 then
    some (1, σ)
  else
    if a0 ≤ 2 then
      some (0, σ)
    else
      some (1, σ)
set_option maxHeartbeats 4000000 in
set_option maxRecDepth 20000 in
theorem b_X1_noForm {E : tn_E} {G : tn_G} (g : tn_Ok E G cX1_noForm RX1 1 (tn_rm 0 0)) (o : tn_Om E G (some .boolean))  (a0 : Int32) (σ : tn_M) : tn_V E G tn_ie 0 [(0, .int a0)] [] σ (f_X1_noForm a0 σ) := by
  unfold f_X1_noForm
  refine tr_iload_n g 0 1 dX1_noForm_0 rfl rfl rfl ?_
  refine tr_if_lt g 9 4 dX1_noForm_1 rfl rfl ?_ ?_
  · refine tr_iconst (v := 1) g 10 dX1_noForm_9 rfl rfl ?_
    refine tr_goto g 14 dX1_noForm_10 rfl ?_
    exact tr_zret g o rfl dX1_noForm_14
  · refine tr_iload_n g 0 5 dX1_noForm_4 rfl rfl rfl ?_
    refine tr_iconst (v := 2) g 6 dX1_noForm_5 rfl rfl ?_
    refine tr_icmp_le g 13 9 dX1_noForm_6 rfl rfl ?_ ?_
    · refine tr_iconst (v := 0) g 14 dX1_noForm_13 rfl rfl ?_
      exact tr_zret g o rfl dX1_noForm_14
    · refine tr_iconst (v := 1) g 10 dX1_noForm_9 rfl rfl ?_
      refine tr_goto g 14 dX1_noForm_10 rfl ?_
      exact tr_zret g o rfl dX1_noForm_14
theorem ok_X1_noForm {E : tn_E} {l : Launch}   (a0 : Int32) {σ : tn_M} {r : Int32} {σ' : tn_M} (h : f_X1_noForm a0 σ = some (r, σ')) : tn_C E l yX1_noForm cX1_noForm 1 (some .boolean) (tn_rm 0 0) [.int a0] σ (tn_ie r) σ' :=
  tn_met (by decide) (Nat.le_of_ble_eq_true rfl) (fun G _ g o => b_X1_noForm g o  a0 σ) h
theorem yy_X1_noForm : tn_Ys yX1_noForm cX1_noForm 1 (some .boolean) 1 := ⟨wd_629, wd_628, wd_69, by decide, by decide, by decide +kernel⟩
theorem kv_X1_noForm {E : tn_E} {G : tn_G} {cc : ByteArray} {own : String} {nL : Nat} {R : Room} {ρ : Type} {enc : ρ → Option Value} {pc : Nat} {lv : List (Nat × Value)} {st : List Value} {σ : tn_M} {kk : Int32 → tn_M → Option (ρ × tn_M)} {i : Nat}  {a0 : Int32} (g : tn_Ok E G cc own nL R)  (hw : Cond.methodLink own i yX1_noForm ∈ tn_T) (hroom : 1 ≤ R.frames ∧ 20 ≤ R.locals) (hW : (st.map fun v => v.category).sum ≤ 8) (n : Nat) (hd : decode cc pc = .ok (.invokestatic i, 3)) (hn : pc + 3 = n) (k : ∀ r σ1, tn_V E G enc n lv (.int r :: st) σ1 (kk r σ1)) : tn_V E G enc pc lv (.int a0 :: st) σ (tn_bd (f_X1_noForm a0 σ) kk) :=
  tr_callS (As := [.int a0]) (enc1 := tn_ie) g yy_X1_noForm hw (fun r σ1 h => ok_X1_noForm  a0 h) ⟨rfl, rfl⟩ ⟨hroom.1, by have h2 := hroom.2; show 8 + (1 + 11) + 0 ≤ R.locals; omega⟩ rfl rfl hW n hd hn k
/-! X1_renew -/
def f_X1_renew  (a1 : Int32) (a2 : Int32) (a3 : Int32) (σ : tn_M) : Option (Unit × tn_M) :=
  tn_ck a1 4 <|
  tn_lt (tn_si σ 26 (tn_x a1) a2) fun σ1 =>
  tn_ck a1 4 <|
  tn_lt (tn_si σ1 27 (tn_x a1) a3) fun σ2 =>
  tn_ck a1 4 <|
  tn_bd (f_J7_fill_53178 (28 + 1 + tn_x a1) 0 σ2) fun _ σ4 =>
  some ((), σ4)
set_option maxHeartbeats 4000000 in
set_option maxRecDepth 20000 in
theorem b_X1_renew {E : tn_E} {G : tn_G} (g : tn_Ok E G cX1_renew RX1 4 (tn_rm 1 23)) (o : tn_Om E G none)  (a1 : Int32) (a2 : Int32) (a3 : Int32) (σ : tn_M) : tn_V E G tn_ve 0 [(0, .ref (tn_ad E 4)), (1, .int a1), (2, .int a2), (3, .int a3)] [] σ (f_X1_renew a1 a2 a3 σ) := by
  unfold f_X1_renew
  refine tr_aload_n g 0 1 dX1_renew_0 rfl rfl rfl ?_
  refine gf_X1_0 g wd_208 4 dX1_renew_1 rfl ?_
  refine tr_iload_n g 1 5 dX1_renew_4 rfl rfl rfl ?_
  refine tr_iload_n g 2 6 dX1_renew_5 rfl rfl rfl ?_
  refine tr_iast (N := 4) g 7 rfl rfl dX1_renew_6 rfl (fun σ1 => ?_)
  refine tr_aload_n g 0 8 dX1_renew_7 rfl rfl rfl ?_
  refine gf_X1_1 g wd_210 11 dX1_renew_8 rfl ?_
  refine tr_iload_n g 1 12 dX1_renew_11 rfl rfl rfl ?_
  refine tr_iload_n g 3 13 dX1_renew_12 rfl rfl rfl ?_
  refine tr_iast (N := 4) g 14 rfl rfl dX1_renew_13 rfl (fun σ2 => ?_)
  refine tr_aload_n g 0 15 dX1_renew_14 rfl rfl rfl ?_
  refine gf_X1_2 g wd_212 18 dX1_renew_15 rfl ?_
  refine tr_iload_n g 1 19 dX1_renew_18 rfl rfl rfl ?_
  refine tr_aald (N := 4) g 20 rfl rfl dX1_renew_19 rfl (fun h3 => ?_)
  refine tr_iconst (v := 0) g 21 dX1_renew_20 rfl rfl ?_
  refine kv_J7_fill_53178 g (tn_rowI h3).1 wd_635 ⟨Nat.le_of_ble_eq_true rfl, Nat.le_of_ble_eq_true rfl⟩ (Nat.le_of_ble_eq_true rfl) 24 dX1_renew_21 rfl (fun _ σ4 => ?_)
  exact tr_vret g o dX1_renew_24
theorem ok_X1_renew {E : tn_E} {l : Launch}   (a1 : Int32) (a2 : Int32) (a3 : Int32) {σ : tn_M} {r : Unit} {σ' : tn_M} (h : f_X1_renew a1 a2 a3 σ = some (r, σ')) : tn_C E l yX1_renew cX1_renew 4 none (tn_rm 1 23) [.ref (tn_ad E 4), .int a1, .int a2, .int a3] σ (tn_ve r) σ' :=
  tn_met (by decide) (Nat.le_of_ble_eq_true rfl) (fun G _ g o => b_X1_renew g o  a1 a2 a3 σ) h
theorem yy_X1_renew : tn_Yv RX1 yX1_renew cX1_renew 4 none 3 := ⟨wd_634, wd_632, wd_633, wd_69, by decide, by decide, by decide +kernel⟩
theorem kv_X1_renew {E : tn_E} {G : tn_G} {cc : ByteArray} {own : String} {nL : Nat} {R : Room} {ρ : Type} {enc : ρ → Option Value} {pc : Nat} {lv : List (Nat × Value)} {st : List Value} {σ : tn_M} {kk : Unit → tn_M → Option (ρ × tn_M)} {i : Nat}  {a1 : Int32} {a2 : Int32} {a3 : Int32} (g : tn_Ok E G cc own nL R)  (hw : Cond.methodLink own i yX1_renew ∈ tn_T) (hroom : 2 ≤ R.frames ∧ 46 ≤ R.locals) (hW : (st.map fun v => v.category).sum ≤ 8) (n : Nat) (hd : decode cc pc = .ok (.invokevirtual i, 3)) (hn : pc + 3 = n) (k : ∀ r σ1, tn_V E G enc n lv (st) σ1 (kk r σ1)) : tn_V E G enc pc lv (.int a3 :: .int a2 :: .int a1 :: .ref (tn_ad E 4) :: st) σ (tn_bd (f_X1_renew a1 a2 a3 σ) kk) :=
  tr_callV (As := [.int a1, .int a2, .int a3]) (enc1 := tn_ve) g yy_X1_renew hw (ci := 1) rfl (by decide) rfl (fun r σ1 h => ok_X1_renew  a1 a2 a3 h) ⟨rfl, rfl⟩ ⟨hroom.1, by have h2 := hroom.2; show 8 + (4 + 11) + 23 ≤ R.locals; omega⟩ rfl rfl hW n hd hn k
/-! X1_refusalOfItem -/
def F_X1_refusalOfItem_63   (σ : tn_M) : Option (Int32 × tn_M) :=
  tn_bd (f_X1_finding 2 σ) fun r2 σ1 =>
  some (r2, σ1)
def f_X1_refusalOfItem  (a1 : Int32) (a2 : Int32) (a3 : Int32) (σ : tn_M) : Option (Int32 × tn_M) :=
  tn_bd (f_X1_noSheet a1 σ) fun r2 σ1 =>
  if r2 = 0 then
    tn_bd (f_X1_noForm a2 σ1) fun r4 σ3 =>
    if r4 = 0 then
      tn_ck a1 4 <|
      if (σ3.1 26 (tn_x a1)) = (-1) then
        tn_bd (f_X1_finding 1 σ3) fun r8 σ7 =>
        some (r8, σ7)
      else
        tn_ck a1 4 <|
        if (σ3.1 26 (tn_x a1)) = a2 then
          if a3 < 0 then
            F_X1_refusalOfItem_63 σ3
          else
            tn_ck a1 4 <|
            if a3 < (σ3.1 27 (tn_x a1)) then
              some (0, σ3)
            else
              F_X1_refusalOfItem_63 σ3
        else
          tn_bd (f_X1_finding 3 σ3) fun r6 σ5 =>
          some (r6, σ5)
    else
      some ((-2), σ3)
  else
    some ((-2), σ1)
set_option maxHeartbeats 4000000 in
set_option maxRecDepth 20000 in
theorem b_X1_refusalOfItem_63 {E : tn_E} {G : tn_G} (g : tn_Ok E G cX1_refusalOfItem RX1 4 (tn_rm 1 21)) (o : tn_Om E G (some .int))   (σ : tn_M) : tn_V E G tn_ie 63 [(0, .ref (tn_ad E 4))] [] σ (F_X1_refusalOfItem_63 σ) := by
  unfold F_X1_refusalOfItem_63
  refine tr_aload_n g 0 64 dX1_refusalOfItem_63 rfl rfl rfl ?_
  refine tr_iconst (v := 2) g 65 dX1_refusalOfItem_64 rfl rfl ?_
  refine kv_X1_finding g wd_343 ⟨Nat.le_of_ble_eq_true rfl, Nat.le_of_ble_eq_true rfl⟩ (Nat.le_of_ble_eq_true rfl) 68 dX1_refusalOfItem_65 rfl (fun r2 σ1 => ?_)
  refine tr_goto g 72 dX1_refusalOfItem_68 rfl ?_
  exact tr_iret g o dX1_refusalOfItem_72
set_option maxHeartbeats 4000000 in
set_option maxRecDepth 20000 in
theorem b_X1_refusalOfItem {E : tn_E} {G : tn_G} (g : tn_Ok E G cX1_refusalOfItem RX1 4 (tn_rm 1 21)) (o : tn_Om E G (some .int))  (a1 : Int32) (a2 : Int32) (a3 : Int32) (σ : tn_M) : tn_V E G tn_ie 0 [(0, .ref (tn_ad E 4)), (1, .int a1), (2, .int a2), (3, .int a3)] [] σ (f_X1_refusalOfItem a1 a2 a3 σ) := by
  unfold f_X1_refusalOfItem
  refine tr_iload_n g 1 1 dX1_refusalOfItem_0 rfl rfl rfl ?_
  refine kv_X1_noSheet g wd_340 ⟨Nat.le_of_ble_eq_true rfl, Nat.le_of_ble_eq_true rfl⟩ (Nat.le_of_ble_eq_true rfl) 4 dX1_refusalOfItem_1 rfl (fun r2 σ1 => ?_)
  refine tr_if_ne g 14 7 dX1_refusalOfItem_4 rfl rfl ?_ ?_
  · refine tr_bipush (v := (-2)) g 16 dX1_refusalOfItem_14 rfl rfl ?_
    exact tr_iret g o dX1_refusalOfItem_16
  · refine tr_iload_n g 2 8 dX1_refusalOfItem_7 rfl rfl rfl ?_
    refine kv_X1_noForm g wd_648 ⟨Nat.le_of_ble_eq_true rfl, Nat.le_of_ble_eq_true rfl⟩ (Nat.le_of_ble_eq_true rfl) 11 dX1_refusalOfItem_8 rfl (fun r4 σ3 => ?_)
    refine tr_if_eq g 17 14 dX1_refusalOfItem_11 rfl rfl ?_ ?_
    · refine tr_aload_n g 0 18 dX1_refusalOfItem_17 rfl rfl rfl ?_
      refine gf_X1_0 g wd_208 21 dX1_refusalOfItem_18 rfl ?_
      refine tr_iload_n g 1 22 dX1_refusalOfItem_21 rfl rfl rfl ?_
      refine tr_iald (N := 4) g 23 rfl rfl dX1_refusalOfItem_22 rfl ?_
      refine tr_iconst (v := (-1)) g 24 dX1_refusalOfItem_23 rfl rfl ?_
      refine tr_icmp_ne g 33 27 dX1_refusalOfItem_24 rfl rfl ?_ ?_
      · refine tr_aload_n g 0 34 dX1_refusalOfItem_33 rfl rfl rfl ?_
        refine gf_X1_0 g wd_208 37 dX1_refusalOfItem_34 rfl ?_
        refine tr_iload_n g 1 38 dX1_refusalOfItem_37 rfl rfl rfl ?_
        refine tr_iald (N := 4) g 39 rfl rfl dX1_refusalOfItem_38 rfl ?_
        refine tr_iload_n g 2 40 dX1_refusalOfItem_39 rfl rfl rfl ?_
        refine tr_icmp_eq g 49 43 dX1_refusalOfItem_40 rfl rfl ?_ ?_
        · refine tr_iload_n g 3 50 dX1_refusalOfItem_49 rfl rfl rfl ?_
          refine tr_if_lt g 63 53 dX1_refusalOfItem_50 rfl rfl ?_ ?_
          · refine tr_sub [0] (lv' := [(0, .ref (tn_ad E 4))]) rfl ?_
            exact b_X1_refusalOfItem_63 g o  _
          · refine tr_iload_n g 3 54 dX1_refusalOfItem_53 rfl rfl rfl ?_
            refine tr_aload_n g 0 55 dX1_refusalOfItem_54 rfl rfl rfl ?_
            refine gf_X1_1 g wd_210 58 dX1_refusalOfItem_55 rfl ?_
            refine tr_iload_n g 1 59 dX1_refusalOfItem_58 rfl rfl rfl ?_
            refine tr_iald (N := 4) g 60 rfl rfl dX1_refusalOfItem_59 rfl ?_
            refine tr_icmp_lt g 71 63 dX1_refusalOfItem_60 rfl rfl ?_ ?_
            · refine tr_iconst (v := 0) g 72 dX1_refusalOfItem_71 rfl rfl ?_
              exact tr_iret g o dX1_refusalOfItem_72
            · refine tr_sub [0] (lv' := [(0, .ref (tn_ad E 4))]) rfl ?_
              exact b_X1_refusalOfItem_63 g o  _
        · refine tr_aload_n g 0 44 dX1_refusalOfItem_43 rfl rfl rfl ?_
          refine tr_iconst (v := 3) g 45 dX1_refusalOfItem_44 rfl rfl ?_
          refine kv_X1_finding g wd_343 ⟨Nat.le_of_ble_eq_true rfl, Nat.le_of_ble_eq_true rfl⟩ (Nat.le_of_ble_eq_true rfl) 48 dX1_refusalOfItem_45 rfl (fun r6 σ5 => ?_)
          exact tr_iret g o dX1_refusalOfItem_48
      · refine tr_aload_n g 0 28 dX1_refusalOfItem_27 rfl rfl rfl ?_
        refine tr_iconst (v := 1) g 29 dX1_refusalOfItem_28 rfl rfl ?_
        refine kv_X1_finding g wd_343 ⟨Nat.le_of_ble_eq_true rfl, Nat.le_of_ble_eq_true rfl⟩ (Nat.le_of_ble_eq_true rfl) 32 dX1_refusalOfItem_29 rfl (fun r8 σ7 => ?_)
        exact tr_iret g o dX1_refusalOfItem_32
    · refine tr_bipush (v := (-2)) g 16 dX1_refusalOfItem_14 rfl rfl ?_
      exact tr_iret g o dX1_refusalOfItem_16
theorem ok_X1_refusalOfItem {E : tn_E} {l : Launch}   (a1 : Int32) (a2 : Int32) (a3 : Int32) {σ : tn_M} {r : Int32} {σ' : tn_M} (h : f_X1_refusalOfItem a1 a2 a3 σ = some (r, σ')) : tn_C E l yX1_refusalOfItem cX1_refusalOfItem 4 (some .int) (tn_rm 1 21) [.ref (tn_ad E 4), .int a1, .int a2, .int a3] σ (tn_ie r) σ' :=
  tn_met (by decide) (Nat.le_of_ble_eq_true rfl) (fun G _ g o => b_X1_refusalOfItem g o  a1 a2 a3 σ) h
theorem yy_X1_refusalOfItem : tn_Yv RX1 yX1_refusalOfItem cX1_refusalOfItem 4 (some .int) 3 := ⟨wd_647, wd_645, wd_646, wd_69, by decide, by decide, by decide +kernel⟩
theorem kv_X1_refusalOfItem {E : tn_E} {G : tn_G} {cc : ByteArray} {own : String} {nL : Nat} {R : Room} {ρ : Type} {enc : ρ → Option Value} {pc : Nat} {lv : List (Nat × Value)} {st : List Value} {σ : tn_M} {kk : Int32 → tn_M → Option (ρ × tn_M)} {i : Nat}  {a1 : Int32} {a2 : Int32} {a3 : Int32} (g : tn_Ok E G cc own nL R)  (hw : Cond.methodLink own i yX1_refusalOfItem ∈ tn_T) (hroom : 2 ≤ R.frames ∧ 44 ≤ R.locals) (hW : (st.map fun v => v.category).sum ≤ 8) (n : Nat) (hd : decode cc pc = .ok (.invokevirtual i, 3)) (hn : pc + 3 = n) (k : ∀ r σ1, tn_V E G enc n lv (.int r :: st) σ1 (kk r σ1)) : tn_V E G enc pc lv (.int a3 :: .int a2 :: .int a1 :: .ref (tn_ad E 4) :: st) σ (tn_bd (f_X1_refusalOfItem a1 a2 a3 σ) kk) :=
  tr_callV (As := [.int a1, .int a2, .int a3]) (enc1 := tn_ie) g yy_X1_refusalOfItem hw (ci := 1) rfl (by decide) rfl (fun r σ1 h => ok_X1_refusalOfItem  a1 a2 a3 h) ⟨rfl, rfl⟩ ⟨hroom.1, by have h2 := hroom.2; show 8 + (4 + 11) + 21 ≤ R.locals; omega⟩ rfl rfl hW n hd hn k
/-! X1_put -/
def f_X1_put  (a1 : Int32) (a2 : Int32) (a3 : Int32) (σ : tn_M) : Option (Unit × tn_M) :=
  tn_ck a1 4 <|
  if (σ.1 26 (tn_x a1)) = 0 then
    tn_ck a1 4 <|
    tn_ck a2 60 <|
    tn_lt (tn_si σ (28 + 1 + tn_x a1) (tn_x a2) (Int32.toInt8 a3).toInt32) fun σ6 =>
    some ((), σ6)
  else
    tn_ck a1 4 <|
    if (σ.1 26 (tn_x a1)) = 1 then
      tn_ck a1 4 <|
      tn_ck a2 60 <|
      tn_lt (tn_si σ (28 + 1 + tn_x a1) (tn_x a2) (Int32.toInt16 a3).toInt32) fun σ4 =>
      some ((), σ4)
    else
      tn_ck a1 4 <|
      tn_ck a2 60 <|
      tn_lt (tn_si σ (28 + 1 + tn_x a1) (tn_x a2) a3) fun σ2 =>
      some ((), σ2)
set_option maxHeartbeats 4000000 in
set_option maxRecDepth 20000 in
theorem b_X1_put {E : tn_E} {G : tn_G} (g : tn_Ok E G cX1_put RX1 4 (tn_rm 0 0)) (o : tn_Om E G none)  (a1 : Int32) (a2 : Int32) (a3 : Int32) (σ : tn_M) : tn_V E G tn_ve 0 [(0, .ref (tn_ad E 4)), (1, .int a1), (2, .int a2), (3, .int a3)] [] σ (f_X1_put a1 a2 a3 σ) := by
  unfold f_X1_put
  refine tr_aload_n g 0 1 dX1_put_0 rfl rfl rfl ?_
  refine gf_X1_0 g wd_208 4 dX1_put_1 rfl ?_
  refine tr_iload_n g 1 5 dX1_put_4 rfl rfl rfl ?_
  refine tr_iald (N := 4) g 6 rfl rfl dX1_put_5 rfl ?_
  refine tr_if_ne g 22 9 dX1_put_6 rfl rfl ?_ ?_
  · refine tr_aload_n g 0 23 dX1_put_22 rfl rfl rfl ?_
    refine gf_X1_0 g wd_208 26 dX1_put_23 rfl ?_
    refine tr_iload_n g 1 27 dX1_put_26 rfl rfl rfl ?_
    refine tr_iald (N := 4) g 28 rfl rfl dX1_put_27 rfl ?_
    refine tr_iconst (v := 1) g 29 dX1_put_28 rfl rfl ?_
    refine tr_icmp_ne g 45 32 dX1_put_29 rfl rfl ?_ ?_
    · refine tr_aload_n g 0 46 dX1_put_45 rfl rfl rfl ?_
      refine gf_X1_2 g wd_212 49 dX1_put_46 rfl ?_
      refine tr_iload_n g 1 50 dX1_put_49 rfl rfl rfl ?_
      refine tr_aald (N := 4) g 51 rfl rfl dX1_put_50 rfl (fun h1 => ?_)
      refine tr_iload_n g 2 52 dX1_put_51 rfl rfl rfl ?_
      refine tr_iload_n g 3 53 dX1_put_52 rfl rfl rfl ?_
      refine tr_iast (N := 60) g 54 (tn_rowI h1).1 (tn_rowI h1).2 dX1_put_53 rfl (fun σ2 => ?_)
      exact tr_vret g o dX1_put_54
    · refine tr_aload_n g 0 33 dX1_put_32 rfl rfl rfl ?_
      refine gf_X1_2 g wd_212 36 dX1_put_33 rfl ?_
      refine tr_iload_n g 1 37 dX1_put_36 rfl rfl rfl ?_
      refine tr_aald (N := 4) g 38 rfl rfl dX1_put_37 rfl (fun h3 => ?_)
      refine tr_iload_n g 2 39 dX1_put_38 rfl rfl rfl ?_
      refine tr_iload_n g 3 40 dX1_put_39 rfl rfl rfl ?_
      refine tr_i2s g 41 dX1_put_40 rfl ?_
      refine tr_iast (N := 60) g 42 (tn_rowI h3).1 (tn_rowI h3).2 dX1_put_41 rfl (fun σ4 => ?_)
      refine tr_goto g 54 dX1_put_42 rfl ?_
      exact tr_vret g o dX1_put_54
  · refine tr_aload_n g 0 10 dX1_put_9 rfl rfl rfl ?_
    refine gf_X1_2 g wd_212 13 dX1_put_10 rfl ?_
    refine tr_iload_n g 1 14 dX1_put_13 rfl rfl rfl ?_
    refine tr_aald (N := 4) g 15 rfl rfl dX1_put_14 rfl (fun h5 => ?_)
    refine tr_iload_n g 2 16 dX1_put_15 rfl rfl rfl ?_
    refine tr_iload_n g 3 17 dX1_put_16 rfl rfl rfl ?_
    refine tr_i2b g 18 dX1_put_17 rfl ?_
    refine tr_iast (N := 60) g 19 (tn_rowI h5).1 (tn_rowI h5).2 dX1_put_18 rfl (fun σ6 => ?_)
    refine tr_goto g 54 dX1_put_19 rfl ?_
    exact tr_vret g o dX1_put_54
theorem ok_X1_put {E : tn_E} {l : Launch}   (a1 : Int32) (a2 : Int32) (a3 : Int32) {σ : tn_M} {r : Unit} {σ' : tn_M} (h : f_X1_put a1 a2 a3 σ = some (r, σ')) : tn_C E l yX1_put cX1_put 4 none (tn_rm 0 0) [.ref (tn_ad E 4), .int a1, .int a2, .int a3] σ (tn_ve r) σ' :=
  tn_met (by decide) (Nat.le_of_ble_eq_true rfl) (fun G _ g o => b_X1_put g o  a1 a2 a3 σ) h
theorem yy_X1_put : tn_Yv RX1 yX1_put cX1_put 4 none 3 := ⟨wd_652, wd_650, wd_651, wd_69, by decide, by decide, by decide +kernel⟩
theorem kv_X1_put {E : tn_E} {G : tn_G} {cc : ByteArray} {own : String} {nL : Nat} {R : Room} {ρ : Type} {enc : ρ → Option Value} {pc : Nat} {lv : List (Nat × Value)} {st : List Value} {σ : tn_M} {kk : Unit → tn_M → Option (ρ × tn_M)} {i : Nat}  {a1 : Int32} {a2 : Int32} {a3 : Int32} (g : tn_Ok E G cc own nL R)  (hw : Cond.methodLink own i yX1_put ∈ tn_T) (hroom : 1 ≤ R.frames ∧ 23 ≤ R.locals) (hW : (st.map fun v => v.category).sum ≤ 8) (n : Nat) (hd : decode cc pc = .ok (.invokevirtual i, 3)) (hn : pc + 3 = n) (k : ∀ r σ1, tn_V E G enc n lv (st) σ1 (kk r σ1)) : tn_V E G enc pc lv (.int a3 :: .int a2 :: .int a1 :: .ref (tn_ad E 4) :: st) σ (tn_bd (f_X1_put a1 a2 a3 σ) kk) :=
  tr_callV (As := [.int a1, .int a2, .int a3]) (enc1 := tn_ve) g yy_X1_put hw (ci := 1) rfl (by decide) rfl (fun r σ1 h => ok_X1_put  a1 a2 a3 h) ⟨rfl, rfl⟩ ⟨hroom.1, by have h2 := hroom.2; show 8 + (4 + 11) + 0 ≤ R.locals; omega⟩ rfl rfl hW n hd hn k
/-! X1_lacks -/
def f_X1_lacks  (a1 : Int32) (a2 : Int32) (a3 : Int32) (σ : tn_M) : Option (Int32 × tn_M) :=
  if a2 < 0 then
    some (1, σ)
  else
    if a3 < 0 then
      some (1, σ)
    else
      tn_ck a1 4 <|
      if ((Int32.toInt64 a2) + (Int32.toInt64 a3)) ≤ (Int32.toInt64 (σ.1 27 (tn_x a1))) then
        some (0, σ)
      else
        some (1, σ)
set_option maxHeartbeats 4000000 in
set_option maxRecDepth 20000 in
theorem b_X1_lacks {E : tn_E} {G : tn_G} (g : tn_Ok E G cX1_lacks RX1 4 (tn_rm 0 0)) (o : tn_Om E G (some .boolean))  (a1 : Int32) (a2 : Int32) (a3 : Int32) (σ : tn_M) : tn_V E G tn_ie 0 [(0, .ref (tn_ad E 4)), (1, .int a1), (2, .int a2), (3, .int a3)] [] σ (f_X1_lacks a1 a2 a3 σ) := by
  unfold f_X1_lacks
  refine tr_iload_n g 2 1 dX1_lacks_0 rfl rfl rfl ?_
  refine tr_if_lt g 24 4 dX1_lacks_1 rfl rfl ?_ ?_
  · refine tr_iconst (v := 1) g 25 dX1_lacks_24 rfl rfl ?_
    refine tr_goto g 29 dX1_lacks_25 rfl ?_
    exact tr_zret g o rfl dX1_lacks_29
  · refine tr_iload_n g 3 5 dX1_lacks_4 rfl rfl rfl ?_
    refine tr_if_lt g 24 8 dX1_lacks_5 rfl rfl ?_ ?_
    · refine tr_iconst (v := 1) g 25 dX1_lacks_24 rfl rfl ?_
      refine tr_goto g 29 dX1_lacks_25 rfl ?_
      exact tr_zret g o rfl dX1_lacks_29
    · refine tr_iload_n g 2 9 dX1_lacks_8 rfl rfl rfl ?_
      refine tr_i2l g 10 dX1_lacks_9 rfl ?_
      refine tr_iload_n g 3 11 dX1_lacks_10 rfl rfl rfl ?_
      refine tr_i2l g 12 dX1_lacks_11 rfl ?_
      refine tr_ladd g 13 dX1_lacks_12 rfl ?_
      refine tr_aload_n g 0 14 dX1_lacks_13 rfl rfl rfl ?_
      refine gf_X1_1 g wd_210 17 dX1_lacks_14 rfl ?_
      refine tr_iload_n g 1 18 dX1_lacks_17 rfl rfl rfl ?_
      refine tr_iald (N := 4) g 19 rfl rfl dX1_lacks_18 rfl ?_
      refine tr_i2l g 20 dX1_lacks_19 rfl ?_
      refine tr_lle g 28 24 dX1_lacks_20 dX1_lacks_21 rfl rfl ?_ ?_
      · refine tr_iconst (v := 0) g 29 dX1_lacks_28 rfl rfl ?_
        exact tr_zret g o rfl dX1_lacks_29
      · refine tr_iconst (v := 1) g 25 dX1_lacks_24 rfl rfl ?_
        refine tr_goto g 29 dX1_lacks_25 rfl ?_
        exact tr_zret g o rfl dX1_lacks_29
theorem ok_X1_lacks {E : tn_E} {l : Launch}   (a1 : Int32) (a2 : Int32) (a3 : Int32) {σ : tn_M} {r : Int32} {σ' : tn_M} (h : f_X1_lacks a1 a2 a3 σ = some (r, σ')) : tn_C E l yX1_lacks cX1_lacks 4 (some .boolean) (tn_rm 0 0) [.ref (tn_ad E 4), .int a1, .int a2, .int a3] σ (tn_ie r) σ' :=
  tn_met (by decide) (Nat.le_of_ble_eq_true rfl) (fun G _ g o => b_X1_lacks g o  a1 a2 a3 σ) h
theorem yy_X1_lacks : tn_Yv RX1 yX1_lacks cX1_lacks 4 (some .boolean) 3 := ⟨wd_665, wd_663, wd_664, wd_69, by decide, by decide, by decide +kernel⟩
theorem kv_X1_lacks {E : tn_E} {G : tn_G} {cc : ByteArray} {own : String} {nL : Nat} {R : Room} {ρ : Type} {enc : ρ → Option Value} {pc : Nat} {lv : List (Nat × Value)} {st : List Value} {σ : tn_M} {kk : Int32 → tn_M → Option (ρ × tn_M)} {i : Nat}  {a1 : Int32} {a2 : Int32} {a3 : Int32} (g : tn_Ok E G cc own nL R)  (hw : Cond.methodLink own i yX1_lacks ∈ tn_T) (hroom : 1 ≤ R.frames ∧ 23 ≤ R.locals) (hW : (st.map fun v => v.category).sum ≤ 8) (n : Nat) (hd : decode cc pc = .ok (.invokevirtual i, 3)) (hn : pc + 3 = n) (k : ∀ r σ1, tn_V E G enc n lv (.int r :: st) σ1 (kk r σ1)) : tn_V E G enc pc lv (.int a3 :: .int a2 :: .int a1 :: .ref (tn_ad E 4) :: st) σ (tn_bd (f_X1_lacks a1 a2 a3 σ) kk) :=
  tr_callV (As := [.int a1, .int a2, .int a3]) (enc1 := tn_ie) g yy_X1_lacks hw (ci := 1) rfl (by decide) rfl (fun r σ1 h => ok_X1_lacks  a1 a2 a3 h) ⟨rfl, rfl⟩ ⟨hroom.1, by have h2 := hroom.2; show 8 + (4 + 11) + 0 ≤ R.locals; omega⟩ rfl rfl hW n hd hn k

/-! X0_become -/
def F_X0_become_9  : Nat → Int32 → Int32 → Int32 → tn_M → Option (Unit × tn_M)
  | 0, _, _, _, _ => none
  | tn_n + 1, x1, x2, x3, σ => 
    if 3 < x3 then
      some ((), σ)
    else
      if x2 < x3 then
        tn_ck x3 4 <|
        tn_ck x3 4 <|
        tn_lt (tn_si σ 24 (tn_x x3) ((σ.1 24 (tn_x x3)) &&& ((1 <<< (x1 &&& 31)) ^^^ (-1)))) fun σ1 =>
        F_X0_become_9 tn_n x1 x2 (x3 + 1) σ1
      else
        tn_ck x3 4 <|
        tn_ck x3 4 <|
        tn_lt (tn_si σ 24 (tn_x x3) ((σ.1 24 (tn_x x3)) ||| (1 <<< (x1 &&& 31)))) fun σ2 =>
        F_X0_become_9 tn_n x1 x2 (x3 + 1) σ2
def f_X0_become  (a1 : Int32) (a2 : Int32) (σ : tn_M) : Option (Unit × tn_M) :=
  tn_ck a1 5 <|
  tn_lt (tn_si σ 20 (tn_x a1) a2) fun σ1 =>
  F_X0_become_9 tn_fuel a1 a2 1 σ1
set_option maxHeartbeats 4000000 in
set_option maxRecDepth 20000 in
theorem b_X0_become_9 {E : tn_E} {G : tn_G} (g : tn_Ok E G cX0_become RX0 4 (tn_rm 0 0)) (o : tn_Om E G none)  : ∀ (n : Nat) (x1 : Int32) (x2 : Int32) (x3 : Int32) (σ : tn_M), tn_V E G tn_ve 9 [(0, .ref (tn_ad E 3)), (1, .int x1), (2, .int x2), (3, .int x3)] [] σ (F_X0_become_9 n x1 x2 x3 σ) := by
  intro n
  induction n with
  | zero => intros; exact tr_none
  | succ tn_n ih =>
    intro x1 x2 x3 σ
    rw [F_X0_become_9]
    refine tr_iload_n g 3 10 dX0_become_9 rfl rfl rfl ?_
    refine tr_iconst (v := 3) g 11 dX0_become_10 rfl rfl ?_
    refine tr_icmp_gt g 54 14 dX0_become_11 rfl rfl ?_ ?_
    · exact tr_vret g o dX0_become_54
    · refine tr_iload_n g 2 15 dX0_become_14 rfl rfl rfl ?_
      refine tr_iload_n g 3 16 dX0_become_15 rfl rfl rfl ?_
      refine tr_icmp_lt g 34 19 dX0_become_16 rfl rfl ?_ ?_
      · refine tr_aload_n g 0 35 dX0_become_34 rfl rfl rfl ?_
        refine gf_X0_6 g wd_163 38 dX0_become_35 rfl ?_
        refine tr_iload_n g 3 39 dX0_become_38 rfl rfl rfl ?_
        refine tr_dup2 g 40 dX0_become_39 rfl rfl rfl ?_
        refine tr_iald (N := 4) g 41 rfl rfl dX0_become_40 rfl ?_
        refine tr_iconst (v := 1) g 42 dX0_become_41 rfl rfl ?_
        refine tr_iload_n g 1 43 dX0_become_42 rfl rfl rfl ?_
        refine tr_ishl g 44 dX0_become_43 rfl ?_
        refine tr_iconst (v := (-1)) g 45 dX0_become_44 rfl rfl ?_
        refine tr_ixor g 46 dX0_become_45 rfl ?_
        refine tr_iand g 47 dX0_become_46 rfl ?_
        refine tr_iast (N := 4) g 48 rfl rfl dX0_become_47 rfl (fun σ1 => ?_)
        refine tr_iinc (lv' := [(3, .int (x3 + 1)), (0, .ref (tn_ad E 3)), (1, .int x1), (2, .int x2)]) (x := (x3 + 1)) g 3 51 dX0_become_48 rfl rfl rfl (by decide) rfl ?_
        refine tr_goto g 9 dX0_become_51 rfl ?_
        refine tr_sub [1, 2, 3, 0] (lv' := [(0, .ref (tn_ad E 3)), (1, .int x1), (2, .int x2), (3, .int (x3 + 1))]) rfl ?_
        exact ih _ _ _ _
      · refine tr_aload_n g 0 20 dX0_become_19 rfl rfl rfl ?_
        refine gf_X0_6 g wd_163 23 dX0_become_20 rfl ?_
        refine tr_iload_n g 3 24 dX0_become_23 rfl rfl rfl ?_
        refine tr_dup2 g 25 dX0_become_24 rfl rfl rfl ?_
        refine tr_iald (N := 4) g 26 rfl rfl dX0_become_25 rfl ?_
        refine tr_iconst (v := 1) g 27 dX0_become_26 rfl rfl ?_
        refine tr_iload_n g 1 28 dX0_become_27 rfl rfl rfl ?_
        refine tr_ishl g 29 dX0_become_28 rfl ?_
        refine tr_ior g 30 dX0_become_29 rfl ?_
        refine tr_iast (N := 4) g 31 rfl rfl dX0_become_30 rfl (fun σ2 => ?_)
        refine tr_goto g 48 dX0_become_31 rfl ?_
        refine tr_iinc (lv' := [(3, .int (x3 + 1)), (0, .ref (tn_ad E 3)), (1, .int x1), (2, .int x2)]) (x := (x3 + 1)) g 3 51 dX0_become_48 rfl rfl rfl (by decide) rfl ?_
        refine tr_goto g 9 dX0_become_51 rfl ?_
        refine tr_sub [1, 2, 3, 0] (lv' := [(0, .ref (tn_ad E 3)), (1, .int x1), (2, .int x2), (3, .int (x3 + 1))]) rfl ?_
        exact ih _ _ _ _
set_option maxHeartbeats 4000000 in
set_option maxRecDepth 20000 in
theorem b_X0_become {E : tn_E} {G : tn_G} (g : tn_Ok E G cX0_become RX0 4 (tn_rm 0 0)) (o : tn_Om E G none)  (a1 : Int32) (a2 : Int32) (σ : tn_M) : tn_V E G tn_ve 0 [(0, .ref (tn_ad E 3)), (1, .int a1), (2, .int a2)] [] σ (f_X0_become a1 a2 σ) := by
  unfold f_X0_become
  refine tr_aload_n g 0 1 dX0_become_0 rfl rfl rfl ?_
  refine gf_X0_2 g wd_158 4 dX0_become_1 rfl ?_
  refine tr_iload_n g 1 5 dX0_become_4 rfl rfl rfl ?_
  refine tr_iload_n g 2 6 dX0_become_5 rfl rfl rfl ?_
  refine tr_iast (N := 5) g 7 rfl rfl dX0_become_6 rfl (fun σ1 => ?_)
  refine tr_iconst (v := 1) g 8 dX0_become_7 rfl rfl ?_
  refine tr_istore_n (lv' := [(3, .int 1), (0, .ref (tn_ad E 3)), (1, .int a1), (2, .int a2)]) g 9 dX0_become_8 rfl rfl (by decide) rfl ?_
  refine tr_sub [1, 2, 3, 0] (lv' := [(0, .ref (tn_ad E 3)), (1, .int a1), (2, .int a2), (3, .int 1)]) rfl ?_
  exact b_X0_become_9 g o  tn_fuel _ _ _ _
theorem ok_X0_become {E : tn_E} {l : Launch}   (a1 : Int32) (a2 : Int32) {σ : tn_M} {r : Unit} {σ' : tn_M} (h : f_X0_become a1 a2 σ = some (r, σ')) : tn_C E l yX0_become cX0_become 4 none (tn_rm 0 0) [.ref (tn_ad E 3), .int a1, .int a2] σ (tn_ve r) σ' :=
  tn_met (by decide) (Nat.le_of_ble_eq_true rfl) (fun G _ g o => b_X0_become g o  a1 a2 σ) h
theorem yy_X0_become : tn_Yv RX0 yX0_become cX0_become 4 none 2 := ⟨wd_399, wd_397, wd_398, wd_68, by decide, by decide, by decide +kernel⟩
theorem kv_X0_become {E : tn_E} {G : tn_G} {cc : ByteArray} {own : String} {nL : Nat} {R : Room} {ρ : Type} {enc : ρ → Option Value} {pc : Nat} {lv : List (Nat × Value)} {st : List Value} {σ : tn_M} {kk : Unit → tn_M → Option (ρ × tn_M)} {i : Nat}  {a1 : Int32} {a2 : Int32} (g : tn_Ok E G cc own nL R)  (hw : Cond.methodLink own i yX0_become ∈ tn_T) (hroom : 1 ≤ R.frames ∧ 23 ≤ R.locals) (hW : (st.map fun v => v.category).sum ≤ 8) (n : Nat) (hd : decode cc pc = .ok (.invokevirtual i, 3)) (hn : pc + 3 = n) (k : ∀ r σ1, tn_V E G enc n lv (st) σ1 (kk r σ1)) : tn_V E G enc pc lv (.int a2 :: .int a1 :: .ref (tn_ad E 3) :: st) σ (tn_bd (f_X0_become a1 a2 σ) kk) :=
  tr_callV (As := [.int a1, .int a2]) (enc1 := tn_ve) g yy_X0_become hw (ci := 0) rfl (by decide) rfl (fun r σ1 h => ok_X0_become  a1 a2 h) ⟨rfl, rfl⟩ ⟨hroom.1, by have h2 := hroom.2; show 8 + (4 + 11) + 0 ≤ R.locals; omega⟩ rfl rfl hW n hd hn k
/-! X0_begin -/
def F_X0_begin_80  : Nat → Int32 → tn_M → Option (Unit × tn_M)
  | 0, _, _ => none
  | tn_n + 1, x3, σ => 
    if (σ.1 1 5) ≤ x3 then
      some ((), σ)
    else
      tn_ck x3 5 <|
      tn_bd (f_X0_become x3 (σ.1 20 (tn_x x3)) σ) fun _ σ1 =>
      F_X0_begin_80 tn_n (x3 + 1) σ1
def f_X0_begin   (σ : tn_M) : Option (Unit × tn_M) :=
  tn_cck 0 0 5 5 5 <|
  tn_lt (tn_cp σ 7 20 (tn_x 0) (tn_x 0) (tn_x 5)) fun σ1 =>
  tn_bd (f_J7_fill_53178 21 3 σ1) fun _ σ2 =>
  tn_cck 5 1 3 8 4 <|
  tn_lt (tn_cp σ2 6 22 (tn_x 5) (tn_x 1) (tn_x 3)) fun σ3 =>
  tn_lt (tn_si σ3 3 8 (σ3.1 6 1)) fun σ4 =>
  tn_lt (tn_si σ4 3 9 (σ4.1 6 2)) fun σ5 =>
  tn_lt (tn_sl σ5 3 10 ((Int32.toInt64 ((σ5.1 6 3) * (σ5.1 6 4))) * 738017280)) fun σ6 =>
  tn_lt (tn_si σ6 3 11 (-1)) fun σ7 =>
  tn_lt (tn_si σ7 3 12 0) fun σ8 =>
  tn_bd (f_J7_fill_53178 24 0 σ8) fun _ σ9 =>
  F_X0_begin_80 tn_fuel 0 σ9
set_option maxHeartbeats 4000000 in
set_option maxRecDepth 20000 in
theorem b_X0_begin_80 {E : tn_E} {G : tn_G} (g : tn_Ok E G cX0_begin RX0 4 (tn_rm 1 23)) (o : tn_Om E G none)  : ∀ (n : Nat) (x3 : Int32) (σ : tn_M), tn_V E G tn_ve 80 [(0, .ref (tn_ad E 3)), (3, .int x3)] [] σ (F_X0_begin_80 n x3 σ) := by
  intro n
  induction n with
  | zero => intros; exact tr_none
  | succ tn_n ih =>
    intro x3 σ
    rw [F_X0_begin_80]
    refine tr_iload_n g 1 81 dX0_begin_80 rfl rfl rfl ?_
    refine tr_aload_n g 0 82 dX0_begin_81 rfl rfl rfl ?_
    refine gf_X0_0 g wd_156 85 dX0_begin_82 rfl ?_
    refine gf_X2_5 g wd_104 88 dX0_begin_85 rfl ?_
    refine tr_icmp_ge g 108 91 dX0_begin_88 rfl rfl ?_ ?_
    · exact tr_vret g o dX0_begin_108
    · refine tr_aload_n g 0 92 dX0_begin_91 rfl rfl rfl ?_
      refine tr_iload_n g 1 93 dX0_begin_92 rfl rfl rfl ?_
      refine tr_aload_n g 0 94 dX0_begin_93 rfl rfl rfl ?_
      refine gf_X0_2 g wd_158 97 dX0_begin_94 rfl ?_
      refine tr_iload_n g 1 98 dX0_begin_97 rfl rfl rfl ?_
      refine tr_iald (N := 5) g 99 rfl rfl dX0_begin_98 rfl ?_
      refine kv_X0_become g wd_396 ⟨Nat.le_of_ble_eq_true rfl, Nat.le_of_ble_eq_true rfl⟩ (Nat.le_of_ble_eq_true rfl) 102 dX0_begin_99 rfl (fun _ σ1 => ?_)
      refine tr_iinc (lv' := [(3, .int (x3 + 1)), (0, .ref (tn_ad E 3))]) (x := (x3 + 1)) g 1 105 dX0_begin_102 rfl rfl rfl (by decide) rfl ?_
      refine tr_goto g 80 dX0_begin_105 rfl ?_
      refine tr_sub [1, 0] (lv' := [(0, .ref (tn_ad E 3)), (3, .int (x3 + 1))]) rfl ?_
      exact ih _ _
set_option maxHeartbeats 4000000 in
set_option maxRecDepth 20000 in
theorem b_X0_begin {E : tn_E} {G : tn_G} (g : tn_Ok E G cX0_begin RX0 4 (tn_rm 1 23)) (o : tn_Om E G none)   (σ : tn_M) : tn_V E G tn_ve 0 [(0, .ref (tn_ad E 3)), (1, .ref (tn_ad E 7)), (2, .ref (tn_ad E 6))] [] σ (f_X0_begin σ) := by
  unfold f_X0_begin
  refine tr_aload_n g 1 1 dX0_begin_0 rfl rfl rfl ?_
  refine tr_iconst (v := 0) g 2 dX0_begin_1 rfl rfl ?_
  refine tr_aload_n g 0 3 dX0_begin_2 rfl rfl rfl ?_
  refine gf_X0_2 g wd_158 6 dX0_begin_3 rfl ?_
  refine tr_iconst (v := 0) g 7 dX0_begin_6 rfl rfl ?_
  refine tr_iconst (v := 5) g 8 dX0_begin_7 rfl rfl ?_
  refine tr_acopy (Ns := 5) (Nd := 5) g rfl rfl rfl rfl wd_389 wd_391 wd_390 wd_74 ⟨Nat.le_of_ble_eq_true rfl, Nat.le_of_ble_eq_true rfl⟩ 11 dX0_begin_8 rfl (fun σ1 => ?_)
  refine tr_aload_n g 0 12 dX0_begin_11 rfl rfl rfl ?_
  refine gf_X0_3 g wd_160 15 dX0_begin_12 rfl ?_
  refine tr_iconst (v := 3) g 16 dX0_begin_15 rfl rfl ?_
  refine kv_J7_fill_53178 g rfl wd_392 ⟨Nat.le_of_ble_eq_true rfl, Nat.le_of_ble_eq_true rfl⟩ (Nat.le_of_ble_eq_true rfl) 19 dX0_begin_16 rfl (fun _ σ2 => ?_)
  refine tr_aload_n g 2 20 dX0_begin_19 rfl rfl rfl ?_
  refine tr_iconst (v := 5) g 21 dX0_begin_20 rfl rfl ?_
  refine tr_aload_n g 0 22 dX0_begin_21 rfl rfl rfl ?_
  refine gf_X0_4 g wd_161 25 dX0_begin_22 rfl ?_
  refine tr_iconst (v := 1) g 26 dX0_begin_25 rfl rfl ?_
  refine tr_iconst (v := 3) g 27 dX0_begin_26 rfl rfl ?_
  refine tr_acopy (Ns := 8) (Nd := 4) g rfl rfl rfl rfl wd_389 wd_391 wd_390 wd_74 ⟨Nat.le_of_ble_eq_true rfl, Nat.le_of_ble_eq_true rfl⟩ 30 dX0_begin_27 rfl (fun σ3 => ?_)
  refine tr_aload_n g 0 31 dX0_begin_30 rfl rfl rfl ?_
  refine tr_aload_n g 2 32 dX0_begin_31 rfl rfl rfl ?_
  refine tr_iconst (v := 1) g 33 dX0_begin_32 rfl rfl ?_
  refine tr_ialdK (N := 8) g 34 1 rfl rfl rfl (by decide) dX0_begin_33 rfl ?_
  refine pf_X0_8 g wd_166 37 dX0_begin_34 rfl (fun σ4 => ?_)
  refine tr_aload_n g 0 38 dX0_begin_37 rfl rfl rfl ?_
  refine tr_aload_n g 2 39 dX0_begin_38 rfl rfl rfl ?_
  refine tr_iconst (v := 2) g 40 dX0_begin_39 rfl rfl ?_
  refine tr_ialdK (N := 8) g 41 2 rfl rfl rfl (by decide) dX0_begin_40 rfl ?_
  refine pf_X0_9 g wd_167 44 dX0_begin_41 rfl (fun σ5 => ?_)
  refine tr_aload_n g 0 45 dX0_begin_44 rfl rfl rfl ?_
  refine tr_aload_n g 2 46 dX0_begin_45 rfl rfl rfl ?_
  refine tr_iconst (v := 3) g 47 dX0_begin_46 rfl rfl ?_
  refine tr_ialdK (N := 8) g 48 3 rfl rfl rfl (by decide) dX0_begin_47 rfl ?_
  refine tr_aload_n g 2 49 dX0_begin_48 rfl rfl rfl ?_
  refine tr_iconst (v := 4) g 50 dX0_begin_49 rfl rfl ?_
  refine tr_ialdK (N := 8) g 51 4 rfl rfl rfl (by decide) dX0_begin_50 rfl ?_
  refine tr_imul g 52 dX0_begin_51 rfl ?_
  refine tr_i2l g 53 dX0_begin_52 rfl ?_
  refine tr_ldc2 (v := 738017280) g wd_395 56 dX0_begin_53 rfl ?_
  refine tr_lmul g 57 dX0_begin_56 rfl ?_
  refine pf_X0_10 g wd_168 60 dX0_begin_57 rfl (fun σ6 => ?_)
  refine tr_aload_n g 0 61 dX0_begin_60 rfl rfl rfl ?_
  refine tr_iconst (v := (-1)) g 62 dX0_begin_61 rfl rfl ?_
  refine pf_X0_11 g wd_170 65 dX0_begin_62 rfl (fun σ7 => ?_)
  refine tr_aload_n g 0 66 dX0_begin_65 rfl rfl rfl ?_
  refine tr_iconst (v := 0) g 67 dX0_begin_66 rfl rfl ?_
  refine pf_X0_12 g wd_172 70 dX0_begin_67 rfl (fun σ8 => ?_)
  refine tr_aload_n g 0 71 dX0_begin_70 rfl rfl rfl ?_
  refine gf_X0_6 g wd_163 74 dX0_begin_71 rfl ?_
  refine tr_iconst (v := 0) g 75 dX0_begin_74 rfl rfl ?_
  refine kv_J7_fill_53178 g rfl wd_392 ⟨Nat.le_of_ble_eq_true rfl, Nat.le_of_ble_eq_true rfl⟩ (Nat.le_of_ble_eq_true rfl) 78 dX0_begin_75 rfl (fun _ σ9 => ?_)
  refine tr_iconst (v := 0) g 79 dX0_begin_78 rfl rfl ?_
  refine tr_istore_n (lv' := [(3, .int 0), (0, .ref (tn_ad E 3)), (1, .ref (tn_ad E 7)), (2, .ref (tn_ad E 6))]) g 80 dX0_begin_79 rfl rfl (by decide) rfl ?_
  refine tr_sub [1, 0] (lv' := [(0, .ref (tn_ad E 3)), (3, .int 0)]) rfl ?_
  exact b_X0_begin_80 g o  tn_fuel _ _
theorem ok_X0_begin {E : tn_E} {l : Launch}    {σ : tn_M} {r : Unit} {σ' : tn_M} (h : f_X0_begin  σ = some (r, σ')) : tn_C E l yX0_begin cX0_begin 4 none (tn_rm 1 23) [.ref (tn_ad E 3), .ref (tn_ad E 7), .ref (tn_ad E 6)] σ (tn_ve r) σ' :=
  tn_met (by decide) (Nat.le_of_ble_eq_true rfl) (fun G _ g o => b_X0_begin g o   σ) h
theorem yy_X0_begin : tn_Yv RX0 yX0_begin cX0_begin 4 none 2 := ⟨wd_388, wd_386, wd_387, wd_68, by decide, by decide, by decide +kernel⟩
theorem kv_X0_begin {E : tn_E} {G : tn_G} {cc : ByteArray} {own : String} {nL : Nat} {R : Room} {ρ : Type} {enc : ρ → Option Value} {pc : Nat} {lv : List (Nat × Value)} {st : List Value} {σ : tn_M} {kk : Unit → tn_M → Option (ρ × tn_M)} {i : Nat}   (g : tn_Ok E G cc own nL R)  (hw : Cond.methodLink own i yX0_begin ∈ tn_T) (hroom : 2 ≤ R.frames ∧ 46 ≤ R.locals) (hW : (st.map fun v => v.category).sum ≤ 8) (n : Nat) (hd : decode cc pc = .ok (.invokevirtual i, 3)) (hn : pc + 3 = n) (k : ∀ r σ1, tn_V E G enc n lv (st) σ1 (kk r σ1)) : tn_V E G enc pc lv (.ref (tn_ad E 6) :: .ref (tn_ad E 7) :: .ref (tn_ad E 3) :: st) σ (tn_bd (f_X0_begin  σ) kk) :=
  tr_callV (As := [.ref (tn_ad E 7), .ref (tn_ad E 6)]) (enc1 := tn_ve) g yy_X0_begin hw (ci := 0) rfl (by decide) rfl (fun r σ1 h => ok_X0_begin   h) ⟨rfl, rfl⟩ ⟨hroom.1, by have h2 := hroom.2; show 8 + (4 + 11) + 23 ≤ R.locals; omega⟩ rfl rfl hW n hd hn k
/-! X0_taken -/
def F_X0_taken_5  : Nat → Int32 → Int64 → Int32 → tn_M → Option (Int64 × tn_M)
  | 0, _, _, _, _ => none
  | tn_n + 1, x1, x2, x4, σ => 
    if 3 < x4 then
      some (x2, σ)
    else
      tn_ck x4 4 <|
      tn_bd (f_X3_rowOf x4 (σ.1 24 (tn_x x4)) σ) fun r2 σ1 =>
      tn_ck (r2 + x1) 672 <|
      tn_ck x4 4 <|
      tn_lt (α := Int64) (x2 + ((σ1.2 19 (tn_x (r2 + x1))) * (Int32.toInt64 (8 + (σ1.1 22 (tn_x x4)))))) fun w3 =>
      F_X0_taken_5 tn_n x1 w3 (x4 + 1) σ1
def f_X0_taken  (a1 : Int32) (σ : tn_M) : Option (Int64 × tn_M) :=
  F_X0_taken_5 tn_fuel a1 0 1 σ
set_option maxHeartbeats 4000000 in
set_option maxRecDepth 20000 in
theorem b_X0_taken_5 {E : tn_E} {G : tn_G} (g : tn_Ok E G cX0_taken RX0 5 (tn_rm 1 21)) (o : tn_Om E G (some .long))  : ∀ (n : Nat) (x1 : Int32) (x2 : Int64) (x4 : Int32) (σ : tn_M), tn_V E G tn_le 5 [(0, .ref (tn_ad E 3)), (1, .int x1), (2, .long x2), (4, .int x4)] [] σ (F_X0_taken_5 n x1 x2 x4 σ) := by
  intro n
  induction n with
  | zero => intros; exact tr_none
  | succ tn_n ih =>
    intro x1 x2 x4 σ
    rw [F_X0_taken_5]
    refine tr_iload g 3 7 dX0_taken_5 rfl rfl ?_
    refine tr_iconst (v := 3) g 8 dX0_taken_7 rfl rfl ?_
    refine tr_icmp_gt g 54 11 dX0_taken_8 rfl rfl ?_ ?_
    · refine tr_lload_n g 2 55 dX0_taken_54 rfl rfl rfl ?_
      exact tr_lret g o dX0_taken_55
    · refine tr_lload_n g 2 12 dX0_taken_11 rfl rfl rfl ?_
      refine tr_aload_n g 0 13 dX0_taken_12 rfl rfl rfl ?_
      refine gf_X0_1 g wd_157 16 dX0_taken_13 rfl ?_
      refine gf_X3_0 g wd_141 19 dX0_taken_16 rfl ?_
      refine tr_iload g 3 21 dX0_taken_19 rfl rfl ?_
      refine tr_aload_n g 0 22 dX0_taken_21 rfl rfl rfl ?_
      refine gf_X0_6 g wd_163 25 dX0_taken_22 rfl ?_
      refine tr_iload g 3 27 dX0_taken_25 rfl rfl ?_
      refine tr_iald (N := 4) g 28 rfl rfl dX0_taken_27 rfl ?_
      refine kv_X3_rowOf g wd_419 ⟨Nat.le_of_ble_eq_true rfl, Nat.le_of_ble_eq_true rfl⟩ (Nat.le_of_ble_eq_true rfl) 31 dX0_taken_28 rfl (fun r2 σ1 => ?_)
      refine tr_iload_n g 1 32 dX0_taken_31 rfl rfl rfl ?_
      refine tr_iadd g 33 dX0_taken_32 rfl ?_
      refine tr_lald (N := 672) g 34 rfl rfl dX0_taken_33 rfl ?_
      refine tr_bipush (v := 8) g 36 dX0_taken_34 rfl rfl ?_
      refine tr_aload_n g 0 37 dX0_taken_36 rfl rfl rfl ?_
      refine gf_X0_4 g wd_161 40 dX0_taken_37 rfl ?_
      refine tr_iload g 3 42 dX0_taken_40 rfl rfl ?_
      refine tr_iald (N := 4) g 43 rfl rfl dX0_taken_42 rfl ?_
      refine tr_iadd g 44 dX0_taken_43 rfl ?_
      refine tr_i2l g 45 dX0_taken_44 rfl ?_
      refine tr_lmul g 46 dX0_taken_45 rfl ?_
      refine tr_ladd g 47 dX0_taken_46 rfl ?_
      refine tr_ltl (fun w3 => ?_)
      refine tr_lstore_n (lv' := [(2, .long w3), (0, .ref (tn_ad E 3)), (1, .int x1), (4, .int x4)]) g 48 dX0_taken_47 rfl rfl (by decide) rfl ?_
      refine tr_iinc (lv' := [(4, .int (x4 + 1)), (2, .long w3), (0, .ref (tn_ad E 3)), (1, .int x1)]) (x := (x4 + 1)) g 3 51 dX0_taken_48 rfl rfl rfl (by decide) rfl ?_
      refine tr_goto g 5 dX0_taken_51 rfl ?_
      refine tr_sub [2, 3, 1, 0] (lv' := [(0, .ref (tn_ad E 3)), (1, .int x1), (2, .long w3), (4, .int (x4 + 1))]) rfl ?_
      exact ih _ _ _ _
set_option maxHeartbeats 4000000 in
set_option maxRecDepth 20000 in
theorem b_X0_taken {E : tn_E} {G : tn_G} (g : tn_Ok E G cX0_taken RX0 5 (tn_rm 1 21)) (o : tn_Om E G (some .long))  (a1 : Int32) (σ : tn_M) : tn_V E G tn_le 0 [(0, .ref (tn_ad E 3)), (1, .int a1)] [] σ (f_X0_taken a1 σ) := by
  unfold f_X0_taken
  refine tr_lconst (v := 0) g 1 dX0_taken_0 rfl rfl ?_
  refine tr_lstore_n (lv' := [(2, .long 0), (0, .ref (tn_ad E 3)), (1, .int a1)]) g 2 dX0_taken_1 rfl rfl (by decide) rfl ?_
  refine tr_iconst (v := 1) g 3 dX0_taken_2 rfl rfl ?_
  refine tr_istore (lv' := [(4, .int 1), (2, .long 0), (0, .ref (tn_ad E 3)), (1, .int a1)]) g 5 dX0_taken_3 rfl (by decide) rfl ?_
  refine tr_sub [2, 3, 1, 0] (lv' := [(0, .ref (tn_ad E 3)), (1, .int a1), (2, .long 0), (4, .int 1)]) rfl ?_
  exact b_X0_taken_5 g o  tn_fuel _ _ _ _
theorem ok_X0_taken {E : tn_E} {l : Launch}   (a1 : Int32) {σ : tn_M} {r : Int64} {σ' : tn_M} (h : f_X0_taken a1 σ = some (r, σ')) : tn_C E l yX0_taken cX0_taken 5 (some .long) (tn_rm 1 21) [.ref (tn_ad E 3), .int a1] σ (tn_le r) σ' :=
  tn_met (by decide) (Nat.le_of_ble_eq_true rfl) (fun G _ g o => b_X0_taken g o  a1 σ) h
theorem yy_X0_taken : tn_Yv RX0 yX0_taken cX0_taken 5 (some .long) 1 := ⟨wd_418, wd_417, wd_14, wd_68, by decide, by decide, by decide +kernel⟩
theorem kv_X0_taken {E : tn_E} {G : tn_G} {cc : ByteArray} {own : String} {nL : Nat} {R : Room} {ρ : Type} {enc : ρ → Option Value} {pc : Nat} {lv : List (Nat × Value)} {st : List Value} {σ : tn_M} {kk : Int64 → tn_M → Option (ρ × tn_M)} {i : Nat}  {a1 : Int32} (g : tn_Ok E G cc own nL R)  (hw : Cond.methodLink own i yX0_taken ∈ tn_T) (hroom : 2 ≤ R.frames ∧ 45 ≤ R.locals) (hW : (st.map fun v => v.category).sum ≤ 8) (n : Nat) (hd : decode cc pc = .ok (.invokevirtual i, 3)) (hn : pc + 3 = n) (k : ∀ r σ1, tn_V E G enc n lv (.long r :: st) σ1 (kk r σ1)) : tn_V E G enc pc lv (.int a1 :: .ref (tn_ad E 3) :: st) σ (tn_bd (f_X0_taken a1 σ) kk) :=
  tr_callV (As := [.int a1]) (enc1 := tn_le) g yy_X0_taken hw (ci := 0) rfl (by decide) rfl (fun r σ1 h => ok_X0_taken  a1 h) ⟨rfl, rfl⟩ ⟨hroom.1, by have h2 := hroom.2; show 8 + (5 + 11) + 21 ≤ R.locals; omega⟩ rfl rfl hW n hd hn k
/-! X0_burden -/
def f_X0_burden  (a1 : Int32) (a2 : Int32) (σ : tn_M) : Option (Int64 × tn_M) :=
  tn_ck a1 5 <|
  tn_lt (α := Int64) ((Int32.toInt64 ((σ.1 11 (tn_x a1)) * a2)) * 11808276480) fun w1 =>
  if a2 ≤ (σ.1 3 8) then
    some (w1, σ)
  else
    tn_ck a1 5 <|
    if (σ.1 10 (tn_x a1)) ≤ (σ.1 3 9) then
      some (w1, σ)
    else
      some ((w1 + (σ.2 3 10)), σ)
set_option maxHeartbeats 4000000 in
set_option maxRecDepth 20000 in
theorem b_X0_burden {E : tn_E} {G : tn_G} (g : tn_Ok E G cX0_burden RX0 5 (tn_rm 0 0)) (o : tn_Om E G (some .long))  (a1 : Int32) (a2 : Int32) (σ : tn_M) : tn_V E G tn_le 0 [(0, .ref (tn_ad E 3)), (1, .int a1), (2, .int a2)] [] σ (f_X0_burden a1 a2 σ) := by
  unfold f_X0_burden
  refine tr_aload_n g 0 1 dX0_burden_0 rfl rfl rfl ?_
  refine gf_X0_0 g wd_156 4 dX0_burden_1 rfl ?_
  refine gf_X2_2 g wd_98 7 dX0_burden_4 rfl ?_
  refine tr_iload_n g 1 8 dX0_burden_7 rfl rfl rfl ?_
  refine tr_iald (N := 5) g 9 rfl rfl dX0_burden_8 rfl ?_
  refine tr_iload_n g 2 10 dX0_burden_9 rfl rfl rfl ?_
  refine tr_imul g 11 dX0_burden_10 rfl ?_
  refine tr_i2l g 12 dX0_burden_11 rfl ?_
  refine tr_ldc2 (v := 11808276480) g wd_424 15 dX0_burden_12 rfl ?_
  refine tr_lmul g 16 dX0_burden_15 rfl ?_
  refine tr_ltl (fun w1 => ?_)
  refine tr_lstore_n (lv' := [(3, .long w1), (0, .ref (tn_ad E 3)), (1, .int a1), (2, .int a2)]) g 17 dX0_burden_16 rfl rfl (by decide) rfl ?_
  refine tr_iload_n g 3 18 dX0_burden_17 rfl rfl rfl ?_
  refine tr_aload_n g 1 19 dX0_burden_18 rfl rfl rfl ?_
  refine gf_X0_8 g wd_166 22 dX0_burden_19 rfl ?_
  refine tr_icmp_le g 50 25 dX0_burden_22 rfl rfl ?_ ?_
  · refine tr_lload_n g 0 51 dX0_burden_50 rfl rfl rfl ?_
    exact tr_lret g o dX0_burden_51
  · refine tr_aload_n g 1 26 dX0_burden_25 rfl rfl rfl ?_
    refine gf_X0_0 g wd_156 29 dX0_burden_26 rfl ?_
    refine gf_X2_1 g wd_93 32 dX0_burden_29 rfl ?_
    refine tr_iload_n g 2 33 dX0_burden_32 rfl rfl rfl ?_
    refine tr_iald (N := 5) g 34 rfl rfl dX0_burden_33 rfl ?_
    refine tr_aload_n g 1 35 dX0_burden_34 rfl rfl rfl ?_
    refine gf_X0_9 g wd_167 38 dX0_burden_35 rfl ?_
    refine tr_icmp_le g 50 41 dX0_burden_38 rfl rfl ?_ ?_
    · refine tr_lload_n g 0 51 dX0_burden_50 rfl rfl rfl ?_
      exact tr_lret g o dX0_burden_51
    · refine tr_lload_n g 0 42 dX0_burden_41 rfl rfl rfl ?_
      refine tr_aload_n g 1 43 dX0_burden_42 rfl rfl rfl ?_
      refine gf_X0_10 g wd_168 46 dX0_burden_43 rfl ?_
      refine tr_ladd g 47 dX0_burden_46 rfl ?_
      refine tr_goto g 51 dX0_burden_47 rfl ?_
      exact tr_lret g o dX0_burden_51
theorem ok_X0_burden {E : tn_E} {l : Launch}   (a1 : Int32) (a2 : Int32) {σ : tn_M} {r : Int64} {σ' : tn_M} (h : f_X0_burden a1 a2 σ = some (r, σ')) : tn_C E l yX0_burden cX0_burden 5 (some .long) (tn_rm 0 0) [.ref (tn_ad E 3), .int a1, .int a2] σ (tn_le r) σ' :=
  tn_met (by decide) (Nat.le_of_ble_eq_true rfl) (fun G _ g o => b_X0_burden g o  a1 a2 σ) h
theorem yy_X0_burden : tn_Yv RX0 yX0_burden cX0_burden 5 (some .long) 2 := ⟨wd_423, wd_422, wd_15, wd_68, by decide, by decide, by decide +kernel⟩
theorem kv_X0_burden {E : tn_E} {G : tn_G} {cc : ByteArray} {own : String} {nL : Nat} {R : Room} {ρ : Type} {enc : ρ → Option Value} {pc : Nat} {lv : List (Nat × Value)} {st : List Value} {σ : tn_M} {kk : Int64 → tn_M → Option (ρ × tn_M)} {i : Nat}  {a1 : Int32} {a2 : Int32} (g : tn_Ok E G cc own nL R)  (hw : Cond.methodLink own i yX0_burden ∈ tn_T) (hroom : 1 ≤ R.frames ∧ 24 ≤ R.locals) (hW : (st.map fun v => v.category).sum ≤ 8) (n : Nat) (hd : decode cc pc = .ok (.invokevirtual i, 3)) (hn : pc + 3 = n) (k : ∀ r σ1, tn_V E G enc n lv (.long r :: st) σ1 (kk r σ1)) : tn_V E G enc pc lv (.int a2 :: .int a1 :: .ref (tn_ad E 3) :: st) σ (tn_bd (f_X0_burden a1 a2 σ) kk) :=
  tr_callV (As := [.int a1, .int a2]) (enc1 := tn_le) g yy_X0_burden hw (ci := 0) rfl (by decide) rfl (fun r σ1 h => ok_X0_burden  a1 a2 h) ⟨rfl, rfl⟩ ⟨hroom.1, by have h2 := hroom.2; show 8 + (5 + 11) + 0 ≤ R.locals; omega⟩ rfl rfl hW n hd hn k
/-! X0_earning -/
def f_X0_earning  (a1 : Int32) (σ : tn_M) : Option (Int64 × tn_M) :=
  tn_bd (f_X0_taken a1 σ) fun r2 σ1 =>
  tn_ck a1 5 <|
  tn_bd (f_X0_burden a1 (σ1.1 20 (tn_x a1)) σ1) fun r4 σ3 =>
  some ((r2 - r4), σ3)
set_option maxHeartbeats 4000000 in
set_option maxRecDepth 20000 in
theorem b_X0_earning {E : tn_E} {G : tn_G} (g : tn_Ok E G cX0_earning RX0 2 (tn_rm 2 45)) (o : tn_Om E G (some .long))  (a1 : Int32) (σ : tn_M) : tn_V E G tn_le 0 [(0, .ref (tn_ad E 3)), (1, .int a1)] [] σ (f_X0_earning a1 σ) := by
  unfold f_X0_earning
  refine tr_aload_n g 0 1 dX0_earning_0 rfl rfl rfl ?_
  refine tr_iload_n g 1 2 dX0_earning_1 rfl rfl rfl ?_
  refine kv_X0_taken g wd_415 ⟨Nat.le_of_ble_eq_true rfl, Nat.le_of_ble_eq_true rfl⟩ (Nat.le_of_ble_eq_true rfl) 5 dX0_earning_2 rfl (fun r2 σ1 => ?_)
  refine tr_aload_n g 0 6 dX0_earning_5 rfl rfl rfl ?_
  refine tr_iload_n g 1 7 dX0_earning_6 rfl rfl rfl ?_
  refine tr_aload_n g 0 8 dX0_earning_7 rfl rfl rfl ?_
  refine gf_X0_2 g wd_158 11 dX0_earning_8 rfl ?_
  refine tr_iload_n g 1 12 dX0_earning_11 rfl rfl rfl ?_
  refine tr_iald (N := 5) g 13 rfl rfl dX0_earning_12 rfl ?_
  refine kv_X0_burden g wd_420 ⟨Nat.le_of_ble_eq_true rfl, Nat.le_of_ble_eq_true rfl⟩ (Nat.le_of_ble_eq_true rfl) 16 dX0_earning_13 rfl (fun r4 σ3 => ?_)
  refine tr_lsub g 17 dX0_earning_16 rfl ?_
  exact tr_lret g o dX0_earning_17
theorem ok_X0_earning {E : tn_E} {l : Launch}   (a1 : Int32) {σ : tn_M} {r : Int64} {σ' : tn_M} (h : f_X0_earning a1 σ = some (r, σ')) : tn_C E l yX0_earning cX0_earning 2 (some .long) (tn_rm 2 45) [.ref (tn_ad E 3), .int a1] σ (tn_le r) σ' :=
  tn_met (by decide) (Nat.le_of_ble_eq_true rfl) (fun G _ g o => b_X0_earning g o  a1 σ) h
theorem yy_X0_earning : tn_Yv RX0 yX0_earning cX0_earning 2 (some .long) 1 := ⟨wd_414, wd_412, wd_413, wd_68, by decide, by decide, by decide +kernel⟩
theorem kv_X0_earning {E : tn_E} {G : tn_G} {cc : ByteArray} {own : String} {nL : Nat} {R : Room} {ρ : Type} {enc : ρ → Option Value} {pc : Nat} {lv : List (Nat × Value)} {st : List Value} {σ : tn_M} {kk : Int64 → tn_M → Option (ρ × tn_M)} {i : Nat}  {a1 : Int32} (g : tn_Ok E G cc own nL R)  (hw : Cond.methodLink own i yX0_earning ∈ tn_T) (hroom : 3 ≤ R.frames ∧ 66 ≤ R.locals) (hW : (st.map fun v => v.category).sum ≤ 8) (n : Nat) (hd : decode cc pc = .ok (.invokevirtual i, 3)) (hn : pc + 3 = n) (k : ∀ r σ1, tn_V E G enc n lv (.long r :: st) σ1 (kk r σ1)) : tn_V E G enc pc lv (.int a1 :: .ref (tn_ad E 3) :: st) σ (tn_bd (f_X0_earning a1 σ) kk) :=
  tr_callV (As := [.int a1]) (enc1 := tn_le) g yy_X0_earning hw (ci := 0) rfl (by decide) rfl (fun r σ1 h => ok_X0_earning  a1 h) ⟨rfl, rfl⟩ ⟨hroom.1, by have h2 := hroom.2; show 8 + (2 + 11) + 45 ≤ R.locals; omega⟩ rfl rfl hW n hd hn k
/-! X0_together -/
def F_X0_together_8  : Nat → Int64 → Int32 → tn_M → Option (Int64 × tn_M)
  | 0, _, _, _ => none
  | tn_n + 1, x1, x3, σ => 
    if (σ.1 1 5) ≤ x3 then
      some (x1, σ)
    else
      tn_ck x3 5 <|
      tn_bd (f_X0_burden x3 (σ.1 20 (tn_x x3)) σ) fun r2 σ1 =>
      F_X0_together_8 tn_n (x1 - r2) (x3 + 1) σ1
def f_X0_together   (σ : tn_M) : Option (Int64 × tn_M) :=
  tn_bd (f_X0_taken 5 σ) fun r2 σ1 =>
  F_X0_together_8 tn_fuel r2 0 σ1
set_option maxHeartbeats 4000000 in
set_option maxRecDepth 20000 in
theorem b_X0_together_8 {E : tn_E} {G : tn_G} (g : tn_Ok E G cX0_together RX0 4 (tn_rm 2 45)) (o : tn_Om E G (some .long))  : ∀ (n : Nat) (x1 : Int64) (x3 : Int32) (σ : tn_M), tn_V E G tn_le 8 [(0, .ref (tn_ad E 3)), (1, .long x1), (3, .int x3)] [] σ (F_X0_together_8 n x1 x3 σ) := by
  intro n
  induction n with
  | zero => intros; exact tr_none
  | succ tn_n ih =>
    intro x1 x3 σ
    rw [F_X0_together_8]
    refine tr_iload_n g 2 9 dX0_together_8 rfl rfl rfl ?_
    refine tr_aload_n g 0 10 dX0_together_9 rfl rfl rfl ?_
    refine gf_X0_0 g wd_156 13 dX0_together_10 rfl ?_
    refine gf_X2_5 g wd_104 16 dX0_together_13 rfl ?_
    refine tr_icmp_ge g 39 19 dX0_together_16 rfl rfl ?_ ?_
    · refine tr_lload_n g 1 40 dX0_together_39 rfl rfl rfl ?_
      exact tr_lret g o dX0_together_40
    · refine tr_lload_n g 1 20 dX0_together_19 rfl rfl rfl ?_
      refine tr_aload_n g 0 21 dX0_together_20 rfl rfl rfl ?_
      refine tr_iload_n g 2 22 dX0_together_21 rfl rfl rfl ?_
      refine tr_aload_n g 0 23 dX0_together_22 rfl rfl rfl ?_
      refine gf_X0_2 g wd_158 26 dX0_together_23 rfl ?_
      refine tr_iload_n g 2 27 dX0_together_26 rfl rfl rfl ?_
      refine tr_iald (N := 5) g 28 rfl rfl dX0_together_27 rfl ?_
      refine kv_X0_burden g wd_420 ⟨Nat.le_of_ble_eq_true rfl, Nat.le_of_ble_eq_true rfl⟩ (Nat.le_of_ble_eq_true rfl) 31 dX0_together_28 rfl (fun r2 σ1 => ?_)
      refine tr_lsub g 32 dX0_together_31 rfl ?_
      refine tr_lstore_n (lv' := [(1, .long (x1 - r2)), (0, .ref (tn_ad E 3)), (3, .int x3)]) g 33 dX0_together_32 rfl rfl (by decide) rfl ?_
      refine tr_iinc (lv' := [(3, .int (x3 + 1)), (1, .long (x1 - r2)), (0, .ref (tn_ad E 3))]) (x := (x3 + 1)) g 2 36 dX0_together_33 rfl rfl rfl (by decide) rfl ?_
      refine tr_goto g 8 dX0_together_36 rfl ?_
      refine tr_sub [2, 1, 0] (lv' := [(0, .ref (tn_ad E 3)), (1, .long (x1 - r2)), (3, .int (x3 + 1))]) rfl ?_
      exact ih _ _ _
set_option maxHeartbeats 4000000 in
set_option maxRecDepth 20000 in
theorem b_X0_together {E : tn_E} {G : tn_G} (g : tn_Ok E G cX0_together RX0 4 (tn_rm 2 45)) (o : tn_Om E G (some .long))   (σ : tn_M) : tn_V E G tn_le 0 [(0, .ref (tn_ad E 3))] [] σ (f_X0_together σ) := by
  unfold f_X0_together
  refine tr_aload_n g 0 1 dX0_together_0 rfl rfl rfl ?_
  refine tr_iconst (v := 5) g 2 dX0_together_1 rfl rfl ?_
  refine kv_X0_taken g wd_415 ⟨Nat.le_of_ble_eq_true rfl, Nat.le_of_ble_eq_true rfl⟩ (Nat.le_of_ble_eq_true rfl) 5 dX0_together_2 rfl (fun r2 σ1 => ?_)
  refine tr_lstore_n (lv' := [(1, .long r2), (0, .ref (tn_ad E 3))]) g 6 dX0_together_5 rfl rfl (by decide) rfl ?_
  refine tr_iconst (v := 0) g 7 dX0_together_6 rfl rfl ?_
  refine tr_istore_n (lv' := [(3, .int 0), (1, .long r2), (0, .ref (tn_ad E 3))]) g 8 dX0_together_7 rfl rfl (by decide) rfl ?_
  refine tr_sub [2, 1, 0] (lv' := [(0, .ref (tn_ad E 3)), (1, .long r2), (3, .int 0)]) rfl ?_
  exact b_X0_together_8 g o  tn_fuel _ _ _
theorem ok_X0_together {E : tn_E} {l : Launch}    {σ : tn_M} {r : Int64} {σ' : tn_M} (h : f_X0_together  σ = some (r, σ')) : tn_C E l yX0_together cX0_together 4 (some .long) (tn_rm 2 45) [.ref (tn_ad E 3)] σ (tn_le r) σ' :=
  tn_met (by decide) (Nat.le_of_ble_eq_true rfl) (fun G _ g o => b_X0_together g o   σ) h
theorem yy_X0_together : tn_Yv RX0 yX0_together cX0_together 4 (some .long) 0 := ⟨wd_446, wd_444, wd_445, wd_68, by decide, by decide, by decide +kernel⟩
theorem kv_X0_together {E : tn_E} {G : tn_G} {cc : ByteArray} {own : String} {nL : Nat} {R : Room} {ρ : Type} {enc : ρ → Option Value} {pc : Nat} {lv : List (Nat × Value)} {st : List Value} {σ : tn_M} {kk : Int64 → tn_M → Option (ρ × tn_M)} {i : Nat}   (g : tn_Ok E G cc own nL R)  (hw : Cond.methodLink own i yX0_together ∈ tn_T) (hroom : 3 ≤ R.frames ∧ 68 ≤ R.locals) (hW : (st.map fun v => v.category).sum ≤ 8) (n : Nat) (hd : decode cc pc = .ok (.invokevirtual i, 3)) (hn : pc + 3 = n) (k : ∀ r σ1, tn_V E G enc n lv (.long r :: st) σ1 (kk r σ1)) : tn_V E G enc pc lv (.ref (tn_ad E 3) :: st) σ (tn_bd (f_X0_together  σ) kk) :=
  tr_callV (As := []) (enc1 := tn_le) g yy_X0_together hw (ci := 0) rfl (by decide) rfl (fun r σ1 h => ok_X0_together   h) ⟨rfl, rfl⟩ ⟨hroom.1, by have h2 := hroom.2; show 8 + (4 + 11) + 45 ≤ R.locals; omega⟩ rfl rfl hW n hd hn k
/-! X0_aim -/
def f_X0_aim  (a1 : Int32) (σ : tn_M) : Option (Int64 × tn_M) :=
  if a1 = 0 then
    tn_bd (f_X0_together σ) fun r4 σ3 =>
    some (r4, σ3)
  else
    tn_bd (f_X0_taken 6 σ) fun r2 σ1 =>
    some (r2, σ1)
set_option maxHeartbeats 4000000 in
set_option maxRecDepth 20000 in
theorem b_X0_aim {E : tn_E} {G : tn_G} (g : tn_Ok E G cX0_aim RX0 2 (tn_rm 3 68)) (o : tn_Om E G (some .long))  (a1 : Int32) (σ : tn_M) : tn_V E G tn_le 0 [(0, .ref (tn_ad E 3)), (1, .int a1)] [] σ (f_X0_aim a1 σ) := by
  unfold f_X0_aim
  refine tr_iload_n g 1 1 dX0_aim_0 rfl rfl rfl ?_
  refine tr_if_ne g 11 4 dX0_aim_1 rfl rfl ?_ ?_
  · refine tr_aload_n g 0 12 dX0_aim_11 rfl rfl rfl ?_
    refine tr_bipush (v := 6) g 14 dX0_aim_12 rfl rfl ?_
    refine kv_X0_taken g wd_415 ⟨Nat.le_of_ble_eq_true rfl, Nat.le_of_ble_eq_true rfl⟩ (Nat.le_of_ble_eq_true rfl) 17 dX0_aim_14 rfl (fun r2 σ1 => ?_)
    exact tr_lret g o dX0_aim_17
  · refine tr_aload_n g 0 5 dX0_aim_4 rfl rfl rfl ?_
    refine kv_X0_together g wd_443 ⟨Nat.le_of_ble_eq_true rfl, Nat.le_of_ble_eq_true rfl⟩ (Nat.le_of_ble_eq_true rfl) 8 dX0_aim_5 rfl (fun r4 σ3 => ?_)
    refine tr_goto g 17 dX0_aim_8 rfl ?_
    exact tr_lret g o dX0_aim_17
theorem ok_X0_aim {E : tn_E} {l : Launch}   (a1 : Int32) {σ : tn_M} {r : Int64} {σ' : tn_M} (h : f_X0_aim a1 σ = some (r, σ')) : tn_C E l yX0_aim cX0_aim 2 (some .long) (tn_rm 3 68) [.ref (tn_ad E 3), .int a1] σ (tn_le r) σ' :=
  tn_met (by decide) (Nat.le_of_ble_eq_true rfl) (fun G _ g o => b_X0_aim g o  a1 σ) h
theorem yy_X0_aim : tn_Yv RX0 yX0_aim cX0_aim 2 (some .long) 1 := ⟨wd_442, wd_440, wd_441, wd_68, by decide, by decide, by decide +kernel⟩
theorem kv_X0_aim {E : tn_E} {G : tn_G} {cc : ByteArray} {own : String} {nL : Nat} {R : Room} {ρ : Type} {enc : ρ → Option Value} {pc : Nat} {lv : List (Nat × Value)} {st : List Value} {σ : tn_M} {kk : Int64 → tn_M → Option (ρ × tn_M)} {i : Nat}  {a1 : Int32} (g : tn_Ok E G cc own nL R)  (hw : Cond.methodLink own i yX0_aim ∈ tn_T) (hroom : 4 ≤ R.frames ∧ 89 ≤ R.locals) (hW : (st.map fun v => v.category).sum ≤ 8) (n : Nat) (hd : decode cc pc = .ok (.invokevirtual i, 3)) (hn : pc + 3 = n) (k : ∀ r σ1, tn_V E G enc n lv (.long r :: st) σ1 (kk r σ1)) : tn_V E G enc pc lv (.int a1 :: .ref (tn_ad E 3) :: st) σ (tn_bd (f_X0_aim a1 σ) kk) :=
  tr_callV (As := [.int a1]) (enc1 := tn_le) g yy_X0_aim hw (ci := 0) rfl (by decide) rfl (fun r σ1 h => ok_X0_aim  a1 h) ⟨rfl, rfl⟩ ⟨hroom.1, by have h2 := hroom.2; show 8 + (2 + 11) + 68 ≤ R.locals; omega⟩ rfl rfl hW n hd hn k
/-! X0_weigh -/
def F_X0_weigh_125  : Nat → Int32 → Int64 → Int32 → tn_M → Option (Unit × tn_M)
  | 0, _, _, _, _ => none
  | tn_n + 1, x1, x3, x5, σ => 
    if 3 < x5 then
      some ((), σ)
    else
      tn_ck x5 4 <|
      tn_lt (α := Int64) (x3 + (σ.2 25 (tn_x x5))) fun w1 =>
      tn_bd (f_X0_burden x1 x5 σ) fun r3 σ2 =>
      tn_ck x5 4 <|
      tn_lt (tn_sl σ2 25 (tn_x x5) (w1 - r3)) fun σ4 =>
      F_X0_weigh_125 tn_n x1 w1 (x5 + 1) σ4
def F_X0_weigh_115  (x1 : Int32) (x3 : Int64) (σ : tn_M) : Option (Unit × tn_M) :=
  tn_lt (tn_sl σ 25 0 x3) fun σ1 =>
  F_X0_weigh_125 tn_fuel x1 x3 1 σ1
def F_X0_weigh_9  : Nat → Int32 → Int32 → Int64 → Int32 → tn_M → Option (Unit × tn_M)
  | 0, _, _, _, _, _ => none
  | tn_n + 1, x1, x2, x3, x5, σ => 
    if 3 < x5 then
      F_X0_weigh_115 x1 x3 σ
    else
      tn_ck x5 4 <|
      tn_lt (α := Int32) ((σ.1 24 (tn_x x5)) &&& (x2 ^^^ (-1))) fun w1 =>
      tn_bd (f_X3_rowOf x5 w1 σ) fun r3 σ2 =>
      tn_ck (r3 + x1) 672 <|
      tn_ck x5 4 <|
      tn_lt (α := Int64) ((σ2.2 19 (tn_x (r3 + x1))) * (Int32.toInt64 (8 + (σ2.1 22 (tn_x x5))))) fun w4 =>
      tn_bd (f_X3_rowOf x5 (w1 ||| x2) σ2) fun r6 σ5 =>
      tn_ck (r6 + x1) 672 <|
      tn_ck x5 4 <|
      tn_lt (α := Int64) ((σ5.2 19 (tn_x (r6 + x1))) * (Int32.toInt64 (8 + (σ5.1 22 (tn_x x5))))) fun w7 =>
      tn_ck x5 4 <|
      tn_lt (tn_sl σ5 25 (tn_x x5) (w7 - w4)) fun σ8 =>
      F_X0_weigh_9 tn_n x1 x2 (x3 + w4) (x5 + 1) σ8
def f_X0_weigh  (a1 : Int32) (σ : tn_M) : Option (Unit × tn_M) :=
  tn_lt (α := Int32) (1 <<< (a1 &&& 31)) fun w1 =>
  F_X0_weigh_9 tn_fuel a1 w1 0 1 σ
set_option maxHeartbeats 4000000 in
set_option maxRecDepth 20000 in
theorem b_X0_weigh_125 {E : tn_E} {G : tn_G} (g : tn_Ok E G cX0_weigh RX0 11 (tn_rm 1 24)) (o : tn_Om E G none)  : ∀ (n : Nat) (x1 : Int32) (x3 : Int64) (x5 : Int32) (σ : tn_M), tn_V E G tn_ve 125 [(0, .ref (tn_ad E 3)), (1, .int x1), (3, .long x3), (5, .int x5)] [] σ (F_X0_weigh_125 n x1 x3 x5 σ) := by
  intro n
  induction n with
  | zero => intros; exact tr_none
  | succ tn_n ih =>
    intro x1 x3 x5 σ
    rw [F_X0_weigh_125]
    refine tr_iload g 3 127 dX0_weigh_125 rfl rfl ?_
    refine tr_iconst (v := 3) g 128 dX0_weigh_127 rfl rfl ?_
    refine tr_icmp_gt g 163 131 dX0_weigh_128 rfl rfl ?_ ?_
    · exact tr_vret g o dX0_weigh_163
    · refine tr_lload_n g 2 132 dX0_weigh_131 rfl rfl rfl ?_
      refine tr_aload_n g 0 133 dX0_weigh_132 rfl rfl rfl ?_
      refine gf_X0_7 g wd_165 136 dX0_weigh_133 rfl ?_
      refine tr_iload g 3 138 dX0_weigh_136 rfl rfl ?_
      refine tr_lald (N := 4) g 139 rfl rfl dX0_weigh_138 rfl ?_
      refine tr_ladd g 140 dX0_weigh_139 rfl ?_
      refine tr_ltl (fun w1 => ?_)
      refine tr_lstore_n (lv' := [(3, .long w1), (0, .ref (tn_ad E 3)), (1, .int x1), (5, .int x5)]) g 141 dX0_weigh_140 rfl rfl (by decide) rfl ?_
      refine tr_aload_n g 1 142 dX0_weigh_141 rfl rfl rfl ?_
      refine gf_X0_7 g wd_165 145 dX0_weigh_142 rfl ?_
      refine tr_iload g 3 147 dX0_weigh_145 rfl rfl ?_
      refine tr_lload_n g 0 148 dX0_weigh_147 rfl rfl rfl ?_
      refine tr_aload_n g 1 149 dX0_weigh_148 rfl rfl rfl ?_
      refine tr_iload_n g 2 150 dX0_weigh_149 rfl rfl rfl ?_
      refine tr_iload g 3 152 dX0_weigh_150 rfl rfl ?_
      refine kv_X0_burden g wd_420 ⟨Nat.le_of_ble_eq_true rfl, Nat.le_of_ble_eq_true rfl⟩ (Nat.le_of_ble_eq_true rfl) 155 dX0_weigh_152 rfl (fun r3 σ2 => ?_)
      refine tr_lsub g 156 dX0_weigh_155 rfl ?_
      refine tr_last (N := 4) g 157 rfl rfl dX0_weigh_156 rfl (fun σ4 => ?_)
      refine tr_iinc (lv' := [(5, .int (x5 + 1)), (3, .long w1), (0, .ref (tn_ad E 3)), (1, .int x1)]) (x := (x5 + 1)) g 3 160 dX0_weigh_157 rfl rfl rfl (by decide) rfl ?_
      refine tr_goto g 125 dX0_weigh_160 rfl ?_
      refine tr_sub [2, 3, 1, 0] (lv' := [(0, .ref (tn_ad E 3)), (1, .int x1), (3, .long w1), (5, .int (x5 + 1))]) rfl ?_
      exact ih _ _ _ _
set_option maxHeartbeats 4000000 in
set_option maxRecDepth 20000 in
theorem b_X0_weigh_115 {E : tn_E} {G : tn_G} (g : tn_Ok E G cX0_weigh RX0 11 (tn_rm 1 24)) (o : tn_Om E G none)  (x1 : Int32) (x3 : Int64) (σ : tn_M) : tn_V E G tn_ve 115 [(0, .ref (tn_ad E 3)), (1, .int x1), (3, .long x3)] [] σ (F_X0_weigh_115 x1 x3 σ) := by
  unfold F_X0_weigh_115
  refine tr_aload_n g 0 116 dX0_weigh_115 rfl rfl rfl ?_
  refine gf_X0_7 g wd_165 119 dX0_weigh_116 rfl ?_
  refine tr_iconst (v := 0) g 120 dX0_weigh_119 rfl rfl ?_
  refine tr_lload_n g 2 121 dX0_weigh_120 rfl rfl rfl ?_
  refine tr_lastK (N := 4) g 122 0 rfl rfl rfl (by decide) dX0_weigh_121 rfl (fun σ1 => ?_)
  refine tr_iconst (v := 1) g 123 dX0_weigh_122 rfl rfl ?_
  refine tr_istore (lv' := [(5, .int 1), (0, .ref (tn_ad E 3)), (1, .int x1), (3, .long x3)]) g 125 dX0_weigh_123 rfl (by decide) rfl ?_
  refine tr_sub [1, 2, 3, 0] (lv' := [(0, .ref (tn_ad E 3)), (1, .int x1), (3, .long x3), (5, .int 1)]) rfl ?_
  exact b_X0_weigh_125 g o  tn_fuel _ _ _ _
set_option maxHeartbeats 4000000 in
set_option maxRecDepth 20000 in
theorem b_X0_weigh_9 {E : tn_E} {G : tn_G} (g : tn_Ok E G cX0_weigh RX0 11 (tn_rm 1 24)) (o : tn_Om E G none)  : ∀ (n : Nat) (x1 : Int32) (x2 : Int32) (x3 : Int64) (x5 : Int32) (σ : tn_M), tn_V E G tn_ve 9 [(0, .ref (tn_ad E 3)), (1, .int x1), (2, .int x2), (3, .long x3), (5, .int x5)] [] σ (F_X0_weigh_9 n x1 x2 x3 x5 σ) := by
  intro n
  induction n with
  | zero => intros; exact tr_none
  | succ tn_n ih =>
    intro x1 x2 x3 x5 σ
    rw [F_X0_weigh_9]
    refine tr_iload g 4 11 dX0_weigh_9 rfl rfl ?_
    refine tr_iconst (v := 3) g 12 dX0_weigh_11 rfl rfl ?_
    refine tr_icmp_gt g 115 15 dX0_weigh_12 rfl rfl ?_ ?_
    · refine tr_sub [0, 1, 3] (lv' := [(0, .ref (tn_ad E 3)), (1, .int x1), (3, .long x3)]) rfl ?_
      exact b_X0_weigh_115 g o  _ _ _
    · refine tr_aload_n g 0 16 dX0_weigh_15 rfl rfl rfl ?_
      refine gf_X0_6 g wd_163 19 dX0_weigh_16 rfl ?_
      refine tr_iload g 4 21 dX0_weigh_19 rfl rfl ?_
      refine tr_iald (N := 4) g 22 rfl rfl dX0_weigh_21 rfl ?_
      refine tr_iload_n g 2 23 dX0_weigh_22 rfl rfl rfl ?_
      refine tr_iconst (v := (-1)) g 24 dX0_weigh_23 rfl rfl ?_
      refine tr_ixor g 25 dX0_weigh_24 rfl ?_
      refine tr_iand g 26 dX0_weigh_25 rfl ?_
      refine tr_lti (fun w1 => ?_)
      refine tr_istore (lv' := [(6, .int w1), (0, .ref (tn_ad E 3)), (1, .int x1), (2, .int x2), (3, .long x3), (5, .int x5)]) g 28 dX0_weigh_26 rfl (by decide) rfl ?_
      refine tr_aload_n g 1 29 dX0_weigh_28 rfl rfl rfl ?_
      refine gf_X0_1 g wd_157 32 dX0_weigh_29 rfl ?_
      refine gf_X3_0 g wd_141 35 dX0_weigh_32 rfl ?_
      refine tr_iload g 5 37 dX0_weigh_35 rfl rfl ?_
      refine tr_iload g 0 39 dX0_weigh_37 rfl rfl ?_
      refine kv_X3_rowOf g wd_419 ⟨Nat.le_of_ble_eq_true rfl, Nat.le_of_ble_eq_true rfl⟩ (Nat.le_of_ble_eq_true rfl) 42 dX0_weigh_39 rfl (fun r3 σ2 => ?_)
      refine tr_iload_n g 2 43 dX0_weigh_42 rfl rfl rfl ?_
      refine tr_iadd g 44 dX0_weigh_43 rfl ?_
      refine tr_lald (N := 672) g 45 rfl rfl dX0_weigh_44 rfl ?_
      refine tr_bipush (v := 8) g 47 dX0_weigh_45 rfl rfl ?_
      refine tr_aload_n g 1 48 dX0_weigh_47 rfl rfl rfl ?_
      refine gf_X0_4 g wd_161 51 dX0_weigh_48 rfl ?_
      refine tr_iload g 5 53 dX0_weigh_51 rfl rfl ?_
      refine tr_iald (N := 4) g 54 rfl rfl dX0_weigh_53 rfl ?_
      refine tr_iadd g 55 dX0_weigh_54 rfl ?_
      refine tr_i2l g 56 dX0_weigh_55 rfl ?_
      refine tr_lmul g 57 dX0_weigh_56 rfl ?_
      refine tr_ltl (fun w4 => ?_)
      refine tr_lstore (lv' := [(7, .long w4), (6, .int w1), (0, .ref (tn_ad E 3)), (1, .int x1), (2, .int x2), (3, .long x3), (5, .int x5)]) g 59 dX0_weigh_57 rfl (by decide) rfl ?_
      refine tr_aload_n g 2 60 dX0_weigh_59 rfl rfl rfl ?_
      refine gf_X0_1 g wd_157 63 dX0_weigh_60 rfl ?_
      refine gf_X3_0 g wd_141 66 dX0_weigh_63 rfl ?_
      refine tr_iload g 6 68 dX0_weigh_66 rfl rfl ?_
      refine tr_iload g 1 70 dX0_weigh_68 rfl rfl ?_
      refine tr_iload_n g 4 71 dX0_weigh_70 rfl rfl rfl ?_
      refine tr_ior g 72 dX0_weigh_71 rfl ?_
      refine kv_X3_rowOf g wd_419 ⟨Nat.le_of_ble_eq_true rfl, Nat.le_of_ble_eq_true rfl⟩ (Nat.le_of_ble_eq_true rfl) 75 dX0_weigh_72 rfl (fun r6 σ5 => ?_)
      refine tr_iload_n g 3 76 dX0_weigh_75 rfl rfl rfl ?_
      refine tr_iadd g 77 dX0_weigh_76 rfl ?_
      refine tr_lald (N := 672) g 78 rfl rfl dX0_weigh_77 rfl ?_
      refine tr_bipush (v := 8) g 80 dX0_weigh_78 rfl rfl ?_
      refine tr_aload_n g 2 81 dX0_weigh_80 rfl rfl rfl ?_
      refine gf_X0_4 g wd_161 84 dX0_weigh_81 rfl ?_
      refine tr_iload g 6 86 dX0_weigh_84 rfl rfl ?_
      refine tr_iald (N := 4) g 87 rfl rfl dX0_weigh_86 rfl ?_
      refine tr_iadd g 88 dX0_weigh_87 rfl ?_
      refine tr_i2l g 89 dX0_weigh_88 rfl ?_
      refine tr_lmul g 90 dX0_weigh_89 rfl ?_
      refine tr_ltl (fun w7 => ?_)
      refine tr_lstore (lv' := [(9, .long w7), (7, .long w4), (6, .int w1), (0, .ref (tn_ad E 3)), (1, .int x1), (2, .int x2), (3, .long x3), (5, .int x5)]) g 92 dX0_weigh_90 rfl (by decide) rfl ?_
      refine tr_lload_n g 6 93 dX0_weigh_92 rfl rfl rfl ?_
      refine tr_lload g 1 95 dX0_weigh_93 rfl rfl ?_
      refine tr_ladd g 96 dX0_weigh_95 rfl ?_
      refine tr_lstore_n (lv' := [(3, .long (x3 + w4)), (9, .long w7), (7, .long w4), (6, .int w1), (0, .ref (tn_ad E 3)), (1, .int x1), (2, .int x2), (5, .int x5)]) g 97 dX0_weigh_96 rfl rfl (by decide) rfl ?_
      refine tr_aload_n g 4 98 dX0_weigh_97 rfl rfl rfl ?_
      refine gf_X0_7 g wd_165 101 dX0_weigh_98 rfl ?_
      refine tr_iload g 7 103 dX0_weigh_101 rfl rfl ?_
      refine tr_lload g 1 105 dX0_weigh_103 rfl rfl ?_
      refine tr_lload g 2 107 dX0_weigh_105 rfl rfl ?_
      refine tr_lsub g 108 dX0_weigh_107 rfl ?_
      refine tr_last (N := 4) g 109 rfl rfl dX0_weigh_108 rfl (fun σ8 => ?_)
      refine tr_iinc (lv' := [(5, .int (x5 + 1)), (3, .long (x3 + w4)), (9, .long w7), (7, .long w4), (6, .int w1), (0, .ref (tn_ad E 3)), (1, .int x1), (2, .int x2)]) (x := (x5 + 1)) g 7 112 dX0_weigh_109 rfl rfl rfl (by decide) rfl ?_
      refine tr_goto g 9 dX0_weigh_112 rfl ?_
      refine tr_sub [5, 6, 7, 1, 0] (lv' := [(0, .ref (tn_ad E 3)), (1, .int x1), (2, .int x2), (3, .long (x3 + w4)), (5, .int (x5 + 1))]) rfl ?_
      exact ih _ _ _ _ _
set_option maxHeartbeats 4000000 in
set_option maxRecDepth 20000 in
theorem b_X0_weigh {E : tn_E} {G : tn_G} (g : tn_Ok E G cX0_weigh RX0 11 (tn_rm 1 24)) (o : tn_Om E G none)  (a1 : Int32) (σ : tn_M) : tn_V E G tn_ve 0 [(0, .ref (tn_ad E 3)), (1, .int a1)] [] σ (f_X0_weigh a1 σ) := by
  unfold f_X0_weigh
  refine tr_iconst (v := 1) g 1 dX0_weigh_0 rfl rfl ?_
  refine tr_iload_n g 1 2 dX0_weigh_1 rfl rfl rfl ?_
  refine tr_ishl g 3 dX0_weigh_2 rfl ?_
  refine tr_lti (fun w1 => ?_)
  refine tr_istore_n (lv' := [(2, .int w1), (0, .ref (tn_ad E 3)), (1, .int a1)]) g 4 dX0_weigh_3 rfl rfl (by decide) rfl ?_
  refine tr_lconst (v := 0) g 5 dX0_weigh_4 rfl rfl ?_
  refine tr_lstore_n (lv' := [(3, .long 0), (2, .int w1), (0, .ref (tn_ad E 3)), (1, .int a1)]) g 6 dX0_weigh_5 rfl rfl (by decide) rfl ?_
  refine tr_iconst (v := 1) g 7 dX0_weigh_6 rfl rfl ?_
  refine tr_istore (lv' := [(5, .int 1), (3, .long 0), (2, .int w1), (0, .ref (tn_ad E 3)), (1, .int a1)]) g 9 dX0_weigh_7 rfl (by decide) rfl ?_
  refine tr_sub [3, 4, 2, 1, 0] (lv' := [(0, .ref (tn_ad E 3)), (1, .int a1), (2, .int w1), (3, .long 0), (5, .int 1)]) rfl ?_
  exact b_X0_weigh_9 g o  tn_fuel _ _ _ _ _
theorem ok_X0_weigh {E : tn_E} {l : Launch}   (a1 : Int32) {σ : tn_M} {r : Unit} {σ' : tn_M} (h : f_X0_weigh a1 σ = some (r, σ')) : tn_C E l yX0_weigh cX0_weigh 11 none (tn_rm 1 24) [.ref (tn_ad E 3), .int a1] σ (tn_ve r) σ' :=
  tn_met (by decide) (Nat.le_of_ble_eq_true rfl) (fun G _ g o => b_X0_weigh g o  a1 σ) h
theorem yy_X0_weigh : tn_Yv RX0 yX0_weigh cX0_weigh 11 none 1 := ⟨wd_458, wd_457, wd_16, wd_68, by decide, by decide, by decide +kernel⟩
theorem kv_X0_weigh {E : tn_E} {G : tn_G} {cc : ByteArray} {own : String} {nL : Nat} {R : Room} {ρ : Type} {enc : ρ → Option Value} {pc : Nat} {lv : List (Nat × Value)} {st : List Value} {σ : tn_M} {kk : Unit → tn_M → Option (ρ × tn_M)} {i : Nat}  {a1 : Int32} (g : tn_Ok E G cc own nL R)  (hw : Cond.methodLink own i yX0_weigh ∈ tn_T) (hroom : 2 ≤ R.frames ∧ 54 ≤ R.locals) (hW : (st.map fun v => v.category).sum ≤ 8) (n : Nat) (hd : decode cc pc = .ok (.invokevirtual i, 3)) (hn : pc + 3 = n) (k : ∀ r σ1, tn_V E G enc n lv (st) σ1 (kk r σ1)) : tn_V E G enc pc lv (.int a1 :: .ref (tn_ad E 3) :: st) σ (tn_bd (f_X0_weigh a1 σ) kk) :=
  tr_callV (As := [.int a1]) (enc1 := tn_ve) g yy_X0_weigh hw (ci := 0) rfl (by decide) rfl (fun r σ1 h => ok_X0_weigh  a1 h) ⟨rfl, rfl⟩ ⟨hroom.1, by have h2 := hroom.2; show 8 + (11 + 11) + 24 ≤ R.locals; omega⟩ rfl rfl hW n hd hn k
/-! X0_reply -/
def F_X0_reply_9  : Nat → Int32 → Int32 → Int32 → tn_M → Option (Int32 × tn_M)
  | 0, _, _, _, _ => none
  | tn_n + 1, x1, x2, x3, σ => 
    tn_ck x1 5 <|
    if (σ.1 21 (tn_x x1)) < x3 then
      some (x2, σ)
    else
      tn_ck x3 4 <|
      tn_ck x2 4 <|
      if (σ.2 25 (tn_x x3)) ≤ (σ.2 25 (tn_x x2)) then
        F_X0_reply_9 tn_n x1 x2 (x3 + 1) σ
      else
        F_X0_reply_9 tn_n x1 x3 (x3 + 1) σ
def f_X0_reply  (a1 : Int32) (σ : tn_M) : Option (Int32 × tn_M) :=
  tn_bd (f_X0_weigh a1 σ) fun _ σ1 =>
  F_X0_reply_9 tn_fuel a1 0 1 σ1
set_option maxHeartbeats 4000000 in
set_option maxRecDepth 20000 in
theorem b_X0_reply_9 {E : tn_E} {G : tn_G} (g : tn_Ok E G cX0_reply RX0 4 (tn_rm 2 54)) (o : tn_Om E G (some .int))  : ∀ (n : Nat) (x1 : Int32) (x2 : Int32) (x3 : Int32) (σ : tn_M), tn_V E G tn_ie 9 [(0, .ref (tn_ad E 3)), (1, .int x1), (2, .int x2), (3, .int x3)] [] σ (F_X0_reply_9 n x1 x2 x3 σ) := by
  intro n
  induction n with
  | zero => intros; exact tr_none
  | succ tn_n ih =>
    intro x1 x2 x3 σ
    rw [F_X0_reply_9]
    refine tr_iload_n g 3 10 dX0_reply_9 rfl rfl rfl ?_
    refine tr_aload_n g 0 11 dX0_reply_10 rfl rfl rfl ?_
    refine gf_X0_3 g wd_160 14 dX0_reply_11 rfl ?_
    refine tr_iload_n g 1 15 dX0_reply_14 rfl rfl rfl ?_
    refine tr_iald (N := 5) g 16 rfl rfl dX0_reply_15 rfl ?_
    refine tr_icmp_gt g 43 19 dX0_reply_16 rfl rfl ?_ ?_
    · refine tr_iload_n g 2 44 dX0_reply_43 rfl rfl rfl ?_
      exact tr_iret g o dX0_reply_44
    · refine tr_aload_n g 0 20 dX0_reply_19 rfl rfl rfl ?_
      refine gf_X0_7 g wd_165 23 dX0_reply_20 rfl ?_
      refine tr_iload_n g 3 24 dX0_reply_23 rfl rfl rfl ?_
      refine tr_lald (N := 4) g 25 rfl rfl dX0_reply_24 rfl ?_
      refine tr_aload_n g 0 26 dX0_reply_25 rfl rfl rfl ?_
      refine gf_X0_7 g wd_165 29 dX0_reply_26 rfl ?_
      refine tr_iload_n g 2 30 dX0_reply_29 rfl rfl rfl ?_
      refine tr_lald (N := 4) g 31 rfl rfl dX0_reply_30 rfl ?_
      refine tr_lle g 37 35 dX0_reply_31 dX0_reply_32 rfl rfl ?_ ?_
      · refine tr_iinc (lv' := [(3, .int (x3 + 1)), (0, .ref (tn_ad E 3)), (1, .int x1), (2, .int x2)]) (x := (x3 + 1)) g 3 40 dX0_reply_37 rfl rfl rfl (by decide) rfl ?_
        refine tr_goto g 9 dX0_reply_40 rfl ?_
        refine tr_sub [1, 2, 3, 0] (lv' := [(0, .ref (tn_ad E 3)), (1, .int x1), (2, .int x2), (3, .int (x3 + 1))]) rfl ?_
        exact ih _ _ _ _
      · refine tr_iload_n g 3 36 dX0_reply_35 rfl rfl rfl ?_
        refine tr_istore_n (lv' := [(2, .int x3), (0, .ref (tn_ad E 3)), (1, .int x1), (3, .int x3)]) g 37 dX0_reply_36 rfl rfl (by decide) rfl ?_
        refine tr_iinc (lv' := [(3, .int (x3 + 1)), (2, .int x3), (0, .ref (tn_ad E 3)), (1, .int x1)]) (x := (x3 + 1)) g 3 40 dX0_reply_37 rfl rfl rfl (by decide) rfl ?_
        refine tr_goto g 9 dX0_reply_40 rfl ?_
        refine tr_sub [2, 3, 1, 0] (lv' := [(0, .ref (tn_ad E 3)), (1, .int x1), (2, .int x3), (3, .int (x3 + 1))]) rfl ?_
        exact ih _ _ _ _
set_option maxHeartbeats 4000000 in
set_option maxRecDepth 20000 in
theorem b_X0_reply {E : tn_E} {G : tn_G} (g : tn_Ok E G cX0_reply RX0 4 (tn_rm 2 54)) (o : tn_Om E G (some .int))  (a1 : Int32) (σ : tn_M) : tn_V E G tn_ie 0 [(0, .ref (tn_ad E 3)), (1, .int a1)] [] σ (f_X0_reply a1 σ) := by
  unfold f_X0_reply
  refine tr_aload_n g 0 1 dX0_reply_0 rfl rfl rfl ?_
  refine tr_iload_n g 1 2 dX0_reply_1 rfl rfl rfl ?_
  refine kv_X0_weigh g wd_455 ⟨Nat.le_of_ble_eq_true rfl, Nat.le_of_ble_eq_true rfl⟩ (Nat.le_of_ble_eq_true rfl) 5 dX0_reply_2 rfl (fun _ σ1 => ?_)
  refine tr_iconst (v := 0) g 6 dX0_reply_5 rfl rfl ?_
  refine tr_istore_n (lv' := [(2, .int 0), (0, .ref (tn_ad E 3)), (1, .int a1)]) g 7 dX0_reply_6 rfl rfl (by decide) rfl ?_
  refine tr_iconst (v := 1) g 8 dX0_reply_7 rfl rfl ?_
  refine tr_istore_n (lv' := [(3, .int 1), (2, .int 0), (0, .ref (tn_ad E 3)), (1, .int a1)]) g 9 dX0_reply_8 rfl rfl (by decide) rfl ?_
  refine tr_sub [2, 3, 1, 0] (lv' := [(0, .ref (tn_ad E 3)), (1, .int a1), (2, .int 0), (3, .int 1)]) rfl ?_
  exact b_X0_reply_9 g o  tn_fuel _ _ _ _
theorem ok_X0_reply {E : tn_E} {l : Launch}   (a1 : Int32) {σ : tn_M} {r : Int32} {σ' : tn_M} (h : f_X0_reply a1 σ = some (r, σ')) : tn_C E l yX0_reply cX0_reply 4 (some .int) (tn_rm 2 54) [.ref (tn_ad E 3), .int a1] σ (tn_ie r) σ' :=
  tn_met (by decide) (Nat.le_of_ble_eq_true rfl) (fun G _ g o => b_X0_reply g o  a1 σ) h
theorem yy_X0_reply : tn_Yv RX0 yX0_reply cX0_reply 4 (some .int) 1 := ⟨wd_454, wd_452, wd_453, wd_68, by decide, by decide, by decide +kernel⟩
theorem kv_X0_reply {E : tn_E} {G : tn_G} {cc : ByteArray} {own : String} {nL : Nat} {R : Room} {ρ : Type} {enc : ρ → Option Value} {pc : Nat} {lv : List (Nat × Value)} {st : List Value} {σ : tn_M} {kk : Int32 → tn_M → Option (ρ × tn_M)} {i : Nat}  {a1 : Int32} (g : tn_Ok E G cc own nL R)  (hw : Cond.methodLink own i yX0_reply ∈ tn_T) (hroom : 3 ≤ R.frames ∧ 77 ≤ R.locals) (hW : (st.map fun v => v.category).sum ≤ 8) (n : Nat) (hd : decode cc pc = .ok (.invokevirtual i, 3)) (hn : pc + 3 = n) (k : ∀ r σ1, tn_V E G enc n lv (.int r :: st) σ1 (kk r σ1)) : tn_V E G enc pc lv (.int a1 :: .ref (tn_ad E 3) :: st) σ (tn_bd (f_X0_reply a1 σ) kk) :=
  tr_callV (As := [.int a1]) (enc1 := tn_ie) g yy_X0_reply hw (ci := 0) rfl (by decide) rfl (fun r σ1 h => ok_X0_reply  a1 h) ⟨rfl, rfl⟩ ⟨hroom.1, by have h2 := hroom.2; show 8 + (4 + 11) + 54 ≤ R.locals; omega⟩ rfl rfl hW n hd hn k
/-! X0_runDown -/
def F_X0_runDown_79  (x1 : Int32) (σ : tn_M) : Option (Int32 × tn_M) :=
  tn_lt (tn_si σ 3 12 x1) fun σ1 =>
  some (1, σ1)
def F_X0_runDown_75 (c2 : Int32 → tn_M → Option (Int32 × tn_M)) (x1 : Int32) (x2 : Int32) (σ : tn_M) : Option (Int32 × tn_M) :=
  if x2 = 0 then
    F_X0_runDown_79 x1 σ
  else
    c2 (x1 + 1) σ
def F_X0_runDown_12 (c2 : Int32 → tn_M → Option (Int32 × tn_M)) : Nat → Int32 → Int32 → Int32 → tn_M → Option (Int32 × tn_M)
  | 0, _, _, _, _ => none
  | tn_n + 1, x1, x2, x3, σ => 
    if (σ.1 1 5) ≤ x3 then
      F_X0_runDown_75 c2 x1 x2 σ
    else
      tn_bd (f_X0_reply x3 σ) fun r2 σ1 =>
      if x3 = (σ1.1 3 11) then
        F_X0_runDown_12 c2 tn_n x1 x2 (x3 + 1) σ1
      else
        tn_ck r2 4 <|
        tn_ck x3 5 <|
        tn_ck (σ1.1 20 (tn_x x3)) 4 <|
        if (σ1.2 25 (tn_x r2)) ≤ (σ1.2 25 (tn_x (σ1.1 20 (tn_x x3)))) then
          F_X0_runDown_12 c2 tn_n x1 x2 (x3 + 1) σ1
        else
          tn_bd (f_X0_become x3 r2 σ1) fun _ σ3 =>
          F_X0_runDown_12 c2 tn_n x1 1 (x3 + 1) σ3
def F_X0_runDown_2  : Nat → Int32 → tn_M → Option (Int32 × tn_M)
  | 0, _, _ => none
  | tn_n + 1, x1, σ => 
    if 40 ≤ x1 then
      some (0, σ)
    else
      F_X0_runDown_12 (fun z0 zs => F_X0_runDown_2 tn_n z0 zs) tn_fuel x1 0 0 σ
def f_X0_runDown   (σ : tn_M) : Option (Int32 × tn_M) :=
  F_X0_runDown_2 tn_fuel 0 σ
set_option maxHeartbeats 4000000 in
set_option maxRecDepth 20000 in
theorem b_X0_runDown_79 {E : tn_E} {G : tn_G} (g : tn_Ok E G cX0_runDown RX0 5 (tn_rm 3 77)) (o : tn_Om E G (some .boolean))  (x1 : Int32) (σ : tn_M) : tn_V E G tn_ie 79 [(0, .ref (tn_ad E 3)), (1, .int x1)] [] σ (F_X0_runDown_79 x1 σ) := by
  unfold F_X0_runDown_79
  refine tr_aload_n g 0 80 dX0_runDown_79 rfl rfl rfl ?_
  refine tr_iload_n g 1 81 dX0_runDown_80 rfl rfl rfl ?_
  refine pf_X0_12 g wd_172 84 dX0_runDown_81 rfl (fun σ1 => ?_)
  refine tr_iconst (v := 1) g 85 dX0_runDown_84 rfl rfl ?_
  exact tr_zret g o rfl dX0_runDown_85
set_option maxHeartbeats 4000000 in
set_option maxRecDepth 20000 in
theorem b_X0_runDown_75 {E : tn_E} {G : tn_G} (g : tn_Ok E G cX0_runDown RX0 5 (tn_rm 3 77)) (o : tn_Om E G (some .boolean)) (c2 : Int32 → tn_M → Option (Int32 × tn_M)) (hc2 : ∀ (x1 : Int32) (σ : tn_M), tn_V E G tn_ie 2 [(0, .ref (tn_ad E 3)), (1, .int x1)] [] σ (c2 x1 σ)) (x1 : Int32) (x2 : Int32) (σ : tn_M) : tn_V E G tn_ie 75 [(0, .ref (tn_ad E 3)), (1, .int x1), (2, .int x2)] [] σ (F_X0_runDown_75 c2 x1 x2 σ) := by
  unfold F_X0_runDown_75
  refine tr_iload_n g 2 76 dX0_runDown_75 rfl rfl rfl ?_
  refine tr_if_ne g 86 79 dX0_runDown_76 rfl rfl ?_ ?_
  · refine tr_iinc (lv' := [(1, .int (x1 + 1)), (0, .ref (tn_ad E 3)), (2, .int x2)]) (x := (x1 + 1)) g 1 89 dX0_runDown_86 rfl rfl rfl (by decide) rfl ?_
    refine tr_goto g 2 dX0_runDown_89 rfl ?_
    refine tr_sub [1, 0] (lv' := [(0, .ref (tn_ad E 3)), (1, .int (x1 + 1))]) rfl ?_
    exact hc2 _ _
  · refine tr_sub [0, 1] (lv' := [(0, .ref (tn_ad E 3)), (1, .int x1)]) rfl ?_
    exact b_X0_runDown_79 g o  _ _
set_option maxHeartbeats 4000000 in
set_option maxRecDepth 20000 in
theorem b_X0_runDown_12 {E : tn_E} {G : tn_G} (g : tn_Ok E G cX0_runDown RX0 5 (tn_rm 3 77)) (o : tn_Om E G (some .boolean)) (c2 : Int32 → tn_M → Option (Int32 × tn_M)) (hc2 : ∀ (x1 : Int32) (σ : tn_M), tn_V E G tn_ie 2 [(0, .ref (tn_ad E 3)), (1, .int x1)] [] σ (c2 x1 σ)) : ∀ (n : Nat) (x1 : Int32) (x2 : Int32) (x3 : Int32) (σ : tn_M), tn_V E G tn_ie 12 [(0, .ref (tn_ad E 3)), (1, .int x1), (2, .int x2), (3, .int x3)] [] σ (F_X0_runDown_12 c2 n x1 x2 x3 σ) := by
  intro n
  induction n with
  | zero => intros; exact tr_none
  | succ tn_n ih =>
    intro x1 x2 x3 σ
    rw [F_X0_runDown_12]
    refine tr_iload_n g 3 13 dX0_runDown_12 rfl rfl rfl ?_
    refine tr_aload_n g 0 14 dX0_runDown_13 rfl rfl rfl ?_
    refine gf_X0_0 g wd_156 17 dX0_runDown_14 rfl ?_
    refine gf_X2_5 g wd_104 20 dX0_runDown_17 rfl ?_
    refine tr_icmp_ge g 75 23 dX0_runDown_20 rfl rfl ?_ ?_
    · refine tr_sub [0, 1, 2] (lv' := [(0, .ref (tn_ad E 3)), (1, .int x1), (2, .int x2)]) rfl ?_
      exact b_X0_runDown_75 g o c2 hc2 _ _ _
    · refine tr_aload_n g 0 24 dX0_runDown_23 rfl rfl rfl ?_
      refine tr_iload_n g 3 25 dX0_runDown_24 rfl rfl rfl ?_
      refine kv_X0_reply g wd_467 ⟨Nat.le_of_ble_eq_true rfl, Nat.le_of_ble_eq_true rfl⟩ (Nat.le_of_ble_eq_true rfl) 28 dX0_runDown_25 rfl (fun r2 σ1 => ?_)
      refine tr_istore (lv' := [(4, .int r2), (0, .ref (tn_ad E 3)), (1, .int x1), (2, .int x2), (3, .int x3)]) g 30 dX0_runDown_28 rfl (by decide) rfl ?_
      refine tr_iload_n g 4 31 dX0_runDown_30 rfl rfl rfl ?_
      refine tr_aload_n g 1 32 dX0_runDown_31 rfl rfl rfl ?_
      refine gf_X0_11 g wd_170 35 dX0_runDown_32 rfl ?_
      refine tr_icmp_eq g 69 38 dX0_runDown_35 rfl rfl ?_ ?_
      · refine tr_iinc (lv' := [(3, .int (x3 + 1)), (4, .int r2), (0, .ref (tn_ad E 3)), (1, .int x1), (2, .int x2)]) (x := (x3 + 1)) g 4 72 dX0_runDown_69 rfl rfl rfl (by decide) rfl ?_
        refine tr_goto g 12 dX0_runDown_72 rfl ?_
        refine tr_sub [2, 3, 4, 0] (lv' := [(0, .ref (tn_ad E 3)), (1, .int x1), (2, .int x2), (3, .int (x3 + 1))]) rfl ?_
        exact ih _ _ _ _
      · refine tr_aload_n g 1 39 dX0_runDown_38 rfl rfl rfl ?_
        refine gf_X0_7 g wd_165 42 dX0_runDown_39 rfl ?_
        refine tr_iload g 0 44 dX0_runDown_42 rfl rfl ?_
        refine tr_lald (N := 4) g 45 rfl rfl dX0_runDown_44 rfl ?_
        refine tr_aload_n g 1 46 dX0_runDown_45 rfl rfl rfl ?_
        refine gf_X0_7 g wd_165 49 dX0_runDown_46 rfl ?_
        refine tr_aload_n g 1 50 dX0_runDown_49 rfl rfl rfl ?_
        refine gf_X0_2 g wd_158 53 dX0_runDown_50 rfl ?_
        refine tr_iload_n g 4 54 dX0_runDown_53 rfl rfl rfl ?_
        refine tr_iald (N := 5) g 55 rfl rfl dX0_runDown_54 rfl ?_
        refine tr_lald (N := 4) g 56 rfl rfl dX0_runDown_55 rfl ?_
        refine tr_lle g 69 60 dX0_runDown_56 dX0_runDown_57 rfl rfl ?_ ?_
        · refine tr_iinc (lv' := [(3, .int (x3 + 1)), (4, .int r2), (0, .ref (tn_ad E 3)), (1, .int x1), (2, .int x2)]) (x := (x3 + 1)) g 4 72 dX0_runDown_69 rfl rfl rfl (by decide) rfl ?_
          refine tr_goto g 12 dX0_runDown_72 rfl ?_
          refine tr_sub [2, 3, 4, 0] (lv' := [(0, .ref (tn_ad E 3)), (1, .int x1), (2, .int x2), (3, .int (x3 + 1))]) rfl ?_
          exact ih _ _ _ _
        · refine tr_aload_n g 1 61 dX0_runDown_60 rfl rfl rfl ?_
          refine tr_iload_n g 4 62 dX0_runDown_61 rfl rfl rfl ?_
          refine tr_iload g 0 64 dX0_runDown_62 rfl rfl ?_
          refine kv_X0_become g wd_396 ⟨Nat.le_of_ble_eq_true rfl, Nat.le_of_ble_eq_true rfl⟩ (Nat.le_of_ble_eq_true rfl) 67 dX0_runDown_64 rfl (fun _ σ3 => ?_)
          refine tr_iconst (v := 1) g 68 dX0_runDown_67 rfl rfl ?_
          refine tr_istore_n (lv' := [(2, .int 1), (4, .int r2), (0, .ref (tn_ad E 3)), (1, .int x1), (3, .int x3)]) g 69 dX0_runDown_68 rfl rfl (by decide) rfl ?_
          refine tr_iinc (lv' := [(3, .int (x3 + 1)), (2, .int 1), (4, .int r2), (0, .ref (tn_ad E 3)), (1, .int x1)]) (x := (x3 + 1)) g 4 72 dX0_runDown_69 rfl rfl rfl (by decide) rfl ?_
          refine tr_goto g 12 dX0_runDown_72 rfl ?_
          refine tr_sub [3, 4, 1, 0] (lv' := [(0, .ref (tn_ad E 3)), (1, .int x1), (2, .int 1), (3, .int (x3 + 1))]) rfl ?_
          exact ih _ _ _ _
set_option maxHeartbeats 4000000 in
set_option maxRecDepth 20000 in
theorem b_X0_runDown_2 {E : tn_E} {G : tn_G} (g : tn_Ok E G cX0_runDown RX0 5 (tn_rm 3 77)) (o : tn_Om E G (some .boolean))  : ∀ (n : Nat) (x1 : Int32) (σ : tn_M), tn_V E G tn_ie 2 [(0, .ref (tn_ad E 3)), (1, .int x1)] [] σ (F_X0_runDown_2 n x1 σ) := by
  intro n
  induction n with
  | zero => intros; exact tr_none
  | succ tn_n ih =>
    intro x1 σ
    rw [F_X0_runDown_2]
    refine tr_iload_n g 1 3 dX0_runDown_2 rfl rfl rfl ?_
    refine tr_bipush (v := 40) g 5 dX0_runDown_3 rfl rfl ?_
    refine tr_icmp_ge g 92 8 dX0_runDown_5 rfl rfl ?_ ?_
    · refine tr_iconst (v := 0) g 93 dX0_runDown_92 rfl rfl ?_
      exact tr_zret g o rfl dX0_runDown_93
    · refine tr_iconst (v := 0) g 9 dX0_runDown_8 rfl rfl ?_
      refine tr_istore_n (lv' := [(2, .int 0), (0, .ref (tn_ad E 3)), (1, .int x1)]) g 10 dX0_runDown_9 rfl rfl (by decide) rfl ?_
      refine tr_iconst (v := 0) g 11 dX0_runDown_10 rfl rfl ?_
      refine tr_istore_n (lv' := [(3, .int 0), (2, .int 0), (0, .ref (tn_ad E 3)), (1, .int x1)]) g 12 dX0_runDown_11 rfl rfl (by decide) rfl ?_
      refine tr_sub [2, 3, 1, 0] (lv' := [(0, .ref (tn_ad E 3)), (1, .int x1), (2, .int 0), (3, .int 0)]) rfl ?_
      exact b_X0_runDown_12 g o (fun z0 zs => F_X0_runDown_2 tn_n z0 zs) (fun z0 zs => ih z0 zs) tn_fuel _ _ _ _
set_option maxHeartbeats 4000000 in
set_option maxRecDepth 20000 in
theorem b_X0_runDown {E : tn_E} {G : tn_G} (g : tn_Ok E G cX0_runDown RX0 5 (tn_rm 3 77)) (o : tn_Om E G (some .boolean))   (σ : tn_M) : tn_V E G tn_ie 0 [(0, .ref (tn_ad E 3))] [] σ (f_X0_runDown σ) := by
  unfold f_X0_runDown
  refine tr_iconst (v := 0) g 1 dX0_runDown_0 rfl rfl ?_
  refine tr_istore_n (lv' := [(1, .int 0), (0, .ref (tn_ad E 3))]) g 2 dX0_runDown_1 rfl rfl (by decide) rfl ?_
  refine tr_sub [1, 0] (lv' := [(0, .ref (tn_ad E 3)), (1, .int 0)]) rfl ?_
  exact b_X0_runDown_2 g o  tn_fuel _ _
theorem ok_X0_runDown {E : tn_E} {l : Launch}    {σ : tn_M} {r : Int32} {σ' : tn_M} (h : f_X0_runDown  σ = some (r, σ')) : tn_C E l yX0_runDown cX0_runDown 5 (some .boolean) (tn_rm 3 77) [.ref (tn_ad E 3)] σ (tn_ie r) σ' :=
  tn_met (by decide) (Nat.le_of_ble_eq_true rfl) (fun G _ g o => b_X0_runDown g o   σ) h
theorem yy_X0_runDown : tn_Yv RX0 yX0_runDown cX0_runDown 5 (some .boolean) 0 := ⟨wd_466, wd_464, wd_465, wd_68, by decide, by decide, by decide +kernel⟩
theorem kv_X0_runDown {E : tn_E} {G : tn_G} {cc : ByteArray} {own : String} {nL : Nat} {R : Room} {ρ : Type} {enc : ρ → Option Value} {pc : Nat} {lv : List (Nat × Value)} {st : List Value} {σ : tn_M} {kk : Int32 → tn_M → Option (ρ × tn_M)} {i : Nat}   (g : tn_Ok E G cc own nL R)  (hw : Cond.methodLink own i yX0_runDown ∈ tn_T) (hroom : 4 ≤ R.frames ∧ 101 ≤ R.locals) (hW : (st.map fun v => v.category).sum ≤ 8) (n : Nat) (hd : decode cc pc = .ok (.invokevirtual i, 3)) (hn : pc + 3 = n) (k : ∀ r σ1, tn_V E G enc n lv (.int r :: st) σ1 (kk r σ1)) : tn_V E G enc pc lv (.ref (tn_ad E 3) :: st) σ (tn_bd (f_X0_runDown  σ) kk) :=
  tr_callV (As := []) (enc1 := tn_ie) g yy_X0_runDown hw (ci := 0) rfl (by decide) rfl (fun r σ1 h => ok_X0_runDown   h) ⟨rfl, rfl⟩ ⟨hroom.1, by have h2 := hroom.2; show 8 + (5 + 11) + 77 ≤ R.locals; omega⟩ rfl rfl hW n hd hn k
/-! X0_profiles -/
def f_X0_profiles   (σ : tn_M) : Option (Int32 × tn_M) :=
  some ((1 <<< ((2 * (σ.1 1 5)) &&& 31)), σ)
set_option maxHeartbeats 4000000 in
set_option maxRecDepth 20000 in
theorem b_X0_profiles {E : tn_E} {G : tn_G} (g : tn_Ok E G cX0_profiles RX0 1 (tn_rm 0 0)) (o : tn_Om E G (some .int))   (σ : tn_M) : tn_V E G tn_ie 0 [(0, .ref (tn_ad E 3))] [] σ (f_X0_profiles σ) := by
  unfold f_X0_profiles
  refine tr_iconst (v := 1) g 1 dX0_profiles_0 rfl rfl ?_
  refine tr_iconst (v := 2) g 2 dX0_profiles_1 rfl rfl ?_
  refine tr_aload_n g 0 3 dX0_profiles_2 rfl rfl rfl ?_
  refine gf_X0_0 g wd_156 6 dX0_profiles_3 rfl ?_
  refine gf_X2_5 g wd_104 9 dX0_profiles_6 rfl ?_
  refine tr_imul g 10 dX0_profiles_9 rfl ?_
  refine tr_ishl g 11 dX0_profiles_10 rfl ?_
  exact tr_iret g o dX0_profiles_11
theorem ok_X0_profiles {E : tn_E} {l : Launch}    {σ : tn_M} {r : Int32} {σ' : tn_M} (h : f_X0_profiles  σ = some (r, σ')) : tn_C E l yX0_profiles cX0_profiles 1 (some .int) (tn_rm 0 0) [.ref (tn_ad E 3)] σ (tn_ie r) σ' :=
  tn_met (by decide) (Nat.le_of_ble_eq_true rfl) (fun G _ g o => b_X0_profiles g o   σ) h
theorem yy_X0_profiles : tn_Yv RX0 yX0_profiles cX0_profiles 1 (some .int) 0 := ⟨wd_479, wd_477, wd_478, wd_68, by decide, by decide, by decide +kernel⟩
theorem kv_X0_profiles {E : tn_E} {G : tn_G} {cc : ByteArray} {own : String} {nL : Nat} {R : Room} {ρ : Type} {enc : ρ → Option Value} {pc : Nat} {lv : List (Nat × Value)} {st : List Value} {σ : tn_M} {kk : Int32 → tn_M → Option (ρ × tn_M)} {i : Nat}   (g : tn_Ok E G cc own nL R)  (hw : Cond.methodLink own i yX0_profiles ∈ tn_T) (hroom : 1 ≤ R.frames ∧ 20 ≤ R.locals) (hW : (st.map fun v => v.category).sum ≤ 8) (n : Nat) (hd : decode cc pc = .ok (.invokevirtual i, 3)) (hn : pc + 3 = n) (k : ∀ r σ1, tn_V E G enc n lv (.int r :: st) σ1 (kk r σ1)) : tn_V E G enc pc lv (.ref (tn_ad E 3) :: st) σ (tn_bd (f_X0_profiles  σ) kk) :=
  tr_callV (As := []) (enc1 := tn_ie) g yy_X0_profiles hw (ci := 0) rfl (by decide) rfl (fun r σ1 h => ok_X0_profiles   h) ⟨rfl, rfl⟩ ⟨hroom.1, by have h2 := hroom.2; show 8 + (1 + 11) + 0 ≤ R.locals; omega⟩ rfl rfl hW n hd hn k
/-! X0_digit -/
def f_X0_digit  (a1 : Int32) (a2 : Int32) (σ : tn_M) : Option (Int32 × tn_M) :=
  some (((a1 >>> ((2 * (((σ.1 1 5) - 1) - a2)) &&& 31)) &&& 3), σ)
set_option maxHeartbeats 4000000 in
set_option maxRecDepth 20000 in
theorem b_X0_digit {E : tn_E} {G : tn_G} (g : tn_Ok E G cX0_digit RX0 3 (tn_rm 0 0)) (o : tn_Om E G (some .int))  (a1 : Int32) (a2 : Int32) (σ : tn_M) : tn_V E G tn_ie 0 [(0, .ref (tn_ad E 3)), (1, .int a1), (2, .int a2)] [] σ (f_X0_digit a1 a2 σ) := by
  unfold f_X0_digit
  refine tr_iload_n g 1 1 dX0_digit_0 rfl rfl rfl ?_
  refine tr_iconst (v := 2) g 2 dX0_digit_1 rfl rfl ?_
  refine tr_aload_n g 0 3 dX0_digit_2 rfl rfl rfl ?_
  refine gf_X0_0 g wd_156 6 dX0_digit_3 rfl ?_
  refine gf_X2_5 g wd_104 9 dX0_digit_6 rfl ?_
  refine tr_iconst (v := 1) g 10 dX0_digit_9 rfl rfl ?_
  refine tr_isub g 11 dX0_digit_10 rfl ?_
  refine tr_iload_n g 2 12 dX0_digit_11 rfl rfl rfl ?_
  refine tr_isub g 13 dX0_digit_12 rfl ?_
  refine tr_imul g 14 dX0_digit_13 rfl ?_
  refine tr_ishr g 15 dX0_digit_14 rfl ?_
  refine tr_iconst (v := 3) g 16 dX0_digit_15 rfl rfl ?_
  refine tr_iand g 17 dX0_digit_16 rfl ?_
  exact tr_iret g o dX0_digit_17
theorem ok_X0_digit {E : tn_E} {l : Launch}   (a1 : Int32) (a2 : Int32) {σ : tn_M} {r : Int32} {σ' : tn_M} (h : f_X0_digit a1 a2 σ = some (r, σ')) : tn_C E l yX0_digit cX0_digit 3 (some .int) (tn_rm 0 0) [.ref (tn_ad E 3), .int a1, .int a2] σ (tn_ie r) σ' :=
  tn_met (by decide) (Nat.le_of_ble_eq_true rfl) (fun G _ g o => b_X0_digit g o  a1 a2 σ) h
theorem yy_X0_digit : tn_Yv RX0 yX0_digit cX0_digit 3 (some .int) 2 := ⟨wd_487, wd_485, wd_486, wd_68, by decide, by decide, by decide +kernel⟩
theorem kv_X0_digit {E : tn_E} {G : tn_G} {cc : ByteArray} {own : String} {nL : Nat} {R : Room} {ρ : Type} {enc : ρ → Option Value} {pc : Nat} {lv : List (Nat × Value)} {st : List Value} {σ : tn_M} {kk : Int32 → tn_M → Option (ρ × tn_M)} {i : Nat}  {a1 : Int32} {a2 : Int32} (g : tn_Ok E G cc own nL R)  (hw : Cond.methodLink own i yX0_digit ∈ tn_T) (hroom : 1 ≤ R.frames ∧ 22 ≤ R.locals) (hW : (st.map fun v => v.category).sum ≤ 8) (n : Nat) (hd : decode cc pc = .ok (.invokevirtual i, 3)) (hn : pc + 3 = n) (k : ∀ r σ1, tn_V E G enc n lv (.int r :: st) σ1 (kk r σ1)) : tn_V E G enc pc lv (.int a2 :: .int a1 :: .ref (tn_ad E 3) :: st) σ (tn_bd (f_X0_digit a1 a2 σ) kk) :=
  tr_callV (As := [.int a1, .int a2]) (enc1 := tn_ie) g yy_X0_digit hw (ci := 0) rfl (by decide) rfl (fun r σ1 h => ok_X0_digit  a1 a2 h) ⟨rfl, rfl⟩ ⟨hroom.1, by have h2 := hroom.2; show 8 + (3 + 11) + 0 ≤ R.locals; omega⟩ rfl rfl hW n hd hn k
/-! X0_place -/
def F_X0_place_2  : Nat → Int32 → Int32 → tn_M → Option (Unit × tn_M)
  | 0, _, _, _ => none
  | tn_n + 1, x1, x2, σ => 
    if (σ.1 1 5) ≤ x2 then
      some ((), σ)
    else
      tn_bd (f_X0_digit x1 x2 σ) fun r2 σ1 =>
      tn_bd (f_X0_become x2 r2 σ1) fun _ σ3 =>
      F_X0_place_2 tn_n x1 (x2 + 1) σ3
def f_X0_place  (a1 : Int32) (σ : tn_M) : Option (Unit × tn_M) :=
  F_X0_place_2 tn_fuel a1 0 σ
set_option maxHeartbeats 4000000 in
set_option maxRecDepth 20000 in
theorem b_X0_place_2 {E : tn_E} {G : tn_G} (g : tn_Ok E G cX0_place RX0 3 (tn_rm 1 23)) (o : tn_Om E G none)  : ∀ (n : Nat) (x1 : Int32) (x2 : Int32) (σ : tn_M), tn_V E G tn_ve 2 [(0, .ref (tn_ad E 3)), (1, .int x1), (2, .int x2)] [] σ (F_X0_place_2 n x1 x2 σ) := by
  intro n
  induction n with
  | zero => intros; exact tr_none
  | succ tn_n ih =>
    intro x1 x2 σ
    rw [F_X0_place_2]
    refine tr_iload_n g 2 3 dX0_place_2 rfl rfl rfl ?_
    refine tr_aload_n g 0 4 dX0_place_3 rfl rfl rfl ?_
    refine gf_X0_0 g wd_156 7 dX0_place_4 rfl ?_
    refine gf_X2_5 g wd_104 10 dX0_place_7 rfl ?_
    refine tr_icmp_ge g 30 13 dX0_place_10 rfl rfl ?_ ?_
    · exact tr_vret g o dX0_place_30
    · refine tr_aload_n g 0 14 dX0_place_13 rfl rfl rfl ?_
      refine tr_iload_n g 2 15 dX0_place_14 rfl rfl rfl ?_
      refine tr_aload_n g 0 16 dX0_place_15 rfl rfl rfl ?_
      refine tr_iload_n g 1 17 dX0_place_16 rfl rfl rfl ?_
      refine tr_iload_n g 2 18 dX0_place_17 rfl rfl rfl ?_
      refine kv_X0_digit g wd_484 ⟨Nat.le_of_ble_eq_true rfl, Nat.le_of_ble_eq_true rfl⟩ (Nat.le_of_ble_eq_true rfl) 21 dX0_place_18 rfl (fun r2 σ1 => ?_)
      refine kv_X0_become g wd_396 ⟨Nat.le_of_ble_eq_true rfl, Nat.le_of_ble_eq_true rfl⟩ (Nat.le_of_ble_eq_true rfl) 24 dX0_place_21 rfl (fun _ σ3 => ?_)
      refine tr_iinc (lv' := [(2, .int (x2 + 1)), (0, .ref (tn_ad E 3)), (1, .int x1)]) (x := (x2 + 1)) g 2 27 dX0_place_24 rfl rfl rfl (by decide) rfl ?_
      refine tr_goto g 2 dX0_place_27 rfl ?_
      refine tr_sub [1, 2, 0] (lv' := [(0, .ref (tn_ad E 3)), (1, .int x1), (2, .int (x2 + 1))]) rfl ?_
      exact ih _ _ _
set_option maxHeartbeats 4000000 in
set_option maxRecDepth 20000 in
theorem b_X0_place {E : tn_E} {G : tn_G} (g : tn_Ok E G cX0_place RX0 3 (tn_rm 1 23)) (o : tn_Om E G none)  (a1 : Int32) (σ : tn_M) : tn_V E G tn_ve 0 [(0, .ref (tn_ad E 3)), (1, .int a1)] [] σ (f_X0_place a1 σ) := by
  unfold f_X0_place
  refine tr_iconst (v := 0) g 1 dX0_place_0 rfl rfl ?_
  refine tr_istore_n (lv' := [(2, .int 0), (0, .ref (tn_ad E 3)), (1, .int a1)]) g 2 dX0_place_1 rfl rfl (by decide) rfl ?_
  refine tr_sub [1, 2, 0] (lv' := [(0, .ref (tn_ad E 3)), (1, .int a1), (2, .int 0)]) rfl ?_
  exact b_X0_place_2 g o  tn_fuel _ _ _
theorem ok_X0_place {E : tn_E} {l : Launch}   (a1 : Int32) {σ : tn_M} {r : Unit} {σ' : tn_M} (h : f_X0_place a1 σ = some (r, σ')) : tn_C E l yX0_place cX0_place 3 none (tn_rm 1 23) [.ref (tn_ad E 3), .int a1] σ (tn_ve r) σ' :=
  tn_met (by decide) (Nat.le_of_ble_eq_true rfl) (fun G _ g o => b_X0_place g o  a1 σ) h
theorem yy_X0_place : tn_Yv RX0 yX0_place cX0_place 3 none 1 := ⟨wd_483, wd_481, wd_482, wd_68, by decide, by decide, by decide +kernel⟩
theorem kv_X0_place {E : tn_E} {G : tn_G} {cc : ByteArray} {own : String} {nL : Nat} {R : Room} {ρ : Type} {enc : ρ → Option Value} {pc : Nat} {lv : List (Nat × Value)} {st : List Value} {σ : tn_M} {kk : Unit → tn_M → Option (ρ × tn_M)} {i : Nat}  {a1 : Int32} (g : tn_Ok E G cc own nL R)  (hw : Cond.methodLink own i yX0_place ∈ tn_T) (hroom : 2 ≤ R.frames ∧ 45 ≤ R.locals) (hW : (st.map fun v => v.category).sum ≤ 8) (n : Nat) (hd : decode cc pc = .ok (.invokevirtual i, 3)) (hn : pc + 3 = n) (k : ∀ r σ1, tn_V E G enc n lv (st) σ1 (kk r σ1)) : tn_V E G enc pc lv (.int a1 :: .ref (tn_ad E 3) :: st) σ (tn_bd (f_X0_place a1 σ) kk) :=
  tr_callV (As := [.int a1]) (enc1 := tn_ve) g yy_X0_place hw (ci := 0) rfl (by decide) rfl (fun r σ1 h => ok_X0_place  a1 h) ⟨rfl, rfl⟩ ⟨hroom.1, by have h2 := hroom.2; show 8 + (3 + 11) + 23 ≤ R.locals; omega⟩ rfl rfl hW n hd hn k
/-! X0_firstGainer -/
def F_X0_firstGainer_2  : Nat → Int32 → tn_M → Option (Int32 × tn_M)
  | 0, _, _ => none
  | tn_n + 1, x1, σ => 
    if (σ.1 1 5) ≤ x1 then
      some ((-1), σ)
    else
      tn_bd (f_X0_reply x1 σ) fun r2 σ1 =>
      tn_ck r2 4 <|
      tn_ck x1 5 <|
      tn_ck (σ1.1 20 (tn_x x1)) 4 <|
      if (σ1.2 25 (tn_x r2)) ≤ (σ1.2 25 (tn_x (σ1.1 20 (tn_x x1)))) then
        F_X0_firstGainer_2 tn_n (x1 + 1) σ1
      else
        some (x1, σ1)
def f_X0_firstGainer   (σ : tn_M) : Option (Int32 × tn_M) :=
  F_X0_firstGainer_2 tn_fuel 0 σ
set_option maxHeartbeats 4000000 in
set_option maxRecDepth 20000 in
theorem b_X0_firstGainer_2 {E : tn_E} {G : tn_G} (g : tn_Ok E G cX0_firstGainer RX0 3 (tn_rm 3 77)) (o : tn_Om E G (some .int))  : ∀ (n : Nat) (x1 : Int32) (σ : tn_M), tn_V E G tn_ie 2 [(0, .ref (tn_ad E 3)), (1, .int x1)] [] σ (F_X0_firstGainer_2 n x1 σ) := by
  intro n
  induction n with
  | zero => intros; exact tr_none
  | succ tn_n ih =>
    intro x1 σ
    rw [F_X0_firstGainer_2]
    refine tr_iload_n g 1 3 dX0_firstGainer_2 rfl rfl rfl ?_
    refine tr_aload_n g 0 4 dX0_firstGainer_3 rfl rfl rfl ?_
    refine gf_X0_0 g wd_156 7 dX0_firstGainer_4 rfl ?_
    refine gf_X2_5 g wd_104 10 dX0_firstGainer_7 rfl ?_
    refine tr_icmp_ge g 48 13 dX0_firstGainer_10 rfl rfl ?_ ?_
    · refine tr_iconst (v := (-1)) g 49 dX0_firstGainer_48 rfl rfl ?_
      exact tr_iret g o dX0_firstGainer_49
    · refine tr_aload_n g 0 14 dX0_firstGainer_13 rfl rfl rfl ?_
      refine tr_iload_n g 1 15 dX0_firstGainer_14 rfl rfl rfl ?_
      refine kv_X0_reply g wd_467 ⟨Nat.le_of_ble_eq_true rfl, Nat.le_of_ble_eq_true rfl⟩ (Nat.le_of_ble_eq_true rfl) 18 dX0_firstGainer_15 rfl (fun r2 σ1 => ?_)
      refine tr_istore_n (lv' := [(2, .int r2), (0, .ref (tn_ad E 3)), (1, .int x1)]) g 19 dX0_firstGainer_18 rfl rfl (by decide) rfl ?_
      refine tr_aload_n g 1 20 dX0_firstGainer_19 rfl rfl rfl ?_
      refine gf_X0_7 g wd_165 23 dX0_firstGainer_20 rfl ?_
      refine tr_iload_n g 0 24 dX0_firstGainer_23 rfl rfl rfl ?_
      refine tr_lald (N := 4) g 25 rfl rfl dX0_firstGainer_24 rfl ?_
      refine tr_aload_n g 1 26 dX0_firstGainer_25 rfl rfl rfl ?_
      refine gf_X0_7 g wd_165 29 dX0_firstGainer_26 rfl ?_
      refine tr_aload_n g 1 30 dX0_firstGainer_29 rfl rfl rfl ?_
      refine gf_X0_2 g wd_158 33 dX0_firstGainer_30 rfl ?_
      refine tr_iload_n g 2 34 dX0_firstGainer_33 rfl rfl rfl ?_
      refine tr_iald (N := 5) g 35 rfl rfl dX0_firstGainer_34 rfl ?_
      refine tr_lald (N := 4) g 36 rfl rfl dX0_firstGainer_35 rfl ?_
      refine tr_lle g 42 40 dX0_firstGainer_36 dX0_firstGainer_37 rfl rfl ?_ ?_
      · refine tr_iinc (lv' := [(1, .int (x1 + 1)), (2, .int r2), (0, .ref (tn_ad E 3))]) (x := (x1 + 1)) g 2 45 dX0_firstGainer_42 rfl rfl rfl (by decide) rfl ?_
        refine tr_goto g 2 dX0_firstGainer_45 rfl ?_
        refine tr_sub [2, 0] (lv' := [(0, .ref (tn_ad E 3)), (1, .int (x1 + 1))]) rfl ?_
        exact ih _ _
      · refine tr_iload_n g 2 41 dX0_firstGainer_40 rfl rfl rfl ?_
        exact tr_iret g o dX0_firstGainer_41
set_option maxHeartbeats 4000000 in
set_option maxRecDepth 20000 in
theorem b_X0_firstGainer {E : tn_E} {G : tn_G} (g : tn_Ok E G cX0_firstGainer RX0 3 (tn_rm 3 77)) (o : tn_Om E G (some .int))   (σ : tn_M) : tn_V E G tn_ie 0 [(0, .ref (tn_ad E 3))] [] σ (f_X0_firstGainer σ) := by
  unfold f_X0_firstGainer
  refine tr_iconst (v := 0) g 1 dX0_firstGainer_0 rfl rfl ?_
  refine tr_istore_n (lv' := [(1, .int 0), (0, .ref (tn_ad E 3))]) g 2 dX0_firstGainer_1 rfl rfl (by decide) rfl ?_
  refine tr_sub [1, 0] (lv' := [(0, .ref (tn_ad E 3)), (1, .int 0)]) rfl ?_
  exact b_X0_firstGainer_2 g o  tn_fuel _ _
theorem ok_X0_firstGainer {E : tn_E} {l : Launch}    {σ : tn_M} {r : Int32} {σ' : tn_M} (h : f_X0_firstGainer  σ = some (r, σ')) : tn_C E l yX0_firstGainer cX0_firstGainer 3 (some .int) (tn_rm 3 77) [.ref (tn_ad E 3)] σ (tn_ie r) σ' :=
  tn_met (by decide) (Nat.le_of_ble_eq_true rfl) (fun G _ g o => b_X0_firstGainer g o   σ) h
theorem yy_X0_firstGainer : tn_Yv RX0 yX0_firstGainer cX0_firstGainer 3 (some .int) 0 := ⟨wd_491, wd_489, wd_490, wd_68, by decide, by decide, by decide +kernel⟩
theorem kv_X0_firstGainer {E : tn_E} {G : tn_G} {cc : ByteArray} {own : String} {nL : Nat} {R : Room} {ρ : Type} {enc : ρ → Option Value} {pc : Nat} {lv : List (Nat × Value)} {st : List Value} {σ : tn_M} {kk : Int32 → tn_M → Option (ρ × tn_M)} {i : Nat}   (g : tn_Ok E G cc own nL R)  (hw : Cond.methodLink own i yX0_firstGainer ∈ tn_T) (hroom : 4 ≤ R.frames ∧ 99 ≤ R.locals) (hW : (st.map fun v => v.category).sum ≤ 8) (n : Nat) (hd : decode cc pc = .ok (.invokevirtual i, 3)) (hn : pc + 3 = n) (k : ∀ r σ1, tn_V E G enc n lv (.int r :: st) σ1 (kk r σ1)) : tn_V E G enc pc lv (.ref (tn_ad E 3) :: st) σ (tn_bd (f_X0_firstGainer  σ) kk) :=
  tr_callV (As := []) (enc1 := tn_ie) g yy_X0_firstGainer hw (ci := 0) rfl (by decide) rfl (fun r σ1 h => ok_X0_firstGainer   h) ⟨rfl, rfl⟩ ⟨hroom.1, by have h2 := hroom.2; show 8 + (3 + 11) + 77 ≤ R.locals; omega⟩ rfl rfl hW n hd hn k
/-! X0_advance -/
def F_X0_advance_24  (x1 : Int32) (σ : tn_M) : Option (Unit × tn_M) :=
  tn_ck x1 5 <|
  tn_bd (f_X0_become x1 ((σ.1 20 (tn_x x1)) + 1) σ) fun _ σ1 =>
  some ((), σ1)
def F_X0_advance_10  : Nat → Int32 → tn_M → Option (Unit × tn_M)
  | 0, _, _ => none
  | tn_n + 1, x1, σ => 
    if x1 < 0 then
      some ((), σ)
    else
      tn_ck x1 5 <|
      if 3 ≤ (σ.1 20 (tn_x x1)) then
        tn_bd (f_X0_become x1 0 σ) fun _ σ1 =>
        F_X0_advance_10 tn_n (x1 + (-1)) σ1
      else
        F_X0_advance_24 x1 σ
def f_X0_advance   (σ : tn_M) : Option (Unit × tn_M) :=
  tn_lt (α := Int32) ((σ.1 1 5) - 1) fun w1 =>
  F_X0_advance_10 tn_fuel w1 σ
set_option maxHeartbeats 4000000 in
set_option maxRecDepth 20000 in
theorem b_X0_advance_24 {E : tn_E} {G : tn_G} (g : tn_Ok E G cX0_advance RX0 2 (tn_rm 1 23)) (o : tn_Om E G none)  (x1 : Int32) (σ : tn_M) : tn_V E G tn_ve 24 [(0, .ref (tn_ad E 3)), (1, .int x1)] [] σ (F_X0_advance_24 x1 σ) := by
  unfold F_X0_advance_24
  refine tr_aload_n g 0 25 dX0_advance_24 rfl rfl rfl ?_
  refine tr_iload_n g 1 26 dX0_advance_25 rfl rfl rfl ?_
  refine tr_aload_n g 0 27 dX0_advance_26 rfl rfl rfl ?_
  refine gf_X0_2 g wd_158 30 dX0_advance_27 rfl ?_
  refine tr_iload_n g 1 31 dX0_advance_30 rfl rfl rfl ?_
  refine tr_iald (N := 5) g 32 rfl rfl dX0_advance_31 rfl ?_
  refine tr_iconst (v := 1) g 33 dX0_advance_32 rfl rfl ?_
  refine tr_iadd g 34 dX0_advance_33 rfl ?_
  refine kv_X0_become g wd_396 ⟨Nat.le_of_ble_eq_true rfl, Nat.le_of_ble_eq_true rfl⟩ (Nat.le_of_ble_eq_true rfl) 37 dX0_advance_34 rfl (fun _ σ1 => ?_)
  exact tr_vret g o dX0_advance_37
set_option maxHeartbeats 4000000 in
set_option maxRecDepth 20000 in
theorem b_X0_advance_10 {E : tn_E} {G : tn_G} (g : tn_Ok E G cX0_advance RX0 2 (tn_rm 1 23)) (o : tn_Om E G none)  : ∀ (n : Nat) (x1 : Int32) (σ : tn_M), tn_V E G tn_ve 10 [(0, .ref (tn_ad E 3)), (1, .int x1)] [] σ (F_X0_advance_10 n x1 σ) := by
  intro n
  induction n with
  | zero => intros; exact tr_none
  | succ tn_n ih =>
    intro x1 σ
    rw [F_X0_advance_10]
    refine tr_iload_n g 1 11 dX0_advance_10 rfl rfl rfl ?_
    refine tr_if_lt g 50 14 dX0_advance_11 rfl rfl ?_ ?_
    · exact tr_vret g o dX0_advance_50
    · refine tr_aload_n g 0 15 dX0_advance_14 rfl rfl rfl ?_
      refine gf_X0_2 g wd_158 18 dX0_advance_15 rfl ?_
      refine tr_iload_n g 1 19 dX0_advance_18 rfl rfl rfl ?_
      refine tr_iald (N := 5) g 20 rfl rfl dX0_advance_19 rfl ?_
      refine tr_iconst (v := 3) g 21 dX0_advance_20 rfl rfl ?_
      refine tr_icmp_ge g 38 24 dX0_advance_21 rfl rfl ?_ ?_
      · refine tr_aload_n g 0 39 dX0_advance_38 rfl rfl rfl ?_
        refine tr_iload_n g 1 40 dX0_advance_39 rfl rfl rfl ?_
        refine tr_iconst (v := 0) g 41 dX0_advance_40 rfl rfl ?_
        refine kv_X0_become g wd_396 ⟨Nat.le_of_ble_eq_true rfl, Nat.le_of_ble_eq_true rfl⟩ (Nat.le_of_ble_eq_true rfl) 44 dX0_advance_41 rfl (fun _ σ1 => ?_)
        refine tr_iinc (lv' := [(1, .int (x1 + (-1))), (0, .ref (tn_ad E 3))]) (x := (x1 + (-1))) g 1 47 dX0_advance_44 rfl rfl rfl (by decide) rfl ?_
        refine tr_goto g 10 dX0_advance_47 rfl ?_
        refine tr_sub [1, 0] (lv' := [(0, .ref (tn_ad E 3)), (1, .int (x1 + (-1)))]) rfl ?_
        exact ih _ _
      · exact b_X0_advance_24 g o  _ _
set_option maxHeartbeats 4000000 in
set_option maxRecDepth 20000 in
theorem b_X0_advance {E : tn_E} {G : tn_G} (g : tn_Ok E G cX0_advance RX0 2 (tn_rm 1 23)) (o : tn_Om E G none)   (σ : tn_M) : tn_V E G tn_ve 0 [(0, .ref (tn_ad E 3))] [] σ (f_X0_advance σ) := by
  unfold f_X0_advance
  refine tr_aload_n g 0 1 dX0_advance_0 rfl rfl rfl ?_
  refine gf_X0_0 g wd_156 4 dX0_advance_1 rfl ?_
  refine gf_X2_5 g wd_104 7 dX0_advance_4 rfl ?_
  refine tr_iconst (v := 1) g 8 dX0_advance_7 rfl rfl ?_
  refine tr_isub g 9 dX0_advance_8 rfl ?_
  refine tr_lti (fun w1 => ?_)
  refine tr_istore_n (lv' := [(1, .int w1), (0, .ref (tn_ad E 3))]) g 10 dX0_advance_9 rfl rfl (by decide) rfl ?_
  refine tr_sub [1, 0] (lv' := [(0, .ref (tn_ad E 3)), (1, .int w1)]) rfl ?_
  exact b_X0_advance_10 g o  tn_fuel _ _
theorem ok_X0_advance {E : tn_E} {l : Launch}    {σ : tn_M} {r : Unit} {σ' : tn_M} (h : f_X0_advance  σ = some (r, σ')) : tn_C E l yX0_advance cX0_advance 2 none (tn_rm 1 23) [.ref (tn_ad E 3)] σ (tn_ve r) σ' :=
  tn_met (by decide) (Nat.le_of_ble_eq_true rfl) (fun G _ g o => b_X0_advance g o   σ) h
theorem yy_X0_advance : tn_Yv RX0 yX0_advance cX0_advance 2 none 0 := ⟨wd_495, wd_493, wd_494, wd_68, by decide, by decide, by decide +kernel⟩
theorem kv_X0_advance {E : tn_E} {G : tn_G} {cc : ByteArray} {own : String} {nL : Nat} {R : Room} {ρ : Type} {enc : ρ → Option Value} {pc : Nat} {lv : List (Nat × Value)} {st : List Value} {σ : tn_M} {kk : Unit → tn_M → Option (ρ × tn_M)} {i : Nat}   (g : tn_Ok E G cc own nL R)  (hw : Cond.methodLink own i yX0_advance ∈ tn_T) (hroom : 2 ≤ R.frames ∧ 44 ≤ R.locals) (hW : (st.map fun v => v.category).sum ≤ 8) (n : Nat) (hd : decode cc pc = .ok (.invokevirtual i, 3)) (hn : pc + 3 = n) (k : ∀ r σ1, tn_V E G enc n lv (st) σ1 (kk r σ1)) : tn_V E G enc pc lv (.ref (tn_ad E 3) :: st) σ (tn_bd (f_X0_advance  σ) kk) :=
  tr_callV (As := []) (enc1 := tn_ve) g yy_X0_advance hw (ci := 0) rfl (by decide) rfl (fun r σ1 h => ok_X0_advance   h) ⟨rfl, rfl⟩ ⟨hroom.1, by have h2 := hroom.2; show 8 + (2 + 11) + 23 ≤ R.locals; omega⟩ rfl rfl hW n hd hn k
/-! X0_bound -/
def f_X0_bound  (a1 : Int32) (σ : tn_M) : Option (Int32 × tn_M) :=
  tn_ck a1 5 <|
  tn_lt (α := Int32) (if (σ.1 10 (tn_x a1)) ≤ (σ.1 3 9) then 0 else 1) fun v1 =>
  tn_zr v1 σ
set_option maxHeartbeats 4000000 in
set_option maxRecDepth 20000 in
theorem b_X0_bound {E : tn_E} {G : tn_G} (g : tn_Ok E G cX0_bound RX0 2 (tn_rm 0 0)) (o : tn_Om E G (some .boolean))  (a1 : Int32) (σ : tn_M) : tn_V E G tn_ie 0 [(0, .ref (tn_ad E 3)), (1, .int a1)] [] σ (f_X0_bound a1 σ) := by
  unfold f_X0_bound
  refine tr_aload_n g 0 1 dX0_bound_0 rfl rfl rfl ?_
  refine gf_X0_0 g wd_156 4 dX0_bound_1 rfl ?_
  refine gf_X2_1 g wd_93 7 dX0_bound_4 rfl ?_
  refine tr_iload_n g 1 8 dX0_bound_7 rfl rfl rfl ?_
  refine tr_iald (N := 5) g 9 rfl rfl dX0_bound_8 rfl ?_
  refine tr_aload_n g 0 10 dX0_bound_9 rfl rfl rfl ?_
  refine gf_X0_9 g wd_167 13 dX0_bound_10 rfl ?_
  refine tr_icmp_leD (inj := fun z => Value.int z) g 21 20 16 dX0_bound_13 rfl rfl (fun rs hj => ?_) (fun rs hj => ?_) (fun v1 => ?_)
  · refine tr_iconst (v := 0) g 21 dX0_bound_20 rfl rfl ?_
    exact hj
  · refine tr_iconst (v := 1) g 17 dX0_bound_16 rfl rfl ?_
    refine tr_goto g 21 dX0_bound_17 rfl ?_
    exact hj
  · exact tr_zretv g o dX0_bound_21
theorem ok_X0_bound {E : tn_E} {l : Launch}   (a1 : Int32) {σ : tn_M} {r : Int32} {σ' : tn_M} (h : f_X0_bound a1 σ = some (r, σ')) : tn_C E l yX0_bound cX0_bound 2 (some .boolean) (tn_rm 0 0) [.ref (tn_ad E 3), .int a1] σ (tn_ie r) σ' :=
  tn_met (by decide) (Nat.le_of_ble_eq_true rfl) (fun G _ g o => b_X0_bound g o  a1 σ) h
theorem yy_X0_bound : tn_Yv RX0 yX0_bound cX0_bound 2 (some .boolean) 1 := ⟨wd_524, wd_522, wd_523, wd_68, by decide, by decide, by decide +kernel⟩
theorem kv_X0_bound {E : tn_E} {G : tn_G} {cc : ByteArray} {own : String} {nL : Nat} {R : Room} {ρ : Type} {enc : ρ → Option Value} {pc : Nat} {lv : List (Nat × Value)} {st : List Value} {σ : tn_M} {kk : Int32 → tn_M → Option (ρ × tn_M)} {i : Nat}  {a1 : Int32} (g : tn_Ok E G cc own nL R)  (hw : Cond.methodLink own i yX0_bound ∈ tn_T) (hroom : 1 ≤ R.frames ∧ 21 ≤ R.locals) (hW : (st.map fun v => v.category).sum ≤ 8) (n : Nat) (hd : decode cc pc = .ok (.invokevirtual i, 3)) (hn : pc + 3 = n) (k : ∀ r σ1, tn_V E G enc n lv (.int r :: st) σ1 (kk r σ1)) : tn_V E G enc pc lv (.int a1 :: .ref (tn_ad E 3) :: st) σ (tn_bd (f_X0_bound a1 σ) kk) :=
  tr_callV (As := [.int a1]) (enc1 := tn_ie) g yy_X0_bound hw (ci := 0) rfl (by decide) rfl (fun r σ1 h => ok_X0_bound  a1 h) ⟨rfl, rfl⟩ ⟨hroom.1, by have h2 := hroom.2; show 8 + (2 + 11) + 0 ≤ R.locals; omega⟩ rfl rfl hW n hd hn k
/-! X0_keepLaw -/
def F_X0_keepLaw_2  : Nat → Int32 → tn_M → Option (Unit × tn_M)
  | 0, _, _ => none
  | tn_n + 1, x1, σ => 
    if (σ.1 1 5) ≤ x1 then
      some ((), σ)
    else
      tn_bd (f_X0_bound x1 σ) fun r2 σ1 =>
      if r2 = 0 then
        F_X0_keepLaw_2 tn_n (x1 + 1) σ1
      else
        tn_ck x1 5 <|
        tn_bd (f_X0_become x1 (if (σ1.1 3 8) < (σ1.1 20 (tn_x x1)) then (σ1.1 3 8) else (σ1.1 20 (tn_x x1))) σ1) fun _ σ3 =>
        F_X0_keepLaw_2 tn_n (x1 + 1) σ3
def f_X0_keepLaw   (σ : tn_M) : Option (Unit × tn_M) :=
  F_X0_keepLaw_2 tn_fuel 0 σ
set_option maxHeartbeats 4000000 in
set_option maxRecDepth 20000 in
theorem b_X0_keepLaw_2 {E : tn_E} {G : tn_G} (g : tn_Ok E G cX0_keepLaw RX0 2 (tn_rm 1 23)) (o : tn_Om E G none)  : ∀ (n : Nat) (x1 : Int32) (σ : tn_M), tn_V E G tn_ve 2 [(0, .ref (tn_ad E 3)), (1, .int x1)] [] σ (F_X0_keepLaw_2 n x1 σ) := by
  intro n
  induction n with
  | zero => intros; exact tr_none
  | succ tn_n ih =>
    intro x1 σ
    rw [F_X0_keepLaw_2]
    refine tr_iload_n g 1 3 dX0_keepLaw_2 rfl rfl rfl ?_
    refine tr_aload_n g 0 4 dX0_keepLaw_3 rfl rfl rfl ?_
    refine gf_X0_0 g wd_156 7 dX0_keepLaw_4 rfl ?_
    refine gf_X2_5 g wd_104 10 dX0_keepLaw_7 rfl ?_
    refine tr_icmp_ge g 45 13 dX0_keepLaw_10 rfl rfl ?_ ?_
    · exact tr_vret g o dX0_keepLaw_45
    · refine tr_aload_n g 0 14 dX0_keepLaw_13 rfl rfl rfl ?_
      refine tr_iload_n g 1 15 dX0_keepLaw_14 rfl rfl rfl ?_
      refine kv_X0_bound g wd_521 ⟨Nat.le_of_ble_eq_true rfl, Nat.le_of_ble_eq_true rfl⟩ (Nat.le_of_ble_eq_true rfl) 18 dX0_keepLaw_15 rfl (fun r2 σ1 => ?_)
      refine tr_if_eq g 39 21 dX0_keepLaw_18 rfl rfl ?_ ?_
      · refine tr_iinc (lv' := [(1, .int (x1 + 1)), (0, .ref (tn_ad E 3))]) (x := (x1 + 1)) g 1 42 dX0_keepLaw_39 rfl rfl rfl (by decide) rfl ?_
        refine tr_goto g 2 dX0_keepLaw_42 rfl ?_
        refine tr_sub [1, 0] (lv' := [(0, .ref (tn_ad E 3)), (1, .int (x1 + 1))]) rfl ?_
        exact ih _ _
      · refine tr_aload_n g 0 22 dX0_keepLaw_21 rfl rfl rfl ?_
        refine tr_iload_n g 1 23 dX0_keepLaw_22 rfl rfl rfl ?_
        refine tr_aload_n g 0 24 dX0_keepLaw_23 rfl rfl rfl ?_
        refine gf_X0_2 g wd_158 27 dX0_keepLaw_24 rfl ?_
        refine tr_iload_n g 1 28 dX0_keepLaw_27 rfl rfl rfl ?_
        refine tr_iald (N := 5) g 29 rfl rfl dX0_keepLaw_28 rfl ?_
        refine tr_aload_n g 0 30 dX0_keepLaw_29 rfl rfl rfl ?_
        refine gf_X0_8 g wd_166 33 dX0_keepLaw_30 rfl ?_
        refine tr_mmin g wd_525 wd_348 wd_71 wd_349 ⟨Nat.le_of_ble_eq_true rfl, Nat.le_of_ble_eq_true rfl⟩ 36 dX0_keepLaw_33 rfl ?_
        refine kv_X0_become g wd_396 ⟨Nat.le_of_ble_eq_true rfl, Nat.le_of_ble_eq_true rfl⟩ (Nat.le_of_ble_eq_true rfl) 39 dX0_keepLaw_36 rfl (fun _ σ3 => ?_)
        refine tr_iinc (lv' := [(1, .int (x1 + 1)), (0, .ref (tn_ad E 3))]) (x := (x1 + 1)) g 1 42 dX0_keepLaw_39 rfl rfl rfl (by decide) rfl ?_
        refine tr_goto g 2 dX0_keepLaw_42 rfl ?_
        refine tr_sub [1, 0] (lv' := [(0, .ref (tn_ad E 3)), (1, .int (x1 + 1))]) rfl ?_
        exact ih _ _
set_option maxHeartbeats 4000000 in
set_option maxRecDepth 20000 in
theorem b_X0_keepLaw {E : tn_E} {G : tn_G} (g : tn_Ok E G cX0_keepLaw RX0 2 (tn_rm 1 23)) (o : tn_Om E G none)   (σ : tn_M) : tn_V E G tn_ve 0 [(0, .ref (tn_ad E 3))] [] σ (f_X0_keepLaw σ) := by
  unfold f_X0_keepLaw
  refine tr_iconst (v := 0) g 1 dX0_keepLaw_0 rfl rfl ?_
  refine tr_istore_n (lv' := [(1, .int 0), (0, .ref (tn_ad E 3))]) g 2 dX0_keepLaw_1 rfl rfl (by decide) rfl ?_
  refine tr_sub [1, 0] (lv' := [(0, .ref (tn_ad E 3)), (1, .int 0)]) rfl ?_
  exact b_X0_keepLaw_2 g o  tn_fuel _ _
theorem ok_X0_keepLaw {E : tn_E} {l : Launch}    {σ : tn_M} {r : Unit} {σ' : tn_M} (h : f_X0_keepLaw  σ = some (r, σ')) : tn_C E l yX0_keepLaw cX0_keepLaw 2 none (tn_rm 1 23) [.ref (tn_ad E 3)] σ (tn_ve r) σ' :=
  tn_met (by decide) (Nat.le_of_ble_eq_true rfl) (fun G _ g o => b_X0_keepLaw g o   σ) h
theorem yy_X0_keepLaw : tn_Yv RX0 yX0_keepLaw cX0_keepLaw 2 none 0 := ⟨wd_520, wd_518, wd_519, wd_68, by decide, by decide, by decide +kernel⟩
theorem kv_X0_keepLaw {E : tn_E} {G : tn_G} {cc : ByteArray} {own : String} {nL : Nat} {R : Room} {ρ : Type} {enc : ρ → Option Value} {pc : Nat} {lv : List (Nat × Value)} {st : List Value} {σ : tn_M} {kk : Unit → tn_M → Option (ρ × tn_M)} {i : Nat}   (g : tn_Ok E G cc own nL R)  (hw : Cond.methodLink own i yX0_keepLaw ∈ tn_T) (hroom : 2 ≤ R.frames ∧ 44 ≤ R.locals) (hW : (st.map fun v => v.category).sum ≤ 8) (n : Nat) (hd : decode cc pc = .ok (.invokevirtual i, 3)) (hn : pc + 3 = n) (k : ∀ r σ1, tn_V E G enc n lv (st) σ1 (kk r σ1)) : tn_V E G enc pc lv (.ref (tn_ad E 3) :: st) σ (tn_bd (f_X0_keepLaw  σ) kk) :=
  tr_callV (As := []) (enc1 := tn_ve) g yy_X0_keepLaw hw (ci := 0) rfl (by decide) rfl (fun r σ1 h => ok_X0_keepLaw   h) ⟨rfl, rfl⟩ ⟨hroom.1, by have h2 := hroom.2; show 8 + (2 + 11) + 23 ≤ R.locals; omega⟩ rfl rfl hW n hd hn k
/-! X0_lawlessGain -/
def F_X0_lawlessGain_36 (c4 : Int64 → Int32 → tn_M → Option (Int64 × tn_M)) : Nat → Int64 → Int32 → Int32 → tn_M → Option (Int64 × tn_M)
  | 0, _, _, _, _ => none
  | tn_n + 1, x1, x3, x4, σ => 
    if 3 < x4 then
      c4 x1 (x3 + 1) σ
    else
      tn_ck x4 4 <|
      tn_ck x3 5 <|
      tn_ck (σ.1 20 (tn_x x3)) 4 <|
      tn_lt (α := Int64) (if ((σ.2 25 (tn_x x4)) - (σ.2 25 (tn_x (σ.1 20 (tn_x x3))))) < x1 then x1 else ((σ.2 25 (tn_x x4)) - (σ.2 25 (tn_x (σ.1 20 (tn_x x3)))))) fun w1 =>
      F_X0_lawlessGain_36 c4 tn_n w1 x3 (x4 + 1) σ
def F_X0_lawlessGain_4  : Nat → Int64 → Int32 → tn_M → Option (Int64 × tn_M)
  | 0, _, _, _ => none
  | tn_n + 1, x1, x3, σ => 
    if (σ.1 1 5) ≤ x3 then
      some (x1, σ)
    else
      tn_bd (f_X0_bound x3 σ) fun r2 σ1 =>
      if r2 = 0 then
        F_X0_lawlessGain_4 tn_n x1 (x3 + 1) σ1
      else
        tn_bd (f_X0_weigh x3 σ1) fun _ σ3 =>
        tn_lt (α := Int32) ((σ3.1 3 8) + 1) fun w4 =>
        F_X0_lawlessGain_36 (fun z0 z1 zs => F_X0_lawlessGain_4 tn_n z0 z1 zs) tn_fuel x1 x3 w4 σ3
def f_X0_lawlessGain   (σ : tn_M) : Option (Int64 × tn_M) :=
  F_X0_lawlessGain_4 tn_fuel 0 0 σ
set_option maxHeartbeats 4000000 in
set_option maxRecDepth 20000 in
theorem b_X0_lawlessGain_36 {E : tn_E} {G : tn_G} (g : tn_Ok E G cX0_lawlessGain RX0 5 (tn_rm 2 54)) (o : tn_Om E G (some .long)) (c4 : Int64 → Int32 → tn_M → Option (Int64 × tn_M)) (hc4 : ∀ (x1 : Int64) (x3 : Int32) (σ : tn_M), tn_V E G tn_le 4 [(0, .ref (tn_ad E 3)), (1, .long x1), (3, .int x3)] [] σ (c4 x1 x3 σ)) : ∀ (n : Nat) (x1 : Int64) (x3 : Int32) (x4 : Int32) (σ : tn_M), tn_V E G tn_le 36 [(0, .ref (tn_ad E 3)), (1, .long x1), (3, .int x3), (4, .int x4)] [] σ (F_X0_lawlessGain_36 c4 n x1 x3 x4 σ) := by
  intro n
  induction n with
  | zero => intros; exact tr_none
  | succ tn_n ih =>
    intro x1 x3 x4 σ
    rw [F_X0_lawlessGain_36]
    refine tr_iload g 3 38 dX0_lawlessGain_36 rfl rfl ?_
    refine tr_iconst (v := 3) g 39 dX0_lawlessGain_38 rfl rfl ?_
    refine tr_icmp_gt g 72 42 dX0_lawlessGain_39 rfl rfl ?_ ?_
    · refine tr_iinc (lv' := [(3, .int (x3 + 1)), (0, .ref (tn_ad E 3)), (1, .long x1), (4, .int x4)]) (x := (x3 + 1)) g 2 75 dX0_lawlessGain_72 rfl rfl rfl (by decide) rfl ?_
      refine tr_goto g 4 dX0_lawlessGain_75 rfl ?_
      refine tr_sub [1, 2, 0] (lv' := [(0, .ref (tn_ad E 3)), (1, .long x1), (3, .int (x3 + 1))]) rfl ?_
      exact hc4 _ _ _
    · refine tr_lload_n g 1 43 dX0_lawlessGain_42 rfl rfl rfl ?_
      refine tr_aload_n g 0 44 dX0_lawlessGain_43 rfl rfl rfl ?_
      refine gf_X0_7 g wd_165 47 dX0_lawlessGain_44 rfl ?_
      refine tr_iload g 3 49 dX0_lawlessGain_47 rfl rfl ?_
      refine tr_lald (N := 4) g 50 rfl rfl dX0_lawlessGain_49 rfl ?_
      refine tr_aload_n g 0 51 dX0_lawlessGain_50 rfl rfl rfl ?_
      refine gf_X0_7 g wd_165 54 dX0_lawlessGain_51 rfl ?_
      refine tr_aload_n g 0 55 dX0_lawlessGain_54 rfl rfl rfl ?_
      refine gf_X0_2 g wd_158 58 dX0_lawlessGain_55 rfl ?_
      refine tr_iload_n g 2 59 dX0_lawlessGain_58 rfl rfl rfl ?_
      refine tr_iald (N := 5) g 60 rfl rfl dX0_lawlessGain_59 rfl ?_
      refine tr_lald (N := 4) g 61 rfl rfl dX0_lawlessGain_60 rfl ?_
      refine tr_lsub g 62 dX0_lawlessGain_61 rfl ?_
      refine tr_mmaxl g wd_530 wd_531 wd_71 wd_532 ⟨Nat.le_of_ble_eq_true rfl, Nat.le_of_ble_eq_true rfl⟩ 65 dX0_lawlessGain_62 rfl ?_
      refine tr_ltl (fun w1 => ?_)
      refine tr_lstore_n (lv' := [(1, .long w1), (0, .ref (tn_ad E 3)), (3, .int x3), (4, .int x4)]) g 66 dX0_lawlessGain_65 rfl rfl (by decide) rfl ?_
      refine tr_iinc (lv' := [(4, .int (x4 + 1)), (1, .long w1), (0, .ref (tn_ad E 3)), (3, .int x3)]) (x := (x4 + 1)) g 3 69 dX0_lawlessGain_66 rfl rfl rfl (by decide) rfl ?_
      refine tr_goto g 36 dX0_lawlessGain_69 rfl ?_
      refine tr_sub [2, 1, 3, 0] (lv' := [(0, .ref (tn_ad E 3)), (1, .long w1), (3, .int x3), (4, .int (x4 + 1))]) rfl ?_
      exact ih _ _ _ _
set_option maxHeartbeats 4000000 in
set_option maxRecDepth 20000 in
theorem b_X0_lawlessGain_4 {E : tn_E} {G : tn_G} (g : tn_Ok E G cX0_lawlessGain RX0 5 (tn_rm 2 54)) (o : tn_Om E G (some .long))  : ∀ (n : Nat) (x1 : Int64) (x3 : Int32) (σ : tn_M), tn_V E G tn_le 4 [(0, .ref (tn_ad E 3)), (1, .long x1), (3, .int x3)] [] σ (F_X0_lawlessGain_4 n x1 x3 σ) := by
  intro n
  induction n with
  | zero => intros; exact tr_none
  | succ tn_n ih =>
    intro x1 x3 σ
    rw [F_X0_lawlessGain_4]
    refine tr_iload_n g 2 5 dX0_lawlessGain_4 rfl rfl rfl ?_
    refine tr_aload_n g 0 6 dX0_lawlessGain_5 rfl rfl rfl ?_
    refine gf_X0_0 g wd_156 9 dX0_lawlessGain_6 rfl ?_
    refine gf_X2_5 g wd_104 12 dX0_lawlessGain_9 rfl ?_
    refine tr_icmp_ge g 78 15 dX0_lawlessGain_12 rfl rfl ?_ ?_
    · refine tr_lload_n g 1 79 dX0_lawlessGain_78 rfl rfl rfl ?_
      exact tr_lret g o dX0_lawlessGain_79
    · refine tr_aload_n g 0 16 dX0_lawlessGain_15 rfl rfl rfl ?_
      refine tr_iload_n g 2 17 dX0_lawlessGain_16 rfl rfl rfl ?_
      refine kv_X0_bound g wd_521 ⟨Nat.le_of_ble_eq_true rfl, Nat.le_of_ble_eq_true rfl⟩ (Nat.le_of_ble_eq_true rfl) 20 dX0_lawlessGain_17 rfl (fun r2 σ1 => ?_)
      refine tr_if_eq g 72 23 dX0_lawlessGain_20 rfl rfl ?_ ?_
      · refine tr_iinc (lv' := [(3, .int (x3 + 1)), (0, .ref (tn_ad E 3)), (1, .long x1)]) (x := (x3 + 1)) g 2 75 dX0_lawlessGain_72 rfl rfl rfl (by decide) rfl ?_
        refine tr_goto g 4 dX0_lawlessGain_75 rfl ?_
        refine tr_sub [1, 2, 0] (lv' := [(0, .ref (tn_ad E 3)), (1, .long x1), (3, .int (x3 + 1))]) rfl ?_
        exact ih _ _ _
      · refine tr_aload_n g 0 24 dX0_lawlessGain_23 rfl rfl rfl ?_
        refine tr_iload_n g 2 25 dX0_lawlessGain_24 rfl rfl rfl ?_
        refine kv_X0_weigh g wd_455 ⟨Nat.le_of_ble_eq_true rfl, Nat.le_of_ble_eq_true rfl⟩ (Nat.le_of_ble_eq_true rfl) 28 dX0_lawlessGain_25 rfl (fun _ σ3 => ?_)
        refine tr_aload_n g 0 29 dX0_lawlessGain_28 rfl rfl rfl ?_
        refine gf_X0_8 g wd_166 32 dX0_lawlessGain_29 rfl ?_
        refine tr_iconst (v := 1) g 33 dX0_lawlessGain_32 rfl rfl ?_
        refine tr_iadd g 34 dX0_lawlessGain_33 rfl ?_
        refine tr_lti (fun w4 => ?_)
        refine tr_istore (lv' := [(4, .int w4), (0, .ref (tn_ad E 3)), (1, .long x1), (3, .int x3)]) g 36 dX0_lawlessGain_34 rfl (by decide) rfl ?_
        refine tr_sub [1, 2, 3, 0] (lv' := [(0, .ref (tn_ad E 3)), (1, .long x1), (3, .int x3), (4, .int w4)]) rfl ?_
        exact b_X0_lawlessGain_36 g o (fun z0 z1 zs => F_X0_lawlessGain_4 tn_n z0 z1 zs) (fun z0 z1 zs => ih z0 z1 zs) tn_fuel _ _ _ _
set_option maxHeartbeats 4000000 in
set_option maxRecDepth 20000 in
theorem b_X0_lawlessGain {E : tn_E} {G : tn_G} (g : tn_Ok E G cX0_lawlessGain RX0 5 (tn_rm 2 54)) (o : tn_Om E G (some .long))   (σ : tn_M) : tn_V E G tn_le 0 [(0, .ref (tn_ad E 3))] [] σ (f_X0_lawlessGain σ) := by
  unfold f_X0_lawlessGain
  refine tr_lconst (v := 0) g 1 dX0_lawlessGain_0 rfl rfl ?_
  refine tr_lstore_n (lv' := [(1, .long 0), (0, .ref (tn_ad E 3))]) g 2 dX0_lawlessGain_1 rfl rfl (by decide) rfl ?_
  refine tr_iconst (v := 0) g 3 dX0_lawlessGain_2 rfl rfl ?_
  refine tr_istore_n (lv' := [(3, .int 0), (1, .long 0), (0, .ref (tn_ad E 3))]) g 4 dX0_lawlessGain_3 rfl rfl (by decide) rfl ?_
  refine tr_sub [2, 1, 0] (lv' := [(0, .ref (tn_ad E 3)), (1, .long 0), (3, .int 0)]) rfl ?_
  exact b_X0_lawlessGain_4 g o  tn_fuel _ _ _
theorem ok_X0_lawlessGain {E : tn_E} {l : Launch}    {σ : tn_M} {r : Int64} {σ' : tn_M} (h : f_X0_lawlessGain  σ = some (r, σ')) : tn_C E l yX0_lawlessGain cX0_lawlessGain 5 (some .long) (tn_rm 2 54) [.ref (tn_ad E 3)] σ (tn_le r) σ' :=
  tn_met (by decide) (Nat.le_of_ble_eq_true rfl) (fun G _ g o => b_X0_lawlessGain g o   σ) h
theorem yy_X0_lawlessGain : tn_Yv RX0 yX0_lawlessGain cX0_lawlessGain 5 (some .long) 0 := ⟨wd_529, wd_527, wd_528, wd_68, by decide, by decide, by decide +kernel⟩
theorem kv_X0_lawlessGain {E : tn_E} {G : tn_G} {cc : ByteArray} {own : String} {nL : Nat} {R : Room} {ρ : Type} {enc : ρ → Option Value} {pc : Nat} {lv : List (Nat × Value)} {st : List Value} {σ : tn_M} {kk : Int64 → tn_M → Option (ρ × tn_M)} {i : Nat}   (g : tn_Ok E G cc own nL R)  (hw : Cond.methodLink own i yX0_lawlessGain ∈ tn_T) (hroom : 3 ≤ R.frames ∧ 78 ≤ R.locals) (hW : (st.map fun v => v.category).sum ≤ 8) (n : Nat) (hd : decode cc pc = .ok (.invokevirtual i, 3)) (hn : pc + 3 = n) (k : ∀ r σ1, tn_V E G enc n lv (.long r :: st) σ1 (kk r σ1)) : tn_V E G enc pc lv (.ref (tn_ad E 3) :: st) σ (tn_bd (f_X0_lawlessGain  σ) kk) :=
  tr_callV (As := []) (enc1 := tn_le) g yy_X0_lawlessGain hw (ci := 0) rfl (by decide) rfl (fun r σ1 h => ok_X0_lawlessGain   h) ⟨rfl, rfl⟩ ⟨hroom.1, by have h2 := hroom.2; show 8 + (5 + 11) + 54 ≤ R.locals; omega⟩ rfl rfl hW n hd hn k
/-! X0_openTillNine -/
def F_X0_openTillNine_2  : Nat → Int32 → Int32 → tn_M → Option (Unit × tn_M)
  | 0, _, _, _ => none
  | tn_n + 1, x1, x2, σ => 
    if (σ.1 1 5) ≤ x2 then
      some ((), σ)
    else
      tn_bd (f_X0_become x2 (((x1 >>> (x2 &&& 31)) &&& 1) * 3) σ) fun _ σ1 =>
      F_X0_openTillNine_2 tn_n x1 (x2 + 1) σ1
def f_X0_openTillNine  (a1 : Int32) (σ : tn_M) : Option (Unit × tn_M) :=
  F_X0_openTillNine_2 tn_fuel a1 0 σ
set_option maxHeartbeats 4000000 in
set_option maxRecDepth 20000 in
theorem b_X0_openTillNine_2 {E : tn_E} {G : tn_G} (g : tn_Ok E G cX0_openTillNine RX0 3 (tn_rm 1 23)) (o : tn_Om E G none)  : ∀ (n : Nat) (x1 : Int32) (x2 : Int32) (σ : tn_M), tn_V E G tn_ve 2 [(0, .ref (tn_ad E 3)), (1, .int x1), (2, .int x2)] [] σ (F_X0_openTillNine_2 n x1 x2 σ) := by
  intro n
  induction n with
  | zero => intros; exact tr_none
  | succ tn_n ih =>
    intro x1 x2 σ
    rw [F_X0_openTillNine_2]
    refine tr_iload_n g 2 3 dX0_openTillNine_2 rfl rfl rfl ?_
    refine tr_aload_n g 0 4 dX0_openTillNine_3 rfl rfl rfl ?_
    refine gf_X0_0 g wd_156 7 dX0_openTillNine_4 rfl ?_
    refine gf_X2_5 g wd_104 10 dX0_openTillNine_7 rfl ?_
    refine tr_icmp_ge g 31 13 dX0_openTillNine_10 rfl rfl ?_ ?_
    · exact tr_vret g o dX0_openTillNine_31
    · refine tr_aload_n g 0 14 dX0_openTillNine_13 rfl rfl rfl ?_
      refine tr_iload_n g 2 15 dX0_openTillNine_14 rfl rfl rfl ?_
      refine tr_iload_n g 1 16 dX0_openTillNine_15 rfl rfl rfl ?_
      refine tr_iload_n g 2 17 dX0_openTillNine_16 rfl rfl rfl ?_
      refine tr_ishr g 18 dX0_openTillNine_17 rfl ?_
      refine tr_iconst (v := 1) g 19 dX0_openTillNine_18 rfl rfl ?_
      refine tr_iand g 20 dX0_openTillNine_19 rfl ?_
      refine tr_iconst (v := 3) g 21 dX0_openTillNine_20 rfl rfl ?_
      refine tr_imul g 22 dX0_openTillNine_21 rfl ?_
      refine kv_X0_become g wd_396 ⟨Nat.le_of_ble_eq_true rfl, Nat.le_of_ble_eq_true rfl⟩ (Nat.le_of_ble_eq_true rfl) 25 dX0_openTillNine_22 rfl (fun _ σ1 => ?_)
      refine tr_iinc (lv' := [(2, .int (x2 + 1)), (0, .ref (tn_ad E 3)), (1, .int x1)]) (x := (x2 + 1)) g 2 28 dX0_openTillNine_25 rfl rfl rfl (by decide) rfl ?_
      refine tr_goto g 2 dX0_openTillNine_28 rfl ?_
      refine tr_sub [1, 2, 0] (lv' := [(0, .ref (tn_ad E 3)), (1, .int x1), (2, .int (x2 + 1))]) rfl ?_
      exact ih _ _ _
set_option maxHeartbeats 4000000 in
set_option maxRecDepth 20000 in
theorem b_X0_openTillNine {E : tn_E} {G : tn_G} (g : tn_Ok E G cX0_openTillNine RX0 3 (tn_rm 1 23)) (o : tn_Om E G none)  (a1 : Int32) (σ : tn_M) : tn_V E G tn_ve 0 [(0, .ref (tn_ad E 3)), (1, .int a1)] [] σ (f_X0_openTillNine a1 σ) := by
  unfold f_X0_openTillNine
  refine tr_iconst (v := 0) g 1 dX0_openTillNine_0 rfl rfl ?_
  refine tr_istore_n (lv' := [(2, .int 0), (0, .ref (tn_ad E 3)), (1, .int a1)]) g 2 dX0_openTillNine_1 rfl rfl (by decide) rfl ?_
  refine tr_sub [1, 2, 0] (lv' := [(0, .ref (tn_ad E 3)), (1, .int a1), (2, .int 0)]) rfl ?_
  exact b_X0_openTillNine_2 g o  tn_fuel _ _ _
theorem ok_X0_openTillNine {E : tn_E} {l : Launch}   (a1 : Int32) {σ : tn_M} {r : Unit} {σ' : tn_M} (h : f_X0_openTillNine a1 σ = some (r, σ')) : tn_C E l yX0_openTillNine cX0_openTillNine 3 none (tn_rm 1 23) [.ref (tn_ad E 3), .int a1] σ (tn_ve r) σ' :=
  tn_met (by decide) (Nat.le_of_ble_eq_true rfl) (fun G _ g o => b_X0_openTillNine g o  a1 σ) h
theorem yy_X0_openTillNine : tn_Yv RX0 yX0_openTillNine cX0_openTillNine 3 none 1 := ⟨wd_552, wd_550, wd_551, wd_68, by decide, by decide, by decide +kernel⟩
theorem kv_X0_openTillNine {E : tn_E} {G : tn_G} {cc : ByteArray} {own : String} {nL : Nat} {R : Room} {ρ : Type} {enc : ρ → Option Value} {pc : Nat} {lv : List (Nat × Value)} {st : List Value} {σ : tn_M} {kk : Unit → tn_M → Option (ρ × tn_M)} {i : Nat}  {a1 : Int32} (g : tn_Ok E G cc own nL R)  (hw : Cond.methodLink own i yX0_openTillNine ∈ tn_T) (hroom : 2 ≤ R.frames ∧ 45 ≤ R.locals) (hW : (st.map fun v => v.category).sum ≤ 8) (n : Nat) (hd : decode cc pc = .ok (.invokevirtual i, 3)) (hn : pc + 3 = n) (k : ∀ r σ1, tn_V E G enc n lv (st) σ1 (kk r σ1)) : tn_V E G enc pc lv (.int a1 :: .ref (tn_ad E 3) :: st) σ (tn_bd (f_X0_openTillNine a1 σ) kk) :=
  tr_callV (As := [.int a1]) (enc1 := tn_ve) g yy_X0_openTillNine hw (ci := 0) rfl (by decide) rfl (fun r σ1 h => ok_X0_openTillNine  a1 h) ⟨rfl, rfl⟩ ⟨hroom.1, by have h2 := hroom.2; show 8 + (3 + 11) + 23 ≤ R.locals; omega⟩ rfl rfl hW n hd hn k
/-! X0_limitBound -/
def F_X0_limitBound_2  : Nat → Int32 → Int32 → tn_M → Option (Unit × tn_M)
  | 0, _, _, _ => none
  | tn_n + 1, x1, x2, σ => 
    if (σ.1 1 5) ≤ x2 then
      some ((), σ)
    else
      tn_bd (f_X0_bound x2 σ) fun r2 σ1 =>
      tn_lt (α := Int32) (if r2 = 0 then 3 else x1) fun v3 =>
      tn_ck x2 5 <|
      tn_lt (tn_si σ1 21 (tn_x x2) v3) fun σ4 =>
      F_X0_limitBound_2 tn_n x1 (x2 + 1) σ4
def f_X0_limitBound  (a1 : Int32) (σ : tn_M) : Option (Unit × tn_M) :=
  F_X0_limitBound_2 tn_fuel a1 0 σ
set_option maxHeartbeats 4000000 in
set_option maxRecDepth 20000 in
theorem b_X0_limitBound_2 {E : tn_E} {G : tn_G} (g : tn_Ok E G cX0_limitBound RX0 3 (tn_rm 1 21)) (o : tn_Om E G none)  : ∀ (n : Nat) (x1 : Int32) (x2 : Int32) (σ : tn_M), tn_V E G tn_ve 2 [(0, .ref (tn_ad E 3)), (1, .int x1), (2, .int x2)] [] σ (F_X0_limitBound_2 n x1 x2 σ) := by
  intro n
  induction n with
  | zero => intros; exact tr_none
  | succ tn_n ih =>
    intro x1 x2 σ
    rw [F_X0_limitBound_2]
    refine tr_iload_n g 2 3 dX0_limitBound_2 rfl rfl rfl ?_
    refine tr_aload_n g 0 4 dX0_limitBound_3 rfl rfl rfl ?_
    refine gf_X0_0 g wd_156 7 dX0_limitBound_4 rfl ?_
    refine gf_X2_5 g wd_104 10 dX0_limitBound_7 rfl ?_
    refine tr_icmp_ge g 38 13 dX0_limitBound_10 rfl rfl ?_ ?_
    · exact tr_vret g o dX0_limitBound_38
    · refine tr_aload_n g 0 14 dX0_limitBound_13 rfl rfl rfl ?_
      refine gf_X0_3 g wd_160 17 dX0_limitBound_14 rfl ?_
      refine tr_iload_n g 2 18 dX0_limitBound_17 rfl rfl rfl ?_
      refine tr_aload_n g 0 19 dX0_limitBound_18 rfl rfl rfl ?_
      refine tr_iload_n g 2 20 dX0_limitBound_19 rfl rfl rfl ?_
      refine kv_X0_bound g wd_521 ⟨Nat.le_of_ble_eq_true rfl, Nat.le_of_ble_eq_true rfl⟩ (Nat.le_of_ble_eq_true rfl) 23 dX0_limitBound_20 rfl (fun r2 σ1 => ?_)
      refine tr_if_eqD (inj := fun z => Value.int z) g 31 30 26 dX0_limitBound_23 rfl rfl (fun rs hj => ?_) (fun rs hj => ?_) (fun v3 => ?_)
      · refine tr_iconst (v := 3) g 31 dX0_limitBound_30 rfl rfl ?_
        exact hj
      · refine tr_iload_n g 1 27 dX0_limitBound_26 rfl rfl rfl ?_
        refine tr_goto g 31 dX0_limitBound_27 rfl ?_
        exact hj
      · refine tr_iast (N := 5) g 32 rfl rfl dX0_limitBound_31 rfl (fun σ4 => ?_)
        refine tr_iinc (lv' := [(2, .int (x2 + 1)), (0, .ref (tn_ad E 3)), (1, .int x1)]) (x := (x2 + 1)) g 2 35 dX0_limitBound_32 rfl rfl rfl (by decide) rfl ?_
        refine tr_goto g 2 dX0_limitBound_35 rfl ?_
        refine tr_sub [1, 2, 0] (lv' := [(0, .ref (tn_ad E 3)), (1, .int x1), (2, .int (x2 + 1))]) rfl ?_
        exact ih _ _ _
set_option maxHeartbeats 4000000 in
set_option maxRecDepth 20000 in
theorem b_X0_limitBound {E : tn_E} {G : tn_G} (g : tn_Ok E G cX0_limitBound RX0 3 (tn_rm 1 21)) (o : tn_Om E G none)  (a1 : Int32) (σ : tn_M) : tn_V E G tn_ve 0 [(0, .ref (tn_ad E 3)), (1, .int a1)] [] σ (f_X0_limitBound a1 σ) := by
  unfold f_X0_limitBound
  refine tr_iconst (v := 0) g 1 dX0_limitBound_0 rfl rfl ?_
  refine tr_istore_n (lv' := [(2, .int 0), (0, .ref (tn_ad E 3)), (1, .int a1)]) g 2 dX0_limitBound_1 rfl rfl (by decide) rfl ?_
  refine tr_sub [1, 2, 0] (lv' := [(0, .ref (tn_ad E 3)), (1, .int a1), (2, .int 0)]) rfl ?_
  exact b_X0_limitBound_2 g o  tn_fuel _ _ _
theorem ok_X0_limitBound {E : tn_E} {l : Launch}   (a1 : Int32) {σ : tn_M} {r : Unit} {σ' : tn_M} (h : f_X0_limitBound a1 σ = some (r, σ')) : tn_C E l yX0_limitBound cX0_limitBound 3 none (tn_rm 1 21) [.ref (tn_ad E 3), .int a1] σ (tn_ve r) σ' :=
  tn_met (by decide) (Nat.le_of_ble_eq_true rfl) (fun G _ g o => b_X0_limitBound g o  a1 σ) h
theorem yy_X0_limitBound : tn_Yv RX0 yX0_limitBound cX0_limitBound 3 none 1 := ⟨wd_556, wd_554, wd_555, wd_68, by decide, by decide, by decide +kernel⟩
theorem kv_X0_limitBound {E : tn_E} {G : tn_G} {cc : ByteArray} {own : String} {nL : Nat} {R : Room} {ρ : Type} {enc : ρ → Option Value} {pc : Nat} {lv : List (Nat × Value)} {st : List Value} {σ : tn_M} {kk : Unit → tn_M → Option (ρ × tn_M)} {i : Nat}  {a1 : Int32} (g : tn_Ok E G cc own nL R)  (hw : Cond.methodLink own i yX0_limitBound ∈ tn_T) (hroom : 2 ≤ R.frames ∧ 43 ≤ R.locals) (hW : (st.map fun v => v.category).sum ≤ 8) (n : Nat) (hd : decode cc pc = .ok (.invokevirtual i, 3)) (hn : pc + 3 = n) (k : ∀ r σ1, tn_V E G enc n lv (st) σ1 (kk r σ1)) : tn_V E G enc pc lv (.int a1 :: .ref (tn_ad E 3) :: st) σ (tn_bd (f_X0_limitBound a1 σ) kk) :=
  tr_callV (As := [.int a1]) (enc1 := tn_ve) g yy_X0_limitBound hw (ci := 0) rfl (by decide) rfl (fun r σ1 h => ok_X0_limitBound  a1 h) ⟨rfl, rfl⟩ ⟨hroom.1, by have h2 := hroom.2; show 8 + (3 + 11) + 21 ≤ R.locals; omega⟩ rfl rfl hW n hd hn k
/-! X0_shuttingPrice -/
def F_X0_shuttingPrice_10  : Nat → Int32 → Int64 → Int32 → tn_M → Option (Int64 × tn_M)
  | 0, _, _, _, _ => none
  | tn_n + 1, x1, x2, x4, σ => 
    if 3 < x4 then
      some (x2, σ)
    else
      tn_ck x1 5 <|
      tn_lt (α := Int64) ((Int32.toInt64 ((σ.1 11 (tn_x x1)) * x4)) * 11808276480) fun w1 =>
      tn_ck x4 4 <|
      tn_bd (f_X4_ceiling (((σ.2 25 (tn_x x4)) + w1) - (σ.2 25 0)) ((Int32.toInt64 x4) * 11808276480) σ) fun r3 σ2 =>
      tn_lt (α := Int64) (if r3 < x2 then x2 else r3) fun w4 =>
      F_X0_shuttingPrice_10 tn_n x1 w4 (x4 + 1) σ2
def f_X0_shuttingPrice  (a1 : Int32) (σ : tn_M) : Option (Int64 × tn_M) :=
  tn_bd (f_X0_weigh a1 σ) fun _ σ1 =>
  F_X0_shuttingPrice_10 tn_fuel a1 0 1 σ1
set_option maxHeartbeats 4000000 in
set_option maxRecDepth 20000 in
theorem b_X0_shuttingPrice_10 {E : tn_E} {G : tn_G} (g : tn_Ok E G cX0_shuttingPrice RX0 7 (tn_rm 2 54)) (o : tn_Om E G (some .long))  : ∀ (n : Nat) (x1 : Int32) (x2 : Int64) (x4 : Int32) (σ : tn_M), tn_V E G tn_le 10 [(0, .ref (tn_ad E 3)), (1, .int x1), (2, .long x2), (4, .int x4)] [] σ (F_X0_shuttingPrice_10 n x1 x2 x4 σ) := by
  intro n
  induction n with
  | zero => intros; exact tr_none
  | succ tn_n ih =>
    intro x1 x2 x4 σ
    rw [F_X0_shuttingPrice_10]
    refine tr_iload g 3 12 dX0_shuttingPrice_10 rfl rfl ?_
    refine tr_iconst (v := 3) g 13 dX0_shuttingPrice_12 rfl rfl ?_
    refine tr_icmp_gt g 73 16 dX0_shuttingPrice_13 rfl rfl ?_ ?_
    · refine tr_lload_n g 2 74 dX0_shuttingPrice_73 rfl rfl rfl ?_
      exact tr_lret g o dX0_shuttingPrice_74
    · refine tr_aload_n g 0 17 dX0_shuttingPrice_16 rfl rfl rfl ?_
      refine gf_X0_0 g wd_156 20 dX0_shuttingPrice_17 rfl ?_
      refine gf_X2_2 g wd_98 23 dX0_shuttingPrice_20 rfl ?_
      refine tr_iload_n g 1 24 dX0_shuttingPrice_23 rfl rfl rfl ?_
      refine tr_iald (N := 5) g 25 rfl rfl dX0_shuttingPrice_24 rfl ?_
      refine tr_iload g 3 27 dX0_shuttingPrice_25 rfl rfl ?_
      refine tr_imul g 28 dX0_shuttingPrice_27 rfl ?_
      refine tr_i2l g 29 dX0_shuttingPrice_28 rfl ?_
      refine tr_ldc2 (v := 11808276480) g wd_424 32 dX0_shuttingPrice_29 rfl ?_
      refine tr_lmul g 33 dX0_shuttingPrice_32 rfl ?_
      refine tr_ltl (fun w1 => ?_)
      refine tr_lstore (lv' := [(5, .long w1), (0, .ref (tn_ad E 3)), (1, .int x1), (2, .long x2), (4, .int x4)]) g 35 dX0_shuttingPrice_33 rfl (by decide) rfl ?_
      refine tr_lload_n g 3 36 dX0_shuttingPrice_35 rfl rfl rfl ?_
      refine tr_aload_n g 1 37 dX0_shuttingPrice_36 rfl rfl rfl ?_
      refine gf_X0_7 g wd_165 40 dX0_shuttingPrice_37 rfl ?_
      refine tr_iload g 4 42 dX0_shuttingPrice_40 rfl rfl ?_
      refine tr_lald (N := 4) g 43 rfl rfl dX0_shuttingPrice_42 rfl ?_
      refine tr_lload g 0 45 dX0_shuttingPrice_43 rfl rfl ?_
      refine tr_ladd g 46 dX0_shuttingPrice_45 rfl ?_
      refine tr_aload_n g 1 47 dX0_shuttingPrice_46 rfl rfl rfl ?_
      refine gf_X0_7 g wd_165 50 dX0_shuttingPrice_47 rfl ?_
      refine tr_iconst (v := 0) g 51 dX0_shuttingPrice_50 rfl rfl ?_
      refine tr_laldK (N := 4) g 52 0 rfl rfl rfl (by decide) dX0_shuttingPrice_51 rfl ?_
      refine tr_lsub g 53 dX0_shuttingPrice_52 rfl ?_
      refine tr_iload g 4 55 dX0_shuttingPrice_53 rfl rfl ?_
      refine tr_i2l g 56 dX0_shuttingPrice_55 rfl ?_
      refine tr_ldc2 (v := 11808276480) g wd_424 59 dX0_shuttingPrice_56 rfl ?_
      refine tr_lmul g 60 dX0_shuttingPrice_59 rfl ?_
      refine kn_X4_ceiling g ⟨Nat.le_of_ble_eq_true rfl, Nat.le_of_ble_eq_true rfl⟩ (Nat.le_of_ble_eq_true rfl) 63 dX0_shuttingPrice_60 rfl (fun r3 σ2 => ?_)
      refine tr_mmaxl g wd_530 wd_531 wd_71 wd_532 ⟨Nat.le_of_ble_eq_true rfl, Nat.le_of_ble_eq_true rfl⟩ 66 dX0_shuttingPrice_63 rfl ?_
      refine tr_ltl (fun w4 => ?_)
      refine tr_lstore_n (lv' := [(2, .long w4), (5, .long w1), (0, .ref (tn_ad E 3)), (1, .int x1), (4, .int x4)]) g 67 dX0_shuttingPrice_66 rfl rfl (by decide) rfl ?_
      refine tr_iinc (lv' := [(4, .int (x4 + 1)), (2, .long w4), (5, .long w1), (0, .ref (tn_ad E 3)), (1, .int x1)]) (x := (x4 + 1)) g 4 70 dX0_shuttingPrice_67 rfl rfl rfl (by decide) rfl ?_
      refine tr_goto g 10 dX0_shuttingPrice_70 rfl ?_
      refine tr_sub [3, 4, 1, 0] (lv' := [(0, .ref (tn_ad E 3)), (1, .int x1), (2, .long w4), (4, .int (x4 + 1))]) rfl ?_
      exact ih _ _ _ _
set_option maxHeartbeats 4000000 in
set_option maxRecDepth 20000 in
theorem b_X0_shuttingPrice {E : tn_E} {G : tn_G} (g : tn_Ok E G cX0_shuttingPrice RX0 7 (tn_rm 2 54)) (o : tn_Om E G (some .long))  (a1 : Int32) (σ : tn_M) : tn_V E G tn_le 0 [(0, .ref (tn_ad E 3)), (1, .int a1)] [] σ (f_X0_shuttingPrice a1 σ) := by
  unfold f_X0_shuttingPrice
  refine tr_aload_n g 0 1 dX0_shuttingPrice_0 rfl rfl rfl ?_
  refine tr_iload_n g 1 2 dX0_shuttingPrice_1 rfl rfl rfl ?_
  refine kv_X0_weigh g wd_455 ⟨Nat.le_of_ble_eq_true rfl, Nat.le_of_ble_eq_true rfl⟩ (Nat.le_of_ble_eq_true rfl) 5 dX0_shuttingPrice_2 rfl (fun _ σ1 => ?_)
  refine tr_lconst (v := 0) g 6 dX0_shuttingPrice_5 rfl rfl ?_
  refine tr_lstore_n (lv' := [(2, .long 0), (0, .ref (tn_ad E 3)), (1, .int a1)]) g 7 dX0_shuttingPrice_6 rfl rfl (by decide) rfl ?_
  refine tr_iconst (v := 1) g 8 dX0_shuttingPrice_7 rfl rfl ?_
  refine tr_istore (lv' := [(4, .int 1), (2, .long 0), (0, .ref (tn_ad E 3)), (1, .int a1)]) g 10 dX0_shuttingPrice_8 rfl (by decide) rfl ?_
  refine tr_sub [2, 3, 1, 0] (lv' := [(0, .ref (tn_ad E 3)), (1, .int a1), (2, .long 0), (4, .int 1)]) rfl ?_
  exact b_X0_shuttingPrice_10 g o  tn_fuel _ _ _ _
theorem ok_X0_shuttingPrice {E : tn_E} {l : Launch}   (a1 : Int32) {σ : tn_M} {r : Int64} {σ' : tn_M} (h : f_X0_shuttingPrice a1 σ = some (r, σ')) : tn_C E l yX0_shuttingPrice cX0_shuttingPrice 7 (some .long) (tn_rm 2 54) [.ref (tn_ad E 3), .int a1] σ (tn_le r) σ' :=
  tn_met (by decide) (Nat.le_of_ble_eq_true rfl) (fun G _ g o => b_X0_shuttingPrice g o  a1 σ) h
theorem yy_X0_shuttingPrice : tn_Yv RX0 yX0_shuttingPrice cX0_shuttingPrice 7 (some .long) 1 := ⟨wd_564, wd_562, wd_563, wd_68, by decide, by decide, by decide +kernel⟩
theorem kv_X0_shuttingPrice {E : tn_E} {G : tn_G} {cc : ByteArray} {own : String} {nL : Nat} {R : Room} {ρ : Type} {enc : ρ → Option Value} {pc : Nat} {lv : List (Nat × Value)} {st : List Value} {σ : tn_M} {kk : Int64 → tn_M → Option (ρ × tn_M)} {i : Nat}  {a1 : Int32} (g : tn_Ok E G cc own nL R)  (hw : Cond.methodLink own i yX0_shuttingPrice ∈ tn_T) (hroom : 3 ≤ R.frames ∧ 80 ≤ R.locals) (hW : (st.map fun v => v.category).sum ≤ 8) (n : Nat) (hd : decode cc pc = .ok (.invokevirtual i, 3)) (hn : pc + 3 = n) (k : ∀ r σ1, tn_V E G enc n lv (.long r :: st) σ1 (kk r σ1)) : tn_V E G enc pc lv (.int a1 :: .ref (tn_ad E 3) :: st) σ (tn_bd (f_X0_shuttingPrice a1 σ) kk) :=
  tr_callV (As := [.int a1]) (enc1 := tn_le) g yy_X0_shuttingPrice hw (ci := 0) rfl (by decide) rfl (fun r σ1 h => ok_X0_shuttingPrice  a1 h) ⟨rfl, rfl⟩ ⟨hroom.1, by have h2 := hroom.2; show 8 + (7 + 11) + 54 ≤ R.locals; omega⟩ rfl rfl hW n hd hn k
/-! X0_remember -/
def f_X0_remember   (σ : tn_M) : Option (Unit × tn_M) :=
  tn_cck 0 0 5 5 5 <|
  tn_lt (tn_cp σ 20 23 (tn_x 0) (tn_x 0) (tn_x 5)) fun σ1 =>
  some ((), σ1)
set_option maxHeartbeats 4000000 in
set_option maxRecDepth 20000 in
theorem b_X0_remember {E : tn_E} {G : tn_G} (g : tn_Ok E G cX0_remember RX0 1 (tn_rm 1 18)) (o : tn_Om E G none)   (σ : tn_M) : tn_V E G tn_ve 0 [(0, .ref (tn_ad E 3))] [] σ (f_X0_remember σ) := by
  unfold f_X0_remember
  refine tr_aload_n g 0 1 dX0_remember_0 rfl rfl rfl ?_
  refine gf_X0_2 g wd_158 4 dX0_remember_1 rfl ?_
  refine tr_iconst (v := 0) g 5 dX0_remember_4 rfl rfl ?_
  refine tr_aload_n g 0 6 dX0_remember_5 rfl rfl rfl ?_
  refine gf_X0_5 g wd_162 9 dX0_remember_6 rfl ?_
  refine tr_iconst (v := 0) g 10 dX0_remember_9 rfl rfl ?_
  refine tr_iconst (v := 5) g 11 dX0_remember_10 rfl rfl ?_
  refine tr_acopy (Ns := 5) (Nd := 5) g rfl rfl rfl rfl wd_389 wd_391 wd_390 wd_74 ⟨Nat.le_of_ble_eq_true rfl, Nat.le_of_ble_eq_true rfl⟩ 14 dX0_remember_11 rfl (fun σ1 => ?_)
  exact tr_vret g o dX0_remember_14
theorem ok_X0_remember {E : tn_E} {l : Launch}    {σ : tn_M} {r : Unit} {σ' : tn_M} (h : f_X0_remember  σ = some (r, σ')) : tn_C E l yX0_remember cX0_remember 1 none (tn_rm 1 18) [.ref (tn_ad E 3)] σ (tn_ve r) σ' :=
  tn_met (by decide) (Nat.le_of_ble_eq_true rfl) (fun G _ g o => b_X0_remember g o   σ) h
theorem yy_X0_remember : tn_Yv RX0 yX0_remember cX0_remember 1 none 0 := ⟨wd_599, wd_598, wd_23, wd_68, by decide, by decide, by decide +kernel⟩
theorem kv_X0_remember {E : tn_E} {G : tn_G} {cc : ByteArray} {own : String} {nL : Nat} {R : Room} {ρ : Type} {enc : ρ → Option Value} {pc : Nat} {lv : List (Nat × Value)} {st : List Value} {σ : tn_M} {kk : Unit → tn_M → Option (ρ × tn_M)} {i : Nat}   (g : tn_Ok E G cc own nL R)  (hw : Cond.methodLink own i yX0_remember ∈ tn_T) (hroom : 2 ≤ R.frames ∧ 38 ≤ R.locals) (hW : (st.map fun v => v.category).sum ≤ 8) (n : Nat) (hd : decode cc pc = .ok (.invokevirtual i, 3)) (hn : pc + 3 = n) (k : ∀ r σ1, tn_V E G enc n lv (st) σ1 (kk r σ1)) : tn_V E G enc pc lv (.ref (tn_ad E 3) :: st) σ (tn_bd (f_X0_remember  σ) kk) :=
  tr_callV (As := []) (enc1 := tn_ve) g yy_X0_remember hw (ci := 0) rfl (by decide) rfl (fun r σ1 h => ok_X0_remember   h) ⟨rfl, rfl⟩ ⟨hroom.1, by have h2 := hroom.2; show 8 + (1 + 11) + 18 ≤ R.locals; omega⟩ rfl rfl hW n hd hn k
/-! X0_recall -/
def F_X0_recall_2  : Nat → Int32 → tn_M → Option (Unit × tn_M)
  | 0, _, _ => none
  | tn_n + 1, x1, σ => 
    if (σ.1 1 5) ≤ x1 then
      some ((), σ)
    else
      tn_ck x1 5 <|
      tn_bd (f_X0_become x1 (σ.1 23 (tn_x x1)) σ) fun _ σ1 =>
      F_X0_recall_2 tn_n (x1 + 1) σ1
def f_X0_recall   (σ : tn_M) : Option (Unit × tn_M) :=
  F_X0_recall_2 tn_fuel 0 σ
set_option maxHeartbeats 4000000 in
set_option maxRecDepth 20000 in
theorem b_X0_recall_2 {E : tn_E} {G : tn_G} (g : tn_Ok E G cX0_recall RX0 2 (tn_rm 1 23)) (o : tn_Om E G none)  : ∀ (n : Nat) (x1 : Int32) (σ : tn_M), tn_V E G tn_ve 2 [(0, .ref (tn_ad E 3)), (1, .int x1)] [] σ (F_X0_recall_2 n x1 σ) := by
  intro n
  induction n with
  | zero => intros; exact tr_none
  | succ tn_n ih =>
    intro x1 σ
    rw [F_X0_recall_2]
    refine tr_iload_n g 1 3 dX0_recall_2 rfl rfl rfl ?_
    refine tr_aload_n g 0 4 dX0_recall_3 rfl rfl rfl ?_
    refine gf_X0_0 g wd_156 7 dX0_recall_4 rfl ?_
    refine gf_X2_5 g wd_104 10 dX0_recall_7 rfl ?_
    refine tr_icmp_ge g 30 13 dX0_recall_10 rfl rfl ?_ ?_
    · exact tr_vret g o dX0_recall_30
    · refine tr_aload_n g 0 14 dX0_recall_13 rfl rfl rfl ?_
      refine tr_iload_n g 1 15 dX0_recall_14 rfl rfl rfl ?_
      refine tr_aload_n g 0 16 dX0_recall_15 rfl rfl rfl ?_
      refine gf_X0_5 g wd_162 19 dX0_recall_16 rfl ?_
      refine tr_iload_n g 1 20 dX0_recall_19 rfl rfl rfl ?_
      refine tr_iald (N := 5) g 21 rfl rfl dX0_recall_20 rfl ?_
      refine kv_X0_become g wd_396 ⟨Nat.le_of_ble_eq_true rfl, Nat.le_of_ble_eq_true rfl⟩ (Nat.le_of_ble_eq_true rfl) 24 dX0_recall_21 rfl (fun _ σ1 => ?_)
      refine tr_iinc (lv' := [(1, .int (x1 + 1)), (0, .ref (tn_ad E 3))]) (x := (x1 + 1)) g 1 27 dX0_recall_24 rfl rfl rfl (by decide) rfl ?_
      refine tr_goto g 2 dX0_recall_27 rfl ?_
      refine tr_sub [1, 0] (lv' := [(0, .ref (tn_ad E 3)), (1, .int (x1 + 1))]) rfl ?_
      exact ih _ _
set_option maxHeartbeats 4000000 in
set_option maxRecDepth 20000 in
theorem b_X0_recall {E : tn_E} {G : tn_G} (g : tn_Ok E G cX0_recall RX0 2 (tn_rm 1 23)) (o : tn_Om E G none)   (σ : tn_M) : tn_V E G tn_ve 0 [(0, .ref (tn_ad E 3))] [] σ (f_X0_recall σ) := by
  unfold f_X0_recall
  refine tr_iconst (v := 0) g 1 dX0_recall_0 rfl rfl ?_
  refine tr_istore_n (lv' := [(1, .int 0), (0, .ref (tn_ad E 3))]) g 2 dX0_recall_1 rfl rfl (by decide) rfl ?_
  refine tr_sub [1, 0] (lv' := [(0, .ref (tn_ad E 3)), (1, .int 0)]) rfl ?_
  exact b_X0_recall_2 g o  tn_fuel _ _
theorem ok_X0_recall {E : tn_E} {l : Launch}    {σ : tn_M} {r : Unit} {σ' : tn_M} (h : f_X0_recall  σ = some (r, σ')) : tn_C E l yX0_recall cX0_recall 2 none (tn_rm 1 23) [.ref (tn_ad E 3)] σ (tn_ve r) σ' :=
  tn_met (by decide) (Nat.le_of_ble_eq_true rfl) (fun G _ g o => b_X0_recall g o   σ) h
theorem yy_X0_recall : tn_Yv RX0 yX0_recall cX0_recall 2 none 0 := ⟨wd_604, wd_603, wd_24, wd_68, by decide, by decide, by decide +kernel⟩
theorem kv_X0_recall {E : tn_E} {G : tn_G} {cc : ByteArray} {own : String} {nL : Nat} {R : Room} {ρ : Type} {enc : ρ → Option Value} {pc : Nat} {lv : List (Nat × Value)} {st : List Value} {σ : tn_M} {kk : Unit → tn_M → Option (ρ × tn_M)} {i : Nat}   (g : tn_Ok E G cc own nL R)  (hw : Cond.methodLink own i yX0_recall ∈ tn_T) (hroom : 2 ≤ R.frames ∧ 44 ≤ R.locals) (hW : (st.map fun v => v.category).sum ≤ 8) (n : Nat) (hd : decode cc pc = .ok (.invokevirtual i, 3)) (hn : pc + 3 = n) (k : ∀ r σ1, tn_V E G enc n lv (st) σ1 (kk r σ1)) : tn_V E G enc pc lv (.ref (tn_ad E 3) :: st) σ (tn_bd (f_X0_recall  σ) kk) :=
  tr_callV (As := []) (enc1 := tn_ve) g yy_X0_recall hw (ci := 0) rfl (by decide) rfl (fun r σ1 h => ok_X0_recall   h) ⟨rfl, rfl⟩ ⟨hroom.1, by have h2 := hroom.2; show 8 + (2 + 11) + 23 ≤ R.locals; omega⟩ rfl rfl hW n hd hn k
/-! X0_passWeek -/
def F_X0_passWeek_64 (c17 : Int32 → tn_M → Option (Unit × tn_M)) (x1 : Int32) (y1 : Int32) (y2 : Int32) (σ : tn_M) : Option (Unit × tn_M) :=
  tn_ck y1 4 <|
  tn_lt (tn_si σ 22 (tn_x y1) y2) fun σ1 =>
  c17 (x1 + 1) σ1
def F_X0_passWeek_17  : Nat → Int32 → tn_M → Option (Unit × tn_M)
  | 0, _, _ => none
  | tn_n + 1, x1, σ => 
    if 3 < x1 then
      some ((), σ)
    else
      tn_ck x1 4 <|
      if (σ.1 24 (tn_x x1)) = 0 then
        tn_ck x1 4 <|
        F_X0_passWeek_64 (fun z0 zs => F_X0_passWeek_17 tn_n z0 zs) x1 x1 (if 0 < ((σ.1 22 (tn_x x1)) - 1) then ((σ.1 22 (tn_x x1)) - 1) else 0) σ
      else
        tn_ck x1 4 <|
        F_X0_passWeek_64 (fun z0 zs => F_X0_passWeek_17 tn_n z0 zs) x1 x1 (if ((σ.1 22 (tn_x x1)) + 1) < 8 then ((σ.1 22 (tn_x x1)) + 1) else 8) σ
def F_X0_passWeek_15   (σ : tn_M) : Option (Unit × tn_M) :=
  F_X0_passWeek_17 tn_fuel 1 σ
def f_X0_passWeek   (σ : tn_M) : Option (Unit × tn_M) :=
  tn_bd (f_X0_remember σ) fun _ σ1 =>
  tn_bd (f_X0_runDown σ1) fun r3 σ2 =>
  if r3 = 0 then
    tn_bd (f_X0_recall σ2) fun _ σ4 =>
    F_X0_passWeek_15 σ4
  else
    F_X0_passWeek_15 σ2
set_option maxHeartbeats 4000000 in
set_option maxRecDepth 20000 in
theorem b_X0_passWeek_64 {E : tn_E} {G : tn_G} (g : tn_Ok E G cX0_passWeek RX0 2 (tn_rm 4 101)) (o : tn_Om E G none) (c17 : Int32 → tn_M → Option (Unit × tn_M)) (hc17 : ∀ (x1 : Int32) (σ : tn_M), tn_V E G tn_ve 17 [(0, .ref (tn_ad E 3)), (1, .int x1)] [] σ (c17 x1 σ)) (x1 : Int32) (y1 : Int32) (y2 : Int32) (σ : tn_M) : tn_V E G tn_ve 64 [(0, .ref (tn_ad E 3)), (1, .int x1)] [.int y2, .int y1, .ref (tn_ad E 22)] σ (F_X0_passWeek_64 c17 x1 y1 y2 σ) := by
  unfold F_X0_passWeek_64
  refine tr_iast (N := 4) g 65 rfl rfl dX0_passWeek_64 rfl (fun σ1 => ?_)
  refine tr_iinc (lv' := [(1, .int (x1 + 1)), (0, .ref (tn_ad E 3))]) (x := (x1 + 1)) g 1 68 dX0_passWeek_65 rfl rfl rfl (by decide) rfl ?_
  refine tr_goto g 17 dX0_passWeek_68 rfl ?_
  refine tr_sub [1, 0] (lv' := [(0, .ref (tn_ad E 3)), (1, .int (x1 + 1))]) rfl ?_
  exact hc17 _ _
set_option maxHeartbeats 4000000 in
set_option maxRecDepth 20000 in
theorem b_X0_passWeek_17 {E : tn_E} {G : tn_G} (g : tn_Ok E G cX0_passWeek RX0 2 (tn_rm 4 101)) (o : tn_Om E G none)  : ∀ (n : Nat) (x1 : Int32) (σ : tn_M), tn_V E G tn_ve 17 [(0, .ref (tn_ad E 3)), (1, .int x1)] [] σ (F_X0_passWeek_17 n x1 σ) := by
  intro n
  induction n with
  | zero => intros; exact tr_none
  | succ tn_n ih =>
    intro x1 σ
    rw [F_X0_passWeek_17]
    refine tr_iload_n g 1 18 dX0_passWeek_17 rfl rfl rfl ?_
    refine tr_iconst (v := 3) g 19 dX0_passWeek_18 rfl rfl ?_
    refine tr_icmp_gt g 71 22 dX0_passWeek_19 rfl rfl ?_ ?_
    · exact tr_vret g o dX0_passWeek_71
    · refine tr_aload_n g 0 23 dX0_passWeek_22 rfl rfl rfl ?_
      refine gf_X0_4 g wd_161 26 dX0_passWeek_23 rfl ?_
      refine tr_iload_n g 1 27 dX0_passWeek_26 rfl rfl rfl ?_
      refine tr_aload_n g 0 28 dX0_passWeek_27 rfl rfl rfl ?_
      refine gf_X0_6 g wd_163 31 dX0_passWeek_28 rfl ?_
      refine tr_iload_n g 1 32 dX0_passWeek_31 rfl rfl rfl ?_
      refine tr_iald (N := 4) g 33 rfl rfl dX0_passWeek_32 rfl ?_
      refine tr_if_eq g 52 36 dX0_passWeek_33 rfl rfl ?_ ?_
      · refine tr_iconst (v := 0) g 53 dX0_passWeek_52 rfl rfl ?_
        refine tr_aload_n g 0 54 dX0_passWeek_53 rfl rfl rfl ?_
        refine gf_X0_4 g wd_161 57 dX0_passWeek_54 rfl ?_
        refine tr_iload_n g 1 58 dX0_passWeek_57 rfl rfl rfl ?_
        refine tr_iald (N := 4) g 59 rfl rfl dX0_passWeek_58 rfl ?_
        refine tr_iconst (v := 1) g 60 dX0_passWeek_59 rfl rfl ?_
        refine tr_isub g 61 dX0_passWeek_60 rfl ?_
        refine tr_mmax g wd_605 wd_606 wd_71 wd_607 ⟨Nat.le_of_ble_eq_true rfl, Nat.le_of_ble_eq_true rfl⟩ 64 dX0_passWeek_61 rfl ?_
        exact b_X0_passWeek_64 g o (fun z0 zs => F_X0_passWeek_17 tn_n z0 zs) (fun z0 zs => ih z0 zs) _ _ _ _
      · refine tr_bipush (v := 8) g 38 dX0_passWeek_36 rfl rfl ?_
        refine tr_aload_n g 0 39 dX0_passWeek_38 rfl rfl rfl ?_
        refine gf_X0_4 g wd_161 42 dX0_passWeek_39 rfl ?_
        refine tr_iload_n g 1 43 dX0_passWeek_42 rfl rfl rfl ?_
        refine tr_iald (N := 4) g 44 rfl rfl dX0_passWeek_43 rfl ?_
        refine tr_iconst (v := 1) g 45 dX0_passWeek_44 rfl rfl ?_
        refine tr_iadd g 46 dX0_passWeek_45 rfl ?_
        refine tr_mmin g wd_525 wd_348 wd_71 wd_349 ⟨Nat.le_of_ble_eq_true rfl, Nat.le_of_ble_eq_true rfl⟩ 49 dX0_passWeek_46 rfl ?_
        refine tr_goto g 64 dX0_passWeek_49 rfl ?_
        exact b_X0_passWeek_64 g o (fun z0 zs => F_X0_passWeek_17 tn_n z0 zs) (fun z0 zs => ih z0 zs) _ _ _ _
set_option maxHeartbeats 4000000 in
set_option maxRecDepth 20000 in
theorem b_X0_passWeek_15 {E : tn_E} {G : tn_G} (g : tn_Ok E G cX0_passWeek RX0 2 (tn_rm 4 101)) (o : tn_Om E G none)   (σ : tn_M) : tn_V E G tn_ve 15 [(0, .ref (tn_ad E 3))] [] σ (F_X0_passWeek_15 σ) := by
  unfold F_X0_passWeek_15
  refine tr_iconst (v := 1) g 16 dX0_passWeek_15 rfl rfl ?_
  refine tr_istore_n (lv' := [(1, .int 1), (0, .ref (tn_ad E 3))]) g 17 dX0_passWeek_16 rfl rfl (by decide) rfl ?_
  refine tr_sub [1, 0] (lv' := [(0, .ref (tn_ad E 3)), (1, .int 1)]) rfl ?_
  exact b_X0_passWeek_17 g o  tn_fuel _ _
set_option maxHeartbeats 4000000 in
set_option maxRecDepth 20000 in
theorem b_X0_passWeek {E : tn_E} {G : tn_G} (g : tn_Ok E G cX0_passWeek RX0 2 (tn_rm 4 101)) (o : tn_Om E G none)   (σ : tn_M) : tn_V E G tn_ve 0 [(0, .ref (tn_ad E 3))] [] σ (f_X0_passWeek σ) := by
  unfold f_X0_passWeek
  refine tr_aload_n g 0 1 dX0_passWeek_0 rfl rfl rfl ?_
  refine kv_X0_remember g wd_596 ⟨Nat.le_of_ble_eq_true rfl, Nat.le_of_ble_eq_true rfl⟩ (Nat.le_of_ble_eq_true rfl) 4 dX0_passWeek_1 rfl (fun _ σ1 => ?_)
  refine tr_aload_n g 0 5 dX0_passWeek_4 rfl rfl rfl ?_
  refine kv_X0_runDown g wd_600 ⟨Nat.le_of_ble_eq_true rfl, Nat.le_of_ble_eq_true rfl⟩ (Nat.le_of_ble_eq_true rfl) 8 dX0_passWeek_5 rfl (fun r3 σ2 => ?_)
  refine tr_if_ne g 15 11 dX0_passWeek_8 rfl rfl ?_ ?_
  · exact b_X0_passWeek_15 g o  _
  · refine tr_aload_n g 0 12 dX0_passWeek_11 rfl rfl rfl ?_
    refine kv_X0_recall g wd_601 ⟨Nat.le_of_ble_eq_true rfl, Nat.le_of_ble_eq_true rfl⟩ (Nat.le_of_ble_eq_true rfl) 15 dX0_passWeek_12 rfl (fun _ σ4 => ?_)
    exact b_X0_passWeek_15 g o  _
theorem ok_X0_passWeek {E : tn_E} {l : Launch}    {σ : tn_M} {r : Unit} {σ' : tn_M} (h : f_X0_passWeek  σ = some (r, σ')) : tn_C E l yX0_passWeek cX0_passWeek 2 none (tn_rm 4 101) [.ref (tn_ad E 3)] σ (tn_ve r) σ' :=
  tn_met (by decide) (Nat.le_of_ble_eq_true rfl) (fun G _ g o => b_X0_passWeek g o   σ) h
theorem yy_X0_passWeek : tn_Yv RX0 yX0_passWeek cX0_passWeek 2 none 0 := ⟨wd_595, wd_593, wd_594, wd_68, by decide, by decide, by decide +kernel⟩
theorem kv_X0_passWeek {E : tn_E} {G : tn_G} {cc : ByteArray} {own : String} {nL : Nat} {R : Room} {ρ : Type} {enc : ρ → Option Value} {pc : Nat} {lv : List (Nat × Value)} {st : List Value} {σ : tn_M} {kk : Unit → tn_M → Option (ρ × tn_M)} {i : Nat}   (g : tn_Ok E G cc own nL R)  (hw : Cond.methodLink own i yX0_passWeek ∈ tn_T) (hroom : 5 ≤ R.frames ∧ 122 ≤ R.locals) (hW : (st.map fun v => v.category).sum ≤ 8) (n : Nat) (hd : decode cc pc = .ok (.invokevirtual i, 3)) (hn : pc + 3 = n) (k : ∀ r σ1, tn_V E G enc n lv (st) σ1 (kk r σ1)) : tn_V E G enc pc lv (.ref (tn_ad E 3) :: st) σ (tn_bd (f_X0_passWeek  σ) kk) :=
  tr_callV (As := []) (enc1 := tn_ve) g yy_X0_passWeek hw (ci := 0) rfl (by decide) rfl (fun r σ1 h => ok_X0_passWeek   h) ⟨rfl, rfl⟩ ⟨hroom.1, by have h2 := hroom.2; show 8 + (2 + 11) + 101 ≤ R.locals; omega⟩ rfl rfl hW n hd hn k
/-! X0_hourOrHabit -/
def f_X0_hourOrHabit  (a1 : Int32) (σ : tn_M) : Option (Int32 × tn_M) :=
  if 5 ≤ a1 then
    tn_ck ((a1 - 5) + 1) 4 <|
    some ((σ.1 22 (tn_x ((a1 - 5) + 1))), σ)
  else
    tn_ck a1 5 <|
    some ((σ.1 20 (tn_x a1)), σ)
set_option maxHeartbeats 4000000 in
set_option maxRecDepth 20000 in
theorem b_X0_hourOrHabit {E : tn_E} {G : tn_G} (g : tn_Ok E G cX0_hourOrHabit RX0 2 (tn_rm 0 0)) (o : tn_Om E G (some .int))  (a1 : Int32) (σ : tn_M) : tn_V E G tn_ie 0 [(0, .ref (tn_ad E 3)), (1, .int a1)] [] σ (f_X0_hourOrHabit a1 σ) := by
  unfold f_X0_hourOrHabit
  refine tr_iload_n g 1 1 dX0_hourOrHabit_0 rfl rfl rfl ?_
  refine tr_iconst (v := 5) g 2 dX0_hourOrHabit_1 rfl rfl ?_
  refine tr_icmp_ge g 14 5 dX0_hourOrHabit_2 rfl rfl ?_ ?_
  · refine tr_aload_n g 0 15 dX0_hourOrHabit_14 rfl rfl rfl ?_
    refine gf_X0_4 g wd_161 18 dX0_hourOrHabit_15 rfl ?_
    refine tr_iload_n g 1 19 dX0_hourOrHabit_18 rfl rfl rfl ?_
    refine tr_iconst (v := 5) g 20 dX0_hourOrHabit_19 rfl rfl ?_
    refine tr_isub g 21 dX0_hourOrHabit_20 rfl ?_
    refine tr_iconst (v := 1) g 22 dX0_hourOrHabit_21 rfl rfl ?_
    refine tr_iadd g 23 dX0_hourOrHabit_22 rfl ?_
    refine tr_iald (N := 4) g 24 rfl rfl dX0_hourOrHabit_23 rfl ?_
    exact tr_iret g o dX0_hourOrHabit_24
  · refine tr_aload_n g 0 6 dX0_hourOrHabit_5 rfl rfl rfl ?_
    refine gf_X0_2 g wd_158 9 dX0_hourOrHabit_6 rfl ?_
    refine tr_iload_n g 1 10 dX0_hourOrHabit_9 rfl rfl rfl ?_
    refine tr_iald (N := 5) g 11 rfl rfl dX0_hourOrHabit_10 rfl ?_
    refine tr_goto g 24 dX0_hourOrHabit_11 rfl ?_
    exact tr_iret g o dX0_hourOrHabit_24
theorem ok_X0_hourOrHabit {E : tn_E} {l : Launch}   (a1 : Int32) {σ : tn_M} {r : Int32} {σ' : tn_M} (h : f_X0_hourOrHabit a1 σ = some (r, σ')) : tn_C E l yX0_hourOrHabit cX0_hourOrHabit 2 (some .int) (tn_rm 0 0) [.ref (tn_ad E 3), .int a1] σ (tn_ie r) σ' :=
  tn_met (by decide) (Nat.le_of_ble_eq_true rfl) (fun G _ g o => b_X0_hourOrHabit g o  a1 σ) h
theorem yy_X0_hourOrHabit : tn_Yv RX0 yX0_hourOrHabit cX0_hourOrHabit 2 (some .int) 1 := ⟨wd_611, wd_609, wd_610, wd_68, by decide, by decide, by decide +kernel⟩
theorem kv_X0_hourOrHabit {E : tn_E} {G : tn_G} {cc : ByteArray} {own : String} {nL : Nat} {R : Room} {ρ : Type} {enc : ρ → Option Value} {pc : Nat} {lv : List (Nat × Value)} {st : List Value} {σ : tn_M} {kk : Int32 → tn_M → Option (ρ × tn_M)} {i : Nat}  {a1 : Int32} (g : tn_Ok E G cc own nL R)  (hw : Cond.methodLink own i yX0_hourOrHabit ∈ tn_T) (hroom : 1 ≤ R.frames ∧ 21 ≤ R.locals) (hW : (st.map fun v => v.category).sum ≤ 8) (n : Nat) (hd : decode cc pc = .ok (.invokevirtual i, 3)) (hn : pc + 3 = n) (k : ∀ r σ1, tn_V E G enc n lv (.int r :: st) σ1 (kk r σ1)) : tn_V E G enc pc lv (.int a1 :: .ref (tn_ad E 3) :: st) σ (tn_bd (f_X0_hourOrHabit a1 σ) kk) :=
  tr_callV (As := [.int a1]) (enc1 := tn_ie) g yy_X0_hourOrHabit hw (ci := 0) rfl (by decide) rfl (fun r σ1 h => ok_X0_hourOrHabit  a1 h) ⟨rfl, rfl⟩ ⟨hroom.1, by have h2 := hroom.2; show 8 + (2 + 11) + 0 ≤ R.locals; omega⟩ rfl rfl hW n hd hn k
/-! X0_earlyIsStill -/
def f_X0_earlyIsStill   (σ : tn_M) : Option (Int32 × tn_M) :=
  tn_bd (f_X0_remember σ) fun _ σ1 =>
  tn_bd (f_X0_openTillNine 0 σ1) fun _ σ2 =>
  tn_bd (f_X0_firstGainer σ2) fun r4 σ3 =>
  tn_lt (α := Int32) (if r4 = (-1) then 1 else 0) fun v5 =>
  tn_bd (f_X0_recall σ3) fun _ σ6 =>
  tn_zr v5 σ6
set_option maxHeartbeats 4000000 in
set_option maxRecDepth 20000 in
theorem b_X0_earlyIsStill {E : tn_E} {G : tn_G} (g : tn_Ok E G cX0_earlyIsStill RX0 2 (tn_rm 4 99)) (o : tn_Om E G (some .boolean))   (σ : tn_M) : tn_V E G tn_ie 0 [(0, .ref (tn_ad E 3))] [] σ (f_X0_earlyIsStill σ) := by
  unfold f_X0_earlyIsStill
  refine tr_aload_n g 0 1 dX0_earlyIsStill_0 rfl rfl rfl ?_
  refine kv_X0_remember g wd_596 ⟨Nat.le_of_ble_eq_true rfl, Nat.le_of_ble_eq_true rfl⟩ (Nat.le_of_ble_eq_true rfl) 4 dX0_earlyIsStill_1 rfl (fun _ σ1 => ?_)
  refine tr_aload_n g 0 5 dX0_earlyIsStill_4 rfl rfl rfl ?_
  refine tr_iconst (v := 0) g 6 dX0_earlyIsStill_5 rfl rfl ?_
  refine kv_X0_openTillNine g wd_620 ⟨Nat.le_of_ble_eq_true rfl, Nat.le_of_ble_eq_true rfl⟩ (Nat.le_of_ble_eq_true rfl) 9 dX0_earlyIsStill_6 rfl (fun _ σ2 => ?_)
  refine tr_aload_n g 0 10 dX0_earlyIsStill_9 rfl rfl rfl ?_
  refine kv_X0_firstGainer g wd_621 ⟨Nat.le_of_ble_eq_true rfl, Nat.le_of_ble_eq_true rfl⟩ (Nat.le_of_ble_eq_true rfl) 13 dX0_earlyIsStill_10 rfl (fun r4 σ3 => ?_)
  refine tr_iconst (v := (-1)) g 14 dX0_earlyIsStill_13 rfl rfl ?_
  refine tr_icmp_neD (inj := fun z => Value.int z) g 22 21 17 dX0_earlyIsStill_14 rfl rfl (fun rs hj => ?_) (fun rs hj => ?_) (fun v5 => ?_)
  · refine tr_iconst (v := 0) g 22 dX0_earlyIsStill_21 rfl rfl ?_
    exact hj
  · refine tr_iconst (v := 1) g 18 dX0_earlyIsStill_17 rfl rfl ?_
    refine tr_goto g 22 dX0_earlyIsStill_18 rfl ?_
    exact hj
  · refine tr_istore_n (lv' := [(1, .int v5), (0, .ref (tn_ad E 3))]) g 23 dX0_earlyIsStill_22 rfl rfl (by decide) rfl ?_
    refine tr_aload_n g 1 24 dX0_earlyIsStill_23 rfl rfl rfl ?_
    refine kv_X0_recall g wd_601 ⟨Nat.le_of_ble_eq_true rfl, Nat.le_of_ble_eq_true rfl⟩ (Nat.le_of_ble_eq_true rfl) 27 dX0_earlyIsStill_24 rfl (fun _ σ6 => ?_)
    refine tr_iload_n g 0 28 dX0_earlyIsStill_27 rfl rfl rfl ?_
    exact tr_zretv g o dX0_earlyIsStill_28
theorem ok_X0_earlyIsStill {E : tn_E} {l : Launch}    {σ : tn_M} {r : Int32} {σ' : tn_M} (h : f_X0_earlyIsStill  σ = some (r, σ')) : tn_C E l yX0_earlyIsStill cX0_earlyIsStill 2 (some .boolean) (tn_rm 4 99) [.ref (tn_ad E 3)] σ (tn_ie r) σ' :=
  tn_met (by decide) (Nat.le_of_ble_eq_true rfl) (fun G _ g o => b_X0_earlyIsStill g o   σ) h
theorem yy_X0_earlyIsStill : tn_Yv RX0 yX0_earlyIsStill cX0_earlyIsStill 2 (some .boolean) 0 := ⟨wd_619, wd_617, wd_618, wd_68, by decide, by decide, by decide +kernel⟩
theorem kv_X0_earlyIsStill {E : tn_E} {G : tn_G} {cc : ByteArray} {own : String} {nL : Nat} {R : Room} {ρ : Type} {enc : ρ → Option Value} {pc : Nat} {lv : List (Nat × Value)} {st : List Value} {σ : tn_M} {kk : Int32 → tn_M → Option (ρ × tn_M)} {i : Nat}   (g : tn_Ok E G cc own nL R)  (hw : Cond.methodLink own i yX0_earlyIsStill ∈ tn_T) (hroom : 5 ≤ R.frames ∧ 120 ≤ R.locals) (hW : (st.map fun v => v.category).sum ≤ 8) (n : Nat) (hd : decode cc pc = .ok (.invokevirtual i, 3)) (hn : pc + 3 = n) (k : ∀ r σ1, tn_V E G enc n lv (.int r :: st) σ1 (kk r σ1)) : tn_V E G enc pc lv (.ref (tn_ad E 3) :: st) σ (tn_bd (f_X0_earlyIsStill  σ) kk) :=
  tr_callV (As := []) (enc1 := tn_ie) g yy_X0_earlyIsStill hw (ci := 0) rfl (by decide) rfl (fun r σ1 h => ok_X0_earlyIsStill   h) ⟨rfl, rfl⟩ ⟨hroom.1, by have h2 := hroom.2; show 8 + (2 + 11) + 99 ≤ R.locals; omega⟩ rfl rfl hW n hd hn k

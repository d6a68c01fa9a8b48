/-! X3_rowOf -/
def f_X3_rowOf  (a0 : Int32) (a1 : Int32) (σ : tn_M) : Option (Int32 × tn_M) :=
  some (((((a0 - 1) * 32) + a1) * 7), σ)
set_option maxHeartbeats 4000000 in
set_option maxRecDepth 20000 in
theorem b_X3_rowOf {E : tn_E} {G : tn_G} (g : tn_Ok E G cX3_rowOf RX3 2 (tn_rm 0 0)) (o : tn_Om E G (some .int))  (a0 : Int32) (a1 : Int32) (σ : tn_M) : tn_V E G tn_ie 0 [(0, .int a0), (1, .int a1)] [] σ (f_X3_rowOf a0 a1 σ) := by
  unfold f_X3_rowOf
  refine tr_iload_n g 0 1 dX3_rowOf_0 rfl rfl rfl ?_
  refine tr_iconst (v := 1) g 2 dX3_rowOf_1 rfl rfl ?_
  refine tr_isub g 3 dX3_rowOf_2 rfl ?_
  refine tr_bipush (v := 32) g 5 dX3_rowOf_3 rfl rfl ?_
  refine tr_imul g 6 dX3_rowOf_5 rfl ?_
  refine tr_iload_n g 1 7 dX3_rowOf_6 rfl rfl rfl ?_
  refine tr_iadd g 8 dX3_rowOf_7 rfl ?_
  refine tr_bipush (v := 7) g 10 dX3_rowOf_8 rfl rfl ?_
  refine tr_imul g 11 dX3_rowOf_10 rfl ?_
  exact tr_iret g o dX3_rowOf_11
theorem ok_X3_rowOf {E : tn_E} {l : Launch}   (a0 : Int32) (a1 : Int32) {σ : tn_M} {r : Int32} {σ' : tn_M} (h : f_X3_rowOf a0 a1 σ = some (r, σ')) : tn_C E l yX3_rowOf cX3_rowOf 2 (some .int) (tn_rm 0 0) [.int a0, .int a1] σ (tn_ie r) σ' :=
  tn_met (by decide) (Nat.le_of_ble_eq_true rfl) (fun G _ g o => b_X3_rowOf g o  a0 a1 σ) h
theorem yy_X3_rowOf : tn_Ys yX3_rowOf cX3_rowOf 2 (some .int) 2 := ⟨wd_371, wd_370, wd_67, by decide, by decide, by decide +kernel⟩
theorem kv_X3_rowOf {E : tn_E} {G : tn_G} {cc : ByteArray} {own : String} {nL : Nat} {R : Room} {ρ : Type} {enc : ρ → Option Value} {pc : Nat} {lv : List (Nat × Value)} {st : List Value} {σ : tn_M} {kk : Int32 → tn_M → Option (ρ × tn_M)} {i : Nat}  {a0 : Int32} {a1 : Int32} (g : tn_Ok E G cc own nL R)  (hw : Cond.methodLink own i yX3_rowOf ∈ tn_T) (hroom : 1 ≤ R.frames ∧ 21 ≤ R.locals) (hW : (st.map fun v => v.category).sum ≤ 8) (n : Nat) (hd : decode cc pc = .ok (.invokestatic i, 3)) (hn : pc + 3 = n) (k : ∀ r σ1, tn_V E G enc n lv (.int r :: st) σ1 (kk r σ1)) : tn_V E G enc pc lv (.int a1 :: .int a0 :: st) σ (tn_bd (f_X3_rowOf a0 a1 σ) kk) :=
  tr_callS (As := [.int a0, .int a1]) (enc1 := tn_ie) g yy_X3_rowOf hw (fun r σ1 h => ok_X3_rowOf  a0 a1 h) ⟨rfl, rfl⟩ ⟨hroom.1, by have h2 := hroom.2; show 8 + (2 + 11) + 0 ≤ R.locals; omega⟩ rfl rfl hW n hd hn k
/-! X3_part -/
def F_X3_part_109  (x2 : Int32) (x4 : Int64) (x6 : Int32) (σ : tn_M) : Option (Unit × tn_M) :=
  tn_ck (x2 + 5) 672 <|
  tn_ck (x2 + 5) 672 <|
  tn_lt (tn_sl σ 19 (tn_x (x2 + 5)) ((σ.2 19 (tn_x (x2 + 5))) + (x4 * (Int32.toInt64 x6)))) fun σ1 =>
  tn_ck (x2 + 6) 672 <|
  tn_ck (x2 + 6) 672 <|
  tn_lt (tn_sl σ1 19 (tn_x (x2 + 6)) ((σ1.2 19 (tn_x (x2 + 6))) + x4)) fun σ2 =>
  some ((), σ2)
def F_X3_part_57  : Nat → Int32 → Int32 → Int64 → Int32 → Int64 → Int32 → tn_M → Option (Unit × tn_M)
  | 0, _, _, _, _, _, _, _ => none
  | tn_n + 1, x2, x3, x4, x6, x8, x10, σ => 
    if (σ.1 1 5) ≤ x10 then
      F_X3_part_109 x2 x4 x6 σ
    else
      if ((x3 >>> (x10 &&& 31)) &&& 1) = 1 then
        tn_ck (x2 + x10) 672 <|
        tn_ck x10 5 <|
        tn_ck (x2 + x10) 672 <|
        tn_lt (tn_sl σ 19 (tn_x (x2 + x10)) ((σ.2 19 (tn_x (x2 + x10))) + ((x8 * (Int32.toInt64 (σ.1 10 (tn_x x10)))) * (Int32.toInt64 x6)))) fun σ1 =>
        F_X3_part_57 tn_n x2 x3 x4 x6 x8 (x10 + 1) σ1
      else
        F_X3_part_57 tn_n x2 x3 x4 x6 x8 (x10 + 1) σ
def F_X3_part_40  (x2 : Int32) (x3 : Int32) (x4 : Int64) (x6 : Int32) (x7 : Int32) (σ : tn_M) : Option (Unit × tn_M) :=
  if x7 = 0 then
    some ((), σ)
  else
    tn_dzl (Int32.toInt64 x7) <|
    tn_lt (α := Int64) (x4 / (Int32.toInt64 x7)) fun w1 =>
    F_X3_part_57 tn_fuel x2 x3 x4 x6 w1 0 σ
def F_X3_part_6  : Nat → Int32 → Int32 → Int64 → Int32 → Int32 → Int32 → tn_M → Option (Unit × tn_M)
  | 0, _, _, _, _, _, _, _ => none
  | tn_n + 1, x2, x3, x4, x6, x7, x8, σ => 
    if (σ.1 1 5) ≤ x8 then
      F_X3_part_40 x2 x3 x4 x6 x7 σ
    else
      tn_ck x8 5 <|
      tn_lt (α := Int32) (x7 + (((x3 >>> (x8 &&& 31)) &&& 1) * (σ.1 10 (tn_x x8)))) fun w1 =>
      F_X3_part_6 tn_n x2 x3 x4 x6 w1 (x8 + 1) σ
def f_X3_part  (a2 : Int32) (a3 : Int32) (a4 : Int64) (a6 : Int32) (σ : tn_M) : Option (Unit × tn_M) :=
  F_X3_part_6 tn_fuel a2 a3 a4 a6 0 0 σ
set_option maxHeartbeats 4000000 in
set_option maxRecDepth 20000 in
theorem b_X3_part_109 {E : tn_E} {G : tn_G} (g : tn_Ok E G cX3_part RX3 11 (tn_rm 0 0)) (o : tn_Om E G none)  (x2 : Int32) (x4 : Int64) (x6 : Int32) (σ : tn_M) : tn_V E G tn_ve 109 [(0, .ref (tn_ad E 2)), (2, .int x2), (4, .long x4), (6, .int x6)] [] σ (F_X3_part_109 x2 x4 x6 σ) := by
  unfold F_X3_part_109
  refine tr_aload_n g 0 110 dX3_part_109 rfl rfl rfl ?_
  refine gf_X3_0 g wd_140 113 dX3_part_110 rfl ?_
  refine tr_iload_n g 1 114 dX3_part_113 rfl rfl rfl ?_
  refine tr_iconst (v := 5) g 115 dX3_part_114 rfl rfl ?_
  refine tr_iadd g 116 dX3_part_115 rfl ?_
  refine tr_dup2 g 117 dX3_part_116 rfl rfl rfl ?_
  refine tr_lald (N := 672) g 118 rfl rfl dX3_part_117 rfl ?_
  refine tr_lload g 2 120 dX3_part_118 rfl rfl ?_
  refine tr_iload g 3 122 dX3_part_120 rfl rfl ?_
  refine tr_i2l g 123 dX3_part_122 rfl ?_
  refine tr_lmul g 124 dX3_part_123 rfl ?_
  refine tr_ladd g 125 dX3_part_124 rfl ?_
  refine tr_last (N := 672) g 126 rfl rfl dX3_part_125 rfl (fun σ1 => ?_)
  refine tr_aload_n g 0 127 dX3_part_126 rfl rfl rfl ?_
  refine gf_X3_0 g wd_140 130 dX3_part_127 rfl ?_
  refine tr_iload_n g 1 131 dX3_part_130 rfl rfl rfl ?_
  refine tr_bipush (v := 6) g 133 dX3_part_131 rfl rfl ?_
  refine tr_iadd g 134 dX3_part_133 rfl ?_
  refine tr_dup2 g 135 dX3_part_134 rfl rfl rfl ?_
  refine tr_lald (N := 672) g 136 rfl rfl dX3_part_135 rfl ?_
  refine tr_lload g 2 138 dX3_part_136 rfl rfl ?_
  refine tr_ladd g 139 dX3_part_138 rfl ?_
  refine tr_last (N := 672) g 140 rfl rfl dX3_part_139 rfl (fun σ2 => ?_)
  exact tr_vret g o dX3_part_140
set_option maxHeartbeats 4000000 in
set_option maxRecDepth 20000 in
theorem b_X3_part_57 {E : tn_E} {G : tn_G} (g : tn_Ok E G cX3_part RX3 11 (tn_rm 0 0)) (o : tn_Om E G none)  : ∀ (n : Nat) (x2 : Int32) (x3 : Int32) (x4 : Int64) (x6 : Int32) (x8 : Int64) (x10 : Int32) (σ : tn_M), tn_V E G tn_ve 57 [(0, .ref (tn_ad E 2)), (1, .ref (tn_ad E 1)), (2, .int x2), (3, .int x3), (4, .long x4), (6, .int x6), (8, .long x8), (10, .int x10)] [] σ (F_X3_part_57 n x2 x3 x4 x6 x8 x10 σ) := by
  intro n
  induction n with
  | zero => intros; exact tr_none
  | succ tn_n ih =>
    intro x2 x3 x4 x6 x8 x10 σ
    rw [F_X3_part_57]
    refine tr_iload g 7 59 dX3_part_57 rfl rfl ?_
    refine tr_aload_n g 1 60 dX3_part_59 rfl rfl rfl ?_
    refine gf_X2_5 g wd_105 63 dX3_part_60 rfl ?_
    refine tr_icmp_ge g 109 66 dX3_part_63 rfl rfl ?_ ?_
    · refine tr_sub [0, 2, 4, 5] (lv' := [(0, .ref (tn_ad E 2)), (2, .int x2), (4, .long x4), (6, .int x6)]) rfl ?_
      exact b_X3_part_109 g o  _ _ _ _
    · refine tr_iload_n g 3 67 dX3_part_66 rfl rfl rfl ?_
      refine tr_iload g 7 69 dX3_part_67 rfl rfl ?_
      refine tr_ishr g 70 dX3_part_69 rfl ?_
      refine tr_iconst (v := 1) g 71 dX3_part_70 rfl rfl ?_
      refine tr_iand g 72 dX3_part_71 rfl ?_
      refine tr_iconst (v := 1) g 73 dX3_part_72 rfl rfl ?_
      refine tr_icmp_ne g 103 76 dX3_part_73 rfl rfl ?_ ?_
      · refine tr_iinc (lv' := [(10, .int (x10 + 1)), (0, .ref (tn_ad E 2)), (1, .ref (tn_ad E 1)), (2, .int x2), (3, .int x3), (4, .long x4), (6, .int x6), (8, .long x8)]) (x := (x10 + 1)) g 7 106 dX3_part_103 rfl rfl rfl (by decide) rfl ?_
        refine tr_goto g 57 dX3_part_106 rfl ?_
        refine tr_sub [1, 2, 3, 4, 5, 6, 7, 0] (lv' := [(0, .ref (tn_ad E 2)), (1, .ref (tn_ad E 1)), (2, .int x2), (3, .int x3), (4, .long x4), (6, .int x6), (8, .long x8), (10, .int (x10 + 1))]) rfl ?_
        exact ih _ _ _ _ _ _ _
      · refine tr_aload_n g 0 77 dX3_part_76 rfl rfl rfl ?_
        refine gf_X3_0 g wd_140 80 dX3_part_77 rfl ?_
        refine tr_iload_n g 2 81 dX3_part_80 rfl rfl rfl ?_
        refine tr_iload g 7 83 dX3_part_81 rfl rfl ?_
        refine tr_iadd g 84 dX3_part_83 rfl ?_
        refine tr_dup2 g 85 dX3_part_84 rfl rfl rfl ?_
        refine tr_lald (N := 672) g 86 rfl rfl dX3_part_85 rfl ?_
        refine tr_lload g 6 88 dX3_part_86 rfl rfl ?_
        refine tr_aload_n g 1 89 dX3_part_88 rfl rfl rfl ?_
        refine gf_X2_1 g wd_94 92 dX3_part_89 rfl ?_
        refine tr_iload g 7 94 dX3_part_92 rfl rfl ?_
        refine tr_iald (N := 5) g 95 rfl rfl dX3_part_94 rfl ?_
        refine tr_i2l g 96 dX3_part_95 rfl ?_
        refine tr_lmul g 97 dX3_part_96 rfl ?_
        refine tr_iload g 5 99 dX3_part_97 rfl rfl ?_
        refine tr_i2l g 100 dX3_part_99 rfl ?_
        refine tr_lmul g 101 dX3_part_100 rfl ?_
        refine tr_ladd g 102 dX3_part_101 rfl ?_
        refine tr_last (N := 672) g 103 rfl rfl dX3_part_102 rfl (fun σ1 => ?_)
        refine tr_iinc (lv' := [(10, .int (x10 + 1)), (0, .ref (tn_ad E 2)), (1, .ref (tn_ad E 1)), (2, .int x2), (3, .int x3), (4, .long x4), (6, .int x6), (8, .long x8)]) (x := (x10 + 1)) g 7 106 dX3_part_103 rfl rfl rfl (by decide) rfl ?_
        refine tr_goto g 57 dX3_part_106 rfl ?_
        refine tr_sub [1, 2, 3, 4, 5, 6, 7, 0] (lv' := [(0, .ref (tn_ad E 2)), (1, .ref (tn_ad E 1)), (2, .int x2), (3, .int x3), (4, .long x4), (6, .int x6), (8, .long x8), (10, .int (x10 + 1))]) rfl ?_
        exact ih _ _ _ _ _ _ _
set_option maxHeartbeats 4000000 in
set_option maxRecDepth 20000 in
theorem b_X3_part_40 {E : tn_E} {G : tn_G} (g : tn_Ok E G cX3_part RX3 11 (tn_rm 0 0)) (o : tn_Om E G none)  (x2 : Int32) (x3 : Int32) (x4 : Int64) (x6 : Int32) (x7 : Int32) (σ : tn_M) : tn_V E G tn_ve 40 [(0, .ref (tn_ad E 2)), (1, .ref (tn_ad E 1)), (2, .int x2), (3, .int x3), (4, .long x4), (6, .int x6), (7, .int x7)] [] σ (F_X3_part_40 x2 x3 x4 x6 x7 σ) := by
  unfold F_X3_part_40
  refine tr_iload g 6 42 dX3_part_40 rfl rfl ?_
  refine tr_if_ne g 46 45 dX3_part_42 rfl rfl ?_ ?_
  · refine tr_lload g 4 48 dX3_part_46 rfl rfl ?_
    refine tr_iload g 6 50 dX3_part_48 rfl rfl ?_
    refine tr_i2l g 51 dX3_part_50 rfl ?_
    refine tr_ldiv g 52 dX3_part_51 rfl ?_
    refine tr_ltl (fun w1 => ?_)
    refine tr_lstore (lv' := [(8, .long w1), (0, .ref (tn_ad E 2)), (1, .ref (tn_ad E 1)), (2, .int x2), (3, .int x3), (4, .long x4), (6, .int x6), (7, .int x7)]) g 54 dX3_part_52 rfl (by decide) rfl ?_
    refine tr_iconst (v := 0) g 55 dX3_part_54 rfl rfl ?_
    refine tr_istore (lv' := [(10, .int 0), (8, .long w1), (0, .ref (tn_ad E 2)), (1, .ref (tn_ad E 1)), (2, .int x2), (3, .int x3), (4, .long x4), (6, .int x6), (7, .int x7)]) g 57 dX3_part_55 rfl (by decide) rfl ?_
    refine tr_sub [2, 3, 4, 5, 6, 7, 1, 0] (lv' := [(0, .ref (tn_ad E 2)), (1, .ref (tn_ad E 1)), (2, .int x2), (3, .int x3), (4, .long x4), (6, .int x6), (8, .long w1), (10, .int 0)]) rfl ?_
    exact b_X3_part_57 g o  tn_fuel _ _ _ _ _ _ _
  · exact tr_vret g o dX3_part_45
set_option maxHeartbeats 4000000 in
set_option maxRecDepth 20000 in
theorem b_X3_part_6 {E : tn_E} {G : tn_G} (g : tn_Ok E G cX3_part RX3 11 (tn_rm 0 0)) (o : tn_Om E G none)  : ∀ (n : Nat) (x2 : Int32) (x3 : Int32) (x4 : Int64) (x6 : Int32) (x7 : Int32) (x8 : Int32) (σ : tn_M), tn_V E G tn_ve 6 [(0, .ref (tn_ad E 2)), (1, .ref (tn_ad E 1)), (2, .int x2), (3, .int x3), (4, .long x4), (6, .int x6), (7, .int x7), (8, .int x8)] [] σ (F_X3_part_6 n x2 x3 x4 x6 x7 x8 σ) := by
  intro n
  induction n with
  | zero => intros; exact tr_none
  | succ tn_n ih =>
    intro x2 x3 x4 x6 x7 x8 σ
    rw [F_X3_part_6]
    refine tr_iload g 7 8 dX3_part_6 rfl rfl ?_
    refine tr_aload_n g 1 9 dX3_part_8 rfl rfl rfl ?_
    refine gf_X2_5 g wd_105 12 dX3_part_9 rfl ?_
    refine tr_icmp_ge g 40 15 dX3_part_12 rfl rfl ?_ ?_
    · refine tr_sub [0, 1, 2, 3, 4, 5, 6] (lv' := [(0, .ref (tn_ad E 2)), (1, .ref (tn_ad E 1)), (2, .int x2), (3, .int x3), (4, .long x4), (6, .int x6), (7, .int x7)]) rfl ?_
      exact b_X3_part_40 g o  _ _ _ _ _ _
    · refine tr_iload g 6 17 dX3_part_15 rfl rfl ?_
      refine tr_iload_n g 3 18 dX3_part_17 rfl rfl rfl ?_
      refine tr_iload g 7 20 dX3_part_18 rfl rfl ?_
      refine tr_ishr g 21 dX3_part_20 rfl ?_
      refine tr_iconst (v := 1) g 22 dX3_part_21 rfl rfl ?_
      refine tr_iand g 23 dX3_part_22 rfl ?_
      refine tr_aload_n g 1 24 dX3_part_23 rfl rfl rfl ?_
      refine gf_X2_1 g wd_94 27 dX3_part_24 rfl ?_
      refine tr_iload g 7 29 dX3_part_27 rfl rfl ?_
      refine tr_iald (N := 5) g 30 rfl rfl dX3_part_29 rfl ?_
      refine tr_imul g 31 dX3_part_30 rfl ?_
      refine tr_iadd g 32 dX3_part_31 rfl ?_
      refine tr_lti (fun w1 => ?_)
      refine tr_istore (lv' := [(7, .int w1), (0, .ref (tn_ad E 2)), (1, .ref (tn_ad E 1)), (2, .int x2), (3, .int x3), (4, .long x4), (6, .int x6), (8, .int x8)]) g 34 dX3_part_32 rfl (by decide) rfl ?_
      refine tr_iinc (lv' := [(8, .int (x8 + 1)), (7, .int w1), (0, .ref (tn_ad E 2)), (1, .ref (tn_ad E 1)), (2, .int x2), (3, .int x3), (4, .long x4), (6, .int x6)]) (x := (x8 + 1)) g 7 37 dX3_part_34 rfl rfl rfl (by decide) rfl ?_
      refine tr_goto g 6 dX3_part_37 rfl ?_
      refine tr_sub [2, 3, 4, 5, 6, 7, 1, 0] (lv' := [(0, .ref (tn_ad E 2)), (1, .ref (tn_ad E 1)), (2, .int x2), (3, .int x3), (4, .long x4), (6, .int x6), (7, .int w1), (8, .int (x8 + 1))]) rfl ?_
      exact ih _ _ _ _ _ _ _
set_option maxHeartbeats 4000000 in
set_option maxRecDepth 20000 in
theorem b_X3_part {E : tn_E} {G : tn_G} (g : tn_Ok E G cX3_part RX3 11 (tn_rm 0 0)) (o : tn_Om E G none)  (a2 : Int32) (a3 : Int32) (a4 : Int64) (a6 : Int32) (σ : tn_M) : tn_V E G tn_ve 0 [(0, .ref (tn_ad E 2)), (1, .ref (tn_ad E 1)), (2, .int a2), (3, .int a3), (4, .long a4), (6, .int a6)] [] σ (f_X3_part a2 a3 a4 a6 σ) := by
  unfold f_X3_part
  refine tr_iconst (v := 0) g 1 dX3_part_0 rfl rfl ?_
  refine tr_istore (lv' := [(7, .int 0), (0, .ref (tn_ad E 2)), (1, .ref (tn_ad E 1)), (2, .int a2), (3, .int a3), (4, .long a4), (6, .int a6)]) g 3 dX3_part_1 rfl (by decide) rfl ?_
  refine tr_iconst (v := 0) g 4 dX3_part_3 rfl rfl ?_
  refine tr_istore (lv' := [(8, .int 0), (7, .int 0), (0, .ref (tn_ad E 2)), (1, .ref (tn_ad E 1)), (2, .int a2), (3, .int a3), (4, .long a4), (6, .int a6)]) g 6 dX3_part_4 rfl (by decide) rfl ?_
  refine tr_sub [2, 3, 4, 5, 6, 7, 1, 0] (lv' := [(0, .ref (tn_ad E 2)), (1, .ref (tn_ad E 1)), (2, .int a2), (3, .int a3), (4, .long a4), (6, .int a6), (7, .int 0), (8, .int 0)]) rfl ?_
  exact b_X3_part_6 g o  tn_fuel _ _ _ _ _ _ _
theorem ok_X3_part {E : tn_E} {l : Launch}   (a2 : Int32) (a3 : Int32) (a4 : Int64) (a6 : Int32) {σ : tn_M} {r : Unit} {σ' : tn_M} (h : f_X3_part a2 a3 a4 a6 σ = some (r, σ')) : tn_C E l yX3_part cX3_part 11 none (tn_rm 0 0) [.ref (tn_ad E 2), .ref (tn_ad E 1), .int a2, .int a3, .long a4, .int a6] σ (tn_ve r) σ' :=
  tn_met (by decide) (Nat.le_of_ble_eq_true rfl) (fun G _ g o => b_X3_part g o  a2 a3 a4 a6 σ) h
theorem yy_X3_part : tn_Yv RX3 yX3_part cX3_part 11 none 5 := ⟨wd_384, wd_383, wd_13, wd_67, by decide, by decide, by decide +kernel⟩
theorem kv_X3_part {E : tn_E} {G : tn_G} {cc : ByteArray} {own : String} {nL : Nat} {R : Room} {ρ : Type} {enc : ρ → Option Value} {pc : Nat} {lv : List (Nat × Value)} {st : List Value} {σ : tn_M} {kk : Unit → tn_M → Option (ρ × tn_M)} {i : Nat}  {a2 : Int32} {a3 : Int32} {a4 : Int64} {a6 : Int32} (g : tn_Ok E G cc own nL R)  (hw : Cond.methodLink own i yX3_part ∈ tn_T) (hroom : 1 ≤ R.frames ∧ 30 ≤ R.locals) (hW : (st.map fun v => v.category).sum ≤ 8) (n : Nat) (hd : decode cc pc = .ok (.invokevirtual i, 3)) (hn : pc + 3 = n) (k : ∀ r σ1, tn_V E G enc n lv (st) σ1 (kk r σ1)) : tn_V E G enc pc lv (.int a6 :: .long a4 :: .int a3 :: .int a2 :: .ref (tn_ad E 1) :: .ref (tn_ad E 2) :: st) σ (tn_bd (f_X3_part a2 a3 a4 a6 σ) kk) :=
  tr_callV (As := [.ref (tn_ad E 1), .int a2, .int a3, .long a4, .int a6]) (enc1 := tn_ve) g yy_X3_part hw (ci := 3) rfl (by decide) rfl (fun r σ1 h => ok_X3_part  a2 a3 a4 a6 h) ⟨rfl, rfl⟩ ⟨hroom.1, by have h2 := hroom.2; show 8 + (11 + 11) + 0 ≤ R.locals; omega⟩ rfl rfl hW n hd hn k
/-! X3_addBuyers -/
def F_X3_addBuyers_104  (k2 : Nat) (x3 : Int32) (x5 : Int32) (x7 : Int64) (x9 : Int32) (y0 : Int32) (σ : tn_M) : Option (Unit × tn_M) :=
  tn_bd (f_X3_part x5 x3 ((x7 * (Int32.toInt64 y0)) * 16) (σ.1 k2 5) σ) fun _ σ1 =>
  tn_lt (α := Int32) (if x9 = (-1) then 31 else (1 <<< (x9 &&& 31))) fun v2 =>
  tn_bd (f_X3_part x5 v2 ((x7 * (Int32.toInt64 (16 - y0))) * (Int32.toInt64 (σ1.1 k2 4))) (σ1.1 k2 5) σ1) fun _ σ3 =>
  some ((), σ3)
def F_X3_addBuyers_92  (k2 : Nat) (x3 : Int32) (x5 : Int32) (x6 : Int32) (x7 : Int64) (x9 : Int32) (σ : tn_M) : Option (Unit × tn_M) :=
  if x6 = 0 then
    F_X3_addBuyers_104 k2 x3 x5 x7 x9 0 σ
  else
    F_X3_addBuyers_104 k2 x3 x5 x7 x9 (σ.1 k2 3) σ
def f_X3_addBuyers  (k2 : Nat) (a3 : Int32) (a4 : Int32) (σ : tn_M) : Option (Unit × tn_M) :=
  tn_bd (f_X3_rowOf (σ.1 k2 0) a3 σ) fun r2 σ1 =>
  tn_bd (f_J6_bitCount_0f7a4 a3 σ1) fun r4 σ3 =>
  tn_lt (α := Int64) (if r4 = 0 then 16 else (16 + ((Int32.toInt64 a4) * ((Int32.toInt64 r4) - 1)))) fun v5 =>
  tn_lt (α := Int64) (((Int32.toInt64 (σ3.1 k2 1)) * v5) * 360360) fun w6 =>
  if (σ3.1 k2 2) = (-1) then
    F_X3_addBuyers_92 k2 a3 r2 r4 w6 (σ3.1 k2 2) σ3
  else
    if ((a3 >>> ((σ3.1 k2 2) &&& 31)) &&& 1) = 1 then
      tn_bd (f_X3_part r2 (1 <<< ((σ3.1 k2 2) &&& 31)) (w6 * 256) (σ3.1 k2 5) σ3) fun _ σ7 =>
      some ((), σ7)
    else
      F_X3_addBuyers_92 k2 a3 r2 r4 w6 (σ3.1 k2 2) σ3
set_option maxHeartbeats 4000000 in
set_option maxRecDepth 20000 in
theorem b_X3_addBuyers_104 {E : tn_E} {G : tn_G} (g : tn_Ok E G cX3_addBuyers RX3 12 (tn_rm 1 30)) (o : tn_Om E G none) {k2 : Nat} (hk2 : tn_kd k2 = 1) (nk2 : tn_len k2 = 6)  (x3 : Int32) (x5 : Int32) (x7 : Int64) (x9 : Int32) (y0 : Int32) (σ : tn_M) : tn_V E G tn_ve 104 [(0, .ref (tn_ad E 2)), (1, .ref (tn_ad E 1)), (2, .ref (tn_ad E k2)), (3, .int x3), (5, .int x5), (7, .long x7), (9, .int x9)] [.int y0] σ (F_X3_addBuyers_104 k2 x3 x5 x7 x9 y0 σ) := by
  unfold F_X3_addBuyers_104
  refine tr_istore (lv' := [(10, .int y0), (0, .ref (tn_ad E 2)), (1, .ref (tn_ad E 1)), (2, .ref (tn_ad E k2)), (3, .int x3), (5, .int x5), (7, .long x7), (9, .int x9)]) g 106 dX3_addBuyers_104 rfl (by decide) rfl ?_
  refine tr_aload_n g 1 107 dX3_addBuyers_106 rfl rfl rfl ?_
  refine tr_aload_n g 2 108 dX3_addBuyers_107 rfl rfl rfl ?_
  refine tr_iload g 5 110 dX3_addBuyers_108 rfl rfl ?_
  refine tr_iload_n g 4 111 dX3_addBuyers_110 rfl rfl rfl ?_
  refine tr_lload g 6 113 dX3_addBuyers_111 rfl rfl ?_
  refine tr_iload g 0 115 dX3_addBuyers_113 rfl rfl ?_
  refine tr_i2l g 116 dX3_addBuyers_115 rfl ?_
  refine tr_lmul g 117 dX3_addBuyers_116 rfl ?_
  refine tr_ldc2 (v := 16) g wd_378 120 dX3_addBuyers_117 rfl ?_
  refine tr_lmul g 121 dX3_addBuyers_120 rfl ?_
  refine tr_aload_n g 3 122 dX3_addBuyers_121 rfl rfl rfl ?_
  refine tr_iconst (v := 5) g 123 dX3_addBuyers_122 rfl rfl ?_
  refine tr_ialdK (N := 6) g 124 5 hk2 rfl nk2 (by decide) dX3_addBuyers_123 rfl ?_
  refine kv_X3_part g wd_381 ⟨Nat.le_of_ble_eq_true rfl, Nat.le_of_ble_eq_true rfl⟩ (Nat.le_of_ble_eq_true rfl) 127 dX3_addBuyers_124 rfl (fun _ σ1 => ?_)
  refine tr_iload g 7 129 dX3_addBuyers_127 rfl rfl ?_
  refine tr_iconst (v := (-1)) g 130 dX3_addBuyers_129 rfl rfl ?_
  refine tr_icmp_neD (inj := fun z => Value.int z) g 142 138 133 dX3_addBuyers_130 rfl rfl (fun rs hj => ?_) (fun rs hj => ?_) (fun v2 => ?_)
  · refine tr_iconst (v := 1) g 139 dX3_addBuyers_138 rfl rfl ?_
    refine tr_iload g 7 141 dX3_addBuyers_139 rfl rfl ?_
    refine tr_ishl g 142 dX3_addBuyers_141 rfl ?_
    exact hj
  · refine tr_bipush (v := 31) g 135 dX3_addBuyers_133 rfl rfl ?_
    refine tr_goto g 142 dX3_addBuyers_135 rfl ?_
    exact hj
  · refine tr_istore (lv' := [(11, .int v2), (10, .int y0), (0, .ref (tn_ad E 2)), (1, .ref (tn_ad E 1)), (2, .ref (tn_ad E k2)), (3, .int x3), (5, .int x5), (7, .long x7), (9, .int x9)]) g 144 dX3_addBuyers_142 rfl (by decide) rfl ?_
    refine tr_aload_n g 2 145 dX3_addBuyers_144 rfl rfl rfl ?_
    refine tr_aload_n g 3 146 dX3_addBuyers_145 rfl rfl rfl ?_
    refine tr_iload g 6 148 dX3_addBuyers_146 rfl rfl ?_
    refine tr_iload g 0 150 dX3_addBuyers_148 rfl rfl ?_
    refine tr_lload g 7 152 dX3_addBuyers_150 rfl rfl ?_
    refine tr_bipush (v := 16) g 154 dX3_addBuyers_152 rfl rfl ?_
    refine tr_iload g 1 156 dX3_addBuyers_154 rfl rfl ?_
    refine tr_isub g 157 dX3_addBuyers_156 rfl ?_
    refine tr_i2l g 158 dX3_addBuyers_157 rfl ?_
    refine tr_lmul g 159 dX3_addBuyers_158 rfl ?_
    refine tr_aload_n g 4 160 dX3_addBuyers_159 rfl rfl rfl ?_
    refine tr_iconst (v := 4) g 161 dX3_addBuyers_160 rfl rfl ?_
    refine tr_ialdK (N := 6) g 162 4 hk2 rfl nk2 (by decide) dX3_addBuyers_161 rfl ?_
    refine tr_i2l g 163 dX3_addBuyers_162 rfl ?_
    refine tr_lmul g 164 dX3_addBuyers_163 rfl ?_
    refine tr_aload_n g 4 165 dX3_addBuyers_164 rfl rfl rfl ?_
    refine tr_iconst (v := 5) g 166 dX3_addBuyers_165 rfl rfl ?_
    refine tr_ialdK (N := 6) g 167 5 hk2 rfl nk2 (by decide) dX3_addBuyers_166 rfl ?_
    refine kv_X3_part g wd_381 ⟨Nat.le_of_ble_eq_true rfl, Nat.le_of_ble_eq_true rfl⟩ (Nat.le_of_ble_eq_true rfl) 170 dX3_addBuyers_167 rfl (fun _ σ3 => ?_)
    exact tr_vret g o dX3_addBuyers_170
set_option maxHeartbeats 4000000 in
set_option maxRecDepth 20000 in
theorem b_X3_addBuyers_92 {E : tn_E} {G : tn_G} (g : tn_Ok E G cX3_addBuyers RX3 12 (tn_rm 1 30)) (o : tn_Om E G none) {k2 : Nat} (hk2 : tn_kd k2 = 1) (nk2 : tn_len k2 = 6)  (x3 : Int32) (x5 : Int32) (x6 : Int32) (x7 : Int64) (x9 : Int32) (σ : tn_M) : tn_V E G tn_ve 92 [(0, .ref (tn_ad E 2)), (1, .ref (tn_ad E 1)), (2, .ref (tn_ad E k2)), (3, .int x3), (5, .int x5), (6, .int x6), (7, .long x7), (9, .int x9)] [] σ (F_X3_addBuyers_92 k2 x3 x5 x6 x7 x9 σ) := by
  unfold F_X3_addBuyers_92
  refine tr_iload g 5 94 dX3_addBuyers_92 rfl rfl ?_
  refine tr_if_ne g 101 97 dX3_addBuyers_94 rfl rfl ?_ ?_
  · refine tr_aload_n g 2 102 dX3_addBuyers_101 rfl rfl rfl ?_
    refine tr_iconst (v := 3) g 103 dX3_addBuyers_102 rfl rfl ?_
    refine tr_ialdK (N := 6) g 104 3 hk2 rfl nk2 (by decide) dX3_addBuyers_103 rfl ?_
    refine tr_sub [0, 1, 2, 3, 4, 6, 7] (lv' := [(0, .ref (tn_ad E 2)), (1, .ref (tn_ad E 1)), (2, .ref (tn_ad E k2)), (3, .int x3), (5, .int x5), (7, .long x7), (9, .int x9)]) rfl ?_
    exact b_X3_addBuyers_104 g o hk2 nk2 _ _ _ _ _ _
  · refine tr_iconst (v := 0) g 98 dX3_addBuyers_97 rfl rfl ?_
    refine tr_goto g 104 dX3_addBuyers_98 rfl ?_
    refine tr_sub [0, 1, 2, 3, 4, 6, 7] (lv' := [(0, .ref (tn_ad E 2)), (1, .ref (tn_ad E 1)), (2, .ref (tn_ad E k2)), (3, .int x3), (5, .int x5), (7, .long x7), (9, .int x9)]) rfl ?_
    exact b_X3_addBuyers_104 g o hk2 nk2 _ _ _ _ _ _
set_option maxHeartbeats 4000000 in
set_option maxRecDepth 20000 in
theorem b_X3_addBuyers {E : tn_E} {G : tn_G} (g : tn_Ok E G cX3_addBuyers RX3 12 (tn_rm 1 30)) (o : tn_Om E G none) {k2 : Nat} (hk2 : tn_kd k2 = 1) (nk2 : tn_len k2 = 6)  (a3 : Int32) (a4 : Int32) (σ : tn_M) : tn_V E G tn_ve 0 [(0, .ref (tn_ad E 2)), (1, .ref (tn_ad E 1)), (2, .ref (tn_ad E k2)), (3, .int a3), (4, .int a4)] [] σ (f_X3_addBuyers k2 a3 a4 σ) := by
  unfold f_X3_addBuyers
  refine tr_aload_n g 2 1 dX3_addBuyers_0 rfl rfl rfl ?_
  refine tr_iconst (v := 0) g 2 dX3_addBuyers_1 rfl rfl ?_
  refine tr_ialdK (N := 6) g 3 0 hk2 rfl nk2 (by decide) dX3_addBuyers_2 rfl ?_
  refine tr_iload_n g 3 4 dX3_addBuyers_3 rfl rfl rfl ?_
  refine kv_X3_rowOf g wd_369 ⟨Nat.le_of_ble_eq_true rfl, Nat.le_of_ble_eq_true rfl⟩ (Nat.le_of_ble_eq_true rfl) 7 dX3_addBuyers_4 rfl (fun r2 σ1 => ?_)
  refine tr_istore (lv' := [(5, .int r2), (0, .ref (tn_ad E 2)), (1, .ref (tn_ad E 1)), (2, .ref (tn_ad E k2)), (3, .int a3), (4, .int a4)]) g 9 dX3_addBuyers_7 rfl (by decide) rfl ?_
  refine tr_iload_n g 4 10 dX3_addBuyers_9 rfl rfl rfl ?_
  refine kv_J6_bitCount_0f7a4 g wd_372 ⟨Nat.le_of_ble_eq_true rfl, Nat.le_of_ble_eq_true rfl⟩ (Nat.le_of_ble_eq_true rfl) 13 dX3_addBuyers_10 rfl (fun r4 σ3 => ?_)
  refine tr_istore (lv' := [(6, .int r4), (5, .int r2), (0, .ref (tn_ad E 2)), (1, .ref (tn_ad E 1)), (2, .ref (tn_ad E k2)), (3, .int a3), (4, .int a4)]) g 15 dX3_addBuyers_13 rfl (by decide) rfl ?_
  refine tr_aload_n g 4 16 dX3_addBuyers_15 rfl rfl rfl ?_
  refine tr_iconst (v := 1) g 17 dX3_addBuyers_16 rfl rfl ?_
  refine tr_ialdK (N := 6) g 18 1 hk2 rfl nk2 (by decide) dX3_addBuyers_17 rfl ?_
  refine tr_i2l g 19 dX3_addBuyers_18 rfl ?_
  refine tr_iload g 0 21 dX3_addBuyers_19 rfl rfl ?_
  refine tr_if_neD (inj := fun z => Value.long z) g 43 30 24 dX3_addBuyers_21 rfl rfl (fun rs hj => ?_) (fun rs hj => ?_) (fun v5 => ?_)
  · refine tr_ldc2 (v := 16) g wd_378 33 dX3_addBuyers_30 rfl ?_
    refine tr_iload g 6 35 dX3_addBuyers_33 rfl rfl ?_
    refine tr_i2l g 36 dX3_addBuyers_35 rfl ?_
    refine tr_iload g 0 38 dX3_addBuyers_36 rfl rfl ?_
    refine tr_i2l g 39 dX3_addBuyers_38 rfl ?_
    refine tr_lconst (v := 1) g 40 dX3_addBuyers_39 rfl rfl ?_
    refine tr_lsub g 41 dX3_addBuyers_40 rfl ?_
    refine tr_lmul g 42 dX3_addBuyers_41 rfl ?_
    refine tr_ladd g 43 dX3_addBuyers_42 rfl ?_
    exact hj
  · refine tr_ldc2 (v := 16) g wd_378 27 dX3_addBuyers_24 rfl ?_
    refine tr_goto g 43 dX3_addBuyers_27 rfl ?_
    exact hj
  · refine tr_lmul g 44 dX3_addBuyers_43 rfl ?_
    refine tr_ldc2 (v := 360360) g wd_379 47 dX3_addBuyers_44 rfl ?_
    refine tr_lmul g 48 dX3_addBuyers_47 rfl ?_
    refine tr_ltl (fun w6 => ?_)
    refine tr_lstore (lv' := [(7, .long w6), (6, .int r4), (5, .int r2), (0, .ref (tn_ad E 2)), (1, .ref (tn_ad E 1)), (2, .ref (tn_ad E k2)), (3, .int a3), (4, .int a4)]) g 50 dX3_addBuyers_48 rfl (by decide) rfl ?_
    refine tr_aload_n g 5 51 dX3_addBuyers_50 rfl rfl rfl ?_
    refine tr_iconst (v := 2) g 52 dX3_addBuyers_51 rfl rfl ?_
    refine tr_ialdK (N := 6) g 53 2 hk2 rfl nk2 (by decide) dX3_addBuyers_52 rfl ?_
    refine tr_istore (lv' := [(9, .int (σ3.1 k2 2)), (7, .long w6), (6, .int r4), (5, .int r2), (0, .ref (tn_ad E 2)), (1, .ref (tn_ad E 1)), (2, .ref (tn_ad E k2)), (3, .int a3), (4, .int a4)]) g 55 dX3_addBuyers_53 rfl (by decide) rfl ?_
    refine tr_iload g 0 57 dX3_addBuyers_55 rfl rfl ?_
    refine tr_iconst (v := (-1)) g 58 dX3_addBuyers_57 rfl rfl ?_
    refine tr_icmp_eq g 92 61 dX3_addBuyers_58 rfl rfl ?_ ?_
    · refine tr_sub [4, 5, 6, 7, 3, 2, 1, 0] (lv' := [(0, .ref (tn_ad E 2)), (1, .ref (tn_ad E 1)), (2, .ref (tn_ad E k2)), (3, .int a3), (5, .int r2), (6, .int r4), (7, .long w6), (9, .int (σ3.1 k2 2))]) rfl ?_
      exact b_X3_addBuyers_92 g o hk2 nk2 _ _ _ _ _ _
    · refine tr_iload_n g 7 62 dX3_addBuyers_61 rfl rfl rfl ?_
      refine tr_iload g 0 64 dX3_addBuyers_62 rfl rfl ?_
      refine tr_ishr g 65 dX3_addBuyers_64 rfl ?_
      refine tr_iconst (v := 1) g 66 dX3_addBuyers_65 rfl rfl ?_
      refine tr_iand g 67 dX3_addBuyers_66 rfl ?_
      refine tr_iconst (v := 1) g 68 dX3_addBuyers_67 rfl rfl ?_
      refine tr_icmp_ne g 92 71 dX3_addBuyers_68 rfl rfl ?_ ?_
      · refine tr_sub [4, 5, 6, 7, 3, 2, 1, 0] (lv' := [(0, .ref (tn_ad E 2)), (1, .ref (tn_ad E 1)), (2, .ref (tn_ad E k2)), (3, .int a3), (5, .int r2), (6, .int r4), (7, .long w6), (9, .int (σ3.1 k2 2))]) rfl ?_
        exact b_X3_addBuyers_92 g o hk2 nk2 _ _ _ _ _ _
      · refine tr_aload_n g 4 72 dX3_addBuyers_71 rfl rfl rfl ?_
        refine tr_aload_n g 5 73 dX3_addBuyers_72 rfl rfl rfl ?_
        refine tr_iload g 3 75 dX3_addBuyers_73 rfl rfl ?_
        refine tr_iconst (v := 1) g 76 dX3_addBuyers_75 rfl rfl ?_
        refine tr_iload g 0 78 dX3_addBuyers_76 rfl rfl ?_
        refine tr_ishl g 79 dX3_addBuyers_78 rfl ?_
        refine tr_lload g 1 81 dX3_addBuyers_79 rfl rfl ?_
        refine tr_ldc2 (v := 256) g wd_380 84 dX3_addBuyers_81 rfl ?_
        refine tr_lmul g 85 dX3_addBuyers_84 rfl ?_
        refine tr_aload_n g 6 86 dX3_addBuyers_85 rfl rfl rfl ?_
        refine tr_iconst (v := 5) g 87 dX3_addBuyers_86 rfl rfl ?_
        refine tr_ialdK (N := 6) g 88 5 hk2 rfl nk2 (by decide) dX3_addBuyers_87 rfl ?_
        refine kv_X3_part g wd_381 ⟨Nat.le_of_ble_eq_true rfl, Nat.le_of_ble_eq_true rfl⟩ (Nat.le_of_ble_eq_true rfl) 91 dX3_addBuyers_88 rfl (fun _ σ7 => ?_)
        exact tr_vret g o dX3_addBuyers_91
theorem ok_X3_addBuyers {E : tn_E} {l : Launch} {k2 : Nat} (hk2 : tn_kd k2 = 1) (nk2 : tn_len k2 = 6) (a3 : Int32) (a4 : Int32) {σ : tn_M} {r : Unit} {σ' : tn_M} (h : f_X3_addBuyers k2 a3 a4 σ = some (r, σ')) : tn_C E l yX3_addBuyers cX3_addBuyers 12 none (tn_rm 1 30) [.ref (tn_ad E 2), .ref (tn_ad E 1), .ref (tn_ad E k2), .int a3, .int a4] σ (tn_ve r) σ' :=
  tn_met (by decide) (Nat.le_of_ble_eq_true rfl) (fun G _ g o => b_X3_addBuyers g o hk2 nk2 a3 a4 σ) h
theorem yy_X3_addBuyers : tn_Yv RX3 yX3_addBuyers cX3_addBuyers 12 none 4 := ⟨wd_368, wd_367, wd_12, wd_67, by decide, by decide, by decide +kernel⟩
theorem kv_X3_addBuyers {E : tn_E} {G : tn_G} {cc : ByteArray} {own : String} {nL : Nat} {R : Room} {ρ : Type} {enc : ρ → Option Value} {pc : Nat} {lv : List (Nat × Value)} {st : List Value} {σ : tn_M} {kk : Unit → tn_M → Option (ρ × tn_M)} {i : Nat} {k2 : Nat} {a3 : Int32} {a4 : Int32} (g : tn_Ok E G cc own nL R) (hk2 : tn_kd k2 = 1) (nk2 : tn_len k2 = 6) (hw : Cond.methodLink own i yX3_addBuyers ∈ tn_T) (hroom : 2 ≤ R.frames ∧ 61 ≤ R.locals) (hW : (st.map fun v => v.category).sum ≤ 8) (n : Nat) (hd : decode cc pc = .ok (.invokevirtual i, 3)) (hn : pc + 3 = n) (k : ∀ r σ1, tn_V E G enc n lv (st) σ1 (kk r σ1)) : tn_V E G enc pc lv (.int a4 :: .int a3 :: .ref (tn_ad E k2) :: .ref (tn_ad E 1) :: .ref (tn_ad E 2) :: st) σ (tn_bd (f_X3_addBuyers k2 a3 a4 σ) kk) :=
  tr_callV (As := [.ref (tn_ad E 1), .ref (tn_ad E k2), .int a3, .int a4]) (enc1 := tn_ve) g yy_X3_addBuyers hw (ci := 3) rfl (by decide) rfl (fun r σ1 h => ok_X3_addBuyers hk2 nk2 a3 a4 h) ⟨rfl, rfl⟩ ⟨hroom.1, by have h2 := hroom.2; show 8 + (12 + 11) + 30 ≤ R.locals; omega⟩ rfl rfl hW n hd hn k
/-! X3_fill -/
def F_X3_fill_35 (c23 : Int32 → Int32 → Int32 → tn_M → Option (Unit × tn_M)) : Nat → Int32 → Int32 → Int32 → Int32 → tn_M → Option (Unit × tn_M)
  | 0, _, _, _, _, _ => none
  | tn_n + 1, x2, x3, x4, x5, σ => 
    if x3 ≤ x5 then
      c23 x2 x3 (x4 + 1) σ
    else
      tn_ck x4 6 <|
      tn_bd (f_X3_addBuyers (12 + 1 + tn_x x4) x5 x2 σ) fun _ σ2 =>
      F_X3_fill_35 c23 tn_n x2 x3 x4 (x5 + 1) σ2
def F_X3_fill_23  : Nat → Int32 → Int32 → Int32 → tn_M → Option (Unit × tn_M)
  | 0, _, _, _, _ => none
  | tn_n + 1, x2, x3, x4, σ => 
    if (σ.1 1 6) ≤ x4 then
      some ((), σ)
    else
      F_X3_fill_35 (fun z0 z1 z2 zs => F_X3_fill_23 tn_n z0 z1 z2 zs) tn_fuel x2 x3 x4 0 σ
def f_X3_fill  (a2 : Int32) (σ : tn_M) : Option (Unit × tn_M) :=
  tn_lt (tn_si σ 2 1 0) fun σ1 =>
  tn_bd (f_J7_fill_d0a16 0 σ1) fun _ σ2 =>
  tn_lt (α := Int32) (1 <<< ((σ2.1 1 5) &&& 31)) fun w3 =>
  F_X3_fill_23 tn_fuel a2 w3 0 σ2
set_option maxHeartbeats 4000000 in
set_option maxRecDepth 20000 in
theorem b_X3_fill_35 {E : tn_E} {G : tn_G} (g : tn_Ok E G cX3_fill RX3 6 (tn_rm 2 61)) (o : tn_Om E G none) (c23 : Int32 → Int32 → Int32 → tn_M → Option (Unit × tn_M)) (hc23 : ∀ (x2 : Int32) (x3 : Int32) (x4 : Int32) (σ : tn_M), tn_V E G tn_ve 23 [(0, .ref (tn_ad E 2)), (1, .ref (tn_ad E 1)), (2, .int x2), (3, .int x3), (4, .int x4)] [] σ (c23 x2 x3 x4 σ)) : ∀ (n : Nat) (x2 : Int32) (x3 : Int32) (x4 : Int32) (x5 : Int32) (σ : tn_M), tn_V E G tn_ve 35 [(0, .ref (tn_ad E 2)), (1, .ref (tn_ad E 1)), (2, .int x2), (3, .int x3), (4, .int x4), (5, .int x5)] [] σ (F_X3_fill_35 c23 n x2 x3 x4 x5 σ) := by
  intro n
  induction n with
  | zero => intros; exact tr_none
  | succ tn_n ih =>
    intro x2 x3 x4 x5 σ
    rw [F_X3_fill_35]
    refine tr_iload g 5 37 dX3_fill_35 rfl rfl ?_
    refine tr_iload_n g 3 38 dX3_fill_37 rfl rfl rfl ?_
    refine tr_icmp_ge g 62 41 dX3_fill_38 rfl rfl ?_ ?_
    · refine tr_iinc (lv' := [(4, .int (x4 + 1)), (0, .ref (tn_ad E 2)), (1, .ref (tn_ad E 1)), (2, .int x2), (3, .int x3), (5, .int x5)]) (x := (x4 + 1)) g 4 65 dX3_fill_62 rfl rfl rfl (by decide) rfl ?_
      refine tr_goto g 23 dX3_fill_65 rfl ?_
      refine tr_sub [1, 2, 3, 4, 0] (lv' := [(0, .ref (tn_ad E 2)), (1, .ref (tn_ad E 1)), (2, .int x2), (3, .int x3), (4, .int (x4 + 1))]) rfl ?_
      exact hc23 _ _ _ _
    · refine tr_aload_n g 0 42 dX3_fill_41 rfl rfl rfl ?_
      refine tr_aload_n g 1 43 dX3_fill_42 rfl rfl rfl ?_
      refine tr_aload_n g 1 44 dX3_fill_43 rfl rfl rfl ?_
      refine gf_X2_3 g wd_100 47 dX3_fill_44 rfl ?_
      refine tr_iload g 4 49 dX3_fill_47 rfl rfl ?_
      refine tr_aald (N := 6) g 50 rfl rfl dX3_fill_49 rfl (fun h1 => ?_)
      refine tr_iload g 5 52 dX3_fill_50 rfl rfl ?_
      refine tr_iload_n g 2 53 dX3_fill_52 rfl rfl rfl ?_
      refine kv_X3_addBuyers g (tn_rowB h1).1 (tn_rowB h1).2 wd_365 ⟨Nat.le_of_ble_eq_true rfl, Nat.le_of_ble_eq_true rfl⟩ (Nat.le_of_ble_eq_true rfl) 56 dX3_fill_53 rfl (fun _ σ2 => ?_)
      refine tr_iinc (lv' := [(5, .int (x5 + 1)), (0, .ref (tn_ad E 2)), (1, .ref (tn_ad E 1)), (2, .int x2), (3, .int x3), (4, .int x4)]) (x := (x5 + 1)) g 5 59 dX3_fill_56 rfl rfl rfl (by decide) rfl ?_
      refine tr_goto g 35 dX3_fill_59 rfl ?_
      refine tr_sub [1, 2, 3, 4, 5, 0] (lv' := [(0, .ref (tn_ad E 2)), (1, .ref (tn_ad E 1)), (2, .int x2), (3, .int x3), (4, .int x4), (5, .int (x5 + 1))]) rfl ?_
      exact ih _ _ _ _ _
set_option maxHeartbeats 4000000 in
set_option maxRecDepth 20000 in
theorem b_X3_fill_23 {E : tn_E} {G : tn_G} (g : tn_Ok E G cX3_fill RX3 6 (tn_rm 2 61)) (o : tn_Om E G none)  : ∀ (n : Nat) (x2 : Int32) (x3 : Int32) (x4 : Int32) (σ : tn_M), tn_V E G tn_ve 23 [(0, .ref (tn_ad E 2)), (1, .ref (tn_ad E 1)), (2, .int x2), (3, .int x3), (4, .int x4)] [] σ (F_X3_fill_23 n x2 x3 x4 σ) := by
  intro n
  induction n with
  | zero => intros; exact tr_none
  | succ tn_n ih =>
    intro x2 x3 x4 σ
    rw [F_X3_fill_23]
    refine tr_iload g 4 25 dX3_fill_23 rfl rfl ?_
    refine tr_aload_n g 1 26 dX3_fill_25 rfl rfl rfl ?_
    refine gf_X2_6 g wd_108 29 dX3_fill_26 rfl ?_
    refine tr_icmp_ge g 68 32 dX3_fill_29 rfl rfl ?_ ?_
    · exact tr_vret g o dX3_fill_68
    · refine tr_iconst (v := 0) g 33 dX3_fill_32 rfl rfl ?_
      refine tr_istore (lv' := [(5, .int 0), (0, .ref (tn_ad E 2)), (1, .ref (tn_ad E 1)), (2, .int x2), (3, .int x3), (4, .int x4)]) g 35 dX3_fill_33 rfl (by decide) rfl ?_
      refine tr_sub [1, 2, 3, 4, 5, 0] (lv' := [(0, .ref (tn_ad E 2)), (1, .ref (tn_ad E 1)), (2, .int x2), (3, .int x3), (4, .int x4), (5, .int 0)]) rfl ?_
      exact b_X3_fill_35 g o (fun z0 z1 z2 zs => F_X3_fill_23 tn_n z0 z1 z2 zs) (fun z0 z1 z2 zs => ih z0 z1 z2 zs) tn_fuel _ _ _ _ _
set_option maxHeartbeats 4000000 in
set_option maxRecDepth 20000 in
theorem b_X3_fill {E : tn_E} {G : tn_G} (g : tn_Ok E G cX3_fill RX3 6 (tn_rm 2 61)) (o : tn_Om E G none)  (a2 : Int32) (σ : tn_M) : tn_V E G tn_ve 0 [(0, .ref (tn_ad E 2)), (1, .ref (tn_ad E 1)), (2, .int a2)] [] σ (f_X3_fill a2 σ) := by
  unfold f_X3_fill
  refine tr_aload_n g 0 1 dX3_fill_0 rfl rfl rfl ?_
  refine tr_iconst (v := 0) g 2 dX3_fill_1 rfl rfl ?_
  refine pf_X3_1 g wd_143 rfl rfl 5 dX3_fill_2 rfl (fun σ1 => ?_)
  refine tr_aload_n g 0 6 dX3_fill_5 rfl rfl rfl ?_
  refine gf_X3_0 g wd_140 9 dX3_fill_6 rfl ?_
  refine tr_lconst (v := 0) g 10 dX3_fill_9 rfl rfl ?_
  refine kv_J7_fill_d0a16 g wd_362 ⟨Nat.le_of_ble_eq_true rfl, Nat.le_of_ble_eq_true rfl⟩ (Nat.le_of_ble_eq_true rfl) 13 dX3_fill_10 rfl (fun _ σ2 => ?_)
  refine tr_iconst (v := 1) g 14 dX3_fill_13 rfl rfl ?_
  refine tr_aload_n g 1 15 dX3_fill_14 rfl rfl rfl ?_
  refine gf_X2_5 g wd_105 18 dX3_fill_15 rfl ?_
  refine tr_ishl g 19 dX3_fill_18 rfl ?_
  refine tr_lti (fun w3 => ?_)
  refine tr_istore_n (lv' := [(3, .int w3), (0, .ref (tn_ad E 2)), (1, .ref (tn_ad E 1)), (2, .int a2)]) g 20 dX3_fill_19 rfl rfl (by decide) rfl ?_
  refine tr_iconst (v := 0) g 21 dX3_fill_20 rfl rfl ?_
  refine tr_istore (lv' := [(4, .int 0), (3, .int w3), (0, .ref (tn_ad E 2)), (1, .ref (tn_ad E 1)), (2, .int a2)]) g 23 dX3_fill_21 rfl (by decide) rfl ?_
  refine tr_sub [2, 3, 4, 1, 0] (lv' := [(0, .ref (tn_ad E 2)), (1, .ref (tn_ad E 1)), (2, .int a2), (3, .int w3), (4, .int 0)]) rfl ?_
  exact b_X3_fill_23 g o  tn_fuel _ _ _ _
theorem ok_X3_fill {E : tn_E} {l : Launch}   (a2 : Int32) {σ : tn_M} {r : Unit} {σ' : tn_M} (h : f_X3_fill a2 σ = some (r, σ')) : tn_C E l yX3_fill cX3_fill 6 none (tn_rm 2 61) [.ref (tn_ad E 2), .ref (tn_ad E 1), .int a2] σ (tn_ve r) σ' :=
  tn_met (by decide) (Nat.le_of_ble_eq_true rfl) (fun G _ g o => b_X3_fill g o  a2 σ) h
theorem yy_X3_fill : tn_Yv RX3 yX3_fill cX3_fill 6 none 2 := ⟨wd_361, wd_359, wd_360, wd_67, by decide, by decide, by decide +kernel⟩
theorem kv_X3_fill {E : tn_E} {G : tn_G} {cc : ByteArray} {own : String} {nL : Nat} {R : Room} {ρ : Type} {enc : ρ → Option Value} {pc : Nat} {lv : List (Nat × Value)} {st : List Value} {σ : tn_M} {kk : Unit → tn_M → Option (ρ × tn_M)} {i : Nat}  {a2 : Int32} (g : tn_Ok E G cc own nL R)  (hw : Cond.methodLink own i yX3_fill ∈ tn_T) (hroom : 3 ≤ R.frames ∧ 86 ≤ R.locals) (hW : (st.map fun v => v.category).sum ≤ 8) (n : Nat) (hd : decode cc pc = .ok (.invokevirtual i, 3)) (hn : pc + 3 = n) (k : ∀ r σ1, tn_V E G enc n lv (st) σ1 (kk r σ1)) : tn_V E G enc pc lv (.int a2 :: .ref (tn_ad E 1) :: .ref (tn_ad E 2) :: st) σ (tn_bd (f_X3_fill a2 σ) kk) :=
  tr_callV (As := [.ref (tn_ad E 1), .int a2]) (enc1 := tn_ve) g yy_X3_fill hw (ci := 3) rfl (by decide) rfl (fun r σ1 h => ok_X3_fill  a2 h) ⟨rfl, rfl⟩ ⟨hroom.1, by have h2 := hroom.2; show 8 + (6 + 11) + 61 ≤ R.locals; omega⟩ rfl rfl hW n hd hn k

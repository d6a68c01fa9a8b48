theorem tr_slen {E : tn_E} {G : tn_G} {cc : ByteArray} {own : String} {nL : Nat} {R : Room} {ρ : Type} {enc : ρ → Option Value} {pc : Nat} {lv : List (Nat × Value)} {st : List Value} {σ : tn_M} {res : Option (ρ × tn_M)} (g : tn_Ok E G cc own nL R) {b L : Nat} {xs : Nat → Int32} (hX : va_X b L xs (tg_s G) (tg_s G).heap) (hbl : b < (tg_s G).heap.size) (hbA : ¬ tg_A G b) (n : Nat) (hd : decode cc pc = .ok (.arraylength, 1)) (hn : pc + 1 = n) (k : tn_V E G enc n lv (.int (Int32.ofNat L) :: st) σ res) : tn_V E G enc pc lv (.ref b :: st) σ res := by
  subst hn
  intro H locs ls hP hS hl r σ' hr
  exact va_slen g.ex g.by hX hbl hbA hS hd (k H locs ls hP hS hl r σ' hr)
theorem tr_sld {E : tn_E} {G : tn_G} {cc : ByteArray} {own : String} {nL : Nat} {R : Room} {ρ : Type} {enc : ρ → Option Value} {pc : Nat} {lv : List (Nat × Value)} {st : List Value} {σ : tn_M} {res : Option (ρ × tn_M)} (g : tn_Ok E G cc own nL R) {b L : Nat} {xs : Nat → Int32} (hX : va_X b L xs (tg_s G) (tg_s G).heap) (hbl : b < (tg_s G).heap.size) (hbA : ¬ tg_A G b) {i : Int32} (n : Nat) (hd : decode cc pc = .ok (.iaload, 1)) (hn : pc + 1 = n) (k : tn_V E G enc n lv (.int (xs (tn_x i)) :: st) σ res) : tn_V E G enc pc lv (.int i :: .ref b :: st) σ (tn_ck i L res) := by
  subst hn
  intro H locs ls hP hS hl r σ' hr
  unfold tn_ck at hr
  by_cases h : i < 0 ∨ L ≤ i.toNatClampNeg
  · rw [if_pos h] at hr; cases hr
  · rw [if_neg h] at hr
    exact va_sld g.ex g.by hX hbl hbA hS h hd (k H locs ls hP hS hl r σ' hr)
def F_L_law_1112 (xs : Nat → Int32) (L : Nat) (c18 : Int32 → tn_M → Option (Unit × tn_M)) (x3 : Int32) (σ : tn_M) : Option (Unit × tn_M) :=
  tn_bd (f_X4_digest σ) fun r2 σ1 =>
  tn_bd (f_X5_digest σ1) fun r4 σ3 =>
  if r2 = r4 then
    c18 (x3 + 6) σ3
  else
    none
set_option maxHeartbeats 8000000 in
set_option maxRecDepth 50000 in
theorem b_L_law_1112 {E : tn_E} {G : tn_G} (g : tn_Ok E G cL_law RL 4 room_1) {b L : Nat} {xs : Nat → Int32} (hX : va_X b L xs (tg_s G) (tg_s G).heap) (hbl : b < (tg_s G).heap.size) (hbA : ¬ tg_A G b) (hE : ∀ (pc : Nat) (lv : List (Nat × Value)) (σ : tn_M), decode cL_law pc = .ok (.ireturn, 1) → tn_V E G (fun _ : Unit => none) pc lv [.int 1] σ (some ((), σ))) (c18 : Int32 → tn_M → Option (Unit × tn_M)) (hc18 : ∀ (x3 : Int32) (σ : tn_M), tn_V E G (fun _ : Unit => none) 18 [(0, .ref b), (1, .ref (tn_ad E 0)), (2, .ref (tn_ad E 5)), (3, .int x3)] [] σ (c18 x3 σ)) (x3 : Int32) (σ : tn_M) : tn_V E G (fun _ : Unit => none) 1112 [(0, .ref b), (1, .ref (tn_ad E 0)), (2, .ref (tn_ad E 5)), (3, .int x3)] [] σ (F_L_law_1112 xs L c18 x3 σ) := by
  unfold F_L_law_1112
  refine tr_aload_n g 1 1113 dL_law_1112 rfl rfl rfl ?_
  refine kv_X4_digest g wd_682 ⟨Nat.le_of_ble_eq_true rfl, Nat.le_of_ble_eq_true rfl⟩ (Nat.le_of_ble_eq_true rfl) 1116 dL_law_1113 rfl (fun r2 σ1 => ?_)
  refine tr_aload_n g 2 1117 dL_law_1116 rfl rfl rfl ?_
  refine kv_X5_digest g wd_1115 ⟨Nat.le_of_ble_eq_true rfl, Nat.le_of_ble_eq_true rfl⟩ (Nat.le_of_ble_eq_true rfl) 1120 dL_law_1117 rfl (fun r4 σ3 => ?_)
  refine tr_leq g 1126 1124 dL_law_1120 dL_law_1121 rfl rfl ?_ ?_
  · refine tr_iinc (lv' := [(3, .int (x3 + 6)), (0, .ref b), (1, .ref (tn_ad E 0)), (2, .ref (tn_ad E 5))]) (x := (x3 + 6)) g 3 1129 dL_law_1126 rfl rfl rfl (by decide) rfl ?_
    refine tr_goto g 18 dL_law_1129 rfl ?_
    refine tr_sub [1, 2, 3, 0] (lv' := [(0, .ref b), (1, .ref (tn_ad E 0)), (2, .ref (tn_ad E 5)), (3, .int (x3 + 6))]) rfl ?_
    exact hc18 _ _
  · refine tr_iconst (v := 0) g 1125 dL_law_1124 rfl rfl ?_
    exact tr_none
def F_L_law_1089 (xs : Nat → Int32) (L : Nat) (c18 : Int32 → tn_M → Option (Unit × tn_M)) (x3 : Int32) (σ : tn_M) : Option (Unit × tn_M) :=
  tn_ck (x3 + 1) L <|
  tn_bd (f_X4_count (xs (tn_x (x3 + 1))) σ) fun r2 σ1 =>
  tn_ck (x3 + 1) L <|
  tn_bd (f_X5_count (xs (tn_x (x3 + 1))) σ1) fun r4 σ3 =>
  if r2 = r4 then
    c18 (x3 + 6) σ3
  else
    none
set_option maxHeartbeats 8000000 in
set_option maxRecDepth 50000 in
theorem b_L_law_1089 {E : tn_E} {G : tn_G} (g : tn_Ok E G cL_law RL 4 room_1) {b L : Nat} {xs : Nat → Int32} (hX : va_X b L xs (tg_s G) (tg_s G).heap) (hbl : b < (tg_s G).heap.size) (hbA : ¬ tg_A G b) (hE : ∀ (pc : Nat) (lv : List (Nat × Value)) (σ : tn_M), decode cL_law pc = .ok (.ireturn, 1) → tn_V E G (fun _ : Unit => none) pc lv [.int 1] σ (some ((), σ))) (c18 : Int32 → tn_M → Option (Unit × tn_M)) (hc18 : ∀ (x3 : Int32) (σ : tn_M), tn_V E G (fun _ : Unit => none) 18 [(0, .ref b), (1, .ref (tn_ad E 0)), (2, .ref (tn_ad E 5)), (3, .int x3)] [] σ (c18 x3 σ)) (x3 : Int32) (σ : tn_M) : tn_V E G (fun _ : Unit => none) 1089 [(0, .ref b), (1, .ref (tn_ad E 0)), (2, .ref (tn_ad E 5)), (3, .int x3)] [] σ (F_L_law_1089 xs L c18 x3 σ) := by
  unfold F_L_law_1089
  refine tr_aload_n g 1 1090 dL_law_1089 rfl rfl rfl ?_
  refine tr_aload_n g 0 1091 dL_law_1090 rfl rfl rfl ?_
  refine tr_iload_n g 3 1092 dL_law_1091 rfl rfl rfl ?_
  refine tr_iconst (v := 1) g 1093 dL_law_1092 rfl rfl ?_
  refine tr_iadd g 1094 dL_law_1093 rfl ?_
  refine tr_sld g hX hbl hbA 1095 dL_law_1094 rfl ?_
  refine kv_X4_count g wd_671 ⟨Nat.le_of_ble_eq_true rfl, Nat.le_of_ble_eq_true rfl⟩ (Nat.le_of_ble_eq_true rfl) 1098 dL_law_1095 rfl (fun r2 σ1 => ?_)
  refine tr_aload_n g 2 1099 dL_law_1098 rfl rfl rfl ?_
  refine tr_aload_n g 0 1100 dL_law_1099 rfl rfl rfl ?_
  refine tr_iload_n g 3 1101 dL_law_1100 rfl rfl rfl ?_
  refine tr_iconst (v := 1) g 1102 dL_law_1101 rfl rfl ?_
  refine tr_iadd g 1103 dL_law_1102 rfl ?_
  refine tr_sld g hX hbl hbA 1104 dL_law_1103 rfl ?_
  refine kv_X5_count g wd_1111 ⟨Nat.le_of_ble_eq_true rfl, Nat.le_of_ble_eq_true rfl⟩ (Nat.le_of_ble_eq_true rfl) 1107 dL_law_1104 rfl (fun r4 σ3 => ?_)
  refine tr_icmp_eq g 1126 1110 dL_law_1107 rfl rfl ?_ ?_
  · refine tr_iinc (lv' := [(3, .int (x3 + 6)), (0, .ref b), (1, .ref (tn_ad E 0)), (2, .ref (tn_ad E 5))]) (x := (x3 + 6)) g 3 1129 dL_law_1126 rfl rfl rfl (by decide) rfl ?_
    refine tr_goto g 18 dL_law_1129 rfl ?_
    refine tr_sub [1, 2, 3, 0] (lv' := [(0, .ref b), (1, .ref (tn_ad E 0)), (2, .ref (tn_ad E 5)), (3, .int (x3 + 6))]) rfl ?_
    exact hc18 _ _
  · refine tr_iconst (v := 0) g 1111 dL_law_1110 rfl rfl ?_
    exact tr_none
def F_L_law_1066 (xs : Nat → Int32) (L : Nat) (c18 : Int32 → tn_M → Option (Unit × tn_M)) (x3 : Int32) (σ : tn_M) : Option (Unit × tn_M) :=
  tn_ck (x3 + 1) L <|
  tn_bd (f_X4_write (xs (tn_x (x3 + 1))) σ) fun r2 σ1 =>
  tn_ck (x3 + 1) L <|
  tn_bd (f_X5_write (xs (tn_x (x3 + 1))) σ1) fun r4 σ3 =>
  if r2 = r4 then
    c18 (x3 + 6) σ3
  else
    none
set_option maxHeartbeats 8000000 in
set_option maxRecDepth 50000 in
theorem b_L_law_1066 {E : tn_E} {G : tn_G} (g : tn_Ok E G cL_law RL 4 room_1) {b L : Nat} {xs : Nat → Int32} (hX : va_X b L xs (tg_s G) (tg_s G).heap) (hbl : b < (tg_s G).heap.size) (hbA : ¬ tg_A G b) (hE : ∀ (pc : Nat) (lv : List (Nat × Value)) (σ : tn_M), decode cL_law pc = .ok (.ireturn, 1) → tn_V E G (fun _ : Unit => none) pc lv [.int 1] σ (some ((), σ))) (c18 : Int32 → tn_M → Option (Unit × tn_M)) (hc18 : ∀ (x3 : Int32) (σ : tn_M), tn_V E G (fun _ : Unit => none) 18 [(0, .ref b), (1, .ref (tn_ad E 0)), (2, .ref (tn_ad E 5)), (3, .int x3)] [] σ (c18 x3 σ)) (x3 : Int32) (σ : tn_M) : tn_V E G (fun _ : Unit => none) 1066 [(0, .ref b), (1, .ref (tn_ad E 0)), (2, .ref (tn_ad E 5)), (3, .int x3)] [] σ (F_L_law_1066 xs L c18 x3 σ) := by
  unfold F_L_law_1066
  refine tr_aload_n g 1 1067 dL_law_1066 rfl rfl rfl ?_
  refine tr_aload_n g 0 1068 dL_law_1067 rfl rfl rfl ?_
  refine tr_iload_n g 3 1069 dL_law_1068 rfl rfl rfl ?_
  refine tr_iconst (v := 1) g 1070 dL_law_1069 rfl rfl ?_
  refine tr_iadd g 1071 dL_law_1070 rfl ?_
  refine tr_sld g hX hbl hbA 1072 dL_law_1071 rfl ?_
  refine kv_X4_write g wd_667 ⟨Nat.le_of_ble_eq_true rfl, Nat.le_of_ble_eq_true rfl⟩ (Nat.le_of_ble_eq_true rfl) 1075 dL_law_1072 rfl (fun r2 σ1 => ?_)
  refine tr_aload_n g 2 1076 dL_law_1075 rfl rfl rfl ?_
  refine tr_aload_n g 0 1077 dL_law_1076 rfl rfl rfl ?_
  refine tr_iload_n g 3 1078 dL_law_1077 rfl rfl rfl ?_
  refine tr_iconst (v := 1) g 1079 dL_law_1078 rfl rfl ?_
  refine tr_iadd g 1080 dL_law_1079 rfl ?_
  refine tr_sld g hX hbl hbA 1081 dL_law_1080 rfl ?_
  refine kv_X5_write g wd_1107 ⟨Nat.le_of_ble_eq_true rfl, Nat.le_of_ble_eq_true rfl⟩ (Nat.le_of_ble_eq_true rfl) 1084 dL_law_1081 rfl (fun r4 σ3 => ?_)
  refine tr_icmp_eq g 1126 1087 dL_law_1084 rfl rfl ?_ ?_
  · refine tr_iinc (lv' := [(3, .int (x3 + 6)), (0, .ref b), (1, .ref (tn_ad E 0)), (2, .ref (tn_ad E 5))]) (x := (x3 + 6)) g 3 1129 dL_law_1126 rfl rfl rfl (by decide) rfl ?_
    refine tr_goto g 18 dL_law_1129 rfl ?_
    refine tr_sub [1, 2, 3, 0] (lv' := [(0, .ref b), (1, .ref (tn_ad E 0)), (2, .ref (tn_ad E 5)), (3, .int (x3 + 6))]) rfl ?_
    exact hc18 _ _
  · refine tr_iconst (v := 0) g 1088 dL_law_1087 rfl rfl ?_
    exact tr_none
def F_L_law_1003 (xs : Nat → Int32) (L : Nat) (c18 : Int32 → tn_M → Option (Unit × tn_M)) (x3 : Int32) (σ : tn_M) : Option (Unit × tn_M) :=
  tn_ck (x3 + 1) L <|
  tn_ck (x3 + 2) L <|
  tn_ck (x3 + 3) L <|
  tn_ck (x3 + 4) L <|
  tn_ck (x3 + 5) L <|
  tn_bd (f_X4_copy (xs (tn_x (x3 + 1))) (xs (tn_x (x3 + 2))) (xs (tn_x (x3 + 3))) (xs (tn_x (x3 + 4))) (xs (tn_x (x3 + 5))) σ) fun r2 σ1 =>
  tn_ck (x3 + 1) L <|
  tn_ck (x3 + 2) L <|
  tn_ck (x3 + 3) L <|
  tn_ck (x3 + 4) L <|
  tn_ck (x3 + 5) L <|
  tn_bd (f_X5_copy (xs (tn_x (x3 + 1))) (xs (tn_x (x3 + 2))) (xs (tn_x (x3 + 3))) (xs (tn_x (x3 + 4))) (xs (tn_x (x3 + 5))) σ1) fun r4 σ3 =>
  if r2 = r4 then
    c18 (x3 + 6) σ3
  else
    none
set_option maxHeartbeats 8000000 in
set_option maxRecDepth 50000 in
theorem b_L_law_1003 {E : tn_E} {G : tn_G} (g : tn_Ok E G cL_law RL 4 room_1) {b L : Nat} {xs : Nat → Int32} (hX : va_X b L xs (tg_s G) (tg_s G).heap) (hbl : b < (tg_s G).heap.size) (hbA : ¬ tg_A G b) (hE : ∀ (pc : Nat) (lv : List (Nat × Value)) (σ : tn_M), decode cL_law pc = .ok (.ireturn, 1) → tn_V E G (fun _ : Unit => none) pc lv [.int 1] σ (some ((), σ))) (c18 : Int32 → tn_M → Option (Unit × tn_M)) (hc18 : ∀ (x3 : Int32) (σ : tn_M), tn_V E G (fun _ : Unit => none) 18 [(0, .ref b), (1, .ref (tn_ad E 0)), (2, .ref (tn_ad E 5)), (3, .int x3)] [] σ (c18 x3 σ)) (x3 : Int32) (σ : tn_M) : tn_V E G (fun _ : Unit => none) 1003 [(0, .ref b), (1, .ref (tn_ad E 0)), (2, .ref (tn_ad E 5)), (3, .int x3)] [] σ (F_L_law_1003 xs L c18 x3 σ) := by
  unfold F_L_law_1003
  refine tr_aload_n g 1 1004 dL_law_1003 rfl rfl rfl ?_
  refine tr_aload_n g 0 1005 dL_law_1004 rfl rfl rfl ?_
  refine tr_iload_n g 3 1006 dL_law_1005 rfl rfl rfl ?_
  refine tr_iconst (v := 1) g 1007 dL_law_1006 rfl rfl ?_
  refine tr_iadd g 1008 dL_law_1007 rfl ?_
  refine tr_sld g hX hbl hbA 1009 dL_law_1008 rfl ?_
  refine tr_aload_n g 0 1010 dL_law_1009 rfl rfl rfl ?_
  refine tr_iload_n g 3 1011 dL_law_1010 rfl rfl rfl ?_
  refine tr_iconst (v := 2) g 1012 dL_law_1011 rfl rfl ?_
  refine tr_iadd g 1013 dL_law_1012 rfl ?_
  refine tr_sld g hX hbl hbA 1014 dL_law_1013 rfl ?_
  refine tr_aload_n g 0 1015 dL_law_1014 rfl rfl rfl ?_
  refine tr_iload_n g 3 1016 dL_law_1015 rfl rfl rfl ?_
  refine tr_iconst (v := 3) g 1017 dL_law_1016 rfl rfl ?_
  refine tr_iadd g 1018 dL_law_1017 rfl ?_
  refine tr_sld g hX hbl hbA 1019 dL_law_1018 rfl ?_
  refine tr_aload_n g 0 1020 dL_law_1019 rfl rfl rfl ?_
  refine tr_iload_n g 3 1021 dL_law_1020 rfl rfl rfl ?_
  refine tr_iconst (v := 4) g 1022 dL_law_1021 rfl rfl ?_
  refine tr_iadd g 1023 dL_law_1022 rfl ?_
  refine tr_sld g hX hbl hbA 1024 dL_law_1023 rfl ?_
  refine tr_aload_n g 0 1025 dL_law_1024 rfl rfl rfl ?_
  refine tr_iload_n g 3 1026 dL_law_1025 rfl rfl rfl ?_
  refine tr_iconst (v := 5) g 1027 dL_law_1026 rfl rfl ?_
  refine tr_iadd g 1028 dL_law_1027 rfl ?_
  refine tr_sld g hX hbl hbA 1029 dL_law_1028 rfl ?_
  refine kv_X4_copy g wd_658 ⟨Nat.le_of_ble_eq_true rfl, Nat.le_of_ble_eq_true rfl⟩ (Nat.le_of_ble_eq_true rfl) 1032 dL_law_1029 rfl (fun r2 σ1 => ?_)
  refine tr_aload_n g 2 1033 dL_law_1032 rfl rfl rfl ?_
  refine tr_aload_n g 0 1034 dL_law_1033 rfl rfl rfl ?_
  refine tr_iload_n g 3 1035 dL_law_1034 rfl rfl rfl ?_
  refine tr_iconst (v := 1) g 1036 dL_law_1035 rfl rfl ?_
  refine tr_iadd g 1037 dL_law_1036 rfl ?_
  refine tr_sld g hX hbl hbA 1038 dL_law_1037 rfl ?_
  refine tr_aload_n g 0 1039 dL_law_1038 rfl rfl rfl ?_
  refine tr_iload_n g 3 1040 dL_law_1039 rfl rfl rfl ?_
  refine tr_iconst (v := 2) g 1041 dL_law_1040 rfl rfl ?_
  refine tr_iadd g 1042 dL_law_1041 rfl ?_
  refine tr_sld g hX hbl hbA 1043 dL_law_1042 rfl ?_
  refine tr_aload_n g 0 1044 dL_law_1043 rfl rfl rfl ?_
  refine tr_iload_n g 3 1045 dL_law_1044 rfl rfl rfl ?_
  refine tr_iconst (v := 3) g 1046 dL_law_1045 rfl rfl ?_
  refine tr_iadd g 1047 dL_law_1046 rfl ?_
  refine tr_sld g hX hbl hbA 1048 dL_law_1047 rfl ?_
  refine tr_aload_n g 0 1049 dL_law_1048 rfl rfl rfl ?_
  refine tr_iload_n g 3 1050 dL_law_1049 rfl rfl rfl ?_
  refine tr_iconst (v := 4) g 1051 dL_law_1050 rfl rfl ?_
  refine tr_iadd g 1052 dL_law_1051 rfl ?_
  refine tr_sld g hX hbl hbA 1053 dL_law_1052 rfl ?_
  refine tr_aload_n g 0 1054 dL_law_1053 rfl rfl rfl ?_
  refine tr_iload_n g 3 1055 dL_law_1054 rfl rfl rfl ?_
  refine tr_iconst (v := 5) g 1056 dL_law_1055 rfl rfl ?_
  refine tr_iadd g 1057 dL_law_1056 rfl ?_
  refine tr_sld g hX hbl hbA 1058 dL_law_1057 rfl ?_
  refine kv_X5_copy g wd_822 ⟨Nat.le_of_ble_eq_true rfl, Nat.le_of_ble_eq_true rfl⟩ (Nat.le_of_ble_eq_true rfl) 1061 dL_law_1058 rfl (fun r4 σ3 => ?_)
  refine tr_icmp_eq g 1126 1064 dL_law_1061 rfl rfl ?_ ?_
  · refine tr_iinc (lv' := [(3, .int (x3 + 6)), (0, .ref b), (1, .ref (tn_ad E 0)), (2, .ref (tn_ad E 5))]) (x := (x3 + 6)) g 3 1129 dL_law_1126 rfl rfl rfl (by decide) rfl ?_
    refine tr_goto g 18 dL_law_1129 rfl ?_
    refine tr_sub [1, 2, 3, 0] (lv' := [(0, .ref b), (1, .ref (tn_ad E 0)), (2, .ref (tn_ad E 5)), (3, .int (x3 + 6))]) rfl ?_
    exact hc18 _ _
  · refine tr_iconst (v := 0) g 1065 dL_law_1064 rfl rfl ?_
    exact tr_none
def F_L_law_960 (xs : Nat → Int32) (L : Nat) (c18 : Int32 → tn_M → Option (Unit × tn_M)) (x3 : Int32) (σ : tn_M) : Option (Unit × tn_M) :=
  tn_ck (x3 + 1) L <|
  tn_ck (x3 + 2) L <|
  tn_ck (x3 + 3) L <|
  tn_bd (f_X4_get (xs (tn_x (x3 + 1))) (xs (tn_x (x3 + 2))) (xs (tn_x (x3 + 3))) σ) fun r2 σ1 =>
  tn_ck (x3 + 1) L <|
  tn_ck (x3 + 2) L <|
  tn_ck (x3 + 3) L <|
  tn_bd (f_X5_get (xs (tn_x (x3 + 1))) (xs (tn_x (x3 + 2))) (xs (tn_x (x3 + 3))) σ1) fun r4 σ3 =>
  if r2 = r4 then
    c18 (x3 + 6) σ3
  else
    none
set_option maxHeartbeats 8000000 in
set_option maxRecDepth 50000 in
theorem b_L_law_960 {E : tn_E} {G : tn_G} (g : tn_Ok E G cL_law RL 4 room_1) {b L : Nat} {xs : Nat → Int32} (hX : va_X b L xs (tg_s G) (tg_s G).heap) (hbl : b < (tg_s G).heap.size) (hbA : ¬ tg_A G b) (hE : ∀ (pc : Nat) (lv : List (Nat × Value)) (σ : tn_M), decode cL_law pc = .ok (.ireturn, 1) → tn_V E G (fun _ : Unit => none) pc lv [.int 1] σ (some ((), σ))) (c18 : Int32 → tn_M → Option (Unit × tn_M)) (hc18 : ∀ (x3 : Int32) (σ : tn_M), tn_V E G (fun _ : Unit => none) 18 [(0, .ref b), (1, .ref (tn_ad E 0)), (2, .ref (tn_ad E 5)), (3, .int x3)] [] σ (c18 x3 σ)) (x3 : Int32) (σ : tn_M) : tn_V E G (fun _ : Unit => none) 960 [(0, .ref b), (1, .ref (tn_ad E 0)), (2, .ref (tn_ad E 5)), (3, .int x3)] [] σ (F_L_law_960 xs L c18 x3 σ) := by
  unfold F_L_law_960
  refine tr_aload_n g 1 961 dL_law_960 rfl rfl rfl ?_
  refine tr_aload_n g 0 962 dL_law_961 rfl rfl rfl ?_
  refine tr_iload_n g 3 963 dL_law_962 rfl rfl rfl ?_
  refine tr_iconst (v := 1) g 964 dL_law_963 rfl rfl ?_
  refine tr_iadd g 965 dL_law_964 rfl ?_
  refine tr_sld g hX hbl hbA 966 dL_law_965 rfl ?_
  refine tr_aload_n g 0 967 dL_law_966 rfl rfl rfl ?_
  refine tr_iload_n g 3 968 dL_law_967 rfl rfl rfl ?_
  refine tr_iconst (v := 2) g 969 dL_law_968 rfl rfl ?_
  refine tr_iadd g 970 dL_law_969 rfl ?_
  refine tr_sld g hX hbl hbA 971 dL_law_970 rfl ?_
  refine tr_aload_n g 0 972 dL_law_971 rfl rfl rfl ?_
  refine tr_iload_n g 3 973 dL_law_972 rfl rfl rfl ?_
  refine tr_iconst (v := 3) g 974 dL_law_973 rfl rfl ?_
  refine tr_iadd g 975 dL_law_974 rfl ?_
  refine tr_sld g hX hbl hbA 976 dL_law_975 rfl ?_
  refine kv_X4_get g wd_653 ⟨Nat.le_of_ble_eq_true rfl, Nat.le_of_ble_eq_true rfl⟩ (Nat.le_of_ble_eq_true rfl) 979 dL_law_976 rfl (fun r2 σ1 => ?_)
  refine tr_aload_n g 2 980 dL_law_979 rfl rfl rfl ?_
  refine tr_aload_n g 0 981 dL_law_980 rfl rfl rfl ?_
  refine tr_iload_n g 3 982 dL_law_981 rfl rfl rfl ?_
  refine tr_iconst (v := 1) g 983 dL_law_982 rfl rfl ?_
  refine tr_iadd g 984 dL_law_983 rfl ?_
  refine tr_sld g hX hbl hbA 985 dL_law_984 rfl ?_
  refine tr_aload_n g 0 986 dL_law_985 rfl rfl rfl ?_
  refine tr_iload_n g 3 987 dL_law_986 rfl rfl rfl ?_
  refine tr_iconst (v := 2) g 988 dL_law_987 rfl rfl ?_
  refine tr_iadd g 989 dL_law_988 rfl ?_
  refine tr_sld g hX hbl hbA 990 dL_law_989 rfl ?_
  refine tr_aload_n g 0 991 dL_law_990 rfl rfl rfl ?_
  refine tr_iload_n g 3 992 dL_law_991 rfl rfl rfl ?_
  refine tr_iconst (v := 3) g 993 dL_law_992 rfl rfl ?_
  refine tr_iadd g 994 dL_law_993 rfl ?_
  refine tr_sld g hX hbl hbA 995 dL_law_994 rfl ?_
  refine kv_X5_get g wd_817 ⟨Nat.le_of_ble_eq_true rfl, Nat.le_of_ble_eq_true rfl⟩ (Nat.le_of_ble_eq_true rfl) 998 dL_law_995 rfl (fun r4 σ3 => ?_)
  refine tr_icmp_eq g 1126 1001 dL_law_998 rfl rfl ?_ ?_
  · refine tr_iinc (lv' := [(3, .int (x3 + 6)), (0, .ref b), (1, .ref (tn_ad E 0)), (2, .ref (tn_ad E 5))]) (x := (x3 + 6)) g 3 1129 dL_law_1126 rfl rfl rfl (by decide) rfl ?_
    refine tr_goto g 18 dL_law_1129 rfl ?_
    refine tr_sub [1, 2, 3, 0] (lv' := [(0, .ref b), (1, .ref (tn_ad E 0)), (2, .ref (tn_ad E 5)), (3, .int (x3 + 6))]) rfl ?_
    exact hc18 _ _
  · refine tr_iconst (v := 0) g 1002 dL_law_1001 rfl rfl ?_
    exact tr_none
def F_L_law_907 (xs : Nat → Int32) (L : Nat) (c18 : Int32 → tn_M → Option (Unit × tn_M)) (x3 : Int32) (σ : tn_M) : Option (Unit × tn_M) :=
  tn_ck (x3 + 1) L <|
  tn_ck (x3 + 2) L <|
  tn_ck (x3 + 3) L <|
  tn_ck (x3 + 4) L <|
  tn_bd (f_X4_lay (xs (tn_x (x3 + 1))) (xs (tn_x (x3 + 2))) (xs (tn_x (x3 + 3))) (xs (tn_x (x3 + 4))) σ) fun r2 σ1 =>
  tn_ck (x3 + 1) L <|
  tn_ck (x3 + 2) L <|
  tn_ck (x3 + 3) L <|
  tn_ck (x3 + 4) L <|
  tn_bd (f_X5_lay (xs (tn_x (x3 + 1))) (xs (tn_x (x3 + 2))) (xs (tn_x (x3 + 3))) (xs (tn_x (x3 + 4))) σ1) fun r4 σ3 =>
  if r2 = r4 then
    c18 (x3 + 6) σ3
  else
    none
set_option maxHeartbeats 8000000 in
set_option maxRecDepth 50000 in
theorem b_L_law_907 {E : tn_E} {G : tn_G} (g : tn_Ok E G cL_law RL 4 room_1) {b L : Nat} {xs : Nat → Int32} (hX : va_X b L xs (tg_s G) (tg_s G).heap) (hbl : b < (tg_s G).heap.size) (hbA : ¬ tg_A G b) (hE : ∀ (pc : Nat) (lv : List (Nat × Value)) (σ : tn_M), decode cL_law pc = .ok (.ireturn, 1) → tn_V E G (fun _ : Unit => none) pc lv [.int 1] σ (some ((), σ))) (c18 : Int32 → tn_M → Option (Unit × tn_M)) (hc18 : ∀ (x3 : Int32) (σ : tn_M), tn_V E G (fun _ : Unit => none) 18 [(0, .ref b), (1, .ref (tn_ad E 0)), (2, .ref (tn_ad E 5)), (3, .int x3)] [] σ (c18 x3 σ)) (x3 : Int32) (σ : tn_M) : tn_V E G (fun _ : Unit => none) 907 [(0, .ref b), (1, .ref (tn_ad E 0)), (2, .ref (tn_ad E 5)), (3, .int x3)] [] σ (F_L_law_907 xs L c18 x3 σ) := by
  unfold F_L_law_907
  refine tr_aload_n g 1 908 dL_law_907 rfl rfl rfl ?_
  refine tr_aload_n g 0 909 dL_law_908 rfl rfl rfl ?_
  refine tr_iload_n g 3 910 dL_law_909 rfl rfl rfl ?_
  refine tr_iconst (v := 1) g 911 dL_law_910 rfl rfl ?_
  refine tr_iadd g 912 dL_law_911 rfl ?_
  refine tr_sld g hX hbl hbA 913 dL_law_912 rfl ?_
  refine tr_aload_n g 0 914 dL_law_913 rfl rfl rfl ?_
  refine tr_iload_n g 3 915 dL_law_914 rfl rfl rfl ?_
  refine tr_iconst (v := 2) g 916 dL_law_915 rfl rfl ?_
  refine tr_iadd g 917 dL_law_916 rfl ?_
  refine tr_sld g hX hbl hbA 918 dL_law_917 rfl ?_
  refine tr_aload_n g 0 919 dL_law_918 rfl rfl rfl ?_
  refine tr_iload_n g 3 920 dL_law_919 rfl rfl rfl ?_
  refine tr_iconst (v := 3) g 921 dL_law_920 rfl rfl ?_
  refine tr_iadd g 922 dL_law_921 rfl ?_
  refine tr_sld g hX hbl hbA 923 dL_law_922 rfl ?_
  refine tr_aload_n g 0 924 dL_law_923 rfl rfl rfl ?_
  refine tr_iload_n g 3 925 dL_law_924 rfl rfl rfl ?_
  refine tr_iconst (v := 4) g 926 dL_law_925 rfl rfl ?_
  refine tr_iadd g 927 dL_law_926 rfl ?_
  refine tr_sld g hX hbl hbA 928 dL_law_927 rfl ?_
  refine kv_X4_lay g wd_640 ⟨Nat.le_of_ble_eq_true rfl, Nat.le_of_ble_eq_true rfl⟩ (Nat.le_of_ble_eq_true rfl) 931 dL_law_928 rfl (fun r2 σ1 => ?_)
  refine tr_aload_n g 2 932 dL_law_931 rfl rfl rfl ?_
  refine tr_aload_n g 0 933 dL_law_932 rfl rfl rfl ?_
  refine tr_iload_n g 3 934 dL_law_933 rfl rfl rfl ?_
  refine tr_iconst (v := 1) g 935 dL_law_934 rfl rfl ?_
  refine tr_iadd g 936 dL_law_935 rfl ?_
  refine tr_sld g hX hbl hbA 937 dL_law_936 rfl ?_
  refine tr_aload_n g 0 938 dL_law_937 rfl rfl rfl ?_
  refine tr_iload_n g 3 939 dL_law_938 rfl rfl rfl ?_
  refine tr_iconst (v := 2) g 940 dL_law_939 rfl rfl ?_
  refine tr_iadd g 941 dL_law_940 rfl ?_
  refine tr_sld g hX hbl hbA 942 dL_law_941 rfl ?_
  refine tr_aload_n g 0 943 dL_law_942 rfl rfl rfl ?_
  refine tr_iload_n g 3 944 dL_law_943 rfl rfl rfl ?_
  refine tr_iconst (v := 3) g 945 dL_law_944 rfl rfl ?_
  refine tr_iadd g 946 dL_law_945 rfl ?_
  refine tr_sld g hX hbl hbA 947 dL_law_946 rfl ?_
  refine tr_aload_n g 0 948 dL_law_947 rfl rfl rfl ?_
  refine tr_iload_n g 3 949 dL_law_948 rfl rfl rfl ?_
  refine tr_iconst (v := 4) g 950 dL_law_949 rfl rfl ?_
  refine tr_iadd g 951 dL_law_950 rfl ?_
  refine tr_sld g hX hbl hbA 952 dL_law_951 rfl ?_
  refine kv_X5_lay g wd_806 ⟨Nat.le_of_ble_eq_true rfl, Nat.le_of_ble_eq_true rfl⟩ (Nat.le_of_ble_eq_true rfl) 955 dL_law_952 rfl (fun r4 σ3 => ?_)
  refine tr_icmp_eq g 1126 958 dL_law_955 rfl rfl ?_ ?_
  · refine tr_iinc (lv' := [(3, .int (x3 + 6)), (0, .ref b), (1, .ref (tn_ad E 0)), (2, .ref (tn_ad E 5))]) (x := (x3 + 6)) g 3 1129 dL_law_1126 rfl rfl rfl (by decide) rfl ?_
    refine tr_goto g 18 dL_law_1129 rfl ?_
    refine tr_sub [1, 2, 3, 0] (lv' := [(0, .ref b), (1, .ref (tn_ad E 0)), (2, .ref (tn_ad E 5)), (3, .int (x3 + 6))]) rfl ?_
    exact hc18 _ _
  · refine tr_iconst (v := 0) g 959 dL_law_958 rfl rfl ?_
    exact tr_none
def F_L_law_884 (xs : Nat → Int32) (L : Nat) (c18 : Int32 → tn_M → Option (Unit × tn_M)) (x3 : Int32) (σ : tn_M) : Option (Unit × tn_M) :=
  tn_ck (x3 + 1) L <|
  tn_bd (f_X4_lose (xs (tn_x (x3 + 1))) σ) fun r2 σ1 =>
  tn_ck (x3 + 1) L <|
  tn_bd (f_X5_lose (xs (tn_x (x3 + 1))) σ1) fun r4 σ3 =>
  if r2 = r4 then
    c18 (x3 + 6) σ3
  else
    none
set_option maxHeartbeats 8000000 in
set_option maxRecDepth 50000 in
theorem b_L_law_884 {E : tn_E} {G : tn_G} (g : tn_Ok E G cL_law RL 4 room_1) {b L : Nat} {xs : Nat → Int32} (hX : va_X b L xs (tg_s G) (tg_s G).heap) (hbl : b < (tg_s G).heap.size) (hbA : ¬ tg_A G b) (hE : ∀ (pc : Nat) (lv : List (Nat × Value)) (σ : tn_M), decode cL_law pc = .ok (.ireturn, 1) → tn_V E G (fun _ : Unit => none) pc lv [.int 1] σ (some ((), σ))) (c18 : Int32 → tn_M → Option (Unit × tn_M)) (hc18 : ∀ (x3 : Int32) (σ : tn_M), tn_V E G (fun _ : Unit => none) 18 [(0, .ref b), (1, .ref (tn_ad E 0)), (2, .ref (tn_ad E 5)), (3, .int x3)] [] σ (c18 x3 σ)) (x3 : Int32) (σ : tn_M) : tn_V E G (fun _ : Unit => none) 884 [(0, .ref b), (1, .ref (tn_ad E 0)), (2, .ref (tn_ad E 5)), (3, .int x3)] [] σ (F_L_law_884 xs L c18 x3 σ) := by
  unfold F_L_law_884
  refine tr_aload_n g 1 885 dL_law_884 rfl rfl rfl ?_
  refine tr_aload_n g 0 886 dL_law_885 rfl rfl rfl ?_
  refine tr_iload_n g 3 887 dL_law_886 rfl rfl rfl ?_
  refine tr_iconst (v := 1) g 888 dL_law_887 rfl rfl ?_
  refine tr_iadd g 889 dL_law_888 rfl ?_
  refine tr_sld g hX hbl hbA 890 dL_law_889 rfl ?_
  refine kv_X4_lose g wd_636 ⟨Nat.le_of_ble_eq_true rfl, Nat.le_of_ble_eq_true rfl⟩ (Nat.le_of_ble_eq_true rfl) 893 dL_law_890 rfl (fun r2 σ1 => ?_)
  refine tr_aload_n g 2 894 dL_law_893 rfl rfl rfl ?_
  refine tr_aload_n g 0 895 dL_law_894 rfl rfl rfl ?_
  refine tr_iload_n g 3 896 dL_law_895 rfl rfl rfl ?_
  refine tr_iconst (v := 1) g 897 dL_law_896 rfl rfl ?_
  refine tr_iadd g 898 dL_law_897 rfl ?_
  refine tr_sld g hX hbl hbA 899 dL_law_898 rfl ?_
  refine kv_X5_lose g wd_802 ⟨Nat.le_of_ble_eq_true rfl, Nat.le_of_ble_eq_true rfl⟩ (Nat.le_of_ble_eq_true rfl) 902 dL_law_899 rfl (fun r4 σ3 => ?_)
  refine tr_icmp_eq g 1126 905 dL_law_902 rfl rfl ?_ ?_
  · refine tr_iinc (lv' := [(3, .int (x3 + 6)), (0, .ref b), (1, .ref (tn_ad E 0)), (2, .ref (tn_ad E 5))]) (x := (x3 + 6)) g 3 1129 dL_law_1126 rfl rfl rfl (by decide) rfl ?_
    refine tr_goto g 18 dL_law_1129 rfl ?_
    refine tr_sub [1, 2, 3, 0] (lv' := [(0, .ref b), (1, .ref (tn_ad E 0)), (2, .ref (tn_ad E 5)), (3, .int (x3 + 6))]) rfl ?_
    exact hc18 _ _
  · refine tr_iconst (v := 0) g 906 dL_law_905 rfl rfl ?_
    exact tr_none
def F_L_law_841 (xs : Nat → Int32) (L : Nat) (c18 : Int32 → tn_M → Option (Unit × tn_M)) (x3 : Int32) (σ : tn_M) : Option (Unit × tn_M) :=
  tn_ck (x3 + 1) L <|
  tn_ck (x3 + 2) L <|
  tn_ck (x3 + 3) L <|
  tn_bd (f_X4_sheet (xs (tn_x (x3 + 1))) (xs (tn_x (x3 + 2))) (xs (tn_x (x3 + 3))) σ) fun r2 σ1 =>
  tn_ck (x3 + 1) L <|
  tn_ck (x3 + 2) L <|
  tn_ck (x3 + 3) L <|
  tn_bd (f_X5_sheet (xs (tn_x (x3 + 1))) (xs (tn_x (x3 + 2))) (xs (tn_x (x3 + 3))) σ1) fun r4 σ3 =>
  if r2 = r4 then
    c18 (x3 + 6) σ3
  else
    none
set_option maxHeartbeats 8000000 in
set_option maxRecDepth 50000 in
theorem b_L_law_841 {E : tn_E} {G : tn_G} (g : tn_Ok E G cL_law RL 4 room_1) {b L : Nat} {xs : Nat → Int32} (hX : va_X b L xs (tg_s G) (tg_s G).heap) (hbl : b < (tg_s G).heap.size) (hbA : ¬ tg_A G b) (hE : ∀ (pc : Nat) (lv : List (Nat × Value)) (σ : tn_M), decode cL_law pc = .ok (.ireturn, 1) → tn_V E G (fun _ : Unit => none) pc lv [.int 1] σ (some ((), σ))) (c18 : Int32 → tn_M → Option (Unit × tn_M)) (hc18 : ∀ (x3 : Int32) (σ : tn_M), tn_V E G (fun _ : Unit => none) 18 [(0, .ref b), (1, .ref (tn_ad E 0)), (2, .ref (tn_ad E 5)), (3, .int x3)] [] σ (c18 x3 σ)) (x3 : Int32) (σ : tn_M) : tn_V E G (fun _ : Unit => none) 841 [(0, .ref b), (1, .ref (tn_ad E 0)), (2, .ref (tn_ad E 5)), (3, .int x3)] [] σ (F_L_law_841 xs L c18 x3 σ) := by
  unfold F_L_law_841
  refine tr_aload_n g 1 842 dL_law_841 rfl rfl rfl ?_
  refine tr_aload_n g 0 843 dL_law_842 rfl rfl rfl ?_
  refine tr_iload_n g 3 844 dL_law_843 rfl rfl rfl ?_
  refine tr_iconst (v := 1) g 845 dL_law_844 rfl rfl ?_
  refine tr_iadd g 846 dL_law_845 rfl ?_
  refine tr_sld g hX hbl hbA 847 dL_law_846 rfl ?_
  refine tr_aload_n g 0 848 dL_law_847 rfl rfl rfl ?_
  refine tr_iload_n g 3 849 dL_law_848 rfl rfl rfl ?_
  refine tr_iconst (v := 2) g 850 dL_law_849 rfl rfl ?_
  refine tr_iadd g 851 dL_law_850 rfl ?_
  refine tr_sld g hX hbl hbA 852 dL_law_851 rfl ?_
  refine tr_aload_n g 0 853 dL_law_852 rfl rfl rfl ?_
  refine tr_iload_n g 3 854 dL_law_853 rfl rfl rfl ?_
  refine tr_iconst (v := 3) g 855 dL_law_854 rfl rfl ?_
  refine tr_iadd g 856 dL_law_855 rfl ?_
  refine tr_sld g hX hbl hbA 857 dL_law_856 rfl ?_
  refine kv_X4_sheet g wd_622 ⟨Nat.le_of_ble_eq_true rfl, Nat.le_of_ble_eq_true rfl⟩ (Nat.le_of_ble_eq_true rfl) 860 dL_law_857 rfl (fun r2 σ1 => ?_)
  refine tr_aload_n g 2 861 dL_law_860 rfl rfl rfl ?_
  refine tr_aload_n g 0 862 dL_law_861 rfl rfl rfl ?_
  refine tr_iload_n g 3 863 dL_law_862 rfl rfl rfl ?_
  refine tr_iconst (v := 1) g 864 dL_law_863 rfl rfl ?_
  refine tr_iadd g 865 dL_law_864 rfl ?_
  refine tr_sld g hX hbl hbA 866 dL_law_865 rfl ?_
  refine tr_aload_n g 0 867 dL_law_866 rfl rfl rfl ?_
  refine tr_iload_n g 3 868 dL_law_867 rfl rfl rfl ?_
  refine tr_iconst (v := 2) g 869 dL_law_868 rfl rfl ?_
  refine tr_iadd g 870 dL_law_869 rfl ?_
  refine tr_sld g hX hbl hbA 871 dL_law_870 rfl ?_
  refine tr_aload_n g 0 872 dL_law_871 rfl rfl rfl ?_
  refine tr_iload_n g 3 873 dL_law_872 rfl rfl rfl ?_
  refine tr_iconst (v := 3) g 874 dL_law_873 rfl rfl ?_
  refine tr_iadd g 875 dL_law_874 rfl ?_
  refine tr_sld g hX hbl hbA 876 dL_law_875 rfl ?_
  refine kv_X5_sheet g wd_786 ⟨Nat.le_of_ble_eq_true rfl, Nat.le_of_ble_eq_true rfl⟩ (Nat.le_of_ble_eq_true rfl) 879 dL_law_876 rfl (fun r4 σ3 => ?_)
  refine tr_icmp_eq g 1126 882 dL_law_879 rfl rfl ?_ ?_
  · refine tr_iinc (lv' := [(3, .int (x3 + 6)), (0, .ref b), (1, .ref (tn_ad E 0)), (2, .ref (tn_ad E 5))]) (x := (x3 + 6)) g 3 1129 dL_law_1126 rfl rfl rfl (by decide) rfl ?_
    refine tr_goto g 18 dL_law_1129 rfl ?_
    refine tr_sub [1, 2, 3, 0] (lv' := [(0, .ref b), (1, .ref (tn_ad E 0)), (2, .ref (tn_ad E 5)), (3, .int (x3 + 6))]) rfl ?_
    exact hc18 _ _
  · refine tr_iconst (v := 0) g 883 dL_law_882 rfl rfl ?_
    exact tr_none
def F_L_law_828 (xs : Nat → Int32) (L : Nat) (c18 : Int32 → tn_M → Option (Unit × tn_M)) (x3 : Int32) (σ : tn_M) : Option (Unit × tn_M) :=
  tn_bd (f_X4_back σ) fun r2 σ1 =>
  tn_bd (f_X5_back σ1) fun r4 σ3 =>
  if r2 = r4 then
    c18 (x3 + 6) σ3
  else
    none
set_option maxHeartbeats 8000000 in
set_option maxRecDepth 50000 in
theorem b_L_law_828 {E : tn_E} {G : tn_G} (g : tn_Ok E G cL_law RL 4 room_1) {b L : Nat} {xs : Nat → Int32} (hX : va_X b L xs (tg_s G) (tg_s G).heap) (hbl : b < (tg_s G).heap.size) (hbA : ¬ tg_A G b) (hE : ∀ (pc : Nat) (lv : List (Nat × Value)) (σ : tn_M), decode cL_law pc = .ok (.ireturn, 1) → tn_V E G (fun _ : Unit => none) pc lv [.int 1] σ (some ((), σ))) (c18 : Int32 → tn_M → Option (Unit × tn_M)) (hc18 : ∀ (x3 : Int32) (σ : tn_M), tn_V E G (fun _ : Unit => none) 18 [(0, .ref b), (1, .ref (tn_ad E 0)), (2, .ref (tn_ad E 5)), (3, .int x3)] [] σ (c18 x3 σ)) (x3 : Int32) (σ : tn_M) : tn_V E G (fun _ : Unit => none) 828 [(0, .ref b), (1, .ref (tn_ad E 0)), (2, .ref (tn_ad E 5)), (3, .int x3)] [] σ (F_L_law_828 xs L c18 x3 σ) := by
  unfold F_L_law_828
  refine tr_aload_n g 1 829 dL_law_828 rfl rfl rfl ?_
  refine kv_X4_back g wd_612 ⟨Nat.le_of_ble_eq_true rfl, Nat.le_of_ble_eq_true rfl⟩ (Nat.le_of_ble_eq_true rfl) 832 dL_law_829 rfl (fun r2 σ1 => ?_)
  refine tr_aload_n g 2 833 dL_law_832 rfl rfl rfl ?_
  refine kv_X5_back g wd_1095 ⟨Nat.le_of_ble_eq_true rfl, Nat.le_of_ble_eq_true rfl⟩ (Nat.le_of_ble_eq_true rfl) 836 dL_law_833 rfl (fun r4 σ3 => ?_)
  refine tr_icmp_eq g 1126 839 dL_law_836 rfl rfl ?_ ?_
  · refine tr_iinc (lv' := [(3, .int (x3 + 6)), (0, .ref b), (1, .ref (tn_ad E 0)), (2, .ref (tn_ad E 5))]) (x := (x3 + 6)) g 3 1129 dL_law_1126 rfl rfl rfl (by decide) rfl ?_
    refine tr_goto g 18 dL_law_1129 rfl ?_
    refine tr_sub [1, 2, 3, 0] (lv' := [(0, .ref b), (1, .ref (tn_ad E 0)), (2, .ref (tn_ad E 5)), (3, .int (x3 + 6))]) rfl ?_
    exact hc18 _ _
  · refine tr_iconst (v := 0) g 840 dL_law_839 rfl rfl ?_
    exact tr_none
def F_L_law_795 (xs : Nat → Int32) (L : Nat) (c18 : Int32 → tn_M → Option (Unit × tn_M)) (x3 : Int32) (σ : tn_M) : Option (Unit × tn_M) :=
  tn_ck (x3 + 1) L <|
  tn_ck (x3 + 2) L <|
  tn_bd (f_X4_weeks (xs (tn_x (x3 + 1))) (xs (tn_x (x3 + 2))) σ) fun r2 σ1 =>
  tn_ck (x3 + 1) L <|
  tn_ck (x3 + 2) L <|
  tn_bd (f_X5_weeks (xs (tn_x (x3 + 1))) (xs (tn_x (x3 + 2))) σ1) fun r4 σ3 =>
  if r2 = r4 then
    c18 (x3 + 6) σ3
  else
    none
set_option maxHeartbeats 8000000 in
set_option maxRecDepth 50000 in
theorem b_L_law_795 {E : tn_E} {G : tn_G} (g : tn_Ok E G cL_law RL 4 room_1) {b L : Nat} {xs : Nat → Int32} (hX : va_X b L xs (tg_s G) (tg_s G).heap) (hbl : b < (tg_s G).heap.size) (hbA : ¬ tg_A G b) (hE : ∀ (pc : Nat) (lv : List (Nat × Value)) (σ : tn_M), decode cL_law pc = .ok (.ireturn, 1) → tn_V E G (fun _ : Unit => none) pc lv [.int 1] σ (some ((), σ))) (c18 : Int32 → tn_M → Option (Unit × tn_M)) (hc18 : ∀ (x3 : Int32) (σ : tn_M), tn_V E G (fun _ : Unit => none) 18 [(0, .ref b), (1, .ref (tn_ad E 0)), (2, .ref (tn_ad E 5)), (3, .int x3)] [] σ (c18 x3 σ)) (x3 : Int32) (σ : tn_M) : tn_V E G (fun _ : Unit => none) 795 [(0, .ref b), (1, .ref (tn_ad E 0)), (2, .ref (tn_ad E 5)), (3, .int x3)] [] σ (F_L_law_795 xs L c18 x3 σ) := by
  unfold F_L_law_795
  refine tr_aload_n g 1 796 dL_law_795 rfl rfl rfl ?_
  refine tr_aload_n g 0 797 dL_law_796 rfl rfl rfl ?_
  refine tr_iload_n g 3 798 dL_law_797 rfl rfl rfl ?_
  refine tr_iconst (v := 1) g 799 dL_law_798 rfl rfl ?_
  refine tr_iadd g 800 dL_law_799 rfl ?_
  refine tr_sld g hX hbl hbA 801 dL_law_800 rfl ?_
  refine tr_aload_n g 0 802 dL_law_801 rfl rfl rfl ?_
  refine tr_iload_n g 3 803 dL_law_802 rfl rfl rfl ?_
  refine tr_iconst (v := 2) g 804 dL_law_803 rfl rfl ?_
  refine tr_iadd g 805 dL_law_804 rfl ?_
  refine tr_sld g hX hbl hbA 806 dL_law_805 rfl ?_
  refine kv_X4_weeks g wd_584 ⟨Nat.le_of_ble_eq_true rfl, Nat.le_of_ble_eq_true rfl⟩ (Nat.le_of_ble_eq_true rfl) 809 dL_law_806 rfl (fun r2 σ1 => ?_)
  refine tr_aload_n g 2 810 dL_law_809 rfl rfl rfl ?_
  refine tr_aload_n g 0 811 dL_law_810 rfl rfl rfl ?_
  refine tr_iload_n g 3 812 dL_law_811 rfl rfl rfl ?_
  refine tr_iconst (v := 1) g 813 dL_law_812 rfl rfl ?_
  refine tr_iadd g 814 dL_law_813 rfl ?_
  refine tr_sld g hX hbl hbA 815 dL_law_814 rfl ?_
  refine tr_aload_n g 0 816 dL_law_815 rfl rfl rfl ?_
  refine tr_iload_n g 3 817 dL_law_816 rfl rfl rfl ?_
  refine tr_iconst (v := 2) g 818 dL_law_817 rfl rfl ?_
  refine tr_iadd g 819 dL_law_818 rfl ?_
  refine tr_sld g hX hbl hbA 820 dL_law_819 rfl ?_
  refine kv_X5_weeks g wd_1082 ⟨Nat.le_of_ble_eq_true rfl, Nat.le_of_ble_eq_true rfl⟩ (Nat.le_of_ble_eq_true rfl) 823 dL_law_820 rfl (fun r4 σ3 => ?_)
  refine tr_icmp_eq g 1126 826 dL_law_823 rfl rfl ?_ ?_
  · refine tr_iinc (lv' := [(3, .int (x3 + 6)), (0, .ref b), (1, .ref (tn_ad E 0)), (2, .ref (tn_ad E 5))]) (x := (x3 + 6)) g 3 1129 dL_law_1126 rfl rfl rfl (by decide) rfl ?_
    refine tr_goto g 18 dL_law_1129 rfl ?_
    refine tr_sub [1, 2, 3, 0] (lv' := [(0, .ref b), (1, .ref (tn_ad E 0)), (2, .ref (tn_ad E 5)), (3, .int (x3 + 6))]) rfl ?_
    exact hc18 _ _
  · refine tr_iconst (v := 0) g 827 dL_law_826 rfl rfl ?_
    exact tr_none
def F_L_law_761 (xs : Nat → Int32) (L : Nat) (c18 : Int32 → tn_M → Option (Unit × tn_M)) (x3 : Int32) (σ : tn_M) : Option (Unit × tn_M) :=
  tn_ck (x3 + 1) L <|
  tn_ck (x3 + 2) L <|
  tn_bd (f_X4_week (xs (tn_x (x3 + 1))) (xs (tn_x (x3 + 2))) σ) fun r2 σ1 =>
  tn_ck (x3 + 1) L <|
  tn_ck (x3 + 2) L <|
  tn_bd (f_X5_week (xs (tn_x (x3 + 1))) (xs (tn_x (x3 + 2))) σ1) fun r4 σ3 =>
  if r2 = r4 then
    c18 (x3 + 6) σ3
  else
    none
set_option maxHeartbeats 8000000 in
set_option maxRecDepth 50000 in
theorem b_L_law_761 {E : tn_E} {G : tn_G} (g : tn_Ok E G cL_law RL 4 room_1) {b L : Nat} {xs : Nat → Int32} (hX : va_X b L xs (tg_s G) (tg_s G).heap) (hbl : b < (tg_s G).heap.size) (hbA : ¬ tg_A G b) (hE : ∀ (pc : Nat) (lv : List (Nat × Value)) (σ : tn_M), decode cL_law pc = .ok (.ireturn, 1) → tn_V E G (fun _ : Unit => none) pc lv [.int 1] σ (some ((), σ))) (c18 : Int32 → tn_M → Option (Unit × tn_M)) (hc18 : ∀ (x3 : Int32) (σ : tn_M), tn_V E G (fun _ : Unit => none) 18 [(0, .ref b), (1, .ref (tn_ad E 0)), (2, .ref (tn_ad E 5)), (3, .int x3)] [] σ (c18 x3 σ)) (x3 : Int32) (σ : tn_M) : tn_V E G (fun _ : Unit => none) 761 [(0, .ref b), (1, .ref (tn_ad E 0)), (2, .ref (tn_ad E 5)), (3, .int x3)] [] σ (F_L_law_761 xs L c18 x3 σ) := by
  unfold F_L_law_761
  refine tr_aload_n g 1 762 dL_law_761 rfl rfl rfl ?_
  refine tr_aload_n g 0 763 dL_law_762 rfl rfl rfl ?_
  refine tr_iload_n g 3 764 dL_law_763 rfl rfl rfl ?_
  refine tr_iconst (v := 1) g 765 dL_law_764 rfl rfl ?_
  refine tr_iadd g 766 dL_law_765 rfl ?_
  refine tr_sld g hX hbl hbA 767 dL_law_766 rfl ?_
  refine tr_aload_n g 0 768 dL_law_767 rfl rfl rfl ?_
  refine tr_iload_n g 3 769 dL_law_768 rfl rfl rfl ?_
  refine tr_iconst (v := 2) g 770 dL_law_769 rfl rfl ?_
  refine tr_iadd g 771 dL_law_770 rfl ?_
  refine tr_sld g hX hbl hbA 772 dL_law_771 rfl ?_
  refine kv_X4_week g wd_580 ⟨Nat.le_of_ble_eq_true rfl, Nat.le_of_ble_eq_true rfl⟩ (Nat.le_of_ble_eq_true rfl) 775 dL_law_772 rfl (fun r2 σ1 => ?_)
  refine tr_aload_n g 2 776 dL_law_775 rfl rfl rfl ?_
  refine tr_aload_n g 0 777 dL_law_776 rfl rfl rfl ?_
  refine tr_iload_n g 3 778 dL_law_777 rfl rfl rfl ?_
  refine tr_iconst (v := 1) g 779 dL_law_778 rfl rfl ?_
  refine tr_iadd g 780 dL_law_779 rfl ?_
  refine tr_sld g hX hbl hbA 781 dL_law_780 rfl ?_
  refine tr_aload_n g 0 782 dL_law_781 rfl rfl rfl ?_
  refine tr_iload_n g 3 783 dL_law_782 rfl rfl rfl ?_
  refine tr_iconst (v := 2) g 784 dL_law_783 rfl rfl ?_
  refine tr_iadd g 785 dL_law_784 rfl ?_
  refine tr_sld g hX hbl hbA 786 dL_law_785 rfl ?_
  refine kv_X5_week g wd_1078 ⟨Nat.le_of_ble_eq_true rfl, Nat.le_of_ble_eq_true rfl⟩ (Nat.le_of_ble_eq_true rfl) 789 dL_law_786 rfl (fun r4 σ3 => ?_)
  refine tr_leq g 1126 793 dL_law_789 dL_law_790 rfl rfl ?_ ?_
  · refine tr_iinc (lv' := [(3, .int (x3 + 6)), (0, .ref b), (1, .ref (tn_ad E 0)), (2, .ref (tn_ad E 5))]) (x := (x3 + 6)) g 3 1129 dL_law_1126 rfl rfl rfl (by decide) rfl ?_
    refine tr_goto g 18 dL_law_1129 rfl ?_
    refine tr_sub [1, 2, 3, 0] (lv' := [(0, .ref b), (1, .ref (tn_ad E 0)), (2, .ref (tn_ad E 5)), (3, .int (x3 + 6))]) rfl ?_
    exact hc18 _ _
  · refine tr_iconst (v := 0) g 794 dL_law_793 rfl rfl ?_
    exact tr_none
def F_L_law_738 (xs : Nat → Int32) (L : Nat) (c18 : Int32 → tn_M → Option (Unit × tn_M)) (x3 : Int32) (σ : tn_M) : Option (Unit × tn_M) :=
  tn_ck (x3 + 1) L <|
  tn_bd (f_X4_keeps (xs (tn_x (x3 + 1))) σ) fun r2 σ1 =>
  tn_ck (x3 + 1) L <|
  tn_bd (f_X5_keeps (xs (tn_x (x3 + 1))) σ1) fun r4 σ3 =>
  if r2 = r4 then
    c18 (x3 + 6) σ3
  else
    none
set_option maxHeartbeats 8000000 in
set_option maxRecDepth 50000 in
theorem b_L_law_738 {E : tn_E} {G : tn_G} (g : tn_Ok E G cL_law RL 4 room_1) {b L : Nat} {xs : Nat → Int32} (hX : va_X b L xs (tg_s G) (tg_s G).heap) (hbl : b < (tg_s G).heap.size) (hbA : ¬ tg_A G b) (hE : ∀ (pc : Nat) (lv : List (Nat × Value)) (σ : tn_M), decode cL_law pc = .ok (.ireturn, 1) → tn_V E G (fun _ : Unit => none) pc lv [.int 1] σ (some ((), σ))) (c18 : Int32 → tn_M → Option (Unit × tn_M)) (hc18 : ∀ (x3 : Int32) (σ : tn_M), tn_V E G (fun _ : Unit => none) 18 [(0, .ref b), (1, .ref (tn_ad E 0)), (2, .ref (tn_ad E 5)), (3, .int x3)] [] σ (c18 x3 σ)) (x3 : Int32) (σ : tn_M) : tn_V E G (fun _ : Unit => none) 738 [(0, .ref b), (1, .ref (tn_ad E 0)), (2, .ref (tn_ad E 5)), (3, .int x3)] [] σ (F_L_law_738 xs L c18 x3 σ) := by
  unfold F_L_law_738
  refine tr_aload_n g 1 739 dL_law_738 rfl rfl rfl ?_
  refine tr_aload_n g 0 740 dL_law_739 rfl rfl rfl ?_
  refine tr_iload_n g 3 741 dL_law_740 rfl rfl rfl ?_
  refine tr_iconst (v := 1) g 742 dL_law_741 rfl rfl ?_
  refine tr_iadd g 743 dL_law_742 rfl ?_
  refine tr_sld g hX hbl hbA 744 dL_law_743 rfl ?_
  refine kv_X4_keeps g wd_576 ⟨Nat.le_of_ble_eq_true rfl, Nat.le_of_ble_eq_true rfl⟩ (Nat.le_of_ble_eq_true rfl) 747 dL_law_744 rfl (fun r2 σ1 => ?_)
  refine tr_aload_n g 2 748 dL_law_747 rfl rfl rfl ?_
  refine tr_aload_n g 0 749 dL_law_748 rfl rfl rfl ?_
  refine tr_iload_n g 3 750 dL_law_749 rfl rfl rfl ?_
  refine tr_iconst (v := 1) g 751 dL_law_750 rfl rfl ?_
  refine tr_iadd g 752 dL_law_751 rfl ?_
  refine tr_sld g hX hbl hbA 753 dL_law_752 rfl ?_
  refine kv_X5_keeps g wd_1066 ⟨Nat.le_of_ble_eq_true rfl, Nat.le_of_ble_eq_true rfl⟩ (Nat.le_of_ble_eq_true rfl) 756 dL_law_753 rfl (fun r4 σ3 => ?_)
  refine tr_icmp_eq g 1126 759 dL_law_756 rfl rfl ?_ ?_
  · refine tr_iinc (lv' := [(3, .int (x3 + 6)), (0, .ref b), (1, .ref (tn_ad E 0)), (2, .ref (tn_ad E 5))]) (x := (x3 + 6)) g 3 1129 dL_law_1126 rfl rfl rfl (by decide) rfl ?_
    refine tr_goto g 18 dL_law_1129 rfl ?_
    refine tr_sub [1, 2, 3, 0] (lv' := [(0, .ref b), (1, .ref (tn_ad E 0)), (2, .ref (tn_ad E 5)), (3, .int (x3 + 6))]) rfl ?_
    exact hc18 _ _
  · refine tr_iconst (v := 0) g 760 dL_law_759 rfl rfl ?_
    exact tr_none
def F_L_law_705 (xs : Nat → Int32) (L : Nat) (c18 : Int32 → tn_M → Option (Unit × tn_M)) (x3 : Int32) (σ : tn_M) : Option (Unit × tn_M) :=
  tn_ck (x3 + 1) L <|
  tn_ck (x3 + 2) L <|
  tn_bd (f_X4_turn (xs (tn_x (x3 + 1))) (xs (tn_x (x3 + 2))) σ) fun r2 σ1 =>
  tn_ck (x3 + 1) L <|
  tn_ck (x3 + 2) L <|
  tn_bd (f_X5_turn (xs (tn_x (x3 + 1))) (xs (tn_x (x3 + 2))) σ1) fun r4 σ3 =>
  if r2 = r4 then
    c18 (x3 + 6) σ3
  else
    none
set_option maxHeartbeats 8000000 in
set_option maxRecDepth 50000 in
theorem b_L_law_705 {E : tn_E} {G : tn_G} (g : tn_Ok E G cL_law RL 4 room_1) {b L : Nat} {xs : Nat → Int32} (hX : va_X b L xs (tg_s G) (tg_s G).heap) (hbl : b < (tg_s G).heap.size) (hbA : ¬ tg_A G b) (hE : ∀ (pc : Nat) (lv : List (Nat × Value)) (σ : tn_M), decode cL_law pc = .ok (.ireturn, 1) → tn_V E G (fun _ : Unit => none) pc lv [.int 1] σ (some ((), σ))) (c18 : Int32 → tn_M → Option (Unit × tn_M)) (hc18 : ∀ (x3 : Int32) (σ : tn_M), tn_V E G (fun _ : Unit => none) 18 [(0, .ref b), (1, .ref (tn_ad E 0)), (2, .ref (tn_ad E 5)), (3, .int x3)] [] σ (c18 x3 σ)) (x3 : Int32) (σ : tn_M) : tn_V E G (fun _ : Unit => none) 705 [(0, .ref b), (1, .ref (tn_ad E 0)), (2, .ref (tn_ad E 5)), (3, .int x3)] [] σ (F_L_law_705 xs L c18 x3 σ) := by
  unfold F_L_law_705
  refine tr_aload_n g 1 706 dL_law_705 rfl rfl rfl ?_
  refine tr_aload_n g 0 707 dL_law_706 rfl rfl rfl ?_
  refine tr_iload_n g 3 708 dL_law_707 rfl rfl rfl ?_
  refine tr_iconst (v := 1) g 709 dL_law_708 rfl rfl ?_
  refine tr_iadd g 710 dL_law_709 rfl ?_
  refine tr_sld g hX hbl hbA 711 dL_law_710 rfl ?_
  refine tr_aload_n g 0 712 dL_law_711 rfl rfl rfl ?_
  refine tr_iload_n g 3 713 dL_law_712 rfl rfl rfl ?_
  refine tr_iconst (v := 2) g 714 dL_law_713 rfl rfl ?_
  refine tr_iadd g 715 dL_law_714 rfl ?_
  refine tr_sld g hX hbl hbA 716 dL_law_715 rfl ?_
  refine kv_X4_turn g wd_572 ⟨Nat.le_of_ble_eq_true rfl, Nat.le_of_ble_eq_true rfl⟩ (Nat.le_of_ble_eq_true rfl) 719 dL_law_716 rfl (fun r2 σ1 => ?_)
  refine tr_aload_n g 2 720 dL_law_719 rfl rfl rfl ?_
  refine tr_aload_n g 0 721 dL_law_720 rfl rfl rfl ?_
  refine tr_iload_n g 3 722 dL_law_721 rfl rfl rfl ?_
  refine tr_iconst (v := 1) g 723 dL_law_722 rfl rfl ?_
  refine tr_iadd g 724 dL_law_723 rfl ?_
  refine tr_sld g hX hbl hbA 725 dL_law_724 rfl ?_
  refine tr_aload_n g 0 726 dL_law_725 rfl rfl rfl ?_
  refine tr_iload_n g 3 727 dL_law_726 rfl rfl rfl ?_
  refine tr_iconst (v := 2) g 728 dL_law_727 rfl rfl ?_
  refine tr_iadd g 729 dL_law_728 rfl ?_
  refine tr_sld g hX hbl hbA 730 dL_law_729 rfl ?_
  refine kv_X5_turn g wd_1061 ⟨Nat.le_of_ble_eq_true rfl, Nat.le_of_ble_eq_true rfl⟩ (Nat.le_of_ble_eq_true rfl) 733 dL_law_730 rfl (fun r4 σ3 => ?_)
  refine tr_icmp_eq g 1126 736 dL_law_733 rfl rfl ?_ ?_
  · refine tr_iinc (lv' := [(3, .int (x3 + 6)), (0, .ref b), (1, .ref (tn_ad E 0)), (2, .ref (tn_ad E 5))]) (x := (x3 + 6)) g 3 1129 dL_law_1126 rfl rfl rfl (by decide) rfl ?_
    refine tr_goto g 18 dL_law_1129 rfl ?_
    refine tr_sub [1, 2, 3, 0] (lv' := [(0, .ref b), (1, .ref (tn_ad E 0)), (2, .ref (tn_ad E 5)), (3, .int (x3 + 6))]) rfl ?_
    exact hc18 _ _
  · refine tr_iconst (v := 0) g 737 dL_law_736 rfl rfl ?_
    exact tr_none
def F_L_law_671 (xs : Nat → Int32) (L : Nat) (c18 : Int32 → tn_M → Option (Unit × tn_M)) (x3 : Int32) (σ : tn_M) : Option (Unit × tn_M) :=
  tn_ck (x3 + 1) L <|
  tn_ck (x3 + 2) L <|
  tn_bd (f_X4_always (xs (tn_x (x3 + 1))) (xs (tn_x (x3 + 2))) σ) fun r2 σ1 =>
  tn_ck (x3 + 1) L <|
  tn_ck (x3 + 2) L <|
  tn_bd (f_X5_always (xs (tn_x (x3 + 1))) (xs (tn_x (x3 + 2))) σ1) fun r4 σ3 =>
  if r2 = r4 then
    c18 (x3 + 6) σ3
  else
    none
set_option maxHeartbeats 8000000 in
set_option maxRecDepth 50000 in
theorem b_L_law_671 {E : tn_E} {G : tn_G} (g : tn_Ok E G cL_law RL 4 room_1) {b L : Nat} {xs : Nat → Int32} (hX : va_X b L xs (tg_s G) (tg_s G).heap) (hbl : b < (tg_s G).heap.size) (hbA : ¬ tg_A G b) (hE : ∀ (pc : Nat) (lv : List (Nat × Value)) (σ : tn_M), decode cL_law pc = .ok (.ireturn, 1) → tn_V E G (fun _ : Unit => none) pc lv [.int 1] σ (some ((), σ))) (c18 : Int32 → tn_M → Option (Unit × tn_M)) (hc18 : ∀ (x3 : Int32) (σ : tn_M), tn_V E G (fun _ : Unit => none) 18 [(0, .ref b), (1, .ref (tn_ad E 0)), (2, .ref (tn_ad E 5)), (3, .int x3)] [] σ (c18 x3 σ)) (x3 : Int32) (σ : tn_M) : tn_V E G (fun _ : Unit => none) 671 [(0, .ref b), (1, .ref (tn_ad E 0)), (2, .ref (tn_ad E 5)), (3, .int x3)] [] σ (F_L_law_671 xs L c18 x3 σ) := by
  unfold F_L_law_671
  refine tr_aload_n g 1 672 dL_law_671 rfl rfl rfl ?_
  refine tr_aload_n g 0 673 dL_law_672 rfl rfl rfl ?_
  refine tr_iload_n g 3 674 dL_law_673 rfl rfl rfl ?_
  refine tr_iconst (v := 1) g 675 dL_law_674 rfl rfl ?_
  refine tr_iadd g 676 dL_law_675 rfl ?_
  refine tr_sld g hX hbl hbA 677 dL_law_676 rfl ?_
  refine tr_aload_n g 0 678 dL_law_677 rfl rfl rfl ?_
  refine tr_iload_n g 3 679 dL_law_678 rfl rfl rfl ?_
  refine tr_iconst (v := 2) g 680 dL_law_679 rfl rfl ?_
  refine tr_iadd g 681 dL_law_680 rfl ?_
  refine tr_sld g hX hbl hbA 682 dL_law_681 rfl ?_
  refine kv_X4_always g wd_567 ⟨Nat.le_of_ble_eq_true rfl, Nat.le_of_ble_eq_true rfl⟩ (Nat.le_of_ble_eq_true rfl) 685 dL_law_682 rfl (fun r2 σ1 => ?_)
  refine tr_aload_n g 2 686 dL_law_685 rfl rfl rfl ?_
  refine tr_aload_n g 0 687 dL_law_686 rfl rfl rfl ?_
  refine tr_iload_n g 3 688 dL_law_687 rfl rfl rfl ?_
  refine tr_iconst (v := 1) g 689 dL_law_688 rfl rfl ?_
  refine tr_iadd g 690 dL_law_689 rfl ?_
  refine tr_sld g hX hbl hbA 691 dL_law_690 rfl ?_
  refine tr_aload_n g 0 692 dL_law_691 rfl rfl rfl ?_
  refine tr_iload_n g 3 693 dL_law_692 rfl rfl rfl ?_
  refine tr_iconst (v := 2) g 694 dL_law_693 rfl rfl ?_
  refine tr_iadd g 695 dL_law_694 rfl ?_
  refine tr_sld g hX hbl hbA 696 dL_law_695 rfl ?_
  refine kv_X5_always g wd_1057 ⟨Nat.le_of_ble_eq_true rfl, Nat.le_of_ble_eq_true rfl⟩ (Nat.le_of_ble_eq_true rfl) 699 dL_law_696 rfl (fun r4 σ3 => ?_)
  refine tr_leq g 1126 703 dL_law_699 dL_law_700 rfl rfl ?_ ?_
  · refine tr_iinc (lv' := [(3, .int (x3 + 6)), (0, .ref b), (1, .ref (tn_ad E 0)), (2, .ref (tn_ad E 5))]) (x := (x3 + 6)) g 3 1129 dL_law_1126 rfl rfl rfl (by decide) rfl ?_
    refine tr_goto g 18 dL_law_1129 rfl ?_
    refine tr_sub [1, 2, 3, 0] (lv' := [(0, .ref b), (1, .ref (tn_ad E 0)), (2, .ref (tn_ad E 5)), (3, .int (x3 + 6))]) rfl ?_
    exact hc18 _ _
  · refine tr_iconst (v := 0) g 704 dL_law_703 rfl rfl ?_
    exact tr_none
def F_L_law_648 (xs : Nat → Int32) (L : Nat) (c18 : Int32 → tn_M → Option (Unit × tn_M)) (x3 : Int32) (σ : tn_M) : Option (Unit × tn_M) :=
  tn_ck (x3 + 1) L <|
  tn_bd (f_X4_edge (xs (tn_x (x3 + 1))) σ) fun r2 σ1 =>
  tn_ck (x3 + 1) L <|
  tn_bd (f_X5_edge (xs (tn_x (x3 + 1))) σ1) fun r4 σ3 =>
  if r2 = r4 then
    c18 (x3 + 6) σ3
  else
    none
set_option maxHeartbeats 8000000 in
set_option maxRecDepth 50000 in
theorem b_L_law_648 {E : tn_E} {G : tn_G} (g : tn_Ok E G cL_law RL 4 room_1) {b L : Nat} {xs : Nat → Int32} (hX : va_X b L xs (tg_s G) (tg_s G).heap) (hbl : b < (tg_s G).heap.size) (hbA : ¬ tg_A G b) (hE : ∀ (pc : Nat) (lv : List (Nat × Value)) (σ : tn_M), decode cL_law pc = .ok (.ireturn, 1) → tn_V E G (fun _ : Unit => none) pc lv [.int 1] σ (some ((), σ))) (c18 : Int32 → tn_M → Option (Unit × tn_M)) (hc18 : ∀ (x3 : Int32) (σ : tn_M), tn_V E G (fun _ : Unit => none) 18 [(0, .ref b), (1, .ref (tn_ad E 0)), (2, .ref (tn_ad E 5)), (3, .int x3)] [] σ (c18 x3 σ)) (x3 : Int32) (σ : tn_M) : tn_V E G (fun _ : Unit => none) 648 [(0, .ref b), (1, .ref (tn_ad E 0)), (2, .ref (tn_ad E 5)), (3, .int x3)] [] σ (F_L_law_648 xs L c18 x3 σ) := by
  unfold F_L_law_648
  refine tr_aload_n g 1 649 dL_law_648 rfl rfl rfl ?_
  refine tr_aload_n g 0 650 dL_law_649 rfl rfl rfl ?_
  refine tr_iload_n g 3 651 dL_law_650 rfl rfl rfl ?_
  refine tr_iconst (v := 1) g 652 dL_law_651 rfl rfl ?_
  refine tr_iadd g 653 dL_law_652 rfl ?_
  refine tr_sld g hX hbl hbA 654 dL_law_653 rfl ?_
  refine kv_X4_edge g wd_557 ⟨Nat.le_of_ble_eq_true rfl, Nat.le_of_ble_eq_true rfl⟩ (Nat.le_of_ble_eq_true rfl) 657 dL_law_654 rfl (fun r2 σ1 => ?_)
  refine tr_aload_n g 2 658 dL_law_657 rfl rfl rfl ?_
  refine tr_aload_n g 0 659 dL_law_658 rfl rfl rfl ?_
  refine tr_iload_n g 3 660 dL_law_659 rfl rfl rfl ?_
  refine tr_iconst (v := 1) g 661 dL_law_660 rfl rfl ?_
  refine tr_iadd g 662 dL_law_661 rfl ?_
  refine tr_sld g hX hbl hbA 663 dL_law_662 rfl ?_
  refine kv_X5_edge g wd_1053 ⟨Nat.le_of_ble_eq_true rfl, Nat.le_of_ble_eq_true rfl⟩ (Nat.le_of_ble_eq_true rfl) 666 dL_law_663 rfl (fun r4 σ3 => ?_)
  refine tr_icmp_eq g 1126 669 dL_law_666 rfl rfl ?_ ?_
  · refine tr_iinc (lv' := [(3, .int (x3 + 6)), (0, .ref b), (1, .ref (tn_ad E 0)), (2, .ref (tn_ad E 5))]) (x := (x3 + 6)) g 3 1129 dL_law_1126 rfl rfl rfl (by decide) rfl ?_
    refine tr_goto g 18 dL_law_1129 rfl ?_
    refine tr_sub [1, 2, 3, 0] (lv' := [(0, .ref b), (1, .ref (tn_ad E 0)), (2, .ref (tn_ad E 5)), (3, .int (x3 + 6))]) rfl ?_
    exact hc18 _ _
  · refine tr_iconst (v := 0) g 670 dL_law_669 rfl rfl ?_
    exact tr_none
def F_L_law_624 (xs : Nat → Int32) (L : Nat) (c18 : Int32 → tn_M → Option (Unit × tn_M)) (x3 : Int32) (σ : tn_M) : Option (Unit × tn_M) :=
  tn_ck (x3 + 1) L <|
  tn_bd (f_X4_bestCap (xs (tn_x (x3 + 1))) σ) fun r2 σ1 =>
  tn_ck (x3 + 1) L <|
  tn_bd (f_X5_bestCap (xs (tn_x (x3 + 1))) σ1) fun r4 σ3 =>
  if r2 = r4 then
    c18 (x3 + 6) σ3
  else
    none
set_option maxHeartbeats 8000000 in
set_option maxRecDepth 50000 in
theorem b_L_law_624 {E : tn_E} {G : tn_G} (g : tn_Ok E G cL_law RL 4 room_1) {b L : Nat} {xs : Nat → Int32} (hX : va_X b L xs (tg_s G) (tg_s G).heap) (hbl : b < (tg_s G).heap.size) (hbA : ¬ tg_A G b) (hE : ∀ (pc : Nat) (lv : List (Nat × Value)) (σ : tn_M), decode cL_law pc = .ok (.ireturn, 1) → tn_V E G (fun _ : Unit => none) pc lv [.int 1] σ (some ((), σ))) (c18 : Int32 → tn_M → Option (Unit × tn_M)) (hc18 : ∀ (x3 : Int32) (σ : tn_M), tn_V E G (fun _ : Unit => none) 18 [(0, .ref b), (1, .ref (tn_ad E 0)), (2, .ref (tn_ad E 5)), (3, .int x3)] [] σ (c18 x3 σ)) (x3 : Int32) (σ : tn_M) : tn_V E G (fun _ : Unit => none) 624 [(0, .ref b), (1, .ref (tn_ad E 0)), (2, .ref (tn_ad E 5)), (3, .int x3)] [] σ (F_L_law_624 xs L c18 x3 σ) := by
  unfold F_L_law_624
  refine tr_aload_n g 1 625 dL_law_624 rfl rfl rfl ?_
  refine tr_aload_n g 0 626 dL_law_625 rfl rfl rfl ?_
  refine tr_iload_n g 3 627 dL_law_626 rfl rfl rfl ?_
  refine tr_iconst (v := 1) g 628 dL_law_627 rfl rfl ?_
  refine tr_iadd g 629 dL_law_628 rfl ?_
  refine tr_sld g hX hbl hbA 630 dL_law_629 rfl ?_
  refine kv_X4_bestCap g wd_537 ⟨Nat.le_of_ble_eq_true rfl, Nat.le_of_ble_eq_true rfl⟩ (Nat.le_of_ble_eq_true rfl) 633 dL_law_630 rfl (fun r2 σ1 => ?_)
  refine tr_aload_n g 2 634 dL_law_633 rfl rfl rfl ?_
  refine tr_aload_n g 0 635 dL_law_634 rfl rfl rfl ?_
  refine tr_iload_n g 3 636 dL_law_635 rfl rfl rfl ?_
  refine tr_iconst (v := 1) g 637 dL_law_636 rfl rfl ?_
  refine tr_iadd g 638 dL_law_637 rfl ?_
  refine tr_sld g hX hbl hbA 639 dL_law_638 rfl ?_
  refine kv_X5_bestCap g wd_1049 ⟨Nat.le_of_ble_eq_true rfl, Nat.le_of_ble_eq_true rfl⟩ (Nat.le_of_ble_eq_true rfl) 642 dL_law_639 rfl (fun r4 σ3 => ?_)
  refine tr_leq g 1126 646 dL_law_642 dL_law_643 rfl rfl ?_ ?_
  · refine tr_iinc (lv' := [(3, .int (x3 + 6)), (0, .ref b), (1, .ref (tn_ad E 0)), (2, .ref (tn_ad E 5))]) (x := (x3 + 6)) g 3 1129 dL_law_1126 rfl rfl rfl (by decide) rfl ?_
    refine tr_goto g 18 dL_law_1129 rfl ?_
    refine tr_sub [1, 2, 3, 0] (lv' := [(0, .ref b), (1, .ref (tn_ad E 0)), (2, .ref (tn_ad E 5)), (3, .int (x3 + 6))]) rfl ?_
    exact hc18 _ _
  · refine tr_iconst (v := 0) g 647 dL_law_646 rfl rfl ?_
    exact tr_none
def F_L_law_611 (xs : Nat → Int32) (L : Nat) (c18 : Int32 → tn_M → Option (Unit × tn_M)) (x3 : Int32) (σ : tn_M) : Option (Unit × tn_M) :=
  tn_bd (f_X4_leastFine σ) fun r2 σ1 =>
  tn_bd (f_X5_leastFine σ1) fun r4 σ3 =>
  if r2 = r4 then
    c18 (x3 + 6) σ3
  else
    none
set_option maxHeartbeats 8000000 in
set_option maxRecDepth 50000 in
theorem b_L_law_611 {E : tn_E} {G : tn_G} (g : tn_Ok E G cL_law RL 4 room_1) {b L : Nat} {xs : Nat → Int32} (hX : va_X b L xs (tg_s G) (tg_s G).heap) (hbl : b < (tg_s G).heap.size) (hbA : ¬ tg_A G b) (hE : ∀ (pc : Nat) (lv : List (Nat × Value)) (σ : tn_M), decode cL_law pc = .ok (.ireturn, 1) → tn_V E G (fun _ : Unit => none) pc lv [.int 1] σ (some ((), σ))) (c18 : Int32 → tn_M → Option (Unit × tn_M)) (hc18 : ∀ (x3 : Int32) (σ : tn_M), tn_V E G (fun _ : Unit => none) 18 [(0, .ref b), (1, .ref (tn_ad E 0)), (2, .ref (tn_ad E 5)), (3, .int x3)] [] σ (c18 x3 σ)) (x3 : Int32) (σ : tn_M) : tn_V E G (fun _ : Unit => none) 611 [(0, .ref b), (1, .ref (tn_ad E 0)), (2, .ref (tn_ad E 5)), (3, .int x3)] [] σ (F_L_law_611 xs L c18 x3 σ) := by
  unfold F_L_law_611
  refine tr_aload_n g 1 612 dL_law_611 rfl rfl rfl ?_
  refine kv_X4_leastFine g wd_513 ⟨Nat.le_of_ble_eq_true rfl, Nat.le_of_ble_eq_true rfl⟩ (Nat.le_of_ble_eq_true rfl) 615 dL_law_612 rfl (fun r2 σ1 => ?_)
  refine tr_aload_n g 2 616 dL_law_615 rfl rfl rfl ?_
  refine kv_X5_leastFine g wd_1041 ⟨Nat.le_of_ble_eq_true rfl, Nat.le_of_ble_eq_true rfl⟩ (Nat.le_of_ble_eq_true rfl) 619 dL_law_616 rfl (fun r4 σ3 => ?_)
  refine tr_icmp_eq g 1126 622 dL_law_619 rfl rfl ?_ ?_
  · refine tr_iinc (lv' := [(3, .int (x3 + 6)), (0, .ref b), (1, .ref (tn_ad E 0)), (2, .ref (tn_ad E 5))]) (x := (x3 + 6)) g 3 1129 dL_law_1126 rfl rfl rfl (by decide) rfl ?_
    refine tr_goto g 18 dL_law_1129 rfl ?_
    refine tr_sub [1, 2, 3, 0] (lv' := [(0, .ref b), (1, .ref (tn_ad E 0)), (2, .ref (tn_ad E 5)), (3, .int (x3 + 6))]) rfl ?_
    exact hc18 _ _
  · refine tr_iconst (v := 0) g 623 dL_law_622 rfl rfl ?_
    exact tr_none
def F_L_law_587 (xs : Nat → Int32) (L : Nat) (c18 : Int32 → tn_M → Option (Unit × tn_M)) (x3 : Int32) (σ : tn_M) : Option (Unit × tn_M) :=
  tn_ck (x3 + 1) L <|
  tn_bd (f_X4_loss (xs (tn_x (x3 + 1))) σ) fun r2 σ1 =>
  tn_ck (x3 + 1) L <|
  tn_bd (f_X5_loss (xs (tn_x (x3 + 1))) σ1) fun r4 σ3 =>
  if r2 = r4 then
    c18 (x3 + 6) σ3
  else
    none
set_option maxHeartbeats 8000000 in
set_option maxRecDepth 50000 in
theorem b_L_law_587 {E : tn_E} {G : tn_G} (g : tn_Ok E G cL_law RL 4 room_1) {b L : Nat} {xs : Nat → Int32} (hX : va_X b L xs (tg_s G) (tg_s G).heap) (hbl : b < (tg_s G).heap.size) (hbA : ¬ tg_A G b) (hE : ∀ (pc : Nat) (lv : List (Nat × Value)) (σ : tn_M), decode cL_law pc = .ok (.ireturn, 1) → tn_V E G (fun _ : Unit => none) pc lv [.int 1] σ (some ((), σ))) (c18 : Int32 → tn_M → Option (Unit × tn_M)) (hc18 : ∀ (x3 : Int32) (σ : tn_M), tn_V E G (fun _ : Unit => none) 18 [(0, .ref b), (1, .ref (tn_ad E 0)), (2, .ref (tn_ad E 5)), (3, .int x3)] [] σ (c18 x3 σ)) (x3 : Int32) (σ : tn_M) : tn_V E G (fun _ : Unit => none) 587 [(0, .ref b), (1, .ref (tn_ad E 0)), (2, .ref (tn_ad E 5)), (3, .int x3)] [] σ (F_L_law_587 xs L c18 x3 σ) := by
  unfold F_L_law_587
  refine tr_aload_n g 1 588 dL_law_587 rfl rfl rfl ?_
  refine tr_aload_n g 0 589 dL_law_588 rfl rfl rfl ?_
  refine tr_iload_n g 3 590 dL_law_589 rfl rfl rfl ?_
  refine tr_iconst (v := 1) g 591 dL_law_590 rfl rfl ?_
  refine tr_iadd g 592 dL_law_591 rfl ?_
  refine tr_sld g hX hbl hbA 593 dL_law_592 rfl ?_
  refine kv_X4_loss g wd_508 ⟨Nat.le_of_ble_eq_true rfl, Nat.le_of_ble_eq_true rfl⟩ (Nat.le_of_ble_eq_true rfl) 596 dL_law_593 rfl (fun r2 σ1 => ?_)
  refine tr_aload_n g 2 597 dL_law_596 rfl rfl rfl ?_
  refine tr_aload_n g 0 598 dL_law_597 rfl rfl rfl ?_
  refine tr_iload_n g 3 599 dL_law_598 rfl rfl rfl ?_
  refine tr_iconst (v := 1) g 600 dL_law_599 rfl rfl ?_
  refine tr_iadd g 601 dL_law_600 rfl ?_
  refine tr_sld g hX hbl hbA 602 dL_law_601 rfl ?_
  refine kv_X5_loss g wd_1037 ⟨Nat.le_of_ble_eq_true rfl, Nat.le_of_ble_eq_true rfl⟩ (Nat.le_of_ble_eq_true rfl) 605 dL_law_602 rfl (fun r4 σ3 => ?_)
  refine tr_leq g 1126 609 dL_law_605 dL_law_606 rfl rfl ?_ ?_
  · refine tr_iinc (lv' := [(3, .int (x3 + 6)), (0, .ref b), (1, .ref (tn_ad E 0)), (2, .ref (tn_ad E 5))]) (x := (x3 + 6)) g 3 1129 dL_law_1126 rfl rfl rfl (by decide) rfl ?_
    refine tr_goto g 18 dL_law_1129 rfl ?_
    refine tr_sub [1, 2, 3, 0] (lv' := [(0, .ref b), (1, .ref (tn_ad E 0)), (2, .ref (tn_ad E 5)), (3, .int (x3 + 6))]) rfl ?_
    exact hc18 _ _
  · refine tr_iconst (v := 0) g 610 dL_law_609 rfl rfl ?_
    exact tr_none
def F_L_law_554 (xs : Nat → Int32) (L : Nat) (c18 : Int32 → tn_M → Option (Unit × tn_M)) (x3 : Int32) (σ : tn_M) : Option (Unit × tn_M) :=
  tn_ck (x3 + 1) L <|
  tn_ck (x3 + 2) L <|
  tn_bd (f_X4_best (xs (tn_x (x3 + 1))) (xs (tn_x (x3 + 2))) σ) fun r2 σ1 =>
  tn_ck (x3 + 1) L <|
  tn_ck (x3 + 2) L <|
  tn_bd (f_X5_best (xs (tn_x (x3 + 1))) (xs (tn_x (x3 + 2))) σ1) fun r4 σ3 =>
  if r2 = r4 then
    c18 (x3 + 6) σ3
  else
    none
set_option maxHeartbeats 8000000 in
set_option maxRecDepth 50000 in
theorem b_L_law_554 {E : tn_E} {G : tn_G} (g : tn_Ok E G cL_law RL 4 room_1) {b L : Nat} {xs : Nat → Int32} (hX : va_X b L xs (tg_s G) (tg_s G).heap) (hbl : b < (tg_s G).heap.size) (hbA : ¬ tg_A G b) (hE : ∀ (pc : Nat) (lv : List (Nat × Value)) (σ : tn_M), decode cL_law pc = .ok (.ireturn, 1) → tn_V E G (fun _ : Unit => none) pc lv [.int 1] σ (some ((), σ))) (c18 : Int32 → tn_M → Option (Unit × tn_M)) (hc18 : ∀ (x3 : Int32) (σ : tn_M), tn_V E G (fun _ : Unit => none) 18 [(0, .ref b), (1, .ref (tn_ad E 0)), (2, .ref (tn_ad E 5)), (3, .int x3)] [] σ (c18 x3 σ)) (x3 : Int32) (σ : tn_M) : tn_V E G (fun _ : Unit => none) 554 [(0, .ref b), (1, .ref (tn_ad E 0)), (2, .ref (tn_ad E 5)), (3, .int x3)] [] σ (F_L_law_554 xs L c18 x3 σ) := by
  unfold F_L_law_554
  refine tr_aload_n g 1 555 dL_law_554 rfl rfl rfl ?_
  refine tr_aload_n g 0 556 dL_law_555 rfl rfl rfl ?_
  refine tr_iload_n g 3 557 dL_law_556 rfl rfl rfl ?_
  refine tr_iconst (v := 1) g 558 dL_law_557 rfl rfl ?_
  refine tr_iadd g 559 dL_law_558 rfl ?_
  refine tr_sld g hX hbl hbA 560 dL_law_559 rfl ?_
  refine tr_aload_n g 0 561 dL_law_560 rfl rfl rfl ?_
  refine tr_iload_n g 3 562 dL_law_561 rfl rfl rfl ?_
  refine tr_iconst (v := 2) g 563 dL_law_562 rfl rfl ?_
  refine tr_iadd g 564 dL_law_563 rfl ?_
  refine tr_sld g hX hbl hbA 565 dL_law_564 rfl ?_
  refine kv_X4_best g wd_496 ⟨Nat.le_of_ble_eq_true rfl, Nat.le_of_ble_eq_true rfl⟩ (Nat.le_of_ble_eq_true rfl) 568 dL_law_565 rfl (fun r2 σ1 => ?_)
  refine tr_aload_n g 2 569 dL_law_568 rfl rfl rfl ?_
  refine tr_aload_n g 0 570 dL_law_569 rfl rfl rfl ?_
  refine tr_iload_n g 3 571 dL_law_570 rfl rfl rfl ?_
  refine tr_iconst (v := 1) g 572 dL_law_571 rfl rfl ?_
  refine tr_iadd g 573 dL_law_572 rfl ?_
  refine tr_sld g hX hbl hbA 574 dL_law_573 rfl ?_
  refine tr_aload_n g 0 575 dL_law_574 rfl rfl rfl ?_
  refine tr_iload_n g 3 576 dL_law_575 rfl rfl rfl ?_
  refine tr_iconst (v := 2) g 577 dL_law_576 rfl rfl ?_
  refine tr_iadd g 578 dL_law_577 rfl ?_
  refine tr_sld g hX hbl hbA 579 dL_law_578 rfl ?_
  refine kv_X5_best g wd_1025 ⟨Nat.le_of_ble_eq_true rfl, Nat.le_of_ble_eq_true rfl⟩ (Nat.le_of_ble_eq_true rfl) 582 dL_law_579 rfl (fun r4 σ3 => ?_)
  refine tr_icmp_eq g 1126 585 dL_law_582 rfl rfl ?_ ?_
  · refine tr_iinc (lv' := [(3, .int (x3 + 6)), (0, .ref b), (1, .ref (tn_ad E 0)), (2, .ref (tn_ad E 5))]) (x := (x3 + 6)) g 3 1129 dL_law_1126 rfl rfl rfl (by decide) rfl ?_
    refine tr_goto g 18 dL_law_1129 rfl ?_
    refine tr_sub [1, 2, 3, 0] (lv' := [(0, .ref b), (1, .ref (tn_ad E 0)), (2, .ref (tn_ad E 5)), (3, .int (x3 + 6))]) rfl ?_
    exact hc18 _ _
  · refine tr_iconst (v := 0) g 586 dL_law_585 rfl rfl ?_
    exact tr_none
def F_L_law_521 (xs : Nat → Int32) (L : Nat) (c18 : Int32 → tn_M → Option (Unit × tn_M)) (x3 : Int32) (σ : tn_M) : Option (Unit × tn_M) :=
  tn_ck (x3 + 1) L <|
  tn_ck (x3 + 2) L <|
  tn_bd (f_X4_still (xs (tn_x (x3 + 1))) (xs (tn_x (x3 + 2))) σ) fun r2 σ1 =>
  tn_ck (x3 + 1) L <|
  tn_ck (x3 + 2) L <|
  tn_bd (f_X5_still (xs (tn_x (x3 + 1))) (xs (tn_x (x3 + 2))) σ1) fun r4 σ3 =>
  if r2 = r4 then
    c18 (x3 + 6) σ3
  else
    none
set_option maxHeartbeats 8000000 in
set_option maxRecDepth 50000 in
theorem b_L_law_521 {E : tn_E} {G : tn_G} (g : tn_Ok E G cL_law RL 4 room_1) {b L : Nat} {xs : Nat → Int32} (hX : va_X b L xs (tg_s G) (tg_s G).heap) (hbl : b < (tg_s G).heap.size) (hbA : ¬ tg_A G b) (hE : ∀ (pc : Nat) (lv : List (Nat × Value)) (σ : tn_M), decode cL_law pc = .ok (.ireturn, 1) → tn_V E G (fun _ : Unit => none) pc lv [.int 1] σ (some ((), σ))) (c18 : Int32 → tn_M → Option (Unit × tn_M)) (hc18 : ∀ (x3 : Int32) (σ : tn_M), tn_V E G (fun _ : Unit => none) 18 [(0, .ref b), (1, .ref (tn_ad E 0)), (2, .ref (tn_ad E 5)), (3, .int x3)] [] σ (c18 x3 σ)) (x3 : Int32) (σ : tn_M) : tn_V E G (fun _ : Unit => none) 521 [(0, .ref b), (1, .ref (tn_ad E 0)), (2, .ref (tn_ad E 5)), (3, .int x3)] [] σ (F_L_law_521 xs L c18 x3 σ) := by
  unfold F_L_law_521
  refine tr_aload_n g 1 522 dL_law_521 rfl rfl rfl ?_
  refine tr_aload_n g 0 523 dL_law_522 rfl rfl rfl ?_
  refine tr_iload_n g 3 524 dL_law_523 rfl rfl rfl ?_
  refine tr_iconst (v := 1) g 525 dL_law_524 rfl rfl ?_
  refine tr_iadd g 526 dL_law_525 rfl ?_
  refine tr_sld g hX hbl hbA 527 dL_law_526 rfl ?_
  refine tr_aload_n g 0 528 dL_law_527 rfl rfl rfl ?_
  refine tr_iload_n g 3 529 dL_law_528 rfl rfl rfl ?_
  refine tr_iconst (v := 2) g 530 dL_law_529 rfl rfl ?_
  refine tr_iadd g 531 dL_law_530 rfl ?_
  refine tr_sld g hX hbl hbA 532 dL_law_531 rfl ?_
  refine kv_X4_still g wd_468 ⟨Nat.le_of_ble_eq_true rfl, Nat.le_of_ble_eq_true rfl⟩ (Nat.le_of_ble_eq_true rfl) 535 dL_law_532 rfl (fun r2 σ1 => ?_)
  refine tr_aload_n g 2 536 dL_law_535 rfl rfl rfl ?_
  refine tr_aload_n g 0 537 dL_law_536 rfl rfl rfl ?_
  refine tr_iload_n g 3 538 dL_law_537 rfl rfl rfl ?_
  refine tr_iconst (v := 1) g 539 dL_law_538 rfl rfl ?_
  refine tr_iadd g 540 dL_law_539 rfl ?_
  refine tr_sld g hX hbl hbA 541 dL_law_540 rfl ?_
  refine tr_aload_n g 0 542 dL_law_541 rfl rfl rfl ?_
  refine tr_iload_n g 3 543 dL_law_542 rfl rfl rfl ?_
  refine tr_iconst (v := 2) g 544 dL_law_543 rfl rfl ?_
  refine tr_iadd g 545 dL_law_544 rfl ?_
  refine tr_sld g hX hbl hbA 546 dL_law_545 rfl ?_
  refine kv_X5_still g wd_1009 ⟨Nat.le_of_ble_eq_true rfl, Nat.le_of_ble_eq_true rfl⟩ (Nat.le_of_ble_eq_true rfl) 549 dL_law_546 rfl (fun r4 σ3 => ?_)
  refine tr_icmp_eq g 1126 552 dL_law_549 rfl rfl ?_ ?_
  · refine tr_iinc (lv' := [(3, .int (x3 + 6)), (0, .ref b), (1, .ref (tn_ad E 0)), (2, .ref (tn_ad E 5))]) (x := (x3 + 6)) g 3 1129 dL_law_1126 rfl rfl rfl (by decide) rfl ?_
    refine tr_goto g 18 dL_law_1129 rfl ?_
    refine tr_sub [1, 2, 3, 0] (lv' := [(0, .ref b), (1, .ref (tn_ad E 0)), (2, .ref (tn_ad E 5)), (3, .int (x3 + 6))]) rfl ?_
    exact hc18 _ _
  · refine tr_iconst (v := 0) g 553 dL_law_552 rfl rfl ?_
    exact tr_none
def F_L_law_498 (xs : Nat → Int32) (L : Nat) (c18 : Int32 → tn_M → Option (Unit × tn_M)) (x3 : Int32) (σ : tn_M) : Option (Unit × tn_M) :=
  tn_ck (x3 + 1) L <|
  tn_bd (f_X4_rest (xs (tn_x (x3 + 1))) σ) fun r2 σ1 =>
  tn_ck (x3 + 1) L <|
  tn_bd (f_X5_rest (xs (tn_x (x3 + 1))) σ1) fun r4 σ3 =>
  if r2 = r4 then
    c18 (x3 + 6) σ3
  else
    none
set_option maxHeartbeats 8000000 in
set_option maxRecDepth 50000 in
theorem b_L_law_498 {E : tn_E} {G : tn_G} (g : tn_Ok E G cL_law RL 4 room_1) {b L : Nat} {xs : Nat → Int32} (hX : va_X b L xs (tg_s G) (tg_s G).heap) (hbl : b < (tg_s G).heap.size) (hbA : ¬ tg_A G b) (hE : ∀ (pc : Nat) (lv : List (Nat × Value)) (σ : tn_M), decode cL_law pc = .ok (.ireturn, 1) → tn_V E G (fun _ : Unit => none) pc lv [.int 1] σ (some ((), σ))) (c18 : Int32 → tn_M → Option (Unit × tn_M)) (hc18 : ∀ (x3 : Int32) (σ : tn_M), tn_V E G (fun _ : Unit => none) 18 [(0, .ref b), (1, .ref (tn_ad E 0)), (2, .ref (tn_ad E 5)), (3, .int x3)] [] σ (c18 x3 σ)) (x3 : Int32) (σ : tn_M) : tn_V E G (fun _ : Unit => none) 498 [(0, .ref b), (1, .ref (tn_ad E 0)), (2, .ref (tn_ad E 5)), (3, .int x3)] [] σ (F_L_law_498 xs L c18 x3 σ) := by
  unfold F_L_law_498
  refine tr_aload_n g 1 499 dL_law_498 rfl rfl rfl ?_
  refine tr_aload_n g 0 500 dL_law_499 rfl rfl rfl ?_
  refine tr_iload_n g 3 501 dL_law_500 rfl rfl rfl ?_
  refine tr_iconst (v := 1) g 502 dL_law_501 rfl rfl ?_
  refine tr_iadd g 503 dL_law_502 rfl ?_
  refine tr_sld g hX hbl hbA 504 dL_law_503 rfl ?_
  refine kv_X4_rest g wd_459 ⟨Nat.le_of_ble_eq_true rfl, Nat.le_of_ble_eq_true rfl⟩ (Nat.le_of_ble_eq_true rfl) 507 dL_law_504 rfl (fun r2 σ1 => ?_)
  refine tr_aload_n g 2 508 dL_law_507 rfl rfl rfl ?_
  refine tr_aload_n g 0 509 dL_law_508 rfl rfl rfl ?_
  refine tr_iload_n g 3 510 dL_law_509 rfl rfl rfl ?_
  refine tr_iconst (v := 1) g 511 dL_law_510 rfl rfl ?_
  refine tr_iadd g 512 dL_law_511 rfl ?_
  refine tr_sld g hX hbl hbA 513 dL_law_512 rfl ?_
  refine kv_X5_rest g wd_993 ⟨Nat.le_of_ble_eq_true rfl, Nat.le_of_ble_eq_true rfl⟩ (Nat.le_of_ble_eq_true rfl) 516 dL_law_513 rfl (fun r4 σ3 => ?_)
  refine tr_icmp_eq g 1126 519 dL_law_516 rfl rfl ?_ ?_
  · refine tr_iinc (lv' := [(3, .int (x3 + 6)), (0, .ref b), (1, .ref (tn_ad E 0)), (2, .ref (tn_ad E 5))]) (x := (x3 + 6)) g 3 1129 dL_law_1126 rfl rfl rfl (by decide) rfl ?_
    refine tr_goto g 18 dL_law_1129 rfl ?_
    refine tr_sub [1, 2, 3, 0] (lv' := [(0, .ref b), (1, .ref (tn_ad E 0)), (2, .ref (tn_ad E 5)), (3, .int (x3 + 6))]) rfl ?_
    exact hc18 _ _
  · refine tr_iconst (v := 0) g 520 dL_law_519 rfl rfl ?_
    exact tr_none
def F_L_law_475 (xs : Nat → Int32) (L : Nat) (c18 : Int32 → tn_M → Option (Unit × tn_M)) (x3 : Int32) (σ : tn_M) : Option (Unit × tn_M) :=
  tn_ck (x3 + 1) L <|
  tn_bd (f_X4_answer (xs (tn_x (x3 + 1))) σ) fun r2 σ1 =>
  tn_ck (x3 + 1) L <|
  tn_bd (f_X5_answer (xs (tn_x (x3 + 1))) σ1) fun r4 σ3 =>
  if r2 = r4 then
    c18 (x3 + 6) σ3
  else
    none
set_option maxHeartbeats 8000000 in
set_option maxRecDepth 50000 in
theorem b_L_law_475 {E : tn_E} {G : tn_G} (g : tn_Ok E G cL_law RL 4 room_1) {b L : Nat} {xs : Nat → Int32} (hX : va_X b L xs (tg_s G) (tg_s G).heap) (hbl : b < (tg_s G).heap.size) (hbA : ¬ tg_A G b) (hE : ∀ (pc : Nat) (lv : List (Nat × Value)) (σ : tn_M), decode cL_law pc = .ok (.ireturn, 1) → tn_V E G (fun _ : Unit => none) pc lv [.int 1] σ (some ((), σ))) (c18 : Int32 → tn_M → Option (Unit × tn_M)) (hc18 : ∀ (x3 : Int32) (σ : tn_M), tn_V E G (fun _ : Unit => none) 18 [(0, .ref b), (1, .ref (tn_ad E 0)), (2, .ref (tn_ad E 5)), (3, .int x3)] [] σ (c18 x3 σ)) (x3 : Int32) (σ : tn_M) : tn_V E G (fun _ : Unit => none) 475 [(0, .ref b), (1, .ref (tn_ad E 0)), (2, .ref (tn_ad E 5)), (3, .int x3)] [] σ (F_L_law_475 xs L c18 x3 σ) := by
  unfold F_L_law_475
  refine tr_aload_n g 1 476 dL_law_475 rfl rfl rfl ?_
  refine tr_aload_n g 0 477 dL_law_476 rfl rfl rfl ?_
  refine tr_iload_n g 3 478 dL_law_477 rfl rfl rfl ?_
  refine tr_iconst (v := 1) g 479 dL_law_478 rfl rfl ?_
  refine tr_iadd g 480 dL_law_479 rfl ?_
  refine tr_sld g hX hbl hbA 481 dL_law_480 rfl ?_
  refine kv_X4_answer g wd_447 ⟨Nat.le_of_ble_eq_true rfl, Nat.le_of_ble_eq_true rfl⟩ (Nat.le_of_ble_eq_true rfl) 484 dL_law_481 rfl (fun r2 σ1 => ?_)
  refine tr_aload_n g 2 485 dL_law_484 rfl rfl rfl ?_
  refine tr_aload_n g 0 486 dL_law_485 rfl rfl rfl ?_
  refine tr_iload_n g 3 487 dL_law_486 rfl rfl rfl ?_
  refine tr_iconst (v := 1) g 488 dL_law_487 rfl rfl ?_
  refine tr_iadd g 489 dL_law_488 rfl ?_
  refine tr_sld g hX hbl hbA 490 dL_law_489 rfl ?_
  refine kv_X5_answer g wd_977 ⟨Nat.le_of_ble_eq_true rfl, Nat.le_of_ble_eq_true rfl⟩ (Nat.le_of_ble_eq_true rfl) 493 dL_law_490 rfl (fun r4 σ3 => ?_)
  refine tr_icmp_eq g 1126 496 dL_law_493 rfl rfl ?_ ?_
  · refine tr_iinc (lv' := [(3, .int (x3 + 6)), (0, .ref b), (1, .ref (tn_ad E 0)), (2, .ref (tn_ad E 5))]) (x := (x3 + 6)) g 3 1129 dL_law_1126 rfl rfl rfl (by decide) rfl ?_
    refine tr_goto g 18 dL_law_1129 rfl ?_
    refine tr_sub [1, 2, 3, 0] (lv' := [(0, .ref b), (1, .ref (tn_ad E 0)), (2, .ref (tn_ad E 5)), (3, .int (x3 + 6))]) rfl ?_
    exact hc18 _ _
  · refine tr_iconst (v := 0) g 497 dL_law_496 rfl rfl ?_
    exact tr_none
def F_L_law_441 (xs : Nat → Int32) (L : Nat) (c18 : Int32 → tn_M → Option (Unit × tn_M)) (x3 : Int32) (σ : tn_M) : Option (Unit × tn_M) :=
  tn_ck (x3 + 1) L <|
  tn_ck (x3 + 2) L <|
  tn_bd (f_X4_all (xs (tn_x (x3 + 1))) (xs (tn_x (x3 + 2))) σ) fun r2 σ1 =>
  tn_ck (x3 + 1) L <|
  tn_ck (x3 + 2) L <|
  tn_bd (f_X5_all (xs (tn_x (x3 + 1))) (xs (tn_x (x3 + 2))) σ1) fun r4 σ3 =>
  if r2 = r4 then
    c18 (x3 + 6) σ3
  else
    none
set_option maxHeartbeats 8000000 in
set_option maxRecDepth 50000 in
theorem b_L_law_441 {E : tn_E} {G : tn_G} (g : tn_Ok E G cL_law RL 4 room_1) {b L : Nat} {xs : Nat → Int32} (hX : va_X b L xs (tg_s G) (tg_s G).heap) (hbl : b < (tg_s G).heap.size) (hbA : ¬ tg_A G b) (hE : ∀ (pc : Nat) (lv : List (Nat × Value)) (σ : tn_M), decode cL_law pc = .ok (.ireturn, 1) → tn_V E G (fun _ : Unit => none) pc lv [.int 1] σ (some ((), σ))) (c18 : Int32 → tn_M → Option (Unit × tn_M)) (hc18 : ∀ (x3 : Int32) (σ : tn_M), tn_V E G (fun _ : Unit => none) 18 [(0, .ref b), (1, .ref (tn_ad E 0)), (2, .ref (tn_ad E 5)), (3, .int x3)] [] σ (c18 x3 σ)) (x3 : Int32) (σ : tn_M) : tn_V E G (fun _ : Unit => none) 441 [(0, .ref b), (1, .ref (tn_ad E 0)), (2, .ref (tn_ad E 5)), (3, .int x3)] [] σ (F_L_law_441 xs L c18 x3 σ) := by
  unfold F_L_law_441
  refine tr_aload_n g 1 442 dL_law_441 rfl rfl rfl ?_
  refine tr_aload_n g 0 443 dL_law_442 rfl rfl rfl ?_
  refine tr_iload_n g 3 444 dL_law_443 rfl rfl rfl ?_
  refine tr_iconst (v := 1) g 445 dL_law_444 rfl rfl ?_
  refine tr_iadd g 446 dL_law_445 rfl ?_
  refine tr_sld g hX hbl hbA 447 dL_law_446 rfl ?_
  refine tr_aload_n g 0 448 dL_law_447 rfl rfl rfl ?_
  refine tr_iload_n g 3 449 dL_law_448 rfl rfl rfl ?_
  refine tr_iconst (v := 2) g 450 dL_law_449 rfl rfl ?_
  refine tr_iadd g 451 dL_law_450 rfl ?_
  refine tr_sld g hX hbl hbA 452 dL_law_451 rfl ?_
  refine kv_X4_all g wd_435 ⟨Nat.le_of_ble_eq_true rfl, Nat.le_of_ble_eq_true rfl⟩ (Nat.le_of_ble_eq_true rfl) 455 dL_law_452 rfl (fun r2 σ1 => ?_)
  refine tr_aload_n g 2 456 dL_law_455 rfl rfl rfl ?_
  refine tr_aload_n g 0 457 dL_law_456 rfl rfl rfl ?_
  refine tr_iload_n g 3 458 dL_law_457 rfl rfl rfl ?_
  refine tr_iconst (v := 1) g 459 dL_law_458 rfl rfl ?_
  refine tr_iadd g 460 dL_law_459 rfl ?_
  refine tr_sld g hX hbl hbA 461 dL_law_460 rfl ?_
  refine tr_aload_n g 0 462 dL_law_461 rfl rfl rfl ?_
  refine tr_iload_n g 3 463 dL_law_462 rfl rfl rfl ?_
  refine tr_iconst (v := 2) g 464 dL_law_463 rfl rfl ?_
  refine tr_iadd g 465 dL_law_464 rfl ?_
  refine tr_sld g hX hbl hbA 466 dL_law_465 rfl ?_
  refine kv_X5_all g wd_965 ⟨Nat.le_of_ble_eq_true rfl, Nat.le_of_ble_eq_true rfl⟩ (Nat.le_of_ble_eq_true rfl) 469 dL_law_466 rfl (fun r4 σ3 => ?_)
  refine tr_leq g 1126 473 dL_law_469 dL_law_470 rfl rfl ?_ ?_
  · refine tr_iinc (lv' := [(3, .int (x3 + 6)), (0, .ref b), (1, .ref (tn_ad E 0)), (2, .ref (tn_ad E 5))]) (x := (x3 + 6)) g 3 1129 dL_law_1126 rfl rfl rfl (by decide) rfl ?_
    refine tr_goto g 18 dL_law_1129 rfl ?_
    refine tr_sub [1, 2, 3, 0] (lv' := [(0, .ref b), (1, .ref (tn_ad E 0)), (2, .ref (tn_ad E 5)), (3, .int (x3 + 6))]) rfl ?_
    exact hc18 _ _
  · refine tr_iconst (v := 0) g 474 dL_law_473 rfl rfl ?_
    exact tr_none
def F_L_law_407 (xs : Nat → Int32) (L : Nat) (c18 : Int32 → tn_M → Option (Unit × tn_M)) (x3 : Int32) (σ : tn_M) : Option (Unit × tn_M) :=
  tn_ck (x3 + 1) L <|
  tn_ck (x3 + 2) L <|
  tn_bd (f_X4_earns (xs (tn_x (x3 + 1))) (xs (tn_x (x3 + 2))) σ) fun r2 σ1 =>
  tn_ck (x3 + 1) L <|
  tn_ck (x3 + 2) L <|
  tn_bd (f_X5_earns (xs (tn_x (x3 + 1))) (xs (tn_x (x3 + 2))) σ1) fun r4 σ3 =>
  if r2 = r4 then
    c18 (x3 + 6) σ3
  else
    none
set_option maxHeartbeats 8000000 in
set_option maxRecDepth 50000 in
theorem b_L_law_407 {E : tn_E} {G : tn_G} (g : tn_Ok E G cL_law RL 4 room_1) {b L : Nat} {xs : Nat → Int32} (hX : va_X b L xs (tg_s G) (tg_s G).heap) (hbl : b < (tg_s G).heap.size) (hbA : ¬ tg_A G b) (hE : ∀ (pc : Nat) (lv : List (Nat × Value)) (σ : tn_M), decode cL_law pc = .ok (.ireturn, 1) → tn_V E G (fun _ : Unit => none) pc lv [.int 1] σ (some ((), σ))) (c18 : Int32 → tn_M → Option (Unit × tn_M)) (hc18 : ∀ (x3 : Int32) (σ : tn_M), tn_V E G (fun _ : Unit => none) 18 [(0, .ref b), (1, .ref (tn_ad E 0)), (2, .ref (tn_ad E 5)), (3, .int x3)] [] σ (c18 x3 σ)) (x3 : Int32) (σ : tn_M) : tn_V E G (fun _ : Unit => none) 407 [(0, .ref b), (1, .ref (tn_ad E 0)), (2, .ref (tn_ad E 5)), (3, .int x3)] [] σ (F_L_law_407 xs L c18 x3 σ) := by
  unfold F_L_law_407
  refine tr_aload_n g 1 408 dL_law_407 rfl rfl rfl ?_
  refine tr_aload_n g 0 409 dL_law_408 rfl rfl rfl ?_
  refine tr_iload_n g 3 410 dL_law_409 rfl rfl rfl ?_
  refine tr_iconst (v := 1) g 411 dL_law_410 rfl rfl ?_
  refine tr_iadd g 412 dL_law_411 rfl ?_
  refine tr_sld g hX hbl hbA 413 dL_law_412 rfl ?_
  refine tr_aload_n g 0 414 dL_law_413 rfl rfl rfl ?_
  refine tr_iload_n g 3 415 dL_law_414 rfl rfl rfl ?_
  refine tr_iconst (v := 2) g 416 dL_law_415 rfl rfl ?_
  refine tr_iadd g 417 dL_law_416 rfl ?_
  refine tr_sld g hX hbl hbA 418 dL_law_417 rfl ?_
  refine kv_X4_earns g wd_400 ⟨Nat.le_of_ble_eq_true rfl, Nat.le_of_ble_eq_true rfl⟩ (Nat.le_of_ble_eq_true rfl) 421 dL_law_418 rfl (fun r2 σ1 => ?_)
  refine tr_aload_n g 2 422 dL_law_421 rfl rfl rfl ?_
  refine tr_aload_n g 0 423 dL_law_422 rfl rfl rfl ?_
  refine tr_iload_n g 3 424 dL_law_423 rfl rfl rfl ?_
  refine tr_iconst (v := 1) g 425 dL_law_424 rfl rfl ?_
  refine tr_iadd g 426 dL_law_425 rfl ?_
  refine tr_sld g hX hbl hbA 427 dL_law_426 rfl ?_
  refine tr_aload_n g 0 428 dL_law_427 rfl rfl rfl ?_
  refine tr_iload_n g 3 429 dL_law_428 rfl rfl rfl ?_
  refine tr_iconst (v := 2) g 430 dL_law_429 rfl rfl ?_
  refine tr_iadd g 431 dL_law_430 rfl ?_
  refine tr_sld g hX hbl hbA 432 dL_law_431 rfl ?_
  refine kv_X5_earns g wd_920 ⟨Nat.le_of_ble_eq_true rfl, Nat.le_of_ble_eq_true rfl⟩ (Nat.le_of_ble_eq_true rfl) 435 dL_law_432 rfl (fun r4 σ3 => ?_)
  refine tr_leq g 1126 439 dL_law_435 dL_law_436 rfl rfl ?_ ?_
  · refine tr_iinc (lv' := [(3, .int (x3 + 6)), (0, .ref b), (1, .ref (tn_ad E 0)), (2, .ref (tn_ad E 5))]) (x := (x3 + 6)) g 3 1129 dL_law_1126 rfl rfl rfl (by decide) rfl ?_
    refine tr_goto g 18 dL_law_1129 rfl ?_
    refine tr_sub [1, 2, 3, 0] (lv' := [(0, .ref b), (1, .ref (tn_ad E 0)), (2, .ref (tn_ad E 5)), (3, .int (x3 + 6))]) rfl ?_
    exact hc18 _ _
  · refine tr_iconst (v := 0) g 440 dL_law_439 rfl rfl ?_
    exact tr_none
def F_L_law_384 (xs : Nat → Int32) (L : Nat) (c18 : Int32 → tn_M → Option (Unit × tn_M)) (x3 : Int32) (σ : tn_M) : Option (Unit × tn_M) :=
  tn_ck (x3 + 1) L <|
  tn_bd (f_X4_open (xs (tn_x (x3 + 1))) σ) fun r2 σ1 =>
  tn_ck (x3 + 1) L <|
  tn_bd (f_X5_open (xs (tn_x (x3 + 1))) σ1) fun r4 σ3 =>
  if r2 = r4 then
    c18 (x3 + 6) σ3
  else
    none
set_option maxHeartbeats 8000000 in
set_option maxRecDepth 50000 in
theorem b_L_law_384 {E : tn_E} {G : tn_G} (g : tn_Ok E G cL_law RL 4 room_1) {b L : Nat} {xs : Nat → Int32} (hX : va_X b L xs (tg_s G) (tg_s G).heap) (hbl : b < (tg_s G).heap.size) (hbA : ¬ tg_A G b) (hE : ∀ (pc : Nat) (lv : List (Nat × Value)) (σ : tn_M), decode cL_law pc = .ok (.ireturn, 1) → tn_V E G (fun _ : Unit => none) pc lv [.int 1] σ (some ((), σ))) (c18 : Int32 → tn_M → Option (Unit × tn_M)) (hc18 : ∀ (x3 : Int32) (σ : tn_M), tn_V E G (fun _ : Unit => none) 18 [(0, .ref b), (1, .ref (tn_ad E 0)), (2, .ref (tn_ad E 5)), (3, .int x3)] [] σ (c18 x3 σ)) (x3 : Int32) (σ : tn_M) : tn_V E G (fun _ : Unit => none) 384 [(0, .ref b), (1, .ref (tn_ad E 0)), (2, .ref (tn_ad E 5)), (3, .int x3)] [] σ (F_L_law_384 xs L c18 x3 σ) := by
  unfold F_L_law_384
  refine tr_aload_n g 1 385 dL_law_384 rfl rfl rfl ?_
  refine tr_aload_n g 0 386 dL_law_385 rfl rfl rfl ?_
  refine tr_iload_n g 3 387 dL_law_386 rfl rfl rfl ?_
  refine tr_iconst (v := 1) g 388 dL_law_387 rfl rfl ?_
  refine tr_iadd g 389 dL_law_388 rfl ?_
  refine tr_sld g hX hbl hbA 390 dL_law_389 rfl ?_
  refine kv_X4_open g wd_350 ⟨Nat.le_of_ble_eq_true rfl, Nat.le_of_ble_eq_true rfl⟩ (Nat.le_of_ble_eq_true rfl) 393 dL_law_390 rfl (fun r2 σ1 => ?_)
  refine tr_aload_n g 2 394 dL_law_393 rfl rfl rfl ?_
  refine tr_aload_n g 0 395 dL_law_394 rfl rfl rfl ?_
  refine tr_iload_n g 3 396 dL_law_395 rfl rfl rfl ?_
  refine tr_iconst (v := 1) g 397 dL_law_396 rfl rfl ?_
  refine tr_iadd g 398 dL_law_397 rfl ?_
  refine tr_sld g hX hbl hbA 399 dL_law_398 rfl ?_
  refine kv_X5_open g wd_908 ⟨Nat.le_of_ble_eq_true rfl, Nat.le_of_ble_eq_true rfl⟩ (Nat.le_of_ble_eq_true rfl) 402 dL_law_399 rfl (fun r4 σ3 => ?_)
  refine tr_icmp_eq g 1126 405 dL_law_402 rfl rfl ?_ ?_
  · refine tr_iinc (lv' := [(3, .int (x3 + 6)), (0, .ref b), (1, .ref (tn_ad E 0)), (2, .ref (tn_ad E 5))]) (x := (x3 + 6)) g 3 1129 dL_law_1126 rfl rfl rfl (by decide) rfl ?_
    refine tr_goto g 18 dL_law_1129 rfl ?_
    refine tr_sub [1, 2, 3, 0] (lv' := [(0, .ref b), (1, .ref (tn_ad E 0)), (2, .ref (tn_ad E 5)), (3, .int (x3 + 6))]) rfl ?_
    exact hc18 _ _
  · refine tr_iconst (v := 0) g 406 dL_law_405 rfl rfl ?_
    exact tr_none
def F_L_law_361 (xs : Nat → Int32) (L : Nat) (c18 : Int32 → tn_M → Option (Unit × tn_M)) (x3 : Int32) (σ : tn_M) : Option (Unit × tn_M) :=
  tn_ck (x3 + 1) L <|
  tn_bd (f_X4_read (xs (tn_x (x3 + 1))) σ) fun r2 σ1 =>
  tn_ck (x3 + 1) L <|
  tn_bd (f_X5_read (xs (tn_x (x3 + 1))) σ1) fun r4 σ3 =>
  if r2 = r4 then
    c18 (x3 + 6) σ3
  else
    none
set_option maxHeartbeats 8000000 in
set_option maxRecDepth 50000 in
theorem b_L_law_361 {E : tn_E} {G : tn_G} (g : tn_Ok E G cL_law RL 4 room_1) {b L : Nat} {xs : Nat → Int32} (hX : va_X b L xs (tg_s G) (tg_s G).heap) (hbl : b < (tg_s G).heap.size) (hbA : ¬ tg_A G b) (hE : ∀ (pc : Nat) (lv : List (Nat × Value)) (σ : tn_M), decode cL_law pc = .ok (.ireturn, 1) → tn_V E G (fun _ : Unit => none) pc lv [.int 1] σ (some ((), σ))) (c18 : Int32 → tn_M → Option (Unit × tn_M)) (hc18 : ∀ (x3 : Int32) (σ : tn_M), tn_V E G (fun _ : Unit => none) 18 [(0, .ref b), (1, .ref (tn_ad E 0)), (2, .ref (tn_ad E 5)), (3, .int x3)] [] σ (c18 x3 σ)) (x3 : Int32) (σ : tn_M) : tn_V E G (fun _ : Unit => none) 361 [(0, .ref b), (1, .ref (tn_ad E 0)), (2, .ref (tn_ad E 5)), (3, .int x3)] [] σ (F_L_law_361 xs L c18 x3 σ) := by
  unfold F_L_law_361
  refine tr_aload_n g 1 362 dL_law_361 rfl rfl rfl ?_
  refine tr_aload_n g 0 363 dL_law_362 rfl rfl rfl ?_
  refine tr_iload_n g 3 364 dL_law_363 rfl rfl rfl ?_
  refine tr_iconst (v := 1) g 365 dL_law_364 rfl rfl ?_
  refine tr_iadd g 366 dL_law_365 rfl ?_
  refine tr_sld g hX hbl hbA 367 dL_law_366 rfl ?_
  refine kv_X4_read g wd_332 ⟨Nat.le_of_ble_eq_true rfl, Nat.le_of_ble_eq_true rfl⟩ (Nat.le_of_ble_eq_true rfl) 370 dL_law_367 rfl (fun r2 σ1 => ?_)
  refine tr_aload_n g 2 371 dL_law_370 rfl rfl rfl ?_
  refine tr_aload_n g 0 372 dL_law_371 rfl rfl rfl ?_
  refine tr_iload_n g 3 373 dL_law_372 rfl rfl rfl ?_
  refine tr_iconst (v := 1) g 374 dL_law_373 rfl rfl ?_
  refine tr_iadd g 375 dL_law_374 rfl ?_
  refine tr_sld g hX hbl hbA 376 dL_law_375 rfl ?_
  refine kv_X5_read g wd_903 ⟨Nat.le_of_ble_eq_true rfl, Nat.le_of_ble_eq_true rfl⟩ (Nat.le_of_ble_eq_true rfl) 379 dL_law_376 rfl (fun r4 σ3 => ?_)
  refine tr_icmp_eq g 1126 382 dL_law_379 rfl rfl ?_ ?_
  · refine tr_iinc (lv' := [(3, .int (x3 + 6)), (0, .ref b), (1, .ref (tn_ad E 0)), (2, .ref (tn_ad E 5))]) (x := (x3 + 6)) g 3 1129 dL_law_1126 rfl rfl rfl (by decide) rfl ?_
    refine tr_goto g 18 dL_law_1129 rfl ?_
    refine tr_sub [1, 2, 3, 0] (lv' := [(0, .ref b), (1, .ref (tn_ad E 0)), (2, .ref (tn_ad E 5)), (3, .int (x3 + 6))]) rfl ?_
    exact hc18 _ _
  · refine tr_iconst (v := 0) g 383 dL_law_382 rfl rfl ?_
    exact tr_none
def F_L_law_328 (xs : Nat → Int32) (L : Nat) (c18 : Int32 → tn_M → Option (Unit × tn_M)) (x3 : Int32) (σ : tn_M) : Option (Unit × tn_M) :=
  tn_ck (x3 + 1) L <|
  tn_ck (x3 + 2) L <|
  tn_bd (f_X4_hours (xs (tn_x (x3 + 1))) (xs (tn_x (x3 + 2))) σ) fun r2 σ1 =>
  tn_ck (x3 + 1) L <|
  tn_ck (x3 + 2) L <|
  tn_bd (f_X5_hours (xs (tn_x (x3 + 1))) (xs (tn_x (x3 + 2))) σ1) fun r4 σ3 =>
  if r2 = r4 then
    c18 (x3 + 6) σ3
  else
    none
set_option maxHeartbeats 8000000 in
set_option maxRecDepth 50000 in
theorem b_L_law_328 {E : tn_E} {G : tn_G} (g : tn_Ok E G cL_law RL 4 room_1) {b L : Nat} {xs : Nat → Int32} (hX : va_X b L xs (tg_s G) (tg_s G).heap) (hbl : b < (tg_s G).heap.size) (hbA : ¬ tg_A G b) (hE : ∀ (pc : Nat) (lv : List (Nat × Value)) (σ : tn_M), decode cL_law pc = .ok (.ireturn, 1) → tn_V E G (fun _ : Unit => none) pc lv [.int 1] σ (some ((), σ))) (c18 : Int32 → tn_M → Option (Unit × tn_M)) (hc18 : ∀ (x3 : Int32) (σ : tn_M), tn_V E G (fun _ : Unit => none) 18 [(0, .ref b), (1, .ref (tn_ad E 0)), (2, .ref (tn_ad E 5)), (3, .int x3)] [] σ (c18 x3 σ)) (x3 : Int32) (σ : tn_M) : tn_V E G (fun _ : Unit => none) 328 [(0, .ref b), (1, .ref (tn_ad E 0)), (2, .ref (tn_ad E 5)), (3, .int x3)] [] σ (F_L_law_328 xs L c18 x3 σ) := by
  unfold F_L_law_328
  refine tr_aload_n g 1 329 dL_law_328 rfl rfl rfl ?_
  refine tr_aload_n g 0 330 dL_law_329 rfl rfl rfl ?_
  refine tr_iload_n g 3 331 dL_law_330 rfl rfl rfl ?_
  refine tr_iconst (v := 1) g 332 dL_law_331 rfl rfl ?_
  refine tr_iadd g 333 dL_law_332 rfl ?_
  refine tr_sld g hX hbl hbA 334 dL_law_333 rfl ?_
  refine tr_aload_n g 0 335 dL_law_334 rfl rfl rfl ?_
  refine tr_iload_n g 3 336 dL_law_335 rfl rfl rfl ?_
  refine tr_iconst (v := 2) g 337 dL_law_336 rfl rfl ?_
  refine tr_iadd g 338 dL_law_337 rfl ?_
  refine tr_sld g hX hbl hbA 339 dL_law_338 rfl ?_
  refine kv_X4_hours g wd_328 ⟨Nat.le_of_ble_eq_true rfl, Nat.le_of_ble_eq_true rfl⟩ (Nat.le_of_ble_eq_true rfl) 342 dL_law_339 rfl (fun r2 σ1 => ?_)
  refine tr_aload_n g 2 343 dL_law_342 rfl rfl rfl ?_
  refine tr_aload_n g 0 344 dL_law_343 rfl rfl rfl ?_
  refine tr_iload_n g 3 345 dL_law_344 rfl rfl rfl ?_
  refine tr_iconst (v := 1) g 346 dL_law_345 rfl rfl ?_
  refine tr_iadd g 347 dL_law_346 rfl ?_
  refine tr_sld g hX hbl hbA 348 dL_law_347 rfl ?_
  refine tr_aload_n g 0 349 dL_law_348 rfl rfl rfl ?_
  refine tr_iload_n g 3 350 dL_law_349 rfl rfl rfl ?_
  refine tr_iconst (v := 2) g 351 dL_law_350 rfl rfl ?_
  refine tr_iadd g 352 dL_law_351 rfl ?_
  refine tr_sld g hX hbl hbA 353 dL_law_352 rfl ?_
  refine kv_X5_hours g wd_898 ⟨Nat.le_of_ble_eq_true rfl, Nat.le_of_ble_eq_true rfl⟩ (Nat.le_of_ble_eq_true rfl) 356 dL_law_353 rfl (fun r4 σ3 => ?_)
  refine tr_icmp_eq g 1126 359 dL_law_356 rfl rfl ?_ ?_
  · refine tr_iinc (lv' := [(3, .int (x3 + 6)), (0, .ref b), (1, .ref (tn_ad E 0)), (2, .ref (tn_ad E 5))]) (x := (x3 + 6)) g 3 1129 dL_law_1126 rfl rfl rfl (by decide) rfl ?_
    refine tr_goto g 18 dL_law_1129 rfl ?_
    refine tr_sub [1, 2, 3, 0] (lv' := [(0, .ref b), (1, .ref (tn_ad E 0)), (2, .ref (tn_ad E 5)), (3, .int (x3 + 6))]) rfl ?_
    exact hc18 _ _
  · refine tr_iconst (v := 0) g 360 dL_law_359 rfl rfl ?_
    exact tr_none
def F_L_law_295 (xs : Nat → Int32) (L : Nat) (c18 : Int32 → tn_M → Option (Unit × tn_M)) (x3 : Int32) (σ : tn_M) : Option (Unit × tn_M) :=
  tn_ck (x3 + 1) L <|
  tn_ck (x3 + 2) L <|
  tn_bd (f_X4_set (xs (tn_x (x3 + 1))) (xs (tn_x (x3 + 2))) σ) fun r2 σ1 =>
  tn_ck (x3 + 1) L <|
  tn_ck (x3 + 2) L <|
  tn_bd (f_X5_set (xs (tn_x (x3 + 1))) (xs (tn_x (x3 + 2))) σ1) fun r4 σ3 =>
  if r2 = r4 then
    c18 (x3 + 6) σ3
  else
    none
set_option maxHeartbeats 8000000 in
set_option maxRecDepth 50000 in
theorem b_L_law_295 {E : tn_E} {G : tn_G} (g : tn_Ok E G cL_law RL 4 room_1) {b L : Nat} {xs : Nat → Int32} (hX : va_X b L xs (tg_s G) (tg_s G).heap) (hbl : b < (tg_s G).heap.size) (hbA : ¬ tg_A G b) (hE : ∀ (pc : Nat) (lv : List (Nat × Value)) (σ : tn_M), decode cL_law pc = .ok (.ireturn, 1) → tn_V E G (fun _ : Unit => none) pc lv [.int 1] σ (some ((), σ))) (c18 : Int32 → tn_M → Option (Unit × tn_M)) (hc18 : ∀ (x3 : Int32) (σ : tn_M), tn_V E G (fun _ : Unit => none) 18 [(0, .ref b), (1, .ref (tn_ad E 0)), (2, .ref (tn_ad E 5)), (3, .int x3)] [] σ (c18 x3 σ)) (x3 : Int32) (σ : tn_M) : tn_V E G (fun _ : Unit => none) 295 [(0, .ref b), (1, .ref (tn_ad E 0)), (2, .ref (tn_ad E 5)), (3, .int x3)] [] σ (F_L_law_295 xs L c18 x3 σ) := by
  unfold F_L_law_295
  refine tr_aload_n g 1 296 dL_law_295 rfl rfl rfl ?_
  refine tr_aload_n g 0 297 dL_law_296 rfl rfl rfl ?_
  refine tr_iload_n g 3 298 dL_law_297 rfl rfl rfl ?_
  refine tr_iconst (v := 1) g 299 dL_law_298 rfl rfl ?_
  refine tr_iadd g 300 dL_law_299 rfl ?_
  refine tr_sld g hX hbl hbA 301 dL_law_300 rfl ?_
  refine tr_aload_n g 0 302 dL_law_301 rfl rfl rfl ?_
  refine tr_iload_n g 3 303 dL_law_302 rfl rfl rfl ?_
  refine tr_iconst (v := 2) g 304 dL_law_303 rfl rfl ?_
  refine tr_iadd g 305 dL_law_304 rfl ?_
  refine tr_sld g hX hbl hbA 306 dL_law_305 rfl ?_
  refine kv_X4_set g wd_322 ⟨Nat.le_of_ble_eq_true rfl, Nat.le_of_ble_eq_true rfl⟩ (Nat.le_of_ble_eq_true rfl) 309 dL_law_306 rfl (fun r2 σ1 => ?_)
  refine tr_aload_n g 2 310 dL_law_309 rfl rfl rfl ?_
  refine tr_aload_n g 0 311 dL_law_310 rfl rfl rfl ?_
  refine tr_iload_n g 3 312 dL_law_311 rfl rfl rfl ?_
  refine tr_iconst (v := 1) g 313 dL_law_312 rfl rfl ?_
  refine tr_iadd g 314 dL_law_313 rfl ?_
  refine tr_sld g hX hbl hbA 315 dL_law_314 rfl ?_
  refine tr_aload_n g 0 316 dL_law_315 rfl rfl rfl ?_
  refine tr_iload_n g 3 317 dL_law_316 rfl rfl rfl ?_
  refine tr_iconst (v := 2) g 318 dL_law_317 rfl rfl ?_
  refine tr_iadd g 319 dL_law_318 rfl ?_
  refine tr_sld g hX hbl hbA 320 dL_law_319 rfl ?_
  refine kv_X5_set g wd_890 ⟨Nat.le_of_ble_eq_true rfl, Nat.le_of_ble_eq_true rfl⟩ (Nat.le_of_ble_eq_true rfl) 323 dL_law_320 rfl (fun r4 σ3 => ?_)
  refine tr_icmp_eq g 1126 326 dL_law_323 rfl rfl ?_ ?_
  · refine tr_iinc (lv' := [(3, .int (x3 + 6)), (0, .ref b), (1, .ref (tn_ad E 0)), (2, .ref (tn_ad E 5))]) (x := (x3 + 6)) g 3 1129 dL_law_1126 rfl rfl rfl (by decide) rfl ?_
    refine tr_goto g 18 dL_law_1129 rfl ?_
    refine tr_sub [1, 2, 3, 0] (lv' := [(0, .ref b), (1, .ref (tn_ad E 0)), (2, .ref (tn_ad E 5)), (3, .int (x3 + 6))]) rfl ?_
    exact hc18 _ _
  · refine tr_iconst (v := 0) g 327 dL_law_326 rfl rfl ?_
    exact tr_none
def F_L_law_262 (xs : Nat → Int32) (L : Nat) (c18 : Int32 → tn_M → Option (Unit × tn_M)) (x3 : Int32) (σ : tn_M) : Option (Unit × tn_M) :=
  tn_ck (x3 + 1) L <|
  tn_ck (x3 + 2) L <|
  tn_bd (f_X4_sort (xs (tn_x (x3 + 1))) (xs (tn_x (x3 + 2))) σ) fun r2 σ1 =>
  tn_ck (x3 + 1) L <|
  tn_ck (x3 + 2) L <|
  tn_bd (f_X5_sort (xs (tn_x (x3 + 1))) (xs (tn_x (x3 + 2))) σ1) fun r4 σ3 =>
  if r2 = r4 then
    c18 (x3 + 6) σ3
  else
    none
set_option maxHeartbeats 8000000 in
set_option maxRecDepth 50000 in
theorem b_L_law_262 {E : tn_E} {G : tn_G} (g : tn_Ok E G cL_law RL 4 room_1) {b L : Nat} {xs : Nat → Int32} (hX : va_X b L xs (tg_s G) (tg_s G).heap) (hbl : b < (tg_s G).heap.size) (hbA : ¬ tg_A G b) (hE : ∀ (pc : Nat) (lv : List (Nat × Value)) (σ : tn_M), decode cL_law pc = .ok (.ireturn, 1) → tn_V E G (fun _ : Unit => none) pc lv [.int 1] σ (some ((), σ))) (c18 : Int32 → tn_M → Option (Unit × tn_M)) (hc18 : ∀ (x3 : Int32) (σ : tn_M), tn_V E G (fun _ : Unit => none) 18 [(0, .ref b), (1, .ref (tn_ad E 0)), (2, .ref (tn_ad E 5)), (3, .int x3)] [] σ (c18 x3 σ)) (x3 : Int32) (σ : tn_M) : tn_V E G (fun _ : Unit => none) 262 [(0, .ref b), (1, .ref (tn_ad E 0)), (2, .ref (tn_ad E 5)), (3, .int x3)] [] σ (F_L_law_262 xs L c18 x3 σ) := by
  unfold F_L_law_262
  refine tr_aload_n g 1 263 dL_law_262 rfl rfl rfl ?_
  refine tr_aload_n g 0 264 dL_law_263 rfl rfl rfl ?_
  refine tr_iload_n g 3 265 dL_law_264 rfl rfl rfl ?_
  refine tr_iconst (v := 1) g 266 dL_law_265 rfl rfl ?_
  refine tr_iadd g 267 dL_law_266 rfl ?_
  refine tr_sld g hX hbl hbA 268 dL_law_267 rfl ?_
  refine tr_aload_n g 0 269 dL_law_268 rfl rfl rfl ?_
  refine tr_iload_n g 3 270 dL_law_269 rfl rfl rfl ?_
  refine tr_iconst (v := 2) g 271 dL_law_270 rfl rfl ?_
  refine tr_iadd g 272 dL_law_271 rfl ?_
  refine tr_sld g hX hbl hbA 273 dL_law_272 rfl ?_
  refine kv_X4_sort g wd_318 ⟨Nat.le_of_ble_eq_true rfl, Nat.le_of_ble_eq_true rfl⟩ (Nat.le_of_ble_eq_true rfl) 276 dL_law_273 rfl (fun r2 σ1 => ?_)
  refine tr_aload_n g 2 277 dL_law_276 rfl rfl rfl ?_
  refine tr_aload_n g 0 278 dL_law_277 rfl rfl rfl ?_
  refine tr_iload_n g 3 279 dL_law_278 rfl rfl rfl ?_
  refine tr_iconst (v := 1) g 280 dL_law_279 rfl rfl ?_
  refine tr_iadd g 281 dL_law_280 rfl ?_
  refine tr_sld g hX hbl hbA 282 dL_law_281 rfl ?_
  refine tr_aload_n g 0 283 dL_law_282 rfl rfl rfl ?_
  refine tr_iload_n g 3 284 dL_law_283 rfl rfl rfl ?_
  refine tr_iconst (v := 2) g 285 dL_law_284 rfl rfl ?_
  refine tr_iadd g 286 dL_law_285 rfl ?_
  refine tr_sld g hX hbl hbA 287 dL_law_286 rfl ?_
  refine kv_X5_sort g wd_885 ⟨Nat.le_of_ble_eq_true rfl, Nat.le_of_ble_eq_true rfl⟩ (Nat.le_of_ble_eq_true rfl) 290 dL_law_287 rfl (fun r4 σ3 => ?_)
  refine tr_icmp_eq g 1126 293 dL_law_290 rfl rfl ?_ ?_
  · refine tr_iinc (lv' := [(3, .int (x3 + 6)), (0, .ref b), (1, .ref (tn_ad E 0)), (2, .ref (tn_ad E 5))]) (x := (x3 + 6)) g 3 1129 dL_law_1126 rfl rfl rfl (by decide) rfl ?_
    refine tr_goto g 18 dL_law_1129 rfl ?_
    refine tr_sub [1, 2, 3, 0] (lv' := [(0, .ref b), (1, .ref (tn_ad E 0)), (2, .ref (tn_ad E 5)), (3, .int (x3 + 6))]) rfl ?_
    exact hc18 _ _
  · refine tr_iconst (v := 0) g 294 dL_law_293 rfl rfl ?_
    exact tr_none
def F_L_law_229 (xs : Nat → Int32) (L : Nat) (c18 : Int32 → tn_M → Option (Unit × tn_M)) (x3 : Int32) (σ : tn_M) : Option (Unit × tn_M) :=
  tn_ck (x3 + 1) L <|
  tn_ck (x3 + 2) L <|
  tn_bd (f_X4_shop (xs (tn_x (x3 + 1))) (xs (tn_x (x3 + 2))) σ) fun r2 σ1 =>
  tn_ck (x3 + 1) L <|
  tn_ck (x3 + 2) L <|
  tn_bd (f_X5_shop (xs (tn_x (x3 + 1))) (xs (tn_x (x3 + 2))) σ1) fun r4 σ3 =>
  if r2 = r4 then
    c18 (x3 + 6) σ3
  else
    none
set_option maxHeartbeats 8000000 in
set_option maxRecDepth 50000 in
theorem b_L_law_229 {E : tn_E} {G : tn_G} (g : tn_Ok E G cL_law RL 4 room_1) {b L : Nat} {xs : Nat → Int32} (hX : va_X b L xs (tg_s G) (tg_s G).heap) (hbl : b < (tg_s G).heap.size) (hbA : ¬ tg_A G b) (hE : ∀ (pc : Nat) (lv : List (Nat × Value)) (σ : tn_M), decode cL_law pc = .ok (.ireturn, 1) → tn_V E G (fun _ : Unit => none) pc lv [.int 1] σ (some ((), σ))) (c18 : Int32 → tn_M → Option (Unit × tn_M)) (hc18 : ∀ (x3 : Int32) (σ : tn_M), tn_V E G (fun _ : Unit => none) 18 [(0, .ref b), (1, .ref (tn_ad E 0)), (2, .ref (tn_ad E 5)), (3, .int x3)] [] σ (c18 x3 σ)) (x3 : Int32) (σ : tn_M) : tn_V E G (fun _ : Unit => none) 229 [(0, .ref b), (1, .ref (tn_ad E 0)), (2, .ref (tn_ad E 5)), (3, .int x3)] [] σ (F_L_law_229 xs L c18 x3 σ) := by
  unfold F_L_law_229
  refine tr_aload_n g 1 230 dL_law_229 rfl rfl rfl ?_
  refine tr_aload_n g 0 231 dL_law_230 rfl rfl rfl ?_
  refine tr_iload_n g 3 232 dL_law_231 rfl rfl rfl ?_
  refine tr_iconst (v := 1) g 233 dL_law_232 rfl rfl ?_
  refine tr_iadd g 234 dL_law_233 rfl ?_
  refine tr_sld g hX hbl hbA 235 dL_law_234 rfl ?_
  refine tr_aload_n g 0 236 dL_law_235 rfl rfl rfl ?_
  refine tr_iload_n g 3 237 dL_law_236 rfl rfl rfl ?_
  refine tr_iconst (v := 2) g 238 dL_law_237 rfl rfl ?_
  refine tr_iadd g 239 dL_law_238 rfl ?_
  refine tr_sld g hX hbl hbA 240 dL_law_239 rfl ?_
  refine kv_X4_shop g wd_310 ⟨Nat.le_of_ble_eq_true rfl, Nat.le_of_ble_eq_true rfl⟩ (Nat.le_of_ble_eq_true rfl) 243 dL_law_240 rfl (fun r2 σ1 => ?_)
  refine tr_aload_n g 2 244 dL_law_243 rfl rfl rfl ?_
  refine tr_aload_n g 0 245 dL_law_244 rfl rfl rfl ?_
  refine tr_iload_n g 3 246 dL_law_245 rfl rfl rfl ?_
  refine tr_iconst (v := 1) g 247 dL_law_246 rfl rfl ?_
  refine tr_iadd g 248 dL_law_247 rfl ?_
  refine tr_sld g hX hbl hbA 249 dL_law_248 rfl ?_
  refine tr_aload_n g 0 250 dL_law_249 rfl rfl rfl ?_
  refine tr_iload_n g 3 251 dL_law_250 rfl rfl rfl ?_
  refine tr_iconst (v := 2) g 252 dL_law_251 rfl rfl ?_
  refine tr_iadd g 253 dL_law_252 rfl ?_
  refine tr_sld g hX hbl hbA 254 dL_law_253 rfl ?_
  refine kv_X5_shop g wd_873 ⟨Nat.le_of_ble_eq_true rfl, Nat.le_of_ble_eq_true rfl⟩ (Nat.le_of_ble_eq_true rfl) 257 dL_law_254 rfl (fun r4 σ3 => ?_)
  refine tr_icmp_eq g 1126 260 dL_law_257 rfl rfl ?_ ?_
  · refine tr_iinc (lv' := [(3, .int (x3 + 6)), (0, .ref b), (1, .ref (tn_ad E 0)), (2, .ref (tn_ad E 5))]) (x := (x3 + 6)) g 3 1129 dL_law_1126 rfl rfl rfl (by decide) rfl ?_
    refine tr_goto g 18 dL_law_1129 rfl ?_
    refine tr_sub [1, 2, 3, 0] (lv' := [(0, .ref b), (1, .ref (tn_ad E 0)), (2, .ref (tn_ad E 5)), (3, .int (x3 + 6))]) rfl ?_
    exact hc18 _ _
  · refine tr_iconst (v := 0) g 261 dL_law_260 rfl rfl ?_
    exact tr_none
def F_L_law_216 (xs : Nat → Int32) (L : Nat) (c18 : Int32 → tn_M → Option (Unit × tn_M)) (x3 : Int32) (σ : tn_M) : Option (Unit × tn_M) :=
  tn_bd (f_X4_fault σ) fun r2 σ1 =>
  tn_bd (f_X5_fault σ1) fun r4 σ3 =>
  if r2 = r4 then
    c18 (x3 + 6) σ3
  else
    none
set_option maxHeartbeats 8000000 in
set_option maxRecDepth 50000 in
theorem b_L_law_216 {E : tn_E} {G : tn_G} (g : tn_Ok E G cL_law RL 4 room_1) {b L : Nat} {xs : Nat → Int32} (hX : va_X b L xs (tg_s G) (tg_s G).heap) (hbl : b < (tg_s G).heap.size) (hbA : ¬ tg_A G b) (hE : ∀ (pc : Nat) (lv : List (Nat × Value)) (σ : tn_M), decode cL_law pc = .ok (.ireturn, 1) → tn_V E G (fun _ : Unit => none) pc lv [.int 1] σ (some ((), σ))) (c18 : Int32 → tn_M → Option (Unit × tn_M)) (hc18 : ∀ (x3 : Int32) (σ : tn_M), tn_V E G (fun _ : Unit => none) 18 [(0, .ref b), (1, .ref (tn_ad E 0)), (2, .ref (tn_ad E 5)), (3, .int x3)] [] σ (c18 x3 σ)) (x3 : Int32) (σ : tn_M) : tn_V E G (fun _ : Unit => none) 216 [(0, .ref b), (1, .ref (tn_ad E 0)), (2, .ref (tn_ad E 5)), (3, .int x3)] [] σ (F_L_law_216 xs L c18 x3 σ) := by
  unfold F_L_law_216
  refine tr_aload_n g 1 217 dL_law_216 rfl rfl rfl ?_
  refine kv_X4_fault g wd_306 ⟨Nat.le_of_ble_eq_true rfl, Nat.le_of_ble_eq_true rfl⟩ (Nat.le_of_ble_eq_true rfl) 220 dL_law_217 rfl (fun r2 σ1 => ?_)
  refine tr_aload_n g 2 221 dL_law_220 rfl rfl rfl ?_
  refine kv_X5_fault g wd_835 ⟨Nat.le_of_ble_eq_true rfl, Nat.le_of_ble_eq_true rfl⟩ (Nat.le_of_ble_eq_true rfl) 224 dL_law_221 rfl (fun r4 σ3 => ?_)
  refine tr_icmp_eq g 1126 227 dL_law_224 rfl rfl ?_ ?_
  · refine tr_iinc (lv' := [(3, .int (x3 + 6)), (0, .ref b), (1, .ref (tn_ad E 0)), (2, .ref (tn_ad E 5))]) (x := (x3 + 6)) g 3 1129 dL_law_1126 rfl rfl rfl (by decide) rfl ?_
    refine tr_goto g 18 dL_law_1129 rfl ?_
    refine tr_sub [1, 2, 3, 0] (lv' := [(0, .ref b), (1, .ref (tn_ad E 0)), (2, .ref (tn_ad E 5)), (3, .int (x3 + 6))]) rfl ?_
    exact hc18 _ _
  · refine tr_iconst (v := 0) g 228 dL_law_227 rfl rfl ?_
    exact tr_none
def F_L_law_203 (xs : Nat → Int32) (L : Nat) (c18 : Int32 → tn_M → Option (Unit × tn_M)) (x3 : Int32) (σ : tn_M) : Option (Unit × tn_M) :=
  tn_bd (f_X4_wipe σ) fun r2 σ1 =>
  tn_bd (f_X5_wipe σ1) fun r4 σ3 =>
  if r2 = r4 then
    c18 (x3 + 6) σ3
  else
    none
set_option maxHeartbeats 8000000 in
set_option maxRecDepth 50000 in
theorem b_L_law_203 {E : tn_E} {G : tn_G} (g : tn_Ok E G cL_law RL 4 room_1) {b L : Nat} {xs : Nat → Int32} (hX : va_X b L xs (tg_s G) (tg_s G).heap) (hbl : b < (tg_s G).heap.size) (hbA : ¬ tg_A G b) (hE : ∀ (pc : Nat) (lv : List (Nat × Value)) (σ : tn_M), decode cL_law pc = .ok (.ireturn, 1) → tn_V E G (fun _ : Unit => none) pc lv [.int 1] σ (some ((), σ))) (c18 : Int32 → tn_M → Option (Unit × tn_M)) (hc18 : ∀ (x3 : Int32) (σ : tn_M), tn_V E G (fun _ : Unit => none) 18 [(0, .ref b), (1, .ref (tn_ad E 0)), (2, .ref (tn_ad E 5)), (3, .int x3)] [] σ (c18 x3 σ)) (x3 : Int32) (σ : tn_M) : tn_V E G (fun _ : Unit => none) 203 [(0, .ref b), (1, .ref (tn_ad E 0)), (2, .ref (tn_ad E 5)), (3, .int x3)] [] σ (F_L_law_203 xs L c18 x3 σ) := by
  unfold F_L_law_203
  refine tr_aload_n g 1 204 dL_law_203 rfl rfl rfl ?_
  refine kv_X4_wipe g wd_298 ⟨Nat.le_of_ble_eq_true rfl, Nat.le_of_ble_eq_true rfl⟩ (Nat.le_of_ble_eq_true rfl) 207 dL_law_204 rfl (fun r2 σ1 => ?_)
  refine tr_aload_n g 2 208 dL_law_207 rfl rfl rfl ?_
  refine kv_X5_wipe g wd_831 ⟨Nat.le_of_ble_eq_true rfl, Nat.le_of_ble_eq_true rfl⟩ (Nat.le_of_ble_eq_true rfl) 211 dL_law_208 rfl (fun r4 σ3 => ?_)
  refine tr_icmp_eq g 1126 214 dL_law_211 rfl rfl ?_ ?_
  · refine tr_iinc (lv' := [(3, .int (x3 + 6)), (0, .ref b), (1, .ref (tn_ad E 0)), (2, .ref (tn_ad E 5))]) (x := (x3 + 6)) g 3 1129 dL_law_1126 rfl rfl rfl (by decide) rfl ?_
    refine tr_goto g 18 dL_law_1129 rfl ?_
    refine tr_sub [1, 2, 3, 0] (lv' := [(0, .ref b), (1, .ref (tn_ad E 0)), (2, .ref (tn_ad E 5)), (3, .int (x3 + 6))]) rfl ?_
    exact hc18 _ _
  · refine tr_iconst (v := 0) g 215 dL_law_214 rfl rfl ?_
    exact tr_none
def F_L_law_180 (xs : Nat → Int32) (L : Nat) (c18 : Int32 → tn_M → Option (Unit × tn_M)) (x3 : Int32) (σ : tn_M) : Option (Unit × tn_M) :=
  tn_ck (x3 + 1) L <|
  tn_bd (f_X4_type (xs (tn_x (x3 + 1))) σ) fun r2 σ1 =>
  tn_ck (x3 + 1) L <|
  tn_bd (f_X5_type (xs (tn_x (x3 + 1))) σ1) fun r4 σ3 =>
  if r2 = r4 then
    c18 (x3 + 6) σ3
  else
    none
set_option maxHeartbeats 8000000 in
set_option maxRecDepth 50000 in
theorem b_L_law_180 {E : tn_E} {G : tn_G} (g : tn_Ok E G cL_law RL 4 room_1) {b L : Nat} {xs : Nat → Int32} (hX : va_X b L xs (tg_s G) (tg_s G).heap) (hbl : b < (tg_s G).heap.size) (hbA : ¬ tg_A G b) (hE : ∀ (pc : Nat) (lv : List (Nat × Value)) (σ : tn_M), decode cL_law pc = .ok (.ireturn, 1) → tn_V E G (fun _ : Unit => none) pc lv [.int 1] σ (some ((), σ))) (c18 : Int32 → tn_M → Option (Unit × tn_M)) (hc18 : ∀ (x3 : Int32) (σ : tn_M), tn_V E G (fun _ : Unit => none) 18 [(0, .ref b), (1, .ref (tn_ad E 0)), (2, .ref (tn_ad E 5)), (3, .int x3)] [] σ (c18 x3 σ)) (x3 : Int32) (σ : tn_M) : tn_V E G (fun _ : Unit => none) 180 [(0, .ref b), (1, .ref (tn_ad E 0)), (2, .ref (tn_ad E 5)), (3, .int x3)] [] σ (F_L_law_180 xs L c18 x3 σ) := by
  unfold F_L_law_180
  refine tr_aload_n g 1 181 dL_law_180 rfl rfl rfl ?_
  refine tr_aload_n g 0 182 dL_law_181 rfl rfl rfl ?_
  refine tr_iload_n g 3 183 dL_law_182 rfl rfl rfl ?_
  refine tr_iconst (v := 1) g 184 dL_law_183 rfl rfl ?_
  refine tr_iadd g 185 dL_law_184 rfl ?_
  refine tr_sld g hX hbl hbA 186 dL_law_185 rfl ?_
  refine kv_X4_type g wd_247 ⟨Nat.le_of_ble_eq_true rfl, Nat.le_of_ble_eq_true rfl⟩ (Nat.le_of_ble_eq_true rfl) 189 dL_law_186 rfl (fun r2 σ1 => ?_)
  refine tr_aload_n g 2 190 dL_law_189 rfl rfl rfl ?_
  refine tr_aload_n g 0 191 dL_law_190 rfl rfl rfl ?_
  refine tr_iload_n g 3 192 dL_law_191 rfl rfl rfl ?_
  refine tr_iconst (v := 1) g 193 dL_law_192 rfl rfl ?_
  refine tr_iadd g 194 dL_law_193 rfl ?_
  refine tr_sld g hX hbl hbA 195 dL_law_194 rfl ?_
  refine kv_X5_type g wd_826 ⟨Nat.le_of_ble_eq_true rfl, Nat.le_of_ble_eq_true rfl⟩ (Nat.le_of_ble_eq_true rfl) 198 dL_law_195 rfl (fun r4 σ3 => ?_)
  refine tr_icmp_eq g 1126 201 dL_law_198 rfl rfl ?_ ?_
  · refine tr_iinc (lv' := [(3, .int (x3 + 6)), (0, .ref b), (1, .ref (tn_ad E 0)), (2, .ref (tn_ad E 5))]) (x := (x3 + 6)) g 3 1129 dL_law_1126 rfl rfl rfl (by decide) rfl ?_
    refine tr_goto g 18 dL_law_1129 rfl ?_
    refine tr_sub [1, 2, 3, 0] (lv' := [(0, .ref b), (1, .ref (tn_ad E 0)), (2, .ref (tn_ad E 5)), (3, .int (x3 + 6))]) rfl ?_
    exact hc18 _ _
  · refine tr_iconst (v := 0) g 202 dL_law_201 rfl rfl ?_
    exact tr_none
def F_L_law_18 (xs : Nat → Int32) (L : Nat) : Nat → Int32 → tn_M → Option (Unit × tn_M)
  | 0, _, _ => none
  | tn_n + 1, x3, σ =>
    if ((Int32.ofNat L) - 6) < x3 then
      some ((), σ)
    else
      tn_ck x3 L <|
      tn_lt (α := Int32) ((xs (tn_x x3)) &&& 63) fun w1 =>
      if w1 = 0 then
        F_L_law_180 xs L (fun z0 zs => F_L_law_18 xs L tn_n z0 zs) x3 σ
      else
        if w1 = 1 then
          F_L_law_203 xs L (fun z0 zs => F_L_law_18 xs L tn_n z0 zs) x3 σ
        else
          if w1 = 2 then
            F_L_law_216 xs L (fun z0 zs => F_L_law_18 xs L tn_n z0 zs) x3 σ
          else
            if w1 = 3 then
              F_L_law_229 xs L (fun z0 zs => F_L_law_18 xs L tn_n z0 zs) x3 σ
            else
              if w1 = 4 then
                F_L_law_262 xs L (fun z0 zs => F_L_law_18 xs L tn_n z0 zs) x3 σ
              else
                if w1 = 5 then
                  F_L_law_295 xs L (fun z0 zs => F_L_law_18 xs L tn_n z0 zs) x3 σ
                else
                  if w1 = 6 then
                    F_L_law_328 xs L (fun z0 zs => F_L_law_18 xs L tn_n z0 zs) x3 σ
                  else
                    if w1 = 7 then
                      F_L_law_361 xs L (fun z0 zs => F_L_law_18 xs L tn_n z0 zs) x3 σ
                    else
                      if w1 = 8 then
                        F_L_law_384 xs L (fun z0 zs => F_L_law_18 xs L tn_n z0 zs) x3 σ
                      else
                        if w1 = 9 then
                          F_L_law_407 xs L (fun z0 zs => F_L_law_18 xs L tn_n z0 zs) x3 σ
                        else
                          if w1 = 10 then
                            F_L_law_441 xs L (fun z0 zs => F_L_law_18 xs L tn_n z0 zs) x3 σ
                          else
                            if w1 = 11 then
                              F_L_law_475 xs L (fun z0 zs => F_L_law_18 xs L tn_n z0 zs) x3 σ
                            else
                              if w1 = 12 then
                                F_L_law_498 xs L (fun z0 zs => F_L_law_18 xs L tn_n z0 zs) x3 σ
                              else
                                if w1 = 13 then
                                  F_L_law_521 xs L (fun z0 zs => F_L_law_18 xs L tn_n z0 zs) x3 σ
                                else
                                  if w1 = 14 then
                                    F_L_law_554 xs L (fun z0 zs => F_L_law_18 xs L tn_n z0 zs) x3 σ
                                  else
                                    if w1 = 15 then
                                      F_L_law_587 xs L (fun z0 zs => F_L_law_18 xs L tn_n z0 zs) x3 σ
                                    else
                                      if w1 = 16 then
                                        F_L_law_611 xs L (fun z0 zs => F_L_law_18 xs L tn_n z0 zs) x3 σ
                                      else
                                        if w1 = 17 then
                                          F_L_law_624 xs L (fun z0 zs => F_L_law_18 xs L tn_n z0 zs) x3 σ
                                        else
                                          if w1 = 18 then
                                            F_L_law_648 xs L (fun z0 zs => F_L_law_18 xs L tn_n z0 zs) x3 σ
                                          else
                                            if w1 = 19 then
                                              F_L_law_671 xs L (fun z0 zs => F_L_law_18 xs L tn_n z0 zs) x3 σ
                                            else
                                              if w1 = 20 then
                                                F_L_law_705 xs L (fun z0 zs => F_L_law_18 xs L tn_n z0 zs) x3 σ
                                              else
                                                if w1 = 21 then
                                                  F_L_law_738 xs L (fun z0 zs => F_L_law_18 xs L tn_n z0 zs) x3 σ
                                                else
                                                  if w1 = 22 then
                                                    F_L_law_761 xs L (fun z0 zs => F_L_law_18 xs L tn_n z0 zs) x3 σ
                                                  else
                                                    if w1 = 23 then
                                                      F_L_law_795 xs L (fun z0 zs => F_L_law_18 xs L tn_n z0 zs) x3 σ
                                                    else
                                                      if w1 = 24 then
                                                        F_L_law_828 xs L (fun z0 zs => F_L_law_18 xs L tn_n z0 zs) x3 σ
                                                      else
                                                        if w1 = 25 then
                                                          F_L_law_841 xs L (fun z0 zs => F_L_law_18 xs L tn_n z0 zs) x3 σ
                                                        else
                                                          if w1 = 26 then
                                                            F_L_law_884 xs L (fun z0 zs => F_L_law_18 xs L tn_n z0 zs) x3 σ
                                                          else
                                                            if w1 = 27 then
                                                              F_L_law_907 xs L (fun z0 zs => F_L_law_18 xs L tn_n z0 zs) x3 σ
                                                            else
                                                              if w1 = 28 then
                                                                F_L_law_960 xs L (fun z0 zs => F_L_law_18 xs L tn_n z0 zs) x3 σ
                                                              else
                                                                if w1 = 29 then
                                                                  F_L_law_1003 xs L (fun z0 zs => F_L_law_18 xs L tn_n z0 zs) x3 σ
                                                                else
                                                                  if w1 = 30 then
                                                                    F_L_law_1066 xs L (fun z0 zs => F_L_law_18 xs L tn_n z0 zs) x3 σ
                                                                  else
                                                                    if w1 = 31 then
                                                                      F_L_law_1089 xs L (fun z0 zs => F_L_law_18 xs L tn_n z0 zs) x3 σ
                                                                    else
                                                                      if w1 = 32 then
                                                                        F_L_law_1112 xs L (fun z0 zs => F_L_law_18 xs L tn_n z0 zs) x3 σ
                                                                      else
                                                                        F_L_law_18 xs L tn_n (x3 + 6) σ
set_option maxHeartbeats 8000000 in
set_option maxRecDepth 50000 in
theorem b_L_law_18 {E : tn_E} {G : tn_G} (g : tn_Ok E G cL_law RL 4 room_1) {b L : Nat} {xs : Nat → Int32} (hX : va_X b L xs (tg_s G) (tg_s G).heap) (hbl : b < (tg_s G).heap.size) (hbA : ¬ tg_A G b) (hE : ∀ (pc : Nat) (lv : List (Nat × Value)) (σ : tn_M), decode cL_law pc = .ok (.ireturn, 1) → tn_V E G (fun _ : Unit => none) pc lv [.int 1] σ (some ((), σ))) : ∀ (n : Nat) (x3 : Int32) (σ : tn_M), tn_V E G (fun _ : Unit => none) 18 [(0, .ref b), (1, .ref (tn_ad E 0)), (2, .ref (tn_ad E 5)), (3, .int x3)] [] σ (F_L_law_18 xs L n x3 σ) := by
  intro n
  induction n with
  | zero => intros; exact tr_none
  | succ tn_n ih =>
    intro x3 σ
    rw [F_L_law_18]
    refine tr_iload_n g 3 19 dL_law_18 rfl rfl rfl ?_
    refine tr_aload_n g 0 20 dL_law_19 rfl rfl rfl ?_
    refine tr_slen g hX hbl hbA 21 dL_law_20 rfl ?_
    refine tr_bipush (v := 6) g 23 dL_law_21 rfl rfl ?_
    refine tr_isub g 24 dL_law_23 rfl ?_
    refine tr_icmp_gt g 1132 27 dL_law_24 rfl rfl ?_ ?_
    · refine tr_iconst (v := 1) g 1133 dL_law_1132 rfl rfl ?_
      exact hE _ _ _ dL_law_1133
    · refine tr_aload_n g 0 28 dL_law_27 rfl rfl rfl ?_
      refine tr_iload_n g 3 29 dL_law_28 rfl rfl rfl ?_
      refine tr_sld g hX hbl hbA 30 dL_law_29 rfl ?_
      refine tr_bipush (v := 63) g 32 dL_law_30 rfl rfl ?_
      refine tr_iand g 33 dL_law_32 rfl ?_
      refine tr_lti (fun w1 => ?_)
      refine tr_ite (fun h => ?_) (fun hs0 => ?_)
      · refine tr_swIn g 180 dL_law_33 (by rw [h]; decide) (by rw [h]; decide) (by rw [h]; rfl) rfl ?_
        exact b_L_law_180 g hX hbl hbA hE (fun z0 zs => F_L_law_18 xs L tn_n z0 zs) (fun z0 zs => ih z0 zs) _ _
      · skip
        refine tr_ite (fun h => ?_) (fun hs1 => ?_)
        · refine tr_swIn g 203 dL_law_33 (by rw [h]; decide) (by rw [h]; decide) (by rw [h]; rfl) rfl ?_
          exact b_L_law_203 g hX hbl hbA hE (fun z0 zs => F_L_law_18 xs L tn_n z0 zs) (fun z0 zs => ih z0 zs) _ _
        · skip
          refine tr_ite (fun h => ?_) (fun hs2 => ?_)
          · refine tr_swIn g 216 dL_law_33 (by rw [h]; decide) (by rw [h]; decide) (by rw [h]; rfl) rfl ?_
            exact b_L_law_216 g hX hbl hbA hE (fun z0 zs => F_L_law_18 xs L tn_n z0 zs) (fun z0 zs => ih z0 zs) _ _
          · skip
            refine tr_ite (fun h => ?_) (fun hs3 => ?_)
            · refine tr_swIn g 229 dL_law_33 (by rw [h]; decide) (by rw [h]; decide) (by rw [h]; rfl) rfl ?_
              exact b_L_law_229 g hX hbl hbA hE (fun z0 zs => F_L_law_18 xs L tn_n z0 zs) (fun z0 zs => ih z0 zs) _ _
            · skip
              refine tr_ite (fun h => ?_) (fun hs4 => ?_)
              · refine tr_swIn g 262 dL_law_33 (by rw [h]; decide) (by rw [h]; decide) (by rw [h]; rfl) rfl ?_
                exact b_L_law_262 g hX hbl hbA hE (fun z0 zs => F_L_law_18 xs L tn_n z0 zs) (fun z0 zs => ih z0 zs) _ _
              · skip
                refine tr_ite (fun h => ?_) (fun hs5 => ?_)
                · refine tr_swIn g 295 dL_law_33 (by rw [h]; decide) (by rw [h]; decide) (by rw [h]; rfl) rfl ?_
                  exact b_L_law_295 g hX hbl hbA hE (fun z0 zs => F_L_law_18 xs L tn_n z0 zs) (fun z0 zs => ih z0 zs) _ _
                · skip
                  refine tr_ite (fun h => ?_) (fun hs6 => ?_)
                  · refine tr_swIn g 328 dL_law_33 (by rw [h]; decide) (by rw [h]; decide) (by rw [h]; rfl) rfl ?_
                    exact b_L_law_328 g hX hbl hbA hE (fun z0 zs => F_L_law_18 xs L tn_n z0 zs) (fun z0 zs => ih z0 zs) _ _
                  · skip
                    refine tr_ite (fun h => ?_) (fun hs7 => ?_)
                    · refine tr_swIn g 361 dL_law_33 (by rw [h]; decide) (by rw [h]; decide) (by rw [h]; rfl) rfl ?_
                      exact b_L_law_361 g hX hbl hbA hE (fun z0 zs => F_L_law_18 xs L tn_n z0 zs) (fun z0 zs => ih z0 zs) _ _
                    · skip
                      refine tr_ite (fun h => ?_) (fun hs8 => ?_)
                      · refine tr_swIn g 384 dL_law_33 (by rw [h]; decide) (by rw [h]; decide) (by rw [h]; rfl) rfl ?_
                        exact b_L_law_384 g hX hbl hbA hE (fun z0 zs => F_L_law_18 xs L tn_n z0 zs) (fun z0 zs => ih z0 zs) _ _
                      · skip
                        refine tr_ite (fun h => ?_) (fun hs9 => ?_)
                        · refine tr_swIn g 407 dL_law_33 (by rw [h]; decide) (by rw [h]; decide) (by rw [h]; rfl) rfl ?_
                          exact b_L_law_407 g hX hbl hbA hE (fun z0 zs => F_L_law_18 xs L tn_n z0 zs) (fun z0 zs => ih z0 zs) _ _
                        · skip
                          refine tr_ite (fun h => ?_) (fun hs10 => ?_)
                          · refine tr_swIn g 441 dL_law_33 (by rw [h]; decide) (by rw [h]; decide) (by rw [h]; rfl) rfl ?_
                            exact b_L_law_441 g hX hbl hbA hE (fun z0 zs => F_L_law_18 xs L tn_n z0 zs) (fun z0 zs => ih z0 zs) _ _
                          · skip
                            refine tr_ite (fun h => ?_) (fun hs11 => ?_)
                            · refine tr_swIn g 475 dL_law_33 (by rw [h]; decide) (by rw [h]; decide) (by rw [h]; rfl) rfl ?_
                              exact b_L_law_475 g hX hbl hbA hE (fun z0 zs => F_L_law_18 xs L tn_n z0 zs) (fun z0 zs => ih z0 zs) _ _
                            · skip
                              refine tr_ite (fun h => ?_) (fun hs12 => ?_)
                              · refine tr_swIn g 498 dL_law_33 (by rw [h]; decide) (by rw [h]; decide) (by rw [h]; rfl) rfl ?_
                                exact b_L_law_498 g hX hbl hbA hE (fun z0 zs => F_L_law_18 xs L tn_n z0 zs) (fun z0 zs => ih z0 zs) _ _
                              · skip
                                refine tr_ite (fun h => ?_) (fun hs13 => ?_)
                                · refine tr_swIn g 521 dL_law_33 (by rw [h]; decide) (by rw [h]; decide) (by rw [h]; rfl) rfl ?_
                                  exact b_L_law_521 g hX hbl hbA hE (fun z0 zs => F_L_law_18 xs L tn_n z0 zs) (fun z0 zs => ih z0 zs) _ _
                                · skip
                                  refine tr_ite (fun h => ?_) (fun hs14 => ?_)
                                  · refine tr_swIn g 554 dL_law_33 (by rw [h]; decide) (by rw [h]; decide) (by rw [h]; rfl) rfl ?_
                                    exact b_L_law_554 g hX hbl hbA hE (fun z0 zs => F_L_law_18 xs L tn_n z0 zs) (fun z0 zs => ih z0 zs) _ _
                                  · skip
                                    refine tr_ite (fun h => ?_) (fun hs15 => ?_)
                                    · refine tr_swIn g 587 dL_law_33 (by rw [h]; decide) (by rw [h]; decide) (by rw [h]; rfl) rfl ?_
                                      exact b_L_law_587 g hX hbl hbA hE (fun z0 zs => F_L_law_18 xs L tn_n z0 zs) (fun z0 zs => ih z0 zs) _ _
                                    · skip
                                      refine tr_ite (fun h => ?_) (fun hs16 => ?_)
                                      · refine tr_swIn g 611 dL_law_33 (by rw [h]; decide) (by rw [h]; decide) (by rw [h]; rfl) rfl ?_
                                        exact b_L_law_611 g hX hbl hbA hE (fun z0 zs => F_L_law_18 xs L tn_n z0 zs) (fun z0 zs => ih z0 zs) _ _
                                      · skip
                                        refine tr_ite (fun h => ?_) (fun hs17 => ?_)
                                        · refine tr_swIn g 624 dL_law_33 (by rw [h]; decide) (by rw [h]; decide) (by rw [h]; rfl) rfl ?_
                                          exact b_L_law_624 g hX hbl hbA hE (fun z0 zs => F_L_law_18 xs L tn_n z0 zs) (fun z0 zs => ih z0 zs) _ _
                                        · skip
                                          refine tr_ite (fun h => ?_) (fun hs18 => ?_)
                                          · refine tr_swIn g 648 dL_law_33 (by rw [h]; decide) (by rw [h]; decide) (by rw [h]; rfl) rfl ?_
                                            exact b_L_law_648 g hX hbl hbA hE (fun z0 zs => F_L_law_18 xs L tn_n z0 zs) (fun z0 zs => ih z0 zs) _ _
                                          · skip
                                            refine tr_ite (fun h => ?_) (fun hs19 => ?_)
                                            · refine tr_swIn g 671 dL_law_33 (by rw [h]; decide) (by rw [h]; decide) (by rw [h]; rfl) rfl ?_
                                              exact b_L_law_671 g hX hbl hbA hE (fun z0 zs => F_L_law_18 xs L tn_n z0 zs) (fun z0 zs => ih z0 zs) _ _
                                            · skip
                                              refine tr_ite (fun h => ?_) (fun hs20 => ?_)
                                              · refine tr_swIn g 705 dL_law_33 (by rw [h]; decide) (by rw [h]; decide) (by rw [h]; rfl) rfl ?_
                                                exact b_L_law_705 g hX hbl hbA hE (fun z0 zs => F_L_law_18 xs L tn_n z0 zs) (fun z0 zs => ih z0 zs) _ _
                                              · skip
                                                refine tr_ite (fun h => ?_) (fun hs21 => ?_)
                                                · refine tr_swIn g 738 dL_law_33 (by rw [h]; decide) (by rw [h]; decide) (by rw [h]; rfl) rfl ?_
                                                  exact b_L_law_738 g hX hbl hbA hE (fun z0 zs => F_L_law_18 xs L tn_n z0 zs) (fun z0 zs => ih z0 zs) _ _
                                                · skip
                                                  refine tr_ite (fun h => ?_) (fun hs22 => ?_)
                                                  · refine tr_swIn g 761 dL_law_33 (by rw [h]; decide) (by rw [h]; decide) (by rw [h]; rfl) rfl ?_
                                                    exact b_L_law_761 g hX hbl hbA hE (fun z0 zs => F_L_law_18 xs L tn_n z0 zs) (fun z0 zs => ih z0 zs) _ _
                                                  · skip
                                                    refine tr_ite (fun h => ?_) (fun hs23 => ?_)
                                                    · refine tr_swIn g 795 dL_law_33 (by rw [h]; decide) (by rw [h]; decide) (by rw [h]; rfl) rfl ?_
                                                      exact b_L_law_795 g hX hbl hbA hE (fun z0 zs => F_L_law_18 xs L tn_n z0 zs) (fun z0 zs => ih z0 zs) _ _
                                                    · skip
                                                      refine tr_ite (fun h => ?_) (fun hs24 => ?_)
                                                      · refine tr_swIn g 828 dL_law_33 (by rw [h]; decide) (by rw [h]; decide) (by rw [h]; rfl) rfl ?_
                                                        exact b_L_law_828 g hX hbl hbA hE (fun z0 zs => F_L_law_18 xs L tn_n z0 zs) (fun z0 zs => ih z0 zs) _ _
                                                      · skip
                                                        refine tr_ite (fun h => ?_) (fun hs25 => ?_)
                                                        · refine tr_swIn g 841 dL_law_33 (by rw [h]; decide) (by rw [h]; decide) (by rw [h]; rfl) rfl ?_
                                                          exact b_L_law_841 g hX hbl hbA hE (fun z0 zs => F_L_law_18 xs L tn_n z0 zs) (fun z0 zs => ih z0 zs) _ _
                                                        · skip
                                                          refine tr_ite (fun h => ?_) (fun hs26 => ?_)
                                                          · refine tr_swIn g 884 dL_law_33 (by rw [h]; decide) (by rw [h]; decide) (by rw [h]; rfl) rfl ?_
                                                            exact b_L_law_884 g hX hbl hbA hE (fun z0 zs => F_L_law_18 xs L tn_n z0 zs) (fun z0 zs => ih z0 zs) _ _
                                                          · skip
                                                            refine tr_ite (fun h => ?_) (fun hs27 => ?_)
                                                            · refine tr_swIn g 907 dL_law_33 (by rw [h]; decide) (by rw [h]; decide) (by rw [h]; rfl) rfl ?_
                                                              exact b_L_law_907 g hX hbl hbA hE (fun z0 zs => F_L_law_18 xs L tn_n z0 zs) (fun z0 zs => ih z0 zs) _ _
                                                            · skip
                                                              refine tr_ite (fun h => ?_) (fun hs28 => ?_)
                                                              · refine tr_swIn g 960 dL_law_33 (by rw [h]; decide) (by rw [h]; decide) (by rw [h]; rfl) rfl ?_
                                                                exact b_L_law_960 g hX hbl hbA hE (fun z0 zs => F_L_law_18 xs L tn_n z0 zs) (fun z0 zs => ih z0 zs) _ _
                                                              · skip
                                                                refine tr_ite (fun h => ?_) (fun hs29 => ?_)
                                                                · refine tr_swIn g 1003 dL_law_33 (by rw [h]; decide) (by rw [h]; decide) (by rw [h]; rfl) rfl ?_
                                                                  exact b_L_law_1003 g hX hbl hbA hE (fun z0 zs => F_L_law_18 xs L tn_n z0 zs) (fun z0 zs => ih z0 zs) _ _
                                                                · skip
                                                                  refine tr_ite (fun h => ?_) (fun hs30 => ?_)
                                                                  · refine tr_swIn g 1066 dL_law_33 (by rw [h]; decide) (by rw [h]; decide) (by rw [h]; rfl) rfl ?_
                                                                    exact b_L_law_1066 g hX hbl hbA hE (fun z0 zs => F_L_law_18 xs L tn_n z0 zs) (fun z0 zs => ih z0 zs) _ _
                                                                  · skip
                                                                    refine tr_ite (fun h => ?_) (fun hs31 => ?_)
                                                                    · refine tr_swIn g 1089 dL_law_33 (by rw [h]; decide) (by rw [h]; decide) (by rw [h]; rfl) rfl ?_
                                                                      exact b_L_law_1089 g hX hbl hbA hE (fun z0 zs => F_L_law_18 xs L tn_n z0 zs) (fun z0 zs => ih z0 zs) _ _
                                                                    · skip
                                                                      refine tr_ite (fun h => ?_) (fun hs32 => ?_)
                                                                      · refine tr_swIn g 1112 dL_law_33 (by rw [h]; decide) (by rw [h]; decide) (by rw [h]; rfl) rfl ?_
                                                                        exact b_L_law_1112 g hX hbl hbA hE (fun z0 zs => F_L_law_18 xs L tn_n z0 zs) (fun z0 zs => ih z0 zs) _ _
                                                                      · skip
                                                                        refine tr_swOut g 1126 dL_law_33 (tn_swd (m := 32) (by exact tn_all33 hs0 hs1 hs2 hs3 hs4 hs5 hs6 hs7 hs8 hs9 hs10 hs11 hs12 hs13 hs14 hs15 hs16 hs17 hs18 hs19 hs20 hs21 hs22 hs23 hs24 hs25 hs26 hs27 hs28 hs29 hs30 hs31 hs32)) rfl ?_
                                                                        refine tr_iinc (lv' := [(3, .int (x3 + 6)), (0, .ref b), (1, .ref (tn_ad E 0)), (2, .ref (tn_ad E 5))]) (x := (x3 + 6)) g 3 1129 dL_law_1126 rfl rfl rfl (by decide) rfl ?_
                                                                        refine tr_goto g 18 dL_law_1129 rfl ?_
                                                                        refine tr_sub [1, 2, 3, 0] (lv' := [(0, .ref b), (1, .ref (tn_ad E 0)), (2, .ref (tn_ad E 5)), (3, .int (x3 + 6))]) rfl ?_
                                                                        exact ih _ _

/-! X4_type -/
def f_X4_type  (a1 : Int32) (σ : tn_M) : Option (Int32 × tn_M) :=
  if a1 < 0 then
    some ((-2), σ)
  else
    if a1 ≤ 255 then
      if (σ.1 1 4) < 150 then
        tn_bd (f_X2_append a1 σ) fun _ σ1 =>
        tn_lt (tn_si σ1 2 1 1) fun σ2 =>
        some ((σ2.1 1 4), σ2)
      else
        some ((-4), σ)
    else
      some ((-2), σ)
set_option maxHeartbeats 4000000 in
set_option maxRecDepth 20000 in
theorem b_X4_type {E : tn_E} {G : tn_G} (g : tn_Ok E G cX4_type RX4 2 (tn_rm 6 132)) (o : tn_Om E G (some .int))  (a1 : Int32) (σ : tn_M) : tn_V E G tn_ie 0 [(0, .ref (tn_ad E 0)), (1, .int a1)] [] σ (f_X4_type a1 σ) := by
  unfold f_X4_type
  refine tr_iload_n g 1 1 dX4_type_0 rfl rfl rfl ?_
  refine tr_if_lt g 11 4 dX4_type_1 rfl rfl ?_ ?_
  · refine tr_bipush (v := (-2)) g 13 dX4_type_11 rfl rfl ?_
    exact tr_iret g o dX4_type_13
  · refine tr_iload_n g 1 5 dX4_type_4 rfl rfl rfl ?_
    refine tr_sipush (v := 255) g 8 dX4_type_5 rfl rfl ?_
    refine tr_icmp_le g 14 11 dX4_type_8 rfl rfl ?_ ?_
    · refine tr_aload_n g 0 15 dX4_type_14 rfl rfl rfl ?_
      refine gf_X4_0 g wd_225 18 dX4_type_15 rfl ?_
      refine gf_X2_4 g wd_103 21 dX4_type_18 rfl ?_
      refine tr_sipush (v := 150) g 24 dX4_type_21 rfl rfl ?_
      refine tr_icmp_lt g 30 27 dX4_type_24 rfl rfl ?_ ?_
      · refine tr_aload_n g 0 31 dX4_type_30 rfl rfl rfl ?_
        refine gf_X4_0 g wd_225 34 dX4_type_31 rfl ?_
        refine tr_iload_n g 1 35 dX4_type_34 rfl rfl rfl ?_
        refine kv_X2_append g wd_251 ⟨Nat.le_of_ble_eq_true rfl, Nat.le_of_ble_eq_true rfl⟩ (Nat.le_of_ble_eq_true rfl) 38 dX4_type_35 rfl (fun _ σ1 => ?_)
        refine tr_aload_n g 0 39 dX4_type_38 rfl rfl rfl ?_
        refine gf_X4_1 g wd_226 42 dX4_type_39 rfl ?_
        refine tr_iconst (v := 1) g 43 dX4_type_42 rfl rfl ?_
        refine pf_X3_1 g wd_142 rfl rfl 46 dX4_type_43 rfl (fun σ2 => ?_)
        refine tr_aload_n g 0 47 dX4_type_46 rfl rfl rfl ?_
        refine gf_X4_0 g wd_225 50 dX4_type_47 rfl ?_
        refine gf_X2_4 g wd_103 53 dX4_type_50 rfl ?_
        exact tr_iret g o dX4_type_53
      · refine tr_bipush (v := (-4)) g 29 dX4_type_27 rfl rfl ?_
        exact tr_iret g o dX4_type_29
    · refine tr_bipush (v := (-2)) g 13 dX4_type_11 rfl rfl ?_
      exact tr_iret g o dX4_type_13
theorem ok_X4_type {E : tn_E} {l : Launch}   (a1 : Int32) {σ : tn_M} {r : Int32} {σ' : tn_M} (h : f_X4_type a1 σ = some (r, σ')) : tn_C E l yX4_type cX4_type 2 (some .int) (tn_rm 6 132) [.ref (tn_ad E 0), .int a1] σ (tn_ie r) σ' :=
  tn_met (by decide) (Nat.le_of_ble_eq_true rfl) (fun G _ g o => b_X4_type g o  a1 σ) h
theorem yy_X4_type : tn_Yv RX4 yX4_type cX4_type 2 (some .int) 1 := ⟨wd_250, wd_248, wd_249, wd_65, by decide, by decide, by decide +kernel⟩
theorem kv_X4_type {E : tn_E} {G : tn_G} {cc : ByteArray} {own : String} {nL : Nat} {R : Room} {ρ : Type} {enc : ρ → Option Value} {pc : Nat} {lv : List (Nat × Value)} {st : List Value} {σ : tn_M} {kk : Int32 → tn_M → Option (ρ × tn_M)} {i : Nat}  {a1 : Int32} (g : tn_Ok E G cc own nL R)  (hw : Cond.methodLink own i yX4_type ∈ tn_T) (hroom : 7 ≤ R.frames ∧ 153 ≤ R.locals) (hW : (st.map fun v => v.category).sum ≤ 8) (n : Nat) (hd : decode cc pc = .ok (.invokevirtual i, 3)) (hn : pc + 3 = n) (k : ∀ r σ1, tn_V E G enc n lv (.int r :: st) σ1 (kk r σ1)) : tn_V E G enc pc lv (.int a1 :: .ref (tn_ad E 0) :: st) σ (tn_bd (f_X4_type a1 σ) kk) :=
  tr_callV (As := [.int a1]) (enc1 := tn_ie) g yy_X4_type hw (ci := 4) rfl (by decide) rfl (fun r σ1 h => ok_X4_type  a1 h) ⟨rfl, rfl⟩ ⟨hroom.1, by have h2 := hroom.2; show 8 + (2 + 11) + 132 ≤ R.locals; omega⟩ rfl rfl hW n hd hn k
/-! X4_wipe -/
def f_X4_wipe   (σ : tn_M) : Option (Int32 × tn_M) :=
  tn_bd (f_X2_clear σ) fun _ σ1 =>
  tn_lt (tn_si σ1 2 1 1) fun σ2 =>
  some ((σ.1 1 4), σ2)
set_option maxHeartbeats 4000000 in
set_option maxRecDepth 20000 in
theorem b_X4_wipe {E : tn_E} {G : tn_G} (g : tn_Ok E G cX4_wipe RX4 2 (tn_rm 6 131)) (o : tn_Om E G (some .int))   (σ : tn_M) : tn_V E G tn_ie 0 [(0, .ref (tn_ad E 0))] [] σ (f_X4_wipe σ) := by
  unfold f_X4_wipe
  refine tr_aload_n g 0 1 dX4_wipe_0 rfl rfl rfl ?_
  refine gf_X4_0 g wd_225 4 dX4_wipe_1 rfl ?_
  refine gf_X2_4 g wd_103 7 dX4_wipe_4 rfl ?_
  refine tr_istore_n (lv' := [(1, .int (σ.1 1 4)), (0, .ref (tn_ad E 0))]) g 8 dX4_wipe_7 rfl rfl (by decide) rfl ?_
  refine tr_aload_n g 1 9 dX4_wipe_8 rfl rfl rfl ?_
  refine gf_X4_0 g wd_225 12 dX4_wipe_9 rfl ?_
  refine kv_X2_clear g wd_302 ⟨Nat.le_of_ble_eq_true rfl, Nat.le_of_ble_eq_true rfl⟩ (Nat.le_of_ble_eq_true rfl) 15 dX4_wipe_12 rfl (fun _ σ1 => ?_)
  refine tr_aload_n g 1 16 dX4_wipe_15 rfl rfl rfl ?_
  refine gf_X4_1 g wd_226 19 dX4_wipe_16 rfl ?_
  refine tr_iconst (v := 1) g 20 dX4_wipe_19 rfl rfl ?_
  refine pf_X3_1 g wd_142 rfl rfl 23 dX4_wipe_20 rfl (fun σ2 => ?_)
  refine tr_iload_n g 0 24 dX4_wipe_23 rfl rfl rfl ?_
  exact tr_iret g o dX4_wipe_24
theorem ok_X4_wipe {E : tn_E} {l : Launch}    {σ : tn_M} {r : Int32} {σ' : tn_M} (h : f_X4_wipe  σ = some (r, σ')) : tn_C E l yX4_wipe cX4_wipe 2 (some .int) (tn_rm 6 131) [.ref (tn_ad E 0)] σ (tn_ie r) σ' :=
  tn_met (by decide) (Nat.le_of_ble_eq_true rfl) (fun G _ g o => b_X4_wipe g o   σ) h
theorem yy_X4_wipe : tn_Yv RX4 yX4_wipe cX4_wipe 2 (some .int) 0 := ⟨wd_301, wd_299, wd_300, wd_65, by decide, by decide, by decide +kernel⟩
theorem kv_X4_wipe {E : tn_E} {G : tn_G} {cc : ByteArray} {own : String} {nL : Nat} {R : Room} {ρ : Type} {enc : ρ → Option Value} {pc : Nat} {lv : List (Nat × Value)} {st : List Value} {σ : tn_M} {kk : Int32 → tn_M → Option (ρ × tn_M)} {i : Nat}   (g : tn_Ok E G cc own nL R)  (hw : Cond.methodLink own i yX4_wipe ∈ tn_T) (hroom : 7 ≤ R.frames ∧ 152 ≤ R.locals) (hW : (st.map fun v => v.category).sum ≤ 8) (n : Nat) (hd : decode cc pc = .ok (.invokevirtual i, 3)) (hn : pc + 3 = n) (k : ∀ r σ1, tn_V E G enc n lv (.int r :: st) σ1 (kk r σ1)) : tn_V E G enc pc lv (.ref (tn_ad E 0) :: st) σ (tn_bd (f_X4_wipe  σ) kk) :=
  tr_callV (As := []) (enc1 := tn_ie) g yy_X4_wipe hw (ci := 4) rfl (by decide) rfl (fun r σ1 h => ok_X4_wipe   h) ⟨rfl, rfl⟩ ⟨hroom.1, by have h2 := hroom.2; show 8 + (2 + 11) + 131 ≤ R.locals; omega⟩ rfl rfl hW n hd hn k
/-! X4_fault -/
def f_X4_fault   (σ : tn_M) : Option (Int32 × tn_M) :=
  some ((σ.1 1 7), σ)
set_option maxHeartbeats 4000000 in
set_option maxRecDepth 20000 in
theorem b_X4_fault {E : tn_E} {G : tn_G} (g : tn_Ok E G cX4_fault RX4 1 (tn_rm 0 0)) (o : tn_Om E G (some .int))   (σ : tn_M) : tn_V E G tn_ie 0 [(0, .ref (tn_ad E 0))] [] σ (f_X4_fault σ) := by
  unfold f_X4_fault
  refine tr_aload_n g 0 1 dX4_fault_0 rfl rfl rfl ?_
  refine gf_X4_0 g wd_225 4 dX4_fault_1 rfl ?_
  refine gf_X2_7 g wd_112 7 dX4_fault_4 rfl ?_
  exact tr_iret g o dX4_fault_7
theorem ok_X4_fault {E : tn_E} {l : Launch}    {σ : tn_M} {r : Int32} {σ' : tn_M} (h : f_X4_fault  σ = some (r, σ')) : tn_C E l yX4_fault cX4_fault 1 (some .int) (tn_rm 0 0) [.ref (tn_ad E 0)] σ (tn_ie r) σ' :=
  tn_met (by decide) (Nat.le_of_ble_eq_true rfl) (fun G _ g o => b_X4_fault g o   σ) h
theorem yy_X4_fault : tn_Yv RX4 yX4_fault cX4_fault 1 (some .int) 0 := ⟨wd_309, wd_307, wd_308, wd_65, by decide, by decide, by decide +kernel⟩
theorem kv_X4_fault {E : tn_E} {G : tn_G} {cc : ByteArray} {own : String} {nL : Nat} {R : Room} {ρ : Type} {enc : ρ → Option Value} {pc : Nat} {lv : List (Nat × Value)} {st : List Value} {σ : tn_M} {kk : Int32 → tn_M → Option (ρ × tn_M)} {i : Nat}   (g : tn_Ok E G cc own nL R)  (hw : Cond.methodLink own i yX4_fault ∈ tn_T) (hroom : 1 ≤ R.frames ∧ 20 ≤ R.locals) (hW : (st.map fun v => v.category).sum ≤ 8) (n : Nat) (hd : decode cc pc = .ok (.invokevirtual i, 3)) (hn : pc + 3 = n) (k : ∀ r σ1, tn_V E G enc n lv (.int r :: st) σ1 (kk r σ1)) : tn_V E G enc pc lv (.ref (tn_ad E 0) :: st) σ (tn_bd (f_X4_fault  σ) kk) :=
  tr_callV (As := []) (enc1 := tn_ie) g yy_X4_fault hw (ci := 4) rfl (by decide) rfl (fun r σ1 h => ok_X4_fault   h) ⟨rfl, rfl⟩ ⟨hroom.1, by have h2 := hroom.2; show 8 + (1 + 11) + 0 ≤ R.locals; omega⟩ rfl rfl hW n hd hn k
/-! X4_noShop -/
def f_X4_noShop  (a1 : Int32) (σ : tn_M) : Option (Int32 × tn_M) :=
  if a1 < 0 then
    some (1, σ)
  else
    if a1 < (σ.1 1 5) then
      some (0, σ)
    else
      some (1, σ)
set_option maxHeartbeats 4000000 in
set_option maxRecDepth 20000 in
theorem b_X4_noShop {E : tn_E} {G : tn_G} (g : tn_Ok E G cX4_noShop RX4 2 (tn_rm 0 0)) (o : tn_Om E G (some .boolean))  (a1 : Int32) (σ : tn_M) : tn_V E G tn_ie 0 [(0, .ref (tn_ad E 0)), (1, .int a1)] [] σ (f_X4_noShop a1 σ) := by
  unfold f_X4_noShop
  refine tr_iload_n g 1 1 dX4_noShop_0 rfl rfl rfl ?_
  refine tr_if_lt g 15 4 dX4_noShop_1 rfl rfl ?_ ?_
  · refine tr_iconst (v := 1) g 16 dX4_noShop_15 rfl rfl ?_
    refine tr_goto g 20 dX4_noShop_16 rfl ?_
    exact tr_zret g o rfl dX4_noShop_20
  · refine tr_iload_n g 1 5 dX4_noShop_4 rfl rfl rfl ?_
    refine tr_aload_n g 0 6 dX4_noShop_5 rfl rfl rfl ?_
    refine gf_X4_0 g wd_225 9 dX4_noShop_6 rfl ?_
    refine gf_X2_5 g wd_107 12 dX4_noShop_9 rfl ?_
    refine tr_icmp_lt g 19 15 dX4_noShop_12 rfl rfl ?_ ?_
    · refine tr_iconst (v := 0) g 20 dX4_noShop_19 rfl rfl ?_
      exact tr_zret g o rfl dX4_noShop_20
    · refine tr_iconst (v := 1) g 16 dX4_noShop_15 rfl rfl ?_
      refine tr_goto g 20 dX4_noShop_16 rfl ?_
      exact tr_zret g o rfl dX4_noShop_20
theorem ok_X4_noShop {E : tn_E} {l : Launch}   (a1 : Int32) {σ : tn_M} {r : Int32} {σ' : tn_M} (h : f_X4_noShop a1 σ = some (r, σ')) : tn_C E l yX4_noShop cX4_noShop 2 (some .boolean) (tn_rm 0 0) [.ref (tn_ad E 0), .int a1] σ (tn_ie r) σ' :=
  tn_met (by decide) (Nat.le_of_ble_eq_true rfl) (fun G _ g o => b_X4_noShop g o  a1 σ) h
theorem yy_X4_noShop : tn_Yv RX4 yX4_noShop cX4_noShop 2 (some .boolean) 1 := ⟨wd_317, wd_316, wd_10, wd_65, by decide, by decide, by decide +kernel⟩
theorem kv_X4_noShop {E : tn_E} {G : tn_G} {cc : ByteArray} {own : String} {nL : Nat} {R : Room} {ρ : Type} {enc : ρ → Option Value} {pc : Nat} {lv : List (Nat × Value)} {st : List Value} {σ : tn_M} {kk : Int32 → tn_M → Option (ρ × tn_M)} {i : Nat}  {a1 : Int32} (g : tn_Ok E G cc own nL R)  (hw : Cond.methodLink own i yX4_noShop ∈ tn_T) (hroom : 1 ≤ R.frames ∧ 21 ≤ R.locals) (hW : (st.map fun v => v.category).sum ≤ 8) (n : Nat) (hd : decode cc pc = .ok (.invokevirtual i, 3)) (hn : pc + 3 = n) (k : ∀ r σ1, tn_V E G enc n lv (.int r :: st) σ1 (kk r σ1)) : tn_V E G enc pc lv (.int a1 :: .ref (tn_ad E 0) :: st) σ (tn_bd (f_X4_noShop a1 σ) kk) :=
  tr_callV (As := [.int a1]) (enc1 := tn_ie) g yy_X4_noShop hw (ci := 4) rfl (by decide) rfl (fun r σ1 h => ok_X4_noShop  a1 h) ⟨rfl, rfl⟩ ⟨hroom.1, by have h2 := hroom.2; show 8 + (2 + 11) + 0 ≤ R.locals; omega⟩ rfl rfl hW n hd hn k
/-! X4_shop -/
def f_X4_shop  (a1 : Int32) (a2 : Int32) (σ : tn_M) : Option (Int32 × tn_M) :=
  tn_bd (f_X4_noShop a1 σ) fun r2 σ1 =>
  if r2 = 0 then
    if a2 < 0 then
      some ((-2), σ1)
    else
      if a2 ≤ 2 then
        if a2 = 0 then
          tn_ck a1 5 <|
          some ((σ1.1 10 (tn_x a1)), σ1)
        else
          if a2 = 1 then
            tn_ck a1 5 <|
            some ((σ1.1 11 (tn_x a1)), σ1)
          else
            tn_ck a1 5 <|
            tn_lt (α := Int32) (if (σ1.1 10 (tn_x a1)) ≤ (σ1.1 6 2) then 0 else 1) fun v3 =>
            some (v3, σ1)
      else
        some ((-2), σ1)
  else
    some ((-2), σ1)
set_option maxHeartbeats 4000000 in
set_option maxRecDepth 20000 in
theorem b_X4_shop {E : tn_E} {G : tn_G} (g : tn_Ok E G cX4_shop RX4 3 (tn_rm 1 21)) (o : tn_Om E G (some .int))  (a1 : Int32) (a2 : Int32) (σ : tn_M) : tn_V E G tn_ie 0 [(0, .ref (tn_ad E 0)), (1, .int a1), (2, .int a2)] [] σ (f_X4_shop a1 a2 σ) := by
  unfold f_X4_shop
  refine tr_aload_n g 0 1 dX4_shop_0 rfl rfl rfl ?_
  refine tr_iload_n g 1 2 dX4_shop_1 rfl rfl rfl ?_
  refine kv_X4_noShop g wd_314 ⟨Nat.le_of_ble_eq_true rfl, Nat.le_of_ble_eq_true rfl⟩ (Nat.le_of_ble_eq_true rfl) 5 dX4_shop_2 rfl (fun r2 σ1 => ?_)
  refine tr_if_ne g 17 8 dX4_shop_5 rfl rfl ?_ ?_
  · refine tr_bipush (v := (-2)) g 19 dX4_shop_17 rfl rfl ?_
    exact tr_iret g o dX4_shop_19
  · refine tr_iload_n g 2 9 dX4_shop_8 rfl rfl rfl ?_
    refine tr_if_lt g 17 12 dX4_shop_9 rfl rfl ?_ ?_
    · refine tr_bipush (v := (-2)) g 19 dX4_shop_17 rfl rfl ?_
      exact tr_iret g o dX4_shop_19
    · refine tr_iload_n g 2 13 dX4_shop_12 rfl rfl rfl ?_
      refine tr_iconst (v := 2) g 14 dX4_shop_13 rfl rfl ?_
      refine tr_icmp_le g 20 17 dX4_shop_14 rfl rfl ?_ ?_
      · refine tr_iload_n g 2 21 dX4_shop_20 rfl rfl rfl ?_
        refine tr_if_ne g 34 24 dX4_shop_21 rfl rfl ?_ ?_
        · refine tr_iload_n g 2 35 dX4_shop_34 rfl rfl rfl ?_
          refine tr_iconst (v := 1) g 36 dX4_shop_35 rfl rfl ?_
          refine tr_icmp_ne g 49 39 dX4_shop_36 rfl rfl ?_ ?_
          · refine tr_aload_n g 0 50 dX4_shop_49 rfl rfl rfl ?_
            refine gf_X4_0 g wd_225 53 dX4_shop_50 rfl ?_
            refine gf_X2_1 g wd_95 56 dX4_shop_53 rfl ?_
            refine tr_iload_n g 1 57 dX4_shop_56 rfl rfl rfl ?_
            refine tr_iald (N := 5) g 58 rfl rfl dX4_shop_57 rfl ?_
            refine tr_aload_n g 0 59 dX4_shop_58 rfl rfl rfl ?_
            refine gf_X4_4 g wd_229 62 dX4_shop_59 rfl ?_
            refine tr_iconst (v := 2) g 63 dX4_shop_62 rfl rfl ?_
            refine tr_ialdK (N := 8) g 64 2 rfl rfl rfl (by decide) dX4_shop_63 rfl ?_
            refine tr_icmp_leD (inj := fun z => Value.int z) g 72 71 67 dX4_shop_64 rfl rfl (fun rs hj => ?_) (fun rs hj => ?_) (fun v3 => ?_)
            · refine tr_iconst (v := 0) g 72 dX4_shop_71 rfl rfl ?_
              exact hj
            · refine tr_iconst (v := 1) g 68 dX4_shop_67 rfl rfl ?_
              refine tr_goto g 72 dX4_shop_68 rfl ?_
              exact hj
            · exact tr_iret g o dX4_shop_72
          · refine tr_aload_n g 0 40 dX4_shop_39 rfl rfl rfl ?_
            refine gf_X4_0 g wd_225 43 dX4_shop_40 rfl ?_
            refine gf_X2_2 g wd_97 46 dX4_shop_43 rfl ?_
            refine tr_iload_n g 1 47 dX4_shop_46 rfl rfl rfl ?_
            refine tr_iald (N := 5) g 48 rfl rfl dX4_shop_47 rfl ?_
            exact tr_iret g o dX4_shop_48
        · refine tr_aload_n g 0 25 dX4_shop_24 rfl rfl rfl ?_
          refine gf_X4_0 g wd_225 28 dX4_shop_25 rfl ?_
          refine gf_X2_1 g wd_95 31 dX4_shop_28 rfl ?_
          refine tr_iload_n g 1 32 dX4_shop_31 rfl rfl rfl ?_
          refine tr_iald (N := 5) g 33 rfl rfl dX4_shop_32 rfl ?_
          exact tr_iret g o dX4_shop_33
      · refine tr_bipush (v := (-2)) g 19 dX4_shop_17 rfl rfl ?_
        exact tr_iret g o dX4_shop_19
theorem ok_X4_shop {E : tn_E} {l : Launch}   (a1 : Int32) (a2 : Int32) {σ : tn_M} {r : Int32} {σ' : tn_M} (h : f_X4_shop a1 a2 σ = some (r, σ')) : tn_C E l yX4_shop cX4_shop 3 (some .int) (tn_rm 1 21) [.ref (tn_ad E 0), .int a1, .int a2] σ (tn_ie r) σ' :=
  tn_met (by decide) (Nat.le_of_ble_eq_true rfl) (fun G _ g o => b_X4_shop g o  a1 a2 σ) h
theorem yy_X4_shop : tn_Yv RX4 yX4_shop cX4_shop 3 (some .int) 2 := ⟨wd_313, wd_311, wd_312, wd_65, by decide, by decide, by decide +kernel⟩
theorem kv_X4_shop {E : tn_E} {G : tn_G} {cc : ByteArray} {own : String} {nL : Nat} {R : Room} {ρ : Type} {enc : ρ → Option Value} {pc : Nat} {lv : List (Nat × Value)} {st : List Value} {σ : tn_M} {kk : Int32 → tn_M → Option (ρ × tn_M)} {i : Nat}  {a1 : Int32} {a2 : Int32} (g : tn_Ok E G cc own nL R)  (hw : Cond.methodLink own i yX4_shop ∈ tn_T) (hroom : 2 ≤ R.frames ∧ 43 ≤ R.locals) (hW : (st.map fun v => v.category).sum ≤ 8) (n : Nat) (hd : decode cc pc = .ok (.invokevirtual i, 3)) (hn : pc + 3 = n) (k : ∀ r σ1, tn_V E G enc n lv (.int r :: st) σ1 (kk r σ1)) : tn_V E G enc pc lv (.int a2 :: .int a1 :: .ref (tn_ad E 0) :: st) σ (tn_bd (f_X4_shop a1 a2 σ) kk) :=
  tr_callV (As := [.int a1, .int a2]) (enc1 := tn_ie) g yy_X4_shop hw (ci := 4) rfl (by decide) rfl (fun r σ1 h => ok_X4_shop  a1 a2 h) ⟨rfl, rfl⟩ ⟨hroom.1, by have h2 := hroom.2; show 8 + (3 + 11) + 21 ≤ R.locals; omega⟩ rfl rfl hW n hd hn k
/-! X4_sort -/
def f_X4_sort  (a1 : Int32) (a2 : Int32) (σ : tn_M) : Option (Int32 × tn_M) :=
  if a1 < 0 then
    some ((-2), σ)
  else
    if (σ.1 1 6) ≤ a1 then
      some ((-2), σ)
    else
      if a2 < 0 then
        some ((-2), σ)
      else
        if a2 ≤ 5 then
          tn_ck a1 6 <|
          tn_ck a2 6 <|
          some ((σ.1 (12 + 1 + tn_x a1) (tn_x a2)), σ)
        else
          some ((-2), σ)
set_option maxHeartbeats 4000000 in
set_option maxRecDepth 20000 in
theorem b_X4_sort {E : tn_E} {G : tn_G} (g : tn_Ok E G cX4_sort RX4 3 (tn_rm 0 0)) (o : tn_Om E G (some .int))  (a1 : Int32) (a2 : Int32) (σ : tn_M) : tn_V E G tn_ie 0 [(0, .ref (tn_ad E 0)), (1, .int a1), (2, .int a2)] [] σ (f_X4_sort a1 a2 σ) := by
  unfold f_X4_sort
  refine tr_iload_n g 1 1 dX4_sort_0 rfl rfl rfl ?_
  refine tr_if_lt g 24 4 dX4_sort_1 rfl rfl ?_ ?_
  · refine tr_bipush (v := (-2)) g 26 dX4_sort_24 rfl rfl ?_
    exact tr_iret g o dX4_sort_26
  · refine tr_iload_n g 1 5 dX4_sort_4 rfl rfl rfl ?_
    refine tr_aload_n g 0 6 dX4_sort_5 rfl rfl rfl ?_
    refine gf_X4_0 g wd_225 9 dX4_sort_6 rfl ?_
    refine gf_X2_6 g wd_110 12 dX4_sort_9 rfl ?_
    refine tr_icmp_ge g 24 15 dX4_sort_12 rfl rfl ?_ ?_
    · refine tr_bipush (v := (-2)) g 26 dX4_sort_24 rfl rfl ?_
      exact tr_iret g o dX4_sort_26
    · refine tr_iload_n g 2 16 dX4_sort_15 rfl rfl rfl ?_
      refine tr_if_lt g 24 19 dX4_sort_16 rfl rfl ?_ ?_
      · refine tr_bipush (v := (-2)) g 26 dX4_sort_24 rfl rfl ?_
        exact tr_iret g o dX4_sort_26
      · refine tr_iload_n g 2 20 dX4_sort_19 rfl rfl rfl ?_
        refine tr_iconst (v := 5) g 21 dX4_sort_20 rfl rfl ?_
        refine tr_icmp_le g 27 24 dX4_sort_21 rfl rfl ?_ ?_
        · refine tr_aload_n g 0 28 dX4_sort_27 rfl rfl rfl ?_
          refine gf_X4_0 g wd_225 31 dX4_sort_28 rfl ?_
          refine gf_X2_3 g wd_101 34 dX4_sort_31 rfl ?_
          refine tr_iload_n g 1 35 dX4_sort_34 rfl rfl rfl ?_
          refine tr_aald (N := 6) g 36 rfl rfl dX4_sort_35 rfl (fun h1 => ?_)
          refine tr_iload_n g 2 37 dX4_sort_36 rfl rfl rfl ?_
          refine tr_iald (N := 6) g 38 (tn_rowB h1).1 (tn_rowB h1).2 dX4_sort_37 rfl ?_
          exact tr_iret g o dX4_sort_38
        · refine tr_bipush (v := (-2)) g 26 dX4_sort_24 rfl rfl ?_
          exact tr_iret g o dX4_sort_26
theorem ok_X4_sort {E : tn_E} {l : Launch}   (a1 : Int32) (a2 : Int32) {σ : tn_M} {r : Int32} {σ' : tn_M} (h : f_X4_sort a1 a2 σ = some (r, σ')) : tn_C E l yX4_sort cX4_sort 3 (some .int) (tn_rm 0 0) [.ref (tn_ad E 0), .int a1, .int a2] σ (tn_ie r) σ' :=
  tn_met (by decide) (Nat.le_of_ble_eq_true rfl) (fun G _ g o => b_X4_sort g o  a1 a2 σ) h
theorem yy_X4_sort : tn_Yv RX4 yX4_sort cX4_sort 3 (some .int) 2 := ⟨wd_321, wd_319, wd_320, wd_65, by decide, by decide, by decide +kernel⟩
theorem kv_X4_sort {E : tn_E} {G : tn_G} {cc : ByteArray} {own : String} {nL : Nat} {R : Room} {ρ : Type} {enc : ρ → Option Value} {pc : Nat} {lv : List (Nat × Value)} {st : List Value} {σ : tn_M} {kk : Int32 → tn_M → Option (ρ × tn_M)} {i : Nat}  {a1 : Int32} {a2 : Int32} (g : tn_Ok E G cc own nL R)  (hw : Cond.methodLink own i yX4_sort ∈ tn_T) (hroom : 1 ≤ R.frames ∧ 22 ≤ R.locals) (hW : (st.map fun v => v.category).sum ≤ 8) (n : Nat) (hd : decode cc pc = .ok (.invokevirtual i, 3)) (hn : pc + 3 = n) (k : ∀ r σ1, tn_V E G enc n lv (.int r :: st) σ1 (kk r σ1)) : tn_V E G enc pc lv (.int a2 :: .int a1 :: .ref (tn_ad E 0) :: st) σ (tn_bd (f_X4_sort a1 a2 σ) kk) :=
  tr_callV (As := [.int a1, .int a2]) (enc1 := tn_ie) g yy_X4_sort hw (ci := 4) rfl (by decide) rfl (fun r σ1 h => ok_X4_sort  a1 a2 h) ⟨rfl, rfl⟩ ⟨hroom.1, by have h2 := hroom.2; show 8 + (3 + 11) + 0 ≤ R.locals; omega⟩ rfl rfl hW n hd hn k
/-! X4_set -/
def f_X4_set  (a1 : Int32) (a2 : Int32) (σ : tn_M) : Option (Int32 × tn_M) :=
  if a1 < 0 then
    some ((-2), σ)
  else
    if 8 ≤ a1 then
      some ((-2), σ)
    else
      if a2 < 0 then
        some ((-2), σ)
      else
        tn_ck a1 8 <|
        if a2 ≤ (tn_hi (tn_x a1)) then
          tn_ck a1 8 <|
          tn_lt (α := Int32) (σ.1 6 (tn_x a1)) fun w1 =>
          tn_ck a1 8 <|
          tn_lt (tn_si σ 6 (tn_x a1) a2) fun σ2 =>
          if a1 = 0 then
            tn_lt (tn_si σ2 2 1 1) fun σ3 =>
            some (w1, σ3)
          else
            some (w1, σ2)
        else
          some ((-2), σ)
set_option maxHeartbeats 4000000 in
set_option maxRecDepth 20000 in
theorem b_X4_set {E : tn_E} {G : tn_G} (g : tn_Ok E G cX4_set RX4 4 (tn_rm 0 0)) (o : tn_Om E G (some .int))  (a1 : Int32) (a2 : Int32) (σ : tn_M) : tn_V E G tn_ie 0 [(0, .ref (tn_ad E 0)), (1, .int a1), (2, .int a2)] [] σ (f_X4_set a1 a2 σ) := by
  unfold f_X4_set
  refine tr_iload_n g 1 1 dX4_set_0 rfl rfl rfl ?_
  refine tr_if_lt g 23 4 dX4_set_1 rfl rfl ?_ ?_
  · refine tr_bipush (v := (-2)) g 25 dX4_set_23 rfl rfl ?_
    exact tr_iret g o dX4_set_25
  · refine tr_iload_n g 1 5 dX4_set_4 rfl rfl rfl ?_
    refine tr_bipush (v := 8) g 7 dX4_set_5 rfl rfl ?_
    refine tr_icmp_ge g 23 10 dX4_set_7 rfl rfl ?_ ?_
    · refine tr_bipush (v := (-2)) g 25 dX4_set_23 rfl rfl ?_
      exact tr_iret g o dX4_set_25
    · refine tr_iload_n g 2 11 dX4_set_10 rfl rfl rfl ?_
      refine tr_if_lt g 23 14 dX4_set_11 rfl rfl ?_ ?_
      · refine tr_bipush (v := (-2)) g 25 dX4_set_23 rfl rfl ?_
        exact tr_iret g o dX4_set_25
      · refine tr_iload_n g 2 15 dX4_set_14 rfl rfl rfl ?_
        refine tr_hget g wd_326 18 dX4_set_15 rfl ?_
        refine tr_iload_n g 1 19 dX4_set_18 rfl rfl rfl ?_
        refine tr_hald g 20 dX4_set_19 rfl ?_
        refine tr_icmp_le g 26 23 dX4_set_20 rfl rfl ?_ ?_
        · refine tr_aload_n g 0 27 dX4_set_26 rfl rfl rfl ?_
          refine gf_X4_4 g wd_229 30 dX4_set_27 rfl ?_
          refine tr_iload_n g 1 31 dX4_set_30 rfl rfl rfl ?_
          refine tr_iald (N := 8) g 32 rfl rfl dX4_set_31 rfl ?_
          refine tr_lti (fun w1 => ?_)
          refine tr_istore_n (lv' := [(3, .int w1), (0, .ref (tn_ad E 0)), (1, .int a1), (2, .int a2)]) g 33 dX4_set_32 rfl rfl (by decide) rfl ?_
          refine tr_aload_n g 1 34 dX4_set_33 rfl rfl rfl ?_
          refine gf_X4_4 g wd_229 37 dX4_set_34 rfl ?_
          refine tr_iload_n g 2 38 dX4_set_37 rfl rfl rfl ?_
          refine tr_iload_n g 3 39 dX4_set_38 rfl rfl rfl ?_
          refine tr_iast (N := 8) g 40 rfl rfl dX4_set_39 rfl (fun σ2 => ?_)
          refine tr_iload_n g 2 41 dX4_set_40 rfl rfl rfl ?_
          refine tr_if_ne g 52 44 dX4_set_41 rfl rfl ?_ ?_
          · refine tr_iload_n g 0 53 dX4_set_52 rfl rfl rfl ?_
            exact tr_iret g o dX4_set_53
          · refine tr_aload_n g 1 45 dX4_set_44 rfl rfl rfl ?_
            refine gf_X4_1 g wd_226 48 dX4_set_45 rfl ?_
            refine tr_iconst (v := 1) g 49 dX4_set_48 rfl rfl ?_
            refine pf_X3_1 g wd_142 rfl rfl 52 dX4_set_49 rfl (fun σ3 => ?_)
            refine tr_iload_n g 0 53 dX4_set_52 rfl rfl rfl ?_
            exact tr_iret g o dX4_set_53
        · refine tr_bipush (v := (-2)) g 25 dX4_set_23 rfl rfl ?_
          exact tr_iret g o dX4_set_25
theorem ok_X4_set {E : tn_E} {l : Launch}   (a1 : Int32) (a2 : Int32) {σ : tn_M} {r : Int32} {σ' : tn_M} (h : f_X4_set a1 a2 σ = some (r, σ')) : tn_C E l yX4_set cX4_set 4 (some .int) (tn_rm 0 0) [.ref (tn_ad E 0), .int a1, .int a2] σ (tn_ie r) σ' :=
  tn_met (by decide) (Nat.le_of_ble_eq_true rfl) (fun G _ g o => b_X4_set g o  a1 a2 σ) h
theorem yy_X4_set : tn_Yv RX4 yX4_set cX4_set 4 (some .int) 2 := ⟨wd_325, wd_323, wd_324, wd_65, by decide, by decide, by decide +kernel⟩
theorem kv_X4_set {E : tn_E} {G : tn_G} {cc : ByteArray} {own : String} {nL : Nat} {R : Room} {ρ : Type} {enc : ρ → Option Value} {pc : Nat} {lv : List (Nat × Value)} {st : List Value} {σ : tn_M} {kk : Int32 → tn_M → Option (ρ × tn_M)} {i : Nat}  {a1 : Int32} {a2 : Int32} (g : tn_Ok E G cc own nL R)  (hw : Cond.methodLink own i yX4_set ∈ tn_T) (hroom : 1 ≤ R.frames ∧ 23 ≤ R.locals) (hW : (st.map fun v => v.category).sum ≤ 8) (n : Nat) (hd : decode cc pc = .ok (.invokevirtual i, 3)) (hn : pc + 3 = n) (k : ∀ r σ1, tn_V E G enc n lv (.int r :: st) σ1 (kk r σ1)) : tn_V E G enc pc lv (.int a2 :: .int a1 :: .ref (tn_ad E 0) :: st) σ (tn_bd (f_X4_set a1 a2 σ) kk) :=
  tr_callV (As := [.int a1, .int a2]) (enc1 := tn_ie) g yy_X4_set hw (ci := 4) rfl (by decide) rfl (fun r σ1 h => ok_X4_set  a1 a2 h) ⟨rfl, rfl⟩ ⟨hroom.1, by have h2 := hroom.2; show 8 + (4 + 11) + 0 ≤ R.locals; omega⟩ rfl rfl hW n hd hn k
/-! X4_hours -/
def f_X4_hours  (a1 : Int32) (a2 : Int32) (σ : tn_M) : Option (Int32 × tn_M) :=
  if a1 < 0 then
    some ((-2), σ)
  else
    if 5 ≤ a1 then
      some ((-2), σ)
    else
      if a2 < 0 then
        some ((-2), σ)
      else
        if a2 ≤ 3 then
          tn_ck a1 5 <|
          tn_lt (α := Int32) (σ.1 7 (tn_x a1)) fun w1 =>
          tn_ck a1 5 <|
          tn_lt (tn_si σ 7 (tn_x a1) a2) fun σ2 =>
          some (w1, σ2)
        else
          some ((-2), σ)
set_option maxHeartbeats 4000000 in
set_option maxRecDepth 20000 in
theorem b_X4_hours {E : tn_E} {G : tn_G} (g : tn_Ok E G cX4_hours RX4 4 (tn_rm 0 0)) (o : tn_Om E G (some .int))  (a1 : Int32) (a2 : Int32) (σ : tn_M) : tn_V E G tn_ie 0 [(0, .ref (tn_ad E 0)), (1, .int a1), (2, .int a2)] [] σ (f_X4_hours a1 a2 σ) := by
  unfold f_X4_hours
  refine tr_iload_n g 1 1 dX4_hours_0 rfl rfl rfl ?_
  refine tr_if_lt g 18 4 dX4_hours_1 rfl rfl ?_ ?_
  · refine tr_bipush (v := (-2)) g 20 dX4_hours_18 rfl rfl ?_
    exact tr_iret g o dX4_hours_20
  · refine tr_iload_n g 1 5 dX4_hours_4 rfl rfl rfl ?_
    refine tr_iconst (v := 5) g 6 dX4_hours_5 rfl rfl ?_
    refine tr_icmp_ge g 18 9 dX4_hours_6 rfl rfl ?_ ?_
    · refine tr_bipush (v := (-2)) g 20 dX4_hours_18 rfl rfl ?_
      exact tr_iret g o dX4_hours_20
    · refine tr_iload_n g 2 10 dX4_hours_9 rfl rfl rfl ?_
      refine tr_if_lt g 18 13 dX4_hours_10 rfl rfl ?_ ?_
      · refine tr_bipush (v := (-2)) g 20 dX4_hours_18 rfl rfl ?_
        exact tr_iret g o dX4_hours_20
      · refine tr_iload_n g 2 14 dX4_hours_13 rfl rfl rfl ?_
        refine tr_iconst (v := 3) g 15 dX4_hours_14 rfl rfl ?_
        refine tr_icmp_le g 21 18 dX4_hours_15 rfl rfl ?_ ?_
        · refine tr_aload_n g 0 22 dX4_hours_21 rfl rfl rfl ?_
          refine gf_X4_5 g wd_230 25 dX4_hours_22 rfl ?_
          refine tr_iload_n g 1 26 dX4_hours_25 rfl rfl rfl ?_
          refine tr_iald (N := 5) g 27 rfl rfl dX4_hours_26 rfl ?_
          refine tr_lti (fun w1 => ?_)
          refine tr_istore_n (lv' := [(3, .int w1), (0, .ref (tn_ad E 0)), (1, .int a1), (2, .int a2)]) g 28 dX4_hours_27 rfl rfl (by decide) rfl ?_
          refine tr_aload_n g 1 29 dX4_hours_28 rfl rfl rfl ?_
          refine gf_X4_5 g wd_230 32 dX4_hours_29 rfl ?_
          refine tr_iload_n g 2 33 dX4_hours_32 rfl rfl rfl ?_
          refine tr_iload_n g 3 34 dX4_hours_33 rfl rfl rfl ?_
          refine tr_iast (N := 5) g 35 rfl rfl dX4_hours_34 rfl (fun σ2 => ?_)
          refine tr_iload_n g 0 36 dX4_hours_35 rfl rfl rfl ?_
          exact tr_iret g o dX4_hours_36
        · refine tr_bipush (v := (-2)) g 20 dX4_hours_18 rfl rfl ?_
          exact tr_iret g o dX4_hours_20
theorem ok_X4_hours {E : tn_E} {l : Launch}   (a1 : Int32) (a2 : Int32) {σ : tn_M} {r : Int32} {σ' : tn_M} (h : f_X4_hours a1 a2 σ = some (r, σ')) : tn_C E l yX4_hours cX4_hours 4 (some .int) (tn_rm 0 0) [.ref (tn_ad E 0), .int a1, .int a2] σ (tn_ie r) σ' :=
  tn_met (by decide) (Nat.le_of_ble_eq_true rfl) (fun G _ g o => b_X4_hours g o  a1 a2 σ) h
theorem yy_X4_hours : tn_Yv RX4 yX4_hours cX4_hours 4 (some .int) 2 := ⟨wd_331, wd_329, wd_330, wd_65, by decide, by decide, by decide +kernel⟩
theorem kv_X4_hours {E : tn_E} {G : tn_G} {cc : ByteArray} {own : String} {nL : Nat} {R : Room} {ρ : Type} {enc : ρ → Option Value} {pc : Nat} {lv : List (Nat × Value)} {st : List Value} {σ : tn_M} {kk : Int32 → tn_M → Option (ρ × tn_M)} {i : Nat}  {a1 : Int32} {a2 : Int32} (g : tn_Ok E G cc own nL R)  (hw : Cond.methodLink own i yX4_hours ∈ tn_T) (hroom : 1 ≤ R.frames ∧ 23 ≤ R.locals) (hW : (st.map fun v => v.category).sum ≤ 8) (n : Nat) (hd : decode cc pc = .ok (.invokevirtual i, 3)) (hn : pc + 3 = n) (k : ∀ r σ1, tn_V E G enc n lv (.int r :: st) σ1 (kk r σ1)) : tn_V E G enc pc lv (.int a2 :: .int a1 :: .ref (tn_ad E 0) :: st) σ (tn_bd (f_X4_hours a1 a2 σ) kk) :=
  tr_callV (As := [.int a1, .int a2]) (enc1 := tn_ie) g yy_X4_hours hw (ci := 4) rfl (by decide) rfl (fun r σ1 h => ok_X4_hours  a1 a2 h) ⟨rfl, rfl⟩ ⟨hroom.1, by have h2 := hroom.2; show 8 + (4 + 11) + 0 ≤ R.locals; omega⟩ rfl rfl hW n hd hn k
/-! X4_read -/
def F_X4_read_32  : Nat → Int32 → Int32 → Int32 → tn_M → Option (Int32 × tn_M)
  | 0, _, _, _, _ => none
  | tn_n + 1, x1, x3, x4, σ => 
    if x3 ≤ x4 then
      some (x3, σ)
    else
      tn_ck x1 4 <|
      tn_ck x4 60 <|
      tn_lt (α := Int32) (σ.1 (28 + 1 + tn_x x1) (tn_x x4)) fun w2 =>
      if w2 < 0 then
        some (x4, σ)
      else
        if w2 ≤ 3 then
          tn_ck x4 5 <|
          tn_lt (tn_si σ 7 (tn_x x4) w2) fun σ3 =>
          F_X4_read_32 tn_n x1 x3 (x4 + 1) σ3
        else
          some (x4, σ)
def f_X4_read  (a1 : Int32) (σ : tn_M) : Option (Int32 × tn_M) :=
  tn_bd (f_X1_refusal a1 σ) fun r2 σ1 =>
  if r2 = 0 then
    tn_ck a1 4 <|
    tn_lt (α := Int32) (if (σ1.1 27 (tn_x a1)) < 5 then (σ1.1 27 (tn_x a1)) else 5) fun w3 =>
    F_X4_read_32 tn_fuel a1 w3 0 σ1
  else
    some (r2, σ1)
set_option maxHeartbeats 4000000 in
set_option maxRecDepth 20000 in
theorem b_X4_read_32 {E : tn_E} {G : tn_G} (g : tn_Ok E G cX4_read RX4 6 (tn_rm 2 42)) (o : tn_Om E G (some .int))  : ∀ (n : Nat) (x1 : Int32) (x3 : Int32) (x4 : Int32) (σ : tn_M), tn_V E G tn_ie 32 [(0, .ref (tn_ad E 0)), (1, .int x1), (3, .int x3), (4, .int x4)] [] σ (F_X4_read_32 n x1 x3 x4 σ) := by
  intro n
  induction n with
  | zero => intros; exact tr_none
  | succ tn_n ih =>
    intro x1 x3 x4 σ
    rw [F_X4_read_32]
    refine tr_iload g 3 34 dX4_read_32 rfl rfl ?_
    refine tr_iload_n g 2 35 dX4_read_34 rfl rfl rfl ?_
    refine tr_icmp_ge g 81 38 dX4_read_35 rfl rfl ?_ ?_
    · refine tr_iload_n g 2 82 dX4_read_81 rfl rfl rfl ?_
      exact tr_iret g o dX4_read_82
    · refine tr_aload_n g 0 39 dX4_read_38 rfl rfl rfl ?_
      refine gf_X4_3 g wd_228 42 dX4_read_39 rfl ?_
      refine gf_X1_2 g wd_213 45 dX4_read_42 rfl ?_
      refine tr_iload_n g 1 46 dX4_read_45 rfl rfl rfl ?_
      refine tr_aald (N := 4) g 47 rfl rfl dX4_read_46 rfl (fun h1 => ?_)
      refine tr_iload g 3 49 dX4_read_47 rfl rfl ?_
      refine tr_iald (N := 60) g 50 (tn_rowI h1).1 (tn_rowI h1).2 dX4_read_49 rfl ?_
      refine tr_lti (fun w2 => ?_)
      refine tr_istore (lv' := [(5, .int w2), (0, .ref (tn_ad E 0)), (1, .int x1), (3, .int x3), (4, .int x4)]) g 52 dX4_read_50 rfl (by decide) rfl ?_
      refine tr_iload g 0 54 dX4_read_52 rfl rfl ?_
      refine tr_if_lt g 63 57 dX4_read_54 rfl rfl ?_ ?_
      · refine tr_iload g 4 65 dX4_read_63 rfl rfl ?_
        exact tr_iret g o dX4_read_65
      · refine tr_iload g 0 59 dX4_read_57 rfl rfl ?_
        refine tr_iconst (v := 3) g 60 dX4_read_59 rfl rfl ?_
        refine tr_icmp_le g 66 63 dX4_read_60 rfl rfl ?_ ?_
        · refine tr_aload_n g 1 67 dX4_read_66 rfl rfl rfl ?_
          refine gf_X4_5 g wd_230 70 dX4_read_67 rfl ?_
          refine tr_iload g 4 72 dX4_read_70 rfl rfl ?_
          refine tr_iload g 0 74 dX4_read_72 rfl rfl ?_
          refine tr_iast (N := 5) g 75 rfl rfl dX4_read_74 rfl (fun σ3 => ?_)
          refine tr_iinc (lv' := [(4, .int (x4 + 1)), (5, .int w2), (0, .ref (tn_ad E 0)), (1, .int x1), (3, .int x3)]) (x := (x4 + 1)) g 4 78 dX4_read_75 rfl rfl rfl (by decide) rfl ?_
          refine tr_goto g 32 dX4_read_78 rfl ?_
          refine tr_sub [2, 3, 4, 0] (lv' := [(0, .ref (tn_ad E 0)), (1, .int x1), (3, .int x3), (4, .int (x4 + 1))]) rfl ?_
          exact ih _ _ _ _
        · refine tr_iload g 4 65 dX4_read_63 rfl rfl ?_
          exact tr_iret g o dX4_read_65
set_option maxHeartbeats 4000000 in
set_option maxRecDepth 20000 in
theorem b_X4_read {E : tn_E} {G : tn_G} (g : tn_Ok E G cX4_read RX4 6 (tn_rm 2 42)) (o : tn_Om E G (some .int))  (a1 : Int32) (σ : tn_M) : tn_V E G tn_ie 0 [(0, .ref (tn_ad E 0)), (1, .int a1)] [] σ (f_X4_read a1 σ) := by
  unfold f_X4_read
  refine tr_aload_n g 0 1 dX4_read_0 rfl rfl rfl ?_
  refine gf_X4_3 g wd_228 4 dX4_read_1 rfl ?_
  refine tr_iload_n g 1 5 dX4_read_4 rfl rfl rfl ?_
  refine kv_X1_refusal g wd_336 ⟨Nat.le_of_ble_eq_true rfl, Nat.le_of_ble_eq_true rfl⟩ (Nat.le_of_ble_eq_true rfl) 8 dX4_read_5 rfl (fun r2 σ1 => ?_)
  refine tr_istore_n (lv' := [(2, .int r2), (0, .ref (tn_ad E 0)), (1, .int a1)]) g 9 dX4_read_8 rfl rfl (by decide) rfl ?_
  refine tr_iload_n g 0 10 dX4_read_9 rfl rfl rfl ?_
  refine tr_if_eq g 15 13 dX4_read_10 rfl rfl ?_ ?_
  · refine tr_iconst (v := 5) g 16 dX4_read_15 rfl rfl ?_
    refine tr_aload_n g 1 17 dX4_read_16 rfl rfl rfl ?_
    refine gf_X4_3 g wd_228 20 dX4_read_17 rfl ?_
    refine gf_X1_1 g wd_211 23 dX4_read_20 rfl ?_
    refine tr_iload_n g 2 24 dX4_read_23 rfl rfl rfl ?_
    refine tr_iald (N := 4) g 25 rfl rfl dX4_read_24 rfl ?_
    refine tr_mmin g wd_347 wd_348 wd_71 wd_349 ⟨Nat.le_of_ble_eq_true rfl, Nat.le_of_ble_eq_true rfl⟩ 28 dX4_read_25 rfl ?_
    refine tr_lti (fun w3 => ?_)
    refine tr_istore_n (lv' := [(3, .int w3), (2, .int r2), (0, .ref (tn_ad E 0)), (1, .int a1)]) g 29 dX4_read_28 rfl rfl (by decide) rfl ?_
    refine tr_iconst (v := 0) g 30 dX4_read_29 rfl rfl ?_
    refine tr_istore (lv' := [(4, .int 0), (3, .int w3), (2, .int r2), (0, .ref (tn_ad E 0)), (1, .int a1)]) g 32 dX4_read_30 rfl (by decide) rfl ?_
    refine tr_sub [3, 4, 1, 0] (lv' := [(0, .ref (tn_ad E 0)), (1, .int a1), (3, .int w3), (4, .int 0)]) rfl ?_
    exact b_X4_read_32 g o  tn_fuel _ _ _ _
  · refine tr_iload_n g 0 14 dX4_read_13 rfl rfl rfl ?_
    exact tr_iret g o dX4_read_14
theorem ok_X4_read {E : tn_E} {l : Launch}   (a1 : Int32) {σ : tn_M} {r : Int32} {σ' : tn_M} (h : f_X4_read a1 σ = some (r, σ')) : tn_C E l yX4_read cX4_read 6 (some .int) (tn_rm 2 42) [.ref (tn_ad E 0), .int a1] σ (tn_ie r) σ' :=
  tn_met (by decide) (Nat.le_of_ble_eq_true rfl) (fun G _ g o => b_X4_read g o  a1 σ) h
theorem yy_X4_read : tn_Yv RX4 yX4_read cX4_read 6 (some .int) 1 := ⟨wd_335, wd_333, wd_334, wd_65, by decide, by decide, by decide +kernel⟩
theorem kv_X4_read {E : tn_E} {G : tn_G} {cc : ByteArray} {own : String} {nL : Nat} {R : Room} {ρ : Type} {enc : ρ → Option Value} {pc : Nat} {lv : List (Nat × Value)} {st : List Value} {σ : tn_M} {kk : Int32 → tn_M → Option (ρ × tn_M)} {i : Nat}  {a1 : Int32} (g : tn_Ok E G cc own nL R)  (hw : Cond.methodLink own i yX4_read ∈ tn_T) (hroom : 3 ≤ R.frames ∧ 67 ≤ R.locals) (hW : (st.map fun v => v.category).sum ≤ 8) (n : Nat) (hd : decode cc pc = .ok (.invokevirtual i, 3)) (hn : pc + 3 = n) (k : ∀ r σ1, tn_V E G enc n lv (.int r :: st) σ1 (kk r σ1)) : tn_V E G enc pc lv (.int a1 :: .ref (tn_ad E 0) :: st) σ (tn_bd (f_X4_read a1 σ) kk) :=
  tr_callV (As := [.int a1]) (enc1 := tn_ie) g yy_X4_read hw (ci := 4) rfl (by decide) rfl (fun r σ1 h => ok_X4_read  a1 h) ⟨rfl, rfl⟩ ⟨hroom.1, by have h2 := hroom.2; show 8 + (6 + 11) + 42 ≤ R.locals; omega⟩ rfl rfl hW n hd hn k
/-! X4_sceneNow -/
def F_X4_sceneNow_27   (σ : tn_M) : Option (Unit × tn_M) :=
  tn_bd (f_X0_begin σ) fun _ σ1 =>
  some ((), σ1)
def f_X4_sceneNow   (σ : tn_M) : Option (Unit × tn_M) :=
  if (σ.1 2 1) = 0 then
    F_X4_sceneNow_27 σ
  else
    tn_bd (f_X3_fill (σ.1 6 0) σ) fun _ σ1 =>
    F_X4_sceneNow_27 σ1
set_option maxHeartbeats 4000000 in
set_option maxRecDepth 20000 in
theorem b_X4_sceneNow_27 {E : tn_E} {G : tn_G} (g : tn_Ok E G cX4_sceneNow RX4 1 (tn_rm 3 86)) (o : tn_Om E G (some (.object "TillNine$Scene")))   (σ : tn_M) : tn_V E G (tn_re (tn_ad E 3)) 27 [(0, .ref (tn_ad E 0))] [] σ (F_X4_sceneNow_27 σ) := by
  unfold F_X4_sceneNow_27
  refine tr_aload_n g 0 28 dX4_sceneNow_27 rfl rfl rfl ?_
  refine gf_X4_2 g wd_227 31 dX4_sceneNow_28 rfl ?_
  refine tr_aload_n g 0 32 dX4_sceneNow_31 rfl rfl rfl ?_
  refine gf_X4_5 g wd_230 35 dX4_sceneNow_32 rfl ?_
  refine tr_aload_n g 0 36 dX4_sceneNow_35 rfl rfl rfl ?_
  refine gf_X4_4 g wd_229 39 dX4_sceneNow_36 rfl ?_
  refine kv_X0_begin g wd_385 ⟨Nat.le_of_ble_eq_true rfl, Nat.le_of_ble_eq_true rfl⟩ (Nat.le_of_ble_eq_true rfl) 42 dX4_sceneNow_39 rfl (fun _ σ1 => ?_)
  refine tr_aload_n g 0 43 dX4_sceneNow_42 rfl rfl rfl ?_
  refine gf_X4_2 g wd_227 46 dX4_sceneNow_43 rfl ?_
  exact tr_aret g o dX4_sceneNow_46
set_option maxHeartbeats 4000000 in
set_option maxRecDepth 20000 in
theorem b_X4_sceneNow {E : tn_E} {G : tn_G} (g : tn_Ok E G cX4_sceneNow RX4 1 (tn_rm 3 86)) (o : tn_Om E G (some (.object "TillNine$Scene")))   (σ : tn_M) : tn_V E G (tn_re (tn_ad E 3)) 0 [(0, .ref (tn_ad E 0))] [] σ (f_X4_sceneNow σ) := by
  unfold f_X4_sceneNow
  refine tr_aload_n g 0 1 dX4_sceneNow_0 rfl rfl rfl ?_
  refine gf_X4_1 g wd_226 4 dX4_sceneNow_1 rfl ?_
  refine gf_X3_1 g wd_142 7 dX4_sceneNow_4 rfl ?_
  refine tr_if_eq g 27 10 dX4_sceneNow_7 rfl rfl ?_ ?_
  · exact b_X4_sceneNow_27 g o  _
  · refine tr_aload_n g 0 11 dX4_sceneNow_10 rfl rfl rfl ?_
    refine gf_X4_1 g wd_226 14 dX4_sceneNow_11 rfl ?_
    refine tr_aload_n g 0 15 dX4_sceneNow_14 rfl rfl rfl ?_
    refine gf_X4_0 g wd_225 18 dX4_sceneNow_15 rfl ?_
    refine tr_aload_n g 0 19 dX4_sceneNow_18 rfl rfl rfl ?_
    refine gf_X4_4 g wd_229 22 dX4_sceneNow_19 rfl ?_
    refine tr_iconst (v := 0) g 23 dX4_sceneNow_22 rfl rfl ?_
    refine tr_ialdK (N := 8) g 24 0 rfl rfl rfl (by decide) dX4_sceneNow_23 rfl ?_
    refine kv_X3_fill g wd_358 ⟨Nat.le_of_ble_eq_true rfl, Nat.le_of_ble_eq_true rfl⟩ (Nat.le_of_ble_eq_true rfl) 27 dX4_sceneNow_24 rfl (fun _ σ1 => ?_)
    exact b_X4_sceneNow_27 g o  _
theorem ok_X4_sceneNow {E : tn_E} {l : Launch}    {σ : tn_M} {r : Unit} {σ' : tn_M} (h : f_X4_sceneNow  σ = some (r, σ')) : tn_C E l yX4_sceneNow cX4_sceneNow 1 (some (.object "TillNine$Scene")) (tn_rm 3 86) [.ref (tn_ad E 0)] σ ((tn_re (tn_ad E 3)) r) σ' :=
  tn_met (by decide) (Nat.le_of_ble_eq_true rfl) (fun G _ g o => b_X4_sceneNow g o   σ) h
theorem yy_X4_sceneNow : tn_Yv RX4 yX4_sceneNow cX4_sceneNow 1 (some (.object "TillNine$Scene")) 0 := ⟨wd_357, wd_356, wd_11, wd_65, by decide, by decide, by decide +kernel⟩
theorem kv_X4_sceneNow {E : tn_E} {G : tn_G} {cc : ByteArray} {own : String} {nL : Nat} {R : Room} {ρ : Type} {enc : ρ → Option Value} {pc : Nat} {lv : List (Nat × Value)} {st : List Value} {σ : tn_M} {kk : Unit → tn_M → Option (ρ × tn_M)} {i : Nat}   (g : tn_Ok E G cc own nL R)  (hw : Cond.methodLink own i yX4_sceneNow ∈ tn_T) (hroom : 4 ≤ R.frames ∧ 106 ≤ R.locals) (hW : (st.map fun v => v.category).sum ≤ 8) (n : Nat) (hd : decode cc pc = .ok (.invokevirtual i, 3)) (hn : pc + 3 = n) (k : ∀ r σ1, tn_V E G enc n lv (.ref (tn_ad E 3) :: st) σ1 (kk r σ1)) : tn_V E G enc pc lv (.ref (tn_ad E 0) :: st) σ (tn_bd (f_X4_sceneNow  σ) kk) :=
  tr_callV (As := []) (enc1 := (tn_re (tn_ad E 3))) g yy_X4_sceneNow hw (ci := 4) rfl (by decide) rfl (fun r σ1 h => ok_X4_sceneNow   h) ⟨rfl, rfl⟩ ⟨hroom.1, by have h2 := hroom.2; show 8 + (1 + 11) + 86 ≤ R.locals; omega⟩ rfl rfl hW n hd hn k
/-! X4_open -/
def f_X4_open  (a1 : Int32) (σ : tn_M) : Option (Int32 × tn_M) :=
  if a1 < 1 then
    some ((-2), σ)
  else
    if a1 ≤ 3 then
      tn_bd (f_X4_sceneNow σ) fun _ σ1 =>
      tn_ck a1 4 <|
      some ((σ1.1 24 (tn_x a1)), σ1)
    else
      some ((-2), σ)
set_option maxHeartbeats 4000000 in
set_option maxRecDepth 20000 in
theorem b_X4_open {E : tn_E} {G : tn_G} (g : tn_Ok E G cX4_open RX4 2 (tn_rm 4 106)) (o : tn_Om E G (some .int))  (a1 : Int32) (σ : tn_M) : tn_V E G tn_ie 0 [(0, .ref (tn_ad E 0)), (1, .int a1)] [] σ (f_X4_open a1 σ) := by
  unfold f_X4_open
  refine tr_iload_n g 1 1 dX4_open_0 rfl rfl rfl ?_
  refine tr_iconst (v := 1) g 2 dX4_open_1 rfl rfl ?_
  refine tr_icmp_lt g 10 5 dX4_open_2 rfl rfl ?_ ?_
  · refine tr_bipush (v := (-2)) g 12 dX4_open_10 rfl rfl ?_
    exact tr_iret g o dX4_open_12
  · refine tr_iload_n g 1 6 dX4_open_5 rfl rfl rfl ?_
    refine tr_iconst (v := 3) g 7 dX4_open_6 rfl rfl ?_
    refine tr_icmp_le g 13 10 dX4_open_7 rfl rfl ?_ ?_
    · refine tr_aload_n g 0 14 dX4_open_13 rfl rfl rfl ?_
      refine kv_X4_sceneNow g wd_354 ⟨Nat.le_of_ble_eq_true rfl, Nat.le_of_ble_eq_true rfl⟩ (Nat.le_of_ble_eq_true rfl) 17 dX4_open_14 rfl (fun _ σ1 => ?_)
      refine gf_X0_6 g wd_164 20 dX4_open_17 rfl ?_
      refine tr_iload_n g 1 21 dX4_open_20 rfl rfl rfl ?_
      refine tr_iald (N := 4) g 22 rfl rfl dX4_open_21 rfl ?_
      exact tr_iret g o dX4_open_22
    · refine tr_bipush (v := (-2)) g 12 dX4_open_10 rfl rfl ?_
      exact tr_iret g o dX4_open_12
theorem ok_X4_open {E : tn_E} {l : Launch}   (a1 : Int32) {σ : tn_M} {r : Int32} {σ' : tn_M} (h : f_X4_open a1 σ = some (r, σ')) : tn_C E l yX4_open cX4_open 2 (some .int) (tn_rm 4 106) [.ref (tn_ad E 0), .int a1] σ (tn_ie r) σ' :=
  tn_met (by decide) (Nat.le_of_ble_eq_true rfl) (fun G _ g o => b_X4_open g o  a1 σ) h
theorem yy_X4_open : tn_Yv RX4 yX4_open cX4_open 2 (some .int) 1 := ⟨wd_353, wd_351, wd_352, wd_65, by decide, by decide, by decide +kernel⟩
theorem kv_X4_open {E : tn_E} {G : tn_G} {cc : ByteArray} {own : String} {nL : Nat} {R : Room} {ρ : Type} {enc : ρ → Option Value} {pc : Nat} {lv : List (Nat × Value)} {st : List Value} {σ : tn_M} {kk : Int32 → tn_M → Option (ρ × tn_M)} {i : Nat}  {a1 : Int32} (g : tn_Ok E G cc own nL R)  (hw : Cond.methodLink own i yX4_open ∈ tn_T) (hroom : 5 ≤ R.frames ∧ 127 ≤ R.locals) (hW : (st.map fun v => v.category).sum ≤ 8) (n : Nat) (hd : decode cc pc = .ok (.invokevirtual i, 3)) (hn : pc + 3 = n) (k : ∀ r σ1, tn_V E G enc n lv (.int r :: st) σ1 (kk r σ1)) : tn_V E G enc pc lv (.int a1 :: .ref (tn_ad E 0) :: st) σ (tn_bd (f_X4_open a1 σ) kk) :=
  tr_callV (As := [.int a1]) (enc1 := tn_ie) g yy_X4_open hw (ci := 4) rfl (by decide) rfl (fun r σ1 h => ok_X4_open  a1 h) ⟨rfl, rfl⟩ ⟨hroom.1, by have h2 := hroom.2; show 8 + (2 + 11) + 106 ≤ R.locals; omega⟩ rfl rfl hW n hd hn k
/-! X4_noSide -/
def f_X4_noSide  (a0 : Int32) (σ : tn_M) : Option (Int32 × tn_M) :=
  if a0 < 0 then
    some (1, σ)
  else
    if a0 ≤ 1 then
      some (0, σ)
    else
      some (1, σ)
set_option maxHeartbeats 4000000 in
set_option maxRecDepth 20000 in
theorem b_X4_noSide {E : tn_E} {G : tn_G} (g : tn_Ok E G cX4_noSide RX4 1 (tn_rm 0 0)) (o : tn_Om E G (some .boolean))  (a0 : Int32) (σ : tn_M) : tn_V E G tn_ie 0 [(0, .int a0)] [] σ (f_X4_noSide a0 σ) := by
  unfold f_X4_noSide
  refine tr_iload_n g 0 1 dX4_noSide_0 rfl rfl rfl ?_
  refine tr_if_lt g 9 4 dX4_noSide_1 rfl rfl ?_ ?_
  · refine tr_iconst (v := 1) g 10 dX4_noSide_9 rfl rfl ?_
    refine tr_goto g 14 dX4_noSide_10 rfl ?_
    exact tr_zret g o rfl dX4_noSide_14
  · refine tr_iload_n g 0 5 dX4_noSide_4 rfl rfl rfl ?_
    refine tr_iconst (v := 1) g 6 dX4_noSide_5 rfl rfl ?_
    refine tr_icmp_le g 13 9 dX4_noSide_6 rfl rfl ?_ ?_
    · refine tr_iconst (v := 0) g 14 dX4_noSide_13 rfl rfl ?_
      exact tr_zret g o rfl dX4_noSide_14
    · refine tr_iconst (v := 1) g 10 dX4_noSide_9 rfl rfl ?_
      refine tr_goto g 14 dX4_noSide_10 rfl ?_
      exact tr_zret g o rfl dX4_noSide_14
theorem ok_X4_noSide {E : tn_E} {l : Launch}   (a0 : Int32) {σ : tn_M} {r : Int32} {σ' : tn_M} (h : f_X4_noSide a0 σ = some (r, σ')) : tn_C E l yX4_noSide cX4_noSide 1 (some .boolean) (tn_rm 0 0) [.int a0] σ (tn_ie r) σ' :=
  tn_met (by decide) (Nat.le_of_ble_eq_true rfl) (fun G _ g o => b_X4_noSide g o  a0 σ) h
theorem yy_X4_noSide : tn_Ys yX4_noSide cX4_noSide 1 (some .boolean) 1 := ⟨wd_406, wd_405, wd_65, by decide, by decide, by decide +kernel⟩
theorem kv_X4_noSide {E : tn_E} {G : tn_G} {cc : ByteArray} {own : String} {nL : Nat} {R : Room} {ρ : Type} {enc : ρ → Option Value} {pc : Nat} {lv : List (Nat × Value)} {st : List Value} {σ : tn_M} {kk : Int32 → tn_M → Option (ρ × tn_M)} {i : Nat}  {a0 : Int32} (g : tn_Ok E G cc own nL R)  (hw : Cond.methodLink own i yX4_noSide ∈ tn_T) (hroom : 1 ≤ R.frames ∧ 20 ≤ R.locals) (hW : (st.map fun v => v.category).sum ≤ 8) (n : Nat) (hd : decode cc pc = .ok (.invokestatic i, 3)) (hn : pc + 3 = n) (k : ∀ r σ1, tn_V E G enc n lv (.int r :: st) σ1 (kk r σ1)) : tn_V E G enc pc lv (.int a0 :: st) σ (tn_bd (f_X4_noSide a0 σ) kk) :=
  tr_callS (As := [.int a0]) (enc1 := tn_ie) g yy_X4_noSide hw (fun r σ1 h => ok_X4_noSide  a0 h) ⟨rfl, rfl⟩ ⟨hroom.1, by have h2 := hroom.2; show 8 + (1 + 11) + 0 ≤ R.locals; omega⟩ rfl rfl hW n hd hn k
/-! X4_refused -/
def f_X4_refused  (a0 : Int32) (σ : tn_M) : Option (Int64 × tn_M) :=
  some (((-9223372036854775808) - (Int32.toInt64 a0)), σ)
set_option maxHeartbeats 4000000 in
set_option maxRecDepth 20000 in
theorem b_X4_refused {E : tn_E} {G : tn_G} (g : tn_Ok E G cX4_refused RX4 1 (tn_rm 0 0)) (o : tn_Om E G (some .long))  (a0 : Int32) (σ : tn_M) : tn_V E G tn_le 0 [(0, .int a0)] [] σ (f_X4_refused a0 σ) := by
  unfold f_X4_refused
  refine tr_ldc2 (v := (-9223372036854775808)) g wd_410 3 dX4_refused_0 rfl ?_
  refine tr_iload_n g 0 4 dX4_refused_3 rfl rfl rfl ?_
  refine tr_i2l g 5 dX4_refused_4 rfl ?_
  refine tr_lsub g 6 dX4_refused_5 rfl ?_
  exact tr_lret g o dX4_refused_6
theorem ok_X4_refused {E : tn_E} {l : Launch}   (a0 : Int32) {σ : tn_M} {r : Int64} {σ' : tn_M} (h : f_X4_refused a0 σ = some (r, σ')) : tn_C E l yX4_refused cX4_refused 1 (some .long) (tn_rm 0 0) [.int a0] σ (tn_le r) σ' :=
  tn_met (by decide) (Nat.le_of_ble_eq_true rfl) (fun G _ g o => b_X4_refused g o  a0 σ) h
theorem yy_X4_refused : tn_Ys yX4_refused cX4_refused 1 (some .long) 1 := ⟨wd_409, wd_408, wd_65, by decide, by decide, by decide +kernel⟩
theorem kv_X4_refused {E : tn_E} {G : tn_G} {cc : ByteArray} {own : String} {nL : Nat} {R : Room} {ρ : Type} {enc : ρ → Option Value} {pc : Nat} {lv : List (Nat × Value)} {st : List Value} {σ : tn_M} {kk : Int64 → tn_M → Option (ρ × tn_M)} {i : Nat}  {a0 : Int32} (g : tn_Ok E G cc own nL R)  (hw : Cond.methodLink own i yX4_refused ∈ tn_T) (hroom : 1 ≤ R.frames ∧ 20 ≤ R.locals) (hW : (st.map fun v => v.category).sum ≤ 8) (n : Nat) (hd : decode cc pc = .ok (.invokestatic i, 3)) (hn : pc + 3 = n) (k : ∀ r σ1, tn_V E G enc n lv (.long r :: st) σ1 (kk r σ1)) : tn_V E G enc pc lv (.int a0 :: st) σ (tn_bd (f_X4_refused a0 σ) kk) :=
  tr_callS (As := [.int a0]) (enc1 := tn_le) g yy_X4_refused hw (fun r σ1 h => ok_X4_refused  a0 h) ⟨rfl, rfl⟩ ⟨hroom.1, by have h2 := hroom.2; show 8 + (1 + 11) + 0 ≤ R.locals; omega⟩ rfl rfl hW n hd hn k
/-! X4_divisor -/
def F_X4_divisor_9  : Nat → Int64 → Int64 → Int32 → tn_M → Option (Int64 × tn_M)
  | 0, _, _, _, _ => none
  | tn_n + 1, x4, x6, x8, σ => 
    if 200 ≤ x8 then
      some (x4, σ)
    else
      if x6 = 0 then
        some (x4, σ)
      else
        tn_dzl x6 <|
        tn_lt (α := Int64) (x4 - x4 / x6 * x6) fun w1 =>
        F_X4_divisor_9 tn_n x6 w1 (x8 + 1) σ
def f_X4_divisor  (a0 : Int64) (a2 : Int64) (σ : tn_M) : Option (Int64 × tn_M) :=
  F_X4_divisor_9 tn_fuel a0 a2 0 σ
set_option maxHeartbeats 4000000 in
set_option maxRecDepth 20000 in
theorem b_X4_divisor_9 {E : tn_E} {G : tn_G} (g : tn_Ok E G cX4_divisor RX4 11 (tn_rm 0 0)) (o : tn_Om E G (some .long))  : ∀ (n : Nat) (x4 : Int64) (x6 : Int64) (x8 : Int32) (σ : tn_M), tn_V E G tn_le 9 [(4, .long x4), (6, .long x6), (8, .int x8)] [] σ (F_X4_divisor_9 n x4 x6 x8 σ) := by
  intro n
  induction n with
  | zero => intros; exact tr_none
  | succ tn_n ih =>
    intro x4 x6 x8 σ
    rw [F_X4_divisor_9]
    refine tr_iload g 2 11 dX4_divisor_9 rfl rfl ?_
    refine tr_sipush (v := 200) g 14 dX4_divisor_11 rfl rfl ?_
    refine tr_icmp_ge g 45 17 dX4_divisor_14 rfl rfl ?_ ?_
    · refine tr_lload g 0 47 dX4_divisor_45 rfl rfl ?_
      exact tr_lret g o dX4_divisor_47
    · refine tr_lload g 1 19 dX4_divisor_17 rfl rfl ?_
      refine tr_lconst (v := 0) g 20 dX4_divisor_19 rfl rfl ?_
      refine tr_leq g 45 24 dX4_divisor_20 dX4_divisor_21 rfl rfl ?_ ?_
      · refine tr_lload g 0 47 dX4_divisor_45 rfl rfl ?_
        exact tr_lret g o dX4_divisor_47
      · refine tr_lload g 0 26 dX4_divisor_24 rfl rfl ?_
        refine tr_lload g 1 28 dX4_divisor_26 rfl rfl ?_
        refine tr_lrem g 29 dX4_divisor_28 rfl ?_
        refine tr_ltl (fun w1 => ?_)
        refine tr_lstore (lv' := [(9, .long w1), (4, .long x4), (6, .long x6), (8, .int x8)]) g 31 dX4_divisor_29 rfl (by decide) rfl ?_
        refine tr_lload g 2 33 dX4_divisor_31 rfl rfl ?_
        refine tr_lstore (lv' := [(4, .long x6), (9, .long w1), (6, .long x6), (8, .int x8)]) g 35 dX4_divisor_33 rfl (by decide) rfl ?_
        refine tr_lload g 1 37 dX4_divisor_35 rfl rfl ?_
        refine tr_lstore (lv' := [(6, .long w1), (4, .long x6), (9, .long w1), (8, .int x8)]) g 39 dX4_divisor_37 rfl (by decide) rfl ?_
        refine tr_iinc (lv' := [(8, .int (x8 + 1)), (6, .long w1), (4, .long x6), (9, .long w1)]) (x := (x8 + 1)) g 3 42 dX4_divisor_39 rfl rfl rfl (by decide) rfl ?_
        refine tr_goto g 9 dX4_divisor_42 rfl ?_
        refine tr_sub [2, 1, 0] (lv' := [(4, .long x6), (6, .long w1), (8, .int (x8 + 1))]) rfl ?_
        exact ih _ _ _ _
set_option maxHeartbeats 4000000 in
set_option maxRecDepth 20000 in
theorem b_X4_divisor {E : tn_E} {G : tn_G} (g : tn_Ok E G cX4_divisor RX4 11 (tn_rm 0 0)) (o : tn_Om E G (some .long))  (a0 : Int64) (a2 : Int64) (σ : tn_M) : tn_V E G tn_le 0 [(0, .long a0), (2, .long a2)] [] σ (f_X4_divisor a0 a2 σ) := by
  unfold f_X4_divisor
  refine tr_lload_n g 0 1 dX4_divisor_0 rfl rfl rfl ?_
  refine tr_lstore (lv' := [(4, .long a0), (0, .long a0), (2, .long a2)]) g 3 dX4_divisor_1 rfl (by decide) rfl ?_
  refine tr_lload_n g 2 4 dX4_divisor_3 rfl rfl rfl ?_
  refine tr_lstore (lv' := [(6, .long a2), (4, .long a0), (0, .long a0), (2, .long a2)]) g 6 dX4_divisor_4 rfl (by decide) rfl ?_
  refine tr_iconst (v := 0) g 7 dX4_divisor_6 rfl rfl ?_
  refine tr_istore (lv' := [(8, .int 0), (6, .long a2), (4, .long a0), (0, .long a0), (2, .long a2)]) g 9 dX4_divisor_7 rfl (by decide) rfl ?_
  refine tr_sub [2, 1, 0] (lv' := [(4, .long a0), (6, .long a2), (8, .int 0)]) rfl ?_
  exact b_X4_divisor_9 g o  tn_fuel _ _ _ _
theorem ok_X4_divisor {E : tn_E} {l : Launch}   (a0 : Int64) (a2 : Int64) {σ : tn_M} {r : Int64} {σ' : tn_M} (h : f_X4_divisor a0 a2 σ = some (r, σ')) : tn_C E l yX4_divisor cX4_divisor 11 (some .long) (tn_rm 0 0) [.long a0, .long a2] σ (tn_le r) σ' :=
  tn_met (by decide) (Nat.le_of_ble_eq_true rfl) (fun G _ g o => b_X4_divisor g o  a0 a2 σ) h
theorem yy_X4_divisor : tn_Ys yX4_divisor cX4_divisor 11 (some .long) 2 := ⟨wd_434, wd_433, wd_65, by decide, by decide, by decide +kernel⟩
theorem kv_X4_divisor {E : tn_E} {G : tn_G} {cc : ByteArray} {own : String} {nL : Nat} {R : Room} {ρ : Type} {enc : ρ → Option Value} {pc : Nat} {lv : List (Nat × Value)} {st : List Value} {σ : tn_M} {kk : Int64 → tn_M → Option (ρ × tn_M)} {i : Nat}  {a0 : Int64} {a2 : Int64} (g : tn_Ok E G cc own nL R)  (hw : Cond.methodLink own i yX4_divisor ∈ tn_T) (hroom : 1 ≤ R.frames ∧ 30 ≤ R.locals) (hW : (st.map fun v => v.category).sum ≤ 8) (n : Nat) (hd : decode cc pc = .ok (.invokestatic i, 3)) (hn : pc + 3 = n) (k : ∀ r σ1, tn_V E G enc n lv (.long r :: st) σ1 (kk r σ1)) : tn_V E G enc pc lv (.long a2 :: .long a0 :: st) σ (tn_bd (f_X4_divisor a0 a2 σ) kk) :=
  tr_callS (As := [.long a0, .long a2]) (enc1 := tn_le) g yy_X4_divisor hw (fun r σ1 h => ok_X4_divisor  a0 a2 h) ⟨rfl, rfl⟩ ⟨hroom.1, by have h2 := hroom.2; show 8 + (11 + 11) + 0 ≤ R.locals; omega⟩ rfl rfl hW n hd hn k
/-! X4_fraction -/
def f_X4_fraction  (a0 : Int64) (a2 : Int32) (σ : tn_M) : Option (Int64 × tn_M) :=
  tn_bd (f_X4_divisor (if 0 < a0 then a0 else -a0) 11808276480 σ) fun r2 σ1 =>
  if r2 = 0 then
    some (0, σ1)
  else
    if a2 = 0 then
      tn_dzl r2 <|
      some ((a0 / r2), σ1)
    else
      tn_dzl r2 <|
      some ((11808276480 / r2), σ1)
set_option maxHeartbeats 4000000 in
set_option maxRecDepth 20000 in
theorem b_X4_fraction {E : tn_E} {G : tn_G} (g : tn_Ok E G cX4_fraction RX4 5 (tn_rm 1 30)) (o : tn_Om E G (some .long))  (a0 : Int64) (a2 : Int32) (σ : tn_M) : tn_V E G tn_le 0 [(0, .long a0), (2, .int a2)] [] σ (f_X4_fraction a0 a2 σ) := by
  unfold f_X4_fraction
  refine tr_lload_n g 0 1 dX4_fraction_0 rfl rfl rfl ?_
  refine tr_mabsl g wd_428 wd_429 wd_71 wd_430 ⟨Nat.le_of_ble_eq_true rfl, Nat.le_of_ble_eq_true rfl⟩ 4 dX4_fraction_1 rfl ?_
  refine tr_ldc2 (v := 11808276480) g wd_431 7 dX4_fraction_4 rfl ?_
  refine kv_X4_divisor g wd_432 ⟨Nat.le_of_ble_eq_true rfl, Nat.le_of_ble_eq_true rfl⟩ (Nat.le_of_ble_eq_true rfl) 10 dX4_fraction_7 rfl (fun r2 σ1 => ?_)
  refine tr_lstore_n (lv' := [(3, .long r2), (0, .long a0), (2, .int a2)]) g 11 dX4_fraction_10 rfl rfl (by decide) rfl ?_
  refine tr_lload_n g 0 12 dX4_fraction_11 rfl rfl rfl ?_
  refine tr_lconst (v := 0) g 13 dX4_fraction_12 rfl rfl ?_
  refine tr_lne g 19 17 dX4_fraction_13 dX4_fraction_14 rfl rfl ?_ ?_
  · refine tr_iload_n g 2 20 dX4_fraction_19 rfl rfl rfl ?_
    refine tr_if_ne g 29 23 dX4_fraction_20 rfl rfl ?_ ?_
    · refine tr_ldc2 (v := 11808276480) g wd_431 32 dX4_fraction_29 rfl ?_
      refine tr_lload_n g 0 33 dX4_fraction_32 rfl rfl rfl ?_
      refine tr_ldiv g 34 dX4_fraction_33 rfl ?_
      exact tr_lret g o dX4_fraction_34
    · refine tr_lload_n g 1 24 dX4_fraction_23 rfl rfl rfl ?_
      refine tr_lload_n g 0 25 dX4_fraction_24 rfl rfl rfl ?_
      refine tr_ldiv g 26 dX4_fraction_25 rfl ?_
      refine tr_goto g 34 dX4_fraction_26 rfl ?_
      exact tr_lret g o dX4_fraction_34
  · refine tr_lconst (v := 0) g 18 dX4_fraction_17 rfl rfl ?_
    exact tr_lret g o dX4_fraction_18
theorem ok_X4_fraction {E : tn_E} {l : Launch}   (a0 : Int64) (a2 : Int32) {σ : tn_M} {r : Int64} {σ' : tn_M} (h : f_X4_fraction a0 a2 σ = some (r, σ')) : tn_C E l yX4_fraction cX4_fraction 5 (some .long) (tn_rm 1 30) [.long a0, .int a2] σ (tn_le r) σ' :=
  tn_met (by decide) (Nat.le_of_ble_eq_true rfl) (fun G _ g o => b_X4_fraction g o  a0 a2 σ) h
theorem yy_X4_fraction : tn_Ys yX4_fraction cX4_fraction 5 (some .long) 2 := ⟨wd_427, wd_426, wd_65, by decide, by decide, by decide +kernel⟩
theorem kv_X4_fraction {E : tn_E} {G : tn_G} {cc : ByteArray} {own : String} {nL : Nat} {R : Room} {ρ : Type} {enc : ρ → Option Value} {pc : Nat} {lv : List (Nat × Value)} {st : List Value} {σ : tn_M} {kk : Int64 → tn_M → Option (ρ × tn_M)} {i : Nat}  {a0 : Int64} {a2 : Int32} (g : tn_Ok E G cc own nL R)  (hw : Cond.methodLink own i yX4_fraction ∈ tn_T) (hroom : 2 ≤ R.frames ∧ 54 ≤ R.locals) (hW : (st.map fun v => v.category).sum ≤ 8) (n : Nat) (hd : decode cc pc = .ok (.invokestatic i, 3)) (hn : pc + 3 = n) (k : ∀ r σ1, tn_V E G enc n lv (.long r :: st) σ1 (kk r σ1)) : tn_V E G enc pc lv (.int a2 :: .long a0 :: st) σ (tn_bd (f_X4_fraction a0 a2 σ) kk) :=
  tr_callS (As := [.long a0, .int a2]) (enc1 := tn_le) g yy_X4_fraction hw (fun r σ1 h => ok_X4_fraction  a0 a2 h) ⟨rfl, rfl⟩ ⟨hroom.1, by have h2 := hroom.2; show 8 + (5 + 11) + 30 ≤ R.locals; omega⟩ rfl rfl hW n hd hn k
/-! X4_earns -/
def F_X4_earns_15   (σ : tn_M) : Option (Int64 × tn_M) :=
  tn_bd (f_X4_refused (-2) σ) fun r2 σ1 =>
  some (r2, σ1)
def f_X4_earns  (a1 : Int32) (a2 : Int32) (σ : tn_M) : Option (Int64 × tn_M) :=
  tn_bd (f_X4_noShop a1 σ) fun r2 σ1 =>
  if r2 = 0 then
    tn_bd (f_X4_noSide a2 σ1) fun r4 σ3 =>
    if r4 = 0 then
      tn_bd (f_X4_sceneNow σ3) fun _ σ5 =>
      tn_bd (f_X0_earning a1 σ5) fun r7 σ6 =>
      tn_bd (f_X4_fraction r7 a2 σ6) fun r9 σ8 =>
      some (r9, σ8)
    else
      F_X4_earns_15 σ3
  else
    F_X4_earns_15 σ1
set_option maxHeartbeats 4000000 in
set_option maxRecDepth 20000 in
theorem b_X4_earns_15 {E : tn_E} {G : tn_G} (g : tn_Ok E G cX4_earns RX4 3 (tn_rm 4 106)) (o : tn_Om E G (some .long))   (σ : tn_M) : tn_V E G tn_le 15 [] [] σ (F_X4_earns_15 σ) := by
  unfold F_X4_earns_15
  refine tr_bipush (v := (-2)) g 17 dX4_earns_15 rfl rfl ?_
  refine kv_X4_refused g wd_407 ⟨Nat.le_of_ble_eq_true rfl, Nat.le_of_ble_eq_true rfl⟩ (Nat.le_of_ble_eq_true rfl) 20 dX4_earns_17 rfl (fun r2 σ1 => ?_)
  exact tr_lret g o dX4_earns_20
set_option maxHeartbeats 4000000 in
set_option maxRecDepth 20000 in
theorem b_X4_earns {E : tn_E} {G : tn_G} (g : tn_Ok E G cX4_earns RX4 3 (tn_rm 4 106)) (o : tn_Om E G (some .long))  (a1 : Int32) (a2 : Int32) (σ : tn_M) : tn_V E G tn_le 0 [(0, .ref (tn_ad E 0)), (1, .int a1), (2, .int a2)] [] σ (f_X4_earns a1 a2 σ) := by
  unfold f_X4_earns
  refine tr_aload_n g 0 1 dX4_earns_0 rfl rfl rfl ?_
  refine tr_iload_n g 1 2 dX4_earns_1 rfl rfl rfl ?_
  refine kv_X4_noShop g wd_314 ⟨Nat.le_of_ble_eq_true rfl, Nat.le_of_ble_eq_true rfl⟩ (Nat.le_of_ble_eq_true rfl) 5 dX4_earns_2 rfl (fun r2 σ1 => ?_)
  refine tr_if_ne g 15 8 dX4_earns_5 rfl rfl ?_ ?_
  · refine tr_sub [] (lv' := []) rfl ?_
    exact b_X4_earns_15 g o  _
  · refine tr_iload_n g 2 9 dX4_earns_8 rfl rfl rfl ?_
    refine kv_X4_noSide g wd_404 ⟨Nat.le_of_ble_eq_true rfl, Nat.le_of_ble_eq_true rfl⟩ (Nat.le_of_ble_eq_true rfl) 12 dX4_earns_9 rfl (fun r4 σ3 => ?_)
    refine tr_if_eq g 21 15 dX4_earns_12 rfl rfl ?_ ?_
    · refine tr_aload_n g 0 22 dX4_earns_21 rfl rfl rfl ?_
      refine kv_X4_sceneNow g wd_354 ⟨Nat.le_of_ble_eq_true rfl, Nat.le_of_ble_eq_true rfl⟩ (Nat.le_of_ble_eq_true rfl) 25 dX4_earns_22 rfl (fun _ σ5 => ?_)
      refine tr_iload_n g 1 26 dX4_earns_25 rfl rfl rfl ?_
      refine kv_X0_earning g wd_411 ⟨Nat.le_of_ble_eq_true rfl, Nat.le_of_ble_eq_true rfl⟩ (Nat.le_of_ble_eq_true rfl) 29 dX4_earns_26 rfl (fun r7 σ6 => ?_)
      refine tr_iload_n g 2 30 dX4_earns_29 rfl rfl rfl ?_
      refine kv_X4_fraction g wd_425 ⟨Nat.le_of_ble_eq_true rfl, Nat.le_of_ble_eq_true rfl⟩ (Nat.le_of_ble_eq_true rfl) 33 dX4_earns_30 rfl (fun r9 σ8 => ?_)
      exact tr_lret g o dX4_earns_33
    · refine tr_sub [] (lv' := []) rfl ?_
      exact b_X4_earns_15 g o  _
theorem ok_X4_earns {E : tn_E} {l : Launch}   (a1 : Int32) (a2 : Int32) {σ : tn_M} {r : Int64} {σ' : tn_M} (h : f_X4_earns a1 a2 σ = some (r, σ')) : tn_C E l yX4_earns cX4_earns 3 (some .long) (tn_rm 4 106) [.ref (tn_ad E 0), .int a1, .int a2] σ (tn_le r) σ' :=
  tn_met (by decide) (Nat.le_of_ble_eq_true rfl) (fun G _ g o => b_X4_earns g o  a1 a2 σ) h
theorem yy_X4_earns : tn_Yv RX4 yX4_earns cX4_earns 3 (some .long) 2 := ⟨wd_403, wd_401, wd_402, wd_65, by decide, by decide, by decide +kernel⟩
theorem kv_X4_earns {E : tn_E} {G : tn_G} {cc : ByteArray} {own : String} {nL : Nat} {R : Room} {ρ : Type} {enc : ρ → Option Value} {pc : Nat} {lv : List (Nat × Value)} {st : List Value} {σ : tn_M} {kk : Int64 → tn_M → Option (ρ × tn_M)} {i : Nat}  {a1 : Int32} {a2 : Int32} (g : tn_Ok E G cc own nL R)  (hw : Cond.methodLink own i yX4_earns ∈ tn_T) (hroom : 5 ≤ R.frames ∧ 128 ≤ R.locals) (hW : (st.map fun v => v.category).sum ≤ 8) (n : Nat) (hd : decode cc pc = .ok (.invokevirtual i, 3)) (hn : pc + 3 = n) (k : ∀ r σ1, tn_V E G enc n lv (.long r :: st) σ1 (kk r σ1)) : tn_V E G enc pc lv (.int a2 :: .int a1 :: .ref (tn_ad E 0) :: st) σ (tn_bd (f_X4_earns a1 a2 σ) kk) :=
  tr_callV (As := [.int a1, .int a2]) (enc1 := tn_le) g yy_X4_earns hw (ci := 4) rfl (by decide) rfl (fun r σ1 h => ok_X4_earns  a1 a2 h) ⟨rfl, rfl⟩ ⟨hroom.1, by have h2 := hroom.2; show 8 + (3 + 11) + 106 ≤ R.locals; omega⟩ rfl rfl hW n hd hn k
/-! X4_all -/
def F_X4_all_16   (σ : tn_M) : Option (Int64 × tn_M) :=
  tn_bd (f_X4_refused (-2) σ) fun r2 σ1 =>
  some (r2, σ1)
def f_X4_all  (a1 : Int32) (a2 : Int32) (σ : tn_M) : Option (Int64 × tn_M) :=
  if a1 < 0 then
    F_X4_all_16 σ
  else
    if 1 < a1 then
      F_X4_all_16 σ
    else
      tn_bd (f_X4_noSide a2 σ) fun r2 σ1 =>
      if r2 = 0 then
        tn_bd (f_X4_sceneNow σ1) fun _ σ3 =>
        tn_bd (f_X0_aim a1 σ3) fun r5 σ4 =>
        tn_bd (f_X4_fraction r5 a2 σ4) fun r7 σ6 =>
        some (r7, σ6)
      else
        F_X4_all_16 σ1
set_option maxHeartbeats 4000000 in
set_option maxRecDepth 20000 in
theorem b_X4_all_16 {E : tn_E} {G : tn_G} (g : tn_Ok E G cX4_all RX4 3 (tn_rm 4 106)) (o : tn_Om E G (some .long))   (σ : tn_M) : tn_V E G tn_le 16 [] [] σ (F_X4_all_16 σ) := by
  unfold F_X4_all_16
  refine tr_bipush (v := (-2)) g 18 dX4_all_16 rfl rfl ?_
  refine kv_X4_refused g wd_407 ⟨Nat.le_of_ble_eq_true rfl, Nat.le_of_ble_eq_true rfl⟩ (Nat.le_of_ble_eq_true rfl) 21 dX4_all_18 rfl (fun r2 σ1 => ?_)
  exact tr_lret g o dX4_all_21
set_option maxHeartbeats 4000000 in
set_option maxRecDepth 20000 in
theorem b_X4_all {E : tn_E} {G : tn_G} (g : tn_Ok E G cX4_all RX4 3 (tn_rm 4 106)) (o : tn_Om E G (some .long))  (a1 : Int32) (a2 : Int32) (σ : tn_M) : tn_V E G tn_le 0 [(0, .ref (tn_ad E 0)), (1, .int a1), (2, .int a2)] [] σ (f_X4_all a1 a2 σ) := by
  unfold f_X4_all
  refine tr_iload_n g 1 1 dX4_all_0 rfl rfl rfl ?_
  refine tr_if_lt g 16 4 dX4_all_1 rfl rfl ?_ ?_
  · refine tr_sub [] (lv' := []) rfl ?_
    exact b_X4_all_16 g o  _
  · refine tr_iload_n g 1 5 dX4_all_4 rfl rfl rfl ?_
    refine tr_iconst (v := 1) g 6 dX4_all_5 rfl rfl ?_
    refine tr_icmp_gt g 16 9 dX4_all_6 rfl rfl ?_ ?_
    · refine tr_sub [] (lv' := []) rfl ?_
      exact b_X4_all_16 g o  _
    · refine tr_iload_n g 2 10 dX4_all_9 rfl rfl rfl ?_
      refine kv_X4_noSide g wd_404 ⟨Nat.le_of_ble_eq_true rfl, Nat.le_of_ble_eq_true rfl⟩ (Nat.le_of_ble_eq_true rfl) 13 dX4_all_10 rfl (fun r2 σ1 => ?_)
      refine tr_if_eq g 22 16 dX4_all_13 rfl rfl ?_ ?_
      · refine tr_aload_n g 0 23 dX4_all_22 rfl rfl rfl ?_
        refine kv_X4_sceneNow g wd_354 ⟨Nat.le_of_ble_eq_true rfl, Nat.le_of_ble_eq_true rfl⟩ (Nat.le_of_ble_eq_true rfl) 26 dX4_all_23 rfl (fun _ σ3 => ?_)
        refine tr_iload_n g 1 27 dX4_all_26 rfl rfl rfl ?_
        refine kv_X0_aim g wd_439 ⟨Nat.le_of_ble_eq_true rfl, Nat.le_of_ble_eq_true rfl⟩ (Nat.le_of_ble_eq_true rfl) 30 dX4_all_27 rfl (fun r5 σ4 => ?_)
        refine tr_iload_n g 2 31 dX4_all_30 rfl rfl rfl ?_
        refine kv_X4_fraction g wd_425 ⟨Nat.le_of_ble_eq_true rfl, Nat.le_of_ble_eq_true rfl⟩ (Nat.le_of_ble_eq_true rfl) 34 dX4_all_31 rfl (fun r7 σ6 => ?_)
        exact tr_lret g o dX4_all_34
      · refine tr_sub [] (lv' := []) rfl ?_
        exact b_X4_all_16 g o  _
theorem ok_X4_all {E : tn_E} {l : Launch}   (a1 : Int32) (a2 : Int32) {σ : tn_M} {r : Int64} {σ' : tn_M} (h : f_X4_all a1 a2 σ = some (r, σ')) : tn_C E l yX4_all cX4_all 3 (some .long) (tn_rm 4 106) [.ref (tn_ad E 0), .int a1, .int a2] σ (tn_le r) σ' :=
  tn_met (by decide) (Nat.le_of_ble_eq_true rfl) (fun G _ g o => b_X4_all g o  a1 a2 σ) h
theorem yy_X4_all : tn_Yv RX4 yX4_all cX4_all 3 (some .long) 2 := ⟨wd_438, wd_436, wd_437, wd_65, by decide, by decide, by decide +kernel⟩
theorem kv_X4_all {E : tn_E} {G : tn_G} {cc : ByteArray} {own : String} {nL : Nat} {R : Room} {ρ : Type} {enc : ρ → Option Value} {pc : Nat} {lv : List (Nat × Value)} {st : List Value} {σ : tn_M} {kk : Int64 → tn_M → Option (ρ × tn_M)} {i : Nat}  {a1 : Int32} {a2 : Int32} (g : tn_Ok E G cc own nL R)  (hw : Cond.methodLink own i yX4_all ∈ tn_T) (hroom : 5 ≤ R.frames ∧ 128 ≤ R.locals) (hW : (st.map fun v => v.category).sum ≤ 8) (n : Nat) (hd : decode cc pc = .ok (.invokevirtual i, 3)) (hn : pc + 3 = n) (k : ∀ r σ1, tn_V E G enc n lv (.long r :: st) σ1 (kk r σ1)) : tn_V E G enc pc lv (.int a2 :: .int a1 :: .ref (tn_ad E 0) :: st) σ (tn_bd (f_X4_all a1 a2 σ) kk) :=
  tr_callV (As := [.int a1, .int a2]) (enc1 := tn_le) g yy_X4_all hw (ci := 4) rfl (by decide) rfl (fun r σ1 h => ok_X4_all  a1 a2 h) ⟨rfl, rfl⟩ ⟨hroom.1, by have h2 := hroom.2; show 8 + (3 + 11) + 106 ≤ R.locals; omega⟩ rfl rfl hW n hd hn k
/-! X4_answer -/
def f_X4_answer  (a1 : Int32) (σ : tn_M) : Option (Int32 × tn_M) :=
  tn_bd (f_X4_noShop a1 σ) fun r2 σ1 =>
  if r2 = 0 then
    tn_bd (f_X4_sceneNow σ1) fun _ σ3 =>
    tn_bd (f_X0_reply a1 σ3) fun r5 σ4 =>
    some (r5, σ4)
  else
    some ((-2), σ1)
set_option maxHeartbeats 4000000 in
set_option maxRecDepth 20000 in
theorem b_X4_answer {E : tn_E} {G : tn_G} (g : tn_Ok E G cX4_answer RX4 2 (tn_rm 4 106)) (o : tn_Om E G (some .int))  (a1 : Int32) (σ : tn_M) : tn_V E G tn_ie 0 [(0, .ref (tn_ad E 0)), (1, .int a1)] [] σ (f_X4_answer a1 σ) := by
  unfold f_X4_answer
  refine tr_aload_n g 0 1 dX4_answer_0 rfl rfl rfl ?_
  refine tr_iload_n g 1 2 dX4_answer_1 rfl rfl rfl ?_
  refine kv_X4_noShop g wd_314 ⟨Nat.le_of_ble_eq_true rfl, Nat.le_of_ble_eq_true rfl⟩ (Nat.le_of_ble_eq_true rfl) 5 dX4_answer_2 rfl (fun r2 σ1 => ?_)
  refine tr_if_eq g 11 8 dX4_answer_5 rfl rfl ?_ ?_
  · refine tr_aload_n g 0 12 dX4_answer_11 rfl rfl rfl ?_
    refine kv_X4_sceneNow g wd_354 ⟨Nat.le_of_ble_eq_true rfl, Nat.le_of_ble_eq_true rfl⟩ (Nat.le_of_ble_eq_true rfl) 15 dX4_answer_12 rfl (fun _ σ3 => ?_)
    refine tr_iload_n g 1 16 dX4_answer_15 rfl rfl rfl ?_
    refine kv_X0_reply g wd_451 ⟨Nat.le_of_ble_eq_true rfl, Nat.le_of_ble_eq_true rfl⟩ (Nat.le_of_ble_eq_true rfl) 19 dX4_answer_16 rfl (fun r5 σ4 => ?_)
    exact tr_iret g o dX4_answer_19
  · refine tr_bipush (v := (-2)) g 10 dX4_answer_8 rfl rfl ?_
    exact tr_iret g o dX4_answer_10
theorem ok_X4_answer {E : tn_E} {l : Launch}   (a1 : Int32) {σ : tn_M} {r : Int32} {σ' : tn_M} (h : f_X4_answer a1 σ = some (r, σ')) : tn_C E l yX4_answer cX4_answer 2 (some .int) (tn_rm 4 106) [.ref (tn_ad E 0), .int a1] σ (tn_ie r) σ' :=
  tn_met (by decide) (Nat.le_of_ble_eq_true rfl) (fun G _ g o => b_X4_answer g o  a1 σ) h
theorem yy_X4_answer : tn_Yv RX4 yX4_answer cX4_answer 2 (some .int) 1 := ⟨wd_450, wd_448, wd_449, wd_65, by decide, by decide, by decide +kernel⟩
theorem kv_X4_answer {E : tn_E} {G : tn_G} {cc : ByteArray} {own : String} {nL : Nat} {R : Room} {ρ : Type} {enc : ρ → Option Value} {pc : Nat} {lv : List (Nat × Value)} {st : List Value} {σ : tn_M} {kk : Int32 → tn_M → Option (ρ × tn_M)} {i : Nat}  {a1 : Int32} (g : tn_Ok E G cc own nL R)  (hw : Cond.methodLink own i yX4_answer ∈ tn_T) (hroom : 5 ≤ R.frames ∧ 127 ≤ R.locals) (hW : (st.map fun v => v.category).sum ≤ 8) (n : Nat) (hd : decode cc pc = .ok (.invokevirtual i, 3)) (hn : pc + 3 = n) (k : ∀ r σ1, tn_V E G enc n lv (.int r :: st) σ1 (kk r σ1)) : tn_V E G enc pc lv (.int a1 :: .ref (tn_ad E 0) :: st) σ (tn_bd (f_X4_answer a1 σ) kk) :=
  tr_callV (As := [.int a1]) (enc1 := tn_ie) g yy_X4_answer hw (ci := 4) rfl (by decide) rfl (fun r σ1 h => ok_X4_answer  a1 h) ⟨rfl, rfl⟩ ⟨hroom.1, by have h2 := hroom.2; show 8 + (2 + 11) + 106 ≤ R.locals; omega⟩ rfl rfl hW n hd hn k
/-! X4_rest -/
def F_X4_rest_16  (x1 : Int32) (σ : tn_M) : Option (Int32 × tn_M) :=
  tn_bd (f_X4_sceneNow σ) fun _ σ1 =>
  tn_bd (f_X0_runDown σ1) fun r3 σ2 =>
  if r3 = 0 then
    some ((-3), σ2)
  else
    if x1 = (-1) then
      some ((σ2.1 3 12), σ2)
    else
      tn_ck x1 5 <|
      some ((σ2.1 20 (tn_x x1)), σ2)
def f_X4_rest  (a1 : Int32) (σ : tn_M) : Option (Int32 × tn_M) :=
  if a1 = (-1) then
    F_X4_rest_16 a1 σ
  else
    tn_bd (f_X4_noShop a1 σ) fun r2 σ1 =>
    if r2 = 0 then
      F_X4_rest_16 a1 σ1
    else
      some ((-2), σ1)
set_option maxHeartbeats 4000000 in
set_option maxRecDepth 20000 in
theorem b_X4_rest_16 {E : tn_E} {G : tn_G} (g : tn_Ok E G cX4_rest RX4 3 (tn_rm 4 106)) (o : tn_Om E G (some .int))  (x1 : Int32) (σ : tn_M) : tn_V E G tn_ie 16 [(0, .ref (tn_ad E 0)), (1, .int x1)] [] σ (F_X4_rest_16 x1 σ) := by
  unfold F_X4_rest_16
  refine tr_aload_n g 0 17 dX4_rest_16 rfl rfl rfl ?_
  refine kv_X4_sceneNow g wd_354 ⟨Nat.le_of_ble_eq_true rfl, Nat.le_of_ble_eq_true rfl⟩ (Nat.le_of_ble_eq_true rfl) 20 dX4_rest_17 rfl (fun _ σ1 => ?_)
  refine tr_astore_n (lv' := [(2, .ref (tn_ad E 3)), (0, .ref (tn_ad E 0)), (1, .int x1)]) g 21 dX4_rest_20 rfl rfl (by decide) rfl ?_
  refine tr_aload_n g 0 22 dX4_rest_21 rfl rfl rfl ?_
  refine kv_X0_runDown g wd_463 ⟨Nat.le_of_ble_eq_true rfl, Nat.le_of_ble_eq_true rfl⟩ (Nat.le_of_ble_eq_true rfl) 25 dX4_rest_22 rfl (fun r3 σ2 => ?_)
  refine tr_if_ne g 31 28 dX4_rest_25 rfl rfl ?_ ?_
  · refine tr_iload_n g 2 32 dX4_rest_31 rfl rfl rfl ?_
    refine tr_iconst (v := (-1)) g 33 dX4_rest_32 rfl rfl ?_
    refine tr_icmp_ne g 43 36 dX4_rest_33 rfl rfl ?_ ?_
    · refine tr_aload_n g 0 44 dX4_rest_43 rfl rfl rfl ?_
      refine gf_X0_2 g wd_159 47 dX4_rest_44 rfl ?_
      refine tr_iload_n g 2 48 dX4_rest_47 rfl rfl rfl ?_
      refine tr_iald (N := 5) g 49 rfl rfl dX4_rest_48 rfl ?_
      exact tr_iret g o dX4_rest_49
    · refine tr_aload_n g 0 37 dX4_rest_36 rfl rfl rfl ?_
      refine gf_X0_12 g wd_173 40 dX4_rest_37 rfl ?_
      refine tr_goto g 49 dX4_rest_40 rfl ?_
      exact tr_iret g o dX4_rest_49
  · refine tr_bipush (v := (-3)) g 30 dX4_rest_28 rfl rfl ?_
    exact tr_iret g o dX4_rest_30
set_option maxHeartbeats 4000000 in
set_option maxRecDepth 20000 in
theorem b_X4_rest {E : tn_E} {G : tn_G} (g : tn_Ok E G cX4_rest RX4 3 (tn_rm 4 106)) (o : tn_Om E G (some .int))  (a1 : Int32) (σ : tn_M) : tn_V E G tn_ie 0 [(0, .ref (tn_ad E 0)), (1, .int a1)] [] σ (f_X4_rest a1 σ) := by
  unfold f_X4_rest
  refine tr_iload_n g 1 1 dX4_rest_0 rfl rfl rfl ?_
  refine tr_iconst (v := (-1)) g 2 dX4_rest_1 rfl rfl ?_
  refine tr_icmp_eq g 16 5 dX4_rest_2 rfl rfl ?_ ?_
  · exact b_X4_rest_16 g o  _ _
  · refine tr_aload_n g 0 6 dX4_rest_5 rfl rfl rfl ?_
    refine tr_iload_n g 1 7 dX4_rest_6 rfl rfl rfl ?_
    refine kv_X4_noShop g wd_314 ⟨Nat.le_of_ble_eq_true rfl, Nat.le_of_ble_eq_true rfl⟩ (Nat.le_of_ble_eq_true rfl) 10 dX4_rest_7 rfl (fun r2 σ1 => ?_)
    refine tr_if_eq g 16 13 dX4_rest_10 rfl rfl ?_ ?_
    · exact b_X4_rest_16 g o  _ _
    · refine tr_bipush (v := (-2)) g 15 dX4_rest_13 rfl rfl ?_
      exact tr_iret g o dX4_rest_15
theorem ok_X4_rest {E : tn_E} {l : Launch}   (a1 : Int32) {σ : tn_M} {r : Int32} {σ' : tn_M} (h : f_X4_rest a1 σ = some (r, σ')) : tn_C E l yX4_rest cX4_rest 3 (some .int) (tn_rm 4 106) [.ref (tn_ad E 0), .int a1] σ (tn_ie r) σ' :=
  tn_met (by decide) (Nat.le_of_ble_eq_true rfl) (fun G _ g o => b_X4_rest g o  a1 σ) h
theorem yy_X4_rest : tn_Yv RX4 yX4_rest cX4_rest 3 (some .int) 1 := ⟨wd_462, wd_460, wd_461, wd_65, by decide, by decide, by decide +kernel⟩
theorem kv_X4_rest {E : tn_E} {G : tn_G} {cc : ByteArray} {own : String} {nL : Nat} {R : Room} {ρ : Type} {enc : ρ → Option Value} {pc : Nat} {lv : List (Nat × Value)} {st : List Value} {σ : tn_M} {kk : Int32 → tn_M → Option (ρ × tn_M)} {i : Nat}  {a1 : Int32} (g : tn_Ok E G cc own nL R)  (hw : Cond.methodLink own i yX4_rest ∈ tn_T) (hroom : 5 ≤ R.frames ∧ 128 ≤ R.locals) (hW : (st.map fun v => v.category).sum ≤ 8) (n : Nat) (hd : decode cc pc = .ok (.invokevirtual i, 3)) (hn : pc + 3 = n) (k : ∀ r σ1, tn_V E G enc n lv (.int r :: st) σ1 (kk r σ1)) : tn_V E G enc pc lv (.int a1 :: .ref (tn_ad E 0) :: st) σ (tn_bd (f_X4_rest a1 σ) kk) :=
  tr_callV (As := [.int a1]) (enc1 := tn_ie) g yy_X4_rest hw (ci := 4) rfl (by decide) rfl (fun r σ1 h => ok_X4_rest  a1 h) ⟨rfl, rfl⟩ ⟨hroom.1, by have h2 := hroom.2; show 8 + (3 + 11) + 106 ≤ R.locals; omega⟩ rfl rfl hW n hd hn k
/-! X4_countStill -/
def F_X4_countStill_37 (c20 : Int32 → Int32 → Int32 → tn_M → Option (Int32 × tn_M)) (x2 : Int32) (x3 : Int32) (x4 : Int32) (σ : tn_M) : Option (Int32 × tn_M) :=
  tn_bd (f_X0_advance σ) fun _ σ1 =>
  c20 x2 x3 (x4 + 1) σ1
def F_X4_countStill_20  : Nat → Int32 → Int32 → Int32 → tn_M → Option (Int32 × tn_M)
  | 0, _, _, _, _ => none
  | tn_n + 1, x2, x3, x4, σ => 
    if x2 ≤ x4 then
      some (x3, σ)
    else
      tn_bd (f_X0_firstGainer σ) fun r2 σ1 =>
      if r2 = (-1) then
        F_X4_countStill_37 (fun z0 z1 z2 zs => F_X4_countStill_20 tn_n z0 z1 z2 zs) x2 (x3 + 1) x4 σ1
      else
        F_X4_countStill_37 (fun z0 z1 z2 zs => F_X4_countStill_20 tn_n z0 z1 z2 zs) x2 x3 x4 σ1
def f_X4_countStill   (σ : tn_M) : Option (Int32 × tn_M) :=
  tn_bd (f_X4_sceneNow σ) fun _ σ1 =>
  tn_bd (f_X0_profiles σ1) fun r3 σ2 =>
  tn_bd (f_X0_place 0 σ2) fun _ σ4 =>
  F_X4_countStill_20 tn_fuel r3 0 0 σ4
set_option maxHeartbeats 4000000 in
set_option maxRecDepth 20000 in
theorem b_X4_countStill_37 {E : tn_E} {G : tn_G} (g : tn_Ok E G cX4_countStill RX4 5 (tn_rm 4 106)) (o : tn_Om E G (some .int)) (c20 : Int32 → Int32 → Int32 → tn_M → Option (Int32 × tn_M)) (hc20 : ∀ (x2 : Int32) (x3 : Int32) (x4 : Int32) (σ : tn_M), tn_V E G tn_ie 20 [(1, .ref (tn_ad E 3)), (2, .int x2), (3, .int x3), (4, .int x4)] [] σ (c20 x2 x3 x4 σ)) (x2 : Int32) (x3 : Int32) (x4 : Int32) (σ : tn_M) : tn_V E G tn_ie 37 [(1, .ref (tn_ad E 3)), (2, .int x2), (3, .int x3), (4, .int x4)] [] σ (F_X4_countStill_37 c20 x2 x3 x4 σ) := by
  unfold F_X4_countStill_37
  refine tr_aload_n g 0 38 dX4_countStill_37 rfl rfl rfl ?_
  refine kv_X0_advance g wd_492 ⟨Nat.le_of_ble_eq_true rfl, Nat.le_of_ble_eq_true rfl⟩ (Nat.le_of_ble_eq_true rfl) 41 dX4_countStill_38 rfl (fun _ σ1 => ?_)
  refine tr_iinc (lv' := [(4, .int (x4 + 1)), (1, .ref (tn_ad E 3)), (2, .int x2), (3, .int x3)]) (x := (x4 + 1)) g 3 44 dX4_countStill_41 rfl rfl rfl (by decide) rfl ?_
  refine tr_goto g 20 dX4_countStill_44 rfl ?_
  refine tr_sub [1, 2, 3, 0] (lv' := [(1, .ref (tn_ad E 3)), (2, .int x2), (3, .int x3), (4, .int (x4 + 1))]) rfl ?_
  exact hc20 _ _ _ _
set_option maxHeartbeats 4000000 in
set_option maxRecDepth 20000 in
theorem b_X4_countStill_20 {E : tn_E} {G : tn_G} (g : tn_Ok E G cX4_countStill RX4 5 (tn_rm 4 106)) (o : tn_Om E G (some .int))  : ∀ (n : Nat) (x2 : Int32) (x3 : Int32) (x4 : Int32) (σ : tn_M), tn_V E G tn_ie 20 [(1, .ref (tn_ad E 3)), (2, .int x2), (3, .int x3), (4, .int x4)] [] σ (F_X4_countStill_20 n x2 x3 x4 σ) := by
  intro n
  induction n with
  | zero => intros; exact tr_none
  | succ tn_n ih =>
    intro x2 x3 x4 σ
    rw [F_X4_countStill_20]
    refine tr_iload g 3 22 dX4_countStill_20 rfl rfl ?_
    refine tr_iload_n g 1 23 dX4_countStill_22 rfl rfl rfl ?_
    refine tr_icmp_ge g 47 26 dX4_countStill_23 rfl rfl ?_ ?_
    · refine tr_iload_n g 2 48 dX4_countStill_47 rfl rfl rfl ?_
      exact tr_iret g o dX4_countStill_48
    · refine tr_aload_n g 0 27 dX4_countStill_26 rfl rfl rfl ?_
      refine kv_X0_firstGainer g wd_488 ⟨Nat.le_of_ble_eq_true rfl, Nat.le_of_ble_eq_true rfl⟩ (Nat.le_of_ble_eq_true rfl) 30 dX4_countStill_27 rfl (fun r2 σ1 => ?_)
      refine tr_iconst (v := (-1)) g 31 dX4_countStill_30 rfl rfl ?_
      refine tr_icmp_ne g 37 34 dX4_countStill_31 rfl rfl ?_ ?_
      · exact b_X4_countStill_37 g o (fun z0 z1 z2 zs => F_X4_countStill_20 tn_n z0 z1 z2 zs) (fun z0 z1 z2 zs => ih z0 z1 z2 zs) _ _ _ _
      · refine tr_iinc (lv' := [(3, .int (x3 + 1)), (1, .ref (tn_ad E 3)), (2, .int x2), (4, .int x4)]) (x := (x3 + 1)) g 2 37 dX4_countStill_34 rfl rfl rfl (by decide) rfl ?_
        refine tr_sub [1, 2, 0, 3] (lv' := [(1, .ref (tn_ad E 3)), (2, .int x2), (3, .int (x3 + 1)), (4, .int x4)]) rfl ?_
        exact b_X4_countStill_37 g o (fun z0 z1 z2 zs => F_X4_countStill_20 tn_n z0 z1 z2 zs) (fun z0 z1 z2 zs => ih z0 z1 z2 zs) _ _ _ _
set_option maxHeartbeats 4000000 in
set_option maxRecDepth 20000 in
theorem b_X4_countStill {E : tn_E} {G : tn_G} (g : tn_Ok E G cX4_countStill RX4 5 (tn_rm 4 106)) (o : tn_Om E G (some .int))   (σ : tn_M) : tn_V E G tn_ie 0 [(0, .ref (tn_ad E 0))] [] σ (f_X4_countStill σ) := by
  unfold f_X4_countStill
  refine tr_aload_n g 0 1 dX4_countStill_0 rfl rfl rfl ?_
  refine kv_X4_sceneNow g wd_354 ⟨Nat.le_of_ble_eq_true rfl, Nat.le_of_ble_eq_true rfl⟩ (Nat.le_of_ble_eq_true rfl) 4 dX4_countStill_1 rfl (fun _ σ1 => ?_)
  refine tr_astore_n (lv' := [(1, .ref (tn_ad E 3)), (0, .ref (tn_ad E 0))]) g 5 dX4_countStill_4 rfl rfl (by decide) rfl ?_
  refine tr_aload_n g 0 6 dX4_countStill_5 rfl rfl rfl ?_
  refine kv_X0_profiles g wd_476 ⟨Nat.le_of_ble_eq_true rfl, Nat.le_of_ble_eq_true rfl⟩ (Nat.le_of_ble_eq_true rfl) 9 dX4_countStill_6 rfl (fun r3 σ2 => ?_)
  refine tr_istore_n (lv' := [(2, .int r3), (1, .ref (tn_ad E 3)), (0, .ref (tn_ad E 0))]) g 10 dX4_countStill_9 rfl rfl (by decide) rfl ?_
  refine tr_iconst (v := 0) g 11 dX4_countStill_10 rfl rfl ?_
  refine tr_istore_n (lv' := [(3, .int 0), (2, .int r3), (1, .ref (tn_ad E 3)), (0, .ref (tn_ad E 0))]) g 12 dX4_countStill_11 rfl rfl (by decide) rfl ?_
  refine tr_aload_n g 2 13 dX4_countStill_12 rfl rfl rfl ?_
  refine tr_iconst (v := 0) g 14 dX4_countStill_13 rfl rfl ?_
  refine kv_X0_place g wd_480 ⟨Nat.le_of_ble_eq_true rfl, Nat.le_of_ble_eq_true rfl⟩ (Nat.le_of_ble_eq_true rfl) 17 dX4_countStill_14 rfl (fun _ σ4 => ?_)
  refine tr_iconst (v := 0) g 18 dX4_countStill_17 rfl rfl ?_
  refine tr_istore (lv' := [(4, .int 0), (3, .int 0), (2, .int r3), (1, .ref (tn_ad E 3)), (0, .ref (tn_ad E 0))]) g 20 dX4_countStill_18 rfl (by decide) rfl ?_
  refine tr_sub [3, 2, 1, 0] (lv' := [(1, .ref (tn_ad E 3)), (2, .int r3), (3, .int 0), (4, .int 0)]) rfl ?_
  exact b_X4_countStill_20 g o  tn_fuel _ _ _ _
theorem ok_X4_countStill {E : tn_E} {l : Launch}    {σ : tn_M} {r : Int32} {σ' : tn_M} (h : f_X4_countStill  σ = some (r, σ')) : tn_C E l yX4_countStill cX4_countStill 5 (some .int) (tn_rm 4 106) [.ref (tn_ad E 0)] σ (tn_ie r) σ' :=
  tn_met (by decide) (Nat.le_of_ble_eq_true rfl) (fun G _ g o => b_X4_countStill g o   σ) h
theorem yy_X4_countStill : tn_Yv RX4 yX4_countStill cX4_countStill 5 (some .int) 0 := ⟨wd_475, wd_474, wd_17, wd_65, by decide, by decide, by decide +kernel⟩
theorem kv_X4_countStill {E : tn_E} {G : tn_G} {cc : ByteArray} {own : String} {nL : Nat} {R : Room} {ρ : Type} {enc : ρ → Option Value} {pc : Nat} {lv : List (Nat × Value)} {st : List Value} {σ : tn_M} {kk : Int32 → tn_M → Option (ρ × tn_M)} {i : Nat}   (g : tn_Ok E G cc own nL R)  (hw : Cond.methodLink own i yX4_countStill ∈ tn_T) (hroom : 5 ≤ R.frames ∧ 130 ≤ R.locals) (hW : (st.map fun v => v.category).sum ≤ 8) (n : Nat) (hd : decode cc pc = .ok (.invokevirtual i, 3)) (hn : pc + 3 = n) (k : ∀ r σ1, tn_V E G enc n lv (.int r :: st) σ1 (kk r σ1)) : tn_V E G enc pc lv (.ref (tn_ad E 0) :: st) σ (tn_bd (f_X4_countStill  σ) kk) :=
  tr_callV (As := []) (enc1 := tn_ie) g yy_X4_countStill hw (ci := 4) rfl (by decide) rfl (fun r σ1 h => ok_X4_countStill   h) ⟨rfl, rfl⟩ ⟨hroom.1, by have h2 := hroom.2; show 8 + (5 + 11) + 106 ≤ R.locals; omega⟩ rfl rfl hW n hd hn k
/-! X4_still -/
def F_X4_still_83 (c52 : Int32 → Int32 → Int32 → Int32 → Int32 → tn_M → Option (Int32 × tn_M)) (x1 : Int32) (x2 : Int32) (x4 : Int32) (x5 : Int32) (x6 : Int32) (σ : tn_M) : Option (Int32 × tn_M) :=
  tn_bd (f_X0_advance σ) fun _ σ1 =>
  c52 x1 x2 x4 x5 (x6 + 1) σ1
def F_X4_still_52  : Nat → Int32 → Int32 → Int32 → Int32 → Int32 → tn_M → Option (Int32 × tn_M)
  | 0, _, _, _, _, _, _ => none
  | tn_n + 1, x1, x2, x4, x5, x6, σ => 
    if x4 ≤ x6 then
      some ((-1), σ)
    else
      tn_bd (f_X0_firstGainer σ) fun r2 σ1 =>
      if r2 = (-1) then
        if x5 = x1 then
          tn_ck x2 5 <|
          some ((σ1.1 20 (tn_x x2)), σ1)
        else
          F_X4_still_83 (fun z0 z1 z2 z3 z4 zs => F_X4_still_52 tn_n z0 z1 z2 z3 z4 zs) x1 x2 x4 (x5 + 1) x6 σ1
      else
        F_X4_still_83 (fun z0 z1 z2 z3 z4 zs => F_X4_still_52 tn_n z0 z1 z2 z3 z4 zs) x1 x2 x4 x5 x6 σ1
def F_X4_still_15  (x1 : Int32) (x2 : Int32) (σ : tn_M) : Option (Int32 × tn_M) :=
  if x1 < 0 then
    some ((-2), σ)
  else
    tn_bd (f_X4_noShop x2 σ) fun r2 σ1 =>
    if r2 = 0 then
      tn_bd (f_X4_sceneNow σ1) fun _ σ3 =>
      tn_bd (f_X0_profiles σ3) fun r5 σ4 =>
      tn_bd (f_X0_place 0 σ4) fun _ σ6 =>
      F_X4_still_52 tn_fuel x1 x2 r5 0 0 σ6
    else
      some ((-2), σ1)
def f_X4_still  (a1 : Int32) (a2 : Int32) (σ : tn_M) : Option (Int32 × tn_M) :=
  if a1 = (-1) then
    if a2 = (-1) then
      tn_bd (f_X4_countStill σ) fun r2 σ1 =>
      some (r2, σ1)
    else
      F_X4_still_15 a1 a2 σ
  else
    F_X4_still_15 a1 a2 σ
set_option maxHeartbeats 4000000 in
set_option maxRecDepth 20000 in
theorem b_X4_still_83 {E : tn_E} {G : tn_G} (g : tn_Ok E G cX4_still RX4 7 (tn_rm 5 130)) (o : tn_Om E G (some .int)) (c52 : Int32 → Int32 → Int32 → Int32 → Int32 → tn_M → Option (Int32 × tn_M)) (hc52 : ∀ (x1 : Int32) (x2 : Int32) (x4 : Int32) (x5 : Int32) (x6 : Int32) (σ : tn_M), tn_V E G tn_ie 52 [(1, .int x1), (2, .int x2), (3, .ref (tn_ad E 3)), (4, .int x4), (5, .int x5), (6, .int x6)] [] σ (c52 x1 x2 x4 x5 x6 σ)) (x1 : Int32) (x2 : Int32) (x4 : Int32) (x5 : Int32) (x6 : Int32) (σ : tn_M) : tn_V E G tn_ie 83 [(1, .int x1), (2, .int x2), (3, .ref (tn_ad E 3)), (4, .int x4), (5, .int x5), (6, .int x6)] [] σ (F_X4_still_83 c52 x1 x2 x4 x5 x6 σ) := by
  unfold F_X4_still_83
  refine tr_aload_n g 2 84 dX4_still_83 rfl rfl rfl ?_
  refine kv_X0_advance g wd_492 ⟨Nat.le_of_ble_eq_true rfl, Nat.le_of_ble_eq_true rfl⟩ (Nat.le_of_ble_eq_true rfl) 87 dX4_still_84 rfl (fun _ σ1 => ?_)
  refine tr_iinc (lv' := [(6, .int (x6 + 1)), (1, .int x1), (2, .int x2), (3, .ref (tn_ad E 3)), (4, .int x4), (5, .int x5)]) (x := (x6 + 1)) g 5 90 dX4_still_87 rfl rfl rfl (by decide) rfl ?_
  refine tr_goto g 52 dX4_still_90 rfl ?_
  refine tr_sub [1, 2, 3, 4, 5, 0] (lv' := [(1, .int x1), (2, .int x2), (3, .ref (tn_ad E 3)), (4, .int x4), (5, .int x5), (6, .int (x6 + 1))]) rfl ?_
  exact hc52 _ _ _ _ _ _
set_option maxHeartbeats 4000000 in
set_option maxRecDepth 20000 in
theorem b_X4_still_52 {E : tn_E} {G : tn_G} (g : tn_Ok E G cX4_still RX4 7 (tn_rm 5 130)) (o : tn_Om E G (some .int))  : ∀ (n : Nat) (x1 : Int32) (x2 : Int32) (x4 : Int32) (x5 : Int32) (x6 : Int32) (σ : tn_M), tn_V E G tn_ie 52 [(1, .int x1), (2, .int x2), (3, .ref (tn_ad E 3)), (4, .int x4), (5, .int x5), (6, .int x6)] [] σ (F_X4_still_52 n x1 x2 x4 x5 x6 σ) := by
  intro n
  induction n with
  | zero => intros; exact tr_none
  | succ tn_n ih =>
    intro x1 x2 x4 x5 x6 σ
    rw [F_X4_still_52]
    refine tr_iload g 5 54 dX4_still_52 rfl rfl ?_
    refine tr_iload g 3 56 dX4_still_54 rfl rfl ?_
    refine tr_icmp_ge g 93 59 dX4_still_56 rfl rfl ?_ ?_
    · refine tr_iconst (v := (-1)) g 94 dX4_still_93 rfl rfl ?_
      exact tr_iret g o dX4_still_94
    · refine tr_aload_n g 2 60 dX4_still_59 rfl rfl rfl ?_
      refine kv_X0_firstGainer g wd_488 ⟨Nat.le_of_ble_eq_true rfl, Nat.le_of_ble_eq_true rfl⟩ (Nat.le_of_ble_eq_true rfl) 63 dX4_still_60 rfl (fun r2 σ1 => ?_)
      refine tr_iconst (v := (-1)) g 64 dX4_still_63 rfl rfl ?_
      refine tr_icmp_ne g 83 67 dX4_still_64 rfl rfl ?_ ?_
      · exact b_X4_still_83 g o (fun z0 z1 z2 z3 z4 zs => F_X4_still_52 tn_n z0 z1 z2 z3 z4 zs) (fun z0 z1 z2 z3 z4 zs => ih z0 z1 z2 z3 z4 zs) _ _ _ _ _ _
      · refine tr_iload g 4 69 dX4_still_67 rfl rfl ?_
        refine tr_iload_n g 0 70 dX4_still_69 rfl rfl rfl ?_
        refine tr_icmp_ne g 80 73 dX4_still_70 rfl rfl ?_ ?_
        · refine tr_iinc (lv' := [(5, .int (x5 + 1)), (1, .int x1), (2, .int x2), (3, .ref (tn_ad E 3)), (4, .int x4), (6, .int x6)]) (x := (x5 + 1)) g 4 83 dX4_still_80 rfl rfl rfl (by decide) rfl ?_
          refine tr_sub [1, 2, 3, 4, 0, 5] (lv' := [(1, .int x1), (2, .int x2), (3, .ref (tn_ad E 3)), (4, .int x4), (5, .int (x5 + 1)), (6, .int x6)]) rfl ?_
          exact b_X4_still_83 g o (fun z0 z1 z2 z3 z4 zs => F_X4_still_52 tn_n z0 z1 z2 z3 z4 zs) (fun z0 z1 z2 z3 z4 zs => ih z0 z1 z2 z3 z4 zs) _ _ _ _ _ _
        · refine tr_aload_n g 2 74 dX4_still_73 rfl rfl rfl ?_
          refine gf_X0_2 g wd_159 77 dX4_still_74 rfl ?_
          refine tr_iload_n g 1 78 dX4_still_77 rfl rfl rfl ?_
          refine tr_iald (N := 5) g 79 rfl rfl dX4_still_78 rfl ?_
          exact tr_iret g o dX4_still_79
set_option maxHeartbeats 4000000 in
set_option maxRecDepth 20000 in
theorem b_X4_still_15 {E : tn_E} {G : tn_G} (g : tn_Ok E G cX4_still RX4 7 (tn_rm 5 130)) (o : tn_Om E G (some .int))  (x1 : Int32) (x2 : Int32) (σ : tn_M) : tn_V E G tn_ie 15 [(0, .ref (tn_ad E 0)), (1, .int x1), (2, .int x2)] [] σ (F_X4_still_15 x1 x2 σ) := by
  unfold F_X4_still_15
  refine tr_iload_n g 1 16 dX4_still_15 rfl rfl rfl ?_
  refine tr_if_lt g 27 19 dX4_still_16 rfl rfl ?_ ?_
  · refine tr_bipush (v := (-2)) g 29 dX4_still_27 rfl rfl ?_
    exact tr_iret g o dX4_still_29
  · refine tr_aload_n g 0 20 dX4_still_19 rfl rfl rfl ?_
    refine tr_iload_n g 2 21 dX4_still_20 rfl rfl rfl ?_
    refine kv_X4_noShop g wd_314 ⟨Nat.le_of_ble_eq_true rfl, Nat.le_of_ble_eq_true rfl⟩ (Nat.le_of_ble_eq_true rfl) 24 dX4_still_21 rfl (fun r2 σ1 => ?_)
    refine tr_if_eq g 30 27 dX4_still_24 rfl rfl ?_ ?_
    · refine tr_aload_n g 0 31 dX4_still_30 rfl rfl rfl ?_
      refine kv_X4_sceneNow g wd_354 ⟨Nat.le_of_ble_eq_true rfl, Nat.le_of_ble_eq_true rfl⟩ (Nat.le_of_ble_eq_true rfl) 34 dX4_still_31 rfl (fun _ σ3 => ?_)
      refine tr_astore_n (lv' := [(3, .ref (tn_ad E 3)), (0, .ref (tn_ad E 0)), (1, .int x1), (2, .int x2)]) g 35 dX4_still_34 rfl rfl (by decide) rfl ?_
      refine tr_aload_n g 0 36 dX4_still_35 rfl rfl rfl ?_
      refine kv_X0_profiles g wd_476 ⟨Nat.le_of_ble_eq_true rfl, Nat.le_of_ble_eq_true rfl⟩ (Nat.le_of_ble_eq_true rfl) 39 dX4_still_36 rfl (fun r5 σ4 => ?_)
      refine tr_istore (lv' := [(4, .int r5), (3, .ref (tn_ad E 3)), (0, .ref (tn_ad E 0)), (1, .int x1), (2, .int x2)]) g 41 dX4_still_39 rfl (by decide) rfl ?_
      refine tr_iconst (v := 0) g 42 dX4_still_41 rfl rfl ?_
      refine tr_istore (lv' := [(5, .int 0), (4, .int r5), (3, .ref (tn_ad E 3)), (0, .ref (tn_ad E 0)), (1, .int x1), (2, .int x2)]) g 44 dX4_still_42 rfl (by decide) rfl ?_
      refine tr_aload_n g 2 45 dX4_still_44 rfl rfl rfl ?_
      refine tr_iconst (v := 0) g 46 dX4_still_45 rfl rfl ?_
      refine kv_X0_place g wd_480 ⟨Nat.le_of_ble_eq_true rfl, Nat.le_of_ble_eq_true rfl⟩ (Nat.le_of_ble_eq_true rfl) 49 dX4_still_46 rfl (fun _ σ6 => ?_)
      refine tr_iconst (v := 0) g 50 dX4_still_49 rfl rfl ?_
      refine tr_istore (lv' := [(6, .int 0), (5, .int 0), (4, .int r5), (3, .ref (tn_ad E 3)), (0, .ref (tn_ad E 0)), (1, .int x1), (2, .int x2)]) g 52 dX4_still_50 rfl (by decide) rfl ?_
      refine tr_sub [5, 6, 3, 2, 1, 0] (lv' := [(1, .int x1), (2, .int x2), (3, .ref (tn_ad E 3)), (4, .int r5), (5, .int 0), (6, .int 0)]) rfl ?_
      exact b_X4_still_52 g o  tn_fuel _ _ _ _ _ _
    · refine tr_bipush (v := (-2)) g 29 dX4_still_27 rfl rfl ?_
      exact tr_iret g o dX4_still_29
set_option maxHeartbeats 4000000 in
set_option maxRecDepth 20000 in
theorem b_X4_still {E : tn_E} {G : tn_G} (g : tn_Ok E G cX4_still RX4 7 (tn_rm 5 130)) (o : tn_Om E G (some .int))  (a1 : Int32) (a2 : Int32) (σ : tn_M) : tn_V E G tn_ie 0 [(0, .ref (tn_ad E 0)), (1, .int a1), (2, .int a2)] [] σ (f_X4_still a1 a2 σ) := by
  unfold f_X4_still
  refine tr_iload_n g 1 1 dX4_still_0 rfl rfl rfl ?_
  refine tr_iconst (v := (-1)) g 2 dX4_still_1 rfl rfl ?_
  refine tr_icmp_ne g 15 5 dX4_still_2 rfl rfl ?_ ?_
  · exact b_X4_still_15 g o  _ _ _
  · refine tr_iload_n g 2 6 dX4_still_5 rfl rfl rfl ?_
    refine tr_iconst (v := (-1)) g 7 dX4_still_6 rfl rfl ?_
    refine tr_icmp_ne g 15 10 dX4_still_7 rfl rfl ?_ ?_
    · exact b_X4_still_15 g o  _ _ _
    · refine tr_aload_n g 0 11 dX4_still_10 rfl rfl rfl ?_
      refine kv_X4_countStill g wd_472 ⟨Nat.le_of_ble_eq_true rfl, Nat.le_of_ble_eq_true rfl⟩ (Nat.le_of_ble_eq_true rfl) 14 dX4_still_11 rfl (fun r2 σ1 => ?_)
      exact tr_iret g o dX4_still_14
theorem ok_X4_still {E : tn_E} {l : Launch}   (a1 : Int32) (a2 : Int32) {σ : tn_M} {r : Int32} {σ' : tn_M} (h : f_X4_still a1 a2 σ = some (r, σ')) : tn_C E l yX4_still cX4_still 7 (some .int) (tn_rm 5 130) [.ref (tn_ad E 0), .int a1, .int a2] σ (tn_ie r) σ' :=
  tn_met (by decide) (Nat.le_of_ble_eq_true rfl) (fun G _ g o => b_X4_still g o  a1 a2 σ) h
theorem yy_X4_still : tn_Yv RX4 yX4_still cX4_still 7 (some .int) 2 := ⟨wd_471, wd_469, wd_470, wd_65, by decide, by decide, by decide +kernel⟩
theorem kv_X4_still {E : tn_E} {G : tn_G} {cc : ByteArray} {own : String} {nL : Nat} {R : Room} {ρ : Type} {enc : ρ → Option Value} {pc : Nat} {lv : List (Nat × Value)} {st : List Value} {σ : tn_M} {kk : Int32 → tn_M → Option (ρ × tn_M)} {i : Nat}  {a1 : Int32} {a2 : Int32} (g : tn_Ok E G cc own nL R)  (hw : Cond.methodLink own i yX4_still ∈ tn_T) (hroom : 6 ≤ R.frames ∧ 156 ≤ R.locals) (hW : (st.map fun v => v.category).sum ≤ 8) (n : Nat) (hd : decode cc pc = .ok (.invokevirtual i, 3)) (hn : pc + 3 = n) (k : ∀ r σ1, tn_V E G enc n lv (.int r :: st) σ1 (kk r σ1)) : tn_V E G enc pc lv (.int a2 :: .int a1 :: .ref (tn_ad E 0) :: st) σ (tn_bd (f_X4_still a1 a2 σ) kk) :=
  tr_callV (As := [.int a1, .int a2]) (enc1 := tn_ie) g yy_X4_still hw (ci := 4) rfl (by decide) rfl (fun r σ1 h => ok_X4_still  a1 a2 h) ⟨rfl, rfl⟩ ⟨hroom.1, by have h2 := hroom.2; show 8 + (7 + 11) + 130 ≤ R.locals; omega⟩ rfl rfl hW n hd hn k
/-! X4_bestCode -/
def F_X4_bestCode_55 (c26 : Int32 → Int32 → Int32 → Int64 → Int32 → tn_M → Option (Int32 × tn_M)) (x1 : Int32) (x3 : Int32) (x4 : Int32) (x5 : Int64) (x7 : Int32) (σ : tn_M) : Option (Int32 × tn_M) :=
  tn_bd (f_X0_advance σ) fun _ σ1 =>
  c26 x1 x3 x4 x5 (x7 + 1) σ1
def F_X4_bestCode_26  : Nat → Int32 → Int32 → Int32 → Int64 → Int32 → tn_M → Option (Int32 × tn_M)
  | 0, _, _, _, _, _, _ => none
  | tn_n + 1, x1, x3, x4, x5, x7, σ => 
    if x3 ≤ x7 then
      some (x4, σ)
    else
      tn_bd (f_X0_aim x1 σ) fun r2 σ1 =>
      if r2 ≤ x5 then
        F_X4_bestCode_55 (fun z0 z1 z2 z3 z4 zs => F_X4_bestCode_26 tn_n z0 z1 z2 z3 z4 zs) x1 x3 x4 x5 x7 σ1
      else
        F_X4_bestCode_55 (fun z0 z1 z2 z3 z4 zs => F_X4_bestCode_26 tn_n z0 z1 z2 z3 z4 zs) x1 x3 x7 r2 x7 σ1
def f_X4_bestCode  (a1 : Int32) (σ : tn_M) : Option (Int32 × tn_M) :=
  tn_bd (f_X4_sceneNow σ) fun _ σ1 =>
  tn_bd (f_X0_profiles σ1) fun r3 σ2 =>
  tn_lt (α := Int64) (-9223372036854775808) fun w4 =>
  tn_bd (f_X0_place 0 σ2) fun _ σ5 =>
  F_X4_bestCode_26 tn_fuel a1 r3 0 w4 0 σ5
set_option maxHeartbeats 4000000 in
set_option maxRecDepth 20000 in
theorem b_X4_bestCode_55 {E : tn_E} {G : tn_G} (g : tn_Ok E G cX4_bestCode RX4 10 (tn_rm 4 106)) (o : tn_Om E G (some .int)) (c26 : Int32 → Int32 → Int32 → Int64 → Int32 → tn_M → Option (Int32 × tn_M)) (hc26 : ∀ (x1 : Int32) (x3 : Int32) (x4 : Int32) (x5 : Int64) (x7 : Int32) (σ : tn_M), tn_V E G tn_ie 26 [(1, .int x1), (2, .ref (tn_ad E 3)), (3, .int x3), (4, .int x4), (5, .long x5), (7, .int x7)] [] σ (c26 x1 x3 x4 x5 x7 σ)) (x1 : Int32) (x3 : Int32) (x4 : Int32) (x5 : Int64) (x7 : Int32) (σ : tn_M) : tn_V E G tn_ie 55 [(1, .int x1), (2, .ref (tn_ad E 3)), (3, .int x3), (4, .int x4), (5, .long x5), (7, .int x7)] [] σ (F_X4_bestCode_55 c26 x1 x3 x4 x5 x7 σ) := by
  unfold F_X4_bestCode_55
  refine tr_aload_n g 1 56 dX4_bestCode_55 rfl rfl rfl ?_
  refine kv_X0_advance g wd_492 ⟨Nat.le_of_ble_eq_true rfl, Nat.le_of_ble_eq_true rfl⟩ (Nat.le_of_ble_eq_true rfl) 59 dX4_bestCode_56 rfl (fun _ σ1 => ?_)
  refine tr_iinc (lv' := [(7, .int (x7 + 1)), (1, .int x1), (2, .ref (tn_ad E 3)), (3, .int x3), (4, .int x4), (5, .long x5)]) (x := (x7 + 1)) g 5 62 dX4_bestCode_59 rfl rfl rfl (by decide) rfl ?_
  refine tr_goto g 26 dX4_bestCode_62 rfl ?_
  refine tr_sub [1, 2, 3, 4, 5, 0] (lv' := [(1, .int x1), (2, .ref (tn_ad E 3)), (3, .int x3), (4, .int x4), (5, .long x5), (7, .int (x7 + 1))]) rfl ?_
  exact hc26 _ _ _ _ _ _
set_option maxHeartbeats 4000000 in
set_option maxRecDepth 20000 in
theorem b_X4_bestCode_26 {E : tn_E} {G : tn_G} (g : tn_Ok E G cX4_bestCode RX4 10 (tn_rm 4 106)) (o : tn_Om E G (some .int))  : ∀ (n : Nat) (x1 : Int32) (x3 : Int32) (x4 : Int32) (x5 : Int64) (x7 : Int32) (σ : tn_M), tn_V E G tn_ie 26 [(1, .int x1), (2, .ref (tn_ad E 3)), (3, .int x3), (4, .int x4), (5, .long x5), (7, .int x7)] [] σ (F_X4_bestCode_26 n x1 x3 x4 x5 x7 σ) := by
  intro n
  induction n with
  | zero => intros; exact tr_none
  | succ tn_n ih =>
    intro x1 x3 x4 x5 x7 σ
    rw [F_X4_bestCode_26]
    refine tr_iload g 5 28 dX4_bestCode_26 rfl rfl ?_
    refine tr_iload_n g 2 29 dX4_bestCode_28 rfl rfl rfl ?_
    refine tr_icmp_ge g 65 32 dX4_bestCode_29 rfl rfl ?_ ?_
    · refine tr_iload g 3 67 dX4_bestCode_65 rfl rfl ?_
      exact tr_iret g o dX4_bestCode_67
    · refine tr_aload_n g 1 33 dX4_bestCode_32 rfl rfl rfl ?_
      refine tr_iload_n g 0 34 dX4_bestCode_33 rfl rfl rfl ?_
      refine kv_X0_aim g wd_439 ⟨Nat.le_of_ble_eq_true rfl, Nat.le_of_ble_eq_true rfl⟩ (Nat.le_of_ble_eq_true rfl) 37 dX4_bestCode_34 rfl (fun r2 σ1 => ?_)
      refine tr_lstore (lv' := [(8, .long r2), (1, .int x1), (2, .ref (tn_ad E 3)), (3, .int x3), (4, .int x4), (5, .long x5), (7, .int x7)]) g 39 dX4_bestCode_37 rfl (by decide) rfl ?_
      refine tr_lload g 0 41 dX4_bestCode_39 rfl rfl ?_
      refine tr_lload g 5 43 dX4_bestCode_41 rfl rfl ?_
      refine tr_lle g 55 47 dX4_bestCode_43 dX4_bestCode_44 rfl rfl ?_ ?_
      · refine tr_sub [1, 2, 3, 4, 5, 6] (lv' := [(1, .int x1), (2, .ref (tn_ad E 3)), (3, .int x3), (4, .int x4), (5, .long x5), (7, .int x7)]) rfl ?_
        exact b_X4_bestCode_55 g o (fun z0 z1 z2 z3 z4 zs => F_X4_bestCode_26 tn_n z0 z1 z2 z3 z4 zs) (fun z0 z1 z2 z3 z4 zs => ih z0 z1 z2 z3 z4 zs) _ _ _ _ _ _
      · refine tr_lload g 0 49 dX4_bestCode_47 rfl rfl ?_
        refine tr_lstore (lv' := [(5, .long r2), (8, .long r2), (1, .int x1), (2, .ref (tn_ad E 3)), (3, .int x3), (4, .int x4), (7, .int x7)]) g 51 dX4_bestCode_49 rfl (by decide) rfl ?_
        refine tr_iload g 6 53 dX4_bestCode_51 rfl rfl ?_
        refine tr_istore (lv' := [(4, .int x7), (5, .long r2), (8, .long r2), (1, .int x1), (2, .ref (tn_ad E 3)), (3, .int x3), (7, .int x7)]) g 55 dX4_bestCode_53 rfl (by decide) rfl ?_
        refine tr_sub [3, 4, 5, 0, 1, 6] (lv' := [(1, .int x1), (2, .ref (tn_ad E 3)), (3, .int x3), (4, .int x7), (5, .long r2), (7, .int x7)]) rfl ?_
        exact b_X4_bestCode_55 g o (fun z0 z1 z2 z3 z4 zs => F_X4_bestCode_26 tn_n z0 z1 z2 z3 z4 zs) (fun z0 z1 z2 z3 z4 zs => ih z0 z1 z2 z3 z4 zs) _ _ _ _ _ _
set_option maxHeartbeats 4000000 in
set_option maxRecDepth 20000 in
theorem b_X4_bestCode {E : tn_E} {G : tn_G} (g : tn_Ok E G cX4_bestCode RX4 10 (tn_rm 4 106)) (o : tn_Om E G (some .int))  (a1 : Int32) (σ : tn_M) : tn_V E G tn_ie 0 [(0, .ref (tn_ad E 0)), (1, .int a1)] [] σ (f_X4_bestCode a1 σ) := by
  unfold f_X4_bestCode
  refine tr_aload_n g 0 1 dX4_bestCode_0 rfl rfl rfl ?_
  refine kv_X4_sceneNow g wd_354 ⟨Nat.le_of_ble_eq_true rfl, Nat.le_of_ble_eq_true rfl⟩ (Nat.le_of_ble_eq_true rfl) 4 dX4_bestCode_1 rfl (fun _ σ1 => ?_)
  refine tr_astore_n (lv' := [(2, .ref (tn_ad E 3)), (0, .ref (tn_ad E 0)), (1, .int a1)]) g 5 dX4_bestCode_4 rfl rfl (by decide) rfl ?_
  refine tr_aload_n g 0 6 dX4_bestCode_5 rfl rfl rfl ?_
  refine kv_X0_profiles g wd_476 ⟨Nat.le_of_ble_eq_true rfl, Nat.le_of_ble_eq_true rfl⟩ (Nat.le_of_ble_eq_true rfl) 9 dX4_bestCode_6 rfl (fun r3 σ2 => ?_)
  refine tr_istore_n (lv' := [(3, .int r3), (2, .ref (tn_ad E 3)), (0, .ref (tn_ad E 0)), (1, .int a1)]) g 10 dX4_bestCode_9 rfl rfl (by decide) rfl ?_
  refine tr_iconst (v := 0) g 11 dX4_bestCode_10 rfl rfl ?_
  refine tr_istore (lv' := [(4, .int 0), (3, .int r3), (2, .ref (tn_ad E 3)), (0, .ref (tn_ad E 0)), (1, .int a1)]) g 13 dX4_bestCode_11 rfl (by decide) rfl ?_
  refine tr_ldc2 (v := (-9223372036854775808)) g wd_410 16 dX4_bestCode_13 rfl ?_
  refine tr_ltl (fun w4 => ?_)
  refine tr_lstore (lv' := [(5, .long w4), (4, .int 0), (3, .int r3), (2, .ref (tn_ad E 3)), (0, .ref (tn_ad E 0)), (1, .int a1)]) g 18 dX4_bestCode_16 rfl (by decide) rfl ?_
  refine tr_aload_n g 3 19 dX4_bestCode_18 rfl rfl rfl ?_
  refine tr_iconst (v := 0) g 20 dX4_bestCode_19 rfl rfl ?_
  refine kv_X0_place g wd_480 ⟨Nat.le_of_ble_eq_true rfl, Nat.le_of_ble_eq_true rfl⟩ (Nat.le_of_ble_eq_true rfl) 23 dX4_bestCode_20 rfl (fun _ σ5 => ?_)
  refine tr_iconst (v := 0) g 24 dX4_bestCode_23 rfl rfl ?_
  refine tr_istore (lv' := [(7, .int 0), (5, .long w4), (4, .int 0), (3, .int r3), (2, .ref (tn_ad E 3)), (0, .ref (tn_ad E 0)), (1, .int a1)]) g 26 dX4_bestCode_24 rfl (by decide) rfl ?_
  refine tr_sub [6, 4, 3, 2, 1, 0] (lv' := [(1, .int a1), (2, .ref (tn_ad E 3)), (3, .int r3), (4, .int 0), (5, .long w4), (7, .int 0)]) rfl ?_
  exact b_X4_bestCode_26 g o  tn_fuel _ _ _ _ _ _
theorem ok_X4_bestCode {E : tn_E} {l : Launch}   (a1 : Int32) {σ : tn_M} {r : Int32} {σ' : tn_M} (h : f_X4_bestCode a1 σ = some (r, σ')) : tn_C E l yX4_bestCode cX4_bestCode 10 (some .int) (tn_rm 4 106) [.ref (tn_ad E 0), .int a1] σ (tn_ie r) σ' :=
  tn_met (by decide) (Nat.le_of_ble_eq_true rfl) (fun G _ g o => b_X4_bestCode g o  a1 σ) h
theorem yy_X4_bestCode : tn_Yv RX4 yX4_bestCode cX4_bestCode 10 (some .int) 1 := ⟨wd_507, wd_506, wd_19, wd_65, by decide, by decide, by decide +kernel⟩
theorem kv_X4_bestCode {E : tn_E} {G : tn_G} {cc : ByteArray} {own : String} {nL : Nat} {R : Room} {ρ : Type} {enc : ρ → Option Value} {pc : Nat} {lv : List (Nat × Value)} {st : List Value} {σ : tn_M} {kk : Int32 → tn_M → Option (ρ × tn_M)} {i : Nat}  {a1 : Int32} (g : tn_Ok E G cc own nL R)  (hw : Cond.methodLink own i yX4_bestCode ∈ tn_T) (hroom : 5 ≤ R.frames ∧ 135 ≤ R.locals) (hW : (st.map fun v => v.category).sum ≤ 8) (n : Nat) (hd : decode cc pc = .ok (.invokevirtual i, 3)) (hn : pc + 3 = n) (k : ∀ r σ1, tn_V E G enc n lv (.int r :: st) σ1 (kk r σ1)) : tn_V E G enc pc lv (.int a1 :: .ref (tn_ad E 0) :: st) σ (tn_bd (f_X4_bestCode a1 σ) kk) :=
  tr_callV (As := [.int a1]) (enc1 := tn_ie) g yy_X4_bestCode hw (ci := 4) rfl (by decide) rfl (fun r σ1 h => ok_X4_bestCode  a1 h) ⟨rfl, rfl⟩ ⟨hroom.1, by have h2 := hroom.2; show 8 + (10 + 11) + 106 ≤ R.locals; omega⟩ rfl rfl hW n hd hn k
/-! X4_placedBest -/
def f_X4_placedBest  (a1 : Int32) (σ : tn_M) : Option (Unit × tn_M) :=
  tn_bd (f_X4_bestCode a1 σ) fun r2 σ1 =>
  tn_bd (f_X0_place r2 σ1) fun _ σ3 =>
  some ((), σ3)
set_option maxHeartbeats 4000000 in
set_option maxRecDepth 20000 in
theorem b_X4_placedBest {E : tn_E} {G : tn_G} (g : tn_Ok E G cX4_placedBest RX4 2 (tn_rm 5 135)) (o : tn_Om E G (some (.object "TillNine$Scene")))  (a1 : Int32) (σ : tn_M) : tn_V E G (tn_re (tn_ad E 3)) 0 [(0, .ref (tn_ad E 0)), (1, .int a1)] [] σ (f_X4_placedBest a1 σ) := by
  unfold f_X4_placedBest
  refine tr_aload_n g 0 1 dX4_placedBest_0 rfl rfl rfl ?_
  refine gf_X4_2 g wd_227 4 dX4_placedBest_1 rfl ?_
  refine tr_aload_n g 0 5 dX4_placedBest_4 rfl rfl rfl ?_
  refine tr_iload_n g 1 6 dX4_placedBest_5 rfl rfl rfl ?_
  refine kv_X4_bestCode g wd_504 ⟨Nat.le_of_ble_eq_true rfl, Nat.le_of_ble_eq_true rfl⟩ (Nat.le_of_ble_eq_true rfl) 9 dX4_placedBest_6 rfl (fun r2 σ1 => ?_)
  refine kv_X0_place g wd_480 ⟨Nat.le_of_ble_eq_true rfl, Nat.le_of_ble_eq_true rfl⟩ (Nat.le_of_ble_eq_true rfl) 12 dX4_placedBest_9 rfl (fun _ σ3 => ?_)
  refine tr_aload_n g 0 13 dX4_placedBest_12 rfl rfl rfl ?_
  refine gf_X4_2 g wd_227 16 dX4_placedBest_13 rfl ?_
  exact tr_aret g o dX4_placedBest_16
theorem ok_X4_placedBest {E : tn_E} {l : Launch}   (a1 : Int32) {σ : tn_M} {r : Unit} {σ' : tn_M} (h : f_X4_placedBest a1 σ = some (r, σ')) : tn_C E l yX4_placedBest cX4_placedBest 2 (some (.object "TillNine$Scene")) (tn_rm 5 135) [.ref (tn_ad E 0), .int a1] σ ((tn_re (tn_ad E 3)) r) σ' :=
  tn_met (by decide) (Nat.le_of_ble_eq_true rfl) (fun G _ g o => b_X4_placedBest g o  a1 σ) h
theorem yy_X4_placedBest : tn_Yv RX4 yX4_placedBest cX4_placedBest 2 (some (.object "TillNine$Scene")) 1 := ⟨wd_503, wd_502, wd_18, wd_65, by decide, by decide, by decide +kernel⟩
theorem kv_X4_placedBest {E : tn_E} {G : tn_G} {cc : ByteArray} {own : String} {nL : Nat} {R : Room} {ρ : Type} {enc : ρ → Option Value} {pc : Nat} {lv : List (Nat × Value)} {st : List Value} {σ : tn_M} {kk : Unit → tn_M → Option (ρ × tn_M)} {i : Nat}  {a1 : Int32} (g : tn_Ok E G cc own nL R)  (hw : Cond.methodLink own i yX4_placedBest ∈ tn_T) (hroom : 6 ≤ R.frames ∧ 156 ≤ R.locals) (hW : (st.map fun v => v.category).sum ≤ 8) (n : Nat) (hd : decode cc pc = .ok (.invokevirtual i, 3)) (hn : pc + 3 = n) (k : ∀ r σ1, tn_V E G enc n lv (.ref (tn_ad E 3) :: st) σ1 (kk r σ1)) : tn_V E G enc pc lv (.int a1 :: .ref (tn_ad E 0) :: st) σ (tn_bd (f_X4_placedBest a1 σ) kk) :=
  tr_callV (As := [.int a1]) (enc1 := (tn_re (tn_ad E 3))) g yy_X4_placedBest hw (ci := 4) rfl (by decide) rfl (fun r σ1 h => ok_X4_placedBest  a1 h) ⟨rfl, rfl⟩ ⟨hroom.1, by have h2 := hroom.2; show 8 + (2 + 11) + 135 ≤ R.locals; omega⟩ rfl rfl hW n hd hn k
/-! X4_best -/
def f_X4_best  (a1 : Int32) (a2 : Int32) (σ : tn_M) : Option (Int32 × tn_M) :=
  if a1 < 0 then
    some ((-2), σ)
  else
    if 1 < a1 then
      some ((-2), σ)
    else
      tn_bd (f_X4_noShop a2 σ) fun r2 σ1 =>
      if r2 = 0 then
        tn_bd (f_X4_placedBest a1 σ1) fun _ σ3 =>
        tn_ck a2 5 <|
        some ((σ3.1 20 (tn_x a2)), σ3)
      else
        some ((-2), σ1)
set_option maxHeartbeats 4000000 in
set_option maxRecDepth 20000 in
theorem b_X4_best {E : tn_E} {G : tn_G} (g : tn_Ok E G cX4_best RX4 3 (tn_rm 6 156)) (o : tn_Om E G (some .int))  (a1 : Int32) (a2 : Int32) (σ : tn_M) : tn_V E G tn_ie 0 [(0, .ref (tn_ad E 0)), (1, .int a1), (2, .int a2)] [] σ (f_X4_best a1 a2 σ) := by
  unfold f_X4_best
  refine tr_iload_n g 1 1 dX4_best_0 rfl rfl rfl ?_
  refine tr_if_lt g 17 4 dX4_best_1 rfl rfl ?_ ?_
  · refine tr_bipush (v := (-2)) g 19 dX4_best_17 rfl rfl ?_
    exact tr_iret g o dX4_best_19
  · refine tr_iload_n g 1 5 dX4_best_4 rfl rfl rfl ?_
    refine tr_iconst (v := 1) g 6 dX4_best_5 rfl rfl ?_
    refine tr_icmp_gt g 17 9 dX4_best_6 rfl rfl ?_ ?_
    · refine tr_bipush (v := (-2)) g 19 dX4_best_17 rfl rfl ?_
      exact tr_iret g o dX4_best_19
    · refine tr_aload_n g 0 10 dX4_best_9 rfl rfl rfl ?_
      refine tr_iload_n g 2 11 dX4_best_10 rfl rfl rfl ?_
      refine kv_X4_noShop g wd_314 ⟨Nat.le_of_ble_eq_true rfl, Nat.le_of_ble_eq_true rfl⟩ (Nat.le_of_ble_eq_true rfl) 14 dX4_best_11 rfl (fun r2 σ1 => ?_)
      refine tr_if_eq g 20 17 dX4_best_14 rfl rfl ?_ ?_
      · refine tr_aload_n g 0 21 dX4_best_20 rfl rfl rfl ?_
        refine tr_iload_n g 1 22 dX4_best_21 rfl rfl rfl ?_
        refine kv_X4_placedBest g wd_500 ⟨Nat.le_of_ble_eq_true rfl, Nat.le_of_ble_eq_true rfl⟩ (Nat.le_of_ble_eq_true rfl) 25 dX4_best_22 rfl (fun _ σ3 => ?_)
        refine gf_X0_2 g wd_159 28 dX4_best_25 rfl ?_
        refine tr_iload_n g 2 29 dX4_best_28 rfl rfl rfl ?_
        refine tr_iald (N := 5) g 30 rfl rfl dX4_best_29 rfl ?_
        exact tr_iret g o dX4_best_30
      · refine tr_bipush (v := (-2)) g 19 dX4_best_17 rfl rfl ?_
        exact tr_iret g o dX4_best_19
theorem ok_X4_best {E : tn_E} {l : Launch}   (a1 : Int32) (a2 : Int32) {σ : tn_M} {r : Int32} {σ' : tn_M} (h : f_X4_best a1 a2 σ = some (r, σ')) : tn_C E l yX4_best cX4_best 3 (some .int) (tn_rm 6 156) [.ref (tn_ad E 0), .int a1, .int a2] σ (tn_ie r) σ' :=
  tn_met (by decide) (Nat.le_of_ble_eq_true rfl) (fun G _ g o => b_X4_best g o  a1 a2 σ) h
theorem yy_X4_best : tn_Yv RX4 yX4_best cX4_best 3 (some .int) 2 := ⟨wd_499, wd_497, wd_498, wd_65, by decide, by decide, by decide +kernel⟩
theorem kv_X4_best {E : tn_E} {G : tn_G} {cc : ByteArray} {own : String} {nL : Nat} {R : Room} {ρ : Type} {enc : ρ → Option Value} {pc : Nat} {lv : List (Nat × Value)} {st : List Value} {σ : tn_M} {kk : Int32 → tn_M → Option (ρ × tn_M)} {i : Nat}  {a1 : Int32} {a2 : Int32} (g : tn_Ok E G cc own nL R)  (hw : Cond.methodLink own i yX4_best ∈ tn_T) (hroom : 7 ≤ R.frames ∧ 178 ≤ R.locals) (hW : (st.map fun v => v.category).sum ≤ 8) (n : Nat) (hd : decode cc pc = .ok (.invokevirtual i, 3)) (hn : pc + 3 = n) (k : ∀ r σ1, tn_V E G enc n lv (.int r :: st) σ1 (kk r σ1)) : tn_V E G enc pc lv (.int a2 :: .int a1 :: .ref (tn_ad E 0) :: st) σ (tn_bd (f_X4_best a1 a2 σ) kk) :=
  tr_callV (As := [.int a1, .int a2]) (enc1 := tn_ie) g yy_X4_best hw (ci := 4) rfl (by decide) rfl (fun r σ1 h => ok_X4_best  a1 a2 h) ⟨rfl, rfl⟩ ⟨hroom.1, by have h2 := hroom.2; show 8 + (3 + 11) + 156 ≤ R.locals; omega⟩ rfl rfl hW n hd hn k
/-! X4_loss -/
def f_X4_loss  (a1 : Int32) (σ : tn_M) : Option (Int64 × tn_M) :=
  tn_bd (f_X4_noSide a1 σ) fun r2 σ1 =>
  if r2 = 0 then
    tn_bd (f_X4_placedBest 0 σ1) fun _ σ3 =>
    tn_bd (f_X0_together σ3) fun r5 σ4 =>
    tn_bd (f_X4_sceneNow σ4) fun _ σ6 =>
    tn_bd (f_X0_together σ6) fun r8 σ7 =>
    tn_bd (f_X4_fraction (r5 - r8) a1 σ7) fun r10 σ9 =>
    some (r10, σ9)
  else
    tn_bd (f_X4_refused (-2) σ1) fun r12 σ11 =>
    some (r12, σ11)
set_option maxHeartbeats 4000000 in
set_option maxRecDepth 20000 in
theorem b_X4_loss {E : tn_E} {G : tn_G} (g : tn_Ok E G cX4_loss RX4 4 (tn_rm 6 156)) (o : tn_Om E G (some .long))  (a1 : Int32) (σ : tn_M) : tn_V E G tn_le 0 [(0, .ref (tn_ad E 0)), (1, .int a1)] [] σ (f_X4_loss a1 σ) := by
  unfold f_X4_loss
  refine tr_iload_n g 1 1 dX4_loss_0 rfl rfl rfl ?_
  refine kv_X4_noSide g wd_404 ⟨Nat.le_of_ble_eq_true rfl, Nat.le_of_ble_eq_true rfl⟩ (Nat.le_of_ble_eq_true rfl) 4 dX4_loss_1 rfl (fun r2 σ1 => ?_)
  refine tr_if_eq g 13 7 dX4_loss_4 rfl rfl ?_ ?_
  · refine tr_aload_n g 0 14 dX4_loss_13 rfl rfl rfl ?_
    refine tr_iconst (v := 0) g 15 dX4_loss_14 rfl rfl ?_
    refine kv_X4_placedBest g wd_500 ⟨Nat.le_of_ble_eq_true rfl, Nat.le_of_ble_eq_true rfl⟩ (Nat.le_of_ble_eq_true rfl) 18 dX4_loss_15 rfl (fun _ σ3 => ?_)
    refine kv_X0_together g wd_512 ⟨Nat.le_of_ble_eq_true rfl, Nat.le_of_ble_eq_true rfl⟩ (Nat.le_of_ble_eq_true rfl) 21 dX4_loss_18 rfl (fun r5 σ4 => ?_)
    refine tr_lstore_n (lv' := [(2, .long r5), (0, .ref (tn_ad E 0)), (1, .int a1)]) g 22 dX4_loss_21 rfl rfl (by decide) rfl ?_
    refine tr_lload_n g 0 23 dX4_loss_22 rfl rfl rfl ?_
    refine tr_aload_n g 1 24 dX4_loss_23 rfl rfl rfl ?_
    refine kv_X4_sceneNow g wd_354 ⟨Nat.le_of_ble_eq_true rfl, Nat.le_of_ble_eq_true rfl⟩ (Nat.le_of_ble_eq_true rfl) 27 dX4_loss_24 rfl (fun _ σ6 => ?_)
    refine kv_X0_together g wd_512 ⟨Nat.le_of_ble_eq_true rfl, Nat.le_of_ble_eq_true rfl⟩ (Nat.le_of_ble_eq_true rfl) 30 dX4_loss_27 rfl (fun r8 σ7 => ?_)
    refine tr_lsub g 31 dX4_loss_30 rfl ?_
    refine tr_iload_n g 2 32 dX4_loss_31 rfl rfl rfl ?_
    refine kv_X4_fraction g wd_425 ⟨Nat.le_of_ble_eq_true rfl, Nat.le_of_ble_eq_true rfl⟩ (Nat.le_of_ble_eq_true rfl) 35 dX4_loss_32 rfl (fun r10 σ9 => ?_)
    exact tr_lret g o dX4_loss_35
  · refine tr_bipush (v := (-2)) g 9 dX4_loss_7 rfl rfl ?_
    refine kv_X4_refused g wd_407 ⟨Nat.le_of_ble_eq_true rfl, Nat.le_of_ble_eq_true rfl⟩ (Nat.le_of_ble_eq_true rfl) 12 dX4_loss_9 rfl (fun r12 σ11 => ?_)
    exact tr_lret g o dX4_loss_12
theorem ok_X4_loss {E : tn_E} {l : Launch}   (a1 : Int32) {σ : tn_M} {r : Int64} {σ' : tn_M} (h : f_X4_loss a1 σ = some (r, σ')) : tn_C E l yX4_loss cX4_loss 4 (some .long) (tn_rm 6 156) [.ref (tn_ad E 0), .int a1] σ (tn_le r) σ' :=
  tn_met (by decide) (Nat.le_of_ble_eq_true rfl) (fun G _ g o => b_X4_loss g o  a1 σ) h
theorem yy_X4_loss : tn_Yv RX4 yX4_loss cX4_loss 4 (some .long) 1 := ⟨wd_511, wd_509, wd_510, wd_65, by decide, by decide, by decide +kernel⟩
theorem kv_X4_loss {E : tn_E} {G : tn_G} {cc : ByteArray} {own : String} {nL : Nat} {R : Room} {ρ : Type} {enc : ρ → Option Value} {pc : Nat} {lv : List (Nat × Value)} {st : List Value} {σ : tn_M} {kk : Int64 → tn_M → Option (ρ × tn_M)} {i : Nat}  {a1 : Int32} (g : tn_Ok E G cc own nL R)  (hw : Cond.methodLink own i yX4_loss ∈ tn_T) (hroom : 7 ≤ R.frames ∧ 179 ≤ R.locals) (hW : (st.map fun v => v.category).sum ≤ 8) (n : Nat) (hd : decode cc pc = .ok (.invokevirtual i, 3)) (hn : pc + 3 = n) (k : ∀ r σ1, tn_V E G enc n lv (.long r :: st) σ1 (kk r σ1)) : tn_V E G enc pc lv (.int a1 :: .ref (tn_ad E 0) :: st) σ (tn_bd (f_X4_loss a1 σ) kk) :=
  tr_callV (As := [.int a1]) (enc1 := tn_le) g yy_X4_loss hw (ci := 4) rfl (by decide) rfl (fun r σ1 h => ok_X4_loss  a1 h) ⟨rfl, rfl⟩ ⟨hroom.1, by have h2 := hroom.2; show 8 + (4 + 11) + 156 ≤ R.locals; omega⟩ rfl rfl hW n hd hn k
/-! X4_leastFine -/
def f_X4_leastFine   (σ : tn_M) : Option (Int32 × tn_M) :=
  tn_bd (f_X4_sceneNow σ) fun _ σ1 =>
  tn_lt (tn_sl σ1 3 10 0) fun σ2 =>
  tn_bd (f_X0_keepLaw σ2) fun _ σ3 =>
  tn_bd (f_X0_lawlessGain σ3) fun r5 σ4 =>
  if 0 < r5 then
    if (σ4.1 6 4) = 0 then
      some ((-1), σ4)
    else
      tn_bd (f_X4_ceiling r5 ((Int32.toInt64 (σ4.1 6 4)) * 738017280) σ4) fun r7 σ6 =>
      tn_lt (α := Int32) (if r7 ≤ (Int32.toInt64 999) then (Int64.toInt32 r7) else (-1)) fun v8 =>
      some (v8, σ6)
  else
    some (0, σ4)
set_option maxHeartbeats 4000000 in
set_option maxRecDepth 20000 in
theorem b_X4_leastFine {E : tn_E} {G : tn_G} (g : tn_Ok E G cX4_leastFine RX4 6 (tn_rm 4 106)) (o : tn_Om E G (some .int))   (σ : tn_M) : tn_V E G tn_ie 0 [(0, .ref (tn_ad E 0))] [] σ (f_X4_leastFine σ) := by
  unfold f_X4_leastFine
  refine tr_aload_n g 0 1 dX4_leastFine_0 rfl rfl rfl ?_
  refine kv_X4_sceneNow g wd_354 ⟨Nat.le_of_ble_eq_true rfl, Nat.le_of_ble_eq_true rfl⟩ (Nat.le_of_ble_eq_true rfl) 4 dX4_leastFine_1 rfl (fun _ σ1 => ?_)
  refine tr_astore_n (lv' := [(1, .ref (tn_ad E 3)), (0, .ref (tn_ad E 0))]) g 5 dX4_leastFine_4 rfl rfl (by decide) rfl ?_
  refine tr_aload_n g 0 6 dX4_leastFine_5 rfl rfl rfl ?_
  refine tr_lconst (v := 0) g 7 dX4_leastFine_6 rfl rfl ?_
  refine pf_X0_10 g wd_169 10 dX4_leastFine_7 rfl (fun σ2 => ?_)
  refine tr_aload_n g 0 11 dX4_leastFine_10 rfl rfl rfl ?_
  refine kv_X0_keepLaw g wd_517 ⟨Nat.le_of_ble_eq_true rfl, Nat.le_of_ble_eq_true rfl⟩ (Nat.le_of_ble_eq_true rfl) 14 dX4_leastFine_11 rfl (fun _ σ3 => ?_)
  refine tr_aload_n g 0 15 dX4_leastFine_14 rfl rfl rfl ?_
  refine kv_X0_lawlessGain g wd_526 ⟨Nat.le_of_ble_eq_true rfl, Nat.le_of_ble_eq_true rfl⟩ (Nat.le_of_ble_eq_true rfl) 18 dX4_leastFine_15 rfl (fun r5 σ4 => ?_)
  refine tr_lstore_n (lv' := [(2, .long r5), (1, .ref (tn_ad E 3)), (0, .ref (tn_ad E 0))]) g 19 dX4_leastFine_18 rfl rfl (by decide) rfl ?_
  refine tr_lload_n g 0 20 dX4_leastFine_19 rfl rfl rfl ?_
  refine tr_lconst (v := 0) g 21 dX4_leastFine_20 rfl rfl ?_
  refine tr_lgt g 27 25 dX4_leastFine_21 dX4_leastFine_22 rfl rfl ?_ ?_
  · refine tr_aload_n g 2 28 dX4_leastFine_27 rfl rfl rfl ?_
    refine gf_X4_4 g wd_229 31 dX4_leastFine_28 rfl ?_
    refine tr_iconst (v := 4) g 32 dX4_leastFine_31 rfl rfl ?_
    refine tr_ialdK (N := 8) g 33 4 rfl rfl rfl (by decide) dX4_leastFine_32 rfl ?_
    refine tr_if_ne g 38 36 dX4_leastFine_33 rfl rfl ?_ ?_
    · refine tr_lload_n g 0 39 dX4_leastFine_38 rfl rfl rfl ?_
      refine tr_aload_n g 2 40 dX4_leastFine_39 rfl rfl rfl ?_
      refine gf_X4_4 g wd_229 43 dX4_leastFine_40 rfl ?_
      refine tr_iconst (v := 4) g 44 dX4_leastFine_43 rfl rfl ?_
      refine tr_ialdK (N := 8) g 45 4 rfl rfl rfl (by decide) dX4_leastFine_44 rfl ?_
      refine tr_i2l g 46 dX4_leastFine_45 rfl ?_
      refine tr_ldc2 (v := 738017280) g wd_533 49 dX4_leastFine_46 rfl ?_
      refine tr_lmul g 50 dX4_leastFine_49 rfl ?_
      refine kv_X4_ceiling g wd_534 ⟨Nat.le_of_ble_eq_true rfl, Nat.le_of_ble_eq_true rfl⟩ (Nat.le_of_ble_eq_true rfl) 53 dX4_leastFine_50 rfl (fun r7 σ6 => ?_)
      refine tr_lstore (lv' := [(4, .long r7), (2, .long r5), (1, .ref (tn_ad E 3)), (0, .ref (tn_ad E 0))]) g 55 dX4_leastFine_53 rfl (by decide) rfl ?_
      refine tr_lload g 0 57 dX4_leastFine_55 rfl rfl ?_
      refine tr_hget g wd_326 60 dX4_leastFine_57 rfl ?_
      refine tr_iconst (v := 3) g 61 dX4_leastFine_60 rfl rfl ?_
      refine tr_haldK (v := 999) g 62 (by decide) rfl dX4_leastFine_61 rfl ?_
      refine tr_i2l g 63 dX4_leastFine_62 rfl ?_
      refine tr_lleD (inj := fun z => Value.int z) g 74 71 67 dX4_leastFine_63 dX4_leastFine_64 rfl rfl (fun rs hj => ?_) (fun rs hj => ?_) (fun v8 => ?_)
      · refine tr_lload g 0 73 dX4_leastFine_71 rfl rfl ?_
        refine tr_l2i g 74 dX4_leastFine_73 rfl ?_
        exact hj
      · refine tr_iconst (v := (-1)) g 68 dX4_leastFine_67 rfl rfl ?_
        refine tr_goto g 74 dX4_leastFine_68 rfl ?_
        exact hj
      · exact tr_iret g o dX4_leastFine_74
    · refine tr_iconst (v := (-1)) g 37 dX4_leastFine_36 rfl rfl ?_
      exact tr_iret g o dX4_leastFine_37
  · refine tr_iconst (v := 0) g 26 dX4_leastFine_25 rfl rfl ?_
    exact tr_iret g o dX4_leastFine_26
theorem ok_X4_leastFine {E : tn_E} {l : Launch}    {σ : tn_M} {r : Int32} {σ' : tn_M} (h : f_X4_leastFine  σ = some (r, σ')) : tn_C E l yX4_leastFine cX4_leastFine 6 (some .int) (tn_rm 4 106) [.ref (tn_ad E 0)] σ (tn_ie r) σ' :=
  tn_met (by decide) (Nat.le_of_ble_eq_true rfl) (fun G _ g o => b_X4_leastFine g o   σ) h
theorem yy_X4_leastFine : tn_Yv RX4 yX4_leastFine cX4_leastFine 6 (some .int) 0 := ⟨wd_516, wd_514, wd_515, wd_65, by decide, by decide, by decide +kernel⟩
theorem kv_X4_leastFine {E : tn_E} {G : tn_G} {cc : ByteArray} {own : String} {nL : Nat} {R : Room} {ρ : Type} {enc : ρ → Option Value} {pc : Nat} {lv : List (Nat × Value)} {st : List Value} {σ : tn_M} {kk : Int32 → tn_M → Option (ρ × tn_M)} {i : Nat}   (g : tn_Ok E G cc own nL R)  (hw : Cond.methodLink own i yX4_leastFine ∈ tn_T) (hroom : 5 ≤ R.frames ∧ 131 ≤ R.locals) (hW : (st.map fun v => v.category).sum ≤ 8) (n : Nat) (hd : decode cc pc = .ok (.invokevirtual i, 3)) (hn : pc + 3 = n) (k : ∀ r σ1, tn_V E G enc n lv (.int r :: st) σ1 (kk r σ1)) : tn_V E G enc pc lv (.ref (tn_ad E 0) :: st) σ (tn_bd (f_X4_leastFine  σ) kk) :=
  tr_callV (As := []) (enc1 := tn_ie) g yy_X4_leastFine hw (ci := 4) rfl (by decide) rfl (fun r σ1 h => ok_X4_leastFine   h) ⟨rfl, rfl⟩ ⟨hroom.1, by have h2 := hroom.2; show 8 + (6 + 11) + 106 ≤ R.locals; omega⟩ rfl rfl hW n hd hn k
/-! X4_restsUnder -/
def f_X4_restsUnder  (a1 : Int32) (σ : tn_M) : Option (Int32 × tn_M) :=
  tn_bd (f_X4_sceneNow σ) fun _ σ1 =>
  tn_lt (tn_sl σ1 3 10 0) fun σ2 =>
  tn_bd (f_X0_openTillNine 0 σ2) fun _ σ3 =>
  tn_bd (f_X0_limitBound a1 σ3) fun _ σ4 =>
  tn_bd (f_X0_runDown σ4) fun r6 σ5 =>
  tn_zr r6 σ5
set_option maxHeartbeats 4000000 in
set_option maxRecDepth 20000 in
theorem b_X4_restsUnder {E : tn_E} {G : tn_G} (g : tn_Ok E G cX4_restsUnder RX4 3 (tn_rm 4 106)) (o : tn_Om E G (some .boolean))  (a1 : Int32) (σ : tn_M) : tn_V E G tn_ie 0 [(0, .ref (tn_ad E 0)), (1, .int a1)] [] σ (f_X4_restsUnder a1 σ) := by
  unfold f_X4_restsUnder
  refine tr_aload_n g 0 1 dX4_restsUnder_0 rfl rfl rfl ?_
  refine kv_X4_sceneNow g wd_354 ⟨Nat.le_of_ble_eq_true rfl, Nat.le_of_ble_eq_true rfl⟩ (Nat.le_of_ble_eq_true rfl) 4 dX4_restsUnder_1 rfl (fun _ σ1 => ?_)
  refine tr_astore_n (lv' := [(2, .ref (tn_ad E 3)), (0, .ref (tn_ad E 0)), (1, .int a1)]) g 5 dX4_restsUnder_4 rfl rfl (by decide) rfl ?_
  refine tr_aload_n g 0 6 dX4_restsUnder_5 rfl rfl rfl ?_
  refine tr_lconst (v := 0) g 7 dX4_restsUnder_6 rfl rfl ?_
  refine pf_X0_10 g wd_169 10 dX4_restsUnder_7 rfl (fun σ2 => ?_)
  refine tr_aload_n g 0 11 dX4_restsUnder_10 rfl rfl rfl ?_
  refine tr_iconst (v := 0) g 12 dX4_restsUnder_11 rfl rfl ?_
  refine kv_X0_openTillNine g wd_549 ⟨Nat.le_of_ble_eq_true rfl, Nat.le_of_ble_eq_true rfl⟩ (Nat.le_of_ble_eq_true rfl) 15 dX4_restsUnder_12 rfl (fun _ σ3 => ?_)
  refine tr_aload_n g 0 16 dX4_restsUnder_15 rfl rfl rfl ?_
  refine tr_iload_n g 2 17 dX4_restsUnder_16 rfl rfl rfl ?_
  refine kv_X0_limitBound g wd_553 ⟨Nat.le_of_ble_eq_true rfl, Nat.le_of_ble_eq_true rfl⟩ (Nat.le_of_ble_eq_true rfl) 20 dX4_restsUnder_17 rfl (fun _ σ4 => ?_)
  refine tr_aload_n g 0 21 dX4_restsUnder_20 rfl rfl rfl ?_
  refine kv_X0_runDown g wd_463 ⟨Nat.le_of_ble_eq_true rfl, Nat.le_of_ble_eq_true rfl⟩ (Nat.le_of_ble_eq_true rfl) 24 dX4_restsUnder_21 rfl (fun r6 σ5 => ?_)
  exact tr_zretv g o dX4_restsUnder_24
theorem ok_X4_restsUnder {E : tn_E} {l : Launch}   (a1 : Int32) {σ : tn_M} {r : Int32} {σ' : tn_M} (h : f_X4_restsUnder a1 σ = some (r, σ')) : tn_C E l yX4_restsUnder cX4_restsUnder 3 (some .boolean) (tn_rm 4 106) [.ref (tn_ad E 0), .int a1] σ (tn_ie r) σ' :=
  tn_met (by decide) (Nat.le_of_ble_eq_true rfl) (fun G _ g o => b_X4_restsUnder g o  a1 σ) h
theorem yy_X4_restsUnder : tn_Yv RX4 yX4_restsUnder cX4_restsUnder 3 (some .boolean) 1 := ⟨wd_548, wd_547, wd_21, wd_65, by decide, by decide, by decide +kernel⟩
theorem kv_X4_restsUnder {E : tn_E} {G : tn_G} {cc : ByteArray} {own : String} {nL : Nat} {R : Room} {ρ : Type} {enc : ρ → Option Value} {pc : Nat} {lv : List (Nat × Value)} {st : List Value} {σ : tn_M} {kk : Int32 → tn_M → Option (ρ × tn_M)} {i : Nat}  {a1 : Int32} (g : tn_Ok E G cc own nL R)  (hw : Cond.methodLink own i yX4_restsUnder ∈ tn_T) (hroom : 5 ≤ R.frames ∧ 128 ≤ R.locals) (hW : (st.map fun v => v.category).sum ≤ 8) (n : Nat) (hd : decode cc pc = .ok (.invokevirtual i, 3)) (hn : pc + 3 = n) (k : ∀ r σ1, tn_V E G enc n lv (.int r :: st) σ1 (kk r σ1)) : tn_V E G enc pc lv (.int a1 :: .ref (tn_ad E 0) :: st) σ (tn_bd (f_X4_restsUnder a1 σ) kk) :=
  tr_callV (As := [.int a1]) (enc1 := tn_ie) g yy_X4_restsUnder hw (ci := 4) rfl (by decide) rfl (fun r σ1 h => ok_X4_restsUnder  a1 h) ⟨rfl, rfl⟩ ⟨hroom.1, by have h2 := hroom.2; show 8 + (3 + 11) + 106 ≤ R.locals; omega⟩ rfl rfl hW n hd hn k
/-! X4_bestCapNow -/
def F_X4_bestCapNow_43 (c7 : Int32 → Int64 → Int32 → tn_M → Option (Int32 × tn_M)) (x4 : Int32) (x5 : Int64) (σ : tn_M) : Option (Int32 × tn_M) :=
  c7 x4 x5 (x4 + 1) σ
def F_X4_bestCapNow_7  : Nat → Int32 → Int64 → Int32 → tn_M → Option (Int32 × tn_M)
  | 0, _, _, _, _ => none
  | tn_n + 1, x1, x2, x4, σ => 
    if 3 < x4 then
      some (x1, σ)
    else
      tn_bd (f_X4_restsUnder x4 σ) fun r2 σ1 =>
      if r2 = 0 then
        F_X4_bestCapNow_7 tn_n x1 x2 (x4 + 1) σ1
      else
        tn_bd (f_X0_together σ1) fun r4 σ3 =>
        if x1 = (-1) then
          F_X4_bestCapNow_43 (fun z0 z1 z2 zs => F_X4_bestCapNow_7 tn_n z0 z1 z2 zs) x4 r4 σ3
        else
          if r4 ≤ x2 then
            F_X4_bestCapNow_7 tn_n x1 x2 (x4 + 1) σ3
          else
            F_X4_bestCapNow_43 (fun z0 z1 z2 zs => F_X4_bestCapNow_7 tn_n z0 z1 z2 zs) x4 r4 σ3
def f_X4_bestCapNow   (σ : tn_M) : Option (Int32 × tn_M) :=
  F_X4_bestCapNow_7 tn_fuel (-1) 0 0 σ
set_option maxHeartbeats 4000000 in
set_option maxRecDepth 20000 in
theorem b_X4_bestCapNow_43 {E : tn_E} {G : tn_G} (g : tn_Ok E G cX4_bestCapNow RX4 7 (tn_rm 5 128)) (o : tn_Om E G (some .int)) (c7 : Int32 → Int64 → Int32 → tn_M → Option (Int32 × tn_M)) (hc7 : ∀ (x1 : Int32) (x2 : Int64) (x4 : Int32) (σ : tn_M), tn_V E G tn_ie 7 [(0, .ref (tn_ad E 0)), (1, .int x1), (2, .long x2), (4, .int x4)] [] σ (c7 x1 x2 x4 σ)) (x4 : Int32) (x5 : Int64) (σ : tn_M) : tn_V E G tn_ie 43 [(0, .ref (tn_ad E 0)), (4, .int x4), (5, .long x5)] [] σ (F_X4_bestCapNow_43 c7 x4 x5 σ) := by
  unfold F_X4_bestCapNow_43
  refine tr_lload g 2 45 dX4_bestCapNow_43 rfl rfl ?_
  refine tr_lstore_n (lv' := [(2, .long x5), (0, .ref (tn_ad E 0)), (4, .int x4), (5, .long x5)]) g 46 dX4_bestCapNow_45 rfl rfl (by decide) rfl ?_
  refine tr_iload g 2 48 dX4_bestCapNow_46 rfl rfl ?_
  refine tr_istore_n (lv' := [(1, .int x4), (2, .long x5), (0, .ref (tn_ad E 0)), (4, .int x4), (5, .long x5)]) g 49 dX4_bestCapNow_48 rfl rfl (by decide) rfl ?_
  refine tr_iinc (lv' := [(4, .int (x4 + 1)), (1, .int x4), (2, .long x5), (0, .ref (tn_ad E 0)), (5, .long x5)]) (x := (x4 + 1)) g 3 52 dX4_bestCapNow_49 rfl rfl rfl (by decide) rfl ?_
  refine tr_goto g 7 dX4_bestCapNow_52 rfl ?_
  refine tr_sub [3, 1, 2, 0] (lv' := [(0, .ref (tn_ad E 0)), (1, .int x4), (2, .long x5), (4, .int (x4 + 1))]) rfl ?_
  exact hc7 _ _ _ _
set_option maxHeartbeats 4000000 in
set_option maxRecDepth 20000 in
theorem b_X4_bestCapNow_7 {E : tn_E} {G : tn_G} (g : tn_Ok E G cX4_bestCapNow RX4 7 (tn_rm 5 128)) (o : tn_Om E G (some .int))  : ∀ (n : Nat) (x1 : Int32) (x2 : Int64) (x4 : Int32) (σ : tn_M), tn_V E G tn_ie 7 [(0, .ref (tn_ad E 0)), (1, .int x1), (2, .long x2), (4, .int x4)] [] σ (F_X4_bestCapNow_7 n x1 x2 x4 σ) := by
  intro n
  induction n with
  | zero => intros; exact tr_none
  | succ tn_n ih =>
    intro x1 x2 x4 σ
    rw [F_X4_bestCapNow_7]
    refine tr_iload g 3 9 dX4_bestCapNow_7 rfl rfl ?_
    refine tr_iconst (v := 3) g 10 dX4_bestCapNow_9 rfl rfl ?_
    refine tr_icmp_gt g 55 13 dX4_bestCapNow_10 rfl rfl ?_ ?_
    · refine tr_iload_n g 1 56 dX4_bestCapNow_55 rfl rfl rfl ?_
      exact tr_iret g o dX4_bestCapNow_56
    · refine tr_aload_n g 0 14 dX4_bestCapNow_13 rfl rfl rfl ?_
      refine tr_iload g 3 16 dX4_bestCapNow_14 rfl rfl ?_
      refine kv_X4_restsUnder g wd_545 ⟨Nat.le_of_ble_eq_true rfl, Nat.le_of_ble_eq_true rfl⟩ (Nat.le_of_ble_eq_true rfl) 19 dX4_bestCapNow_16 rfl (fun r2 σ1 => ?_)
      refine tr_if_eq g 49 22 dX4_bestCapNow_19 rfl rfl ?_ ?_
      · refine tr_iinc (lv' := [(4, .int (x4 + 1)), (0, .ref (tn_ad E 0)), (1, .int x1), (2, .long x2)]) (x := (x4 + 1)) g 3 52 dX4_bestCapNow_49 rfl rfl rfl (by decide) rfl ?_
        refine tr_goto g 7 dX4_bestCapNow_52 rfl ?_
        refine tr_sub [1, 2, 3, 0] (lv' := [(0, .ref (tn_ad E 0)), (1, .int x1), (2, .long x2), (4, .int (x4 + 1))]) rfl ?_
        exact ih _ _ _ _
      · refine tr_aload_n g 0 23 dX4_bestCapNow_22 rfl rfl rfl ?_
        refine gf_X4_2 g wd_227 26 dX4_bestCapNow_23 rfl ?_
        refine kv_X0_together g wd_512 ⟨Nat.le_of_ble_eq_true rfl, Nat.le_of_ble_eq_true rfl⟩ (Nat.le_of_ble_eq_true rfl) 29 dX4_bestCapNow_26 rfl (fun r4 σ3 => ?_)
        refine tr_lstore (lv' := [(5, .long r4), (0, .ref (tn_ad E 0)), (1, .int x1), (2, .long x2), (4, .int x4)]) g 31 dX4_bestCapNow_29 rfl (by decide) rfl ?_
        refine tr_iload_n g 2 32 dX4_bestCapNow_31 rfl rfl rfl ?_
        refine tr_iconst (v := (-1)) g 33 dX4_bestCapNow_32 rfl rfl ?_
        refine tr_icmp_eq g 43 36 dX4_bestCapNow_33 rfl rfl ?_ ?_
        · refine tr_sub [1, 4, 0] (lv' := [(0, .ref (tn_ad E 0)), (4, .int x4), (5, .long r4)]) rfl ?_
          exact b_X4_bestCapNow_43 g o (fun z0 z1 z2 zs => F_X4_bestCapNow_7 tn_n z0 z1 z2 zs) (fun z0 z1 z2 zs => ih z0 z1 z2 zs) _ _ _
        · refine tr_lload g 0 38 dX4_bestCapNow_36 rfl rfl ?_
          refine tr_lload_n g 3 39 dX4_bestCapNow_38 rfl rfl rfl ?_
          refine tr_lle g 49 43 dX4_bestCapNow_39 dX4_bestCapNow_40 rfl rfl ?_ ?_
          · refine tr_iinc (lv' := [(4, .int (x4 + 1)), (5, .long r4), (0, .ref (tn_ad E 0)), (1, .int x1), (2, .long x2)]) (x := (x4 + 1)) g 4 52 dX4_bestCapNow_49 rfl rfl rfl (by decide) rfl ?_
            refine tr_goto g 7 dX4_bestCapNow_52 rfl ?_
            refine tr_sub [2, 3, 4, 0] (lv' := [(0, .ref (tn_ad E 0)), (1, .int x1), (2, .long x2), (4, .int (x4 + 1))]) rfl ?_
            exact ih _ _ _ _
          · refine tr_sub [1, 4, 0] (lv' := [(0, .ref (tn_ad E 0)), (4, .int x4), (5, .long r4)]) rfl ?_
            exact b_X4_bestCapNow_43 g o (fun z0 z1 z2 zs => F_X4_bestCapNow_7 tn_n z0 z1 z2 zs) (fun z0 z1 z2 zs => ih z0 z1 z2 zs) _ _ _
set_option maxHeartbeats 4000000 in
set_option maxRecDepth 20000 in
theorem b_X4_bestCapNow {E : tn_E} {G : tn_G} (g : tn_Ok E G cX4_bestCapNow RX4 7 (tn_rm 5 128)) (o : tn_Om E G (some .int))   (σ : tn_M) : tn_V E G tn_ie 0 [(0, .ref (tn_ad E 0))] [] σ (f_X4_bestCapNow σ) := by
  unfold f_X4_bestCapNow
  refine tr_iconst (v := (-1)) g 1 dX4_bestCapNow_0 rfl rfl ?_
  refine tr_istore_n (lv' := [(1, .int (-1)), (0, .ref (tn_ad E 0))]) g 2 dX4_bestCapNow_1 rfl rfl (by decide) rfl ?_
  refine tr_lconst (v := 0) g 3 dX4_bestCapNow_2 rfl rfl ?_
  refine tr_lstore_n (lv' := [(2, .long 0), (1, .int (-1)), (0, .ref (tn_ad E 0))]) g 4 dX4_bestCapNow_3 rfl rfl (by decide) rfl ?_
  refine tr_iconst (v := 0) g 5 dX4_bestCapNow_4 rfl rfl ?_
  refine tr_istore (lv' := [(4, .int 0), (2, .long 0), (1, .int (-1)), (0, .ref (tn_ad E 0))]) g 7 dX4_bestCapNow_5 rfl (by decide) rfl ?_
  refine tr_sub [3, 2, 1, 0] (lv' := [(0, .ref (tn_ad E 0)), (1, .int (-1)), (2, .long 0), (4, .int 0)]) rfl ?_
  exact b_X4_bestCapNow_7 g o  tn_fuel _ _ _ _
theorem ok_X4_bestCapNow {E : tn_E} {l : Launch}    {σ : tn_M} {r : Int32} {σ' : tn_M} (h : f_X4_bestCapNow  σ = some (r, σ')) : tn_C E l yX4_bestCapNow cX4_bestCapNow 7 (some .int) (tn_rm 5 128) [.ref (tn_ad E 0)] σ (tn_ie r) σ' :=
  tn_met (by decide) (Nat.le_of_ble_eq_true rfl) (fun G _ g o => b_X4_bestCapNow g o   σ) h
theorem yy_X4_bestCapNow : tn_Yv RX4 yX4_bestCapNow cX4_bestCapNow 7 (some .int) 0 := ⟨wd_544, wd_543, wd_20, wd_65, by decide, by decide, by decide +kernel⟩
theorem kv_X4_bestCapNow {E : tn_E} {G : tn_G} {cc : ByteArray} {own : String} {nL : Nat} {R : Room} {ρ : Type} {enc : ρ → Option Value} {pc : Nat} {lv : List (Nat × Value)} {st : List Value} {σ : tn_M} {kk : Int32 → tn_M → Option (ρ × tn_M)} {i : Nat}   (g : tn_Ok E G cc own nL R)  (hw : Cond.methodLink own i yX4_bestCapNow ∈ tn_T) (hroom : 6 ≤ R.frames ∧ 154 ≤ R.locals) (hW : (st.map fun v => v.category).sum ≤ 8) (n : Nat) (hd : decode cc pc = .ok (.invokevirtual i, 3)) (hn : pc + 3 = n) (k : ∀ r σ1, tn_V E G enc n lv (.int r :: st) σ1 (kk r σ1)) : tn_V E G enc pc lv (.ref (tn_ad E 0) :: st) σ (tn_bd (f_X4_bestCapNow  σ) kk) :=
  tr_callV (As := []) (enc1 := tn_ie) g yy_X4_bestCapNow hw (ci := 4) rfl (by decide) rfl (fun r σ1 h => ok_X4_bestCapNow   h) ⟨rfl, rfl⟩ ⟨hroom.1, by have h2 := hroom.2; show 8 + (7 + 11) + 128 ≤ R.locals; omega⟩ rfl rfl hW n hd hn k
/-! X4_bestCap -/
def F_X4_bestCap_41   (σ : tn_M) : Option (Int64 × tn_M) :=
  tn_bd (f_X4_refused (-3) σ) fun r2 σ1 =>
  some (r2, σ1)
def F_X4_bestCap_9   (σ : tn_M) : Option (Int64 × tn_M) :=
  tn_bd (f_X4_refused (-2) σ) fun r2 σ1 =>
  some (r2, σ1)
def f_X4_bestCap  (a1 : Int32) (σ : tn_M) : Option (Int64 × tn_M) :=
  if a1 < 0 then
    F_X4_bestCap_9 σ
  else
    if a1 ≤ 2 then
      tn_bd (f_X4_bestCapNow σ) fun r2 σ1 =>
      if a1 = 2 then
        some ((Int32.toInt64 r2), σ1)
      else
        if r2 = (-1) then
          F_X4_bestCap_41 σ1
        else
          tn_bd (f_X4_restsUnder r2 σ1) fun r4 σ3 =>
          if r4 = 0 then
            F_X4_bestCap_41 σ3
          else
            tn_bd (f_X0_together σ3) fun r6 σ5 =>
            tn_bd (f_X4_fraction r6 a1 σ5) fun r8 σ7 =>
            some (r8, σ7)
    else
      F_X4_bestCap_9 σ
set_option maxHeartbeats 4000000 in
set_option maxRecDepth 20000 in
theorem b_X4_bestCap_41 {E : tn_E} {G : tn_G} (g : tn_Ok E G cX4_bestCap RX4 3 (tn_rm 6 154)) (o : tn_Om E G (some .long))   (σ : tn_M) : tn_V E G tn_le 41 [] [] σ (F_X4_bestCap_41 σ) := by
  unfold F_X4_bestCap_41
  refine tr_bipush (v := (-3)) g 43 dX4_bestCap_41 rfl rfl ?_
  refine kv_X4_refused g wd_407 ⟨Nat.le_of_ble_eq_true rfl, Nat.le_of_ble_eq_true rfl⟩ (Nat.le_of_ble_eq_true rfl) 46 dX4_bestCap_43 rfl (fun r2 σ1 => ?_)
  exact tr_lret g o dX4_bestCap_46
set_option maxHeartbeats 4000000 in
set_option maxRecDepth 20000 in
theorem b_X4_bestCap_9 {E : tn_E} {G : tn_G} (g : tn_Ok E G cX4_bestCap RX4 3 (tn_rm 6 154)) (o : tn_Om E G (some .long))   (σ : tn_M) : tn_V E G tn_le 9 [] [] σ (F_X4_bestCap_9 σ) := by
  unfold F_X4_bestCap_9
  refine tr_bipush (v := (-2)) g 11 dX4_bestCap_9 rfl rfl ?_
  refine kv_X4_refused g wd_407 ⟨Nat.le_of_ble_eq_true rfl, Nat.le_of_ble_eq_true rfl⟩ (Nat.le_of_ble_eq_true rfl) 14 dX4_bestCap_11 rfl (fun r2 σ1 => ?_)
  exact tr_lret g o dX4_bestCap_14
set_option maxHeartbeats 4000000 in
set_option maxRecDepth 20000 in
theorem b_X4_bestCap {E : tn_E} {G : tn_G} (g : tn_Ok E G cX4_bestCap RX4 3 (tn_rm 6 154)) (o : tn_Om E G (some .long))  (a1 : Int32) (σ : tn_M) : tn_V E G tn_le 0 [(0, .ref (tn_ad E 0)), (1, .int a1)] [] σ (f_X4_bestCap a1 σ) := by
  unfold f_X4_bestCap
  refine tr_iload_n g 1 1 dX4_bestCap_0 rfl rfl rfl ?_
  refine tr_if_lt g 9 4 dX4_bestCap_1 rfl rfl ?_ ?_
  · refine tr_sub [] (lv' := []) rfl ?_
    exact b_X4_bestCap_9 g o  _
  · refine tr_iload_n g 1 5 dX4_bestCap_4 rfl rfl rfl ?_
    refine tr_iconst (v := 2) g 6 dX4_bestCap_5 rfl rfl ?_
    refine tr_icmp_le g 15 9 dX4_bestCap_6 rfl rfl ?_ ?_
    · refine tr_aload_n g 0 16 dX4_bestCap_15 rfl rfl rfl ?_
      refine kv_X4_bestCapNow g wd_541 ⟨Nat.le_of_ble_eq_true rfl, Nat.le_of_ble_eq_true rfl⟩ (Nat.le_of_ble_eq_true rfl) 19 dX4_bestCap_16 rfl (fun r2 σ1 => ?_)
      refine tr_istore_n (lv' := [(2, .int r2), (0, .ref (tn_ad E 0)), (1, .int a1)]) g 20 dX4_bestCap_19 rfl rfl (by decide) rfl ?_
      refine tr_iload_n g 2 21 dX4_bestCap_20 rfl rfl rfl ?_
      refine tr_iconst (v := 2) g 22 dX4_bestCap_21 rfl rfl ?_
      refine tr_icmp_ne g 28 25 dX4_bestCap_22 rfl rfl ?_ ?_
      · refine tr_iload_n g 0 29 dX4_bestCap_28 rfl rfl rfl ?_
        refine tr_iconst (v := (-1)) g 30 dX4_bestCap_29 rfl rfl ?_
        refine tr_icmp_eq g 41 33 dX4_bestCap_30 rfl rfl ?_ ?_
        · refine tr_sub [] (lv' := []) rfl ?_
          exact b_X4_bestCap_41 g o  _
        · refine tr_aload_n g 1 34 dX4_bestCap_33 rfl rfl rfl ?_
          refine tr_iload_n g 0 35 dX4_bestCap_34 rfl rfl rfl ?_
          refine kv_X4_restsUnder g wd_545 ⟨Nat.le_of_ble_eq_true rfl, Nat.le_of_ble_eq_true rfl⟩ (Nat.le_of_ble_eq_true rfl) 38 dX4_bestCap_35 rfl (fun r4 σ3 => ?_)
          refine tr_if_ne g 47 41 dX4_bestCap_38 rfl rfl ?_ ?_
          · refine tr_aload_n g 1 48 dX4_bestCap_47 rfl rfl rfl ?_
            refine gf_X4_2 g wd_227 51 dX4_bestCap_48 rfl ?_
            refine kv_X0_together g wd_512 ⟨Nat.le_of_ble_eq_true rfl, Nat.le_of_ble_eq_true rfl⟩ (Nat.le_of_ble_eq_true rfl) 54 dX4_bestCap_51 rfl (fun r6 σ5 => ?_)
            refine tr_iload_n g 2 55 dX4_bestCap_54 rfl rfl rfl ?_
            refine kv_X4_fraction g wd_425 ⟨Nat.le_of_ble_eq_true rfl, Nat.le_of_ble_eq_true rfl⟩ (Nat.le_of_ble_eq_true rfl) 58 dX4_bestCap_55 rfl (fun r8 σ7 => ?_)
            exact tr_lret g o dX4_bestCap_58
          · refine tr_sub [] (lv' := []) rfl ?_
            exact b_X4_bestCap_41 g o  _
      · refine tr_iload_n g 0 26 dX4_bestCap_25 rfl rfl rfl ?_
        refine tr_i2l g 27 dX4_bestCap_26 rfl ?_
        exact tr_lret g o dX4_bestCap_27
    · refine tr_sub [] (lv' := []) rfl ?_
      exact b_X4_bestCap_9 g o  _
theorem ok_X4_bestCap {E : tn_E} {l : Launch}   (a1 : Int32) {σ : tn_M} {r : Int64} {σ' : tn_M} (h : f_X4_bestCap a1 σ = some (r, σ')) : tn_C E l yX4_bestCap cX4_bestCap 3 (some .long) (tn_rm 6 154) [.ref (tn_ad E 0), .int a1] σ (tn_le r) σ' :=
  tn_met (by decide) (Nat.le_of_ble_eq_true rfl) (fun G _ g o => b_X4_bestCap g o  a1 σ) h
theorem yy_X4_bestCap : tn_Yv RX4 yX4_bestCap cX4_bestCap 3 (some .long) 1 := ⟨wd_540, wd_538, wd_539, wd_65, by decide, by decide, by decide +kernel⟩
theorem kv_X4_bestCap {E : tn_E} {G : tn_G} {cc : ByteArray} {own : String} {nL : Nat} {R : Room} {ρ : Type} {enc : ρ → Option Value} {pc : Nat} {lv : List (Nat × Value)} {st : List Value} {σ : tn_M} {kk : Int64 → tn_M → Option (ρ × tn_M)} {i : Nat}  {a1 : Int32} (g : tn_Ok E G cc own nL R)  (hw : Cond.methodLink own i yX4_bestCap ∈ tn_T) (hroom : 7 ≤ R.frames ∧ 176 ≤ R.locals) (hW : (st.map fun v => v.category).sum ≤ 8) (n : Nat) (hd : decode cc pc = .ok (.invokevirtual i, 3)) (hn : pc + 3 = n) (k : ∀ r σ1, tn_V E G enc n lv (.long r :: st) σ1 (kk r σ1)) : tn_V E G enc pc lv (.int a1 :: .ref (tn_ad E 0) :: st) σ (tn_bd (f_X4_bestCap a1 σ) kk) :=
  tr_callV (As := [.int a1]) (enc1 := tn_le) g yy_X4_bestCap hw (ci := 4) rfl (by decide) rfl (fun r σ1 h => ok_X4_bestCap  a1 h) ⟨rfl, rfl⟩ ⟨hroom.1, by have h2 := hroom.2; show 8 + (3 + 11) + 154 ≤ R.locals; omega⟩ rfl rfl hW n hd hn k
/-! X4_edge -/
def f_X4_edge  (a1 : Int32) (σ : tn_M) : Option (Int32 × tn_M) :=
  tn_bd (f_X4_noShop a1 σ) fun r2 σ1 =>
  if r2 = 0 then
    tn_bd (f_X4_sceneNow σ1) fun _ σ3 =>
    tn_bd (f_X0_shuttingPrice a1 σ3) fun r5 σ4 =>
    tn_lt (α := Int32) (if r5 ≤ 99 then (Int64.toInt32 r5) else (-1)) fun v6 =>
    some (v6, σ4)
  else
    some ((-2), σ1)
set_option maxHeartbeats 4000000 in
set_option maxRecDepth 20000 in
theorem b_X4_edge {E : tn_E} {G : tn_G} (g : tn_Ok E G cX4_edge RX4 4 (tn_rm 4 106)) (o : tn_Om E G (some .int))  (a1 : Int32) (σ : tn_M) : tn_V E G tn_ie 0 [(0, .ref (tn_ad E 0)), (1, .int a1)] [] σ (f_X4_edge a1 σ) := by
  unfold f_X4_edge
  refine tr_aload_n g 0 1 dX4_edge_0 rfl rfl rfl ?_
  refine tr_iload_n g 1 2 dX4_edge_1 rfl rfl rfl ?_
  refine kv_X4_noShop g wd_314 ⟨Nat.le_of_ble_eq_true rfl, Nat.le_of_ble_eq_true rfl⟩ (Nat.le_of_ble_eq_true rfl) 5 dX4_edge_2 rfl (fun r2 σ1 => ?_)
  refine tr_if_eq g 11 8 dX4_edge_5 rfl rfl ?_ ?_
  · refine tr_aload_n g 0 12 dX4_edge_11 rfl rfl rfl ?_
    refine kv_X4_sceneNow g wd_354 ⟨Nat.le_of_ble_eq_true rfl, Nat.le_of_ble_eq_true rfl⟩ (Nat.le_of_ble_eq_true rfl) 15 dX4_edge_12 rfl (fun _ σ3 => ?_)
    refine tr_iload_n g 1 16 dX4_edge_15 rfl rfl rfl ?_
    refine kv_X0_shuttingPrice g wd_561 ⟨Nat.le_of_ble_eq_true rfl, Nat.le_of_ble_eq_true rfl⟩ (Nat.le_of_ble_eq_true rfl) 19 dX4_edge_16 rfl (fun r5 σ4 => ?_)
    refine tr_lstore_n (lv' := [(2, .long r5), (0, .ref (tn_ad E 0)), (1, .int a1)]) g 20 dX4_edge_19 rfl rfl (by decide) rfl ?_
    refine tr_lload_n g 0 21 dX4_edge_20 rfl rfl rfl ?_
    refine tr_ldc2 (v := 99) g wd_566 24 dX4_edge_21 rfl ?_
    refine tr_lleD (inj := fun z => Value.int z) g 34 32 28 dX4_edge_24 dX4_edge_25 rfl rfl (fun rs hj => ?_) (fun rs hj => ?_) (fun v6 => ?_)
    · refine tr_lload_n g 0 33 dX4_edge_32 rfl rfl rfl ?_
      refine tr_l2i g 34 dX4_edge_33 rfl ?_
      exact hj
    · refine tr_iconst (v := (-1)) g 29 dX4_edge_28 rfl rfl ?_
      refine tr_goto g 34 dX4_edge_29 rfl ?_
      exact hj
    · exact tr_iret g o dX4_edge_34
  · refine tr_bipush (v := (-2)) g 10 dX4_edge_8 rfl rfl ?_
    exact tr_iret g o dX4_edge_10
theorem ok_X4_edge {E : tn_E} {l : Launch}   (a1 : Int32) {σ : tn_M} {r : Int32} {σ' : tn_M} (h : f_X4_edge a1 σ = some (r, σ')) : tn_C E l yX4_edge cX4_edge 4 (some .int) (tn_rm 4 106) [.ref (tn_ad E 0), .int a1] σ (tn_ie r) σ' :=
  tn_met (by decide) (Nat.le_of_ble_eq_true rfl) (fun G _ g o => b_X4_edge g o  a1 σ) h
theorem yy_X4_edge : tn_Yv RX4 yX4_edge cX4_edge 4 (some .int) 1 := ⟨wd_560, wd_558, wd_559, wd_65, by decide, by decide, by decide +kernel⟩
theorem kv_X4_edge {E : tn_E} {G : tn_G} {cc : ByteArray} {own : String} {nL : Nat} {R : Room} {ρ : Type} {enc : ρ → Option Value} {pc : Nat} {lv : List (Nat × Value)} {st : List Value} {σ : tn_M} {kk : Int32 → tn_M → Option (ρ × tn_M)} {i : Nat}  {a1 : Int32} (g : tn_Ok E G cc own nL R)  (hw : Cond.methodLink own i yX4_edge ∈ tn_T) (hroom : 5 ≤ R.frames ∧ 129 ≤ R.locals) (hW : (st.map fun v => v.category).sum ≤ 8) (n : Nat) (hd : decode cc pc = .ok (.invokevirtual i, 3)) (hn : pc + 3 = n) (k : ∀ r σ1, tn_V E G enc n lv (.int r :: st) σ1 (kk r σ1)) : tn_V E G enc pc lv (.int a1 :: .ref (tn_ad E 0) :: st) σ (tn_bd (f_X4_edge a1 σ) kk) :=
  tr_callV (As := [.int a1]) (enc1 := tn_ie) g yy_X4_edge hw (ci := 4) rfl (by decide) rfl (fun r σ1 h => ok_X4_edge  a1 h) ⟨rfl, rfl⟩ ⟨hroom.1, by have h2 := hroom.2; show 8 + (4 + 11) + 106 ≤ R.locals; omega⟩ rfl rfl hW n hd hn k
/-! X4_always -/
def F_X4_always_15   (σ : tn_M) : Option (Int64 × tn_M) :=
  tn_bd (f_X4_refused (-2) σ) fun r2 σ1 =>
  some (r2, σ1)
def f_X4_always  (a1 : Int32) (a2 : Int32) (σ : tn_M) : Option (Int64 × tn_M) :=
  tn_bd (f_X4_noShop a1 σ) fun r2 σ1 =>
  if r2 = 0 then
    tn_bd (f_X4_noSide a2 σ1) fun r4 σ3 =>
    if r4 = 0 then
      tn_bd (f_X4_sceneNow σ3) fun _ σ5 =>
      tn_bd (f_X0_become a1 3 σ5) fun _ σ6 =>
      tn_lt (tn_si σ6 3 11 a1) fun σ7 =>
      tn_bd (f_X0_runDown σ7) fun r9 σ8 =>
      if r9 = 0 then
        tn_bd (f_X4_refused (-3) σ8) fun r22 σ21 =>
        some (r22, σ21)
      else
        tn_bd (f_X0_earning a1 σ8) fun r11 σ10 =>
        tn_bd (f_X4_sceneNow σ10) fun _ σ12 =>
        tn_bd (f_X0_runDown σ12) fun r14 σ13 =>
        if r14 = 0 then
          tn_bd (f_X4_refused (-3) σ13) fun r20 σ19 =>
          some (r20, σ19)
        else
          tn_bd (f_X0_earning a1 σ13) fun r16 σ15 =>
          tn_bd (f_X4_fraction (r11 - r16) a2 σ15) fun r18 σ17 =>
          some (r18, σ17)
    else
      F_X4_always_15 σ3
  else
    F_X4_always_15 σ1
set_option maxHeartbeats 4000000 in
set_option maxRecDepth 20000 in
theorem b_X4_always_15 {E : tn_E} {G : tn_G} (g : tn_Ok E G cX4_always RX4 6 (tn_rm 4 106)) (o : tn_Om E G (some .long))   (σ : tn_M) : tn_V E G tn_le 15 [] [] σ (F_X4_always_15 σ) := by
  unfold F_X4_always_15
  refine tr_bipush (v := (-2)) g 17 dX4_always_15 rfl rfl ?_
  refine kv_X4_refused g wd_407 ⟨Nat.le_of_ble_eq_true rfl, Nat.le_of_ble_eq_true rfl⟩ (Nat.le_of_ble_eq_true rfl) 20 dX4_always_17 rfl (fun r2 σ1 => ?_)
  exact tr_lret g o dX4_always_20
set_option maxHeartbeats 4000000 in
set_option maxRecDepth 20000 in
theorem b_X4_always {E : tn_E} {G : tn_G} (g : tn_Ok E G cX4_always RX4 6 (tn_rm 4 106)) (o : tn_Om E G (some .long))  (a1 : Int32) (a2 : Int32) (σ : tn_M) : tn_V E G tn_le 0 [(0, .ref (tn_ad E 0)), (1, .int a1), (2, .int a2)] [] σ (f_X4_always a1 a2 σ) := by
  unfold f_X4_always
  refine tr_aload_n g 0 1 dX4_always_0 rfl rfl rfl ?_
  refine tr_iload_n g 1 2 dX4_always_1 rfl rfl rfl ?_
  refine kv_X4_noShop g wd_314 ⟨Nat.le_of_ble_eq_true rfl, Nat.le_of_ble_eq_true rfl⟩ (Nat.le_of_ble_eq_true rfl) 5 dX4_always_2 rfl (fun r2 σ1 => ?_)
  refine tr_if_ne g 15 8 dX4_always_5 rfl rfl ?_ ?_
  · refine tr_sub [] (lv' := []) rfl ?_
    exact b_X4_always_15 g o  _
  · refine tr_iload_n g 2 9 dX4_always_8 rfl rfl rfl ?_
    refine kv_X4_noSide g wd_404 ⟨Nat.le_of_ble_eq_true rfl, Nat.le_of_ble_eq_true rfl⟩ (Nat.le_of_ble_eq_true rfl) 12 dX4_always_9 rfl (fun r4 σ3 => ?_)
    refine tr_if_eq g 21 15 dX4_always_12 rfl rfl ?_ ?_
    · refine tr_aload_n g 0 22 dX4_always_21 rfl rfl rfl ?_
      refine kv_X4_sceneNow g wd_354 ⟨Nat.le_of_ble_eq_true rfl, Nat.le_of_ble_eq_true rfl⟩ (Nat.le_of_ble_eq_true rfl) 25 dX4_always_22 rfl (fun _ σ5 => ?_)
      refine tr_astore_n (lv' := [(3, .ref (tn_ad E 3)), (0, .ref (tn_ad E 0)), (1, .int a1), (2, .int a2)]) g 26 dX4_always_25 rfl rfl (by decide) rfl ?_
      refine tr_aload_n g 0 27 dX4_always_26 rfl rfl rfl ?_
      refine tr_iload_n g 2 28 dX4_always_27 rfl rfl rfl ?_
      refine tr_iconst (v := 3) g 29 dX4_always_28 rfl rfl ?_
      refine kv_X0_become g wd_571 ⟨Nat.le_of_ble_eq_true rfl, Nat.le_of_ble_eq_true rfl⟩ (Nat.le_of_ble_eq_true rfl) 32 dX4_always_29 rfl (fun _ σ6 => ?_)
      refine tr_aload_n g 0 33 dX4_always_32 rfl rfl rfl ?_
      refine tr_iload_n g 2 34 dX4_always_33 rfl rfl rfl ?_
      refine pf_X0_11 g wd_171 37 dX4_always_34 rfl (fun σ7 => ?_)
      refine tr_aload_n g 0 38 dX4_always_37 rfl rfl rfl ?_
      refine kv_X0_runDown g wd_463 ⟨Nat.le_of_ble_eq_true rfl, Nat.le_of_ble_eq_true rfl⟩ (Nat.le_of_ble_eq_true rfl) 41 dX4_always_38 rfl (fun r9 σ8 => ?_)
      refine tr_if_ne g 50 44 dX4_always_41 rfl rfl ?_ ?_
      · refine tr_aload_n g 0 51 dX4_always_50 rfl rfl rfl ?_
        refine tr_iload_n g 2 52 dX4_always_51 rfl rfl rfl ?_
        refine kv_X0_earning g wd_411 ⟨Nat.le_of_ble_eq_true rfl, Nat.le_of_ble_eq_true rfl⟩ (Nat.le_of_ble_eq_true rfl) 55 dX4_always_52 rfl (fun r11 σ10 => ?_)
        refine tr_lstore (lv' := [(4, .long r11), (3, .ref (tn_ad E 3)), (0, .ref (tn_ad E 0)), (1, .int a1), (2, .int a2)]) g 57 dX4_always_55 rfl (by decide) rfl ?_
        refine tr_aload_n g 2 58 dX4_always_57 rfl rfl rfl ?_
        refine kv_X4_sceneNow g wd_354 ⟨Nat.le_of_ble_eq_true rfl, Nat.le_of_ble_eq_true rfl⟩ (Nat.le_of_ble_eq_true rfl) 61 dX4_always_58 rfl (fun _ σ12 => ?_)
        refine tr_astore_n (lv' := [(3, .ref (tn_ad E 3)), (4, .long r11), (0, .ref (tn_ad E 0)), (1, .int a1), (2, .int a2)]) g 62 dX4_always_61 rfl rfl (by decide) rfl ?_
        refine tr_aload_n g 0 63 dX4_always_62 rfl rfl rfl ?_
        refine kv_X0_runDown g wd_463 ⟨Nat.le_of_ble_eq_true rfl, Nat.le_of_ble_eq_true rfl⟩ (Nat.le_of_ble_eq_true rfl) 66 dX4_always_63 rfl (fun r14 σ13 => ?_)
        refine tr_if_ne g 75 69 dX4_always_66 rfl rfl ?_ ?_
        · refine tr_lload g 1 77 dX4_always_75 rfl rfl ?_
          refine tr_aload_n g 0 78 dX4_always_77 rfl rfl rfl ?_
          refine tr_iload_n g 3 79 dX4_always_78 rfl rfl rfl ?_
          refine kv_X0_earning g wd_411 ⟨Nat.le_of_ble_eq_true rfl, Nat.le_of_ble_eq_true rfl⟩ (Nat.le_of_ble_eq_true rfl) 82 dX4_always_79 rfl (fun r16 σ15 => ?_)
          refine tr_lsub g 83 dX4_always_82 rfl ?_
          refine tr_iload_n g 4 84 dX4_always_83 rfl rfl rfl ?_
          refine kv_X4_fraction g wd_425 ⟨Nat.le_of_ble_eq_true rfl, Nat.le_of_ble_eq_true rfl⟩ (Nat.le_of_ble_eq_true rfl) 87 dX4_always_84 rfl (fun r18 σ17 => ?_)
          exact tr_lret g o dX4_always_87
        · refine tr_bipush (v := (-3)) g 71 dX4_always_69 rfl rfl ?_
          refine kv_X4_refused g wd_407 ⟨Nat.le_of_ble_eq_true rfl, Nat.le_of_ble_eq_true rfl⟩ (Nat.le_of_ble_eq_true rfl) 74 dX4_always_71 rfl (fun r20 σ19 => ?_)
          exact tr_lret g o dX4_always_74
      · refine tr_bipush (v := (-3)) g 46 dX4_always_44 rfl rfl ?_
        refine kv_X4_refused g wd_407 ⟨Nat.le_of_ble_eq_true rfl, Nat.le_of_ble_eq_true rfl⟩ (Nat.le_of_ble_eq_true rfl) 49 dX4_always_46 rfl (fun r22 σ21 => ?_)
        exact tr_lret g o dX4_always_49
    · refine tr_sub [] (lv' := []) rfl ?_
      exact b_X4_always_15 g o  _
theorem ok_X4_always {E : tn_E} {l : Launch}   (a1 : Int32) (a2 : Int32) {σ : tn_M} {r : Int64} {σ' : tn_M} (h : f_X4_always a1 a2 σ = some (r, σ')) : tn_C E l yX4_always cX4_always 6 (some .long) (tn_rm 4 106) [.ref (tn_ad E 0), .int a1, .int a2] σ (tn_le r) σ' :=
  tn_met (by decide) (Nat.le_of_ble_eq_true rfl) (fun G _ g o => b_X4_always g o  a1 a2 σ) h
theorem yy_X4_always : tn_Yv RX4 yX4_always cX4_always 6 (some .long) 2 := ⟨wd_570, wd_568, wd_569, wd_65, by decide, by decide, by decide +kernel⟩
theorem kv_X4_always {E : tn_E} {G : tn_G} {cc : ByteArray} {own : String} {nL : Nat} {R : Room} {ρ : Type} {enc : ρ → Option Value} {pc : Nat} {lv : List (Nat × Value)} {st : List Value} {σ : tn_M} {kk : Int64 → tn_M → Option (ρ × tn_M)} {i : Nat}  {a1 : Int32} {a2 : Int32} (g : tn_Ok E G cc own nL R)  (hw : Cond.methodLink own i yX4_always ∈ tn_T) (hroom : 5 ≤ R.frames ∧ 131 ≤ R.locals) (hW : (st.map fun v => v.category).sum ≤ 8) (n : Nat) (hd : decode cc pc = .ok (.invokevirtual i, 3)) (hn : pc + 3 = n) (k : ∀ r σ1, tn_V E G enc n lv (.long r :: st) σ1 (kk r σ1)) : tn_V E G enc pc lv (.int a2 :: .int a1 :: .ref (tn_ad E 0) :: st) σ (tn_bd (f_X4_always a1 a2 σ) kk) :=
  tr_callV (As := [.int a1, .int a2]) (enc1 := tn_le) g yy_X4_always hw (ci := 4) rfl (by decide) rfl (fun r σ1 h => ok_X4_always  a1 a2 h) ⟨rfl, rfl⟩ ⟨hroom.1, by have h2 := hroom.2; show 8 + (6 + 11) + 106 ≤ R.locals; omega⟩ rfl rfl hW n hd hn k
/-! X4_turn -/
def f_X4_turn  (a1 : Int32) (a2 : Int32) (σ : tn_M) : Option (Int32 × tn_M) :=
  if a1 < 0 then
    some ((-2), σ)
  else
    if 6 ≤ a1 then
      some ((-2), σ)
    else
      if a2 < 0 then
        some ((-2), σ)
      else
        if a2 < 32 then
          tn_ck a1 6 <|
          tn_lt (α := Int32) (σ.1 8 (tn_x a1)) fun w1 =>
          tn_ck a1 6 <|
          tn_lt (tn_si σ 8 (tn_x a1) a2) fun σ2 =>
          some (w1, σ2)
        else
          some ((-2), σ)
set_option maxHeartbeats 4000000 in
set_option maxRecDepth 20000 in
theorem b_X4_turn {E : tn_E} {G : tn_G} (g : tn_Ok E G cX4_turn RX4 4 (tn_rm 0 0)) (o : tn_Om E G (some .int))  (a1 : Int32) (a2 : Int32) (σ : tn_M) : tn_V E G tn_ie 0 [(0, .ref (tn_ad E 0)), (1, .int a1), (2, .int a2)] [] σ (f_X4_turn a1 a2 σ) := by
  unfold f_X4_turn
  refine tr_iload_n g 1 1 dX4_turn_0 rfl rfl rfl ?_
  refine tr_if_lt g 20 4 dX4_turn_1 rfl rfl ?_ ?_
  · refine tr_bipush (v := (-2)) g 22 dX4_turn_20 rfl rfl ?_
    exact tr_iret g o dX4_turn_22
  · refine tr_iload_n g 1 5 dX4_turn_4 rfl rfl rfl ?_
    refine tr_bipush (v := 6) g 7 dX4_turn_5 rfl rfl ?_
    refine tr_icmp_ge g 20 10 dX4_turn_7 rfl rfl ?_ ?_
    · refine tr_bipush (v := (-2)) g 22 dX4_turn_20 rfl rfl ?_
      exact tr_iret g o dX4_turn_22
    · refine tr_iload_n g 2 11 dX4_turn_10 rfl rfl rfl ?_
      refine tr_if_lt g 20 14 dX4_turn_11 rfl rfl ?_ ?_
      · refine tr_bipush (v := (-2)) g 22 dX4_turn_20 rfl rfl ?_
        exact tr_iret g o dX4_turn_22
      · refine tr_iload_n g 2 15 dX4_turn_14 rfl rfl rfl ?_
        refine tr_bipush (v := 32) g 17 dX4_turn_15 rfl rfl ?_
        refine tr_icmp_lt g 23 20 dX4_turn_17 rfl rfl ?_ ?_
        · refine tr_aload_n g 0 24 dX4_turn_23 rfl rfl rfl ?_
          refine gf_X4_6 g wd_231 27 dX4_turn_24 rfl ?_
          refine tr_iload_n g 1 28 dX4_turn_27 rfl rfl rfl ?_
          refine tr_iald (N := 6) g 29 rfl rfl dX4_turn_28 rfl ?_
          refine tr_lti (fun w1 => ?_)
          refine tr_istore_n (lv' := [(3, .int w1), (0, .ref (tn_ad E 0)), (1, .int a1), (2, .int a2)]) g 30 dX4_turn_29 rfl rfl (by decide) rfl ?_
          refine tr_aload_n g 1 31 dX4_turn_30 rfl rfl rfl ?_
          refine gf_X4_6 g wd_231 34 dX4_turn_31 rfl ?_
          refine tr_iload_n g 2 35 dX4_turn_34 rfl rfl rfl ?_
          refine tr_iload_n g 3 36 dX4_turn_35 rfl rfl rfl ?_
          refine tr_iast (N := 6) g 37 rfl rfl dX4_turn_36 rfl (fun σ2 => ?_)
          refine tr_iload_n g 0 38 dX4_turn_37 rfl rfl rfl ?_
          exact tr_iret g o dX4_turn_38
        · refine tr_bipush (v := (-2)) g 22 dX4_turn_20 rfl rfl ?_
          exact tr_iret g o dX4_turn_22
theorem ok_X4_turn {E : tn_E} {l : Launch}   (a1 : Int32) (a2 : Int32) {σ : tn_M} {r : Int32} {σ' : tn_M} (h : f_X4_turn a1 a2 σ = some (r, σ')) : tn_C E l yX4_turn cX4_turn 4 (some .int) (tn_rm 0 0) [.ref (tn_ad E 0), .int a1, .int a2] σ (tn_ie r) σ' :=
  tn_met (by decide) (Nat.le_of_ble_eq_true rfl) (fun G _ g o => b_X4_turn g o  a1 a2 σ) h
theorem yy_X4_turn : tn_Yv RX4 yX4_turn cX4_turn 4 (some .int) 2 := ⟨wd_575, wd_573, wd_574, wd_65, by decide, by decide, by decide +kernel⟩
theorem kv_X4_turn {E : tn_E} {G : tn_G} {cc : ByteArray} {own : String} {nL : Nat} {R : Room} {ρ : Type} {enc : ρ → Option Value} {pc : Nat} {lv : List (Nat × Value)} {st : List Value} {σ : tn_M} {kk : Int32 → tn_M → Option (ρ × tn_M)} {i : Nat}  {a1 : Int32} {a2 : Int32} (g : tn_Ok E G cc own nL R)  (hw : Cond.methodLink own i yX4_turn ∈ tn_T) (hroom : 1 ≤ R.frames ∧ 23 ≤ R.locals) (hW : (st.map fun v => v.category).sum ≤ 8) (n : Nat) (hd : decode cc pc = .ok (.invokevirtual i, 3)) (hn : pc + 3 = n) (k : ∀ r σ1, tn_V E G enc n lv (.int r :: st) σ1 (kk r σ1)) : tn_V E G enc pc lv (.int a2 :: .int a1 :: .ref (tn_ad E 0) :: st) σ (tn_bd (f_X4_turn a1 a2 σ) kk) :=
  tr_callV (As := [.int a1, .int a2]) (enc1 := tn_ie) g yy_X4_turn hw (ci := 4) rfl (by decide) rfl (fun r σ1 h => ok_X4_turn  a1 a2 h) ⟨rfl, rfl⟩ ⟨hroom.1, by have h2 := hroom.2; show 8 + (4 + 11) + 0 ≤ R.locals; omega⟩ rfl rfl hW n hd hn k
/-! X4_keeps -/
def F_X4_keeps_47  (x1 : Int32) (x3 : Int32) (x4 : Int32) (σ : tn_M) : Option (Int32 × tn_M) :=
  tn_lt (α := Int32) (if x1 = 0 then x3 else x4) fun v1 =>
  some (v1, σ)
def F_X4_keeps_19  : Nat → Int32 → Int32 → tn_M → Option (Int32 × tn_M)
  | 0, _, _, _ => none
  | tn_n + 1, x1, x3, σ => 
    if 6 ≤ x3 then
      some ((-1), σ)
    else
      tn_ck x3 6 <|
      tn_bd (f_X0_openTillNine (σ.1 8 (tn_x x3)) σ) fun _ σ1 =>
      tn_bd (f_X0_firstGainer σ1) fun r3 σ2 =>
      if r3 = (-1) then
        F_X4_keeps_19 tn_n x1 (x3 + 1) σ2
      else
        F_X4_keeps_47 x1 x3 r3 σ2
def f_X4_keeps  (a1 : Int32) (σ : tn_M) : Option (Int32 × tn_M) :=
  if a1 < 0 then
    some ((-2), σ)
  else
    if a1 ≤ 1 then
      tn_bd (f_X4_sceneNow σ) fun _ σ1 =>
      F_X4_keeps_19 tn_fuel a1 0 σ1
    else
      some ((-2), σ)
set_option maxHeartbeats 4000000 in
set_option maxRecDepth 20000 in
theorem b_X4_keeps_47 {E : tn_E} {G : tn_G} (g : tn_Ok E G cX4_keeps RX4 5 (tn_rm 4 106)) (o : tn_Om E G (some .int))  (x1 : Int32) (x3 : Int32) (x4 : Int32) (σ : tn_M) : tn_V E G tn_ie 47 [(1, .int x1), (3, .int x3), (4, .int x4)] [] σ (F_X4_keeps_47 x1 x3 x4 σ) := by
  unfold F_X4_keeps_47
  refine tr_iload_n g 0 48 dX4_keeps_47 rfl rfl rfl ?_
  refine tr_if_neD (inj := fun z => Value.int z) g 57 55 51 dX4_keeps_48 rfl rfl (fun rs hj => ?_) (fun rs hj => ?_) (fun v1 => ?_)
  · refine tr_iload g 2 57 dX4_keeps_55 rfl rfl ?_
    exact hj
  · refine tr_iload_n g 1 52 dX4_keeps_51 rfl rfl rfl ?_
    refine tr_goto g 57 dX4_keeps_52 rfl ?_
    exact hj
  · exact tr_iret g o dX4_keeps_57
set_option maxHeartbeats 4000000 in
set_option maxRecDepth 20000 in
theorem b_X4_keeps_19 {E : tn_E} {G : tn_G} (g : tn_Ok E G cX4_keeps RX4 5 (tn_rm 4 106)) (o : tn_Om E G (some .int))  : ∀ (n : Nat) (x1 : Int32) (x3 : Int32) (σ : tn_M), tn_V E G tn_ie 19 [(0, .ref (tn_ad E 0)), (1, .int x1), (2, .ref (tn_ad E 3)), (3, .int x3)] [] σ (F_X4_keeps_19 n x1 x3 σ) := by
  intro n
  induction n with
  | zero => intros; exact tr_none
  | succ tn_n ih =>
    intro x1 x3 σ
    rw [F_X4_keeps_19]
    refine tr_iload_n g 3 20 dX4_keeps_19 rfl rfl rfl ?_
    refine tr_bipush (v := 6) g 22 dX4_keeps_20 rfl rfl ?_
    refine tr_icmp_ge g 64 25 dX4_keeps_22 rfl rfl ?_ ?_
    · refine tr_iconst (v := (-1)) g 65 dX4_keeps_64 rfl rfl ?_
      exact tr_iret g o dX4_keeps_65
    · refine tr_aload_n g 2 26 dX4_keeps_25 rfl rfl rfl ?_
      refine tr_aload_n g 0 27 dX4_keeps_26 rfl rfl rfl ?_
      refine gf_X4_6 g wd_231 30 dX4_keeps_27 rfl ?_
      refine tr_iload_n g 3 31 dX4_keeps_30 rfl rfl rfl ?_
      refine tr_iald (N := 6) g 32 rfl rfl dX4_keeps_31 rfl ?_
      refine kv_X0_openTillNine g wd_549 ⟨Nat.le_of_ble_eq_true rfl, Nat.le_of_ble_eq_true rfl⟩ (Nat.le_of_ble_eq_true rfl) 35 dX4_keeps_32 rfl (fun _ σ1 => ?_)
      refine tr_aload_n g 2 36 dX4_keeps_35 rfl rfl rfl ?_
      refine kv_X0_firstGainer g wd_488 ⟨Nat.le_of_ble_eq_true rfl, Nat.le_of_ble_eq_true rfl⟩ (Nat.le_of_ble_eq_true rfl) 39 dX4_keeps_36 rfl (fun r3 σ2 => ?_)
      refine tr_istore (lv' := [(4, .int r3), (0, .ref (tn_ad E 0)), (1, .int x1), (2, .ref (tn_ad E 3)), (3, .int x3)]) g 41 dX4_keeps_39 rfl (by decide) rfl ?_
      refine tr_iload g 0 43 dX4_keeps_41 rfl rfl ?_
      refine tr_iconst (v := (-1)) g 44 dX4_keeps_43 rfl rfl ?_
      refine tr_icmp_eq g 58 47 dX4_keeps_44 rfl rfl ?_ ?_
      · refine tr_iinc (lv' := [(3, .int (x3 + 1)), (4, .int r3), (0, .ref (tn_ad E 0)), (1, .int x1), (2, .ref (tn_ad E 3))]) (x := (x3 + 1)) g 4 61 dX4_keeps_58 rfl rfl rfl (by decide) rfl ?_
        refine tr_goto g 19 dX4_keeps_61 rfl ?_
        refine tr_sub [2, 3, 4, 0] (lv' := [(0, .ref (tn_ad E 0)), (1, .int x1), (2, .ref (tn_ad E 3)), (3, .int (x3 + 1))]) rfl ?_
        exact ih _ _ _
      · refine tr_sub [2, 4, 0] (lv' := [(1, .int x1), (3, .int x3), (4, .int r3)]) rfl ?_
        exact b_X4_keeps_47 g o  _ _ _ _
set_option maxHeartbeats 4000000 in
set_option maxRecDepth 20000 in
theorem b_X4_keeps {E : tn_E} {G : tn_G} (g : tn_Ok E G cX4_keeps RX4 5 (tn_rm 4 106)) (o : tn_Om E G (some .int))  (a1 : Int32) (σ : tn_M) : tn_V E G tn_ie 0 [(0, .ref (tn_ad E 0)), (1, .int a1)] [] σ (f_X4_keeps a1 σ) := by
  unfold f_X4_keeps
  refine tr_iload_n g 1 1 dX4_keeps_0 rfl rfl rfl ?_
  refine tr_if_lt g 9 4 dX4_keeps_1 rfl rfl ?_ ?_
  · refine tr_bipush (v := (-2)) g 11 dX4_keeps_9 rfl rfl ?_
    exact tr_iret g o dX4_keeps_11
  · refine tr_iload_n g 1 5 dX4_keeps_4 rfl rfl rfl ?_
    refine tr_iconst (v := 1) g 6 dX4_keeps_5 rfl rfl ?_
    refine tr_icmp_le g 12 9 dX4_keeps_6 rfl rfl ?_ ?_
    · refine tr_aload_n g 0 13 dX4_keeps_12 rfl rfl rfl ?_
      refine kv_X4_sceneNow g wd_354 ⟨Nat.le_of_ble_eq_true rfl, Nat.le_of_ble_eq_true rfl⟩ (Nat.le_of_ble_eq_true rfl) 16 dX4_keeps_13 rfl (fun _ σ1 => ?_)
      refine tr_astore_n (lv' := [(2, .ref (tn_ad E 3)), (0, .ref (tn_ad E 0)), (1, .int a1)]) g 17 dX4_keeps_16 rfl rfl (by decide) rfl ?_
      refine tr_iconst (v := 0) g 18 dX4_keeps_17 rfl rfl ?_
      refine tr_istore_n (lv' := [(3, .int 0), (2, .ref (tn_ad E 3)), (0, .ref (tn_ad E 0)), (1, .int a1)]) g 19 dX4_keeps_18 rfl rfl (by decide) rfl ?_
      refine tr_sub [2, 3, 1, 0] (lv' := [(0, .ref (tn_ad E 0)), (1, .int a1), (2, .ref (tn_ad E 3)), (3, .int 0)]) rfl ?_
      exact b_X4_keeps_19 g o  tn_fuel _ _ _
    · refine tr_bipush (v := (-2)) g 11 dX4_keeps_9 rfl rfl ?_
      exact tr_iret g o dX4_keeps_11
theorem ok_X4_keeps {E : tn_E} {l : Launch}   (a1 : Int32) {σ : tn_M} {r : Int32} {σ' : tn_M} (h : f_X4_keeps a1 σ = some (r, σ')) : tn_C E l yX4_keeps cX4_keeps 5 (some .int) (tn_rm 4 106) [.ref (tn_ad E 0), .int a1] σ (tn_ie r) σ' :=
  tn_met (by decide) (Nat.le_of_ble_eq_true rfl) (fun G _ g o => b_X4_keeps g o  a1 σ) h
theorem yy_X4_keeps : tn_Yv RX4 yX4_keeps cX4_keeps 5 (some .int) 1 := ⟨wd_579, wd_577, wd_578, wd_65, by decide, by decide, by decide +kernel⟩
theorem kv_X4_keeps {E : tn_E} {G : tn_G} {cc : ByteArray} {own : String} {nL : Nat} {R : Room} {ρ : Type} {enc : ρ → Option Value} {pc : Nat} {lv : List (Nat × Value)} {st : List Value} {σ : tn_M} {kk : Int32 → tn_M → Option (ρ × tn_M)} {i : Nat}  {a1 : Int32} (g : tn_Ok E G cc own nL R)  (hw : Cond.methodLink own i yX4_keeps ∈ tn_T) (hroom : 5 ≤ R.frames ∧ 130 ≤ R.locals) (hW : (st.map fun v => v.category).sum ≤ 8) (n : Nat) (hd : decode cc pc = .ok (.invokevirtual i, 3)) (hn : pc + 3 = n) (k : ∀ r σ1, tn_V E G enc n lv (.int r :: st) σ1 (kk r σ1)) : tn_V E G enc pc lv (.int a1 :: .ref (tn_ad E 0) :: st) σ (tn_bd (f_X4_keeps a1 σ) kk) :=
  tr_callV (As := [.int a1]) (enc1 := tn_ie) g yy_X4_keeps hw (ci := 4) rfl (by decide) rfl (fun r σ1 h => ok_X4_keeps  a1 h) ⟨rfl, rfl⟩ ⟨hroom.1, by have h2 := hroom.2; show 8 + (5 + 11) + 106 ≤ R.locals; omega⟩ rfl rfl hW n hd hn k
/-! X4_week -/
def F_X4_week_66  (x2 : Int32) (x4 : Int64) (σ : tn_M) : Option (Int64 × tn_M) :=
  tn_bd (f_X4_fraction x4 x2 σ) fun r2 σ1 =>
  some (r2, σ1)
def F_X4_week_32  : Nat → Int32 → Int32 → Int64 → Int32 → tn_M → Option (Int64 × tn_M)
  | 0, _, _, _, _, _ => none
  | tn_n + 1, x1, x2, x4, x6, σ => 
    if 6 ≤ x6 then
      F_X4_week_66 x2 x4 σ
    else
      tn_ck x6 6 <|
      tn_bd (f_X0_openTillNine (σ.1 8 (tn_x x6)) σ) fun _ σ1 =>
      tn_bd (f_X0_earning x1 σ1) fun r3 σ2 =>
      F_X4_week_32 tn_n x1 x2 (x4 + r3) (x6 + 1) σ2
def F_X4_week_15   (σ : tn_M) : Option (Int64 × tn_M) :=
  tn_bd (f_X4_refused (-2) σ) fun r2 σ1 =>
  some (r2, σ1)
def f_X4_week  (a1 : Int32) (a2 : Int32) (σ : tn_M) : Option (Int64 × tn_M) :=
  tn_bd (f_X4_noShop a1 σ) fun r2 σ1 =>
  if r2 = 0 then
    tn_bd (f_X4_noSide a2 σ1) fun r4 σ3 =>
    if r4 = 0 then
      tn_bd (f_X4_sceneNow σ3) fun _ σ5 =>
      F_X4_week_32 tn_fuel a1 a2 0 0 σ5
    else
      F_X4_week_15 σ3
  else
    F_X4_week_15 σ1
set_option maxHeartbeats 4000000 in
set_option maxRecDepth 20000 in
theorem b_X4_week_66 {E : tn_E} {G : tn_G} (g : tn_Ok E G cX4_week RX4 7 (tn_rm 4 106)) (o : tn_Om E G (some .long))  (x2 : Int32) (x4 : Int64) (σ : tn_M) : tn_V E G tn_le 66 [(2, .int x2), (4, .long x4)] [] σ (F_X4_week_66 x2 x4 σ) := by
  unfold F_X4_week_66
  refine tr_lload g 1 68 dX4_week_66 rfl rfl ?_
  refine tr_iload_n g 0 69 dX4_week_68 rfl rfl rfl ?_
  refine kv_X4_fraction g wd_425 ⟨Nat.le_of_ble_eq_true rfl, Nat.le_of_ble_eq_true rfl⟩ (Nat.le_of_ble_eq_true rfl) 72 dX4_week_69 rfl (fun r2 σ1 => ?_)
  exact tr_lret g o dX4_week_72
set_option maxHeartbeats 4000000 in
set_option maxRecDepth 20000 in
theorem b_X4_week_32 {E : tn_E} {G : tn_G} (g : tn_Ok E G cX4_week RX4 7 (tn_rm 4 106)) (o : tn_Om E G (some .long))  : ∀ (n : Nat) (x1 : Int32) (x2 : Int32) (x4 : Int64) (x6 : Int32) (σ : tn_M), tn_V E G tn_le 32 [(0, .ref (tn_ad E 0)), (1, .int x1), (2, .int x2), (3, .ref (tn_ad E 3)), (4, .long x4), (6, .int x6)] [] σ (F_X4_week_32 n x1 x2 x4 x6 σ) := by
  intro n
  induction n with
  | zero => intros; exact tr_none
  | succ tn_n ih =>
    intro x1 x2 x4 x6 σ
    rw [F_X4_week_32]
    refine tr_iload g 5 34 dX4_week_32 rfl rfl ?_
    refine tr_bipush (v := 6) g 36 dX4_week_34 rfl rfl ?_
    refine tr_icmp_ge g 66 39 dX4_week_36 rfl rfl ?_ ?_
    · refine tr_sub [2, 4] (lv' := [(2, .int x2), (4, .long x4)]) rfl ?_
      exact b_X4_week_66 g o  _ _ _
    · refine tr_aload_n g 3 40 dX4_week_39 rfl rfl rfl ?_
      refine tr_aload_n g 0 41 dX4_week_40 rfl rfl rfl ?_
      refine gf_X4_6 g wd_231 44 dX4_week_41 rfl ?_
      refine tr_iload g 5 46 dX4_week_44 rfl rfl ?_
      refine tr_iald (N := 6) g 47 rfl rfl dX4_week_46 rfl ?_
      refine kv_X0_openTillNine g wd_549 ⟨Nat.le_of_ble_eq_true rfl, Nat.le_of_ble_eq_true rfl⟩ (Nat.le_of_ble_eq_true rfl) 50 dX4_week_47 rfl (fun _ σ1 => ?_)
      refine tr_lload g 4 52 dX4_week_50 rfl rfl ?_
      refine tr_aload_n g 3 53 dX4_week_52 rfl rfl rfl ?_
      refine tr_iload_n g 1 54 dX4_week_53 rfl rfl rfl ?_
      refine kv_X0_earning g wd_411 ⟨Nat.le_of_ble_eq_true rfl, Nat.le_of_ble_eq_true rfl⟩ (Nat.le_of_ble_eq_true rfl) 57 dX4_week_54 rfl (fun r3 σ2 => ?_)
      refine tr_ladd g 58 dX4_week_57 rfl ?_
      refine tr_lstore (lv' := [(4, .long (x4 + r3)), (0, .ref (tn_ad E 0)), (1, .int x1), (2, .int x2), (3, .ref (tn_ad E 3)), (6, .int x6)]) g 60 dX4_week_58 rfl (by decide) rfl ?_
      refine tr_iinc (lv' := [(6, .int (x6 + 1)), (4, .long (x4 + r3)), (0, .ref (tn_ad E 0)), (1, .int x1), (2, .int x2), (3, .ref (tn_ad E 3))]) (x := (x6 + 1)) g 5 63 dX4_week_60 rfl rfl rfl (by decide) rfl ?_
      refine tr_goto g 32 dX4_week_63 rfl ?_
      refine tr_sub [2, 3, 4, 5, 1, 0] (lv' := [(0, .ref (tn_ad E 0)), (1, .int x1), (2, .int x2), (3, .ref (tn_ad E 3)), (4, .long (x4 + r3)), (6, .int (x6 + 1))]) rfl ?_
      exact ih _ _ _ _ _
set_option maxHeartbeats 4000000 in
set_option maxRecDepth 20000 in
theorem b_X4_week_15 {E : tn_E} {G : tn_G} (g : tn_Ok E G cX4_week RX4 7 (tn_rm 4 106)) (o : tn_Om E G (some .long))   (σ : tn_M) : tn_V E G tn_le 15 [] [] σ (F_X4_week_15 σ) := by
  unfold F_X4_week_15
  refine tr_bipush (v := (-2)) g 17 dX4_week_15 rfl rfl ?_
  refine kv_X4_refused g wd_407 ⟨Nat.le_of_ble_eq_true rfl, Nat.le_of_ble_eq_true rfl⟩ (Nat.le_of_ble_eq_true rfl) 20 dX4_week_17 rfl (fun r2 σ1 => ?_)
  exact tr_lret g o dX4_week_20
set_option maxHeartbeats 4000000 in
set_option maxRecDepth 20000 in
theorem b_X4_week {E : tn_E} {G : tn_G} (g : tn_Ok E G cX4_week RX4 7 (tn_rm 4 106)) (o : tn_Om E G (some .long))  (a1 : Int32) (a2 : Int32) (σ : tn_M) : tn_V E G tn_le 0 [(0, .ref (tn_ad E 0)), (1, .int a1), (2, .int a2)] [] σ (f_X4_week a1 a2 σ) := by
  unfold f_X4_week
  refine tr_aload_n g 0 1 dX4_week_0 rfl rfl rfl ?_
  refine tr_iload_n g 1 2 dX4_week_1 rfl rfl rfl ?_
  refine kv_X4_noShop g wd_314 ⟨Nat.le_of_ble_eq_true rfl, Nat.le_of_ble_eq_true rfl⟩ (Nat.le_of_ble_eq_true rfl) 5 dX4_week_2 rfl (fun r2 σ1 => ?_)
  refine tr_if_ne g 15 8 dX4_week_5 rfl rfl ?_ ?_
  · refine tr_sub [] (lv' := []) rfl ?_
    exact b_X4_week_15 g o  _
  · refine tr_iload_n g 2 9 dX4_week_8 rfl rfl rfl ?_
    refine kv_X4_noSide g wd_404 ⟨Nat.le_of_ble_eq_true rfl, Nat.le_of_ble_eq_true rfl⟩ (Nat.le_of_ble_eq_true rfl) 12 dX4_week_9 rfl (fun r4 σ3 => ?_)
    refine tr_if_eq g 21 15 dX4_week_12 rfl rfl ?_ ?_
    · refine tr_aload_n g 0 22 dX4_week_21 rfl rfl rfl ?_
      refine kv_X4_sceneNow g wd_354 ⟨Nat.le_of_ble_eq_true rfl, Nat.le_of_ble_eq_true rfl⟩ (Nat.le_of_ble_eq_true rfl) 25 dX4_week_22 rfl (fun _ σ5 => ?_)
      refine tr_astore_n (lv' := [(3, .ref (tn_ad E 3)), (0, .ref (tn_ad E 0)), (1, .int a1), (2, .int a2)]) g 26 dX4_week_25 rfl rfl (by decide) rfl ?_
      refine tr_lconst (v := 0) g 27 dX4_week_26 rfl rfl ?_
      refine tr_lstore (lv' := [(4, .long 0), (3, .ref (tn_ad E 3)), (0, .ref (tn_ad E 0)), (1, .int a1), (2, .int a2)]) g 29 dX4_week_27 rfl (by decide) rfl ?_
      refine tr_iconst (v := 0) g 30 dX4_week_29 rfl rfl ?_
      refine tr_istore (lv' := [(6, .int 0), (4, .long 0), (3, .ref (tn_ad E 3)), (0, .ref (tn_ad E 0)), (1, .int a1), (2, .int a2)]) g 32 dX4_week_30 rfl (by decide) rfl ?_
      refine tr_sub [3, 4, 5, 2, 1, 0] (lv' := [(0, .ref (tn_ad E 0)), (1, .int a1), (2, .int a2), (3, .ref (tn_ad E 3)), (4, .long 0), (6, .int 0)]) rfl ?_
      exact b_X4_week_32 g o  tn_fuel _ _ _ _ _
    · refine tr_sub [] (lv' := []) rfl ?_
      exact b_X4_week_15 g o  _
theorem ok_X4_week {E : tn_E} {l : Launch}   (a1 : Int32) (a2 : Int32) {σ : tn_M} {r : Int64} {σ' : tn_M} (h : f_X4_week a1 a2 σ = some (r, σ')) : tn_C E l yX4_week cX4_week 7 (some .long) (tn_rm 4 106) [.ref (tn_ad E 0), .int a1, .int a2] σ (tn_le r) σ' :=
  tn_met (by decide) (Nat.le_of_ble_eq_true rfl) (fun G _ g o => b_X4_week g o  a1 a2 σ) h
theorem yy_X4_week : tn_Yv RX4 yX4_week cX4_week 7 (some .long) 2 := ⟨wd_583, wd_581, wd_582, wd_65, by decide, by decide, by decide +kernel⟩
theorem kv_X4_week {E : tn_E} {G : tn_G} {cc : ByteArray} {own : String} {nL : Nat} {R : Room} {ρ : Type} {enc : ρ → Option Value} {pc : Nat} {lv : List (Nat × Value)} {st : List Value} {σ : tn_M} {kk : Int64 → tn_M → Option (ρ × tn_M)} {i : Nat}  {a1 : Int32} {a2 : Int32} (g : tn_Ok E G cc own nL R)  (hw : Cond.methodLink own i yX4_week ∈ tn_T) (hroom : 5 ≤ R.frames ∧ 132 ≤ R.locals) (hW : (st.map fun v => v.category).sum ≤ 8) (n : Nat) (hd : decode cc pc = .ok (.invokevirtual i, 3)) (hn : pc + 3 = n) (k : ∀ r σ1, tn_V E G enc n lv (.long r :: st) σ1 (kk r σ1)) : tn_V E G enc pc lv (.int a2 :: .int a1 :: .ref (tn_ad E 0) :: st) σ (tn_bd (f_X4_week a1 a2 σ) kk) :=
  tr_callV (As := [.int a1, .int a2]) (enc1 := tn_le) g yy_X4_week hw (ci := 4) rfl (by decide) rfl (fun r σ1 h => ok_X4_week  a1 a2 h) ⟨rfl, rfl⟩ ⟨hroom.1, by have h2 := hroom.2; show 8 + (7 + 11) + 106 ≤ R.locals; omega⟩ rfl rfl hW n hd hn k
/-! X4_sceneAfter -/
def F_X4_sceneAfter_7  : Nat → Int32 → Int32 → tn_M → Option (Unit × tn_M)
  | 0, _, _, _ => none
  | tn_n + 1, x1, x3, σ => 
    if x1 ≤ x3 then
      some ((), σ)
    else
      tn_bd (f_X0_passWeek σ) fun _ σ1 =>
      F_X4_sceneAfter_7 tn_n x1 (x3 + 1) σ1
def f_X4_sceneAfter  (a1 : Int32) (σ : tn_M) : Option (Unit × tn_M) :=
  tn_bd (f_X4_sceneNow σ) fun _ σ1 =>
  F_X4_sceneAfter_7 tn_fuel a1 0 σ1
set_option maxHeartbeats 4000000 in
set_option maxRecDepth 20000 in
theorem b_X4_sceneAfter_7 {E : tn_E} {G : tn_G} (g : tn_Ok E G cX4_sceneAfter RX4 4 (tn_rm 5 122)) (o : tn_Om E G (some (.object "TillNine$Scene")))  : ∀ (n : Nat) (x1 : Int32) (x3 : Int32) (σ : tn_M), tn_V E G (tn_re (tn_ad E 3)) 7 [(1, .int x1), (2, .ref (tn_ad E 3)), (3, .int x3)] [] σ (F_X4_sceneAfter_7 n x1 x3 σ) := by
  intro n
  induction n with
  | zero => intros; exact tr_none
  | succ tn_n ih =>
    intro x1 x3 σ
    rw [F_X4_sceneAfter_7]
    refine tr_iload_n g 2 8 dX4_sceneAfter_7 rfl rfl rfl ?_
    refine tr_iload_n g 0 9 dX4_sceneAfter_8 rfl rfl rfl ?_
    refine tr_icmp_ge g 22 12 dX4_sceneAfter_9 rfl rfl ?_ ?_
    · refine tr_aload_n g 1 23 dX4_sceneAfter_22 rfl rfl rfl ?_
      exact tr_aret g o dX4_sceneAfter_23
    · refine tr_aload_n g 1 13 dX4_sceneAfter_12 rfl rfl rfl ?_
      refine kv_X0_passWeek g wd_592 ⟨Nat.le_of_ble_eq_true rfl, Nat.le_of_ble_eq_true rfl⟩ (Nat.le_of_ble_eq_true rfl) 16 dX4_sceneAfter_13 rfl (fun _ σ1 => ?_)
      refine tr_iinc (lv' := [(3, .int (x3 + 1)), (1, .int x1), (2, .ref (tn_ad E 3))]) (x := (x3 + 1)) g 2 19 dX4_sceneAfter_16 rfl rfl rfl (by decide) rfl ?_
      refine tr_goto g 7 dX4_sceneAfter_19 rfl ?_
      refine tr_sub [1, 2, 0] (lv' := [(1, .int x1), (2, .ref (tn_ad E 3)), (3, .int (x3 + 1))]) rfl ?_
      exact ih _ _ _
set_option maxHeartbeats 4000000 in
set_option maxRecDepth 20000 in
theorem b_X4_sceneAfter {E : tn_E} {G : tn_G} (g : tn_Ok E G cX4_sceneAfter RX4 4 (tn_rm 5 122)) (o : tn_Om E G (some (.object "TillNine$Scene")))  (a1 : Int32) (σ : tn_M) : tn_V E G (tn_re (tn_ad E 3)) 0 [(0, .ref (tn_ad E 0)), (1, .int a1)] [] σ (f_X4_sceneAfter a1 σ) := by
  unfold f_X4_sceneAfter
  refine tr_aload_n g 0 1 dX4_sceneAfter_0 rfl rfl rfl ?_
  refine kv_X4_sceneNow g wd_354 ⟨Nat.le_of_ble_eq_true rfl, Nat.le_of_ble_eq_true rfl⟩ (Nat.le_of_ble_eq_true rfl) 4 dX4_sceneAfter_1 rfl (fun _ σ1 => ?_)
  refine tr_astore_n (lv' := [(2, .ref (tn_ad E 3)), (0, .ref (tn_ad E 0)), (1, .int a1)]) g 5 dX4_sceneAfter_4 rfl rfl (by decide) rfl ?_
  refine tr_iconst (v := 0) g 6 dX4_sceneAfter_5 rfl rfl ?_
  refine tr_istore_n (lv' := [(3, .int 0), (2, .ref (tn_ad E 3)), (0, .ref (tn_ad E 0)), (1, .int a1)]) g 7 dX4_sceneAfter_6 rfl rfl (by decide) rfl ?_
  refine tr_sub [3, 1, 0] (lv' := [(1, .int a1), (2, .ref (tn_ad E 3)), (3, .int 0)]) rfl ?_
  exact b_X4_sceneAfter_7 g o  tn_fuel _ _ _
theorem ok_X4_sceneAfter {E : tn_E} {l : Launch}   (a1 : Int32) {σ : tn_M} {r : Unit} {σ' : tn_M} (h : f_X4_sceneAfter a1 σ = some (r, σ')) : tn_C E l yX4_sceneAfter cX4_sceneAfter 4 (some (.object "TillNine$Scene")) (tn_rm 5 122) [.ref (tn_ad E 0), .int a1] σ ((tn_re (tn_ad E 3)) r) σ' :=
  tn_met (by decide) (Nat.le_of_ble_eq_true rfl) (fun G _ g o => b_X4_sceneAfter g o  a1 σ) h
theorem yy_X4_sceneAfter : tn_Yv RX4 yX4_sceneAfter cX4_sceneAfter 4 (some (.object "TillNine$Scene")) 1 := ⟨wd_591, wd_590, wd_22, wd_65, by decide, by decide, by decide +kernel⟩
theorem kv_X4_sceneAfter {E : tn_E} {G : tn_G} {cc : ByteArray} {own : String} {nL : Nat} {R : Room} {ρ : Type} {enc : ρ → Option Value} {pc : Nat} {lv : List (Nat × Value)} {st : List Value} {σ : tn_M} {kk : Unit → tn_M → Option (ρ × tn_M)} {i : Nat}  {a1 : Int32} (g : tn_Ok E G cc own nL R)  (hw : Cond.methodLink own i yX4_sceneAfter ∈ tn_T) (hroom : 6 ≤ R.frames ∧ 145 ≤ R.locals) (hW : (st.map fun v => v.category).sum ≤ 8) (n : Nat) (hd : decode cc pc = .ok (.invokevirtual i, 3)) (hn : pc + 3 = n) (k : ∀ r σ1, tn_V E G enc n lv (.ref (tn_ad E 3) :: st) σ1 (kk r σ1)) : tn_V E G enc pc lv (.int a1 :: .ref (tn_ad E 0) :: st) σ (tn_bd (f_X4_sceneAfter a1 σ) kk) :=
  tr_callV (As := [.int a1]) (enc1 := (tn_re (tn_ad E 3))) g yy_X4_sceneAfter hw (ci := 4) rfl (by decide) rfl (fun r σ1 h => ok_X4_sceneAfter  a1 h) ⟨rfl, rfl⟩ ⟨hroom.1, by have h2 := hroom.2; show 8 + (4 + 11) + 122 ≤ R.locals; omega⟩ rfl rfl hW n hd hn k
/-! X4_weeks -/
def f_X4_weeks  (a1 : Int32) (a2 : Int32) (σ : tn_M) : Option (Int32 × tn_M) :=
  if a1 < 0 then
    some ((-2), σ)
  else
    if 50 < a1 then
      some ((-2), σ)
    else
      if a2 < 0 then
        some ((-2), σ)
      else
        if a2 < 8 then
          tn_bd (f_X4_sceneAfter a1 σ) fun _ σ1 =>
          tn_bd (f_X0_hourOrHabit a2 σ1) fun r3 σ2 =>
          some (r3, σ2)
        else
          some ((-2), σ)
set_option maxHeartbeats 4000000 in
set_option maxRecDepth 20000 in
theorem b_X4_weeks {E : tn_E} {G : tn_G} (g : tn_Ok E G cX4_weeks RX4 3 (tn_rm 6 145)) (o : tn_Om E G (some .int))  (a1 : Int32) (a2 : Int32) (σ : tn_M) : tn_V E G tn_ie 0 [(0, .ref (tn_ad E 0)), (1, .int a1), (2, .int a2)] [] σ (f_X4_weeks a1 a2 σ) := by
  unfold f_X4_weeks
  refine tr_iload_n g 1 1 dX4_weeks_0 rfl rfl rfl ?_
  refine tr_if_lt g 20 4 dX4_weeks_1 rfl rfl ?_ ?_
  · refine tr_bipush (v := (-2)) g 22 dX4_weeks_20 rfl rfl ?_
    exact tr_iret g o dX4_weeks_22
  · refine tr_iload_n g 1 5 dX4_weeks_4 rfl rfl rfl ?_
    refine tr_bipush (v := 50) g 7 dX4_weeks_5 rfl rfl ?_
    refine tr_icmp_gt g 20 10 dX4_weeks_7 rfl rfl ?_ ?_
    · refine tr_bipush (v := (-2)) g 22 dX4_weeks_20 rfl rfl ?_
      exact tr_iret g o dX4_weeks_22
    · refine tr_iload_n g 2 11 dX4_weeks_10 rfl rfl rfl ?_
      refine tr_if_lt g 20 14 dX4_weeks_11 rfl rfl ?_ ?_
      · refine tr_bipush (v := (-2)) g 22 dX4_weeks_20 rfl rfl ?_
        exact tr_iret g o dX4_weeks_22
      · refine tr_iload_n g 2 15 dX4_weeks_14 rfl rfl rfl ?_
        refine tr_bipush (v := 8) g 17 dX4_weeks_15 rfl rfl ?_
        refine tr_icmp_lt g 23 20 dX4_weeks_17 rfl rfl ?_ ?_
        · refine tr_aload_n g 0 24 dX4_weeks_23 rfl rfl rfl ?_
          refine tr_iload_n g 1 25 dX4_weeks_24 rfl rfl rfl ?_
          refine kv_X4_sceneAfter g wd_588 ⟨Nat.le_of_ble_eq_true rfl, Nat.le_of_ble_eq_true rfl⟩ (Nat.le_of_ble_eq_true rfl) 28 dX4_weeks_25 rfl (fun _ σ1 => ?_)
          refine tr_iload_n g 2 29 dX4_weeks_28 rfl rfl rfl ?_
          refine kv_X0_hourOrHabit g wd_608 ⟨Nat.le_of_ble_eq_true rfl, Nat.le_of_ble_eq_true rfl⟩ (Nat.le_of_ble_eq_true rfl) 32 dX4_weeks_29 rfl (fun r3 σ2 => ?_)
          exact tr_iret g o dX4_weeks_32
        · refine tr_bipush (v := (-2)) g 22 dX4_weeks_20 rfl rfl ?_
          exact tr_iret g o dX4_weeks_22
theorem ok_X4_weeks {E : tn_E} {l : Launch}   (a1 : Int32) (a2 : Int32) {σ : tn_M} {r : Int32} {σ' : tn_M} (h : f_X4_weeks a1 a2 σ = some (r, σ')) : tn_C E l yX4_weeks cX4_weeks 3 (some .int) (tn_rm 6 145) [.ref (tn_ad E 0), .int a1, .int a2] σ (tn_ie r) σ' :=
  tn_met (by decide) (Nat.le_of_ble_eq_true rfl) (fun G _ g o => b_X4_weeks g o  a1 a2 σ) h
theorem yy_X4_weeks : tn_Yv RX4 yX4_weeks cX4_weeks 3 (some .int) 2 := ⟨wd_587, wd_585, wd_586, wd_65, by decide, by decide, by decide +kernel⟩
theorem kv_X4_weeks {E : tn_E} {G : tn_G} {cc : ByteArray} {own : String} {nL : Nat} {R : Room} {ρ : Type} {enc : ρ → Option Value} {pc : Nat} {lv : List (Nat × Value)} {st : List Value} {σ : tn_M} {kk : Int32 → tn_M → Option (ρ × tn_M)} {i : Nat}  {a1 : Int32} {a2 : Int32} (g : tn_Ok E G cc own nL R)  (hw : Cond.methodLink own i yX4_weeks ∈ tn_T) (hroom : 7 ≤ R.frames ∧ 167 ≤ R.locals) (hW : (st.map fun v => v.category).sum ≤ 8) (n : Nat) (hd : decode cc pc = .ok (.invokevirtual i, 3)) (hn : pc + 3 = n) (k : ∀ r σ1, tn_V E G enc n lv (.int r :: st) σ1 (kk r σ1)) : tn_V E G enc pc lv (.int a2 :: .int a1 :: .ref (tn_ad E 0) :: st) σ (tn_bd (f_X4_weeks a1 a2 σ) kk) :=
  tr_callV (As := [.int a1, .int a2]) (enc1 := tn_ie) g yy_X4_weeks hw (ci := 4) rfl (by decide) rfl (fun r σ1 h => ok_X4_weeks  a1 a2 h) ⟨rfl, rfl⟩ ⟨hroom.1, by have h2 := hroom.2; show 8 + (3 + 11) + 145 ≤ R.locals; omega⟩ rfl rfl hW n hd hn k
/-! X4_back -/
def F_X4_back_7  : Nat → Int32 → tn_M → Option (Int32 × tn_M)
  | 0, _, _ => none
  | tn_n + 1, x2, σ => 
    if 50 < x2 then
      some ((-1), σ)
    else
      tn_bd (f_X0_earlyIsStill σ) fun r2 σ1 =>
      if r2 = 0 then
        some (x2, σ1)
      else
        tn_bd (f_X0_passWeek σ1) fun _ σ3 =>
        F_X4_back_7 tn_n (x2 + 1) σ3
def f_X4_back   (σ : tn_M) : Option (Int32 × tn_M) :=
  tn_bd (f_X4_sceneNow σ) fun _ σ1 =>
  F_X4_back_7 tn_fuel 0 σ1
set_option maxHeartbeats 4000000 in
set_option maxRecDepth 20000 in
theorem b_X4_back_7 {E : tn_E} {G : tn_G} (g : tn_Ok E G cX4_back RX4 3 (tn_rm 5 122)) (o : tn_Om E G (some .int))  : ∀ (n : Nat) (x2 : Int32) (σ : tn_M), tn_V E G tn_ie 7 [(1, .ref (tn_ad E 3)), (2, .int x2)] [] σ (F_X4_back_7 n x2 σ) := by
  intro n
  induction n with
  | zero => intros; exact tr_none
  | succ tn_n ih =>
    intro x2 σ
    rw [F_X4_back_7]
    refine tr_iload_n g 1 8 dX4_back_7 rfl rfl rfl ?_
    refine tr_bipush (v := 50) g 10 dX4_back_8 rfl rfl ?_
    refine tr_icmp_gt g 32 13 dX4_back_10 rfl rfl ?_ ?_
    · refine tr_iconst (v := (-1)) g 33 dX4_back_32 rfl rfl ?_
      exact tr_iret g o dX4_back_33
    · refine tr_aload_n g 0 14 dX4_back_13 rfl rfl rfl ?_
      refine kv_X0_earlyIsStill g wd_616 ⟨Nat.le_of_ble_eq_true rfl, Nat.le_of_ble_eq_true rfl⟩ (Nat.le_of_ble_eq_true rfl) 17 dX4_back_14 rfl (fun r2 σ1 => ?_)
      refine tr_if_ne g 22 20 dX4_back_17 rfl rfl ?_ ?_
      · refine tr_aload_n g 0 23 dX4_back_22 rfl rfl rfl ?_
        refine kv_X0_passWeek g wd_592 ⟨Nat.le_of_ble_eq_true rfl, Nat.le_of_ble_eq_true rfl⟩ (Nat.le_of_ble_eq_true rfl) 26 dX4_back_23 rfl (fun _ σ3 => ?_)
        refine tr_iinc (lv' := [(2, .int (x2 + 1)), (1, .ref (tn_ad E 3))]) (x := (x2 + 1)) g 1 29 dX4_back_26 rfl rfl rfl (by decide) rfl ?_
        refine tr_goto g 7 dX4_back_29 rfl ?_
        refine tr_sub [1, 0] (lv' := [(1, .ref (tn_ad E 3)), (2, .int (x2 + 1))]) rfl ?_
        exact ih _ _
      · refine tr_iload_n g 1 21 dX4_back_20 rfl rfl rfl ?_
        exact tr_iret g o dX4_back_21
set_option maxHeartbeats 4000000 in
set_option maxRecDepth 20000 in
theorem b_X4_back {E : tn_E} {G : tn_G} (g : tn_Ok E G cX4_back RX4 3 (tn_rm 5 122)) (o : tn_Om E G (some .int))   (σ : tn_M) : tn_V E G tn_ie 0 [(0, .ref (tn_ad E 0))] [] σ (f_X4_back σ) := by
  unfold f_X4_back
  refine tr_aload_n g 0 1 dX4_back_0 rfl rfl rfl ?_
  refine kv_X4_sceneNow g wd_354 ⟨Nat.le_of_ble_eq_true rfl, Nat.le_of_ble_eq_true rfl⟩ (Nat.le_of_ble_eq_true rfl) 4 dX4_back_1 rfl (fun _ σ1 => ?_)
  refine tr_astore_n (lv' := [(1, .ref (tn_ad E 3)), (0, .ref (tn_ad E 0))]) g 5 dX4_back_4 rfl rfl (by decide) rfl ?_
  refine tr_iconst (v := 0) g 6 dX4_back_5 rfl rfl ?_
  refine tr_istore_n (lv' := [(2, .int 0), (1, .ref (tn_ad E 3)), (0, .ref (tn_ad E 0))]) g 7 dX4_back_6 rfl rfl (by decide) rfl ?_
  refine tr_sub [1, 0] (lv' := [(1, .ref (tn_ad E 3)), (2, .int 0)]) rfl ?_
  exact b_X4_back_7 g o  tn_fuel _ _
theorem ok_X4_back {E : tn_E} {l : Launch}    {σ : tn_M} {r : Int32} {σ' : tn_M} (h : f_X4_back  σ = some (r, σ')) : tn_C E l yX4_back cX4_back 3 (some .int) (tn_rm 5 122) [.ref (tn_ad E 0)] σ (tn_ie r) σ' :=
  tn_met (by decide) (Nat.le_of_ble_eq_true rfl) (fun G _ g o => b_X4_back g o   σ) h
theorem yy_X4_back : tn_Yv RX4 yX4_back cX4_back 3 (some .int) 0 := ⟨wd_615, wd_613, wd_614, wd_65, by decide, by decide, by decide +kernel⟩
theorem kv_X4_back {E : tn_E} {G : tn_G} {cc : ByteArray} {own : String} {nL : Nat} {R : Room} {ρ : Type} {enc : ρ → Option Value} {pc : Nat} {lv : List (Nat × Value)} {st : List Value} {σ : tn_M} {kk : Int32 → tn_M → Option (ρ × tn_M)} {i : Nat}   (g : tn_Ok E G cc own nL R)  (hw : Cond.methodLink own i yX4_back ∈ tn_T) (hroom : 6 ≤ R.frames ∧ 144 ≤ R.locals) (hW : (st.map fun v => v.category).sum ≤ 8) (n : Nat) (hd : decode cc pc = .ok (.invokevirtual i, 3)) (hn : pc + 3 = n) (k : ∀ r σ1, tn_V E G enc n lv (.int r :: st) σ1 (kk r σ1)) : tn_V E G enc pc lv (.ref (tn_ad E 0) :: st) σ (tn_bd (f_X4_back  σ) kk) :=
  tr_callV (As := []) (enc1 := tn_ie) g yy_X4_back hw (ci := 4) rfl (by decide) rfl (fun r σ1 h => ok_X4_back   h) ⟨rfl, rfl⟩ ⟨hroom.1, by have h2 := hroom.2; show 8 + (3 + 11) + 122 ≤ R.locals; omega⟩ rfl rfl hW n hd hn k
/-! X4_sheet -/
def f_X4_sheet  (a1 : Int32) (a2 : Int32) (a3 : Int32) (σ : tn_M) : Option (Int32 × tn_M) :=
  tn_bd (f_X1_noSheet a1 σ) fun r2 σ1 =>
  if r2 = 0 then
    tn_bd (f_X1_noForm a2 σ1) fun r4 σ3 =>
    if r4 = 0 then
      if a3 ≤ 60 then
        if 0 ≤ a3 then
          tn_bd (f_X1_renew a1 a2 a3 σ3) fun _ σ5 =>
          some (a3, σ5)
        else
          tn_bd (f_X1_finding 5 σ3) fun r7 σ6 =>
          some (r7, σ6)
      else
        some ((-2), σ3)
    else
      some ((-2), σ3)
  else
    some ((-2), σ1)
set_option maxHeartbeats 4000000 in
set_option maxRecDepth 20000 in
theorem b_X4_sheet {E : tn_E} {G : tn_G} (g : tn_Ok E G cX4_sheet RX4 4 (tn_rm 2 46)) (o : tn_Om E G (some .int))  (a1 : Int32) (a2 : Int32) (a3 : Int32) (σ : tn_M) : tn_V E G tn_ie 0 [(0, .ref (tn_ad E 0)), (1, .int a1), (2, .int a2), (3, .int a3)] [] σ (f_X4_sheet a1 a2 a3 σ) := by
  unfold f_X4_sheet
  refine tr_iload_n g 1 1 dX4_sheet_0 rfl rfl rfl ?_
  refine kv_X1_noSheet g wd_626 ⟨Nat.le_of_ble_eq_true rfl, Nat.le_of_ble_eq_true rfl⟩ (Nat.le_of_ble_eq_true rfl) 4 dX4_sheet_1 rfl (fun r2 σ1 => ?_)
  refine tr_if_ne g 20 7 dX4_sheet_4 rfl rfl ?_ ?_
  · refine tr_bipush (v := (-2)) g 22 dX4_sheet_20 rfl rfl ?_
    exact tr_iret g o dX4_sheet_22
  · refine tr_iload_n g 2 8 dX4_sheet_7 rfl rfl rfl ?_
    refine kv_X1_noForm g wd_627 ⟨Nat.le_of_ble_eq_true rfl, Nat.le_of_ble_eq_true rfl⟩ (Nat.le_of_ble_eq_true rfl) 11 dX4_sheet_8 rfl (fun r4 σ3 => ?_)
    refine tr_if_ne g 20 14 dX4_sheet_11 rfl rfl ?_ ?_
    · refine tr_bipush (v := (-2)) g 22 dX4_sheet_20 rfl rfl ?_
      exact tr_iret g o dX4_sheet_22
    · refine tr_iload_n g 3 15 dX4_sheet_14 rfl rfl rfl ?_
      refine tr_bipush (v := 60) g 17 dX4_sheet_15 rfl rfl ?_
      refine tr_icmp_le g 23 20 dX4_sheet_17 rfl rfl ?_ ?_
      · refine tr_iload_n g 3 24 dX4_sheet_23 rfl rfl rfl ?_
        refine tr_if_ge g 36 27 dX4_sheet_24 rfl rfl ?_ ?_
        · refine tr_aload_n g 0 37 dX4_sheet_36 rfl rfl rfl ?_
          refine gf_X4_3 g wd_228 40 dX4_sheet_37 rfl ?_
          refine tr_iload_n g 1 41 dX4_sheet_40 rfl rfl rfl ?_
          refine tr_iload_n g 2 42 dX4_sheet_41 rfl rfl rfl ?_
          refine tr_iload_n g 3 43 dX4_sheet_42 rfl rfl rfl ?_
          refine kv_X1_renew g wd_631 ⟨Nat.le_of_ble_eq_true rfl, Nat.le_of_ble_eq_true rfl⟩ (Nat.le_of_ble_eq_true rfl) 46 dX4_sheet_43 rfl (fun _ σ5 => ?_)
          refine tr_iload_n g 3 47 dX4_sheet_46 rfl rfl rfl ?_
          exact tr_iret g o dX4_sheet_47
        · refine tr_aload_n g 0 28 dX4_sheet_27 rfl rfl rfl ?_
          refine gf_X4_3 g wd_228 31 dX4_sheet_28 rfl ?_
          refine tr_iconst (v := 5) g 32 dX4_sheet_31 rfl rfl ?_
          refine kv_X1_finding g wd_630 ⟨Nat.le_of_ble_eq_true rfl, Nat.le_of_ble_eq_true rfl⟩ (Nat.le_of_ble_eq_true rfl) 35 dX4_sheet_32 rfl (fun r7 σ6 => ?_)
          exact tr_iret g o dX4_sheet_35
      · refine tr_bipush (v := (-2)) g 22 dX4_sheet_20 rfl rfl ?_
        exact tr_iret g o dX4_sheet_22
theorem ok_X4_sheet {E : tn_E} {l : Launch}   (a1 : Int32) (a2 : Int32) (a3 : Int32) {σ : tn_M} {r : Int32} {σ' : tn_M} (h : f_X4_sheet a1 a2 a3 σ = some (r, σ')) : tn_C E l yX4_sheet cX4_sheet 4 (some .int) (tn_rm 2 46) [.ref (tn_ad E 0), .int a1, .int a2, .int a3] σ (tn_ie r) σ' :=
  tn_met (by decide) (Nat.le_of_ble_eq_true rfl) (fun G _ g o => b_X4_sheet g o  a1 a2 a3 σ) h
theorem yy_X4_sheet : tn_Yv RX4 yX4_sheet cX4_sheet 4 (some .int) 3 := ⟨wd_625, wd_623, wd_624, wd_65, by decide, by decide, by decide +kernel⟩
theorem kv_X4_sheet {E : tn_E} {G : tn_G} {cc : ByteArray} {own : String} {nL : Nat} {R : Room} {ρ : Type} {enc : ρ → Option Value} {pc : Nat} {lv : List (Nat × Value)} {st : List Value} {σ : tn_M} {kk : Int32 → tn_M → Option (ρ × tn_M)} {i : Nat}  {a1 : Int32} {a2 : Int32} {a3 : Int32} (g : tn_Ok E G cc own nL R)  (hw : Cond.methodLink own i yX4_sheet ∈ tn_T) (hroom : 3 ≤ R.frames ∧ 69 ≤ R.locals) (hW : (st.map fun v => v.category).sum ≤ 8) (n : Nat) (hd : decode cc pc = .ok (.invokevirtual i, 3)) (hn : pc + 3 = n) (k : ∀ r σ1, tn_V E G enc n lv (.int r :: st) σ1 (kk r σ1)) : tn_V E G enc pc lv (.int a3 :: .int a2 :: .int a1 :: .ref (tn_ad E 0) :: st) σ (tn_bd (f_X4_sheet a1 a2 a3 σ) kk) :=
  tr_callV (As := [.int a1, .int a2, .int a3]) (enc1 := tn_ie) g yy_X4_sheet hw (ci := 4) rfl (by decide) rfl (fun r σ1 h => ok_X4_sheet  a1 a2 a3 h) ⟨rfl, rfl⟩ ⟨hroom.1, by have h2 := hroom.2; show 8 + (4 + 11) + 46 ≤ R.locals; omega⟩ rfl rfl hW n hd hn k
/-! X4_lose -/
def f_X4_lose  (a1 : Int32) (σ : tn_M) : Option (Int32 × tn_M) :=
  tn_bd (f_X1_refusal a1 σ) fun r2 σ1 =>
  if r2 = 0 then
    tn_ck a1 4 <|
    tn_lt (tn_si σ1 26 (tn_x a1) (-1)) fun σ3 =>
    tn_ck a1 4 <|
    some ((σ3.1 27 (tn_x a1)), σ3)
  else
    some (r2, σ1)
set_option maxHeartbeats 4000000 in
set_option maxRecDepth 20000 in
theorem b_X4_lose {E : tn_E} {G : tn_G} (g : tn_Ok E G cX4_lose RX4 3 (tn_rm 2 42)) (o : tn_Om E G (some .int))  (a1 : Int32) (σ : tn_M) : tn_V E G tn_ie 0 [(0, .ref (tn_ad E 0)), (1, .int a1)] [] σ (f_X4_lose a1 σ) := by
  unfold f_X4_lose
  refine tr_aload_n g 0 1 dX4_lose_0 rfl rfl rfl ?_
  refine gf_X4_3 g wd_228 4 dX4_lose_1 rfl ?_
  refine tr_iload_n g 1 5 dX4_lose_4 rfl rfl rfl ?_
  refine kv_X1_refusal g wd_336 ⟨Nat.le_of_ble_eq_true rfl, Nat.le_of_ble_eq_true rfl⟩ (Nat.le_of_ble_eq_true rfl) 8 dX4_lose_5 rfl (fun r2 σ1 => ?_)
  refine tr_istore_n (lv' := [(2, .int r2), (0, .ref (tn_ad E 0)), (1, .int a1)]) g 9 dX4_lose_8 rfl rfl (by decide) rfl ?_
  refine tr_iload_n g 0 10 dX4_lose_9 rfl rfl rfl ?_
  refine tr_if_eq g 15 13 dX4_lose_10 rfl rfl ?_ ?_
  · refine tr_aload_n g 1 16 dX4_lose_15 rfl rfl rfl ?_
    refine gf_X4_3 g wd_228 19 dX4_lose_16 rfl ?_
    refine gf_X1_0 g wd_209 22 dX4_lose_19 rfl ?_
    refine tr_iload_n g 2 23 dX4_lose_22 rfl rfl rfl ?_
    refine tr_iconst (v := (-1)) g 24 dX4_lose_23 rfl rfl ?_
    refine tr_iast (N := 4) g 25 rfl rfl dX4_lose_24 rfl (fun σ3 => ?_)
    refine tr_aload_n g 1 26 dX4_lose_25 rfl rfl rfl ?_
    refine gf_X4_3 g wd_228 29 dX4_lose_26 rfl ?_
    refine gf_X1_1 g wd_211 32 dX4_lose_29 rfl ?_
    refine tr_iload_n g 2 33 dX4_lose_32 rfl rfl rfl ?_
    refine tr_iald (N := 4) g 34 rfl rfl dX4_lose_33 rfl ?_
    exact tr_iret g o dX4_lose_34
  · refine tr_iload_n g 0 14 dX4_lose_13 rfl rfl rfl ?_
    exact tr_iret g o dX4_lose_14
theorem ok_X4_lose {E : tn_E} {l : Launch}   (a1 : Int32) {σ : tn_M} {r : Int32} {σ' : tn_M} (h : f_X4_lose a1 σ = some (r, σ')) : tn_C E l yX4_lose cX4_lose 3 (some .int) (tn_rm 2 42) [.ref (tn_ad E 0), .int a1] σ (tn_ie r) σ' :=
  tn_met (by decide) (Nat.le_of_ble_eq_true rfl) (fun G _ g o => b_X4_lose g o  a1 σ) h
theorem yy_X4_lose : tn_Yv RX4 yX4_lose cX4_lose 3 (some .int) 1 := ⟨wd_639, wd_637, wd_638, wd_65, by decide, by decide, by decide +kernel⟩
theorem kv_X4_lose {E : tn_E} {G : tn_G} {cc : ByteArray} {own : String} {nL : Nat} {R : Room} {ρ : Type} {enc : ρ → Option Value} {pc : Nat} {lv : List (Nat × Value)} {st : List Value} {σ : tn_M} {kk : Int32 → tn_M → Option (ρ × tn_M)} {i : Nat}  {a1 : Int32} (g : tn_Ok E G cc own nL R)  (hw : Cond.methodLink own i yX4_lose ∈ tn_T) (hroom : 3 ≤ R.frames ∧ 64 ≤ R.locals) (hW : (st.map fun v => v.category).sum ≤ 8) (n : Nat) (hd : decode cc pc = .ok (.invokevirtual i, 3)) (hn : pc + 3 = n) (k : ∀ r σ1, tn_V E G enc n lv (.int r :: st) σ1 (kk r σ1)) : tn_V E G enc pc lv (.int a1 :: .ref (tn_ad E 0) :: st) σ (tn_bd (f_X4_lose a1 σ) kk) :=
  tr_callV (As := [.int a1]) (enc1 := tn_ie) g yy_X4_lose hw (ci := 4) rfl (by decide) rfl (fun r σ1 h => ok_X4_lose  a1 h) ⟨rfl, rfl⟩ ⟨hroom.1, by have h2 := hroom.2; show 8 + (3 + 11) + 42 ≤ R.locals; omega⟩ rfl rfl hW n hd hn k
/-! X4_lay -/
def f_X4_lay  (a1 : Int32) (a2 : Int32) (a3 : Int32) (a4 : Int32) (σ : tn_M) : Option (Int32 × tn_M) :=
  tn_bd (f_X1_refusalOfItem a1 a2 a3 σ) fun r2 σ1 =>
  if r2 = 0 then
    tn_bd (f_X1_put a1 a3 a4 σ1) fun _ σ3 =>
    some (1, σ3)
  else
    some (r2, σ1)
set_option maxHeartbeats 4000000 in
set_option maxRecDepth 20000 in
theorem b_X4_lay {E : tn_E} {G : tn_G} (g : tn_Ok E G cX4_lay RX4 6 (tn_rm 2 44)) (o : tn_Om E G (some .int))  (a1 : Int32) (a2 : Int32) (a3 : Int32) (a4 : Int32) (σ : tn_M) : tn_V E G tn_ie 0 [(0, .ref (tn_ad E 0)), (1, .int a1), (2, .int a2), (3, .int a3), (4, .int a4)] [] σ (f_X4_lay a1 a2 a3 a4 σ) := by
  unfold f_X4_lay
  refine tr_aload_n g 0 1 dX4_lay_0 rfl rfl rfl ?_
  refine gf_X4_3 g wd_228 4 dX4_lay_1 rfl ?_
  refine tr_iload_n g 1 5 dX4_lay_4 rfl rfl rfl ?_
  refine tr_iload_n g 2 6 dX4_lay_5 rfl rfl rfl ?_
  refine tr_iload_n g 3 7 dX4_lay_6 rfl rfl rfl ?_
  refine kv_X1_refusalOfItem g wd_644 ⟨Nat.le_of_ble_eq_true rfl, Nat.le_of_ble_eq_true rfl⟩ (Nat.le_of_ble_eq_true rfl) 10 dX4_lay_7 rfl (fun r2 σ1 => ?_)
  refine tr_istore (lv' := [(5, .int r2), (0, .ref (tn_ad E 0)), (1, .int a1), (2, .int a2), (3, .int a3), (4, .int a4)]) g 12 dX4_lay_10 rfl (by decide) rfl ?_
  refine tr_iload g 0 14 dX4_lay_12 rfl rfl ?_
  refine tr_if_eq g 20 17 dX4_lay_14 rfl rfl ?_ ?_
  · refine tr_aload_n g 1 21 dX4_lay_20 rfl rfl rfl ?_
    refine gf_X4_3 g wd_228 24 dX4_lay_21 rfl ?_
    refine tr_iload_n g 2 25 dX4_lay_24 rfl rfl rfl ?_
    refine tr_iload_n g 4 26 dX4_lay_25 rfl rfl rfl ?_
    refine tr_iload g 5 28 dX4_lay_26 rfl rfl ?_
    refine kv_X1_put g wd_649 ⟨Nat.le_of_ble_eq_true rfl, Nat.le_of_ble_eq_true rfl⟩ (Nat.le_of_ble_eq_true rfl) 31 dX4_lay_28 rfl (fun _ σ3 => ?_)
    refine tr_iconst (v := 1) g 32 dX4_lay_31 rfl rfl ?_
    exact tr_iret g o dX4_lay_32
  · refine tr_iload g 0 19 dX4_lay_17 rfl rfl ?_
    exact tr_iret g o dX4_lay_19
theorem ok_X4_lay {E : tn_E} {l : Launch}   (a1 : Int32) (a2 : Int32) (a3 : Int32) (a4 : Int32) {σ : tn_M} {r : Int32} {σ' : tn_M} (h : f_X4_lay a1 a2 a3 a4 σ = some (r, σ')) : tn_C E l yX4_lay cX4_lay 6 (some .int) (tn_rm 2 44) [.ref (tn_ad E 0), .int a1, .int a2, .int a3, .int a4] σ (tn_ie r) σ' :=
  tn_met (by decide) (Nat.le_of_ble_eq_true rfl) (fun G _ g o => b_X4_lay g o  a1 a2 a3 a4 σ) h
theorem yy_X4_lay : tn_Yv RX4 yX4_lay cX4_lay 6 (some .int) 4 := ⟨wd_643, wd_641, wd_642, wd_65, by decide, by decide, by decide +kernel⟩
theorem kv_X4_lay {E : tn_E} {G : tn_G} {cc : ByteArray} {own : String} {nL : Nat} {R : Room} {ρ : Type} {enc : ρ → Option Value} {pc : Nat} {lv : List (Nat × Value)} {st : List Value} {σ : tn_M} {kk : Int32 → tn_M → Option (ρ × tn_M)} {i : Nat}  {a1 : Int32} {a2 : Int32} {a3 : Int32} {a4 : Int32} (g : tn_Ok E G cc own nL R)  (hw : Cond.methodLink own i yX4_lay ∈ tn_T) (hroom : 3 ≤ R.frames ∧ 69 ≤ R.locals) (hW : (st.map fun v => v.category).sum ≤ 8) (n : Nat) (hd : decode cc pc = .ok (.invokevirtual i, 3)) (hn : pc + 3 = n) (k : ∀ r σ1, tn_V E G enc n lv (.int r :: st) σ1 (kk r σ1)) : tn_V E G enc pc lv (.int a4 :: .int a3 :: .int a2 :: .int a1 :: .ref (tn_ad E 0) :: st) σ (tn_bd (f_X4_lay a1 a2 a3 a4 σ) kk) :=
  tr_callV (As := [.int a1, .int a2, .int a3, .int a4]) (enc1 := tn_ie) g yy_X4_lay hw (ci := 4) rfl (by decide) rfl (fun r σ1 h => ok_X4_lay  a1 a2 a3 a4 h) ⟨rfl, rfl⟩ ⟨hroom.1, by have h2 := hroom.2; show 8 + (6 + 11) + 44 ≤ R.locals; omega⟩ rfl rfl hW n hd hn k
/-! X4_get -/
def f_X4_get  (a1 : Int32) (a2 : Int32) (a3 : Int32) (σ : tn_M) : Option (Int32 × tn_M) :=
  tn_bd (f_X1_refusalOfItem a1 a2 a3 σ) fun r2 σ1 =>
  if r2 = 0 then
    tn_ck a1 4 <|
    tn_ck a3 60 <|
    some ((σ1.1 (28 + 1 + tn_x a1) (tn_x a3)), σ1)
  else
    some ((-2147483648), σ1)
set_option maxHeartbeats 4000000 in
set_option maxRecDepth 20000 in
theorem b_X4_get {E : tn_E} {G : tn_G} (g : tn_Ok E G cX4_get RX4 4 (tn_rm 2 44)) (o : tn_Om E G (some .int))  (a1 : Int32) (a2 : Int32) (a3 : Int32) (σ : tn_M) : tn_V E G tn_ie 0 [(0, .ref (tn_ad E 0)), (1, .int a1), (2, .int a2), (3, .int a3)] [] σ (f_X4_get a1 a2 a3 σ) := by
  unfold f_X4_get
  refine tr_aload_n g 0 1 dX4_get_0 rfl rfl rfl ?_
  refine gf_X4_3 g wd_228 4 dX4_get_1 rfl ?_
  refine tr_iload_n g 1 5 dX4_get_4 rfl rfl rfl ?_
  refine tr_iload_n g 2 6 dX4_get_5 rfl rfl rfl ?_
  refine tr_iload_n g 3 7 dX4_get_6 rfl rfl rfl ?_
  refine kv_X1_refusalOfItem g wd_644 ⟨Nat.le_of_ble_eq_true rfl, Nat.le_of_ble_eq_true rfl⟩ (Nat.le_of_ble_eq_true rfl) 10 dX4_get_7 rfl (fun r2 σ1 => ?_)
  refine tr_if_eq g 16 13 dX4_get_10 rfl rfl ?_ ?_
  · refine tr_aload_n g 0 17 dX4_get_16 rfl rfl rfl ?_
    refine gf_X4_3 g wd_228 20 dX4_get_17 rfl ?_
    refine gf_X1_2 g wd_213 23 dX4_get_20 rfl ?_
    refine tr_iload_n g 1 24 dX4_get_23 rfl rfl rfl ?_
    refine tr_aald (N := 4) g 25 rfl rfl dX4_get_24 rfl (fun h3 => ?_)
    refine tr_iload_n g 3 26 dX4_get_25 rfl rfl rfl ?_
    refine tr_iald (N := 60) g 27 (tn_rowI h3).1 (tn_rowI h3).2 dX4_get_26 rfl ?_
    exact tr_iret g o dX4_get_27
  · refine tr_ldc (v := (-2147483648)) g wd_657 15 dX4_get_13 rfl ?_
    exact tr_iret g o dX4_get_15
theorem ok_X4_get {E : tn_E} {l : Launch}   (a1 : Int32) (a2 : Int32) (a3 : Int32) {σ : tn_M} {r : Int32} {σ' : tn_M} (h : f_X4_get a1 a2 a3 σ = some (r, σ')) : tn_C E l yX4_get cX4_get 4 (some .int) (tn_rm 2 44) [.ref (tn_ad E 0), .int a1, .int a2, .int a3] σ (tn_ie r) σ' :=
  tn_met (by decide) (Nat.le_of_ble_eq_true rfl) (fun G _ g o => b_X4_get g o  a1 a2 a3 σ) h
theorem yy_X4_get : tn_Yv RX4 yX4_get cX4_get 4 (some .int) 3 := ⟨wd_656, wd_654, wd_655, wd_65, by decide, by decide, by decide +kernel⟩
theorem kv_X4_get {E : tn_E} {G : tn_G} {cc : ByteArray} {own : String} {nL : Nat} {R : Room} {ρ : Type} {enc : ρ → Option Value} {pc : Nat} {lv : List (Nat × Value)} {st : List Value} {σ : tn_M} {kk : Int32 → tn_M → Option (ρ × tn_M)} {i : Nat}  {a1 : Int32} {a2 : Int32} {a3 : Int32} (g : tn_Ok E G cc own nL R)  (hw : Cond.methodLink own i yX4_get ∈ tn_T) (hroom : 3 ≤ R.frames ∧ 67 ≤ R.locals) (hW : (st.map fun v => v.category).sum ≤ 8) (n : Nat) (hd : decode cc pc = .ok (.invokevirtual i, 3)) (hn : pc + 3 = n) (k : ∀ r σ1, tn_V E G enc n lv (.int r :: st) σ1 (kk r σ1)) : tn_V E G enc pc lv (.int a3 :: .int a2 :: .int a1 :: .ref (tn_ad E 0) :: st) σ (tn_bd (f_X4_get a1 a2 a3 σ) kk) :=
  tr_callV (As := [.int a1, .int a2, .int a3]) (enc1 := tn_ie) g yy_X4_get hw (ci := 4) rfl (by decide) rfl (fun r σ1 h => ok_X4_get  a1 a2 a3 h) ⟨rfl, rfl⟩ ⟨hroom.1, by have h2 := hroom.2; show 8 + (4 + 11) + 44 ≤ R.locals; omega⟩ rfl rfl hW n hd hn k
/-! X4_copy -/
def F_X4_copy_111   (σ : tn_M) : Option (Int32 × tn_M) :=
  tn_bd (f_X1_finding 2 σ) fun r2 σ1 =>
  some (r2, σ1)
def F_X4_copy_43   (σ : tn_M) : Option (Int32 × tn_M) :=
  tn_bd (f_X1_finding 1 σ) fun r2 σ1 =>
  some (r2, σ1)
def f_X4_copy  (a1 : Int32) (a2 : Int32) (a3 : Int32) (a4 : Int32) (a5 : Int32) (σ : tn_M) : Option (Int32 × tn_M) :=
  tn_bd (f_X1_noSheet a1 σ) fun r2 σ1 =>
  if r2 = 0 then
    tn_bd (f_X1_noSheet a3 σ1) fun r4 σ3 =>
    if r4 = 0 then
      tn_ck a1 4 <|
      if (σ3.1 26 (tn_x a1)) = (-1) then
        F_X4_copy_43 σ3
      else
        tn_ck a3 4 <|
        if (σ3.1 26 (tn_x a3)) = (-1) then
          F_X4_copy_43 σ3
        else
          tn_ck a1 4 <|
          tn_ck a3 4 <|
          if (σ3.1 26 (tn_x a1)) = (σ3.1 26 (tn_x a3)) then
            tn_bd (f_X1_lacks a1 a2 a5 σ3) fun r6 σ5 =>
            if r6 = 0 then
              tn_bd (f_X1_lacks a3 a4 a5 σ5) fun r8 σ7 =>
              if r8 = 0 then
                tn_ck a1 4 <|
                tn_ck a3 4 <|
                tn_cck a2 a4 a5 60 60 <|
                tn_lt (tn_cp σ7 (28 + 1 + tn_x a1) (28 + 1 + tn_x a3) (tn_x a2) (tn_x a4) (tn_x a5)) fun σ11 =>
                some (1, σ11)
              else
                F_X4_copy_111 σ7
            else
              F_X4_copy_111 σ5
          else
            tn_bd (f_X1_finding 4 σ3) fun r13 σ12 =>
            some (r13, σ12)
    else
      some ((-2), σ3)
  else
    some ((-2), σ1)
set_option maxHeartbeats 4000000 in
set_option maxRecDepth 20000 in
theorem b_X4_copy_111 {E : tn_E} {G : tn_G} (g : tn_Ok E G cX4_copy RX4 6 (tn_rm 1 23)) (o : tn_Om E G (some .int))   (σ : tn_M) : tn_V E G tn_ie 111 [(0, .ref (tn_ad E 0))] [] σ (F_X4_copy_111 σ) := by
  unfold F_X4_copy_111
  refine tr_aload_n g 0 112 dX4_copy_111 rfl rfl rfl ?_
  refine gf_X4_3 g wd_228 115 dX4_copy_112 rfl ?_
  refine tr_iconst (v := 2) g 116 dX4_copy_115 rfl rfl ?_
  refine kv_X1_finding g wd_630 ⟨Nat.le_of_ble_eq_true rfl, Nat.le_of_ble_eq_true rfl⟩ (Nat.le_of_ble_eq_true rfl) 119 dX4_copy_116 rfl (fun r2 σ1 => ?_)
  exact tr_iret g o dX4_copy_119
set_option maxHeartbeats 4000000 in
set_option maxRecDepth 20000 in
theorem b_X4_copy_43 {E : tn_E} {G : tn_G} (g : tn_Ok E G cX4_copy RX4 6 (tn_rm 1 23)) (o : tn_Om E G (some .int))   (σ : tn_M) : tn_V E G tn_ie 43 [(0, .ref (tn_ad E 0))] [] σ (F_X4_copy_43 σ) := by
  unfold F_X4_copy_43
  refine tr_aload_n g 0 44 dX4_copy_43 rfl rfl rfl ?_
  refine gf_X4_3 g wd_228 47 dX4_copy_44 rfl ?_
  refine tr_iconst (v := 1) g 48 dX4_copy_47 rfl rfl ?_
  refine kv_X1_finding g wd_630 ⟨Nat.le_of_ble_eq_true rfl, Nat.le_of_ble_eq_true rfl⟩ (Nat.le_of_ble_eq_true rfl) 51 dX4_copy_48 rfl (fun r2 σ1 => ?_)
  exact tr_iret g o dX4_copy_51
set_option maxHeartbeats 4000000 in
set_option maxRecDepth 20000 in
theorem b_X4_copy {E : tn_E} {G : tn_G} (g : tn_Ok E G cX4_copy RX4 6 (tn_rm 1 23)) (o : tn_Om E G (some .int))  (a1 : Int32) (a2 : Int32) (a3 : Int32) (a4 : Int32) (a5 : Int32) (σ : tn_M) : tn_V E G tn_ie 0 [(0, .ref (tn_ad E 0)), (1, .int a1), (2, .int a2), (3, .int a3), (4, .int a4), (5, .int a5)] [] σ (f_X4_copy a1 a2 a3 a4 a5 σ) := by
  unfold f_X4_copy
  refine tr_iload_n g 1 1 dX4_copy_0 rfl rfl rfl ?_
  refine kv_X1_noSheet g wd_626 ⟨Nat.le_of_ble_eq_true rfl, Nat.le_of_ble_eq_true rfl⟩ (Nat.le_of_ble_eq_true rfl) 4 dX4_copy_1 rfl (fun r2 σ1 => ?_)
  refine tr_if_ne g 14 7 dX4_copy_4 rfl rfl ?_ ?_
  · refine tr_bipush (v := (-2)) g 16 dX4_copy_14 rfl rfl ?_
    exact tr_iret g o dX4_copy_16
  · refine tr_iload_n g 3 8 dX4_copy_7 rfl rfl rfl ?_
    refine kv_X1_noSheet g wd_626 ⟨Nat.le_of_ble_eq_true rfl, Nat.le_of_ble_eq_true rfl⟩ (Nat.le_of_ble_eq_true rfl) 11 dX4_copy_8 rfl (fun r4 σ3 => ?_)
    refine tr_if_eq g 17 14 dX4_copy_11 rfl rfl ?_ ?_
    · refine tr_aload_n g 0 18 dX4_copy_17 rfl rfl rfl ?_
      refine gf_X4_3 g wd_228 21 dX4_copy_18 rfl ?_
      refine gf_X1_0 g wd_209 24 dX4_copy_21 rfl ?_
      refine tr_iload_n g 1 25 dX4_copy_24 rfl rfl rfl ?_
      refine tr_iald (N := 4) g 26 rfl rfl dX4_copy_25 rfl ?_
      refine tr_iconst (v := (-1)) g 27 dX4_copy_26 rfl rfl ?_
      refine tr_icmp_eq g 43 30 dX4_copy_27 rfl rfl ?_ ?_
      · refine tr_sub [0] (lv' := [(0, .ref (tn_ad E 0))]) rfl ?_
        exact b_X4_copy_43 g o  _
      · refine tr_aload_n g 0 31 dX4_copy_30 rfl rfl rfl ?_
        refine gf_X4_3 g wd_228 34 dX4_copy_31 rfl ?_
        refine gf_X1_0 g wd_209 37 dX4_copy_34 rfl ?_
        refine tr_iload_n g 3 38 dX4_copy_37 rfl rfl rfl ?_
        refine tr_iald (N := 4) g 39 rfl rfl dX4_copy_38 rfl ?_
        refine tr_iconst (v := (-1)) g 40 dX4_copy_39 rfl rfl ?_
        refine tr_icmp_ne g 52 43 dX4_copy_40 rfl rfl ?_ ?_
        · refine tr_aload_n g 0 53 dX4_copy_52 rfl rfl rfl ?_
          refine gf_X4_3 g wd_228 56 dX4_copy_53 rfl ?_
          refine gf_X1_0 g wd_209 59 dX4_copy_56 rfl ?_
          refine tr_iload_n g 1 60 dX4_copy_59 rfl rfl rfl ?_
          refine tr_iald (N := 4) g 61 rfl rfl dX4_copy_60 rfl ?_
          refine tr_aload_n g 0 62 dX4_copy_61 rfl rfl rfl ?_
          refine gf_X4_3 g wd_228 65 dX4_copy_62 rfl ?_
          refine gf_X1_0 g wd_209 68 dX4_copy_65 rfl ?_
          refine tr_iload_n g 3 69 dX4_copy_68 rfl rfl rfl ?_
          refine tr_iald (N := 4) g 70 rfl rfl dX4_copy_69 rfl ?_
          refine tr_icmp_eq g 82 73 dX4_copy_70 rfl rfl ?_ ?_
          · refine tr_aload_n g 0 83 dX4_copy_82 rfl rfl rfl ?_
            refine gf_X4_3 g wd_228 86 dX4_copy_83 rfl ?_
            refine tr_iload_n g 1 87 dX4_copy_86 rfl rfl rfl ?_
            refine tr_iload_n g 2 88 dX4_copy_87 rfl rfl rfl ?_
            refine tr_iload g 5 90 dX4_copy_88 rfl rfl ?_
            refine kv_X1_lacks g wd_662 ⟨Nat.le_of_ble_eq_true rfl, Nat.le_of_ble_eq_true rfl⟩ (Nat.le_of_ble_eq_true rfl) 93 dX4_copy_90 rfl (fun r6 σ5 => ?_)
            refine tr_if_ne g 111 96 dX4_copy_93 rfl rfl ?_ ?_
            · refine tr_sub [0] (lv' := [(0, .ref (tn_ad E 0))]) rfl ?_
              exact b_X4_copy_111 g o  _
            · refine tr_aload_n g 0 97 dX4_copy_96 rfl rfl rfl ?_
              refine gf_X4_3 g wd_228 100 dX4_copy_97 rfl ?_
              refine tr_iload_n g 3 101 dX4_copy_100 rfl rfl rfl ?_
              refine tr_iload g 4 103 dX4_copy_101 rfl rfl ?_
              refine tr_iload g 5 105 dX4_copy_103 rfl rfl ?_
              refine kv_X1_lacks g wd_662 ⟨Nat.le_of_ble_eq_true rfl, Nat.le_of_ble_eq_true rfl⟩ (Nat.le_of_ble_eq_true rfl) 108 dX4_copy_105 rfl (fun r8 σ7 => ?_)
              refine tr_if_eq g 120 111 dX4_copy_108 rfl rfl ?_ ?_
              · refine tr_aload_n g 0 121 dX4_copy_120 rfl rfl rfl ?_
                refine gf_X4_3 g wd_228 124 dX4_copy_121 rfl ?_
                refine gf_X1_2 g wd_213 127 dX4_copy_124 rfl ?_
                refine tr_iload_n g 1 128 dX4_copy_127 rfl rfl rfl ?_
                refine tr_aald (N := 4) g 129 rfl rfl dX4_copy_128 rfl (fun h9 => ?_)
                refine tr_iload_n g 2 130 dX4_copy_129 rfl rfl rfl ?_
                refine tr_aload_n g 0 131 dX4_copy_130 rfl rfl rfl ?_
                refine gf_X4_3 g wd_228 134 dX4_copy_131 rfl ?_
                refine gf_X1_2 g wd_213 137 dX4_copy_134 rfl ?_
                refine tr_iload_n g 3 138 dX4_copy_137 rfl rfl rfl ?_
                refine tr_aald (N := 4) g 139 rfl rfl dX4_copy_138 rfl (fun h10 => ?_)
                refine tr_iload g 4 141 dX4_copy_139 rfl rfl ?_
                refine tr_iload g 5 143 dX4_copy_141 rfl rfl ?_
                refine tr_acopy (Ns := 60) (Nd := 60) g (tn_rowI h9).1 (tn_rowI h10).1 (tn_rowI h9).2 (tn_rowI h10).2 wd_666 wd_391 wd_390 wd_74 ⟨Nat.le_of_ble_eq_true rfl, Nat.le_of_ble_eq_true rfl⟩ 146 dX4_copy_143 rfl (fun σ11 => ?_)
                refine tr_iconst (v := 1) g 147 dX4_copy_146 rfl rfl ?_
                exact tr_iret g o dX4_copy_147
              · refine tr_sub [0] (lv' := [(0, .ref (tn_ad E 0))]) rfl ?_
                exact b_X4_copy_111 g o  _
          · refine tr_aload_n g 0 74 dX4_copy_73 rfl rfl rfl ?_
            refine gf_X4_3 g wd_228 77 dX4_copy_74 rfl ?_
            refine tr_iconst (v := 4) g 78 dX4_copy_77 rfl rfl ?_
            refine kv_X1_finding g wd_630 ⟨Nat.le_of_ble_eq_true rfl, Nat.le_of_ble_eq_true rfl⟩ (Nat.le_of_ble_eq_true rfl) 81 dX4_copy_78 rfl (fun r13 σ12 => ?_)
            exact tr_iret g o dX4_copy_81
        · refine tr_sub [0] (lv' := [(0, .ref (tn_ad E 0))]) rfl ?_
          exact b_X4_copy_43 g o  _
    · refine tr_bipush (v := (-2)) g 16 dX4_copy_14 rfl rfl ?_
      exact tr_iret g o dX4_copy_16
theorem ok_X4_copy {E : tn_E} {l : Launch}   (a1 : Int32) (a2 : Int32) (a3 : Int32) (a4 : Int32) (a5 : Int32) {σ : tn_M} {r : Int32} {σ' : tn_M} (h : f_X4_copy a1 a2 a3 a4 a5 σ = some (r, σ')) : tn_C E l yX4_copy cX4_copy 6 (some .int) (tn_rm 1 23) [.ref (tn_ad E 0), .int a1, .int a2, .int a3, .int a4, .int a5] σ (tn_ie r) σ' :=
  tn_met (by decide) (Nat.le_of_ble_eq_true rfl) (fun G _ g o => b_X4_copy g o  a1 a2 a3 a4 a5 σ) h
theorem yy_X4_copy : tn_Yv RX4 yX4_copy cX4_copy 6 (some .int) 5 := ⟨wd_661, wd_659, wd_660, wd_65, by decide, by decide, by decide +kernel⟩
theorem kv_X4_copy {E : tn_E} {G : tn_G} {cc : ByteArray} {own : String} {nL : Nat} {R : Room} {ρ : Type} {enc : ρ → Option Value} {pc : Nat} {lv : List (Nat × Value)} {st : List Value} {σ : tn_M} {kk : Int32 → tn_M → Option (ρ × tn_M)} {i : Nat}  {a1 : Int32} {a2 : Int32} {a3 : Int32} {a4 : Int32} {a5 : Int32} (g : tn_Ok E G cc own nL R)  (hw : Cond.methodLink own i yX4_copy ∈ tn_T) (hroom : 2 ≤ R.frames ∧ 48 ≤ R.locals) (hW : (st.map fun v => v.category).sum ≤ 8) (n : Nat) (hd : decode cc pc = .ok (.invokevirtual i, 3)) (hn : pc + 3 = n) (k : ∀ r σ1, tn_V E G enc n lv (.int r :: st) σ1 (kk r σ1)) : tn_V E G enc pc lv (.int a5 :: .int a4 :: .int a3 :: .int a2 :: .int a1 :: .ref (tn_ad E 0) :: st) σ (tn_bd (f_X4_copy a1 a2 a3 a4 a5 σ) kk) :=
  tr_callV (As := [.int a1, .int a2, .int a3, .int a4, .int a5]) (enc1 := tn_ie) g yy_X4_copy hw (ci := 4) rfl (by decide) rfl (fun r σ1 h => ok_X4_copy  a1 a2 a3 a4 a5 h) ⟨rfl, rfl⟩ ⟨hroom.1, by have h2 := hroom.2; show 8 + (6 + 11) + 23 ≤ R.locals; omega⟩ rfl rfl hW n hd hn k
/-! X4_write -/
def F_X4_write_44  : Nat → Int32 → Int32 → Int32 → tn_M → Option (Int32 × tn_M)
  | 0, _, _, _, _ => none
  | tn_n + 1, x1, x4, x5, σ => 
    if x4 ≤ x5 then
      some (x4, σ)
    else
      tn_bd (f_X0_reply x5 σ) fun r2 σ1 =>
      tn_bd (f_X1_put x1 x5 r2 σ1) fun _ σ3 =>
      F_X4_write_44 tn_n x1 x4 (x5 + 1) σ3
def f_X4_write  (a1 : Int32) (σ : tn_M) : Option (Int32 × tn_M) :=
  tn_bd (f_X1_refusal a1 σ) fun r2 σ1 =>
  if r2 = 0 then
    tn_bd (f_X4_sceneNow σ1) fun _ σ3 =>
    tn_ck a1 4 <|
    tn_lt (α := Int32) (if (σ3.1 1 5) < (σ3.1 27 (tn_x a1)) then (σ3.1 1 5) else (σ3.1 27 (tn_x a1))) fun w4 =>
    F_X4_write_44 tn_fuel a1 w4 0 σ3
  else
    some (r2, σ1)
set_option maxHeartbeats 4000000 in
set_option maxRecDepth 20000 in
theorem b_X4_write_44 {E : tn_E} {G : tn_G} (g : tn_Ok E G cX4_write RX4 6 (tn_rm 4 106)) (o : tn_Om E G (some .int))  : ∀ (n : Nat) (x1 : Int32) (x4 : Int32) (x5 : Int32) (σ : tn_M), tn_V E G tn_ie 44 [(0, .ref (tn_ad E 0)), (1, .int x1), (3, .ref (tn_ad E 3)), (4, .int x4), (5, .int x5)] [] σ (F_X4_write_44 n x1 x4 x5 σ) := by
  intro n
  induction n with
  | zero => intros; exact tr_none
  | succ tn_n ih =>
    intro x1 x4 x5 σ
    rw [F_X4_write_44]
    refine tr_iload g 4 46 dX4_write_44 rfl rfl ?_
    refine tr_iload g 3 48 dX4_write_46 rfl rfl ?_
    refine tr_icmp_ge g 73 51 dX4_write_48 rfl rfl ?_ ?_
    · refine tr_iload g 3 75 dX4_write_73 rfl rfl ?_
      exact tr_iret g o dX4_write_75
    · refine tr_aload_n g 0 52 dX4_write_51 rfl rfl rfl ?_
      refine gf_X4_3 g wd_228 55 dX4_write_52 rfl ?_
      refine tr_iload_n g 1 56 dX4_write_55 rfl rfl rfl ?_
      refine tr_iload g 4 58 dX4_write_56 rfl rfl ?_
      refine tr_aload_n g 2 59 dX4_write_58 rfl rfl rfl ?_
      refine tr_iload g 4 61 dX4_write_59 rfl rfl ?_
      refine kv_X0_reply g wd_451 ⟨Nat.le_of_ble_eq_true rfl, Nat.le_of_ble_eq_true rfl⟩ (Nat.le_of_ble_eq_true rfl) 64 dX4_write_61 rfl (fun r2 σ1 => ?_)
      refine kv_X1_put g wd_649 ⟨Nat.le_of_ble_eq_true rfl, Nat.le_of_ble_eq_true rfl⟩ (Nat.le_of_ble_eq_true rfl) 67 dX4_write_64 rfl (fun _ σ3 => ?_)
      refine tr_iinc (lv' := [(5, .int (x5 + 1)), (0, .ref (tn_ad E 0)), (1, .int x1), (3, .ref (tn_ad E 3)), (4, .int x4)]) (x := (x5 + 1)) g 4 70 dX4_write_67 rfl rfl rfl (by decide) rfl ?_
      refine tr_goto g 44 dX4_write_70 rfl ?_
      refine tr_sub [1, 2, 3, 4, 0] (lv' := [(0, .ref (tn_ad E 0)), (1, .int x1), (3, .ref (tn_ad E 3)), (4, .int x4), (5, .int (x5 + 1))]) rfl ?_
      exact ih _ _ _ _
set_option maxHeartbeats 4000000 in
set_option maxRecDepth 20000 in
theorem b_X4_write {E : tn_E} {G : tn_G} (g : tn_Ok E G cX4_write RX4 6 (tn_rm 4 106)) (o : tn_Om E G (some .int))  (a1 : Int32) (σ : tn_M) : tn_V E G tn_ie 0 [(0, .ref (tn_ad E 0)), (1, .int a1)] [] σ (f_X4_write a1 σ) := by
  unfold f_X4_write
  refine tr_aload_n g 0 1 dX4_write_0 rfl rfl rfl ?_
  refine gf_X4_3 g wd_228 4 dX4_write_1 rfl ?_
  refine tr_iload_n g 1 5 dX4_write_4 rfl rfl rfl ?_
  refine kv_X1_refusal g wd_336 ⟨Nat.le_of_ble_eq_true rfl, Nat.le_of_ble_eq_true rfl⟩ (Nat.le_of_ble_eq_true rfl) 8 dX4_write_5 rfl (fun r2 σ1 => ?_)
  refine tr_istore_n (lv' := [(2, .int r2), (0, .ref (tn_ad E 0)), (1, .int a1)]) g 9 dX4_write_8 rfl rfl (by decide) rfl ?_
  refine tr_iload_n g 0 10 dX4_write_9 rfl rfl rfl ?_
  refine tr_if_eq g 15 13 dX4_write_10 rfl rfl ?_ ?_
  · refine tr_aload_n g 1 16 dX4_write_15 rfl rfl rfl ?_
    refine kv_X4_sceneNow g wd_354 ⟨Nat.le_of_ble_eq_true rfl, Nat.le_of_ble_eq_true rfl⟩ (Nat.le_of_ble_eq_true rfl) 19 dX4_write_16 rfl (fun _ σ3 => ?_)
    refine tr_astore_n (lv' := [(3, .ref (tn_ad E 3)), (2, .int r2), (0, .ref (tn_ad E 0)), (1, .int a1)]) g 20 dX4_write_19 rfl rfl (by decide) rfl ?_
    refine tr_aload_n g 2 21 dX4_write_20 rfl rfl rfl ?_
    refine gf_X4_3 g wd_228 24 dX4_write_21 rfl ?_
    refine gf_X1_1 g wd_211 27 dX4_write_24 rfl ?_
    refine tr_iload_n g 3 28 dX4_write_27 rfl rfl rfl ?_
    refine tr_iald (N := 4) g 29 rfl rfl dX4_write_28 rfl ?_
    refine tr_aload_n g 2 30 dX4_write_29 rfl rfl rfl ?_
    refine gf_X4_0 g wd_225 33 dX4_write_30 rfl ?_
    refine gf_X2_5 g wd_107 36 dX4_write_33 rfl ?_
    refine tr_mmin g wd_347 wd_348 wd_71 wd_349 ⟨Nat.le_of_ble_eq_true rfl, Nat.le_of_ble_eq_true rfl⟩ 39 dX4_write_36 rfl ?_
    refine tr_lti (fun w4 => ?_)
    refine tr_istore (lv' := [(4, .int w4), (3, .ref (tn_ad E 3)), (2, .int r2), (0, .ref (tn_ad E 0)), (1, .int a1)]) g 41 dX4_write_39 rfl (by decide) rfl ?_
    refine tr_iconst (v := 0) g 42 dX4_write_41 rfl rfl ?_
    refine tr_istore (lv' := [(5, .int 0), (4, .int w4), (3, .ref (tn_ad E 3)), (2, .int r2), (0, .ref (tn_ad E 0)), (1, .int a1)]) g 44 dX4_write_42 rfl (by decide) rfl ?_
    refine tr_sub [4, 5, 2, 1, 0] (lv' := [(0, .ref (tn_ad E 0)), (1, .int a1), (3, .ref (tn_ad E 3)), (4, .int w4), (5, .int 0)]) rfl ?_
    exact b_X4_write_44 g o  tn_fuel _ _ _ _
  · refine tr_iload_n g 0 14 dX4_write_13 rfl rfl rfl ?_
    exact tr_iret g o dX4_write_14
theorem ok_X4_write {E : tn_E} {l : Launch}   (a1 : Int32) {σ : tn_M} {r : Int32} {σ' : tn_M} (h : f_X4_write a1 σ = some (r, σ')) : tn_C E l yX4_write cX4_write 6 (some .int) (tn_rm 4 106) [.ref (tn_ad E 0), .int a1] σ (tn_ie r) σ' :=
  tn_met (by decide) (Nat.le_of_ble_eq_true rfl) (fun G _ g o => b_X4_write g o  a1 σ) h
theorem yy_X4_write : tn_Yv RX4 yX4_write cX4_write 6 (some .int) 1 := ⟨wd_670, wd_668, wd_669, wd_65, by decide, by decide, by decide +kernel⟩
theorem kv_X4_write {E : tn_E} {G : tn_G} {cc : ByteArray} {own : String} {nL : Nat} {R : Room} {ρ : Type} {enc : ρ → Option Value} {pc : Nat} {lv : List (Nat × Value)} {st : List Value} {σ : tn_M} {kk : Int32 → tn_M → Option (ρ × tn_M)} {i : Nat}  {a1 : Int32} (g : tn_Ok E G cc own nL R)  (hw : Cond.methodLink own i yX4_write ∈ tn_T) (hroom : 5 ≤ R.frames ∧ 131 ≤ R.locals) (hW : (st.map fun v => v.category).sum ≤ 8) (n : Nat) (hd : decode cc pc = .ok (.invokevirtual i, 3)) (hn : pc + 3 = n) (k : ∀ r σ1, tn_V E G enc n lv (.int r :: st) σ1 (kk r σ1)) : tn_V E G enc pc lv (.int a1 :: .ref (tn_ad E 0) :: st) σ (tn_bd (f_X4_write a1 σ) kk) :=
  tr_callV (As := [.int a1]) (enc1 := tn_ie) g yy_X4_write hw (ci := 4) rfl (by decide) rfl (fun r σ1 h => ok_X4_write  a1 h) ⟨rfl, rfl⟩ ⟨hroom.1, by have h2 := hroom.2; show 8 + (6 + 11) + 106 ≤ R.locals; omega⟩ rfl rfl hW n hd hn k
/-! X4_sum -/
def F_X4_sum_5  : Nat → Nat → Int32 → Int32 → Int32 → tn_M → Option (Int32 × tn_M)
  | 0, _, _, _, _, _ => none
  | tn_n + 1, k0, x2, x3, x4, σ => 
    if x2 ≤ x4 then
      some (x3, σ)
    else
      if (Int32.ofNat (tn_len k0)) ≤ x4 then
        some (x3, σ)
      else
        tn_ck x4 (tn_len k0) <|
        tn_lt (α := Int32) (x3 + (σ.1 k0 (tn_x x4))) fun w1 =>
        F_X4_sum_5 tn_n k0 x2 w1 (x4 + 1) σ
def f_X4_sum  (k0 : Nat) (a1 : Int32) (a2 : Int32) (σ : tn_M) : Option (Int32 × tn_M) :=
  F_X4_sum_5 tn_fuel k0 a2 0 a1 σ
set_option maxHeartbeats 4000000 in
set_option maxRecDepth 20000 in
theorem b_X4_sum_5 {E : tn_E} {G : tn_G} (g : tn_Ok E G cX4_sum RX4 5 (tn_rm 0 0)) (o : tn_Om E G (some .int)) {k0 : Nat} (hk0 : tn_kd k0 = 1)  : ∀ (n : Nat) (x2 : Int32) (x3 : Int32) (x4 : Int32) (σ : tn_M), tn_V E G tn_ie 5 [(0, .ref (tn_ad E k0)), (2, .int x2), (3, .int x3), (4, .int x4)] [] σ (F_X4_sum_5 n k0 x2 x3 x4 σ) := by
  intro n
  induction n with
  | zero => intros; exact tr_none
  | succ tn_n ih =>
    intro x2 x3 x4 σ
    rw [F_X4_sum_5]
    refine tr_iload g 3 7 dX4_sum_5 rfl rfl ?_
    refine tr_iload_n g 1 8 dX4_sum_7 rfl rfl rfl ?_
    refine tr_icmp_ge g 31 11 dX4_sum_8 rfl rfl ?_ ?_
    · refine tr_iload_n g 2 32 dX4_sum_31 rfl rfl rfl ?_
      exact tr_iret g o dX4_sum_32
    · refine tr_iload g 3 13 dX4_sum_11 rfl rfl ?_
      refine tr_aload_n g 0 14 dX4_sum_13 rfl rfl rfl ?_
      refine tr_alen g 15 hk0 rfl dX4_sum_14 rfl ?_
      refine tr_icmp_ge g 31 18 dX4_sum_15 rfl rfl ?_ ?_
      · refine tr_iload_n g 2 32 dX4_sum_31 rfl rfl rfl ?_
        exact tr_iret g o dX4_sum_32
      · refine tr_iload_n g 2 19 dX4_sum_18 rfl rfl rfl ?_
        refine tr_aload_n g 0 20 dX4_sum_19 rfl rfl rfl ?_
        refine tr_iload g 3 22 dX4_sum_20 rfl rfl ?_
        refine tr_iald (N := (tn_len k0)) g 23 hk0 rfl dX4_sum_22 rfl ?_
        refine tr_iadd g 24 dX4_sum_23 rfl ?_
        refine tr_lti (fun w1 => ?_)
        refine tr_istore_n (lv' := [(3, .int w1), (0, .ref (tn_ad E k0)), (2, .int x2), (4, .int x4)]) g 25 dX4_sum_24 rfl rfl (by decide) rfl ?_
        refine tr_iinc (lv' := [(4, .int (x4 + 1)), (3, .int w1), (0, .ref (tn_ad E k0)), (2, .int x2)]) (x := (x4 + 1)) g 3 28 dX4_sum_25 rfl rfl rfl (by decide) rfl ?_
        refine tr_goto g 5 dX4_sum_28 rfl ?_
        refine tr_sub [2, 3, 1, 0] (lv' := [(0, .ref (tn_ad E k0)), (2, .int x2), (3, .int w1), (4, .int (x4 + 1))]) rfl ?_
        exact ih _ _ _ _
set_option maxHeartbeats 4000000 in
set_option maxRecDepth 20000 in
theorem b_X4_sum {E : tn_E} {G : tn_G} (g : tn_Ok E G cX4_sum RX4 5 (tn_rm 0 0)) (o : tn_Om E G (some .int)) {k0 : Nat} (hk0 : tn_kd k0 = 1)  (a1 : Int32) (a2 : Int32) (σ : tn_M) : tn_V E G tn_ie 0 [(0, .ref (tn_ad E k0)), (1, .int a1), (2, .int a2)] [] σ (f_X4_sum k0 a1 a2 σ) := by
  unfold f_X4_sum
  refine tr_iconst (v := 0) g 1 dX4_sum_0 rfl rfl ?_
  refine tr_istore_n (lv' := [(3, .int 0), (0, .ref (tn_ad E k0)), (1, .int a1), (2, .int a2)]) g 2 dX4_sum_1 rfl rfl (by decide) rfl ?_
  refine tr_iload_n g 2 3 dX4_sum_2 rfl rfl rfl ?_
  refine tr_istore (lv' := [(4, .int a1), (3, .int 0), (0, .ref (tn_ad E k0)), (1, .int a1), (2, .int a2)]) g 5 dX4_sum_3 rfl (by decide) rfl ?_
  refine tr_sub [2, 4, 1, 0] (lv' := [(0, .ref (tn_ad E k0)), (2, .int a2), (3, .int 0), (4, .int a1)]) rfl ?_
  exact b_X4_sum_5 g o hk0 tn_fuel _ _ _ _
theorem ok_X4_sum {E : tn_E} {l : Launch} {k0 : Nat} (hk0 : tn_kd k0 = 1) (a1 : Int32) (a2 : Int32) {σ : tn_M} {r : Int32} {σ' : tn_M} (h : f_X4_sum k0 a1 a2 σ = some (r, σ')) : tn_C E l yX4_sum cX4_sum 5 (some .int) (tn_rm 0 0) [.ref (tn_ad E k0), .int a1, .int a2] σ (tn_ie r) σ' :=
  tn_met (by decide) (Nat.le_of_ble_eq_true rfl) (fun G _ g o => b_X4_sum g o hk0 a1 a2 σ) h
theorem yy_X4_sum : tn_Ys yX4_sum cX4_sum 5 (some .int) 3 := ⟨wd_677, wd_676, wd_65, by decide, by decide, by decide +kernel⟩
theorem kv_X4_sum {E : tn_E} {G : tn_G} {cc : ByteArray} {own : String} {nL : Nat} {R : Room} {ρ : Type} {enc : ρ → Option Value} {pc : Nat} {lv : List (Nat × Value)} {st : List Value} {σ : tn_M} {kk : Int32 → tn_M → Option (ρ × tn_M)} {i : Nat} {k0 : Nat} {a1 : Int32} {a2 : Int32} (g : tn_Ok E G cc own nL R) (hk0 : tn_kd k0 = 1) (hw : Cond.methodLink own i yX4_sum ∈ tn_T) (hroom : 1 ≤ R.frames ∧ 24 ≤ R.locals) (hW : (st.map fun v => v.category).sum ≤ 8) (n : Nat) (hd : decode cc pc = .ok (.invokestatic i, 3)) (hn : pc + 3 = n) (k : ∀ r σ1, tn_V E G enc n lv (.int r :: st) σ1 (kk r σ1)) : tn_V E G enc pc lv (.int a2 :: .int a1 :: .ref (tn_ad E k0) :: st) σ (tn_bd (f_X4_sum k0 a1 a2 σ) kk) :=
  tr_callS (As := [.ref (tn_ad E k0), .int a1, .int a2]) (enc1 := tn_ie) g yy_X4_sum hw (fun r σ1 h => ok_X4_sum hk0 a1 a2 h) ⟨rfl, rfl⟩ ⟨hroom.1, by have h2 := hroom.2; show 8 + (5 + 11) + 0 ≤ R.locals; omega⟩ rfl rfl hW n hd hn k
/-! X4_count -/
def f_X4_count  (a1 : Int32) (σ : tn_M) : Option (Int32 × tn_M) :=
  if a1 = 0 then
    some ((σ.1 1 5), σ)
  else
    if a1 = 1 then
      some ((σ.1 1 6), σ)
    else
      if a1 = 2 then
        some ((σ.1 1 4), σ)
      else
        if a1 = 3 then
          tn_bd (f_X4_sum 7 0 (σ.1 1 5) σ) fun r2 σ1 =>
          some (r2, σ1)
        else
          if a1 = 4 then
            tn_bd (f_X4_sum 8 0 6 σ) fun r4 σ3 =>
            some (r4, σ3)
          else
            if a1 = 5 then
              tn_bd (f_X4_sum 6 5 8 σ) fun r6 σ5 =>
              some (r6, σ5)
            else
              if a1 = 6 then
                some ((σ.1 6 1), σ)
              else
                if a1 = 7 then
                  tn_bd (f_X2_crowd σ) fun r8 σ7 =>
                  some (r8, σ7)
                else
                  if a1 = 8 then
                    some ((σ.1 4 3), σ)
                  else
                    some ((-2), σ)
set_option maxHeartbeats 4000000 in
set_option maxRecDepth 20000 in
theorem b_X4_count {E : tn_E} {G : tn_G} (g : tn_Ok E G cX4_count RX4 2 (tn_rm 1 24)) (o : tn_Om E G (some .int))  (a1 : Int32) (σ : tn_M) : tn_V E G tn_ie 0 [(0, .ref (tn_ad E 0)), (1, .int a1)] [] σ (f_X4_count a1 σ) := by
  unfold f_X4_count
  refine tr_iload_n g 1 1 dX4_count_0 rfl rfl rfl ?_
  refine tr_ite (fun h => ?_) (fun hs0 => ?_)
  · refine tr_swIn g 52 dX4_count_1 (by rw [h]; decide) (by rw [h]; decide) (by rw [h]; rfl) rfl ?_
    refine tr_aload_n g 0 53 dX4_count_52 rfl rfl rfl ?_
    refine gf_X4_0 g wd_225 56 dX4_count_53 rfl ?_
    refine gf_X2_5 g wd_107 59 dX4_count_56 rfl ?_
    exact tr_iret g o dX4_count_59
  · skip
    refine tr_ite (fun h => ?_) (fun hs1 => ?_)
    · refine tr_swIn g 60 dX4_count_1 (by rw [h]; decide) (by rw [h]; decide) (by rw [h]; rfl) rfl ?_
      refine tr_aload_n g 0 61 dX4_count_60 rfl rfl rfl ?_
      refine gf_X4_0 g wd_225 64 dX4_count_61 rfl ?_
      refine gf_X2_6 g wd_110 67 dX4_count_64 rfl ?_
      exact tr_iret g o dX4_count_67
    · skip
      refine tr_ite (fun h => ?_) (fun hs2 => ?_)
      · refine tr_swIn g 68 dX4_count_1 (by rw [h]; decide) (by rw [h]; decide) (by rw [h]; rfl) rfl ?_
        refine tr_aload_n g 0 69 dX4_count_68 rfl rfl rfl ?_
        refine gf_X4_0 g wd_225 72 dX4_count_69 rfl ?_
        refine gf_X2_4 g wd_103 75 dX4_count_72 rfl ?_
        exact tr_iret g o dX4_count_75
      · skip
        refine tr_ite (fun h => ?_) (fun hs3 => ?_)
        · refine tr_swIn g 76 dX4_count_1 (by rw [h]; decide) (by rw [h]; decide) (by rw [h]; rfl) rfl ?_
          refine tr_aload_n g 0 77 dX4_count_76 rfl rfl rfl ?_
          refine gf_X4_5 g wd_230 80 dX4_count_77 rfl ?_
          refine tr_iconst (v := 0) g 81 dX4_count_80 rfl rfl ?_
          refine tr_aload_n g 0 82 dX4_count_81 rfl rfl rfl ?_
          refine gf_X4_0 g wd_225 85 dX4_count_82 rfl ?_
          refine gf_X2_5 g wd_107 88 dX4_count_85 rfl ?_
          refine kv_X4_sum g rfl wd_675 ⟨Nat.le_of_ble_eq_true rfl, Nat.le_of_ble_eq_true rfl⟩ (Nat.le_of_ble_eq_true rfl) 91 dX4_count_88 rfl (fun r2 σ1 => ?_)
          exact tr_iret g o dX4_count_91
        · skip
          refine tr_ite (fun h => ?_) (fun hs4 => ?_)
          · refine tr_swIn g 92 dX4_count_1 (by rw [h]; decide) (by rw [h]; decide) (by rw [h]; rfl) rfl ?_
            refine tr_aload_n g 0 93 dX4_count_92 rfl rfl rfl ?_
            refine gf_X4_6 g wd_231 96 dX4_count_93 rfl ?_
            refine tr_iconst (v := 0) g 97 dX4_count_96 rfl rfl ?_
            refine tr_bipush (v := 6) g 99 dX4_count_97 rfl rfl ?_
            refine kv_X4_sum g rfl wd_675 ⟨Nat.le_of_ble_eq_true rfl, Nat.le_of_ble_eq_true rfl⟩ (Nat.le_of_ble_eq_true rfl) 102 dX4_count_99 rfl (fun r4 σ3 => ?_)
            exact tr_iret g o dX4_count_102
          · skip
            refine tr_ite (fun h => ?_) (fun hs5 => ?_)
            · refine tr_swIn g 103 dX4_count_1 (by rw [h]; decide) (by rw [h]; decide) (by rw [h]; rfl) rfl ?_
              refine tr_aload_n g 0 104 dX4_count_103 rfl rfl rfl ?_
              refine gf_X4_4 g wd_229 107 dX4_count_104 rfl ?_
              refine tr_iconst (v := 5) g 108 dX4_count_107 rfl rfl ?_
              refine tr_bipush (v := 8) g 110 dX4_count_108 rfl rfl ?_
              refine kv_X4_sum g rfl wd_675 ⟨Nat.le_of_ble_eq_true rfl, Nat.le_of_ble_eq_true rfl⟩ (Nat.le_of_ble_eq_true rfl) 113 dX4_count_110 rfl (fun r6 σ5 => ?_)
              exact tr_iret g o dX4_count_113
            · skip
              refine tr_ite (fun h => ?_) (fun hs6 => ?_)
              · refine tr_swIn g 114 dX4_count_1 (by rw [h]; decide) (by rw [h]; decide) (by rw [h]; rfl) rfl ?_
                refine tr_aload_n g 0 115 dX4_count_114 rfl rfl rfl ?_
                refine gf_X4_4 g wd_229 118 dX4_count_115 rfl ?_
                refine tr_iconst (v := 1) g 119 dX4_count_118 rfl rfl ?_
                refine tr_ialdK (N := 8) g 120 1 rfl rfl rfl (by decide) dX4_count_119 rfl ?_
                exact tr_iret g o dX4_count_120
              · skip
                refine tr_ite (fun h => ?_) (fun hs7 => ?_)
                · refine tr_swIn g 121 dX4_count_1 (by rw [h]; decide) (by rw [h]; decide) (by rw [h]; rfl) rfl ?_
                  refine tr_aload_n g 0 122 dX4_count_121 rfl rfl rfl ?_
                  refine gf_X4_0 g wd_225 125 dX4_count_122 rfl ?_
                  refine kv_X2_crowd g wd_678 ⟨Nat.le_of_ble_eq_true rfl, Nat.le_of_ble_eq_true rfl⟩ (Nat.le_of_ble_eq_true rfl) 128 dX4_count_125 rfl (fun r8 σ7 => ?_)
                  exact tr_iret g o dX4_count_128
                · skip
                  refine tr_ite (fun h => ?_) (fun hs8 => ?_)
                  · refine tr_swIn g 129 dX4_count_1 (by rw [h]; decide) (by rw [h]; decide) (by rw [h]; rfl) rfl ?_
                    refine tr_aload_n g 0 130 dX4_count_129 rfl rfl rfl ?_
                    refine gf_X4_3 g wd_228 133 dX4_count_130 rfl ?_
                    refine gf_X1_3 g wd_215 136 dX4_count_133 rfl ?_
                    exact tr_iret g o dX4_count_136
                  · skip
                    refine tr_swOut g 137 dX4_count_1 (tn_swd (m := 8) (by exact tn_all9 hs0 hs1 hs2 hs3 hs4 hs5 hs6 hs7 hs8)) rfl ?_
                    refine tr_bipush (v := (-2)) g 139 dX4_count_137 rfl rfl ?_
                    exact tr_iret g o dX4_count_139
theorem ok_X4_count {E : tn_E} {l : Launch}   (a1 : Int32) {σ : tn_M} {r : Int32} {σ' : tn_M} (h : f_X4_count a1 σ = some (r, σ')) : tn_C E l yX4_count cX4_count 2 (some .int) (tn_rm 1 24) [.ref (tn_ad E 0), .int a1] σ (tn_ie r) σ' :=
  tn_met (by decide) (Nat.le_of_ble_eq_true rfl) (fun G _ g o => b_X4_count g o  a1 σ) h
theorem yy_X4_count : tn_Yv RX4 yX4_count cX4_count 2 (some .int) 1 := ⟨wd_674, wd_672, wd_673, wd_65, by decide, by decide, by decide +kernel⟩
theorem kv_X4_count {E : tn_E} {G : tn_G} {cc : ByteArray} {own : String} {nL : Nat} {R : Room} {ρ : Type} {enc : ρ → Option Value} {pc : Nat} {lv : List (Nat × Value)} {st : List Value} {σ : tn_M} {kk : Int32 → tn_M → Option (ρ × tn_M)} {i : Nat}  {a1 : Int32} (g : tn_Ok E G cc own nL R)  (hw : Cond.methodLink own i yX4_count ∈ tn_T) (hroom : 2 ≤ R.frames ∧ 45 ≤ R.locals) (hW : (st.map fun v => v.category).sum ≤ 8) (n : Nat) (hd : decode cc pc = .ok (.invokevirtual i, 3)) (hn : pc + 3 = n) (k : ∀ r σ1, tn_V E G enc n lv (.int r :: st) σ1 (kk r σ1)) : tn_V E G enc pc lv (.int a1 :: .ref (tn_ad E 0) :: st) σ (tn_bd (f_X4_count a1 σ) kk) :=
  tr_callV (As := [.int a1]) (enc1 := tn_ie) g yy_X4_count hw (ci := 4) rfl (by decide) rfl (fun r σ1 h => ok_X4_count  a1 h) ⟨rfl, rfl⟩ ⟨hroom.1, by have h2 := hroom.2; show 8 + (2 + 11) + 24 ≤ R.locals; omega⟩ rfl rfl hW n hd hn k
/-! X4_digest -/
def F_X4_digest_314  (x1 : Int64) (σ : tn_M) : Option (Int64 × tn_M) :=
  tn_bd (f_X4_back σ) fun r2 σ1 =>
  some (((31 * x1) + (Int32.toInt64 r2)), σ1)
def F_X4_digest_286  : Nat → Int64 → Int32 → tn_M → Option (Int64 × tn_M)
  | 0, _, _, _ => none
  | tn_n + 1, x1, x6, σ => 
    if 8 ≤ x6 then
      F_X4_digest_314 x1 σ
    else
      tn_bd (f_X0_hourOrHabit x6 σ) fun r2 σ1 =>
      tn_lt (α := Int64) ((31 * x1) + (Int32.toInt64 r2)) fun w3 =>
      F_X4_digest_286 tn_n w3 (x6 + 1) σ1
def F_X4_digest_213  (x1 : Int64) (σ : tn_M) : Option (Int64 × tn_M) :=
  tn_bd (f_X4_rest (-1) σ) fun r2 σ1 =>
  tn_lt (α := Int64) ((31 * x1) + (Int32.toInt64 r2)) fun w3 =>
  tn_bd (f_X4_countStill σ1) fun r5 σ4 =>
  tn_lt (α := Int64) ((31 * w3) + (Int32.toInt64 r5)) fun w6 =>
  tn_bd (f_X4_leastFine σ4) fun r8 σ7 =>
  tn_lt (α := Int64) ((31 * w6) + (Int32.toInt64 r8)) fun w9 =>
  tn_bd (f_X4_keeps 0 σ7) fun r11 σ10 =>
  tn_lt (α := Int64) ((31 * w9) + (Int32.toInt64 r11)) fun w12 =>
  tn_bd (f_X4_keeps 1 σ10) fun r14 σ13 =>
  tn_lt (α := Int64) ((31 * w12) + (Int32.toInt64 r14)) fun w15 =>
  tn_bd (f_X4_sceneAfter 5 σ13) fun _ σ16 =>
  F_X4_digest_286 tn_fuel w15 0 σ16
def F_X4_digest_173  : Nat → Int64 → Int32 → tn_M → Option (Int64 × tn_M)
  | 0, _, _, _ => none
  | tn_n + 1, x1, x5, σ => 
    if 1 < x5 then
      F_X4_digest_213 x1 σ
    else
      tn_bd (f_X4_all x5 0 σ) fun r2 σ1 =>
      tn_lt (α := Int64) ((31 * x1) + r2) fun w3 =>
      tn_bd (f_X4_all x5 1 σ1) fun r5 σ4 =>
      tn_lt (α := Int64) ((31 * w3) + r5) fun w6 =>
      F_X4_digest_173 tn_n w6 (x5 + 1) σ4
def F_X4_digest_170  (x1 : Int64) (σ : tn_M) : Option (Int64 × tn_M) :=
  F_X4_digest_173 tn_fuel x1 0 σ
def F_X4_digest_59  : Nat → Int64 → Int32 → Int32 → Int32 → tn_M → Option (Int64 × tn_M)
  | 0, _, _, _, _, _ => none
  | tn_n + 1, x1, x3, x4, x5, σ => 
    if (σ.1 1 5) ≤ x5 then
      F_X4_digest_170 x1 σ
    else
      tn_bd (f_X4_earns x5 0 σ) fun r2 σ1 =>
      tn_lt (α := Int64) ((31 * x1) + r2) fun w3 =>
      tn_bd (f_X4_earns x5 1 σ1) fun r5 σ4 =>
      tn_lt (α := Int64) ((31 * w3) + r5) fun w6 =>
      tn_bd (f_X4_answer x5 σ4) fun r8 σ7 =>
      tn_lt (α := Int64) ((31 * w6) + (Int32.toInt64 r8)) fun w9 =>
      tn_bd (f_X4_rest x5 σ7) fun r11 σ10 =>
      tn_lt (α := Int64) ((31 * w9) + (Int32.toInt64 r11)) fun w12 =>
      tn_bd (f_X0_digit x3 x5 σ10) fun r14 σ13 =>
      tn_lt (α := Int64) ((31 * w12) + (Int32.toInt64 r14)) fun w15 =>
      tn_bd (f_X0_digit x4 x5 σ13) fun r17 σ16 =>
      tn_lt (α := Int64) ((31 * w15) + (Int32.toInt64 r17)) fun w18 =>
      F_X4_digest_59 tn_n w18 x3 x4 (x5 + 1) σ16
def F_X4_digest_31  (x1 : Int64) (σ : tn_M) : Option (Int64 × tn_M) :=
  tn_bd (f_X4_fault σ) fun r2 σ1 =>
  tn_lt (α := Int64) ((31 * x1) + (Int32.toInt64 r2)) fun w3 =>
  tn_bd (f_X4_bestCode 0 σ1) fun r5 σ4 =>
  tn_bd (f_X4_bestCode 1 σ4) fun r7 σ6 =>
  F_X4_digest_59 tn_fuel w3 r5 r7 0 σ6
def F_X4_digest_6  : Nat → Int64 → Int32 → tn_M → Option (Int64 × tn_M)
  | 0, _, _, _ => none
  | tn_n + 1, x1, x3, σ => 
    if 7 < x3 then
      F_X4_digest_31 x1 σ
    else
      tn_bd (f_X4_count x3 σ) fun r2 σ1 =>
      tn_lt (α := Int64) ((31 * x1) + (Int32.toInt64 r2)) fun w3 =>
      F_X4_digest_6 tn_n w3 (x3 + 1) σ1
def f_X4_digest   (σ : tn_M) : Option (Int64 × tn_M) :=
  F_X4_digest_6 tn_fuel 17 0 σ
set_option maxHeartbeats 4000000 in
set_option maxRecDepth 20000 in
theorem b_X4_digest_314 {E : tn_E} {G : tn_G} (g : tn_Ok E G cX4_digest RX4 7 (tn_rm 6 145)) (o : tn_Om E G (some .long))  (x1 : Int64) (σ : tn_M) : tn_V E G tn_le 314 [(0, .ref (tn_ad E 0)), (1, .long x1)] [] σ (F_X4_digest_314 x1 σ) := by
  unfold F_X4_digest_314
  refine tr_ldc2 (v := 31) g wd_687 317 dX4_digest_314 rfl ?_
  refine tr_lload_n g 1 318 dX4_digest_317 rfl rfl rfl ?_
  refine tr_lmul g 319 dX4_digest_318 rfl ?_
  refine tr_aload_n g 0 320 dX4_digest_319 rfl rfl rfl ?_
  refine kv_X4_back g wd_697 ⟨Nat.le_of_ble_eq_true rfl, Nat.le_of_ble_eq_true rfl⟩ (Nat.le_of_ble_eq_true rfl) 323 dX4_digest_320 rfl (fun r2 σ1 => ?_)
  refine tr_i2l g 324 dX4_digest_323 rfl ?_
  refine tr_ladd g 325 dX4_digest_324 rfl ?_
  exact tr_lret g o dX4_digest_325
set_option maxHeartbeats 4000000 in
set_option maxRecDepth 20000 in
theorem b_X4_digest_286 {E : tn_E} {G : tn_G} (g : tn_Ok E G cX4_digest RX4 7 (tn_rm 6 145)) (o : tn_Om E G (some .long))  : ∀ (n : Nat) (x1 : Int64) (x6 : Int32) (σ : tn_M), tn_V E G tn_le 286 [(0, .ref (tn_ad E 0)), (1, .long x1), (5, .ref (tn_ad E 3)), (6, .int x6)] [] σ (F_X4_digest_286 n x1 x6 σ) := by
  intro n
  induction n with
  | zero => intros; exact tr_none
  | succ tn_n ih =>
    intro x1 x6 σ
    rw [F_X4_digest_286]
    refine tr_iload g 3 288 dX4_digest_286 rfl rfl ?_
    refine tr_bipush (v := 8) g 290 dX4_digest_288 rfl rfl ?_
    refine tr_icmp_ge g 314 293 dX4_digest_290 rfl rfl ?_ ?_
    · refine tr_sub [0, 1] (lv' := [(0, .ref (tn_ad E 0)), (1, .long x1)]) rfl ?_
      exact b_X4_digest_314 g o  _ _
    · refine tr_ldc2 (v := 31) g wd_687 296 dX4_digest_293 rfl ?_
      refine tr_lload_n g 1 297 dX4_digest_296 rfl rfl rfl ?_
      refine tr_lmul g 298 dX4_digest_297 rfl ?_
      refine tr_aload g 2 300 dX4_digest_298 rfl rfl ?_
      refine tr_iload g 3 302 dX4_digest_300 rfl rfl ?_
      refine kv_X0_hourOrHabit g wd_608 ⟨Nat.le_of_ble_eq_true rfl, Nat.le_of_ble_eq_true rfl⟩ (Nat.le_of_ble_eq_true rfl) 305 dX4_digest_302 rfl (fun r2 σ1 => ?_)
      refine tr_i2l g 306 dX4_digest_305 rfl ?_
      refine tr_ladd g 307 dX4_digest_306 rfl ?_
      refine tr_ltl (fun w3 => ?_)
      refine tr_lstore_n (lv' := [(1, .long w3), (0, .ref (tn_ad E 0)), (5, .ref (tn_ad E 3)), (6, .int x6)]) g 308 dX4_digest_307 rfl rfl (by decide) rfl ?_
      refine tr_iinc (lv' := [(6, .int (x6 + 1)), (1, .long w3), (0, .ref (tn_ad E 0)), (5, .ref (tn_ad E 3))]) (x := (x6 + 1)) g 3 311 dX4_digest_308 rfl rfl rfl (by decide) rfl ?_
      refine tr_goto g 286 dX4_digest_311 rfl ?_
      refine tr_sub [2, 1, 3, 0] (lv' := [(0, .ref (tn_ad E 0)), (1, .long w3), (5, .ref (tn_ad E 3)), (6, .int (x6 + 1))]) rfl ?_
      exact ih _ _ _
set_option maxHeartbeats 4000000 in
set_option maxRecDepth 20000 in
theorem b_X4_digest_213 {E : tn_E} {G : tn_G} (g : tn_Ok E G cX4_digest RX4 7 (tn_rm 6 145)) (o : tn_Om E G (some .long))  (x1 : Int64) (σ : tn_M) : tn_V E G tn_le 213 [(0, .ref (tn_ad E 0)), (1, .long x1)] [] σ (F_X4_digest_213 x1 σ) := by
  unfold F_X4_digest_213
  refine tr_ldc2 (v := 31) g wd_687 216 dX4_digest_213 rfl ?_
  refine tr_lload_n g 1 217 dX4_digest_216 rfl rfl rfl ?_
  refine tr_lmul g 218 dX4_digest_217 rfl ?_
  refine tr_aload_n g 0 219 dX4_digest_218 rfl rfl rfl ?_
  refine tr_iconst (v := (-1)) g 220 dX4_digest_219 rfl rfl ?_
  refine kv_X4_rest g wd_692 ⟨Nat.le_of_ble_eq_true rfl, Nat.le_of_ble_eq_true rfl⟩ (Nat.le_of_ble_eq_true rfl) 223 dX4_digest_220 rfl (fun r2 σ1 => ?_)
  refine tr_i2l g 224 dX4_digest_223 rfl ?_
  refine tr_ladd g 225 dX4_digest_224 rfl ?_
  refine tr_ltl (fun w3 => ?_)
  refine tr_lstore_n (lv' := [(1, .long w3), (0, .ref (tn_ad E 0))]) g 226 dX4_digest_225 rfl rfl (by decide) rfl ?_
  refine tr_ldc2 (v := 31) g wd_687 229 dX4_digest_226 rfl ?_
  refine tr_lload_n g 0 230 dX4_digest_229 rfl rfl rfl ?_
  refine tr_lmul g 231 dX4_digest_230 rfl ?_
  refine tr_aload_n g 1 232 dX4_digest_231 rfl rfl rfl ?_
  refine kv_X4_countStill g wd_472 ⟨Nat.le_of_ble_eq_true rfl, Nat.le_of_ble_eq_true rfl⟩ (Nat.le_of_ble_eq_true rfl) 235 dX4_digest_232 rfl (fun r5 σ4 => ?_)
  refine tr_i2l g 236 dX4_digest_235 rfl ?_
  refine tr_ladd g 237 dX4_digest_236 rfl ?_
  refine tr_ltl (fun w6 => ?_)
  refine tr_lstore_n (lv' := [(1, .long w6), (0, .ref (tn_ad E 0))]) g 238 dX4_digest_237 rfl rfl (by decide) rfl ?_
  refine tr_ldc2 (v := 31) g wd_687 241 dX4_digest_238 rfl ?_
  refine tr_lload_n g 0 242 dX4_digest_241 rfl rfl rfl ?_
  refine tr_lmul g 243 dX4_digest_242 rfl ?_
  refine tr_aload_n g 1 244 dX4_digest_243 rfl rfl rfl ?_
  refine kv_X4_leastFine g wd_695 ⟨Nat.le_of_ble_eq_true rfl, Nat.le_of_ble_eq_true rfl⟩ (Nat.le_of_ble_eq_true rfl) 247 dX4_digest_244 rfl (fun r8 σ7 => ?_)
  refine tr_i2l g 248 dX4_digest_247 rfl ?_
  refine tr_ladd g 249 dX4_digest_248 rfl ?_
  refine tr_ltl (fun w9 => ?_)
  refine tr_lstore_n (lv' := [(1, .long w9), (0, .ref (tn_ad E 0))]) g 250 dX4_digest_249 rfl rfl (by decide) rfl ?_
  refine tr_ldc2 (v := 31) g wd_687 253 dX4_digest_250 rfl ?_
  refine tr_lload_n g 0 254 dX4_digest_253 rfl rfl rfl ?_
  refine tr_lmul g 255 dX4_digest_254 rfl ?_
  refine tr_aload_n g 1 256 dX4_digest_255 rfl rfl rfl ?_
  refine tr_iconst (v := 0) g 257 dX4_digest_256 rfl rfl ?_
  refine kv_X4_keeps g wd_696 ⟨Nat.le_of_ble_eq_true rfl, Nat.le_of_ble_eq_true rfl⟩ (Nat.le_of_ble_eq_true rfl) 260 dX4_digest_257 rfl (fun r11 σ10 => ?_)
  refine tr_i2l g 261 dX4_digest_260 rfl ?_
  refine tr_ladd g 262 dX4_digest_261 rfl ?_
  refine tr_ltl (fun w12 => ?_)
  refine tr_lstore_n (lv' := [(1, .long w12), (0, .ref (tn_ad E 0))]) g 263 dX4_digest_262 rfl rfl (by decide) rfl ?_
  refine tr_ldc2 (v := 31) g wd_687 266 dX4_digest_263 rfl ?_
  refine tr_lload_n g 0 267 dX4_digest_266 rfl rfl rfl ?_
  refine tr_lmul g 268 dX4_digest_267 rfl ?_
  refine tr_aload_n g 1 269 dX4_digest_268 rfl rfl rfl ?_
  refine tr_iconst (v := 1) g 270 dX4_digest_269 rfl rfl ?_
  refine kv_X4_keeps g wd_696 ⟨Nat.le_of_ble_eq_true rfl, Nat.le_of_ble_eq_true rfl⟩ (Nat.le_of_ble_eq_true rfl) 273 dX4_digest_270 rfl (fun r14 σ13 => ?_)
  refine tr_i2l g 274 dX4_digest_273 rfl ?_
  refine tr_ladd g 275 dX4_digest_274 rfl ?_
  refine tr_ltl (fun w15 => ?_)
  refine tr_lstore_n (lv' := [(1, .long w15), (0, .ref (tn_ad E 0))]) g 276 dX4_digest_275 rfl rfl (by decide) rfl ?_
  refine tr_aload_n g 1 277 dX4_digest_276 rfl rfl rfl ?_
  refine tr_iconst (v := 5) g 278 dX4_digest_277 rfl rfl ?_
  refine kv_X4_sceneAfter g wd_588 ⟨Nat.le_of_ble_eq_true rfl, Nat.le_of_ble_eq_true rfl⟩ (Nat.le_of_ble_eq_true rfl) 281 dX4_digest_278 rfl (fun _ σ16 => ?_)
  refine tr_astore (lv' := [(5, .ref (tn_ad E 3)), (1, .long w15), (0, .ref (tn_ad E 0))]) g 283 dX4_digest_281 rfl (by decide) rfl ?_
  refine tr_iconst (v := 0) g 284 dX4_digest_283 rfl rfl ?_
  refine tr_istore (lv' := [(6, .int 0), (5, .ref (tn_ad E 3)), (1, .long w15), (0, .ref (tn_ad E 0))]) g 286 dX4_digest_284 rfl (by decide) rfl ?_
  refine tr_sub [3, 2, 1, 0] (lv' := [(0, .ref (tn_ad E 0)), (1, .long w15), (5, .ref (tn_ad E 3)), (6, .int 0)]) rfl ?_
  exact b_X4_digest_286 g o  tn_fuel _ _ _
set_option maxHeartbeats 4000000 in
set_option maxRecDepth 20000 in
theorem b_X4_digest_173 {E : tn_E} {G : tn_G} (g : tn_Ok E G cX4_digest RX4 7 (tn_rm 6 145)) (o : tn_Om E G (some .long))  : ∀ (n : Nat) (x1 : Int64) (x5 : Int32) (σ : tn_M), tn_V E G tn_le 173 [(0, .ref (tn_ad E 0)), (1, .long x1), (5, .int x5)] [] σ (F_X4_digest_173 n x1 x5 σ) := by
  intro n
  induction n with
  | zero => intros; exact tr_none
  | succ tn_n ih =>
    intro x1 x5 σ
    rw [F_X4_digest_173]
    refine tr_iload g 2 175 dX4_digest_173 rfl rfl ?_
    refine tr_iconst (v := 1) g 176 dX4_digest_175 rfl rfl ?_
    refine tr_icmp_gt g 213 179 dX4_digest_176 rfl rfl ?_ ?_
    · refine tr_sub [0, 1] (lv' := [(0, .ref (tn_ad E 0)), (1, .long x1)]) rfl ?_
      exact b_X4_digest_213 g o  _ _
    · refine tr_ldc2 (v := 31) g wd_687 182 dX4_digest_179 rfl ?_
      refine tr_lload_n g 1 183 dX4_digest_182 rfl rfl rfl ?_
      refine tr_lmul g 184 dX4_digest_183 rfl ?_
      refine tr_aload_n g 0 185 dX4_digest_184 rfl rfl rfl ?_
      refine tr_iload g 2 187 dX4_digest_185 rfl rfl ?_
      refine tr_iconst (v := 0) g 188 dX4_digest_187 rfl rfl ?_
      refine kv_X4_all g wd_694 ⟨Nat.le_of_ble_eq_true rfl, Nat.le_of_ble_eq_true rfl⟩ (Nat.le_of_ble_eq_true rfl) 191 dX4_digest_188 rfl (fun r2 σ1 => ?_)
      refine tr_ladd g 192 dX4_digest_191 rfl ?_
      refine tr_ltl (fun w3 => ?_)
      refine tr_lstore_n (lv' := [(1, .long w3), (0, .ref (tn_ad E 0)), (5, .int x5)]) g 193 dX4_digest_192 rfl rfl (by decide) rfl ?_
      refine tr_ldc2 (v := 31) g wd_687 196 dX4_digest_193 rfl ?_
      refine tr_lload_n g 0 197 dX4_digest_196 rfl rfl rfl ?_
      refine tr_lmul g 198 dX4_digest_197 rfl ?_
      refine tr_aload_n g 1 199 dX4_digest_198 rfl rfl rfl ?_
      refine tr_iload g 2 201 dX4_digest_199 rfl rfl ?_
      refine tr_iconst (v := 1) g 202 dX4_digest_201 rfl rfl ?_
      refine kv_X4_all g wd_694 ⟨Nat.le_of_ble_eq_true rfl, Nat.le_of_ble_eq_true rfl⟩ (Nat.le_of_ble_eq_true rfl) 205 dX4_digest_202 rfl (fun r5 σ4 => ?_)
      refine tr_ladd g 206 dX4_digest_205 rfl ?_
      refine tr_ltl (fun w6 => ?_)
      refine tr_lstore_n (lv' := [(1, .long w6), (0, .ref (tn_ad E 0)), (5, .int x5)]) g 207 dX4_digest_206 rfl rfl (by decide) rfl ?_
      refine tr_iinc (lv' := [(5, .int (x5 + 1)), (1, .long w6), (0, .ref (tn_ad E 0))]) (x := (x5 + 1)) g 2 210 dX4_digest_207 rfl rfl rfl (by decide) rfl ?_
      refine tr_goto g 173 dX4_digest_210 rfl ?_
      refine tr_sub [2, 1, 0] (lv' := [(0, .ref (tn_ad E 0)), (1, .long w6), (5, .int (x5 + 1))]) rfl ?_
      exact ih _ _ _
set_option maxHeartbeats 4000000 in
set_option maxRecDepth 20000 in
theorem b_X4_digest_170 {E : tn_E} {G : tn_G} (g : tn_Ok E G cX4_digest RX4 7 (tn_rm 6 145)) (o : tn_Om E G (some .long))  (x1 : Int64) (σ : tn_M) : tn_V E G tn_le 170 [(0, .ref (tn_ad E 0)), (1, .long x1)] [] σ (F_X4_digest_170 x1 σ) := by
  unfold F_X4_digest_170
  refine tr_iconst (v := 0) g 171 dX4_digest_170 rfl rfl ?_
  refine tr_istore (lv' := [(5, .int 0), (0, .ref (tn_ad E 0)), (1, .long x1)]) g 173 dX4_digest_171 rfl (by decide) rfl ?_
  refine tr_sub [1, 2, 0] (lv' := [(0, .ref (tn_ad E 0)), (1, .long x1), (5, .int 0)]) rfl ?_
  exact b_X4_digest_173 g o  tn_fuel _ _ _
set_option maxHeartbeats 4000000 in
set_option maxRecDepth 20000 in
theorem b_X4_digest_59 {E : tn_E} {G : tn_G} (g : tn_Ok E G cX4_digest RX4 7 (tn_rm 6 145)) (o : tn_Om E G (some .long))  : ∀ (n : Nat) (x1 : Int64) (x3 : Int32) (x4 : Int32) (x5 : Int32) (σ : tn_M), tn_V E G tn_le 59 [(0, .ref (tn_ad E 0)), (1, .long x1), (3, .int x3), (4, .int x4), (5, .int x5)] [] σ (F_X4_digest_59 n x1 x3 x4 x5 σ) := by
  intro n
  induction n with
  | zero => intros; exact tr_none
  | succ tn_n ih =>
    intro x1 x3 x4 x5 σ
    rw [F_X4_digest_59]
    refine tr_iload g 4 61 dX4_digest_59 rfl rfl ?_
    refine tr_aload_n g 0 62 dX4_digest_61 rfl rfl rfl ?_
    refine gf_X4_0 g wd_225 65 dX4_digest_62 rfl ?_
    refine gf_X2_5 g wd_107 68 dX4_digest_65 rfl ?_
    refine tr_icmp_ge g 170 71 dX4_digest_68 rfl rfl ?_ ?_
    · refine tr_sub [0, 1] (lv' := [(0, .ref (tn_ad E 0)), (1, .long x1)]) rfl ?_
      exact b_X4_digest_170 g o  _ _
    · refine tr_ldc2 (v := 31) g wd_687 74 dX4_digest_71 rfl ?_
      refine tr_lload_n g 1 75 dX4_digest_74 rfl rfl rfl ?_
      refine tr_lmul g 76 dX4_digest_75 rfl ?_
      refine tr_aload_n g 0 77 dX4_digest_76 rfl rfl rfl ?_
      refine tr_iload g 4 79 dX4_digest_77 rfl rfl ?_
      refine tr_iconst (v := 0) g 80 dX4_digest_79 rfl rfl ?_
      refine kv_X4_earns g wd_690 ⟨Nat.le_of_ble_eq_true rfl, Nat.le_of_ble_eq_true rfl⟩ (Nat.le_of_ble_eq_true rfl) 83 dX4_digest_80 rfl (fun r2 σ1 => ?_)
      refine tr_ladd g 84 dX4_digest_83 rfl ?_
      refine tr_ltl (fun w3 => ?_)
      refine tr_lstore_n (lv' := [(1, .long w3), (0, .ref (tn_ad E 0)), (3, .int x3), (4, .int x4), (5, .int x5)]) g 85 dX4_digest_84 rfl rfl (by decide) rfl ?_
      refine tr_ldc2 (v := 31) g wd_687 88 dX4_digest_85 rfl ?_
      refine tr_lload_n g 0 89 dX4_digest_88 rfl rfl rfl ?_
      refine tr_lmul g 90 dX4_digest_89 rfl ?_
      refine tr_aload_n g 1 91 dX4_digest_90 rfl rfl rfl ?_
      refine tr_iload g 4 93 dX4_digest_91 rfl rfl ?_
      refine tr_iconst (v := 1) g 94 dX4_digest_93 rfl rfl ?_
      refine kv_X4_earns g wd_690 ⟨Nat.le_of_ble_eq_true rfl, Nat.le_of_ble_eq_true rfl⟩ (Nat.le_of_ble_eq_true rfl) 97 dX4_digest_94 rfl (fun r5 σ4 => ?_)
      refine tr_ladd g 98 dX4_digest_97 rfl ?_
      refine tr_ltl (fun w6 => ?_)
      refine tr_lstore_n (lv' := [(1, .long w6), (0, .ref (tn_ad E 0)), (3, .int x3), (4, .int x4), (5, .int x5)]) g 99 dX4_digest_98 rfl rfl (by decide) rfl ?_
      refine tr_ldc2 (v := 31) g wd_687 102 dX4_digest_99 rfl ?_
      refine tr_lload_n g 0 103 dX4_digest_102 rfl rfl rfl ?_
      refine tr_lmul g 104 dX4_digest_103 rfl ?_
      refine tr_aload_n g 1 105 dX4_digest_104 rfl rfl rfl ?_
      refine tr_iload g 4 107 dX4_digest_105 rfl rfl ?_
      refine kv_X4_answer g wd_691 ⟨Nat.le_of_ble_eq_true rfl, Nat.le_of_ble_eq_true rfl⟩ (Nat.le_of_ble_eq_true rfl) 110 dX4_digest_107 rfl (fun r8 σ7 => ?_)
      refine tr_i2l g 111 dX4_digest_110 rfl ?_
      refine tr_ladd g 112 dX4_digest_111 rfl ?_
      refine tr_ltl (fun w9 => ?_)
      refine tr_lstore_n (lv' := [(1, .long w9), (0, .ref (tn_ad E 0)), (3, .int x3), (4, .int x4), (5, .int x5)]) g 113 dX4_digest_112 rfl rfl (by decide) rfl ?_
      refine tr_ldc2 (v := 31) g wd_687 116 dX4_digest_113 rfl ?_
      refine tr_lload_n g 0 117 dX4_digest_116 rfl rfl rfl ?_
      refine tr_lmul g 118 dX4_digest_117 rfl ?_
      refine tr_aload_n g 1 119 dX4_digest_118 rfl rfl rfl ?_
      refine tr_iload g 4 121 dX4_digest_119 rfl rfl ?_
      refine kv_X4_rest g wd_692 ⟨Nat.le_of_ble_eq_true rfl, Nat.le_of_ble_eq_true rfl⟩ (Nat.le_of_ble_eq_true rfl) 124 dX4_digest_121 rfl (fun r11 σ10 => ?_)
      refine tr_i2l g 125 dX4_digest_124 rfl ?_
      refine tr_ladd g 126 dX4_digest_125 rfl ?_
      refine tr_ltl (fun w12 => ?_)
      refine tr_lstore_n (lv' := [(1, .long w12), (0, .ref (tn_ad E 0)), (3, .int x3), (4, .int x4), (5, .int x5)]) g 127 dX4_digest_126 rfl rfl (by decide) rfl ?_
      refine tr_ldc2 (v := 31) g wd_687 130 dX4_digest_127 rfl ?_
      refine tr_lload_n g 0 131 dX4_digest_130 rfl rfl rfl ?_
      refine tr_lmul g 132 dX4_digest_131 rfl ?_
      refine tr_aload_n g 1 133 dX4_digest_132 rfl rfl rfl ?_
      refine gf_X4_2 g wd_227 136 dX4_digest_133 rfl ?_
      refine tr_iload_n g 2 137 dX4_digest_136 rfl rfl rfl ?_
      refine tr_iload g 4 139 dX4_digest_137 rfl rfl ?_
      refine kv_X0_digit g wd_693 ⟨Nat.le_of_ble_eq_true rfl, Nat.le_of_ble_eq_true rfl⟩ (Nat.le_of_ble_eq_true rfl) 142 dX4_digest_139 rfl (fun r14 σ13 => ?_)
      refine tr_i2l g 143 dX4_digest_142 rfl ?_
      refine tr_ladd g 144 dX4_digest_143 rfl ?_
      refine tr_ltl (fun w15 => ?_)
      refine tr_lstore_n (lv' := [(1, .long w15), (0, .ref (tn_ad E 0)), (3, .int x3), (4, .int x4), (5, .int x5)]) g 145 dX4_digest_144 rfl rfl (by decide) rfl ?_
      refine tr_ldc2 (v := 31) g wd_687 148 dX4_digest_145 rfl ?_
      refine tr_lload_n g 0 149 dX4_digest_148 rfl rfl rfl ?_
      refine tr_lmul g 150 dX4_digest_149 rfl ?_
      refine tr_aload_n g 1 151 dX4_digest_150 rfl rfl rfl ?_
      refine gf_X4_2 g wd_227 154 dX4_digest_151 rfl ?_
      refine tr_iload g 3 156 dX4_digest_154 rfl rfl ?_
      refine tr_iload g 4 158 dX4_digest_156 rfl rfl ?_
      refine kv_X0_digit g wd_693 ⟨Nat.le_of_ble_eq_true rfl, Nat.le_of_ble_eq_true rfl⟩ (Nat.le_of_ble_eq_true rfl) 161 dX4_digest_158 rfl (fun r17 σ16 => ?_)
      refine tr_i2l g 162 dX4_digest_161 rfl ?_
      refine tr_ladd g 163 dX4_digest_162 rfl ?_
      refine tr_ltl (fun w18 => ?_)
      refine tr_lstore_n (lv' := [(1, .long w18), (0, .ref (tn_ad E 0)), (3, .int x3), (4, .int x4), (5, .int x5)]) g 164 dX4_digest_163 rfl rfl (by decide) rfl ?_
      refine tr_iinc (lv' := [(5, .int (x5 + 1)), (1, .long w18), (0, .ref (tn_ad E 0)), (3, .int x3), (4, .int x4)]) (x := (x5 + 1)) g 4 167 dX4_digest_164 rfl rfl rfl (by decide) rfl ?_
      refine tr_goto g 59 dX4_digest_167 rfl ?_
      refine tr_sub [2, 1, 3, 4, 0] (lv' := [(0, .ref (tn_ad E 0)), (1, .long w18), (3, .int x3), (4, .int x4), (5, .int (x5 + 1))]) rfl ?_
      exact ih _ _ _ _ _
set_option maxHeartbeats 4000000 in
set_option maxRecDepth 20000 in
theorem b_X4_digest_31 {E : tn_E} {G : tn_G} (g : tn_Ok E G cX4_digest RX4 7 (tn_rm 6 145)) (o : tn_Om E G (some .long))  (x1 : Int64) (σ : tn_M) : tn_V E G tn_le 31 [(0, .ref (tn_ad E 0)), (1, .long x1)] [] σ (F_X4_digest_31 x1 σ) := by
  unfold F_X4_digest_31
  refine tr_ldc2 (v := 31) g wd_687 34 dX4_digest_31 rfl ?_
  refine tr_lload_n g 1 35 dX4_digest_34 rfl rfl rfl ?_
  refine tr_lmul g 36 dX4_digest_35 rfl ?_
  refine tr_aload_n g 0 37 dX4_digest_36 rfl rfl rfl ?_
  refine kv_X4_fault g wd_689 ⟨Nat.le_of_ble_eq_true rfl, Nat.le_of_ble_eq_true rfl⟩ (Nat.le_of_ble_eq_true rfl) 40 dX4_digest_37 rfl (fun r2 σ1 => ?_)
  refine tr_i2l g 41 dX4_digest_40 rfl ?_
  refine tr_ladd g 42 dX4_digest_41 rfl ?_
  refine tr_ltl (fun w3 => ?_)
  refine tr_lstore_n (lv' := [(1, .long w3), (0, .ref (tn_ad E 0))]) g 43 dX4_digest_42 rfl rfl (by decide) rfl ?_
  refine tr_aload_n g 1 44 dX4_digest_43 rfl rfl rfl ?_
  refine tr_iconst (v := 0) g 45 dX4_digest_44 rfl rfl ?_
  refine kv_X4_bestCode g wd_504 ⟨Nat.le_of_ble_eq_true rfl, Nat.le_of_ble_eq_true rfl⟩ (Nat.le_of_ble_eq_true rfl) 48 dX4_digest_45 rfl (fun r5 σ4 => ?_)
  refine tr_istore_n (lv' := [(3, .int r5), (1, .long w3), (0, .ref (tn_ad E 0))]) g 49 dX4_digest_48 rfl rfl (by decide) rfl ?_
  refine tr_aload_n g 2 50 dX4_digest_49 rfl rfl rfl ?_
  refine tr_iconst (v := 1) g 51 dX4_digest_50 rfl rfl ?_
  refine kv_X4_bestCode g wd_504 ⟨Nat.le_of_ble_eq_true rfl, Nat.le_of_ble_eq_true rfl⟩ (Nat.le_of_ble_eq_true rfl) 54 dX4_digest_51 rfl (fun r7 σ6 => ?_)
  refine tr_istore (lv' := [(4, .int r7), (3, .int r5), (1, .long w3), (0, .ref (tn_ad E 0))]) g 56 dX4_digest_54 rfl (by decide) rfl ?_
  refine tr_iconst (v := 0) g 57 dX4_digest_56 rfl rfl ?_
  refine tr_istore (lv' := [(5, .int 0), (4, .int r7), (3, .int r5), (1, .long w3), (0, .ref (tn_ad E 0))]) g 59 dX4_digest_57 rfl (by decide) rfl ?_
  refine tr_sub [4, 3, 2, 1, 0] (lv' := [(0, .ref (tn_ad E 0)), (1, .long w3), (3, .int r5), (4, .int r7), (5, .int 0)]) rfl ?_
  exact b_X4_digest_59 g o  tn_fuel _ _ _ _ _
set_option maxHeartbeats 4000000 in
set_option maxRecDepth 20000 in
theorem b_X4_digest_6 {E : tn_E} {G : tn_G} (g : tn_Ok E G cX4_digest RX4 7 (tn_rm 6 145)) (o : tn_Om E G (some .long))  : ∀ (n : Nat) (x1 : Int64) (x3 : Int32) (σ : tn_M), tn_V E G tn_le 6 [(0, .ref (tn_ad E 0)), (1, .long x1), (3, .int x3)] [] σ (F_X4_digest_6 n x1 x3 σ) := by
  intro n
  induction n with
  | zero => intros; exact tr_none
  | succ tn_n ih =>
    intro x1 x3 σ
    rw [F_X4_digest_6]
    refine tr_iload_n g 2 7 dX4_digest_6 rfl rfl rfl ?_
    refine tr_bipush (v := 7) g 9 dX4_digest_7 rfl rfl ?_
    refine tr_icmp_gt g 31 12 dX4_digest_9 rfl rfl ?_ ?_
    · refine tr_sub [0, 1] (lv' := [(0, .ref (tn_ad E 0)), (1, .long x1)]) rfl ?_
      exact b_X4_digest_31 g o  _ _
    · refine tr_ldc2 (v := 31) g wd_687 15 dX4_digest_12 rfl ?_
      refine tr_lload_n g 1 16 dX4_digest_15 rfl rfl rfl ?_
      refine tr_lmul g 17 dX4_digest_16 rfl ?_
      refine tr_aload_n g 0 18 dX4_digest_17 rfl rfl rfl ?_
      refine tr_iload_n g 2 19 dX4_digest_18 rfl rfl rfl ?_
      refine kv_X4_count g wd_688 ⟨Nat.le_of_ble_eq_true rfl, Nat.le_of_ble_eq_true rfl⟩ (Nat.le_of_ble_eq_true rfl) 22 dX4_digest_19 rfl (fun r2 σ1 => ?_)
      refine tr_i2l g 23 dX4_digest_22 rfl ?_
      refine tr_ladd g 24 dX4_digest_23 rfl ?_
      refine tr_ltl (fun w3 => ?_)
      refine tr_lstore_n (lv' := [(1, .long w3), (0, .ref (tn_ad E 0)), (3, .int x3)]) g 25 dX4_digest_24 rfl rfl (by decide) rfl ?_
      refine tr_iinc (lv' := [(3, .int (x3 + 1)), (1, .long w3), (0, .ref (tn_ad E 0))]) (x := (x3 + 1)) g 2 28 dX4_digest_25 rfl rfl rfl (by decide) rfl ?_
      refine tr_goto g 6 dX4_digest_28 rfl ?_
      refine tr_sub [2, 1, 0] (lv' := [(0, .ref (tn_ad E 0)), (1, .long w3), (3, .int (x3 + 1))]) rfl ?_
      exact ih _ _ _
set_option maxHeartbeats 4000000 in
set_option maxRecDepth 20000 in
theorem b_X4_digest {E : tn_E} {G : tn_G} (g : tn_Ok E G cX4_digest RX4 7 (tn_rm 6 145)) (o : tn_Om E G (some .long))   (σ : tn_M) : tn_V E G tn_le 0 [(0, .ref (tn_ad E 0))] [] σ (f_X4_digest σ) := by
  unfold f_X4_digest
  refine tr_ldc2 (v := 17) g wd_686 3 dX4_digest_0 rfl ?_
  refine tr_lstore_n (lv' := [(1, .long 17), (0, .ref (tn_ad E 0))]) g 4 dX4_digest_3 rfl rfl (by decide) rfl ?_
  refine tr_iconst (v := 0) g 5 dX4_digest_4 rfl rfl ?_
  refine tr_istore_n (lv' := [(3, .int 0), (1, .long 17), (0, .ref (tn_ad E 0))]) g 6 dX4_digest_5 rfl rfl (by decide) rfl ?_
  refine tr_sub [2, 1, 0] (lv' := [(0, .ref (tn_ad E 0)), (1, .long 17), (3, .int 0)]) rfl ?_
  exact b_X4_digest_6 g o  tn_fuel _ _ _
theorem ok_X4_digest {E : tn_E} {l : Launch}    {σ : tn_M} {r : Int64} {σ' : tn_M} (h : f_X4_digest  σ = some (r, σ')) : tn_C E l yX4_digest cX4_digest 7 (some .long) (tn_rm 6 145) [.ref (tn_ad E 0)] σ (tn_le r) σ' :=
  tn_met (by decide) (Nat.le_of_ble_eq_true rfl) (fun G _ g o => b_X4_digest g o   σ) h
theorem yy_X4_digest : tn_Yv RX4 yX4_digest cX4_digest 7 (some .long) 0 := ⟨wd_685, wd_683, wd_684, wd_65, by decide, by decide, by decide +kernel⟩
theorem kv_X4_digest {E : tn_E} {G : tn_G} {cc : ByteArray} {own : String} {nL : Nat} {R : Room} {ρ : Type} {enc : ρ → Option Value} {pc : Nat} {lv : List (Nat × Value)} {st : List Value} {σ : tn_M} {kk : Int64 → tn_M → Option (ρ × tn_M)} {i : Nat}   (g : tn_Ok E G cc own nL R)  (hw : Cond.methodLink own i yX4_digest ∈ tn_T) (hroom : 7 ≤ R.frames ∧ 171 ≤ R.locals) (hW : (st.map fun v => v.category).sum ≤ 8) (n : Nat) (hd : decode cc pc = .ok (.invokevirtual i, 3)) (hn : pc + 3 = n) (k : ∀ r σ1, tn_V E G enc n lv (.long r :: st) σ1 (kk r σ1)) : tn_V E G enc pc lv (.ref (tn_ad E 0) :: st) σ (tn_bd (f_X4_digest  σ) kk) :=
  tr_callV (As := []) (enc1 := tn_le) g yy_X4_digest hw (ci := 4) rfl (by decide) rfl (fun r σ1 h => ok_X4_digest   h) ⟨rfl, rfl⟩ ⟨hroom.1, by have h2 := hroom.2; show 8 + (7 + 11) + 145 ≤ R.locals; omega⟩ rfl rfl hW n hd hn k

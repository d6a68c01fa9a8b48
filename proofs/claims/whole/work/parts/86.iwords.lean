/-! the constructors' words -/
theorem wi_66 : Cond.initialized RX2 ∈ tn_T := tn_in 66 (by decide +kernel) (by decide +kernel)
theorem wi_67 : Cond.initialized RX3 ∈ tn_T := tn_in 67 (by decide +kernel) (by decide +kernel)
theorem wi_68 : Cond.initialized RX0 ∈ tn_T := tn_in 68 (by decide +kernel) (by decide +kernel)
theorem wi_69 : Cond.initialized RX1 ∈ tn_T := tn_in 69 (by decide +kernel) (by decide +kernel)
theorem wi_80 : Cond.methodLink RX4 3 Lib.objectInit ∈ tn_T := tn_in 80 (by decide +kernel) (by decide +kernel)
theorem wi_81 : Cond.instanceMethod Lib.objectInit ∈ tn_T := tn_in 81 (by decide +kernel) (by decide +kernel)
theorem wi_82 : Cond.code Lib.objectInit ⟨#[0xb1]⟩ 1 none ∈ tn_T := tn_in 82 (by decide +kernel) (by decide +kernel)
theorem wi_83 : Cond.classLink RX4 9 RX2 ∈ tn_T := tn_in 83 (by decide +kernel) (by decide +kernel)
theorem wi_84 : Cond.instantiable RX2 9 ∈ tn_T := tn_in 84 (by decide +kernel) (by decide +kernel)
theorem wi_86 : Cond.instanceMethod yX2_init ∈ tn_T := tn_in 86 (by decide +kernel) (by decide +kernel)
theorem wi_87 : Cond.code yX2_init cX2_init 1 none ∈ tn_T := tn_in 87 (by decide +kernel) (by decide +kernel)
theorem wi_88 : Cond.methodLink RX2 3 Lib.objectInit ∈ tn_T := tn_in 88 (by decide +kernel) (by decide +kernel)
theorem wi_89 : Cond.classLink RX2 21 "[[I" ∈ tn_T := tn_in 89 (by decide +kernel) (by decide +kernel)
theorem wi_91 : Cond.fieldLink RX2 9 "TillNine$Street" "text" "[I" ∈ tn_T := tn_in 91 (by decide +kernel) (by decide +kernel)
theorem wi_92 : Cond.fieldLink RX2 15 "TillNine$Street" "size" "[I" ∈ tn_T := tn_in 92 (by decide +kernel) (by decide +kernel)
theorem wi_96 : Cond.fieldLink RX2 18 "TillNine$Street" "price" "[I" ∈ tn_T := tn_in 96 (by decide +kernel) (by decide +kernel)
theorem wi_99 : Cond.fieldLink RX2 23 "TillNine$Street" "buyers" "[[I" ∈ tn_T := tn_in 99 (by decide +kernel) (by decide +kernel)
theorem wi_111 : Cond.fieldLink RX2 26 "TillNine$Street" "wrong" "I" ∈ tn_T := tn_in 111 (by decide +kernel) (by decide +kernel)
theorem wi_133 : Cond.arrayClass .int ∈ tn_T := tn_in 133 (by decide +kernel) (by decide +kernel)
theorem wi_134 : Cond.classLink RX4 16 RX3 ∈ tn_T := tn_in 134 (by decide +kernel) (by decide +kernel)
theorem wi_135 : Cond.instantiable RX3 2 ∈ tn_T := tn_in 135 (by decide +kernel) (by decide +kernel)
theorem wi_137 : Cond.instanceMethod yX3_init ∈ tn_T := tn_in 137 (by decide +kernel) (by decide +kernel)
theorem wi_138 : Cond.code yX3_init cX3_init 1 none ∈ tn_T := tn_in 138 (by decide +kernel) (by decide +kernel)
theorem wi_139 : Cond.methodLink RX3 3 Lib.objectInit ∈ tn_T := tn_in 139 (by decide +kernel) (by decide +kernel)
theorem wi_140 : Cond.fieldLink RX3 11 "TillNine$Trade" "table" "[J" ∈ tn_T := tn_in 140 (by decide +kernel) (by decide +kernel)
theorem wi_149 : Cond.arrayClass .long ∈ tn_T := tn_in 149 (by decide +kernel) (by decide +kernel)
theorem wi_150 : Cond.classLink RX4 23 RX0 ∈ tn_T := tn_in 150 (by decide +kernel) (by decide +kernel)
theorem wi_151 : Cond.instantiable RX0 13 ∈ tn_T := tn_in 151 (by decide +kernel) (by decide +kernel)
theorem wi_152 : Cond.methodLink RX4 25 yX0_init ∈ tn_T := tn_in 152 (by decide +kernel) (by decide +kernel)
theorem wi_153 : Cond.instanceMethod yX0_init ∈ tn_T := tn_in 153 (by decide +kernel) (by decide +kernel)
theorem wi_154 : Cond.code yX0_init cX0_init 3 none ∈ tn_T := tn_in 154 (by decide +kernel) (by decide +kernel)
theorem wi_155 : Cond.methodLink RX0 3 Lib.objectInit ∈ tn_T := tn_in 155 (by decide +kernel) (by decide +kernel)
theorem wi_156 : Cond.fieldLink RX0 31 "TillNine$Scene" "street" "LTillNine$Street;" ∈ tn_T := tn_in 156 (by decide +kernel) (by decide +kernel)
theorem wi_157 : Cond.fieldLink RX0 35 "TillNine$Scene" "trade" "LTillNine$Trade;" ∈ tn_T := tn_in 157 (by decide +kernel) (by decide +kernel)
theorem wi_158 : Cond.fieldLink RX0 9 "TillNine$Scene" "until" "[I" ∈ tn_T := tn_in 158 (by decide +kernel) (by decide +kernel)
theorem wi_160 : Cond.fieldLink RX0 15 "TillNine$Scene" "limit" "[I" ∈ tn_T := tn_in 160 (by decide +kernel) (by decide +kernel)
theorem wi_161 : Cond.fieldLink RX0 18 "TillNine$Scene" "habit" "[I" ∈ tn_T := tn_in 161 (by decide +kernel) (by decide +kernel)
theorem wi_162 : Cond.fieldLink RX0 21 "TillNine$Scene" "before" "[I" ∈ tn_T := tn_in 162 (by decide +kernel) (by decide +kernel)
theorem wi_163 : Cond.fieldLink RX0 24 "TillNine$Scene" "lights" "[I" ∈ tn_T := tn_in 163 (by decide +kernel) (by decide +kernel)
theorem wi_165 : Cond.fieldLink RX0 27 "TillNine$Scene" "offers" "[J" ∈ tn_T := tn_in 165 (by decide +kernel) (by decide +kernel)
theorem wi_201 : Cond.classLink RX4 32 RX1 ∈ tn_T := tn_in 201 (by decide +kernel) (by decide +kernel)
theorem wi_202 : Cond.instantiable RX1 4 ∈ tn_T := tn_in 202 (by decide +kernel) (by decide +kernel)
theorem wi_204 : Cond.instanceMethod yX1_init ∈ tn_T := tn_in 204 (by decide +kernel) (by decide +kernel)
theorem wi_205 : Cond.code yX1_init cX1_init 1 none ∈ tn_T := tn_in 205 (by decide +kernel) (by decide +kernel)
theorem wi_206 : Cond.methodLink RX1 3 Lib.objectInit ∈ tn_T := tn_in 206 (by decide +kernel) (by decide +kernel)
theorem wi_207 : Cond.classLink RX1 18 "[[I" ∈ tn_T := tn_in 207 (by decide +kernel) (by decide +kernel)
theorem wi_208 : Cond.fieldLink RX1 9 "TillNine$Shelf" "form" "[I" ∈ tn_T := tn_in 208 (by decide +kernel) (by decide +kernel)
theorem wi_210 : Cond.fieldLink RX1 15 "TillNine$Shelf" "size" "[I" ∈ tn_T := tn_in 210 (by decide +kernel) (by decide +kernel)
theorem wi_212 : Cond.fieldLink RX1 20 "TillNine$Shelf" "items" "[[I" ∈ tn_T := tn_in 212 (by decide +kernel) (by decide +kernel)
theorem wi_225 : Cond.fieldLink RX4 12 "TillNine" "street" "LTillNine$Street;" ∈ tn_T := tn_in 225 (by decide +kernel) (by decide +kernel)
theorem wi_226 : Cond.fieldLink RX4 19 "TillNine" "trade" "LTillNine$Trade;" ∈ tn_T := tn_in 226 (by decide +kernel) (by decide +kernel)
theorem wi_227 : Cond.fieldLink RX4 28 "TillNine" "scene" "LTillNine$Scene;" ∈ tn_T := tn_in 227 (by decide +kernel) (by decide +kernel)
theorem wi_228 : Cond.fieldLink RX4 35 "TillNine" "shelf" "LTillNine$Shelf;" ∈ tn_T := tn_in 228 (by decide +kernel) (by decide +kernel)
theorem wi_229 : Cond.fieldLink RX4 39 "TillNine" "settings" "[I" ∈ tn_T := tn_in 229 (by decide +kernel) (by decide +kernel)
theorem wi_230 : Cond.fieldLink RX4 43 "TillNine" "untils" "[I" ∈ tn_T := tn_in 230 (by decide +kernel) (by decide +kernel)
theorem wi_231 : Cond.fieldLink RX4 46 "TillNine" "turns" "[I" ∈ tn_T := tn_in 231 (by decide +kernel) (by decide +kernel)
theorem wi_703 : Cond.methodLink RX5 1 Lib.objectInit ∈ tn_T := tn_in 703 (by decide +kernel) (by decide +kernel)
theorem wi_704 : Cond.fieldLink RX5 7 "TillNineModel" "forms" "[I" ∈ tn_T := tn_in 704 (by decide +kernel) (by decide +kernel)
theorem wi_705 : Cond.fieldLink RX5 13 "TillNineModel" "sizes" "[I" ∈ tn_T := tn_in 705 (by decide +kernel) (by decide +kernel)
theorem wi_706 : Cond.fieldLink RX5 16 "TillNineModel" "items" "[I" ∈ tn_T := tn_in 706 (by decide +kernel) (by decide +kernel)
theorem wi_707 : Cond.fieldLink RX5 19 "TillNineModel" "moved" "[I" ∈ tn_T := tn_in 707 (by decide +kernel) (by decide +kernel)
theorem wi_709 : Cond.fieldLink RX5 22 "TillNineModel" "text" "[I" ∈ tn_T := tn_in 709 (by decide +kernel) (by decide +kernel)
theorem wi_713 : Cond.fieldLink RX5 25 "TillNineModel" "shopSize" "[I" ∈ tn_T := tn_in 713 (by decide +kernel) (by decide +kernel)
theorem wi_714 : Cond.fieldLink RX5 28 "TillNineModel" "shopCost" "[I" ∈ tn_T := tn_in 714 (by decide +kernel) (by decide +kernel)
theorem wi_716 : Cond.fieldLink RX5 31 "TillNineModel" "sortOf" "[I" ∈ tn_T := tn_in 716 (by decide +kernel) (by decide +kernel)
theorem wi_717 : Cond.fieldLink RX5 34 "TillNineModel" "settings" "[I" ∈ tn_T := tn_in 717 (by decide +kernel) (by decide +kernel)
theorem wi_718 : Cond.fieldLink RX5 37 "TillNineModel" "hours" "[I" ∈ tn_T := tn_in 718 (by decide +kernel) (by decide +kernel)
theorem wi_719 : Cond.fieldLink RX5 40 "TillNineModel" "turns" "[I" ∈ tn_T := tn_in 719 (by decide +kernel) (by decide +kernel)
theorem wi_720 : Cond.fieldLink RX5 43 "TillNineModel" "tried" "[I" ∈ tn_T := tn_in 720 (by decide +kernel) (by decide +kernel)
theorem wi_721 : Cond.fieldLink RX5 46 "TillNineModel" "habits" "[I" ∈ tn_T := tn_in 721 (by decide +kernel) (by decide +kernel)
theorem wi_725 : Cond.fieldLink RX5 49 "TillNineModel" "costs" "[I" ∈ tn_T := tn_in 725 (by decide +kernel) (by decide +kernel)
theorem wi_726 : Cond.fieldLink RX5 52 "TillNineModel" "earned" "[J" ∈ tn_T := tn_in 726 (by decide +kernel) (by decide +kernel)
theorem wi_730 : Cond.fieldLink RX5 56 "TillNineModel" "kept" "[I" ∈ tn_T := tn_in 730 (by decide +kernel) (by decide +kernel)
/-! what the constructors leave -/
def ti_f : Nat → Int32 := upd (upd (upd (upd (fun _ => 0) 0 (-1)) 1 (-1)) 2 (-1)) 3 (-1)
def ti_s : Nat → Int32 := upd (upd (upd (upd (upd (upd (upd (upd (fun _ => 0) 0 0) 1 3) 2 0) 3 0) 4 16) 5 0) 6 0) 7 0
def ti_m : Nat → Int32 := upd (upd (fun _ => 0) 1 3) 4 16
theorem df_X0 : ∀ j, j < 13 → defaultValue (tyX0 j) = vp_V [.null, .null, .null, .null, .null, .null, .null, .null, .int 0, .int 0, .long 0, .int 0, .int 0] j := by
  intro j hj
  rcases (show j = 0 ∨ j = 1 ∨ j = 2 ∨ j = 3 ∨ j = 4 ∨ j = 5 ∨ j = 6 ∨ j = 7 ∨ j = 8 ∨ j = 9 ∨ j = 10 ∨ j = 11 ∨ j = 12 by omega) with rfl | rfl | rfl | rfl | rfl | rfl | rfl | rfl | rfl | rfl | rfl | rfl | rfl <;> rfl
theorem df_X1 : ∀ j, j < 4 → defaultValue (tyX1 j) = vp_V [.null, .null, .null, .int 0] j := by
  intro j hj
  rcases (show j = 0 ∨ j = 1 ∨ j = 2 ∨ j = 3 by omega) with rfl | rfl | rfl | rfl <;> rfl
theorem df_X2 : ∀ j, j < 9 → defaultValue (tyX2 j) = vp_V [.null, .null, .null, .null, .int 0, .int 0, .int 0, .int 0, .int 0] j := by
  intro j hj
  rcases (show j = 0 ∨ j = 1 ∨ j = 2 ∨ j = 3 ∨ j = 4 ∨ j = 5 ∨ j = 6 ∨ j = 7 ∨ j = 8 by omega) with rfl | rfl | rfl | rfl | rfl | rfl | rfl | rfl | rfl <;> rfl
theorem df_X3 : ∀ j, j < 2 → defaultValue (tyX3 j) = vp_V [.null, .int 0] j := by
  intro j hj
  rcases (show j = 0 ∨ j = 1 by omega) with rfl | rfl <;> rfl
theorem df_X4 : ∀ j, j < 7 → defaultValue (tyX4 j) = vp_V [.null, .null, .null, .null, .null, .null, .null] j := by
  intro j hj
  rcases (show j = 0 ∨ j = 1 ∨ j = 2 ∨ j = 3 ∨ j = 4 ∨ j = 5 ∨ j = 6 by omega) with rfl | rfl | rfl | rfl | rfl | rfl | rfl <;> rfl
theorem df_X5 : ∀ j, j < 27 → defaultValue (tyX5 j) = vp_V [.null, .null, .null, .null, .int 0, .null, .int 0, .int 0, .int 0, .null, .null, .int 0, .null, .null, .null, .null, .null, .null, .int 0, .int 0, .int 0, .null, .null, .long 0, .int 0, .long 0, .null] j := by
  intro j hj
  rcases (show j = 0 ∨ j = 1 ∨ j = 2 ∨ j = 3 ∨ j = 4 ∨ j = 5 ∨ j = 6 ∨ j = 7 ∨ j = 8 ∨ j = 9 ∨ j = 10 ∨ j = 11 ∨ j = 12 ∨ j = 13 ∨ j = 14 ∨ j = 15 ∨ j = 16 ∨ j = 17 ∨ j = 18 ∨ j = 19 ∨ j = 20 ∨ j = 21 ∨ j = 22 ∨ j = 23 ∨ j = 24 ∨ j = 25 ∨ j = 26 by omega) with rfl | rfl | rfl | rfl | rfl | rfl | rfl | rfl | rfl | rfl | rfl | rfl | rfl | rfl | rfl | rfl | rfl | rfl | rfl | rfl | rfl | rfl | rfl | rfl | rfl | rfl | rfl <;> rfl

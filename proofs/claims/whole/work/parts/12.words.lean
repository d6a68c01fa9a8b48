/-! words of the tables, by their places -/
theorem wd_0 : Cond.selects RX2 yX2_parse yX2_parse ∈ tn_T := tn_in 0 (by decide +kernel) (by decide +kernel)
theorem wd_1 : Cond.selects RX2 yX2_takePart yX2_takePart ∈ tn_T := tn_in 1 (by decide +kernel) (by decide +kernel)
theorem wd_2 : Cond.selects RX2 yX2_next yX2_next ∈ tn_T := tn_in 2 (by decide +kernel) (by decide +kernel)
theorem wd_3 : Cond.selects RX2 yX2_takeShop yX2_takeShop ∈ tn_T := tn_in 3 (by decide +kernel) (by decide +kernel)
theorem wd_4 : Cond.selects RX2 yX2_takeFigure yX2_takeFigure ∈ tn_T := tn_in 4 (by decide +kernel) (by decide +kernel)
theorem wd_5 : Cond.selects RX2 yX2_fail yX2_fail ∈ tn_T := tn_in 5 (by decide +kernel) (by decide +kernel)
theorem wd_6 : Cond.selects RX2 yX2_takeSign yX2_takeSign ∈ tn_T := tn_in 6 (by decide +kernel) (by decide +kernel)
theorem wd_7 : Cond.selects RX2 yX2_takeNumber yX2_takeNumber ∈ tn_T := tn_in 7 (by decide +kernel) (by decide +kernel)
theorem wd_8 : Cond.selects RX2 yX2_takeSort yX2_takeSort ∈ tn_T := tn_in 8 (by decide +kernel) (by decide +kernel)
theorem wd_9 : Cond.selects RX2 yX2_takeLiked yX2_takeLiked ∈ tn_T := tn_in 9 (by decide +kernel) (by decide +kernel)
theorem wd_10 : Cond.selects RX4 yX4_noShop yX4_noShop ∈ tn_T := tn_in 10 (by decide +kernel) (by decide +kernel)
theorem wd_11 : Cond.selects RX4 yX4_sceneNow yX4_sceneNow ∈ tn_T := tn_in 11 (by decide +kernel) (by decide +kernel)
theorem wd_12 : Cond.selects RX3 yX3_addBuyers yX3_addBuyers ∈ tn_T := tn_in 12 (by decide +kernel) (by decide +kernel)
theorem wd_13 : Cond.selects RX3 yX3_part yX3_part ∈ tn_T := tn_in 13 (by decide +kernel) (by decide +kernel)
theorem wd_14 : Cond.selects RX0 yX0_taken yX0_taken ∈ tn_T := tn_in 14 (by decide +kernel) (by decide +kernel)
theorem wd_15 : Cond.selects RX0 yX0_burden yX0_burden ∈ tn_T := tn_in 15 (by decide +kernel) (by decide +kernel)
theorem wd_16 : Cond.selects RX0 yX0_weigh yX0_weigh ∈ tn_T := tn_in 16 (by decide +kernel) (by decide +kernel)
theorem wd_17 : Cond.selects RX4 yX4_countStill yX4_countStill ∈ tn_T := tn_in 17 (by decide +kernel) (by decide +kernel)
theorem wd_18 : Cond.selects RX4 yX4_placedBest yX4_placedBest ∈ tn_T := tn_in 18 (by decide +kernel) (by decide +kernel)
theorem wd_19 : Cond.selects RX4 yX4_bestCode yX4_bestCode ∈ tn_T := tn_in 19 (by decide +kernel) (by decide +kernel)
theorem wd_20 : Cond.selects RX4 yX4_bestCapNow yX4_bestCapNow ∈ tn_T := tn_in 20 (by decide +kernel) (by decide +kernel)
theorem wd_21 : Cond.selects RX4 yX4_restsUnder yX4_restsUnder ∈ tn_T := tn_in 21 (by decide +kernel) (by decide +kernel)
theorem wd_22 : Cond.selects RX4 yX4_sceneAfter yX4_sceneAfter ∈ tn_T := tn_in 22 (by decide +kernel) (by decide +kernel)
theorem wd_23 : Cond.selects RX0 yX0_remember yX0_remember ∈ tn_T := tn_in 23 (by decide +kernel) (by decide +kernel)
theorem wd_24 : Cond.selects RX0 yX0_recall yX0_recall ∈ tn_T := tn_in 24 (by decide +kernel) (by decide +kernel)
theorem wd_25 : Cond.selects RX5 yX5_met yX5_met ∈ tn_T := tn_in 25 (by decide +kernel) (by decide +kernel)
theorem wd_26 : Cond.selects RX5 yX5_lacks yX5_lacks ∈ tn_T := tn_in 26 (by decide +kernel) (by decide +kernel)
theorem wd_27 : Cond.selects RX5 yX5_reads yX5_reads ∈ tn_T := tn_in 27 (by decide +kernel) (by decide +kernel)
theorem wd_28 : Cond.selects RX5 yX5_here yX5_here ∈ tn_T := tn_in 28 (by decide +kernel) (by decide +kernel)
theorem wd_29 : Cond.selects RX5 yX5_readsShop yX5_readsShop ∈ tn_T := tn_in 29 (by decide +kernel) (by decide +kernel)
theorem wd_30 : Cond.selects RX5 yX5_figures yX5_figures ∈ tn_T := tn_in 30 (by decide +kernel) (by decide +kernel)
theorem wd_31 : Cond.selects RX5 yX5_goes yX5_goes ∈ tn_T := tn_in 31 (by decide +kernel) (by decide +kernel)
theorem wd_32 : Cond.selects RX5 yX5_readsSort yX5_readsSort ∈ tn_T := tn_in 32 (by decide +kernel) (by decide +kernel)
theorem wd_33 : Cond.selects RX5 yX5_behind yX5_behind ∈ tn_T := tn_in 33 (by decide +kernel) (by decide +kernel)
theorem wd_34 : Cond.selects RX5 yX5_stops yX5_stops ∈ tn_T := tn_in 34 (by decide +kernel) (by decide +kernel)
theorem wd_35 : Cond.selects RX5 yX5_isShop yX5_isShop ∈ tn_T := tn_in 35 (by decide +kernel) (by decide +kernel)
theorem wd_36 : Cond.selects RX5 yX5_isBound yX5_isBound ∈ tn_T := tn_in 36 (by decide +kernel) (by decide +kernel)
theorem wd_37 : Cond.selects RX5 yX5_tries yX5_tries ∈ tn_T := tn_in 37 (by decide +kernel) (by decide +kernel)
theorem wd_38 : Cond.selects RX5 yX5_openIn yX5_openIn ∈ tn_T := tn_in 38 (by decide +kernel) (by decide +kernel)
theorem wd_39 : Cond.selects RX5 yX5_earnsOf yX5_earnsOf ∈ tn_T := tn_in 39 (by decide +kernel) (by decide +kernel)
theorem wd_40 : Cond.selects RX5 yX5_earnAll yX5_earnAll ∈ tn_T := tn_in 40 (by decide +kernel) (by decide +kernel)
theorem wd_41 : Cond.selects RX5 yX5_buys yX5_buys ∈ tn_T := tn_in 41 (by decide +kernel) (by decide +kernel)
theorem wd_42 : Cond.selects RX5 yX5_parts yX5_parts ∈ tn_T := tn_in 42 (by decide +kernel) (by decide +kernel)
theorem wd_43 : Cond.selects RX5 yX5_sizesOf yX5_sizesOf ∈ tn_T := tn_in 43 (by decide +kernel) (by decide +kernel)
theorem wd_44 : Cond.selects RX5 yX5_allOf yX5_allOf ∈ tn_T := tn_in 44 (by decide +kernel) (by decide +kernel)
theorem wd_45 : Cond.selects RX5 yX5_together yX5_together ∈ tn_T := tn_in 45 (by decide +kernel) (by decide +kernel)
theorem wd_46 : Cond.selects RX5 yX5_answerNow yX5_answerNow ∈ tn_T := tn_in 46 (by decide +kernel) (by decide +kernel)
theorem wd_47 : Cond.selects RX5 yX5_answerOf yX5_answerOf ∈ tn_T := tn_in 47 (by decide +kernel) (by decide +kernel)
theorem wd_48 : Cond.selects RX5 yX5_earnsBy yX5_earnsBy ∈ tn_T := tn_in 48 (by decide +kernel) (by decide +kernel)
theorem wd_49 : Cond.selects RX5 yX5_restOf yX5_restOf ∈ tn_T := tn_in 49 (by decide +kernel) (by decide +kernel)
theorem wd_50 : Cond.selects RX5 yX5_runsDown yX5_runsDown ∈ tn_T := tn_in 50 (by decide +kernel) (by decide +kernel)
theorem wd_51 : Cond.selects RX5 yX5_roundGoes yX5_roundGoes ∈ tn_T := tn_in 51 (by decide +kernel) (by decide +kernel)
theorem wd_52 : Cond.selects RX5 yX5_stillOf yX5_stillOf ∈ tn_T := tn_in 52 (by decide +kernel) (by decide +kernel)
theorem wd_53 : Cond.selects RX5 yX5_lays yX5_lays ∈ tn_T := tn_in 53 (by decide +kernel) (by decide +kernel)
theorem wd_54 : Cond.selects RX5 yX5_isStill yX5_isStill ∈ tn_T := tn_in 54 (by decide +kernel) (by decide +kernel)
theorem wd_55 : Cond.selects RX5 yX5_bestOf yX5_bestOf ∈ tn_T := tn_in 55 (by decide +kernel) (by decide +kernel)
theorem wd_56 : Cond.selects RX5 yX5_findBest yX5_findBest ∈ tn_T := tn_in 56 (by decide +kernel) (by decide +kernel)
theorem wd_57 : Cond.selects RX5 yX5_leastNow yX5_leastNow ∈ tn_T := tn_in 57 (by decide +kernel) (by decide +kernel)
theorem wd_58 : Cond.selects RX5 yX5_keepsOf yX5_keepsOf ∈ tn_T := tn_in 58 (by decide +kernel) (by decide +kernel)
theorem wd_59 : Cond.selects RX5 yX5_layTurn yX5_layTurn ∈ tn_T := tn_in 59 (by decide +kernel) (by decide +kernel)
theorem wd_60 : Cond.selects RX5 yX5_weeksOf yX5_weeksOf ∈ tn_T := tn_in 60 (by decide +kernel) (by decide +kernel)
theorem wd_61 : Cond.selects RX5 yX5_weekGoes yX5_weekGoes ∈ tn_T := tn_in 61 (by decide +kernel) (by decide +kernel)
theorem wd_62 : Cond.selects RX5 yX5_backNow yX5_backNow ∈ tn_T := tn_in 62 (by decide +kernel) (by decide +kernel)
theorem wd_63 : Cond.selects RX5 yX5_isNoWayBack yX5_isNoWayBack ∈ tn_T := tn_in 63 (by decide +kernel) (by decide +kernel)
theorem wd_65 : Cond.initialized yX4_digest.cls ∈ tn_T := tn_in 65 (by decide +kernel) (by decide +kernel)
theorem wd_66 : Cond.initialized yX2_crowd.cls ∈ tn_T := tn_in 66 (by decide +kernel) (by decide +kernel)
theorem wd_67 : Cond.initialized yX3_fill.cls ∈ tn_T := tn_in 67 (by decide +kernel) (by decide +kernel)
theorem wd_68 : Cond.initialized yX0_earlyIsStill.cls ∈ tn_T := tn_in 68 (by decide +kernel) (by decide +kernel)
theorem wd_69 : Cond.initialized yX1_lacks.cls ∈ tn_T := tn_in 69 (by decide +kernel) (by decide +kernel)
theorem wd_70 : Cond.initialized yX5_digest.cls ∈ tn_T := tn_in 70 (by decide +kernel) (by decide +kernel)
theorem wd_71 : Cond.initialized "java/lang/Math" ∈ tn_T := tn_in 71 (by decide +kernel) (by decide +kernel)
theorem wd_72 : Cond.initialized yJ7_fill_d0a16.cls ∈ tn_T := tn_in 72 (by decide +kernel) (by decide +kernel)
theorem wd_73 : Cond.initialized yJ6_bitCount_0f7a4.cls ∈ tn_T := tn_in 73 (by decide +kernel) (by decide +kernel)
theorem wd_74 : Cond.initialized "java/lang/System" ∈ tn_T := tn_in 74 (by decide +kernel) (by decide +kernel)
theorem wd_91 : Cond.fieldLink RX2 9 "TillNine$Street" "text" "[I" ∈ tn_T := tn_in 91 (by decide +kernel) (by decide +kernel)
theorem wd_92 : Cond.fieldLink RX2 15 "TillNine$Street" "size" "[I" ∈ tn_T := tn_in 92 (by decide +kernel) (by decide +kernel)
theorem wd_93 : Cond.fieldLink RX0 79 "TillNine$Street" "size" "[I" ∈ tn_T := tn_in 93 (by decide +kernel) (by decide +kernel)
theorem wd_94 : Cond.fieldLink RX3 62 "TillNine$Street" "size" "[I" ∈ tn_T := tn_in 94 (by decide +kernel) (by decide +kernel)
theorem wd_95 : Cond.fieldLink RX4 71 "TillNine$Street" "size" "[I" ∈ tn_T := tn_in 95 (by decide +kernel) (by decide +kernel)
theorem wd_96 : Cond.fieldLink RX2 18 "TillNine$Street" "price" "[I" ∈ tn_T := tn_in 96 (by decide +kernel) (by decide +kernel)
theorem wd_97 : Cond.fieldLink RX4 74 "TillNine$Street" "price" "[I" ∈ tn_T := tn_in 97 (by decide +kernel) (by decide +kernel)
theorem wd_98 : Cond.fieldLink RX0 94 "TillNine$Street" "price" "[I" ∈ tn_T := tn_in 98 (by decide +kernel) (by decide +kernel)
theorem wd_99 : Cond.fieldLink RX2 23 "TillNine$Street" "buyers" "[[I" ∈ tn_T := tn_in 99 (by decide +kernel) (by decide +kernel)
theorem wd_100 : Cond.fieldLink RX3 34 "TillNine$Street" "buyers" "[[I" ∈ tn_T := tn_in 100 (by decide +kernel) (by decide +kernel)
theorem wd_101 : Cond.fieldLink RX4 80 "TillNine$Street" "buyers" "[[I" ∈ tn_T := tn_in 101 (by decide +kernel) (by decide +kernel)
theorem wd_102 : Cond.fieldLink RX2 30 "TillNine$Street" "length" "I" ∈ tn_T := tn_in 102 (by decide +kernel) (by decide +kernel)
theorem wd_103 : Cond.fieldLink RX4 49 "TillNine$Street" "length" "I" ∈ tn_T := tn_in 103 (by decide +kernel) (by decide +kernel)
theorem wd_104 : Cond.fieldLink RX0 70 "TillNine$Street" "shops" "I" ∈ tn_T := tn_in 104 (by decide +kernel) (by decide +kernel)
theorem wd_105 : Cond.fieldLink RX3 25 "TillNine$Street" "shops" "I" ∈ tn_T := tn_in 105 (by decide +kernel) (by decide +kernel)
theorem wd_106 : Cond.fieldLink RX2 39 "TillNine$Street" "shops" "I" ∈ tn_T := tn_in 106 (by decide +kernel) (by decide +kernel)
theorem wd_107 : Cond.fieldLink RX4 247 "TillNine$Street" "shops" "I" ∈ tn_T := tn_in 107 (by decide +kernel) (by decide +kernel)
theorem wd_108 : Cond.fieldLink RX3 31 "TillNine$Street" "sorts" "I" ∈ tn_T := tn_in 108 (by decide +kernel) (by decide +kernel)
theorem wd_109 : Cond.fieldLink RX2 36 "TillNine$Street" "sorts" "I" ∈ tn_T := tn_in 109 (by decide +kernel) (by decide +kernel)
theorem wd_110 : Cond.fieldLink RX4 77 "TillNine$Street" "sorts" "I" ∈ tn_T := tn_in 110 (by decide +kernel) (by decide +kernel)
theorem wd_111 : Cond.fieldLink RX2 26 "TillNine$Street" "wrong" "I" ∈ tn_T := tn_in 111 (by decide +kernel) (by decide +kernel)
theorem wd_112 : Cond.fieldLink RX4 64 "TillNine$Street" "wrong" "I" ∈ tn_T := tn_in 112 (by decide +kernel) (by decide +kernel)
theorem wd_113 : Cond.fieldLink RX2 42 "TillNine$Street" "at" "I" ∈ tn_T := tn_in 113 (by decide +kernel) (by decide +kernel)
theorem wd_140 : Cond.fieldLink RX3 11 "TillNine$Trade" "table" "[J" ∈ tn_T := tn_in 140 (by decide +kernel) (by decide +kernel)
theorem wd_141 : Cond.fieldLink RX0 86 "TillNine$Trade" "table" "[J" ∈ tn_T := tn_in 141 (by decide +kernel) (by decide +kernel)
theorem wd_142 : Cond.fieldLink RX4 57 "TillNine$Trade" "stale" "Z" ∈ tn_T := tn_in 142 (by decide +kernel) (by decide +kernel)
theorem wd_143 : Cond.fieldLink RX3 15 "TillNine$Trade" "stale" "Z" ∈ tn_T := tn_in 143 (by decide +kernel) (by decide +kernel)
theorem wd_156 : Cond.fieldLink RX0 31 "TillNine$Scene" "street" "LTillNine$Street;" ∈ tn_T := tn_in 156 (by decide +kernel) (by decide +kernel)
theorem wd_157 : Cond.fieldLink RX0 35 "TillNine$Scene" "trade" "LTillNine$Trade;" ∈ tn_T := tn_in 157 (by decide +kernel) (by decide +kernel)
theorem wd_158 : Cond.fieldLink RX0 9 "TillNine$Scene" "until" "[I" ∈ tn_T := tn_in 158 (by decide +kernel) (by decide +kernel)
theorem wd_159 : Cond.fieldLink RX4 135 "TillNine$Scene" "until" "[I" ∈ tn_T := tn_in 159 (by decide +kernel) (by decide +kernel)
theorem wd_160 : Cond.fieldLink RX0 15 "TillNine$Scene" "limit" "[I" ∈ tn_T := tn_in 160 (by decide +kernel) (by decide +kernel)
theorem wd_161 : Cond.fieldLink RX0 18 "TillNine$Scene" "habit" "[I" ∈ tn_T := tn_in 161 (by decide +kernel) (by decide +kernel)
theorem wd_162 : Cond.fieldLink RX0 21 "TillNine$Scene" "before" "[I" ∈ tn_T := tn_in 162 (by decide +kernel) (by decide +kernel)
theorem wd_163 : Cond.fieldLink RX0 24 "TillNine$Scene" "lights" "[I" ∈ tn_T := tn_in 163 (by decide +kernel) (by decide +kernel)
theorem wd_164 : Cond.fieldLink RX4 105 "TillNine$Scene" "lights" "[I" ∈ tn_T := tn_in 164 (by decide +kernel) (by decide +kernel)
theorem wd_165 : Cond.fieldLink RX0 27 "TillNine$Scene" "offers" "[J" ∈ tn_T := tn_in 165 (by decide +kernel) (by decide +kernel)
theorem wd_166 : Cond.fieldLink RX0 51 "TillNine$Scene" "cap" "I" ∈ tn_T := tn_in 166 (by decide +kernel) (by decide +kernel)
theorem wd_167 : Cond.fieldLink RX0 55 "TillNine$Scene" "small" "I" ∈ tn_T := tn_in 167 (by decide +kernel) (by decide +kernel)
theorem wd_168 : Cond.fieldLink RX0 60 "TillNine$Scene" "fine" "J" ∈ tn_T := tn_in 168 (by decide +kernel) (by decide +kernel)
theorem wd_169 : Cond.fieldLink RX4 162 "TillNine$Scene" "fine" "J" ∈ tn_T := tn_in 169 (by decide +kernel) (by decide +kernel)
theorem wd_170 : Cond.fieldLink RX0 64 "TillNine$Scene" "held" "I" ∈ tn_T := tn_in 170 (by decide +kernel) (by decide +kernel)
theorem wd_171 : Cond.fieldLink RX4 193 "TillNine$Scene" "held" "I" ∈ tn_T := tn_in 171 (by decide +kernel) (by decide +kernel)
theorem wd_172 : Cond.fieldLink RX0 67 "TillNine$Scene" "rounds" "I" ∈ tn_T := tn_in 172 (by decide +kernel) (by decide +kernel)
theorem wd_173 : Cond.fieldLink RX4 132 "TillNine$Scene" "rounds" "I" ∈ tn_T := tn_in 173 (by decide +kernel) (by decide +kernel)
theorem wd_208 : Cond.fieldLink RX1 9 "TillNine$Shelf" "form" "[I" ∈ tn_T := tn_in 208 (by decide +kernel) (by decide +kernel)
theorem wd_209 : Cond.fieldLink RX4 224 "TillNine$Shelf" "form" "[I" ∈ tn_T := tn_in 209 (by decide +kernel) (by decide +kernel)
theorem wd_210 : Cond.fieldLink RX1 15 "TillNine$Shelf" "size" "[I" ∈ tn_T := tn_in 210 (by decide +kernel) (by decide +kernel)
theorem wd_211 : Cond.fieldLink RX4 91 "TillNine$Shelf" "size" "[I" ∈ tn_T := tn_in 211 (by decide +kernel) (by decide +kernel)
theorem wd_212 : Cond.fieldLink RX1 20 "TillNine$Shelf" "items" "[[I" ∈ tn_T := tn_in 212 (by decide +kernel) (by decide +kernel)
theorem wd_213 : Cond.fieldLink RX4 98 "TillNine$Shelf" "items" "[[I" ∈ tn_T := tn_in 213 (by decide +kernel) (by decide +kernel)
theorem wd_214 : Cond.fieldLink RX1 23 "TillNine$Shelf" "latest" "I" ∈ tn_T := tn_in 214 (by decide +kernel) (by decide +kernel)
theorem wd_215 : Cond.fieldLink RX4 257 "TillNine$Shelf" "latest" "I" ∈ tn_T := tn_in 215 (by decide +kernel) (by decide +kernel)
theorem wd_225 : Cond.fieldLink RX4 12 "TillNine" "street" "LTillNine$Street;" ∈ tn_T := tn_in 225 (by decide +kernel) (by decide +kernel)
theorem wd_226 : Cond.fieldLink RX4 19 "TillNine" "trade" "LTillNine$Trade;" ∈ tn_T := tn_in 226 (by decide +kernel) (by decide +kernel)
theorem wd_227 : Cond.fieldLink RX4 28 "TillNine" "scene" "LTillNine$Scene;" ∈ tn_T := tn_in 227 (by decide +kernel) (by decide +kernel)
theorem wd_228 : Cond.fieldLink RX4 35 "TillNine" "shelf" "LTillNine$Shelf;" ∈ tn_T := tn_in 228 (by decide +kernel) (by decide +kernel)
theorem wd_229 : Cond.fieldLink RX4 39 "TillNine" "settings" "[I" ∈ tn_T := tn_in 229 (by decide +kernel) (by decide +kernel)
theorem wd_230 : Cond.fieldLink RX4 43 "TillNine" "untils" "[I" ∈ tn_T := tn_in 230 (by decide +kernel) (by decide +kernel)
theorem wd_231 : Cond.fieldLink RX4 46 "TillNine" "turns" "[I" ∈ tn_T := tn_in 231 (by decide +kernel) (by decide +kernel)
theorem wd_247 : Cond.methodLink RL 13 yX4_type ∈ tn_T := tn_in 247 (by decide +kernel) (by decide +kernel)
theorem wd_248 : Cond.instanceMethod yX4_type ∈ tn_T := tn_in 248 (by decide +kernel) (by decide +kernel)
theorem wd_249 : Cond.selects RX4 yX4_type yX4_type ∈ tn_T := tn_in 249 (by decide +kernel) (by decide +kernel)
set_option maxRecDepth 50000 in
theorem wd_250 : Cond.code yX4_type cX4_type 2 (some .int) ∈ tn_T := tn_in 250 (by rfl) (by decide +kernel)
theorem wd_251 : Cond.methodLink RX4 53 yX2_append ∈ tn_T := tn_in 251 (by decide +kernel) (by decide +kernel)
theorem wd_252 : Cond.instanceMethod yX2_append ∈ tn_T := tn_in 252 (by decide +kernel) (by decide +kernel)
theorem wd_253 : Cond.selects RX2 yX2_append yX2_append ∈ tn_T := tn_in 253 (by decide +kernel) (by decide +kernel)
set_option maxRecDepth 50000 in
theorem wd_254 : Cond.code yX2_append cX2_append 2 none ∈ tn_T := tn_in 254 (by rfl) (by decide +kernel)
theorem wd_255 : Cond.methodLink RX2 33 yX2_parse ∈ tn_T := tn_in 255 (by decide +kernel) (by decide +kernel)
theorem wd_257 : Cond.instanceMethod yX2_parse ∈ tn_T := tn_in 257 (by decide +kernel) (by decide +kernel)
set_option maxRecDepth 50000 in
theorem wd_258 : Cond.code yX2_parse cX2_parse 3 none ∈ tn_T := tn_in 258 (by rfl) (by decide +kernel)
theorem wd_259 : Cond.methodLink RX2 45 yX2_takePart ∈ tn_T := tn_in 259 (by decide +kernel) (by decide +kernel)
theorem wd_261 : Cond.instanceMethod yX2_takePart ∈ tn_T := tn_in 261 (by decide +kernel) (by decide +kernel)
set_option maxRecDepth 50000 in
theorem wd_262 : Cond.code yX2_takePart cX2_takePart 2 none ∈ tn_T := tn_in 262 (by rfl) (by decide +kernel)
theorem wd_263 : Cond.methodLink RX2 52 yX2_next ∈ tn_T := tn_in 263 (by decide +kernel) (by decide +kernel)
theorem wd_265 : Cond.instanceMethod yX2_next ∈ tn_T := tn_in 265 (by decide +kernel) (by decide +kernel)
set_option maxRecDepth 50000 in
theorem wd_266 : Cond.code yX2_next cX2_next 1 (some .int) ∈ tn_T := tn_in 266 (by rfl) (by decide +kernel)
theorem wd_267 : Cond.methodLink RX2 56 yX2_takeShop ∈ tn_T := tn_in 267 (by decide +kernel) (by decide +kernel)
theorem wd_269 : Cond.instanceMethod yX2_takeShop ∈ tn_T := tn_in 269 (by decide +kernel) (by decide +kernel)
set_option maxRecDepth 50000 in
theorem wd_270 : Cond.code yX2_takeShop cX2_takeShop 3 none ∈ tn_T := tn_in 270 (by rfl) (by decide +kernel)
theorem wd_271 : Cond.methodLink RX2 65 yX2_takeFigure ∈ tn_T := tn_in 271 (by decide +kernel) (by decide +kernel)
theorem wd_273 : Cond.instanceMethod yX2_takeFigure ∈ tn_T := tn_in 273 (by decide +kernel) (by decide +kernel)
set_option maxRecDepth 50000 in
theorem wd_274 : Cond.code yX2_takeFigure cX2_takeFigure 2 (some .int) ∈ tn_T := tn_in 274 (by rfl) (by decide +kernel)
theorem wd_275 : Cond.methodLink RX2 62 yX2_fail ∈ tn_T := tn_in 275 (by decide +kernel) (by decide +kernel)
theorem wd_277 : Cond.instanceMethod yX2_fail ∈ tn_T := tn_in 277 (by decide +kernel) (by decide +kernel)
set_option maxRecDepth 50000 in
theorem wd_278 : Cond.code yX2_fail cX2_fail 2 none ∈ tn_T := tn_in 278 (by rfl) (by decide +kernel)
theorem wd_279 : Cond.methodLink RX2 48 yX2_takeSign ∈ tn_T := tn_in 279 (by decide +kernel) (by decide +kernel)
theorem wd_281 : Cond.instanceMethod yX2_takeSign ∈ tn_T := tn_in 281 (by decide +kernel) (by decide +kernel)
set_option maxRecDepth 50000 in
theorem wd_282 : Cond.code yX2_takeSign cX2_takeSign 2 none ∈ tn_T := tn_in 282 (by rfl) (by decide +kernel)
theorem wd_283 : Cond.methodLink RX2 68 yX2_takeNumber ∈ tn_T := tn_in 283 (by decide +kernel) (by decide +kernel)
theorem wd_285 : Cond.instanceMethod yX2_takeNumber ∈ tn_T := tn_in 285 (by decide +kernel) (by decide +kernel)
set_option maxRecDepth 50000 in
theorem wd_286 : Cond.code yX2_takeNumber cX2_takeNumber 6 (some .int) ∈ tn_T := tn_in 286 (by rfl) (by decide +kernel)
theorem wd_287 : Cond.methodLink RX2 75 yX2_isFigure ∈ tn_T := tn_in 287 (by decide +kernel) (by decide +kernel)
theorem wd_288 : Cond.static yX2_isFigure ∈ tn_T := tn_in 288 (by decide +kernel) (by decide +kernel)
set_option maxRecDepth 50000 in
theorem wd_289 : Cond.code yX2_isFigure cX2_isFigure 1 (some .boolean) ∈ tn_T := tn_in 289 (by rfl) (by decide +kernel)
theorem wd_290 : Cond.methodLink RX2 59 yX2_takeSort ∈ tn_T := tn_in 290 (by decide +kernel) (by decide +kernel)
theorem wd_292 : Cond.instanceMethod yX2_takeSort ∈ tn_T := tn_in 292 (by decide +kernel) (by decide +kernel)
set_option maxRecDepth 50000 in
theorem wd_293 : Cond.code yX2_takeSort cX2_takeSort 2 none ∈ tn_T := tn_in 293 (by rfl) (by decide +kernel)
theorem wd_294 : Cond.methodLink RX2 72 yX2_takeLiked ∈ tn_T := tn_in 294 (by decide +kernel) (by decide +kernel)
theorem wd_296 : Cond.instanceMethod yX2_takeLiked ∈ tn_T := tn_in 296 (by decide +kernel) (by decide +kernel)
set_option maxRecDepth 50000 in
theorem wd_297 : Cond.code yX2_takeLiked cX2_takeLiked 3 (some .int) ∈ tn_T := tn_in 297 (by rfl) (by decide +kernel)
theorem wd_298 : Cond.methodLink RL 18 yX4_wipe ∈ tn_T := tn_in 298 (by decide +kernel) (by decide +kernel)
theorem wd_299 : Cond.instanceMethod yX4_wipe ∈ tn_T := tn_in 299 (by decide +kernel) (by decide +kernel)
theorem wd_300 : Cond.selects RX4 yX4_wipe yX4_wipe ∈ tn_T := tn_in 300 (by decide +kernel) (by decide +kernel)
set_option maxRecDepth 50000 in
theorem wd_301 : Cond.code yX4_wipe cX4_wipe 2 (some .int) ∈ tn_T := tn_in 301 (by rfl) (by decide +kernel)
theorem wd_302 : Cond.methodLink RX4 61 yX2_clear ∈ tn_T := tn_in 302 (by decide +kernel) (by decide +kernel)
theorem wd_303 : Cond.instanceMethod yX2_clear ∈ tn_T := tn_in 303 (by decide +kernel) (by decide +kernel)
theorem wd_304 : Cond.selects RX2 yX2_clear yX2_clear ∈ tn_T := tn_in 304 (by decide +kernel) (by decide +kernel)
set_option maxRecDepth 50000 in
theorem wd_305 : Cond.code yX2_clear cX2_clear 1 none ∈ tn_T := tn_in 305 (by rfl) (by decide +kernel)
theorem wd_306 : Cond.methodLink RL 23 yX4_fault ∈ tn_T := tn_in 306 (by decide +kernel) (by decide +kernel)
theorem wd_307 : Cond.instanceMethod yX4_fault ∈ tn_T := tn_in 307 (by decide +kernel) (by decide +kernel)
theorem wd_308 : Cond.selects RX4 yX4_fault yX4_fault ∈ tn_T := tn_in 308 (by decide +kernel) (by decide +kernel)
set_option maxRecDepth 50000 in
theorem wd_309 : Cond.code yX4_fault cX4_fault 1 (some .int) ∈ tn_T := tn_in 309 (by rfl) (by decide +kernel)
theorem wd_310 : Cond.methodLink RL 27 yX4_shop ∈ tn_T := tn_in 310 (by decide +kernel) (by decide +kernel)
theorem wd_311 : Cond.instanceMethod yX4_shop ∈ tn_T := tn_in 311 (by decide +kernel) (by decide +kernel)
theorem wd_312 : Cond.selects RX4 yX4_shop yX4_shop ∈ tn_T := tn_in 312 (by decide +kernel) (by decide +kernel)
set_option maxRecDepth 50000 in
theorem wd_313 : Cond.code yX4_shop cX4_shop 3 (some .int) ∈ tn_T := tn_in 313 (by rfl) (by decide +kernel)
theorem wd_314 : Cond.methodLink RX4 67 yX4_noShop ∈ tn_T := tn_in 314 (by decide +kernel) (by decide +kernel)
theorem wd_316 : Cond.instanceMethod yX4_noShop ∈ tn_T := tn_in 316 (by decide +kernel) (by decide +kernel)
set_option maxRecDepth 50000 in
theorem wd_317 : Cond.code yX4_noShop cX4_noShop 2 (some .boolean) ∈ tn_T := tn_in 317 (by rfl) (by decide +kernel)
theorem wd_318 : Cond.methodLink RL 32 yX4_sort ∈ tn_T := tn_in 318 (by decide +kernel) (by decide +kernel)
theorem wd_319 : Cond.instanceMethod yX4_sort ∈ tn_T := tn_in 319 (by decide +kernel) (by decide +kernel)
theorem wd_320 : Cond.selects RX4 yX4_sort yX4_sort ∈ tn_T := tn_in 320 (by decide +kernel) (by decide +kernel)
set_option maxRecDepth 50000 in
theorem wd_321 : Cond.code yX4_sort cX4_sort 3 (some .int) ∈ tn_T := tn_in 321 (by rfl) (by decide +kernel)
theorem wd_322 : Cond.methodLink RL 36 yX4_set ∈ tn_T := tn_in 322 (by decide +kernel) (by decide +kernel)
theorem wd_323 : Cond.instanceMethod yX4_set ∈ tn_T := tn_in 323 (by decide +kernel) (by decide +kernel)
theorem wd_324 : Cond.selects RX4 yX4_set yX4_set ∈ tn_T := tn_in 324 (by decide +kernel) (by decide +kernel)
set_option maxRecDepth 50000 in
theorem wd_325 : Cond.code yX4_set cX4_set 4 (some .int) ∈ tn_T := tn_in 325 (by rfl) (by decide +kernel)
theorem wd_326 : Cond.fieldLink RX4 84 RX4 "HIGHEST" "[I" ∈ tn_T := tn_in 326 (by decide +kernel) (by decide +kernel)
theorem wd_328 : Cond.methodLink RL 40 yX4_hours ∈ tn_T := tn_in 328 (by decide +kernel) (by decide +kernel)
theorem wd_329 : Cond.instanceMethod yX4_hours ∈ tn_T := tn_in 329 (by decide +kernel) (by decide +kernel)
theorem wd_330 : Cond.selects RX4 yX4_hours yX4_hours ∈ tn_T := tn_in 330 (by decide +kernel) (by decide +kernel)
set_option maxRecDepth 50000 in
theorem wd_331 : Cond.code yX4_hours cX4_hours 4 (some .int) ∈ tn_T := tn_in 331 (by rfl) (by decide +kernel)
theorem wd_332 : Cond.methodLink RL 44 yX4_read ∈ tn_T := tn_in 332 (by decide +kernel) (by decide +kernel)
theorem wd_333 : Cond.instanceMethod yX4_read ∈ tn_T := tn_in 333 (by decide +kernel) (by decide +kernel)
theorem wd_334 : Cond.selects RX4 yX4_read yX4_read ∈ tn_T := tn_in 334 (by decide +kernel) (by decide +kernel)
set_option maxRecDepth 50000 in
theorem wd_335 : Cond.code yX4_read cX4_read 6 (some .int) ∈ tn_T := tn_in 335 (by rfl) (by decide +kernel)
theorem wd_336 : Cond.methodLink RX4 87 yX1_refusal ∈ tn_T := tn_in 336 (by decide +kernel) (by decide +kernel)
theorem wd_337 : Cond.instanceMethod yX1_refusal ∈ tn_T := tn_in 337 (by decide +kernel) (by decide +kernel)
theorem wd_338 : Cond.selects RX1 yX1_refusal yX1_refusal ∈ tn_T := tn_in 338 (by decide +kernel) (by decide +kernel)
set_option maxRecDepth 50000 in
theorem wd_339 : Cond.code yX1_refusal cX1_refusal 2 (some .int) ∈ tn_T := tn_in 339 (by rfl) (by decide +kernel)
theorem wd_340 : Cond.methodLink RX1 27 yX1_noSheet ∈ tn_T := tn_in 340 (by decide +kernel) (by decide +kernel)
theorem wd_341 : Cond.static yX1_noSheet ∈ tn_T := tn_in 341 (by decide +kernel) (by decide +kernel)
set_option maxRecDepth 50000 in
theorem wd_342 : Cond.code yX1_noSheet cX1_noSheet 1 (some .boolean) ∈ tn_T := tn_in 342 (by rfl) (by decide +kernel)
theorem wd_343 : Cond.methodLink RX1 31 yX1_finding ∈ tn_T := tn_in 343 (by decide +kernel) (by decide +kernel)
theorem wd_344 : Cond.instanceMethod yX1_finding ∈ tn_T := tn_in 344 (by decide +kernel) (by decide +kernel)
theorem wd_345 : Cond.selects RX1 yX1_finding yX1_finding ∈ tn_T := tn_in 345 (by decide +kernel) (by decide +kernel)
set_option maxRecDepth 50000 in
theorem wd_346 : Cond.code yX1_finding cX1_finding 2 (some .int) ∈ tn_T := tn_in 346 (by rfl) (by decide +kernel)
theorem wd_347 : Cond.methodLink RX4 92 Lib.Math.min.name ∈ tn_T := tn_in 347 (by decide +kernel) (by decide +kernel)
theorem wd_348 : Cond.static Lib.Math.min.name ∈ tn_T := tn_in 348 (by decide +kernel) (by decide +kernel)
set_option maxRecDepth 50000 in
theorem wd_349 : Cond.code Lib.Math.min.name Lib.Math.min.code 2 (some .int) ∈ tn_T := tn_in 349 (by rfl) (by decide +kernel)
theorem wd_350 : Cond.methodLink RL 48 yX4_open ∈ tn_T := tn_in 350 (by decide +kernel) (by decide +kernel)
theorem wd_351 : Cond.instanceMethod yX4_open ∈ tn_T := tn_in 351 (by decide +kernel) (by decide +kernel)
theorem wd_352 : Cond.selects RX4 yX4_open yX4_open ∈ tn_T := tn_in 352 (by decide +kernel) (by decide +kernel)
set_option maxRecDepth 50000 in
theorem wd_353 : Cond.code yX4_open cX4_open 2 (some .int) ∈ tn_T := tn_in 353 (by rfl) (by decide +kernel)
theorem wd_354 : Cond.methodLink RX4 101 yX4_sceneNow ∈ tn_T := tn_in 354 (by decide +kernel) (by decide +kernel)
theorem wd_356 : Cond.instanceMethod yX4_sceneNow ∈ tn_T := tn_in 356 (by decide +kernel) (by decide +kernel)
set_option maxRecDepth 50000 in
theorem wd_357 : Cond.code yX4_sceneNow cX4_sceneNow 1 (some (.object "TillNine$Scene")) ∈ tn_T := tn_in 357 (by rfl) (by decide +kernel)
theorem wd_358 : Cond.methodLink RX4 298 yX3_fill ∈ tn_T := tn_in 358 (by decide +kernel) (by decide +kernel)
theorem wd_359 : Cond.instanceMethod yX3_fill ∈ tn_T := tn_in 359 (by decide +kernel) (by decide +kernel)
theorem wd_360 : Cond.selects RX3 yX3_fill yX3_fill ∈ tn_T := tn_in 360 (by decide +kernel) (by decide +kernel)
set_option maxRecDepth 50000 in
theorem wd_361 : Cond.code yX3_fill cX3_fill 6 none ∈ tn_T := tn_in 361 (by rfl) (by decide +kernel)
theorem wd_362 : Cond.methodLink RX3 19 yJ7_fill_d0a16 ∈ tn_T := tn_in 362 (by decide +kernel) (by decide +kernel)
theorem wd_363 : Cond.static yJ7_fill_d0a16 ∈ tn_T := tn_in 363 (by decide +kernel) (by decide +kernel)
set_option maxRecDepth 50000 in
theorem wd_364 : Cond.code yJ7_fill_d0a16 cJ7_fill_d0a16 5 none ∈ tn_T := tn_in 364 (by rfl) (by decide +kernel)
theorem wd_365 : Cond.methodLink RX3 38 yX3_addBuyers ∈ tn_T := tn_in 365 (by decide +kernel) (by decide +kernel)
theorem wd_367 : Cond.instanceMethod yX3_addBuyers ∈ tn_T := tn_in 367 (by decide +kernel) (by decide +kernel)
set_option maxRecDepth 50000 in
theorem wd_368 : Cond.code yX3_addBuyers cX3_addBuyers 12 none ∈ tn_T := tn_in 368 (by rfl) (by decide +kernel)
theorem wd_369 : Cond.methodLink RX3 42 yX3_rowOf ∈ tn_T := tn_in 369 (by decide +kernel) (by decide +kernel)
theorem wd_370 : Cond.static yX3_rowOf ∈ tn_T := tn_in 370 (by decide +kernel) (by decide +kernel)
set_option maxRecDepth 50000 in
theorem wd_371 : Cond.code yX3_rowOf cX3_rowOf 2 (some .int) ∈ tn_T := tn_in 371 (by rfl) (by decide +kernel)
theorem wd_372 : Cond.methodLink RX3 46 yJ6_bitCount_0f7a4 ∈ tn_T := tn_in 372 (by decide +kernel) (by decide +kernel)
theorem wd_373 : Cond.static yJ6_bitCount_0f7a4 ∈ tn_T := tn_in 373 (by decide +kernel) (by decide +kernel)
set_option maxRecDepth 50000 in
theorem wd_374 : Cond.code yJ6_bitCount_0f7a4 cJ6_bitCount_0f7a4 1 (some .int) ∈ tn_T := tn_in 374 (by rfl) (by decide +kernel)
theorem wd_375 : Cond.constant RJ6 265 (1431655765) ∈ tn_T := tn_in 375 (by decide +kernel) (by decide +kernel)
theorem wd_376 : Cond.constant RJ6 266 (858993459) ∈ tn_T := tn_in 376 (by decide +kernel) (by decide +kernel)
theorem wd_377 : Cond.constant RJ6 267 (252645135) ∈ tn_T := tn_in 377 (by decide +kernel) (by decide +kernel)
theorem wd_378 : Cond.constantLong RX3 52 (16) ∈ tn_T := tn_in 378 (by decide +kernel) (by decide +kernel)
theorem wd_379 : Cond.constantLong RX3 54 (360360) ∈ tn_T := tn_in 379 (by decide +kernel) (by decide +kernel)
theorem wd_380 : Cond.constantLong RX3 56 (256) ∈ tn_T := tn_in 380 (by decide +kernel) (by decide +kernel)
theorem wd_381 : Cond.methodLink RX3 58 yX3_part ∈ tn_T := tn_in 381 (by decide +kernel) (by decide +kernel)
theorem wd_383 : Cond.instanceMethod yX3_part ∈ tn_T := tn_in 383 (by decide +kernel) (by decide +kernel)
set_option maxRecDepth 50000 in
theorem wd_384 : Cond.code yX3_part cX3_part 11 none ∈ tn_T := tn_in 384 (by rfl) (by decide +kernel)
theorem wd_385 : Cond.methodLink RX4 302 yX0_begin ∈ tn_T := tn_in 385 (by decide +kernel) (by decide +kernel)
theorem wd_386 : Cond.instanceMethod yX0_begin ∈ tn_T := tn_in 386 (by decide +kernel) (by decide +kernel)
theorem wd_387 : Cond.selects RX0 yX0_begin yX0_begin ∈ tn_T := tn_in 387 (by decide +kernel) (by decide +kernel)
set_option maxRecDepth 50000 in
theorem wd_388 : Cond.code yX0_begin cX0_begin 4 none ∈ tn_T := tn_in 388 (by rfl) (by decide +kernel)
theorem wd_389 : Cond.methodLink RX0 39 arraycopyName ∈ tn_T := tn_in 389 (by decide +kernel) (by decide +kernel)
theorem wd_390 : Cond.static arraycopyName ∈ tn_T := tn_in 390 (by decide +kernel) (by decide +kernel)
theorem wd_391 : Cond.native arraycopyName ∈ tn_T := tn_in 391 (by decide +kernel) (by decide +kernel)
theorem wd_392 : Cond.methodLink RX0 45 yJ7_fill_53178 ∈ tn_T := tn_in 392 (by decide +kernel) (by decide +kernel)
theorem wd_393 : Cond.static yJ7_fill_53178 ∈ tn_T := tn_in 393 (by decide +kernel) (by decide +kernel)
set_option maxRecDepth 50000 in
theorem wd_394 : Cond.code yJ7_fill_53178 cJ7_fill_53178 4 none ∈ tn_T := tn_in 394 (by rfl) (by decide +kernel)
theorem wd_395 : Cond.constantLong RX0 58 (738017280) ∈ tn_T := tn_in 395 (by decide +kernel) (by decide +kernel)
theorem wd_396 : Cond.methodLink RX0 75 yX0_become ∈ tn_T := tn_in 396 (by decide +kernel) (by decide +kernel)
theorem wd_397 : Cond.instanceMethod yX0_become ∈ tn_T := tn_in 397 (by decide +kernel) (by decide +kernel)
theorem wd_398 : Cond.selects RX0 yX0_become yX0_become ∈ tn_T := tn_in 398 (by decide +kernel) (by decide +kernel)
set_option maxRecDepth 50000 in
theorem wd_399 : Cond.code yX0_become cX0_become 4 none ∈ tn_T := tn_in 399 (by rfl) (by decide +kernel)
theorem wd_400 : Cond.methodLink RL 52 yX4_earns ∈ tn_T := tn_in 400 (by decide +kernel) (by decide +kernel)
theorem wd_401 : Cond.instanceMethod yX4_earns ∈ tn_T := tn_in 401 (by decide +kernel) (by decide +kernel)
theorem wd_402 : Cond.selects RX4 yX4_earns yX4_earns ∈ tn_T := tn_in 402 (by decide +kernel) (by decide +kernel)
set_option maxRecDepth 50000 in
theorem wd_403 : Cond.code yX4_earns cX4_earns 3 (some .long) ∈ tn_T := tn_in 403 (by rfl) (by decide +kernel)
theorem wd_404 : Cond.methodLink RX4 108 yX4_noSide ∈ tn_T := tn_in 404 (by decide +kernel) (by decide +kernel)
theorem wd_405 : Cond.static yX4_noSide ∈ tn_T := tn_in 405 (by decide +kernel) (by decide +kernel)
set_option maxRecDepth 50000 in
theorem wd_406 : Cond.code yX4_noSide cX4_noSide 1 (some .boolean) ∈ tn_T := tn_in 406 (by rfl) (by decide +kernel)
theorem wd_407 : Cond.methodLink RX4 111 yX4_refused ∈ tn_T := tn_in 407 (by decide +kernel) (by decide +kernel)
theorem wd_408 : Cond.static yX4_refused ∈ tn_T := tn_in 408 (by decide +kernel) (by decide +kernel)
set_option maxRecDepth 50000 in
theorem wd_409 : Cond.code yX4_refused cX4_refused 1 (some .long) ∈ tn_T := tn_in 409 (by rfl) (by decide +kernel)
theorem wd_410 : Cond.constantLong RX4 308 (-9223372036854775808) ∈ tn_T := tn_in 410 (by decide +kernel) (by decide +kernel)
theorem wd_411 : Cond.methodLink RX4 115 yX0_earning ∈ tn_T := tn_in 411 (by decide +kernel) (by decide +kernel)
theorem wd_412 : Cond.instanceMethod yX0_earning ∈ tn_T := tn_in 412 (by decide +kernel) (by decide +kernel)
theorem wd_413 : Cond.selects RX0 yX0_earning yX0_earning ∈ tn_T := tn_in 413 (by decide +kernel) (by decide +kernel)
set_option maxRecDepth 50000 in
theorem wd_414 : Cond.code yX0_earning cX0_earning 2 (some .long) ∈ tn_T := tn_in 414 (by rfl) (by decide +kernel)
theorem wd_415 : Cond.methodLink RX0 99 yX0_taken ∈ tn_T := tn_in 415 (by decide +kernel) (by decide +kernel)
theorem wd_417 : Cond.instanceMethod yX0_taken ∈ tn_T := tn_in 417 (by decide +kernel) (by decide +kernel)
set_option maxRecDepth 50000 in
theorem wd_418 : Cond.code yX0_taken cX0_taken 5 (some .long) ∈ tn_T := tn_in 418 (by rfl) (by decide +kernel)
theorem wd_419 : Cond.methodLink RX0 91 yX3_rowOf ∈ tn_T := tn_in 419 (by decide +kernel) (by decide +kernel)
theorem wd_420 : Cond.methodLink RX0 103 yX0_burden ∈ tn_T := tn_in 420 (by decide +kernel) (by decide +kernel)
theorem wd_422 : Cond.instanceMethod yX0_burden ∈ tn_T := tn_in 422 (by decide +kernel) (by decide +kernel)
set_option maxRecDepth 50000 in
theorem wd_423 : Cond.code yX0_burden cX0_burden 5 (some .long) ∈ tn_T := tn_in 423 (by rfl) (by decide +kernel)
theorem wd_424 : Cond.constantLong RX0 97 (11808276480) ∈ tn_T := tn_in 424 (by decide +kernel) (by decide +kernel)
theorem wd_425 : Cond.methodLink RX4 118 yX4_fraction ∈ tn_T := tn_in 425 (by decide +kernel) (by decide +kernel)
theorem wd_426 : Cond.static yX4_fraction ∈ tn_T := tn_in 426 (by decide +kernel) (by decide +kernel)
set_option maxRecDepth 50000 in
theorem wd_427 : Cond.code yX4_fraction cX4_fraction 5 (some .long) ∈ tn_T := tn_in 427 (by rfl) (by decide +kernel)
theorem wd_428 : Cond.methodLink RX4 313 Lib.MathLoose.abs_long.x ∈ tn_T := tn_in 428 (by decide +kernel) (by decide +kernel)
theorem wd_429 : Cond.static Lib.MathLoose.abs_long.x ∈ tn_T := tn_in 429 (by decide +kernel) (by decide +kernel)
set_option maxRecDepth 50000 in
theorem wd_430 : Cond.code Lib.MathLoose.abs_long.x Lib.MathLoose.abs_long.code 2 (some .long) ∈ tn_T := tn_in 430 (by rfl) (by decide +kernel)
theorem wd_431 : Cond.constantLong RX4 317 (11808276480) ∈ tn_T := tn_in 431 (by decide +kernel) (by decide +kernel)
theorem wd_432 : Cond.methodLink RX4 319 yX4_divisor ∈ tn_T := tn_in 432 (by decide +kernel) (by decide +kernel)
theorem wd_433 : Cond.static yX4_divisor ∈ tn_T := tn_in 433 (by decide +kernel) (by decide +kernel)
set_option maxRecDepth 50000 in
theorem wd_434 : Cond.code yX4_divisor cX4_divisor 11 (some .long) ∈ tn_T := tn_in 434 (by rfl) (by decide +kernel)
theorem wd_435 : Cond.methodLink RL 57 yX4_all ∈ tn_T := tn_in 435 (by decide +kernel) (by decide +kernel)
theorem wd_436 : Cond.instanceMethod yX4_all ∈ tn_T := tn_in 436 (by decide +kernel) (by decide +kernel)
theorem wd_437 : Cond.selects RX4 yX4_all yX4_all ∈ tn_T := tn_in 437 (by decide +kernel) (by decide +kernel)
set_option maxRecDepth 50000 in
theorem wd_438 : Cond.code yX4_all cX4_all 3 (some .long) ∈ tn_T := tn_in 438 (by rfl) (by decide +kernel)
theorem wd_439 : Cond.methodLink RX4 122 yX0_aim ∈ tn_T := tn_in 439 (by decide +kernel) (by decide +kernel)
theorem wd_440 : Cond.instanceMethod yX0_aim ∈ tn_T := tn_in 440 (by decide +kernel) (by decide +kernel)
theorem wd_441 : Cond.selects RX0 yX0_aim yX0_aim ∈ tn_T := tn_in 441 (by decide +kernel) (by decide +kernel)
set_option maxRecDepth 50000 in
theorem wd_442 : Cond.code yX0_aim cX0_aim 2 (some .long) ∈ tn_T := tn_in 442 (by rfl) (by decide +kernel)
theorem wd_443 : Cond.methodLink RX0 107 yX0_together ∈ tn_T := tn_in 443 (by decide +kernel) (by decide +kernel)
theorem wd_444 : Cond.instanceMethod yX0_together ∈ tn_T := tn_in 444 (by decide +kernel) (by decide +kernel)
theorem wd_445 : Cond.selects RX0 yX0_together yX0_together ∈ tn_T := tn_in 445 (by decide +kernel) (by decide +kernel)
set_option maxRecDepth 50000 in
theorem wd_446 : Cond.code yX0_together cX0_together 4 (some .long) ∈ tn_T := tn_in 446 (by rfl) (by decide +kernel)
theorem wd_447 : Cond.methodLink RL 61 yX4_answer ∈ tn_T := tn_in 447 (by decide +kernel) (by decide +kernel)
theorem wd_448 : Cond.instanceMethod yX4_answer ∈ tn_T := tn_in 448 (by decide +kernel) (by decide +kernel)
theorem wd_449 : Cond.selects RX4 yX4_answer yX4_answer ∈ tn_T := tn_in 449 (by decide +kernel) (by decide +kernel)
set_option maxRecDepth 50000 in
theorem wd_450 : Cond.code yX4_answer cX4_answer 2 (some .int) ∈ tn_T := tn_in 450 (by rfl) (by decide +kernel)
theorem wd_451 : Cond.methodLink RX4 125 yX0_reply ∈ tn_T := tn_in 451 (by decide +kernel) (by decide +kernel)
theorem wd_452 : Cond.instanceMethod yX0_reply ∈ tn_T := tn_in 452 (by decide +kernel) (by decide +kernel)
theorem wd_453 : Cond.selects RX0 yX0_reply yX0_reply ∈ tn_T := tn_in 453 (by decide +kernel) (by decide +kernel)
set_option maxRecDepth 50000 in
theorem wd_454 : Cond.code yX0_reply cX0_reply 4 (some .int) ∈ tn_T := tn_in 454 (by rfl) (by decide +kernel)
theorem wd_455 : Cond.methodLink RX0 111 yX0_weigh ∈ tn_T := tn_in 455 (by decide +kernel) (by decide +kernel)
theorem wd_457 : Cond.instanceMethod yX0_weigh ∈ tn_T := tn_in 457 (by decide +kernel) (by decide +kernel)
set_option maxRecDepth 50000 in
theorem wd_458 : Cond.code yX0_weigh cX0_weigh 11 none ∈ tn_T := tn_in 458 (by rfl) (by decide +kernel)
theorem wd_459 : Cond.methodLink RL 65 yX4_rest ∈ tn_T := tn_in 459 (by decide +kernel) (by decide +kernel)
theorem wd_460 : Cond.instanceMethod yX4_rest ∈ tn_T := tn_in 460 (by decide +kernel) (by decide +kernel)
theorem wd_461 : Cond.selects RX4 yX4_rest yX4_rest ∈ tn_T := tn_in 461 (by decide +kernel) (by decide +kernel)
set_option maxRecDepth 50000 in
theorem wd_462 : Cond.code yX4_rest cX4_rest 3 (some .int) ∈ tn_T := tn_in 462 (by rfl) (by decide +kernel)
theorem wd_463 : Cond.methodLink RX4 128 yX0_runDown ∈ tn_T := tn_in 463 (by decide +kernel) (by decide +kernel)
theorem wd_464 : Cond.instanceMethod yX0_runDown ∈ tn_T := tn_in 464 (by decide +kernel) (by decide +kernel)
theorem wd_465 : Cond.selects RX0 yX0_runDown yX0_runDown ∈ tn_T := tn_in 465 (by decide +kernel) (by decide +kernel)
set_option maxRecDepth 50000 in
theorem wd_466 : Cond.code yX0_runDown cX0_runDown 5 (some .boolean) ∈ tn_T := tn_in 466 (by rfl) (by decide +kernel)
theorem wd_467 : Cond.methodLink RX0 115 yX0_reply ∈ tn_T := tn_in 467 (by decide +kernel) (by decide +kernel)
theorem wd_468 : Cond.methodLink RL 69 yX4_still ∈ tn_T := tn_in 468 (by decide +kernel) (by decide +kernel)
theorem wd_469 : Cond.instanceMethod yX4_still ∈ tn_T := tn_in 469 (by decide +kernel) (by decide +kernel)
theorem wd_470 : Cond.selects RX4 yX4_still yX4_still ∈ tn_T := tn_in 470 (by decide +kernel) (by decide +kernel)
set_option maxRecDepth 50000 in
theorem wd_471 : Cond.code yX4_still cX4_still 7 (some .int) ∈ tn_T := tn_in 471 (by rfl) (by decide +kernel)
theorem wd_472 : Cond.methodLink RX4 138 yX4_countStill ∈ tn_T := tn_in 472 (by decide +kernel) (by decide +kernel)
theorem wd_474 : Cond.instanceMethod yX4_countStill ∈ tn_T := tn_in 474 (by decide +kernel) (by decide +kernel)
set_option maxRecDepth 50000 in
theorem wd_475 : Cond.code yX4_countStill cX4_countStill 5 (some .int) ∈ tn_T := tn_in 475 (by rfl) (by decide +kernel)
theorem wd_476 : Cond.methodLink RX4 142 yX0_profiles ∈ tn_T := tn_in 476 (by decide +kernel) (by decide +kernel)
theorem wd_477 : Cond.instanceMethod yX0_profiles ∈ tn_T := tn_in 477 (by decide +kernel) (by decide +kernel)
theorem wd_478 : Cond.selects RX0 yX0_profiles yX0_profiles ∈ tn_T := tn_in 478 (by decide +kernel) (by decide +kernel)
set_option maxRecDepth 50000 in
theorem wd_479 : Cond.code yX0_profiles cX0_profiles 1 (some .int) ∈ tn_T := tn_in 479 (by rfl) (by decide +kernel)
theorem wd_480 : Cond.methodLink RX4 145 yX0_place ∈ tn_T := tn_in 480 (by decide +kernel) (by decide +kernel)
theorem wd_481 : Cond.instanceMethod yX0_place ∈ tn_T := tn_in 481 (by decide +kernel) (by decide +kernel)
theorem wd_482 : Cond.selects RX0 yX0_place yX0_place ∈ tn_T := tn_in 482 (by decide +kernel) (by decide +kernel)
set_option maxRecDepth 50000 in
theorem wd_483 : Cond.code yX0_place cX0_place 3 none ∈ tn_T := tn_in 483 (by rfl) (by decide +kernel)
theorem wd_484 : Cond.methodLink RX0 82 yX0_digit ∈ tn_T := tn_in 484 (by decide +kernel) (by decide +kernel)
theorem wd_485 : Cond.instanceMethod yX0_digit ∈ tn_T := tn_in 485 (by decide +kernel) (by decide +kernel)
theorem wd_486 : Cond.selects RX0 yX0_digit yX0_digit ∈ tn_T := tn_in 486 (by decide +kernel) (by decide +kernel)
set_option maxRecDepth 50000 in
theorem wd_487 : Cond.code yX0_digit cX0_digit 3 (some .int) ∈ tn_T := tn_in 487 (by rfl) (by decide +kernel)
theorem wd_488 : Cond.methodLink RX4 148 yX0_firstGainer ∈ tn_T := tn_in 488 (by decide +kernel) (by decide +kernel)
theorem wd_489 : Cond.instanceMethod yX0_firstGainer ∈ tn_T := tn_in 489 (by decide +kernel) (by decide +kernel)
theorem wd_490 : Cond.selects RX0 yX0_firstGainer yX0_firstGainer ∈ tn_T := tn_in 490 (by decide +kernel) (by decide +kernel)
set_option maxRecDepth 50000 in
theorem wd_491 : Cond.code yX0_firstGainer cX0_firstGainer 3 (some .int) ∈ tn_T := tn_in 491 (by rfl) (by decide +kernel)
theorem wd_492 : Cond.methodLink RX4 151 yX0_advance ∈ tn_T := tn_in 492 (by decide +kernel) (by decide +kernel)
theorem wd_493 : Cond.instanceMethod yX0_advance ∈ tn_T := tn_in 493 (by decide +kernel) (by decide +kernel)
theorem wd_494 : Cond.selects RX0 yX0_advance yX0_advance ∈ tn_T := tn_in 494 (by decide +kernel) (by decide +kernel)
set_option maxRecDepth 50000 in
theorem wd_495 : Cond.code yX0_advance cX0_advance 2 none ∈ tn_T := tn_in 495 (by rfl) (by decide +kernel)
theorem wd_496 : Cond.methodLink RL 73 yX4_best ∈ tn_T := tn_in 496 (by decide +kernel) (by decide +kernel)
theorem wd_497 : Cond.instanceMethod yX4_best ∈ tn_T := tn_in 497 (by decide +kernel) (by decide +kernel)
theorem wd_498 : Cond.selects RX4 yX4_best yX4_best ∈ tn_T := tn_in 498 (by decide +kernel) (by decide +kernel)
set_option maxRecDepth 50000 in
theorem wd_499 : Cond.code yX4_best cX4_best 3 (some .int) ∈ tn_T := tn_in 499 (by rfl) (by decide +kernel)
theorem wd_500 : Cond.methodLink RX4 154 yX4_placedBest ∈ tn_T := tn_in 500 (by decide +kernel) (by decide +kernel)
theorem wd_502 : Cond.instanceMethod yX4_placedBest ∈ tn_T := tn_in 502 (by decide +kernel) (by decide +kernel)
set_option maxRecDepth 50000 in
theorem wd_503 : Cond.code yX4_placedBest cX4_placedBest 2 (some (.object "TillNine$Scene")) ∈ tn_T := tn_in 503 (by rfl) (by decide +kernel)
theorem wd_504 : Cond.methodLink RX4 270 yX4_bestCode ∈ tn_T := tn_in 504 (by decide +kernel) (by decide +kernel)
theorem wd_506 : Cond.instanceMethod yX4_bestCode ∈ tn_T := tn_in 506 (by decide +kernel) (by decide +kernel)
set_option maxRecDepth 50000 in
theorem wd_507 : Cond.code yX4_bestCode cX4_bestCode 10 (some .int) ∈ tn_T := tn_in 507 (by rfl) (by decide +kernel)
theorem wd_508 : Cond.methodLink RL 77 yX4_loss ∈ tn_T := tn_in 508 (by decide +kernel) (by decide +kernel)
theorem wd_509 : Cond.instanceMethod yX4_loss ∈ tn_T := tn_in 509 (by decide +kernel) (by decide +kernel)
theorem wd_510 : Cond.selects RX4 yX4_loss yX4_loss ∈ tn_T := tn_in 510 (by decide +kernel) (by decide +kernel)
set_option maxRecDepth 50000 in
theorem wd_511 : Cond.code yX4_loss cX4_loss 4 (some .long) ∈ tn_T := tn_in 511 (by rfl) (by decide +kernel)
theorem wd_512 : Cond.methodLink RX4 158 yX0_together ∈ tn_T := tn_in 512 (by decide +kernel) (by decide +kernel)
theorem wd_513 : Cond.methodLink RL 82 yX4_leastFine ∈ tn_T := tn_in 513 (by decide +kernel) (by decide +kernel)
theorem wd_514 : Cond.instanceMethod yX4_leastFine ∈ tn_T := tn_in 514 (by decide +kernel) (by decide +kernel)
theorem wd_515 : Cond.selects RX4 yX4_leastFine yX4_leastFine ∈ tn_T := tn_in 515 (by decide +kernel) (by decide +kernel)
set_option maxRecDepth 50000 in
theorem wd_516 : Cond.code yX4_leastFine cX4_leastFine 6 (some .int) ∈ tn_T := tn_in 516 (by rfl) (by decide +kernel)
theorem wd_517 : Cond.methodLink RX4 166 yX0_keepLaw ∈ tn_T := tn_in 517 (by decide +kernel) (by decide +kernel)
theorem wd_518 : Cond.instanceMethod yX0_keepLaw ∈ tn_T := tn_in 518 (by decide +kernel) (by decide +kernel)
theorem wd_519 : Cond.selects RX0 yX0_keepLaw yX0_keepLaw ∈ tn_T := tn_in 519 (by decide +kernel) (by decide +kernel)
set_option maxRecDepth 50000 in
theorem wd_520 : Cond.code yX0_keepLaw cX0_keepLaw 2 none ∈ tn_T := tn_in 520 (by rfl) (by decide +kernel)
theorem wd_521 : Cond.methodLink RX0 119 yX0_bound ∈ tn_T := tn_in 521 (by decide +kernel) (by decide +kernel)
theorem wd_522 : Cond.instanceMethod yX0_bound ∈ tn_T := tn_in 522 (by decide +kernel) (by decide +kernel)
theorem wd_523 : Cond.selects RX0 yX0_bound yX0_bound ∈ tn_T := tn_in 523 (by decide +kernel) (by decide +kernel)
set_option maxRecDepth 50000 in
theorem wd_524 : Cond.code yX0_bound cX0_bound 2 (some .boolean) ∈ tn_T := tn_in 524 (by rfl) (by decide +kernel)
theorem wd_525 : Cond.methodLink RX0 123 Lib.Math.min.name ∈ tn_T := tn_in 525 (by decide +kernel) (by decide +kernel)
theorem wd_526 : Cond.methodLink RX4 169 yX0_lawlessGain ∈ tn_T := tn_in 526 (by decide +kernel) (by decide +kernel)
theorem wd_527 : Cond.instanceMethod yX0_lawlessGain ∈ tn_T := tn_in 527 (by decide +kernel) (by decide +kernel)
theorem wd_528 : Cond.selects RX0 yX0_lawlessGain yX0_lawlessGain ∈ tn_T := tn_in 528 (by decide +kernel) (by decide +kernel)
set_option maxRecDepth 50000 in
theorem wd_529 : Cond.code yX0_lawlessGain cX0_lawlessGain 5 (some .long) ∈ tn_T := tn_in 529 (by rfl) (by decide +kernel)
theorem wd_530 : Cond.methodLink RX0 128 Lib.MathLoose.max_long.x ∈ tn_T := tn_in 530 (by decide +kernel) (by decide +kernel)
theorem wd_531 : Cond.static Lib.MathLoose.max_long.x ∈ tn_T := tn_in 531 (by decide +kernel) (by decide +kernel)
set_option maxRecDepth 50000 in
theorem wd_532 : Cond.code Lib.MathLoose.max_long.x Lib.MathLoose.max_long.code 4 (some .long) ∈ tn_T := tn_in 532 (by rfl) (by decide +kernel)
theorem wd_533 : Cond.constantLong RX4 172 (738017280) ∈ tn_T := tn_in 533 (by decide +kernel) (by decide +kernel)
theorem wd_534 : Cond.methodLink RX4 174 yX4_ceiling ∈ tn_T := tn_in 534 (by decide +kernel) (by decide +kernel)
theorem wd_535 : Cond.static yX4_ceiling ∈ tn_T := tn_in 535 (by decide +kernel) (by decide +kernel)
set_option maxRecDepth 50000 in
theorem wd_536 : Cond.code yX4_ceiling cX4_ceiling 4 (some .long) ∈ tn_T := tn_in 536 (by rfl) (by decide +kernel)
theorem wd_537 : Cond.methodLink RL 86 yX4_bestCap ∈ tn_T := tn_in 537 (by decide +kernel) (by decide +kernel)
theorem wd_538 : Cond.instanceMethod yX4_bestCap ∈ tn_T := tn_in 538 (by decide +kernel) (by decide +kernel)
theorem wd_539 : Cond.selects RX4 yX4_bestCap yX4_bestCap ∈ tn_T := tn_in 539 (by decide +kernel) (by decide +kernel)
set_option maxRecDepth 50000 in
theorem wd_540 : Cond.code yX4_bestCap cX4_bestCap 3 (some .long) ∈ tn_T := tn_in 540 (by rfl) (by decide +kernel)
theorem wd_541 : Cond.methodLink RX4 178 yX4_bestCapNow ∈ tn_T := tn_in 541 (by decide +kernel) (by decide +kernel)
theorem wd_543 : Cond.instanceMethod yX4_bestCapNow ∈ tn_T := tn_in 543 (by decide +kernel) (by decide +kernel)
set_option maxRecDepth 50000 in
theorem wd_544 : Cond.code yX4_bestCapNow cX4_bestCapNow 7 (some .int) ∈ tn_T := tn_in 544 (by rfl) (by decide +kernel)
theorem wd_545 : Cond.methodLink RX4 181 yX4_restsUnder ∈ tn_T := tn_in 545 (by decide +kernel) (by decide +kernel)
theorem wd_547 : Cond.instanceMethod yX4_restsUnder ∈ tn_T := tn_in 547 (by decide +kernel) (by decide +kernel)
set_option maxRecDepth 50000 in
theorem wd_548 : Cond.code yX4_restsUnder cX4_restsUnder 3 (some .boolean) ∈ tn_T := tn_in 548 (by rfl) (by decide +kernel)
theorem wd_549 : Cond.methodLink RX4 196 yX0_openTillNine ∈ tn_T := tn_in 549 (by decide +kernel) (by decide +kernel)
theorem wd_550 : Cond.instanceMethod yX0_openTillNine ∈ tn_T := tn_in 550 (by decide +kernel) (by decide +kernel)
theorem wd_551 : Cond.selects RX0 yX0_openTillNine yX0_openTillNine ∈ tn_T := tn_in 551 (by decide +kernel) (by decide +kernel)
set_option maxRecDepth 50000 in
theorem wd_552 : Cond.code yX0_openTillNine cX0_openTillNine 3 none ∈ tn_T := tn_in 552 (by rfl) (by decide +kernel)
theorem wd_553 : Cond.methodLink RX4 310 yX0_limitBound ∈ tn_T := tn_in 553 (by decide +kernel) (by decide +kernel)
theorem wd_554 : Cond.instanceMethod yX0_limitBound ∈ tn_T := tn_in 554 (by decide +kernel) (by decide +kernel)
theorem wd_555 : Cond.selects RX0 yX0_limitBound yX0_limitBound ∈ tn_T := tn_in 555 (by decide +kernel) (by decide +kernel)
set_option maxRecDepth 50000 in
theorem wd_556 : Cond.code yX0_limitBound cX0_limitBound 3 none ∈ tn_T := tn_in 556 (by rfl) (by decide +kernel)
theorem wd_557 : Cond.methodLink RL 90 yX4_edge ∈ tn_T := tn_in 557 (by decide +kernel) (by decide +kernel)
theorem wd_558 : Cond.instanceMethod yX4_edge ∈ tn_T := tn_in 558 (by decide +kernel) (by decide +kernel)
theorem wd_559 : Cond.selects RX4 yX4_edge yX4_edge ∈ tn_T := tn_in 559 (by decide +kernel) (by decide +kernel)
set_option maxRecDepth 50000 in
theorem wd_560 : Cond.code yX4_edge cX4_edge 4 (some .int) ∈ tn_T := tn_in 560 (by rfl) (by decide +kernel)
theorem wd_561 : Cond.methodLink RX4 184 yX0_shuttingPrice ∈ tn_T := tn_in 561 (by decide +kernel) (by decide +kernel)
theorem wd_562 : Cond.instanceMethod yX0_shuttingPrice ∈ tn_T := tn_in 562 (by decide +kernel) (by decide +kernel)
theorem wd_563 : Cond.selects RX0 yX0_shuttingPrice yX0_shuttingPrice ∈ tn_T := tn_in 563 (by decide +kernel) (by decide +kernel)
set_option maxRecDepth 50000 in
theorem wd_564 : Cond.code yX0_shuttingPrice cX0_shuttingPrice 7 (some .long) ∈ tn_T := tn_in 564 (by rfl) (by decide +kernel)
theorem wd_566 : Cond.constantLong RX4 187 (99) ∈ tn_T := tn_in 566 (by decide +kernel) (by decide +kernel)
theorem wd_567 : Cond.methodLink RL 94 yX4_always ∈ tn_T := tn_in 567 (by decide +kernel) (by decide +kernel)
theorem wd_568 : Cond.instanceMethod yX4_always ∈ tn_T := tn_in 568 (by decide +kernel) (by decide +kernel)
theorem wd_569 : Cond.selects RX4 yX4_always yX4_always ∈ tn_T := tn_in 569 (by decide +kernel) (by decide +kernel)
set_option maxRecDepth 50000 in
theorem wd_570 : Cond.code yX4_always cX4_always 6 (some .long) ∈ tn_T := tn_in 570 (by rfl) (by decide +kernel)
theorem wd_571 : Cond.methodLink RX4 189 yX0_become ∈ tn_T := tn_in 571 (by decide +kernel) (by decide +kernel)
theorem wd_572 : Cond.methodLink RL 98 yX4_turn ∈ tn_T := tn_in 572 (by decide +kernel) (by decide +kernel)
theorem wd_573 : Cond.instanceMethod yX4_turn ∈ tn_T := tn_in 573 (by decide +kernel) (by decide +kernel)
theorem wd_574 : Cond.selects RX4 yX4_turn yX4_turn ∈ tn_T := tn_in 574 (by decide +kernel) (by decide +kernel)
set_option maxRecDepth 50000 in
theorem wd_575 : Cond.code yX4_turn cX4_turn 4 (some .int) ∈ tn_T := tn_in 575 (by rfl) (by decide +kernel)
theorem wd_576 : Cond.methodLink RL 102 yX4_keeps ∈ tn_T := tn_in 576 (by decide +kernel) (by decide +kernel)
theorem wd_577 : Cond.instanceMethod yX4_keeps ∈ tn_T := tn_in 577 (by decide +kernel) (by decide +kernel)
theorem wd_578 : Cond.selects RX4 yX4_keeps yX4_keeps ∈ tn_T := tn_in 578 (by decide +kernel) (by decide +kernel)
set_option maxRecDepth 50000 in
theorem wd_579 : Cond.code yX4_keeps cX4_keeps 5 (some .int) ∈ tn_T := tn_in 579 (by rfl) (by decide +kernel)
theorem wd_580 : Cond.methodLink RL 106 yX4_week ∈ tn_T := tn_in 580 (by decide +kernel) (by decide +kernel)
theorem wd_581 : Cond.instanceMethod yX4_week ∈ tn_T := tn_in 581 (by decide +kernel) (by decide +kernel)
theorem wd_582 : Cond.selects RX4 yX4_week yX4_week ∈ tn_T := tn_in 582 (by decide +kernel) (by decide +kernel)
set_option maxRecDepth 50000 in
theorem wd_583 : Cond.code yX4_week cX4_week 7 (some .long) ∈ tn_T := tn_in 583 (by rfl) (by decide +kernel)
theorem wd_584 : Cond.methodLink RL 110 yX4_weeks ∈ tn_T := tn_in 584 (by decide +kernel) (by decide +kernel)
theorem wd_585 : Cond.instanceMethod yX4_weeks ∈ tn_T := tn_in 585 (by decide +kernel) (by decide +kernel)
theorem wd_586 : Cond.selects RX4 yX4_weeks yX4_weeks ∈ tn_T := tn_in 586 (by decide +kernel) (by decide +kernel)
set_option maxRecDepth 50000 in
theorem wd_587 : Cond.code yX4_weeks cX4_weeks 3 (some .int) ∈ tn_T := tn_in 587 (by rfl) (by decide +kernel)
theorem wd_588 : Cond.methodLink RX4 199 yX4_sceneAfter ∈ tn_T := tn_in 588 (by decide +kernel) (by decide +kernel)
theorem wd_590 : Cond.instanceMethod yX4_sceneAfter ∈ tn_T := tn_in 590 (by decide +kernel) (by decide +kernel)
set_option maxRecDepth 50000 in
theorem wd_591 : Cond.code yX4_sceneAfter cX4_sceneAfter 4 (some (.object "TillNine$Scene")) ∈ tn_T := tn_in 591 (by rfl) (by decide +kernel)
theorem wd_592 : Cond.methodLink RX4 208 yX0_passWeek ∈ tn_T := tn_in 592 (by decide +kernel) (by decide +kernel)
theorem wd_593 : Cond.instanceMethod yX0_passWeek ∈ tn_T := tn_in 593 (by decide +kernel) (by decide +kernel)
theorem wd_594 : Cond.selects RX0 yX0_passWeek yX0_passWeek ∈ tn_T := tn_in 594 (by decide +kernel) (by decide +kernel)
set_option maxRecDepth 50000 in
theorem wd_595 : Cond.code yX0_passWeek cX0_passWeek 2 none ∈ tn_T := tn_in 595 (by rfl) (by decide +kernel)
theorem wd_596 : Cond.methodLink RX0 135 yX0_remember ∈ tn_T := tn_in 596 (by decide +kernel) (by decide +kernel)
theorem wd_598 : Cond.instanceMethod yX0_remember ∈ tn_T := tn_in 598 (by decide +kernel) (by decide +kernel)
set_option maxRecDepth 50000 in
theorem wd_599 : Cond.code yX0_remember cX0_remember 1 none ∈ tn_T := tn_in 599 (by rfl) (by decide +kernel)
theorem wd_600 : Cond.methodLink RX0 148 yX0_runDown ∈ tn_T := tn_in 600 (by decide +kernel) (by decide +kernel)
theorem wd_601 : Cond.methodLink RX0 145 yX0_recall ∈ tn_T := tn_in 601 (by decide +kernel) (by decide +kernel)
theorem wd_603 : Cond.instanceMethod yX0_recall ∈ tn_T := tn_in 603 (by decide +kernel) (by decide +kernel)
set_option maxRecDepth 50000 in
theorem wd_604 : Cond.code yX0_recall cX0_recall 2 none ∈ tn_T := tn_in 604 (by rfl) (by decide +kernel)
theorem wd_605 : Cond.methodLink RX0 152 Lib.Math.max.name ∈ tn_T := tn_in 605 (by decide +kernel) (by decide +kernel)
theorem wd_606 : Cond.static Lib.Math.max.name ∈ tn_T := tn_in 606 (by decide +kernel) (by decide +kernel)
set_option maxRecDepth 50000 in
theorem wd_607 : Cond.code Lib.Math.max.name Lib.Math.max.code 2 (some .int) ∈ tn_T := tn_in 607 (by rfl) (by decide +kernel)
theorem wd_608 : Cond.methodLink RX4 202 yX0_hourOrHabit ∈ tn_T := tn_in 608 (by decide +kernel) (by decide +kernel)
theorem wd_609 : Cond.instanceMethod yX0_hourOrHabit ∈ tn_T := tn_in 609 (by decide +kernel) (by decide +kernel)
theorem wd_610 : Cond.selects RX0 yX0_hourOrHabit yX0_hourOrHabit ∈ tn_T := tn_in 610 (by decide +kernel) (by decide +kernel)
set_option maxRecDepth 50000 in
theorem wd_611 : Cond.code yX0_hourOrHabit cX0_hourOrHabit 2 (some .int) ∈ tn_T := tn_in 611 (by rfl) (by decide +kernel)
theorem wd_612 : Cond.methodLink RL 114 yX4_back ∈ tn_T := tn_in 612 (by decide +kernel) (by decide +kernel)
theorem wd_613 : Cond.instanceMethod yX4_back ∈ tn_T := tn_in 613 (by decide +kernel) (by decide +kernel)
theorem wd_614 : Cond.selects RX4 yX4_back yX4_back ∈ tn_T := tn_in 614 (by decide +kernel) (by decide +kernel)
set_option maxRecDepth 50000 in
theorem wd_615 : Cond.code yX4_back cX4_back 3 (some .int) ∈ tn_T := tn_in 615 (by rfl) (by decide +kernel)
theorem wd_616 : Cond.methodLink RX4 205 yX0_earlyIsStill ∈ tn_T := tn_in 616 (by decide +kernel) (by decide +kernel)
theorem wd_617 : Cond.instanceMethod yX0_earlyIsStill ∈ tn_T := tn_in 617 (by decide +kernel) (by decide +kernel)
theorem wd_618 : Cond.selects RX0 yX0_earlyIsStill yX0_earlyIsStill ∈ tn_T := tn_in 618 (by decide +kernel) (by decide +kernel)
set_option maxRecDepth 50000 in
theorem wd_619 : Cond.code yX0_earlyIsStill cX0_earlyIsStill 2 (some .boolean) ∈ tn_T := tn_in 619 (by rfl) (by decide +kernel)
theorem wd_620 : Cond.methodLink RX0 138 yX0_openTillNine ∈ tn_T := tn_in 620 (by decide +kernel) (by decide +kernel)
theorem wd_621 : Cond.methodLink RX0 141 yX0_firstGainer ∈ tn_T := tn_in 621 (by decide +kernel) (by decide +kernel)
theorem wd_622 : Cond.methodLink RL 118 yX4_sheet ∈ tn_T := tn_in 622 (by decide +kernel) (by decide +kernel)
theorem wd_623 : Cond.instanceMethod yX4_sheet ∈ tn_T := tn_in 623 (by decide +kernel) (by decide +kernel)
theorem wd_624 : Cond.selects RX4 yX4_sheet yX4_sheet ∈ tn_T := tn_in 624 (by decide +kernel) (by decide +kernel)
set_option maxRecDepth 50000 in
theorem wd_625 : Cond.code yX4_sheet cX4_sheet 4 (some .int) ∈ tn_T := tn_in 625 (by rfl) (by decide +kernel)
theorem wd_626 : Cond.methodLink RX4 211 yX1_noSheet ∈ tn_T := tn_in 626 (by decide +kernel) (by decide +kernel)
theorem wd_627 : Cond.methodLink RX4 214 yX1_noForm ∈ tn_T := tn_in 627 (by decide +kernel) (by decide +kernel)
theorem wd_628 : Cond.static yX1_noForm ∈ tn_T := tn_in 628 (by decide +kernel) (by decide +kernel)
set_option maxRecDepth 50000 in
theorem wd_629 : Cond.code yX1_noForm cX1_noForm 1 (some .boolean) ∈ tn_T := tn_in 629 (by rfl) (by decide +kernel)
theorem wd_630 : Cond.methodLink RX4 217 yX1_finding ∈ tn_T := tn_in 630 (by decide +kernel) (by decide +kernel)
theorem wd_631 : Cond.methodLink RX4 220 yX1_renew ∈ tn_T := tn_in 631 (by decide +kernel) (by decide +kernel)
theorem wd_632 : Cond.instanceMethod yX1_renew ∈ tn_T := tn_in 632 (by decide +kernel) (by decide +kernel)
theorem wd_633 : Cond.selects RX1 yX1_renew yX1_renew ∈ tn_T := tn_in 633 (by decide +kernel) (by decide +kernel)
set_option maxRecDepth 50000 in
theorem wd_634 : Cond.code yX1_renew cX1_renew 4 none ∈ tn_T := tn_in 634 (by rfl) (by decide +kernel)
theorem wd_635 : Cond.methodLink RX1 38 yJ7_fill_53178 ∈ tn_T := tn_in 635 (by decide +kernel) (by decide +kernel)
theorem wd_636 : Cond.methodLink RL 123 yX4_lose ∈ tn_T := tn_in 636 (by decide +kernel) (by decide +kernel)
theorem wd_637 : Cond.instanceMethod yX4_lose ∈ tn_T := tn_in 637 (by decide +kernel) (by decide +kernel)
theorem wd_638 : Cond.selects RX4 yX4_lose yX4_lose ∈ tn_T := tn_in 638 (by decide +kernel) (by decide +kernel)
set_option maxRecDepth 50000 in
theorem wd_639 : Cond.code yX4_lose cX4_lose 3 (some .int) ∈ tn_T := tn_in 639 (by rfl) (by decide +kernel)
theorem wd_640 : Cond.methodLink RL 127 yX4_lay ∈ tn_T := tn_in 640 (by decide +kernel) (by decide +kernel)
theorem wd_641 : Cond.instanceMethod yX4_lay ∈ tn_T := tn_in 641 (by decide +kernel) (by decide +kernel)
theorem wd_642 : Cond.selects RX4 yX4_lay yX4_lay ∈ tn_T := tn_in 642 (by decide +kernel) (by decide +kernel)
set_option maxRecDepth 50000 in
theorem wd_643 : Cond.code yX4_lay cX4_lay 6 (some .int) ∈ tn_T := tn_in 643 (by rfl) (by decide +kernel)
theorem wd_644 : Cond.methodLink RX4 227 yX1_refusalOfItem ∈ tn_T := tn_in 644 (by decide +kernel) (by decide +kernel)
theorem wd_645 : Cond.instanceMethod yX1_refusalOfItem ∈ tn_T := tn_in 645 (by decide +kernel) (by decide +kernel)
theorem wd_646 : Cond.selects RX1 yX1_refusalOfItem yX1_refusalOfItem ∈ tn_T := tn_in 646 (by decide +kernel) (by decide +kernel)
set_option maxRecDepth 50000 in
theorem wd_647 : Cond.code yX1_refusalOfItem cX1_refusalOfItem 4 (some .int) ∈ tn_T := tn_in 647 (by rfl) (by decide +kernel)
theorem wd_648 : Cond.methodLink RX1 35 yX1_noForm ∈ tn_T := tn_in 648 (by decide +kernel) (by decide +kernel)
theorem wd_649 : Cond.methodLink RX4 231 yX1_put ∈ tn_T := tn_in 649 (by decide +kernel) (by decide +kernel)
theorem wd_650 : Cond.instanceMethod yX1_put ∈ tn_T := tn_in 650 (by decide +kernel) (by decide +kernel)
theorem wd_651 : Cond.selects RX1 yX1_put yX1_put ∈ tn_T := tn_in 651 (by decide +kernel) (by decide +kernel)
set_option maxRecDepth 50000 in
theorem wd_652 : Cond.code yX1_put cX1_put 4 none ∈ tn_T := tn_in 652 (by rfl) (by decide +kernel)
theorem wd_653 : Cond.methodLink RL 132 yX4_get ∈ tn_T := tn_in 653 (by decide +kernel) (by decide +kernel)
theorem wd_654 : Cond.instanceMethod yX4_get ∈ tn_T := tn_in 654 (by decide +kernel) (by decide +kernel)
theorem wd_655 : Cond.selects RX4 yX4_get yX4_get ∈ tn_T := tn_in 655 (by decide +kernel) (by decide +kernel)
set_option maxRecDepth 50000 in
theorem wd_656 : Cond.code yX4_get cX4_get 4 (some .int) ∈ tn_T := tn_in 656 (by rfl) (by decide +kernel)
theorem wd_657 : Cond.constant RX4 236 (-2147483648) ∈ tn_T := tn_in 657 (by decide +kernel) (by decide +kernel)
theorem wd_658 : Cond.methodLink RL 136 yX4_copy ∈ tn_T := tn_in 658 (by decide +kernel) (by decide +kernel)
theorem wd_659 : Cond.instanceMethod yX4_copy ∈ tn_T := tn_in 659 (by decide +kernel) (by decide +kernel)
theorem wd_660 : Cond.selects RX4 yX4_copy yX4_copy ∈ tn_T := tn_in 660 (by decide +kernel) (by decide +kernel)
set_option maxRecDepth 50000 in
theorem wd_661 : Cond.code yX4_copy cX4_copy 6 (some .int) ∈ tn_T := tn_in 661 (by rfl) (by decide +kernel)
theorem wd_662 : Cond.methodLink RX4 237 yX1_lacks ∈ tn_T := tn_in 662 (by decide +kernel) (by decide +kernel)
theorem wd_663 : Cond.instanceMethod yX1_lacks ∈ tn_T := tn_in 663 (by decide +kernel) (by decide +kernel)
theorem wd_664 : Cond.selects RX1 yX1_lacks yX1_lacks ∈ tn_T := tn_in 664 (by decide +kernel) (by decide +kernel)
set_option maxRecDepth 50000 in
theorem wd_665 : Cond.code yX1_lacks cX1_lacks 4 (some .boolean) ∈ tn_T := tn_in 665 (by rfl) (by decide +kernel)
theorem wd_666 : Cond.methodLink RX4 241 arraycopyName ∈ tn_T := tn_in 666 (by decide +kernel) (by decide +kernel)
theorem wd_667 : Cond.methodLink RL 141 yX4_write ∈ tn_T := tn_in 667 (by decide +kernel) (by decide +kernel)
theorem wd_668 : Cond.instanceMethod yX4_write ∈ tn_T := tn_in 668 (by decide +kernel) (by decide +kernel)
theorem wd_669 : Cond.selects RX4 yX4_write yX4_write ∈ tn_T := tn_in 669 (by decide +kernel) (by decide +kernel)
set_option maxRecDepth 50000 in
theorem wd_670 : Cond.code yX4_write cX4_write 6 (some .int) ∈ tn_T := tn_in 670 (by rfl) (by decide +kernel)
theorem wd_671 : Cond.methodLink RL 145 yX4_count ∈ tn_T := tn_in 671 (by decide +kernel) (by decide +kernel)
theorem wd_672 : Cond.instanceMethod yX4_count ∈ tn_T := tn_in 672 (by decide +kernel) (by decide +kernel)
theorem wd_673 : Cond.selects RX4 yX4_count yX4_count ∈ tn_T := tn_in 673 (by decide +kernel) (by decide +kernel)
set_option maxRecDepth 50000 in
theorem wd_674 : Cond.code yX4_count cX4_count 2 (some .int) ∈ tn_T := tn_in 674 (by rfl) (by decide +kernel)
theorem wd_675 : Cond.methodLink RX4 250 yX4_sum ∈ tn_T := tn_in 675 (by decide +kernel) (by decide +kernel)
theorem wd_676 : Cond.static yX4_sum ∈ tn_T := tn_in 676 (by decide +kernel) (by decide +kernel)
set_option maxRecDepth 50000 in
theorem wd_677 : Cond.code yX4_sum cX4_sum 5 (some .int) ∈ tn_T := tn_in 677 (by rfl) (by decide +kernel)
theorem wd_678 : Cond.methodLink RX4 254 yX2_crowd ∈ tn_T := tn_in 678 (by decide +kernel) (by decide +kernel)
theorem wd_679 : Cond.instanceMethod yX2_crowd ∈ tn_T := tn_in 679 (by decide +kernel) (by decide +kernel)
theorem wd_680 : Cond.selects RX2 yX2_crowd yX2_crowd ∈ tn_T := tn_in 680 (by decide +kernel) (by decide +kernel)
set_option maxRecDepth 50000 in
theorem wd_681 : Cond.code yX2_crowd cX2_crowd 3 (some .int) ∈ tn_T := tn_in 681 (by rfl) (by decide +kernel)
theorem wd_682 : Cond.methodLink RL 149 yX4_digest ∈ tn_T := tn_in 682 (by decide +kernel) (by decide +kernel)
theorem wd_683 : Cond.instanceMethod yX4_digest ∈ tn_T := tn_in 683 (by decide +kernel) (by decide +kernel)
theorem wd_684 : Cond.selects RX4 yX4_digest yX4_digest ∈ tn_T := tn_in 684 (by decide +kernel) (by decide +kernel)
set_option maxRecDepth 50000 in
theorem wd_685 : Cond.code yX4_digest cX4_digest 7 (some .long) ∈ tn_T := tn_in 685 (by rfl) (by decide +kernel)
theorem wd_686 : Cond.constantLong RX4 260 (17) ∈ tn_T := tn_in 686 (by decide +kernel) (by decide +kernel)
theorem wd_687 : Cond.constantLong RX4 262 (31) ∈ tn_T := tn_in 687 (by decide +kernel) (by decide +kernel)
theorem wd_688 : Cond.methodLink RX4 264 yX4_count ∈ tn_T := tn_in 688 (by decide +kernel) (by decide +kernel)
theorem wd_689 : Cond.methodLink RX4 267 yX4_fault ∈ tn_T := tn_in 689 (by decide +kernel) (by decide +kernel)
theorem wd_690 : Cond.methodLink RX4 273 yX4_earns ∈ tn_T := tn_in 690 (by decide +kernel) (by decide +kernel)
theorem wd_691 : Cond.methodLink RX4 277 yX4_answer ∈ tn_T := tn_in 691 (by decide +kernel) (by decide +kernel)
theorem wd_692 : Cond.methodLink RX4 280 yX4_rest ∈ tn_T := tn_in 692 (by decide +kernel) (by decide +kernel)
theorem wd_693 : Cond.methodLink RX4 283 yX0_digit ∈ tn_T := tn_in 693 (by decide +kernel) (by decide +kernel)
theorem wd_694 : Cond.methodLink RX4 286 yX4_all ∈ tn_T := tn_in 694 (by decide +kernel) (by decide +kernel)
theorem wd_695 : Cond.methodLink RX4 289 yX4_leastFine ∈ tn_T := tn_in 695 (by decide +kernel) (by decide +kernel)
theorem wd_696 : Cond.methodLink RX4 292 yX4_keeps ∈ tn_T := tn_in 696 (by decide +kernel) (by decide +kernel)
theorem wd_697 : Cond.methodLink RX4 295 yX4_back ∈ tn_T := tn_in 697 (by decide +kernel) (by decide +kernel)
theorem wd_704 : Cond.fieldLink RX5 7 "TillNineModel" "forms" "[I" ∈ tn_T := tn_in 704 (by decide +kernel) (by decide +kernel)
theorem wd_705 : Cond.fieldLink RX5 13 "TillNineModel" "sizes" "[I" ∈ tn_T := tn_in 705 (by decide +kernel) (by decide +kernel)
theorem wd_706 : Cond.fieldLink RX5 16 "TillNineModel" "items" "[I" ∈ tn_T := tn_in 706 (by decide +kernel) (by decide +kernel)
theorem wd_707 : Cond.fieldLink RX5 19 "TillNineModel" "moved" "[I" ∈ tn_T := tn_in 707 (by decide +kernel) (by decide +kernel)
theorem wd_708 : Cond.fieldLink RX5 65 "TillNineModel" "latest" "I" ∈ tn_T := tn_in 708 (by decide +kernel) (by decide +kernel)
theorem wd_709 : Cond.fieldLink RX5 22 "TillNineModel" "text" "[I" ∈ tn_T := tn_in 709 (by decide +kernel) (by decide +kernel)
theorem wd_710 : Cond.fieldLink RX5 96 "TillNineModel" "typed" "I" ∈ tn_T := tn_in 710 (by decide +kernel) (by decide +kernel)
theorem wd_711 : Cond.fieldLink RX5 99 "TillNineModel" "at" "I" ∈ tn_T := tn_in 711 (by decide +kernel) (by decide +kernel)
theorem wd_712 : Cond.fieldLink RX5 110 "TillNineModel" "shops" "I" ∈ tn_T := tn_in 712 (by decide +kernel) (by decide +kernel)
theorem wd_713 : Cond.fieldLink RX5 25 "TillNineModel" "shopSize" "[I" ∈ tn_T := tn_in 713 (by decide +kernel) (by decide +kernel)
theorem wd_714 : Cond.fieldLink RX5 28 "TillNineModel" "shopCost" "[I" ∈ tn_T := tn_in 714 (by decide +kernel) (by decide +kernel)
theorem wd_715 : Cond.fieldLink RX5 119 "TillNineModel" "sorts" "I" ∈ tn_T := tn_in 715 (by decide +kernel) (by decide +kernel)
theorem wd_716 : Cond.fieldLink RX5 31 "TillNineModel" "sortOf" "[I" ∈ tn_T := tn_in 716 (by decide +kernel) (by decide +kernel)
theorem wd_717 : Cond.fieldLink RX5 34 "TillNineModel" "settings" "[I" ∈ tn_T := tn_in 717 (by decide +kernel) (by decide +kernel)
theorem wd_718 : Cond.fieldLink RX5 37 "TillNineModel" "hours" "[I" ∈ tn_T := tn_in 718 (by decide +kernel) (by decide +kernel)
theorem wd_719 : Cond.fieldLink RX5 40 "TillNineModel" "turns" "[I" ∈ tn_T := tn_in 719 (by decide +kernel) (by decide +kernel)
theorem wd_720 : Cond.fieldLink RX5 43 "TillNineModel" "tried" "[I" ∈ tn_T := tn_in 720 (by decide +kernel) (by decide +kernel)
theorem wd_721 : Cond.fieldLink RX5 46 "TillNineModel" "habits" "[I" ∈ tn_T := tn_in 721 (by decide +kernel) (by decide +kernel)
theorem wd_722 : Cond.fieldLink RX5 155 "TillNineModel" "fined" "Z" ∈ tn_T := tn_in 722 (by decide +kernel) (by decide +kernel)
theorem wd_723 : Cond.fieldLink RX5 159 "TillNineModel" "limit" "I" ∈ tn_T := tn_in 723 (by decide +kernel) (by decide +kernel)
theorem wd_724 : Cond.fieldLink RX5 162 "TillNineModel" "fixed" "I" ∈ tn_T := tn_in 724 (by decide +kernel) (by decide +kernel)
theorem wd_725 : Cond.fieldLink RX5 49 "TillNineModel" "costs" "[I" ∈ tn_T := tn_in 725 (by decide +kernel) (by decide +kernel)
theorem wd_726 : Cond.fieldLink RX5 52 "TillNineModel" "earned" "[J" ∈ tn_T := tn_in 726 (by decide +kernel) (by decide +kernel)
theorem wd_727 : Cond.fieldLink RX5 174 "TillNineModel" "served" "J" ∈ tn_T := tn_in 727 (by decide +kernel) (by decide +kernel)
theorem wd_728 : Cond.fieldLink RX5 233 "TillNineModel" "rounds" "I" ∈ tn_T := tn_in 728 (by decide +kernel) (by decide +kernel)
theorem wd_729 : Cond.fieldLink RX5 254 "TillNineModel" "bestAmount" "J" ∈ tn_T := tn_in 729 (by decide +kernel) (by decide +kernel)
theorem wd_730 : Cond.fieldLink RX5 56 "TillNineModel" "kept" "[I" ∈ tn_T := tn_in 730 (by decide +kernel) (by decide +kernel)
theorem wd_786 : Cond.methodLink RL 122 yX5_sheet ∈ tn_T := tn_in 786 (by decide +kernel) (by decide +kernel)
theorem wd_787 : Cond.instanceMethod yX5_sheet ∈ tn_T := tn_in 787 (by decide +kernel) (by decide +kernel)
theorem wd_788 : Cond.selects RX5 yX5_sheet yX5_sheet ∈ tn_T := tn_in 788 (by decide +kernel) (by decide +kernel)
set_option maxRecDepth 50000 in
theorem wd_789 : Cond.code yX5_sheet cX5_sheet 5 (some .int) ∈ tn_T := tn_in 789 (by rfl) (by decide +kernel)
theorem wd_790 : Cond.methodLink RX5 71 yX5_isSheet ∈ tn_T := tn_in 790 (by decide +kernel) (by decide +kernel)
theorem wd_791 : Cond.static yX5_isSheet ∈ tn_T := tn_in 791 (by decide +kernel) (by decide +kernel)
set_option maxRecDepth 50000 in
theorem wd_792 : Cond.code yX5_isSheet cX5_isSheet 1 (some .boolean) ∈ tn_T := tn_in 792 (by rfl) (by decide +kernel)
theorem wd_793 : Cond.constantLong RX5 69 (3) ∈ tn_T := tn_in 793 (by decide +kernel) (by decide +kernel)
theorem wd_794 : Cond.methodLink RX5 61 yX5_in ∈ tn_T := tn_in 794 (by decide +kernel) (by decide +kernel)
theorem wd_795 : Cond.static yX5_in ∈ tn_T := tn_in 795 (by decide +kernel) (by decide +kernel)
set_option maxRecDepth 50000 in
theorem wd_796 : Cond.code yX5_in cX5_in 6 (some .boolean) ∈ tn_T := tn_in 796 (by rfl) (by decide +kernel)
theorem wd_797 : Cond.constantLong RX5 75 (2) ∈ tn_T := tn_in 797 (by decide +kernel) (by decide +kernel)
theorem wd_798 : Cond.methodLink RX5 77 yX5_met ∈ tn_T := tn_in 798 (by decide +kernel) (by decide +kernel)
theorem wd_800 : Cond.instanceMethod yX5_met ∈ tn_T := tn_in 800 (by decide +kernel) (by decide +kernel)
set_option maxRecDepth 50000 in
theorem wd_801 : Cond.code yX5_met cX5_met 2 (some .int) ∈ tn_T := tn_in 801 (by rfl) (by decide +kernel)
theorem wd_802 : Cond.methodLink RL 126 yX5_lose ∈ tn_T := tn_in 802 (by decide +kernel) (by decide +kernel)
theorem wd_803 : Cond.instanceMethod yX5_lose ∈ tn_T := tn_in 803 (by decide +kernel) (by decide +kernel)
theorem wd_804 : Cond.selects RX5 yX5_lose yX5_lose ∈ tn_T := tn_in 804 (by decide +kernel) (by decide +kernel)
set_option maxRecDepth 50000 in
theorem wd_805 : Cond.code yX5_lose cX5_lose 2 (some .int) ∈ tn_T := tn_in 805 (by rfl) (by decide +kernel)
theorem wd_806 : Cond.methodLink RL 131 yX5_lay ∈ tn_T := tn_in 806 (by decide +kernel) (by decide +kernel)
theorem wd_807 : Cond.instanceMethod yX5_lay ∈ tn_T := tn_in 807 (by decide +kernel) (by decide +kernel)
theorem wd_808 : Cond.selects RX5 yX5_lay yX5_lay ∈ tn_T := tn_in 808 (by decide +kernel) (by decide +kernel)
set_option maxRecDepth 50000 in
theorem wd_809 : Cond.code yX5_lay cX5_lay 6 (some .int) ∈ tn_T := tn_in 809 (by rfl) (by decide +kernel)
theorem wd_810 : Cond.methodLink RX5 81 yX5_lacks ∈ tn_T := tn_in 810 (by decide +kernel) (by decide +kernel)
theorem wd_812 : Cond.instanceMethod yX5_lacks ∈ tn_T := tn_in 812 (by decide +kernel) (by decide +kernel)
set_option maxRecDepth 50000 in
theorem wd_813 : Cond.code yX5_lacks cX5_lacks 4 (some .int) ∈ tn_T := tn_in 813 (by rfl) (by decide +kernel)
theorem wd_814 : Cond.methodLink RX5 85 yX5_cut ∈ tn_T := tn_in 814 (by decide +kernel) (by decide +kernel)
theorem wd_815 : Cond.static yX5_cut ∈ tn_T := tn_in 815 (by decide +kernel) (by decide +kernel)
set_option maxRecDepth 50000 in
theorem wd_816 : Cond.code yX5_cut cX5_cut 2 (some .int) ∈ tn_T := tn_in 816 (by rfl) (by decide +kernel)
theorem wd_817 : Cond.methodLink RL 135 yX5_get ∈ tn_T := tn_in 817 (by decide +kernel) (by decide +kernel)
theorem wd_818 : Cond.instanceMethod yX5_get ∈ tn_T := tn_in 818 (by decide +kernel) (by decide +kernel)
theorem wd_819 : Cond.selects RX5 yX5_get yX5_get ∈ tn_T := tn_in 819 (by decide +kernel) (by decide +kernel)
set_option maxRecDepth 50000 in
theorem wd_820 : Cond.code yX5_get cX5_get 4 (some .int) ∈ tn_T := tn_in 820 (by rfl) (by decide +kernel)
theorem wd_821 : Cond.constant RX5 89 (-2147483648) ∈ tn_T := tn_in 821 (by decide +kernel) (by decide +kernel)
theorem wd_822 : Cond.methodLink RL 140 yX5_copy ∈ tn_T := tn_in 822 (by decide +kernel) (by decide +kernel)
theorem wd_823 : Cond.instanceMethod yX5_copy ∈ tn_T := tn_in 823 (by decide +kernel) (by decide +kernel)
theorem wd_824 : Cond.selects RX5 yX5_copy yX5_copy ∈ tn_T := tn_in 824 (by decide +kernel) (by decide +kernel)
set_option maxRecDepth 50000 in
theorem wd_825 : Cond.code yX5_copy cX5_copy 7 (some .int) ∈ tn_T := tn_in 825 (by rfl) (by decide +kernel)
theorem wd_826 : Cond.methodLink RL 17 yX5_type ∈ tn_T := tn_in 826 (by decide +kernel) (by decide +kernel)
theorem wd_827 : Cond.instanceMethod yX5_type ∈ tn_T := tn_in 827 (by decide +kernel) (by decide +kernel)
theorem wd_828 : Cond.selects RX5 yX5_type yX5_type ∈ tn_T := tn_in 828 (by decide +kernel) (by decide +kernel)
set_option maxRecDepth 50000 in
theorem wd_829 : Cond.code yX5_type cX5_type 2 (some .int) ∈ tn_T := tn_in 829 (by rfl) (by decide +kernel)
theorem wd_830 : Cond.constantLong RX5 94 (255) ∈ tn_T := tn_in 830 (by decide +kernel) (by decide +kernel)
theorem wd_831 : Cond.methodLink RL 22 yX5_wipe ∈ tn_T := tn_in 831 (by decide +kernel) (by decide +kernel)
theorem wd_832 : Cond.instanceMethod yX5_wipe ∈ tn_T := tn_in 832 (by decide +kernel) (by decide +kernel)
theorem wd_833 : Cond.selects RX5 yX5_wipe yX5_wipe ∈ tn_T := tn_in 833 (by decide +kernel) (by decide +kernel)
set_option maxRecDepth 50000 in
theorem wd_834 : Cond.code yX5_wipe cX5_wipe 2 (some .int) ∈ tn_T := tn_in 834 (by rfl) (by decide +kernel)
theorem wd_835 : Cond.methodLink RL 26 yX5_fault ∈ tn_T := tn_in 835 (by decide +kernel) (by decide +kernel)
theorem wd_836 : Cond.instanceMethod yX5_fault ∈ tn_T := tn_in 836 (by decide +kernel) (by decide +kernel)
theorem wd_837 : Cond.selects RX5 yX5_fault yX5_fault ∈ tn_T := tn_in 837 (by decide +kernel) (by decide +kernel)
set_option maxRecDepth 50000 in
theorem wd_838 : Cond.code yX5_fault cX5_fault 1 (some .int) ∈ tn_T := tn_in 838 (by rfl) (by decide +kernel)
theorem wd_839 : Cond.methodLink RX5 135 yX5_reads ∈ tn_T := tn_in 839 (by decide +kernel) (by decide +kernel)
theorem wd_841 : Cond.instanceMethod yX5_reads ∈ tn_T := tn_in 841 (by decide +kernel) (by decide +kernel)
set_option maxRecDepth 50000 in
theorem wd_842 : Cond.code yX5_reads cX5_reads 3 (some .int) ∈ tn_T := tn_in 842 (by rfl) (by decide +kernel)
theorem wd_843 : Cond.methodLink RX5 102 yX5_here ∈ tn_T := tn_in 843 (by decide +kernel) (by decide +kernel)
theorem wd_845 : Cond.instanceMethod yX5_here ∈ tn_T := tn_in 845 (by decide +kernel) (by decide +kernel)
set_option maxRecDepth 50000 in
theorem wd_846 : Cond.code yX5_here cX5_here 1 (some .int) ∈ tn_T := tn_in 846 (by rfl) (by decide +kernel)
theorem wd_847 : Cond.methodLink RX5 125 yX5_readsShop ∈ tn_T := tn_in 847 (by decide +kernel) (by decide +kernel)
theorem wd_849 : Cond.instanceMethod yX5_readsShop ∈ tn_T := tn_in 849 (by decide +kernel) (by decide +kernel)
set_option maxRecDepth 50000 in
theorem wd_850 : Cond.code yX5_readsShop cX5_readsShop 3 (some .boolean) ∈ tn_T := tn_in 850 (by rfl) (by decide +kernel)
theorem wd_851 : Cond.methodLink RX5 113 yX5_figures ∈ tn_T := tn_in 851 (by decide +kernel) (by decide +kernel)
theorem wd_853 : Cond.instanceMethod yX5_figures ∈ tn_T := tn_in 853 (by decide +kernel) (by decide +kernel)
set_option maxRecDepth 50000 in
theorem wd_854 : Cond.code yX5_figures cX5_figures 6 (some .int) ∈ tn_T := tn_in 854 (by rfl) (by decide +kernel)
theorem wd_855 : Cond.constantLong RX5 106 (48) ∈ tn_T := tn_in 855 (by decide +kernel) (by decide +kernel)
theorem wd_856 : Cond.constantLong RX5 108 (57) ∈ tn_T := tn_in 856 (by decide +kernel) (by decide +kernel)
theorem wd_857 : Cond.methodLink RX5 116 yX5_goes ∈ tn_T := tn_in 857 (by decide +kernel) (by decide +kernel)
theorem wd_859 : Cond.instanceMethod yX5_goes ∈ tn_T := tn_in 859 (by decide +kernel) (by decide +kernel)
set_option maxRecDepth 50000 in
theorem wd_860 : Cond.code yX5_goes cX5_goes 3 (some .boolean) ∈ tn_T := tn_in 860 (by rfl) (by decide +kernel)
theorem wd_861 : Cond.methodLink RX5 129 yX5_readsSort ∈ tn_T := tn_in 861 (by decide +kernel) (by decide +kernel)
theorem wd_863 : Cond.instanceMethod yX5_readsSort ∈ tn_T := tn_in 863 (by decide +kernel) (by decide +kernel)
set_option maxRecDepth 50000 in
theorem wd_864 : Cond.code yX5_readsSort cX5_readsSort 4 (some .boolean) ∈ tn_T := tn_in 864 (by rfl) (by decide +kernel)
theorem wd_865 : Cond.methodLink RX5 122 yX5_behind ∈ tn_T := tn_in 865 (by decide +kernel) (by decide +kernel)
theorem wd_867 : Cond.instanceMethod yX5_behind ∈ tn_T := tn_in 867 (by decide +kernel) (by decide +kernel)
set_option maxRecDepth 50000 in
theorem wd_868 : Cond.code yX5_behind cX5_behind 2 (some .int) ∈ tn_T := tn_in 868 (by rfl) (by decide +kernel)
theorem wd_869 : Cond.methodLink RX5 132 yX5_stops ∈ tn_T := tn_in 869 (by decide +kernel) (by decide +kernel)
theorem wd_871 : Cond.instanceMethod yX5_stops ∈ tn_T := tn_in 871 (by decide +kernel) (by decide +kernel)
set_option maxRecDepth 50000 in
theorem wd_872 : Cond.code yX5_stops cX5_stops 1 (some .int) ∈ tn_T := tn_in 872 (by rfl) (by decide +kernel)
theorem wd_873 : Cond.methodLink RL 31 yX5_shop ∈ tn_T := tn_in 873 (by decide +kernel) (by decide +kernel)
theorem wd_874 : Cond.instanceMethod yX5_shop ∈ tn_T := tn_in 874 (by decide +kernel) (by decide +kernel)
theorem wd_875 : Cond.selects RX5 yX5_shop yX5_shop ∈ tn_T := tn_in 875 (by decide +kernel) (by decide +kernel)
set_option maxRecDepth 50000 in
theorem wd_876 : Cond.code yX5_shop cX5_shop 3 (some .int) ∈ tn_T := tn_in 876 (by rfl) (by decide +kernel)
theorem wd_877 : Cond.methodLink RX5 138 yX5_isShop ∈ tn_T := tn_in 877 (by decide +kernel) (by decide +kernel)
theorem wd_879 : Cond.instanceMethod yX5_isShop ∈ tn_T := tn_in 879 (by decide +kernel) (by decide +kernel)
set_option maxRecDepth 50000 in
theorem wd_880 : Cond.code yX5_isShop cX5_isShop 2 (some .boolean) ∈ tn_T := tn_in 880 (by rfl) (by decide +kernel)
theorem wd_881 : Cond.methodLink RX5 141 yX5_isBound ∈ tn_T := tn_in 881 (by decide +kernel) (by decide +kernel)
theorem wd_883 : Cond.instanceMethod yX5_isBound ∈ tn_T := tn_in 883 (by decide +kernel) (by decide +kernel)
set_option maxRecDepth 50000 in
theorem wd_884 : Cond.code yX5_isBound cX5_isBound 2 (some .boolean) ∈ tn_T := tn_in 884 (by rfl) (by decide +kernel)
theorem wd_885 : Cond.methodLink RL 35 yX5_sort ∈ tn_T := tn_in 885 (by decide +kernel) (by decide +kernel)
theorem wd_886 : Cond.instanceMethod yX5_sort ∈ tn_T := tn_in 886 (by decide +kernel) (by decide +kernel)
theorem wd_887 : Cond.selects RX5 yX5_sort yX5_sort ∈ tn_T := tn_in 887 (by decide +kernel) (by decide +kernel)
set_option maxRecDepth 50000 in
theorem wd_888 : Cond.code yX5_sort cX5_sort 3 (some .int) ∈ tn_T := tn_in 888 (by rfl) (by decide +kernel)
theorem wd_889 : Cond.constantLong RX5 144 (5) ∈ tn_T := tn_in 889 (by decide +kernel) (by decide +kernel)
theorem wd_890 : Cond.methodLink RL 39 yX5_set ∈ tn_T := tn_in 890 (by decide +kernel) (by decide +kernel)
theorem wd_891 : Cond.instanceMethod yX5_set ∈ tn_T := tn_in 891 (by decide +kernel) (by decide +kernel)
theorem wd_892 : Cond.selects RX5 yX5_set yX5_set ∈ tn_T := tn_in 892 (by decide +kernel) (by decide +kernel)
set_option maxRecDepth 50000 in
theorem wd_893 : Cond.code yX5_set cX5_set 4 (some .int) ∈ tn_T := tn_in 893 (by rfl) (by decide +kernel)
theorem wd_894 : Cond.constantLong RX5 146 (7) ∈ tn_T := tn_in 894 (by decide +kernel) (by decide +kernel)
theorem wd_895 : Cond.methodLink RX5 148 yX5_high ∈ tn_T := tn_in 895 (by decide +kernel) (by decide +kernel)
theorem wd_896 : Cond.static yX5_high ∈ tn_T := tn_in 896 (by decide +kernel) (by decide +kernel)
set_option maxRecDepth 50000 in
theorem wd_897 : Cond.code yX5_high cX5_high 1 (some .int) ∈ tn_T := tn_in 897 (by rfl) (by decide +kernel)
theorem wd_898 : Cond.methodLink RL 43 yX5_hours ∈ tn_T := tn_in 898 (by decide +kernel) (by decide +kernel)
theorem wd_899 : Cond.instanceMethod yX5_hours ∈ tn_T := tn_in 899 (by decide +kernel) (by decide +kernel)
theorem wd_900 : Cond.selects RX5 yX5_hours yX5_hours ∈ tn_T := tn_in 900 (by decide +kernel) (by decide +kernel)
set_option maxRecDepth 50000 in
theorem wd_901 : Cond.code yX5_hours cX5_hours 4 (some .int) ∈ tn_T := tn_in 901 (by rfl) (by decide +kernel)
theorem wd_902 : Cond.constantLong RX5 151 (4) ∈ tn_T := tn_in 902 (by decide +kernel) (by decide +kernel)
theorem wd_903 : Cond.methodLink RL 47 yX5_read ∈ tn_T := tn_in 903 (by decide +kernel) (by decide +kernel)
theorem wd_904 : Cond.instanceMethod yX5_read ∈ tn_T := tn_in 904 (by decide +kernel) (by decide +kernel)
theorem wd_905 : Cond.selects RX5 yX5_read yX5_read ∈ tn_T := tn_in 905 (by decide +kernel) (by decide +kernel)
set_option maxRecDepth 50000 in
theorem wd_906 : Cond.code yX5_read cX5_read 3 (some .int) ∈ tn_T := tn_in 906 (by rfl) (by decide +kernel)
theorem wd_907 : Cond.methodLink RX5 153 yX5_hours ∈ tn_T := tn_in 907 (by decide +kernel) (by decide +kernel)
theorem wd_908 : Cond.methodLink RL 51 yX5_open ∈ tn_T := tn_in 908 (by decide +kernel) (by decide +kernel)
theorem wd_909 : Cond.instanceMethod yX5_open ∈ tn_T := tn_in 909 (by decide +kernel) (by decide +kernel)
theorem wd_910 : Cond.selects RX5 yX5_open yX5_open ∈ tn_T := tn_in 910 (by decide +kernel) (by decide +kernel)
set_option maxRecDepth 50000 in
theorem wd_911 : Cond.code yX5_open cX5_open 2 (some .int) ∈ tn_T := tn_in 911 (by rfl) (by decide +kernel)
theorem wd_912 : Cond.methodLink RX5 165 yX5_tries ∈ tn_T := tn_in 912 (by decide +kernel) (by decide +kernel)
theorem wd_914 : Cond.instanceMethod yX5_tries ∈ tn_T := tn_in 914 (by decide +kernel) (by decide +kernel)
set_option maxRecDepth 50000 in
theorem wd_915 : Cond.code yX5_tries cX5_tries 2 none ∈ tn_T := tn_in 915 (by rfl) (by decide +kernel)
theorem wd_916 : Cond.methodLink RX5 168 yX5_openIn ∈ tn_T := tn_in 916 (by decide +kernel) (by decide +kernel)
theorem wd_918 : Cond.instanceMethod yX5_openIn ∈ tn_T := tn_in 918 (by decide +kernel) (by decide +kernel)
set_option maxRecDepth 50000 in
theorem wd_919 : Cond.code yX5_openIn cX5_openIn 4 (some .int) ∈ tn_T := tn_in 919 (by rfl) (by decide +kernel)
theorem wd_920 : Cond.methodLink RL 56 yX5_earns ∈ tn_T := tn_in 920 (by decide +kernel) (by decide +kernel)
theorem wd_921 : Cond.instanceMethod yX5_earns ∈ tn_T := tn_in 921 (by decide +kernel) (by decide +kernel)
theorem wd_922 : Cond.selects RX5 yX5_earns yX5_earns ∈ tn_T := tn_in 922 (by decide +kernel) (by decide +kernel)
set_option maxRecDepth 50000 in
theorem wd_923 : Cond.code yX5_earns cX5_earns 3 (some .long) ∈ tn_T := tn_in 923 (by rfl) (by decide +kernel)
theorem wd_924 : Cond.methodLink RX5 206 yX5_isTwo ∈ tn_T := tn_in 924 (by decide +kernel) (by decide +kernel)
theorem wd_925 : Cond.static yX5_isTwo ∈ tn_T := tn_in 925 (by decide +kernel) (by decide +kernel)
set_option maxRecDepth 50000 in
theorem wd_926 : Cond.code yX5_isTwo cX5_isTwo 1 (some .boolean) ∈ tn_T := tn_in 926 (by rfl) (by decide +kernel)
theorem wd_927 : Cond.methodLink RX5 209 yX5_earnsOf ∈ tn_T := tn_in 927 (by decide +kernel) (by decide +kernel)
theorem wd_929 : Cond.instanceMethod yX5_earnsOf ∈ tn_T := tn_in 929 (by decide +kernel) (by decide +kernel)
set_option maxRecDepth 50000 in
theorem wd_930 : Cond.code yX5_earnsOf cX5_earnsOf 3 (some .long) ∈ tn_T := tn_in 930 (by rfl) (by decide +kernel)
theorem wd_931 : Cond.methodLink RX5 199 yX5_earnAll ∈ tn_T := tn_in 931 (by decide +kernel) (by decide +kernel)
theorem wd_933 : Cond.instanceMethod yX5_earnAll ∈ tn_T := tn_in 933 (by decide +kernel) (by decide +kernel)
set_option maxRecDepth 50000 in
theorem wd_934 : Cond.code yX5_earnAll cX5_earnAll 3 none ∈ tn_T := tn_in 934 (by rfl) (by decide +kernel)
theorem wd_935 : Cond.methodLink RX5 191 yX5_buys ∈ tn_T := tn_in 935 (by decide +kernel) (by decide +kernel)
theorem wd_937 : Cond.instanceMethod yX5_buys ∈ tn_T := tn_in 937 (by decide +kernel) (by decide +kernel)
set_option maxRecDepth 50000 in
theorem wd_938 : Cond.code yX5_buys cX5_buys 15 none ∈ tn_T := tn_in 938 (by rfl) (by decide +kernel)
theorem wd_939 : Cond.methodLink RX5 178 yX5_ones ∈ tn_T := tn_in 939 (by decide +kernel) (by decide +kernel)
theorem wd_940 : Cond.static yX5_ones ∈ tn_T := tn_in 940 (by decide +kernel) (by decide +kernel)
set_option maxRecDepth 50000 in
theorem wd_941 : Cond.code yX5_ones cX5_ones 3 (some .int) ∈ tn_T := tn_in 941 (by rfl) (by decide +kernel)
theorem wd_942 : Cond.constantLong RX5 181 (256) ∈ tn_T := tn_in 942 (by decide +kernel) (by decide +kernel)
theorem wd_943 : Cond.constantLong RX5 183 (360360) ∈ tn_T := tn_in 943 (by decide +kernel) (by decide +kernel)
theorem wd_944 : Cond.methodLink RX5 185 yX5_parts ∈ tn_T := tn_in 944 (by decide +kernel) (by decide +kernel)
theorem wd_946 : Cond.instanceMethod yX5_parts ∈ tn_T := tn_in 946 (by decide +kernel) (by decide +kernel)
set_option maxRecDepth 50000 in
theorem wd_947 : Cond.code yX5_parts cX5_parts 7 none ∈ tn_T := tn_in 947 (by rfl) (by decide +kernel)
theorem wd_948 : Cond.methodLink RX5 171 yX5_sizesOf ∈ tn_T := tn_in 948 (by decide +kernel) (by decide +kernel)
theorem wd_950 : Cond.instanceMethod yX5_sizesOf ∈ tn_T := tn_in 950 (by decide +kernel) (by decide +kernel)
set_option maxRecDepth 50000 in
theorem wd_951 : Cond.code yX5_sizesOf cX5_sizesOf 4 (some .int) ∈ tn_T := tn_in 951 (by rfl) (by decide +kernel)
theorem wd_952 : Cond.constantLong RX5 189 (16) ∈ tn_T := tn_in 952 (by decide +kernel) (by decide +kernel)
theorem wd_953 : Cond.constantLong RX5 195 (11808276480) ∈ tn_T := tn_in 953 (by decide +kernel) (by decide +kernel)
theorem wd_954 : Cond.constantLong RX5 197 (738017280) ∈ tn_T := tn_in 954 (by decide +kernel) (by decide +kernel)
theorem wd_955 : Cond.methodLink RX5 216 yX5_part ∈ tn_T := tn_in 955 (by decide +kernel) (by decide +kernel)
theorem wd_956 : Cond.static yX5_part ∈ tn_T := tn_in 956 (by decide +kernel) (by decide +kernel)
set_option maxRecDepth 50000 in
theorem wd_957 : Cond.code yX5_part cX5_part 5 (some .long) ∈ tn_T := tn_in 957 (by rfl) (by decide +kernel)
theorem wd_958 : Cond.methodLink RX5 90 yX5_divisor ∈ tn_T := tn_in 958 (by decide +kernel) (by decide +kernel)
theorem wd_959 : Cond.static yX5_divisor ∈ tn_T := tn_in 959 (by decide +kernel) (by decide +kernel)
set_option maxRecDepth 50000 in
theorem wd_960 : Cond.code yX5_divisor cX5_divisor 10 (some .long) ∈ tn_T := tn_in 960 (by rfl) (by decide +kernel)
theorem wd_961 : Cond.methodLink RX5 212 yX5_no ∈ tn_T := tn_in 961 (by decide +kernel) (by decide +kernel)
theorem wd_962 : Cond.static yX5_no ∈ tn_T := tn_in 962 (by decide +kernel) (by decide +kernel)
set_option maxRecDepth 50000 in
theorem wd_963 : Cond.code yX5_no cX5_no 1 (some .long) ∈ tn_T := tn_in 963 (by rfl) (by decide +kernel)
theorem wd_964 : Cond.constantLong RX5 59 (-9223372036854775808) ∈ tn_T := tn_in 964 (by decide +kernel) (by decide +kernel)
theorem wd_965 : Cond.methodLink RL 60 yX5_all ∈ tn_T := tn_in 965 (by decide +kernel) (by decide +kernel)
theorem wd_966 : Cond.instanceMethod yX5_all ∈ tn_T := tn_in 966 (by decide +kernel) (by decide +kernel)
theorem wd_967 : Cond.selects RX5 yX5_all yX5_all ∈ tn_T := tn_in 967 (by decide +kernel) (by decide +kernel)
set_option maxRecDepth 50000 in
theorem wd_968 : Cond.code yX5_all cX5_all 3 (some .long) ∈ tn_T := tn_in 968 (by rfl) (by decide +kernel)
theorem wd_969 : Cond.methodLink RX5 224 yX5_allOf ∈ tn_T := tn_in 969 (by decide +kernel) (by decide +kernel)
theorem wd_971 : Cond.instanceMethod yX5_allOf ∈ tn_T := tn_in 971 (by decide +kernel) (by decide +kernel)
set_option maxRecDepth 50000 in
theorem wd_972 : Cond.code yX5_allOf cX5_allOf 5 (some .long) ∈ tn_T := tn_in 972 (by rfl) (by decide +kernel)
theorem wd_973 : Cond.methodLink RX5 220 yX5_together ∈ tn_T := tn_in 973 (by decide +kernel) (by decide +kernel)
theorem wd_975 : Cond.instanceMethod yX5_together ∈ tn_T := tn_in 975 (by decide +kernel) (by decide +kernel)
set_option maxRecDepth 50000 in
theorem wd_976 : Cond.code yX5_together cX5_together 4 (some .long) ∈ tn_T := tn_in 976 (by rfl) (by decide +kernel)
theorem wd_977 : Cond.methodLink RL 64 yX5_answer ∈ tn_T := tn_in 977 (by decide +kernel) (by decide +kernel)
theorem wd_978 : Cond.instanceMethod yX5_answer ∈ tn_T := tn_in 978 (by decide +kernel) (by decide +kernel)
theorem wd_979 : Cond.selects RX5 yX5_answer yX5_answer ∈ tn_T := tn_in 979 (by decide +kernel) (by decide +kernel)
set_option maxRecDepth 50000 in
theorem wd_980 : Cond.code yX5_answer cX5_answer 2 (some .int) ∈ tn_T := tn_in 980 (by rfl) (by decide +kernel)
theorem wd_981 : Cond.methodLink RX5 230 yX5_answerNow ∈ tn_T := tn_in 981 (by decide +kernel) (by decide +kernel)
theorem wd_983 : Cond.instanceMethod yX5_answerNow ∈ tn_T := tn_in 983 (by decide +kernel) (by decide +kernel)
set_option maxRecDepth 50000 in
theorem wd_984 : Cond.code yX5_answerNow cX5_answerNow 2 (some .int) ∈ tn_T := tn_in 984 (by rfl) (by decide +kernel)
theorem wd_985 : Cond.methodLink RX5 227 yX5_answerOf ∈ tn_T := tn_in 985 (by decide +kernel) (by decide +kernel)
theorem wd_987 : Cond.instanceMethod yX5_answerOf ∈ tn_T := tn_in 987 (by decide +kernel) (by decide +kernel)
set_option maxRecDepth 50000 in
theorem wd_988 : Cond.code yX5_answerOf cX5_answerOf 9 (some .int) ∈ tn_T := tn_in 988 (by rfl) (by decide +kernel)
theorem wd_989 : Cond.methodLink RX5 202 yX5_earnsBy ∈ tn_T := tn_in 989 (by decide +kernel) (by decide +kernel)
theorem wd_991 : Cond.instanceMethod yX5_earnsBy ∈ tn_T := tn_in 991 (by decide +kernel) (by decide +kernel)
set_option maxRecDepth 50000 in
theorem wd_992 : Cond.code yX5_earnsBy cX5_earnsBy 4 (some .long) ∈ tn_T := tn_in 992 (by rfl) (by decide +kernel)
theorem wd_993 : Cond.methodLink RL 68 yX5_rest ∈ tn_T := tn_in 993 (by decide +kernel) (by decide +kernel)
theorem wd_994 : Cond.instanceMethod yX5_rest ∈ tn_T := tn_in 994 (by decide +kernel) (by decide +kernel)
theorem wd_995 : Cond.selects RX5 yX5_rest yX5_rest ∈ tn_T := tn_in 995 (by decide +kernel) (by decide +kernel)
set_option maxRecDepth 50000 in
theorem wd_996 : Cond.code yX5_rest cX5_rest 2 (some .int) ∈ tn_T := tn_in 996 (by rfl) (by decide +kernel)
theorem wd_997 : Cond.methodLink RX5 242 yX5_restOf ∈ tn_T := tn_in 997 (by decide +kernel) (by decide +kernel)
theorem wd_999 : Cond.instanceMethod yX5_restOf ∈ tn_T := tn_in 999 (by decide +kernel) (by decide +kernel)
set_option maxRecDepth 50000 in
theorem wd_1000 : Cond.code yX5_restOf cX5_restOf 2 (some .int) ∈ tn_T := tn_in 1000 (by rfl) (by decide +kernel)
theorem wd_1001 : Cond.methodLink RX5 239 yX5_runsDown ∈ tn_T := tn_in 1001 (by decide +kernel) (by decide +kernel)
theorem wd_1003 : Cond.instanceMethod yX5_runsDown ∈ tn_T := tn_in 1003 (by decide +kernel) (by decide +kernel)
set_option maxRecDepth 50000 in
theorem wd_1004 : Cond.code yX5_runsDown cX5_runsDown 1 (some .boolean) ∈ tn_T := tn_in 1004 (by rfl) (by decide +kernel)
theorem wd_1005 : Cond.methodLink RX5 236 yX5_roundGoes ∈ tn_T := tn_in 1005 (by decide +kernel) (by decide +kernel)
theorem wd_1007 : Cond.instanceMethod yX5_roundGoes ∈ tn_T := tn_in 1007 (by decide +kernel) (by decide +kernel)
set_option maxRecDepth 50000 in
theorem wd_1008 : Cond.code yX5_roundGoes cX5_roundGoes 5 (some .boolean) ∈ tn_T := tn_in 1008 (by rfl) (by decide +kernel)
theorem wd_1009 : Cond.methodLink RL 72 yX5_still ∈ tn_T := tn_in 1009 (by decide +kernel) (by decide +kernel)
theorem wd_1010 : Cond.instanceMethod yX5_still ∈ tn_T := tn_in 1010 (by decide +kernel) (by decide +kernel)
theorem wd_1011 : Cond.selects RX5 yX5_still yX5_still ∈ tn_T := tn_in 1011 (by decide +kernel) (by decide +kernel)
set_option maxRecDepth 50000 in
theorem wd_1012 : Cond.code yX5_still cX5_still 4 (some .int) ∈ tn_T := tn_in 1012 (by rfl) (by decide +kernel)
theorem wd_1013 : Cond.methodLink RX5 251 yX5_stillOf ∈ tn_T := tn_in 1013 (by decide +kernel) (by decide +kernel)
theorem wd_1015 : Cond.instanceMethod yX5_stillOf ∈ tn_T := tn_in 1015 (by decide +kernel) (by decide +kernel)
set_option maxRecDepth 50000 in
theorem wd_1016 : Cond.code yX5_stillOf cX5_stillOf 5 (some .int) ∈ tn_T := tn_in 1016 (by rfl) (by decide +kernel)
theorem wd_1017 : Cond.methodLink RX5 245 yX5_lays ∈ tn_T := tn_in 1017 (by decide +kernel) (by decide +kernel)
theorem wd_1019 : Cond.instanceMethod yX5_lays ∈ tn_T := tn_in 1019 (by decide +kernel) (by decide +kernel)
set_option maxRecDepth 50000 in
theorem wd_1020 : Cond.code yX5_lays cX5_lays 4 none ∈ tn_T := tn_in 1020 (by rfl) (by decide +kernel)
theorem wd_1021 : Cond.methodLink RX5 248 yX5_isStill ∈ tn_T := tn_in 1021 (by decide +kernel) (by decide +kernel)
theorem wd_1023 : Cond.instanceMethod yX5_isStill ∈ tn_T := tn_in 1023 (by decide +kernel) (by decide +kernel)
set_option maxRecDepth 50000 in
theorem wd_1024 : Cond.code yX5_isStill cX5_isStill 5 (some .boolean) ∈ tn_T := tn_in 1024 (by rfl) (by decide +kernel)
theorem wd_1025 : Cond.methodLink RL 76 yX5_best ∈ tn_T := tn_in 1025 (by decide +kernel) (by decide +kernel)
theorem wd_1026 : Cond.instanceMethod yX5_best ∈ tn_T := tn_in 1026 (by decide +kernel) (by decide +kernel)
theorem wd_1027 : Cond.selects RX5 yX5_best yX5_best ∈ tn_T := tn_in 1027 (by decide +kernel) (by decide +kernel)
set_option maxRecDepth 50000 in
theorem wd_1028 : Cond.code yX5_best cX5_best 3 (some .int) ∈ tn_T := tn_in 1028 (by rfl) (by decide +kernel)
theorem wd_1029 : Cond.methodLink RX5 260 yX5_bestOf ∈ tn_T := tn_in 1029 (by decide +kernel) (by decide +kernel)
theorem wd_1031 : Cond.instanceMethod yX5_bestOf ∈ tn_T := tn_in 1031 (by decide +kernel) (by decide +kernel)
set_option maxRecDepth 50000 in
theorem wd_1032 : Cond.code yX5_bestOf cX5_bestOf 3 (some .int) ∈ tn_T := tn_in 1032 (by rfl) (by decide +kernel)
theorem wd_1033 : Cond.methodLink RX5 257 yX5_findBest ∈ tn_T := tn_in 1033 (by decide +kernel) (by decide +kernel)
theorem wd_1035 : Cond.instanceMethod yX5_findBest ∈ tn_T := tn_in 1035 (by decide +kernel) (by decide +kernel)
set_option maxRecDepth 50000 in
theorem wd_1036 : Cond.code yX5_findBest cX5_findBest 8 (some .int) ∈ tn_T := tn_in 1036 (by rfl) (by decide +kernel)
theorem wd_1037 : Cond.methodLink RL 81 yX5_loss ∈ tn_T := tn_in 1037 (by decide +kernel) (by decide +kernel)
theorem wd_1038 : Cond.instanceMethod yX5_loss ∈ tn_T := tn_in 1038 (by decide +kernel) (by decide +kernel)
theorem wd_1039 : Cond.selects RX5 yX5_loss yX5_loss ∈ tn_T := tn_in 1039 (by decide +kernel) (by decide +kernel)
set_option maxRecDepth 50000 in
theorem wd_1040 : Cond.code yX5_loss cX5_loss 4 (some .long) ∈ tn_T := tn_in 1040 (by rfl) (by decide +kernel)
theorem wd_1041 : Cond.methodLink RL 85 yX5_leastFine ∈ tn_T := tn_in 1041 (by decide +kernel) (by decide +kernel)
theorem wd_1042 : Cond.instanceMethod yX5_leastFine ∈ tn_T := tn_in 1042 (by decide +kernel) (by decide +kernel)
theorem wd_1043 : Cond.selects RX5 yX5_leastFine yX5_leastFine ∈ tn_T := tn_in 1043 (by decide +kernel) (by decide +kernel)
set_option maxRecDepth 50000 in
theorem wd_1044 : Cond.code yX5_leastFine cX5_leastFine 1 (some .int) ∈ tn_T := tn_in 1044 (by rfl) (by decide +kernel)
theorem wd_1045 : Cond.methodLink RX5 263 yX5_leastNow ∈ tn_T := tn_in 1045 (by decide +kernel) (by decide +kernel)
theorem wd_1047 : Cond.instanceMethod yX5_leastNow ∈ tn_T := tn_in 1047 (by decide +kernel) (by decide +kernel)
set_option maxRecDepth 50000 in
theorem wd_1048 : Cond.code yX5_leastNow cX5_leastNow 8 (some .int) ∈ tn_T := tn_in 1048 (by rfl) (by decide +kernel)
theorem wd_1049 : Cond.methodLink RL 89 yX5_bestCap ∈ tn_T := tn_in 1049 (by decide +kernel) (by decide +kernel)
theorem wd_1050 : Cond.instanceMethod yX5_bestCap ∈ tn_T := tn_in 1050 (by decide +kernel) (by decide +kernel)
theorem wd_1051 : Cond.selects RX5 yX5_bestCap yX5_bestCap ∈ tn_T := tn_in 1051 (by decide +kernel) (by decide +kernel)
set_option maxRecDepth 50000 in
theorem wd_1052 : Cond.code yX5_bestCap cX5_bestCap 8 (some .long) ∈ tn_T := tn_in 1052 (by rfl) (by decide +kernel)
theorem wd_1053 : Cond.methodLink RL 93 yX5_edge ∈ tn_T := tn_in 1053 (by decide +kernel) (by decide +kernel)
theorem wd_1054 : Cond.instanceMethod yX5_edge ∈ tn_T := tn_in 1054 (by decide +kernel) (by decide +kernel)
theorem wd_1055 : Cond.selects RX5 yX5_edge yX5_edge ∈ tn_T := tn_in 1055 (by decide +kernel) (by decide +kernel)
set_option maxRecDepth 50000 in
theorem wd_1056 : Cond.code yX5_edge cX5_edge 3 (some .int) ∈ tn_T := tn_in 1056 (by rfl) (by decide +kernel)
theorem wd_1057 : Cond.methodLink RL 97 yX5_always ∈ tn_T := tn_in 1057 (by decide +kernel) (by decide +kernel)
theorem wd_1058 : Cond.instanceMethod yX5_always ∈ tn_T := tn_in 1058 (by decide +kernel) (by decide +kernel)
theorem wd_1059 : Cond.selects RX5 yX5_always yX5_always ∈ tn_T := tn_in 1059 (by decide +kernel) (by decide +kernel)
set_option maxRecDepth 50000 in
theorem wd_1060 : Cond.code yX5_always cX5_always 5 (some .long) ∈ tn_T := tn_in 1060 (by rfl) (by decide +kernel)
theorem wd_1061 : Cond.methodLink RL 101 yX5_turn ∈ tn_T := tn_in 1061 (by decide +kernel) (by decide +kernel)
theorem wd_1062 : Cond.instanceMethod yX5_turn ∈ tn_T := tn_in 1062 (by decide +kernel) (by decide +kernel)
theorem wd_1063 : Cond.selects RX5 yX5_turn yX5_turn ∈ tn_T := tn_in 1063 (by decide +kernel) (by decide +kernel)
set_option maxRecDepth 50000 in
theorem wd_1064 : Cond.code yX5_turn cX5_turn 4 (some .int) ∈ tn_T := tn_in 1064 (by rfl) (by decide +kernel)
theorem wd_1065 : Cond.constantLong RX5 266 (31) ∈ tn_T := tn_in 1065 (by decide +kernel) (by decide +kernel)
theorem wd_1066 : Cond.methodLink RL 105 yX5_keeps ∈ tn_T := tn_in 1066 (by decide +kernel) (by decide +kernel)
theorem wd_1067 : Cond.instanceMethod yX5_keeps ∈ tn_T := tn_in 1067 (by decide +kernel) (by decide +kernel)
theorem wd_1068 : Cond.selects RX5 yX5_keeps yX5_keeps ∈ tn_T := tn_in 1068 (by decide +kernel) (by decide +kernel)
set_option maxRecDepth 50000 in
theorem wd_1069 : Cond.code yX5_keeps cX5_keeps 2 (some .int) ∈ tn_T := tn_in 1069 (by rfl) (by decide +kernel)
theorem wd_1070 : Cond.methodLink RX5 271 yX5_keepsOf ∈ tn_T := tn_in 1070 (by decide +kernel) (by decide +kernel)
theorem wd_1072 : Cond.instanceMethod yX5_keepsOf ∈ tn_T := tn_in 1072 (by decide +kernel) (by decide +kernel)
set_option maxRecDepth 50000 in
theorem wd_1073 : Cond.code yX5_keepsOf cX5_keepsOf 4 (some .int) ∈ tn_T := tn_in 1073 (by rfl) (by decide +kernel)
theorem wd_1074 : Cond.methodLink RX5 268 yX5_layTurn ∈ tn_T := tn_in 1074 (by decide +kernel) (by decide +kernel)
theorem wd_1076 : Cond.instanceMethod yX5_layTurn ∈ tn_T := tn_in 1076 (by decide +kernel) (by decide +kernel)
set_option maxRecDepth 50000 in
theorem wd_1077 : Cond.code yX5_layTurn cX5_layTurn 3 none ∈ tn_T := tn_in 1077 (by rfl) (by decide +kernel)
theorem wd_1078 : Cond.methodLink RL 109 yX5_week ∈ tn_T := tn_in 1078 (by decide +kernel) (by decide +kernel)
theorem wd_1079 : Cond.instanceMethod yX5_week ∈ tn_T := tn_in 1079 (by decide +kernel) (by decide +kernel)
theorem wd_1080 : Cond.selects RX5 yX5_week yX5_week ∈ tn_T := tn_in 1080 (by decide +kernel) (by decide +kernel)
set_option maxRecDepth 50000 in
theorem wd_1081 : Cond.code yX5_week cX5_week 6 (some .long) ∈ tn_T := tn_in 1081 (by rfl) (by decide +kernel)
theorem wd_1082 : Cond.methodLink RL 113 yX5_weeks ∈ tn_T := tn_in 1082 (by decide +kernel) (by decide +kernel)
theorem wd_1083 : Cond.instanceMethod yX5_weeks ∈ tn_T := tn_in 1083 (by decide +kernel) (by decide +kernel)
theorem wd_1084 : Cond.selects RX5 yX5_weeks yX5_weeks ∈ tn_T := tn_in 1084 (by decide +kernel) (by decide +kernel)
set_option maxRecDepth 50000 in
theorem wd_1085 : Cond.code yX5_weeks cX5_weeks 3 (some .int) ∈ tn_T := tn_in 1085 (by rfl) (by decide +kernel)
theorem wd_1086 : Cond.constantLong RX5 277 (50) ∈ tn_T := tn_in 1086 (by decide +kernel) (by decide +kernel)
theorem wd_1087 : Cond.methodLink RX5 279 yX5_weeksOf ∈ tn_T := tn_in 1087 (by decide +kernel) (by decide +kernel)
theorem wd_1089 : Cond.instanceMethod yX5_weeksOf ∈ tn_T := tn_in 1089 (by decide +kernel) (by decide +kernel)
set_option maxRecDepth 50000 in
theorem wd_1090 : Cond.code yX5_weeksOf cX5_weeksOf 4 (some .int) ∈ tn_T := tn_in 1090 (by rfl) (by decide +kernel)
theorem wd_1091 : Cond.methodLink RX5 274 yX5_weekGoes ∈ tn_T := tn_in 1091 (by decide +kernel) (by decide +kernel)
theorem wd_1093 : Cond.instanceMethod yX5_weekGoes ∈ tn_T := tn_in 1093 (by decide +kernel) (by decide +kernel)
set_option maxRecDepth 50000 in
theorem wd_1094 : Cond.code yX5_weekGoes cX5_weekGoes 3 none ∈ tn_T := tn_in 1094 (by rfl) (by decide +kernel)
theorem wd_1095 : Cond.methodLink RL 117 yX5_back ∈ tn_T := tn_in 1095 (by decide +kernel) (by decide +kernel)
theorem wd_1096 : Cond.instanceMethod yX5_back ∈ tn_T := tn_in 1096 (by decide +kernel) (by decide +kernel)
theorem wd_1097 : Cond.selects RX5 yX5_back yX5_back ∈ tn_T := tn_in 1097 (by decide +kernel) (by decide +kernel)
set_option maxRecDepth 50000 in
theorem wd_1098 : Cond.code yX5_back cX5_back 1 (some .int) ∈ tn_T := tn_in 1098 (by rfl) (by decide +kernel)
theorem wd_1099 : Cond.methodLink RX5 285 yX5_backNow ∈ tn_T := tn_in 1099 (by decide +kernel) (by decide +kernel)
theorem wd_1101 : Cond.instanceMethod yX5_backNow ∈ tn_T := tn_in 1101 (by decide +kernel) (by decide +kernel)
set_option maxRecDepth 50000 in
theorem wd_1102 : Cond.code yX5_backNow cX5_backNow 2 (some .int) ∈ tn_T := tn_in 1102 (by rfl) (by decide +kernel)
theorem wd_1103 : Cond.methodLink RX5 282 yX5_isNoWayBack ∈ tn_T := tn_in 1103 (by decide +kernel) (by decide +kernel)
theorem wd_1105 : Cond.instanceMethod yX5_isNoWayBack ∈ tn_T := tn_in 1105 (by decide +kernel) (by decide +kernel)
set_option maxRecDepth 50000 in
theorem wd_1106 : Cond.code yX5_isNoWayBack cX5_isNoWayBack 3 (some .boolean) ∈ tn_T := tn_in 1106 (by rfl) (by decide +kernel)
theorem wd_1107 : Cond.methodLink RL 144 yX5_write ∈ tn_T := tn_in 1107 (by decide +kernel) (by decide +kernel)
theorem wd_1108 : Cond.instanceMethod yX5_write ∈ tn_T := tn_in 1108 (by decide +kernel) (by decide +kernel)
theorem wd_1109 : Cond.selects RX5 yX5_write yX5_write ∈ tn_T := tn_in 1109 (by decide +kernel) (by decide +kernel)
set_option maxRecDepth 50000 in
theorem wd_1110 : Cond.code yX5_write cX5_write 4 (some .int) ∈ tn_T := tn_in 1110 (by rfl) (by decide +kernel)
theorem wd_1111 : Cond.methodLink RL 148 yX5_count ∈ tn_T := tn_in 1111 (by decide +kernel) (by decide +kernel)
theorem wd_1112 : Cond.instanceMethod yX5_count ∈ tn_T := tn_in 1112 (by decide +kernel) (by decide +kernel)
theorem wd_1113 : Cond.selects RX5 yX5_count yX5_count ∈ tn_T := tn_in 1113 (by decide +kernel) (by decide +kernel)
set_option maxRecDepth 50000 in
theorem wd_1114 : Cond.code yX5_count cX5_count 4 (some .int) ∈ tn_T := tn_in 1114 (by rfl) (by decide +kernel)
theorem wd_1115 : Cond.methodLink RL 153 yX5_digest ∈ tn_T := tn_in 1115 (by decide +kernel) (by decide +kernel)
theorem wd_1116 : Cond.instanceMethod yX5_digest ∈ tn_T := tn_in 1116 (by decide +kernel) (by decide +kernel)
theorem wd_1117 : Cond.selects RX5 yX5_digest yX5_digest ∈ tn_T := tn_in 1117 (by decide +kernel) (by decide +kernel)
set_option maxRecDepth 50000 in
theorem wd_1118 : Cond.code yX5_digest cX5_digest 4 (some .long) ∈ tn_T := tn_in 1118 (by rfl) (by decide +kernel)
theorem wd_1119 : Cond.constantLong RX5 288 (17) ∈ tn_T := tn_in 1119 (by decide +kernel) (by decide +kernel)
theorem wd_1120 : Cond.methodLink RX5 290 yX5_count ∈ tn_T := tn_in 1120 (by decide +kernel) (by decide +kernel)
theorem in_X0 : ∀ w ∈ u_ws RX0 TX0 13, w ∈ tn_T := by
  intro w hw
  have h : ∀ w ∈ u_ws RX0 TX0 13, w ∈ lw_tbl ∧ goodWord w = true := by decide +kernel
  exact List.mem_filter.mpr (h w hw)
theorem in_X1 : ∀ w ∈ u_ws RX1 TX1 4, w ∈ tn_T := by
  intro w hw
  have h : ∀ w ∈ u_ws RX1 TX1 4, w ∈ lw_tbl ∧ goodWord w = true := by decide +kernel
  exact List.mem_filter.mpr (h w hw)
theorem in_X2 : ∀ w ∈ u_ws RX2 TX2 9, w ∈ tn_T := by
  intro w hw
  have h : ∀ w ∈ u_ws RX2 TX2 9, w ∈ lw_tbl ∧ goodWord w = true := by decide +kernel
  exact List.mem_filter.mpr (h w hw)
theorem in_X3 : ∀ w ∈ u_ws RX3 TX3 2, w ∈ tn_T := by
  intro w hw
  have h : ∀ w ∈ u_ws RX3 TX3 2, w ∈ lw_tbl ∧ goodWord w = true := by decide +kernel
  exact List.mem_filter.mpr (h w hw)
theorem in_X4 : ∀ w ∈ u_ws RX4 TX4 7, w ∈ tn_T := by
  intro w hw
  have h : ∀ w ∈ u_ws RX4 TX4 7, w ∈ lw_tbl ∧ goodWord w = true := by decide +kernel
  exact List.mem_filter.mpr (h w hw)
theorem in_X5 : ∀ w ∈ u_ws RX5 TX5 27, w ∈ tn_T := by
  intro w hw
  have h : ∀ w ∈ u_ws RX5 TX5 27, w ∈ lw_tbl ∧ goodWord w = true := by decide +kernel
  exact List.mem_filter.mpr (h w hw)
theorem gf_X0_0 {E : tn_E} {G : tn_G} {cc : ByteArray} {own : String} {nL : Nat} {R : Room} {ρ : Type} {enc : ρ → Option Value} {pc : Nat} {lv : List (Nat × Value)} {st : List Value} {σ : tn_M} {i : Nat} {res : Option (ρ × tn_M)} (g : tn_Ok E G cc own nL R) (hw : Cond.fieldLink own i "TillNine$Scene" "street" "LTillNine$Street;" ∈ tn_T) (n : Nat) (hd : decode cc pc = .ok (.getfield i, 3)) (hn : pc + 3 = n) (k : tn_V E G enc n lv (.ref (tn_ad E 1) :: st) σ res) : tn_V E G enc pc lv (.ref (tn_ad E 3) :: st) σ res :=
  tr_get (j := 0) g in_X0 (ci := 0) rfl (by decide) rfl (by decide) hw rfl n hd hn k
theorem gf_X0_1 {E : tn_E} {G : tn_G} {cc : ByteArray} {own : String} {nL : Nat} {R : Room} {ρ : Type} {enc : ρ → Option Value} {pc : Nat} {lv : List (Nat × Value)} {st : List Value} {σ : tn_M} {i : Nat} {res : Option (ρ × tn_M)} (g : tn_Ok E G cc own nL R) (hw : Cond.fieldLink own i "TillNine$Scene" "trade" "LTillNine$Trade;" ∈ tn_T) (n : Nat) (hd : decode cc pc = .ok (.getfield i, 3)) (hn : pc + 3 = n) (k : tn_V E G enc n lv (.ref (tn_ad E 2) :: st) σ res) : tn_V E G enc pc lv (.ref (tn_ad E 3) :: st) σ res :=
  tr_get (j := 1) g in_X0 (ci := 0) rfl (by decide) rfl (by decide) hw rfl n hd hn k
theorem gf_X0_2 {E : tn_E} {G : tn_G} {cc : ByteArray} {own : String} {nL : Nat} {R : Room} {ρ : Type} {enc : ρ → Option Value} {pc : Nat} {lv : List (Nat × Value)} {st : List Value} {σ : tn_M} {i : Nat} {res : Option (ρ × tn_M)} (g : tn_Ok E G cc own nL R) (hw : Cond.fieldLink own i "TillNine$Scene" "until" "[I" ∈ tn_T) (n : Nat) (hd : decode cc pc = .ok (.getfield i, 3)) (hn : pc + 3 = n) (k : tn_V E G enc n lv (.ref (tn_ad E 20) :: st) σ res) : tn_V E G enc pc lv (.ref (tn_ad E 3) :: st) σ res :=
  tr_get (j := 2) g in_X0 (ci := 0) rfl (by decide) rfl (by decide) hw rfl n hd hn k
theorem gf_X0_3 {E : tn_E} {G : tn_G} {cc : ByteArray} {own : String} {nL : Nat} {R : Room} {ρ : Type} {enc : ρ → Option Value} {pc : Nat} {lv : List (Nat × Value)} {st : List Value} {σ : tn_M} {i : Nat} {res : Option (ρ × tn_M)} (g : tn_Ok E G cc own nL R) (hw : Cond.fieldLink own i "TillNine$Scene" "limit" "[I" ∈ tn_T) (n : Nat) (hd : decode cc pc = .ok (.getfield i, 3)) (hn : pc + 3 = n) (k : tn_V E G enc n lv (.ref (tn_ad E 21) :: st) σ res) : tn_V E G enc pc lv (.ref (tn_ad E 3) :: st) σ res :=
  tr_get (j := 3) g in_X0 (ci := 0) rfl (by decide) rfl (by decide) hw rfl n hd hn k
theorem gf_X0_4 {E : tn_E} {G : tn_G} {cc : ByteArray} {own : String} {nL : Nat} {R : Room} {ρ : Type} {enc : ρ → Option Value} {pc : Nat} {lv : List (Nat × Value)} {st : List Value} {σ : tn_M} {i : Nat} {res : Option (ρ × tn_M)} (g : tn_Ok E G cc own nL R) (hw : Cond.fieldLink own i "TillNine$Scene" "habit" "[I" ∈ tn_T) (n : Nat) (hd : decode cc pc = .ok (.getfield i, 3)) (hn : pc + 3 = n) (k : tn_V E G enc n lv (.ref (tn_ad E 22) :: st) σ res) : tn_V E G enc pc lv (.ref (tn_ad E 3) :: st) σ res :=
  tr_get (j := 4) g in_X0 (ci := 0) rfl (by decide) rfl (by decide) hw rfl n hd hn k
theorem gf_X0_5 {E : tn_E} {G : tn_G} {cc : ByteArray} {own : String} {nL : Nat} {R : Room} {ρ : Type} {enc : ρ → Option Value} {pc : Nat} {lv : List (Nat × Value)} {st : List Value} {σ : tn_M} {i : Nat} {res : Option (ρ × tn_M)} (g : tn_Ok E G cc own nL R) (hw : Cond.fieldLink own i "TillNine$Scene" "before" "[I" ∈ tn_T) (n : Nat) (hd : decode cc pc = .ok (.getfield i, 3)) (hn : pc + 3 = n) (k : tn_V E G enc n lv (.ref (tn_ad E 23) :: st) σ res) : tn_V E G enc pc lv (.ref (tn_ad E 3) :: st) σ res :=
  tr_get (j := 5) g in_X0 (ci := 0) rfl (by decide) rfl (by decide) hw rfl n hd hn k
theorem gf_X0_6 {E : tn_E} {G : tn_G} {cc : ByteArray} {own : String} {nL : Nat} {R : Room} {ρ : Type} {enc : ρ → Option Value} {pc : Nat} {lv : List (Nat × Value)} {st : List Value} {σ : tn_M} {i : Nat} {res : Option (ρ × tn_M)} (g : tn_Ok E G cc own nL R) (hw : Cond.fieldLink own i "TillNine$Scene" "lights" "[I" ∈ tn_T) (n : Nat) (hd : decode cc pc = .ok (.getfield i, 3)) (hn : pc + 3 = n) (k : tn_V E G enc n lv (.ref (tn_ad E 24) :: st) σ res) : tn_V E G enc pc lv (.ref (tn_ad E 3) :: st) σ res :=
  tr_get (j := 6) g in_X0 (ci := 0) rfl (by decide) rfl (by decide) hw rfl n hd hn k
theorem gf_X0_7 {E : tn_E} {G : tn_G} {cc : ByteArray} {own : String} {nL : Nat} {R : Room} {ρ : Type} {enc : ρ → Option Value} {pc : Nat} {lv : List (Nat × Value)} {st : List Value} {σ : tn_M} {i : Nat} {res : Option (ρ × tn_M)} (g : tn_Ok E G cc own nL R) (hw : Cond.fieldLink own i "TillNine$Scene" "offers" "[J" ∈ tn_T) (n : Nat) (hd : decode cc pc = .ok (.getfield i, 3)) (hn : pc + 3 = n) (k : tn_V E G enc n lv (.ref (tn_ad E 25) :: st) σ res) : tn_V E G enc pc lv (.ref (tn_ad E 3) :: st) σ res :=
  tr_get (j := 7) g in_X0 (ci := 0) rfl (by decide) rfl (by decide) hw rfl n hd hn k
theorem gf_X0_8 {E : tn_E} {G : tn_G} {cc : ByteArray} {own : String} {nL : Nat} {R : Room} {ρ : Type} {enc : ρ → Option Value} {pc : Nat} {lv : List (Nat × Value)} {st : List Value} {σ : tn_M} {i : Nat} {res : Option (ρ × tn_M)} (g : tn_Ok E G cc own nL R) (hw : Cond.fieldLink own i "TillNine$Scene" "cap" "I" ∈ tn_T) (n : Nat) (hd : decode cc pc = .ok (.getfield i, 3)) (hn : pc + 3 = n) (k : tn_V E G enc n lv (.int (σ.1 3 8) :: st) σ res) : tn_V E G enc pc lv (.ref (tn_ad E 3) :: st) σ res :=
  tr_get (j := 8) g in_X0 (ci := 0) rfl (by decide) rfl (by decide) hw rfl n hd hn k
theorem gf_X0_9 {E : tn_E} {G : tn_G} {cc : ByteArray} {own : String} {nL : Nat} {R : Room} {ρ : Type} {enc : ρ → Option Value} {pc : Nat} {lv : List (Nat × Value)} {st : List Value} {σ : tn_M} {i : Nat} {res : Option (ρ × tn_M)} (g : tn_Ok E G cc own nL R) (hw : Cond.fieldLink own i "TillNine$Scene" "small" "I" ∈ tn_T) (n : Nat) (hd : decode cc pc = .ok (.getfield i, 3)) (hn : pc + 3 = n) (k : tn_V E G enc n lv (.int (σ.1 3 9) :: st) σ res) : tn_V E G enc pc lv (.ref (tn_ad E 3) :: st) σ res :=
  tr_get (j := 9) g in_X0 (ci := 0) rfl (by decide) rfl (by decide) hw rfl n hd hn k
theorem gf_X0_10 {E : tn_E} {G : tn_G} {cc : ByteArray} {own : String} {nL : Nat} {R : Room} {ρ : Type} {enc : ρ → Option Value} {pc : Nat} {lv : List (Nat × Value)} {st : List Value} {σ : tn_M} {i : Nat} {res : Option (ρ × tn_M)} (g : tn_Ok E G cc own nL R) (hw : Cond.fieldLink own i "TillNine$Scene" "fine" "J" ∈ tn_T) (n : Nat) (hd : decode cc pc = .ok (.getfield i, 3)) (hn : pc + 3 = n) (k : tn_V E G enc n lv (.long (σ.2 3 10) :: st) σ res) : tn_V E G enc pc lv (.ref (tn_ad E 3) :: st) σ res :=
  tr_get (j := 10) g in_X0 (ci := 0) rfl (by decide) rfl (by decide) hw rfl n hd hn k
theorem gf_X0_11 {E : tn_E} {G : tn_G} {cc : ByteArray} {own : String} {nL : Nat} {R : Room} {ρ : Type} {enc : ρ → Option Value} {pc : Nat} {lv : List (Nat × Value)} {st : List Value} {σ : tn_M} {i : Nat} {res : Option (ρ × tn_M)} (g : tn_Ok E G cc own nL R) (hw : Cond.fieldLink own i "TillNine$Scene" "held" "I" ∈ tn_T) (n : Nat) (hd : decode cc pc = .ok (.getfield i, 3)) (hn : pc + 3 = n) (k : tn_V E G enc n lv (.int (σ.1 3 11) :: st) σ res) : tn_V E G enc pc lv (.ref (tn_ad E 3) :: st) σ res :=
  tr_get (j := 11) g in_X0 (ci := 0) rfl (by decide) rfl (by decide) hw rfl n hd hn k
theorem gf_X0_12 {E : tn_E} {G : tn_G} {cc : ByteArray} {own : String} {nL : Nat} {R : Room} {ρ : Type} {enc : ρ → Option Value} {pc : Nat} {lv : List (Nat × Value)} {st : List Value} {σ : tn_M} {i : Nat} {res : Option (ρ × tn_M)} (g : tn_Ok E G cc own nL R) (hw : Cond.fieldLink own i "TillNine$Scene" "rounds" "I" ∈ tn_T) (n : Nat) (hd : decode cc pc = .ok (.getfield i, 3)) (hn : pc + 3 = n) (k : tn_V E G enc n lv (.int (σ.1 3 12) :: st) σ res) : tn_V E G enc pc lv (.ref (tn_ad E 3) :: st) σ res :=
  tr_get (j := 12) g in_X0 (ci := 0) rfl (by decide) rfl (by decide) hw rfl n hd hn k
theorem gf_X1_0 {E : tn_E} {G : tn_G} {cc : ByteArray} {own : String} {nL : Nat} {R : Room} {ρ : Type} {enc : ρ → Option Value} {pc : Nat} {lv : List (Nat × Value)} {st : List Value} {σ : tn_M} {i : Nat} {res : Option (ρ × tn_M)} (g : tn_Ok E G cc own nL R) (hw : Cond.fieldLink own i "TillNine$Shelf" "form" "[I" ∈ tn_T) (n : Nat) (hd : decode cc pc = .ok (.getfield i, 3)) (hn : pc + 3 = n) (k : tn_V E G enc n lv (.ref (tn_ad E 26) :: st) σ res) : tn_V E G enc pc lv (.ref (tn_ad E 4) :: st) σ res :=
  tr_get (j := 0) g in_X1 (ci := 1) rfl (by decide) rfl (by decide) hw rfl n hd hn k
theorem gf_X1_1 {E : tn_E} {G : tn_G} {cc : ByteArray} {own : String} {nL : Nat} {R : Room} {ρ : Type} {enc : ρ → Option Value} {pc : Nat} {lv : List (Nat × Value)} {st : List Value} {σ : tn_M} {i : Nat} {res : Option (ρ × tn_M)} (g : tn_Ok E G cc own nL R) (hw : Cond.fieldLink own i "TillNine$Shelf" "size" "[I" ∈ tn_T) (n : Nat) (hd : decode cc pc = .ok (.getfield i, 3)) (hn : pc + 3 = n) (k : tn_V E G enc n lv (.ref (tn_ad E 27) :: st) σ res) : tn_V E G enc pc lv (.ref (tn_ad E 4) :: st) σ res :=
  tr_get (j := 1) g in_X1 (ci := 1) rfl (by decide) rfl (by decide) hw rfl n hd hn k
theorem gf_X1_2 {E : tn_E} {G : tn_G} {cc : ByteArray} {own : String} {nL : Nat} {R : Room} {ρ : Type} {enc : ρ → Option Value} {pc : Nat} {lv : List (Nat × Value)} {st : List Value} {σ : tn_M} {i : Nat} {res : Option (ρ × tn_M)} (g : tn_Ok E G cc own nL R) (hw : Cond.fieldLink own i "TillNine$Shelf" "items" "[[I" ∈ tn_T) (n : Nat) (hd : decode cc pc = .ok (.getfield i, 3)) (hn : pc + 3 = n) (k : tn_V E G enc n lv (.ref (tn_ad E 28) :: st) σ res) : tn_V E G enc pc lv (.ref (tn_ad E 4) :: st) σ res :=
  tr_get (j := 2) g in_X1 (ci := 1) rfl (by decide) rfl (by decide) hw rfl n hd hn k
theorem gf_X1_3 {E : tn_E} {G : tn_G} {cc : ByteArray} {own : String} {nL : Nat} {R : Room} {ρ : Type} {enc : ρ → Option Value} {pc : Nat} {lv : List (Nat × Value)} {st : List Value} {σ : tn_M} {i : Nat} {res : Option (ρ × tn_M)} (g : tn_Ok E G cc own nL R) (hw : Cond.fieldLink own i "TillNine$Shelf" "latest" "I" ∈ tn_T) (n : Nat) (hd : decode cc pc = .ok (.getfield i, 3)) (hn : pc + 3 = n) (k : tn_V E G enc n lv (.int (σ.1 4 3) :: st) σ res) : tn_V E G enc pc lv (.ref (tn_ad E 4) :: st) σ res :=
  tr_get (j := 3) g in_X1 (ci := 1) rfl (by decide) rfl (by decide) hw rfl n hd hn k
theorem gf_X2_0 {E : tn_E} {G : tn_G} {cc : ByteArray} {own : String} {nL : Nat} {R : Room} {ρ : Type} {enc : ρ → Option Value} {pc : Nat} {lv : List (Nat × Value)} {st : List Value} {σ : tn_M} {i : Nat} {res : Option (ρ × tn_M)} (g : tn_Ok E G cc own nL R) (hw : Cond.fieldLink own i "TillNine$Street" "text" "[I" ∈ tn_T) (n : Nat) (hd : decode cc pc = .ok (.getfield i, 3)) (hn : pc + 3 = n) (k : tn_V E G enc n lv (.ref (tn_ad E 9) :: st) σ res) : tn_V E G enc pc lv (.ref (tn_ad E 1) :: st) σ res :=
  tr_get (j := 0) g in_X2 (ci := 2) rfl (by decide) rfl (by decide) hw rfl n hd hn k
theorem gf_X2_1 {E : tn_E} {G : tn_G} {cc : ByteArray} {own : String} {nL : Nat} {R : Room} {ρ : Type} {enc : ρ → Option Value} {pc : Nat} {lv : List (Nat × Value)} {st : List Value} {σ : tn_M} {i : Nat} {res : Option (ρ × tn_M)} (g : tn_Ok E G cc own nL R) (hw : Cond.fieldLink own i "TillNine$Street" "size" "[I" ∈ tn_T) (n : Nat) (hd : decode cc pc = .ok (.getfield i, 3)) (hn : pc + 3 = n) (k : tn_V E G enc n lv (.ref (tn_ad E 10) :: st) σ res) : tn_V E G enc pc lv (.ref (tn_ad E 1) :: st) σ res :=
  tr_get (j := 1) g in_X2 (ci := 2) rfl (by decide) rfl (by decide) hw rfl n hd hn k
theorem gf_X2_2 {E : tn_E} {G : tn_G} {cc : ByteArray} {own : String} {nL : Nat} {R : Room} {ρ : Type} {enc : ρ → Option Value} {pc : Nat} {lv : List (Nat × Value)} {st : List Value} {σ : tn_M} {i : Nat} {res : Option (ρ × tn_M)} (g : tn_Ok E G cc own nL R) (hw : Cond.fieldLink own i "TillNine$Street" "price" "[I" ∈ tn_T) (n : Nat) (hd : decode cc pc = .ok (.getfield i, 3)) (hn : pc + 3 = n) (k : tn_V E G enc n lv (.ref (tn_ad E 11) :: st) σ res) : tn_V E G enc pc lv (.ref (tn_ad E 1) :: st) σ res :=
  tr_get (j := 2) g in_X2 (ci := 2) rfl (by decide) rfl (by decide) hw rfl n hd hn k
theorem gf_X2_3 {E : tn_E} {G : tn_G} {cc : ByteArray} {own : String} {nL : Nat} {R : Room} {ρ : Type} {enc : ρ → Option Value} {pc : Nat} {lv : List (Nat × Value)} {st : List Value} {σ : tn_M} {i : Nat} {res : Option (ρ × tn_M)} (g : tn_Ok E G cc own nL R) (hw : Cond.fieldLink own i "TillNine$Street" "buyers" "[[I" ∈ tn_T) (n : Nat) (hd : decode cc pc = .ok (.getfield i, 3)) (hn : pc + 3 = n) (k : tn_V E G enc n lv (.ref (tn_ad E 12) :: st) σ res) : tn_V E G enc pc lv (.ref (tn_ad E 1) :: st) σ res :=
  tr_get (j := 3) g in_X2 (ci := 2) rfl (by decide) rfl (by decide) hw rfl n hd hn k
theorem gf_X2_4 {E : tn_E} {G : tn_G} {cc : ByteArray} {own : String} {nL : Nat} {R : Room} {ρ : Type} {enc : ρ → Option Value} {pc : Nat} {lv : List (Nat × Value)} {st : List Value} {σ : tn_M} {i : Nat} {res : Option (ρ × tn_M)} (g : tn_Ok E G cc own nL R) (hw : Cond.fieldLink own i "TillNine$Street" "length" "I" ∈ tn_T) (n : Nat) (hd : decode cc pc = .ok (.getfield i, 3)) (hn : pc + 3 = n) (k : tn_V E G enc n lv (.int (σ.1 1 4) :: st) σ res) : tn_V E G enc pc lv (.ref (tn_ad E 1) :: st) σ res :=
  tr_get (j := 4) g in_X2 (ci := 2) rfl (by decide) rfl (by decide) hw rfl n hd hn k
theorem gf_X2_5 {E : tn_E} {G : tn_G} {cc : ByteArray} {own : String} {nL : Nat} {R : Room} {ρ : Type} {enc : ρ → Option Value} {pc : Nat} {lv : List (Nat × Value)} {st : List Value} {σ : tn_M} {i : Nat} {res : Option (ρ × tn_M)} (g : tn_Ok E G cc own nL R) (hw : Cond.fieldLink own i "TillNine$Street" "shops" "I" ∈ tn_T) (n : Nat) (hd : decode cc pc = .ok (.getfield i, 3)) (hn : pc + 3 = n) (k : tn_V E G enc n lv (.int (σ.1 1 5) :: st) σ res) : tn_V E G enc pc lv (.ref (tn_ad E 1) :: st) σ res :=
  tr_get (j := 5) g in_X2 (ci := 2) rfl (by decide) rfl (by decide) hw rfl n hd hn k
theorem gf_X2_6 {E : tn_E} {G : tn_G} {cc : ByteArray} {own : String} {nL : Nat} {R : Room} {ρ : Type} {enc : ρ → Option Value} {pc : Nat} {lv : List (Nat × Value)} {st : List Value} {σ : tn_M} {i : Nat} {res : Option (ρ × tn_M)} (g : tn_Ok E G cc own nL R) (hw : Cond.fieldLink own i "TillNine$Street" "sorts" "I" ∈ tn_T) (n : Nat) (hd : decode cc pc = .ok (.getfield i, 3)) (hn : pc + 3 = n) (k : tn_V E G enc n lv (.int (σ.1 1 6) :: st) σ res) : tn_V E G enc pc lv (.ref (tn_ad E 1) :: st) σ res :=
  tr_get (j := 6) g in_X2 (ci := 2) rfl (by decide) rfl (by decide) hw rfl n hd hn k
theorem gf_X2_7 {E : tn_E} {G : tn_G} {cc : ByteArray} {own : String} {nL : Nat} {R : Room} {ρ : Type} {enc : ρ → Option Value} {pc : Nat} {lv : List (Nat × Value)} {st : List Value} {σ : tn_M} {i : Nat} {res : Option (ρ × tn_M)} (g : tn_Ok E G cc own nL R) (hw : Cond.fieldLink own i "TillNine$Street" "wrong" "I" ∈ tn_T) (n : Nat) (hd : decode cc pc = .ok (.getfield i, 3)) (hn : pc + 3 = n) (k : tn_V E G enc n lv (.int (σ.1 1 7) :: st) σ res) : tn_V E G enc pc lv (.ref (tn_ad E 1) :: st) σ res :=
  tr_get (j := 7) g in_X2 (ci := 2) rfl (by decide) rfl (by decide) hw rfl n hd hn k
theorem gf_X2_8 {E : tn_E} {G : tn_G} {cc : ByteArray} {own : String} {nL : Nat} {R : Room} {ρ : Type} {enc : ρ → Option Value} {pc : Nat} {lv : List (Nat × Value)} {st : List Value} {σ : tn_M} {i : Nat} {res : Option (ρ × tn_M)} (g : tn_Ok E G cc own nL R) (hw : Cond.fieldLink own i "TillNine$Street" "at" "I" ∈ tn_T) (n : Nat) (hd : decode cc pc = .ok (.getfield i, 3)) (hn : pc + 3 = n) (k : tn_V E G enc n lv (.int (σ.1 1 8) :: st) σ res) : tn_V E G enc pc lv (.ref (tn_ad E 1) :: st) σ res :=
  tr_get (j := 8) g in_X2 (ci := 2) rfl (by decide) rfl (by decide) hw rfl n hd hn k
theorem gf_X3_0 {E : tn_E} {G : tn_G} {cc : ByteArray} {own : String} {nL : Nat} {R : Room} {ρ : Type} {enc : ρ → Option Value} {pc : Nat} {lv : List (Nat × Value)} {st : List Value} {σ : tn_M} {i : Nat} {res : Option (ρ × tn_M)} (g : tn_Ok E G cc own nL R) (hw : Cond.fieldLink own i "TillNine$Trade" "table" "[J" ∈ tn_T) (n : Nat) (hd : decode cc pc = .ok (.getfield i, 3)) (hn : pc + 3 = n) (k : tn_V E G enc n lv (.ref (tn_ad E 19) :: st) σ res) : tn_V E G enc pc lv (.ref (tn_ad E 2) :: st) σ res :=
  tr_get (j := 0) g in_X3 (ci := 3) rfl (by decide) rfl (by decide) hw rfl n hd hn k
theorem gf_X3_1 {E : tn_E} {G : tn_G} {cc : ByteArray} {own : String} {nL : Nat} {R : Room} {ρ : Type} {enc : ρ → Option Value} {pc : Nat} {lv : List (Nat × Value)} {st : List Value} {σ : tn_M} {i : Nat} {res : Option (ρ × tn_M)} (g : tn_Ok E G cc own nL R) (hw : Cond.fieldLink own i "TillNine$Trade" "stale" "Z" ∈ tn_T) (n : Nat) (hd : decode cc pc = .ok (.getfield i, 3)) (hn : pc + 3 = n) (k : tn_V E G enc n lv (.int (σ.1 2 1) :: st) σ res) : tn_V E G enc pc lv (.ref (tn_ad E 2) :: st) σ res :=
  tr_get (j := 1) g in_X3 (ci := 3) rfl (by decide) rfl (by decide) hw rfl n hd hn k
theorem gf_X4_0 {E : tn_E} {G : tn_G} {cc : ByteArray} {own : String} {nL : Nat} {R : Room} {ρ : Type} {enc : ρ → Option Value} {pc : Nat} {lv : List (Nat × Value)} {st : List Value} {σ : tn_M} {i : Nat} {res : Option (ρ × tn_M)} (g : tn_Ok E G cc own nL R) (hw : Cond.fieldLink own i "TillNine" "street" "LTillNine$Street;" ∈ tn_T) (n : Nat) (hd : decode cc pc = .ok (.getfield i, 3)) (hn : pc + 3 = n) (k : tn_V E G enc n lv (.ref (tn_ad E 1) :: st) σ res) : tn_V E G enc pc lv (.ref (tn_ad E 0) :: st) σ res :=
  tr_get (j := 0) g in_X4 (ci := 4) rfl (by decide) rfl (by decide) hw rfl n hd hn k
theorem gf_X4_1 {E : tn_E} {G : tn_G} {cc : ByteArray} {own : String} {nL : Nat} {R : Room} {ρ : Type} {enc : ρ → Option Value} {pc : Nat} {lv : List (Nat × Value)} {st : List Value} {σ : tn_M} {i : Nat} {res : Option (ρ × tn_M)} (g : tn_Ok E G cc own nL R) (hw : Cond.fieldLink own i "TillNine" "trade" "LTillNine$Trade;" ∈ tn_T) (n : Nat) (hd : decode cc pc = .ok (.getfield i, 3)) (hn : pc + 3 = n) (k : tn_V E G enc n lv (.ref (tn_ad E 2) :: st) σ res) : tn_V E G enc pc lv (.ref (tn_ad E 0) :: st) σ res :=
  tr_get (j := 1) g in_X4 (ci := 4) rfl (by decide) rfl (by decide) hw rfl n hd hn k
theorem gf_X4_2 {E : tn_E} {G : tn_G} {cc : ByteArray} {own : String} {nL : Nat} {R : Room} {ρ : Type} {enc : ρ → Option Value} {pc : Nat} {lv : List (Nat × Value)} {st : List Value} {σ : tn_M} {i : Nat} {res : Option (ρ × tn_M)} (g : tn_Ok E G cc own nL R) (hw : Cond.fieldLink own i "TillNine" "scene" "LTillNine$Scene;" ∈ tn_T) (n : Nat) (hd : decode cc pc = .ok (.getfield i, 3)) (hn : pc + 3 = n) (k : tn_V E G enc n lv (.ref (tn_ad E 3) :: st) σ res) : tn_V E G enc pc lv (.ref (tn_ad E 0) :: st) σ res :=
  tr_get (j := 2) g in_X4 (ci := 4) rfl (by decide) rfl (by decide) hw rfl n hd hn k
theorem gf_X4_3 {E : tn_E} {G : tn_G} {cc : ByteArray} {own : String} {nL : Nat} {R : Room} {ρ : Type} {enc : ρ → Option Value} {pc : Nat} {lv : List (Nat × Value)} {st : List Value} {σ : tn_M} {i : Nat} {res : Option (ρ × tn_M)} (g : tn_Ok E G cc own nL R) (hw : Cond.fieldLink own i "TillNine" "shelf" "LTillNine$Shelf;" ∈ tn_T) (n : Nat) (hd : decode cc pc = .ok (.getfield i, 3)) (hn : pc + 3 = n) (k : tn_V E G enc n lv (.ref (tn_ad E 4) :: st) σ res) : tn_V E G enc pc lv (.ref (tn_ad E 0) :: st) σ res :=
  tr_get (j := 3) g in_X4 (ci := 4) rfl (by decide) rfl (by decide) hw rfl n hd hn k
theorem gf_X4_4 {E : tn_E} {G : tn_G} {cc : ByteArray} {own : String} {nL : Nat} {R : Room} {ρ : Type} {enc : ρ → Option Value} {pc : Nat} {lv : List (Nat × Value)} {st : List Value} {σ : tn_M} {i : Nat} {res : Option (ρ × tn_M)} (g : tn_Ok E G cc own nL R) (hw : Cond.fieldLink own i "TillNine" "settings" "[I" ∈ tn_T) (n : Nat) (hd : decode cc pc = .ok (.getfield i, 3)) (hn : pc + 3 = n) (k : tn_V E G enc n lv (.ref (tn_ad E 6) :: st) σ res) : tn_V E G enc pc lv (.ref (tn_ad E 0) :: st) σ res :=
  tr_get (j := 4) g in_X4 (ci := 4) rfl (by decide) rfl (by decide) hw rfl n hd hn k
theorem gf_X4_5 {E : tn_E} {G : tn_G} {cc : ByteArray} {own : String} {nL : Nat} {R : Room} {ρ : Type} {enc : ρ → Option Value} {pc : Nat} {lv : List (Nat × Value)} {st : List Value} {σ : tn_M} {i : Nat} {res : Option (ρ × tn_M)} (g : tn_Ok E G cc own nL R) (hw : Cond.fieldLink own i "TillNine" "untils" "[I" ∈ tn_T) (n : Nat) (hd : decode cc pc = .ok (.getfield i, 3)) (hn : pc + 3 = n) (k : tn_V E G enc n lv (.ref (tn_ad E 7) :: st) σ res) : tn_V E G enc pc lv (.ref (tn_ad E 0) :: st) σ res :=
  tr_get (j := 5) g in_X4 (ci := 4) rfl (by decide) rfl (by decide) hw rfl n hd hn k
theorem gf_X4_6 {E : tn_E} {G : tn_G} {cc : ByteArray} {own : String} {nL : Nat} {R : Room} {ρ : Type} {enc : ρ → Option Value} {pc : Nat} {lv : List (Nat × Value)} {st : List Value} {σ : tn_M} {i : Nat} {res : Option (ρ × tn_M)} (g : tn_Ok E G cc own nL R) (hw : Cond.fieldLink own i "TillNine" "turns" "[I" ∈ tn_T) (n : Nat) (hd : decode cc pc = .ok (.getfield i, 3)) (hn : pc + 3 = n) (k : tn_V E G enc n lv (.ref (tn_ad E 8) :: st) σ res) : tn_V E G enc pc lv (.ref (tn_ad E 0) :: st) σ res :=
  tr_get (j := 6) g in_X4 (ci := 4) rfl (by decide) rfl (by decide) hw rfl n hd hn k
theorem gf_X5_0 {E : tn_E} {G : tn_G} {cc : ByteArray} {own : String} {nL : Nat} {R : Room} {ρ : Type} {enc : ρ → Option Value} {pc : Nat} {lv : List (Nat × Value)} {st : List Value} {σ : tn_M} {i : Nat} {res : Option (ρ × tn_M)} (g : tn_Ok E G cc own nL R) (hw : Cond.fieldLink own i "TillNineModel" "forms" "[I" ∈ tn_T) (n : Nat) (hd : decode cc pc = .ok (.getfield i, 3)) (hn : pc + 3 = n) (k : tn_V E G enc n lv (.ref (tn_ad E 33) :: st) σ res) : tn_V E G enc pc lv (.ref (tn_ad E 5) :: st) σ res :=
  tr_get (j := 0) g in_X5 (ci := 5) rfl (by decide) rfl (by decide) hw rfl n hd hn k
theorem gf_X5_1 {E : tn_E} {G : tn_G} {cc : ByteArray} {own : String} {nL : Nat} {R : Room} {ρ : Type} {enc : ρ → Option Value} {pc : Nat} {lv : List (Nat × Value)} {st : List Value} {σ : tn_M} {i : Nat} {res : Option (ρ × tn_M)} (g : tn_Ok E G cc own nL R) (hw : Cond.fieldLink own i "TillNineModel" "sizes" "[I" ∈ tn_T) (n : Nat) (hd : decode cc pc = .ok (.getfield i, 3)) (hn : pc + 3 = n) (k : tn_V E G enc n lv (.ref (tn_ad E 34) :: st) σ res) : tn_V E G enc pc lv (.ref (tn_ad E 5) :: st) σ res :=
  tr_get (j := 1) g in_X5 (ci := 5) rfl (by decide) rfl (by decide) hw rfl n hd hn k
theorem gf_X5_2 {E : tn_E} {G : tn_G} {cc : ByteArray} {own : String} {nL : Nat} {R : Room} {ρ : Type} {enc : ρ → Option Value} {pc : Nat} {lv : List (Nat × Value)} {st : List Value} {σ : tn_M} {i : Nat} {res : Option (ρ × tn_M)} (g : tn_Ok E G cc own nL R) (hw : Cond.fieldLink own i "TillNineModel" "items" "[I" ∈ tn_T) (n : Nat) (hd : decode cc pc = .ok (.getfield i, 3)) (hn : pc + 3 = n) (k : tn_V E G enc n lv (.ref (tn_ad E 35) :: st) σ res) : tn_V E G enc pc lv (.ref (tn_ad E 5) :: st) σ res :=
  tr_get (j := 2) g in_X5 (ci := 5) rfl (by decide) rfl (by decide) hw rfl n hd hn k
theorem gf_X5_3 {E : tn_E} {G : tn_G} {cc : ByteArray} {own : String} {nL : Nat} {R : Room} {ρ : Type} {enc : ρ → Option Value} {pc : Nat} {lv : List (Nat × Value)} {st : List Value} {σ : tn_M} {i : Nat} {res : Option (ρ × tn_M)} (g : tn_Ok E G cc own nL R) (hw : Cond.fieldLink own i "TillNineModel" "moved" "[I" ∈ tn_T) (n : Nat) (hd : decode cc pc = .ok (.getfield i, 3)) (hn : pc + 3 = n) (k : tn_V E G enc n lv (.ref (tn_ad E 36) :: st) σ res) : tn_V E G enc pc lv (.ref (tn_ad E 5) :: st) σ res :=
  tr_get (j := 3) g in_X5 (ci := 5) rfl (by decide) rfl (by decide) hw rfl n hd hn k
theorem gf_X5_4 {E : tn_E} {G : tn_G} {cc : ByteArray} {own : String} {nL : Nat} {R : Room} {ρ : Type} {enc : ρ → Option Value} {pc : Nat} {lv : List (Nat × Value)} {st : List Value} {σ : tn_M} {i : Nat} {res : Option (ρ × tn_M)} (g : tn_Ok E G cc own nL R) (hw : Cond.fieldLink own i "TillNineModel" "latest" "I" ∈ tn_T) (n : Nat) (hd : decode cc pc = .ok (.getfield i, 3)) (hn : pc + 3 = n) (k : tn_V E G enc n lv (.int (σ.1 5 4) :: st) σ res) : tn_V E G enc pc lv (.ref (tn_ad E 5) :: st) σ res :=
  tr_get (j := 4) g in_X5 (ci := 5) rfl (by decide) rfl (by decide) hw rfl n hd hn k
theorem gf_X5_5 {E : tn_E} {G : tn_G} {cc : ByteArray} {own : String} {nL : Nat} {R : Room} {ρ : Type} {enc : ρ → Option Value} {pc : Nat} {lv : List (Nat × Value)} {st : List Value} {σ : tn_M} {i : Nat} {res : Option (ρ × tn_M)} (g : tn_Ok E G cc own nL R) (hw : Cond.fieldLink own i "TillNineModel" "text" "[I" ∈ tn_T) (n : Nat) (hd : decode cc pc = .ok (.getfield i, 3)) (hn : pc + 3 = n) (k : tn_V E G enc n lv (.ref (tn_ad E 37) :: st) σ res) : tn_V E G enc pc lv (.ref (tn_ad E 5) :: st) σ res :=
  tr_get (j := 5) g in_X5 (ci := 5) rfl (by decide) rfl (by decide) hw rfl n hd hn k
theorem gf_X5_6 {E : tn_E} {G : tn_G} {cc : ByteArray} {own : String} {nL : Nat} {R : Room} {ρ : Type} {enc : ρ → Option Value} {pc : Nat} {lv : List (Nat × Value)} {st : List Value} {σ : tn_M} {i : Nat} {res : Option (ρ × tn_M)} (g : tn_Ok E G cc own nL R) (hw : Cond.fieldLink own i "TillNineModel" "typed" "I" ∈ tn_T) (n : Nat) (hd : decode cc pc = .ok (.getfield i, 3)) (hn : pc + 3 = n) (k : tn_V E G enc n lv (.int (σ.1 5 6) :: st) σ res) : tn_V E G enc pc lv (.ref (tn_ad E 5) :: st) σ res :=
  tr_get (j := 6) g in_X5 (ci := 5) rfl (by decide) rfl (by decide) hw rfl n hd hn k
theorem gf_X5_7 {E : tn_E} {G : tn_G} {cc : ByteArray} {own : String} {nL : Nat} {R : Room} {ρ : Type} {enc : ρ → Option Value} {pc : Nat} {lv : List (Nat × Value)} {st : List Value} {σ : tn_M} {i : Nat} {res : Option (ρ × tn_M)} (g : tn_Ok E G cc own nL R) (hw : Cond.fieldLink own i "TillNineModel" "at" "I" ∈ tn_T) (n : Nat) (hd : decode cc pc = .ok (.getfield i, 3)) (hn : pc + 3 = n) (k : tn_V E G enc n lv (.int (σ.1 5 7) :: st) σ res) : tn_V E G enc pc lv (.ref (tn_ad E 5) :: st) σ res :=
  tr_get (j := 7) g in_X5 (ci := 5) rfl (by decide) rfl (by decide) hw rfl n hd hn k
theorem gf_X5_8 {E : tn_E} {G : tn_G} {cc : ByteArray} {own : String} {nL : Nat} {R : Room} {ρ : Type} {enc : ρ → Option Value} {pc : Nat} {lv : List (Nat × Value)} {st : List Value} {σ : tn_M} {i : Nat} {res : Option (ρ × tn_M)} (g : tn_Ok E G cc own nL R) (hw : Cond.fieldLink own i "TillNineModel" "shops" "I" ∈ tn_T) (n : Nat) (hd : decode cc pc = .ok (.getfield i, 3)) (hn : pc + 3 = n) (k : tn_V E G enc n lv (.int (σ.1 5 8) :: st) σ res) : tn_V E G enc pc lv (.ref (tn_ad E 5) :: st) σ res :=
  tr_get (j := 8) g in_X5 (ci := 5) rfl (by decide) rfl (by decide) hw rfl n hd hn k
theorem gf_X5_9 {E : tn_E} {G : tn_G} {cc : ByteArray} {own : String} {nL : Nat} {R : Room} {ρ : Type} {enc : ρ → Option Value} {pc : Nat} {lv : List (Nat × Value)} {st : List Value} {σ : tn_M} {i : Nat} {res : Option (ρ × tn_M)} (g : tn_Ok E G cc own nL R) (hw : Cond.fieldLink own i "TillNineModel" "shopSize" "[I" ∈ tn_T) (n : Nat) (hd : decode cc pc = .ok (.getfield i, 3)) (hn : pc + 3 = n) (k : tn_V E G enc n lv (.ref (tn_ad E 38) :: st) σ res) : tn_V E G enc pc lv (.ref (tn_ad E 5) :: st) σ res :=
  tr_get (j := 9) g in_X5 (ci := 5) rfl (by decide) rfl (by decide) hw rfl n hd hn k
theorem gf_X5_10 {E : tn_E} {G : tn_G} {cc : ByteArray} {own : String} {nL : Nat} {R : Room} {ρ : Type} {enc : ρ → Option Value} {pc : Nat} {lv : List (Nat × Value)} {st : List Value} {σ : tn_M} {i : Nat} {res : Option (ρ × tn_M)} (g : tn_Ok E G cc own nL R) (hw : Cond.fieldLink own i "TillNineModel" "shopCost" "[I" ∈ tn_T) (n : Nat) (hd : decode cc pc = .ok (.getfield i, 3)) (hn : pc + 3 = n) (k : tn_V E G enc n lv (.ref (tn_ad E 39) :: st) σ res) : tn_V E G enc pc lv (.ref (tn_ad E 5) :: st) σ res :=
  tr_get (j := 10) g in_X5 (ci := 5) rfl (by decide) rfl (by decide) hw rfl n hd hn k
theorem gf_X5_11 {E : tn_E} {G : tn_G} {cc : ByteArray} {own : String} {nL : Nat} {R : Room} {ρ : Type} {enc : ρ → Option Value} {pc : Nat} {lv : List (Nat × Value)} {st : List Value} {σ : tn_M} {i : Nat} {res : Option (ρ × tn_M)} (g : tn_Ok E G cc own nL R) (hw : Cond.fieldLink own i "TillNineModel" "sorts" "I" ∈ tn_T) (n : Nat) (hd : decode cc pc = .ok (.getfield i, 3)) (hn : pc + 3 = n) (k : tn_V E G enc n lv (.int (σ.1 5 11) :: st) σ res) : tn_V E G enc pc lv (.ref (tn_ad E 5) :: st) σ res :=
  tr_get (j := 11) g in_X5 (ci := 5) rfl (by decide) rfl (by decide) hw rfl n hd hn k
theorem gf_X5_12 {E : tn_E} {G : tn_G} {cc : ByteArray} {own : String} {nL : Nat} {R : Room} {ρ : Type} {enc : ρ → Option Value} {pc : Nat} {lv : List (Nat × Value)} {st : List Value} {σ : tn_M} {i : Nat} {res : Option (ρ × tn_M)} (g : tn_Ok E G cc own nL R) (hw : Cond.fieldLink own i "TillNineModel" "sortOf" "[I" ∈ tn_T) (n : Nat) (hd : decode cc pc = .ok (.getfield i, 3)) (hn : pc + 3 = n) (k : tn_V E G enc n lv (.ref (tn_ad E 40) :: st) σ res) : tn_V E G enc pc lv (.ref (tn_ad E 5) :: st) σ res :=
  tr_get (j := 12) g in_X5 (ci := 5) rfl (by decide) rfl (by decide) hw rfl n hd hn k
theorem gf_X5_13 {E : tn_E} {G : tn_G} {cc : ByteArray} {own : String} {nL : Nat} {R : Room} {ρ : Type} {enc : ρ → Option Value} {pc : Nat} {lv : List (Nat × Value)} {st : List Value} {σ : tn_M} {i : Nat} {res : Option (ρ × tn_M)} (g : tn_Ok E G cc own nL R) (hw : Cond.fieldLink own i "TillNineModel" "settings" "[I" ∈ tn_T) (n : Nat) (hd : decode cc pc = .ok (.getfield i, 3)) (hn : pc + 3 = n) (k : tn_V E G enc n lv (.ref (tn_ad E 41) :: st) σ res) : tn_V E G enc pc lv (.ref (tn_ad E 5) :: st) σ res :=
  tr_get (j := 13) g in_X5 (ci := 5) rfl (by decide) rfl (by decide) hw rfl n hd hn k
theorem gf_X5_14 {E : tn_E} {G : tn_G} {cc : ByteArray} {own : String} {nL : Nat} {R : Room} {ρ : Type} {enc : ρ → Option Value} {pc : Nat} {lv : List (Nat × Value)} {st : List Value} {σ : tn_M} {i : Nat} {res : Option (ρ × tn_M)} (g : tn_Ok E G cc own nL R) (hw : Cond.fieldLink own i "TillNineModel" "hours" "[I" ∈ tn_T) (n : Nat) (hd : decode cc pc = .ok (.getfield i, 3)) (hn : pc + 3 = n) (k : tn_V E G enc n lv (.ref (tn_ad E 42) :: st) σ res) : tn_V E G enc pc lv (.ref (tn_ad E 5) :: st) σ res :=
  tr_get (j := 14) g in_X5 (ci := 5) rfl (by decide) rfl (by decide) hw rfl n hd hn k
theorem gf_X5_15 {E : tn_E} {G : tn_G} {cc : ByteArray} {own : String} {nL : Nat} {R : Room} {ρ : Type} {enc : ρ → Option Value} {pc : Nat} {lv : List (Nat × Value)} {st : List Value} {σ : tn_M} {i : Nat} {res : Option (ρ × tn_M)} (g : tn_Ok E G cc own nL R) (hw : Cond.fieldLink own i "TillNineModel" "turns" "[I" ∈ tn_T) (n : Nat) (hd : decode cc pc = .ok (.getfield i, 3)) (hn : pc + 3 = n) (k : tn_V E G enc n lv (.ref (tn_ad E 43) :: st) σ res) : tn_V E G enc pc lv (.ref (tn_ad E 5) :: st) σ res :=
  tr_get (j := 15) g in_X5 (ci := 5) rfl (by decide) rfl (by decide) hw rfl n hd hn k
theorem gf_X5_16 {E : tn_E} {G : tn_G} {cc : ByteArray} {own : String} {nL : Nat} {R : Room} {ρ : Type} {enc : ρ → Option Value} {pc : Nat} {lv : List (Nat × Value)} {st : List Value} {σ : tn_M} {i : Nat} {res : Option (ρ × tn_M)} (g : tn_Ok E G cc own nL R) (hw : Cond.fieldLink own i "TillNineModel" "tried" "[I" ∈ tn_T) (n : Nat) (hd : decode cc pc = .ok (.getfield i, 3)) (hn : pc + 3 = n) (k : tn_V E G enc n lv (.ref (tn_ad E 44) :: st) σ res) : tn_V E G enc pc lv (.ref (tn_ad E 5) :: st) σ res :=
  tr_get (j := 16) g in_X5 (ci := 5) rfl (by decide) rfl (by decide) hw rfl n hd hn k
theorem gf_X5_17 {E : tn_E} {G : tn_G} {cc : ByteArray} {own : String} {nL : Nat} {R : Room} {ρ : Type} {enc : ρ → Option Value} {pc : Nat} {lv : List (Nat × Value)} {st : List Value} {σ : tn_M} {i : Nat} {res : Option (ρ × tn_M)} (g : tn_Ok E G cc own nL R) (hw : Cond.fieldLink own i "TillNineModel" "habits" "[I" ∈ tn_T) (n : Nat) (hd : decode cc pc = .ok (.getfield i, 3)) (hn : pc + 3 = n) (k : tn_V E G enc n lv (.ref (tn_ad E 45) :: st) σ res) : tn_V E G enc pc lv (.ref (tn_ad E 5) :: st) σ res :=
  tr_get (j := 17) g in_X5 (ci := 5) rfl (by decide) rfl (by decide) hw rfl n hd hn k
theorem gf_X5_18 {E : tn_E} {G : tn_G} {cc : ByteArray} {own : String} {nL : Nat} {R : Room} {ρ : Type} {enc : ρ → Option Value} {pc : Nat} {lv : List (Nat × Value)} {st : List Value} {σ : tn_M} {i : Nat} {res : Option (ρ × tn_M)} (g : tn_Ok E G cc own nL R) (hw : Cond.fieldLink own i "TillNineModel" "fined" "Z" ∈ tn_T) (n : Nat) (hd : decode cc pc = .ok (.getfield i, 3)) (hn : pc + 3 = n) (k : tn_V E G enc n lv (.int (σ.1 5 18) :: st) σ res) : tn_V E G enc pc lv (.ref (tn_ad E 5) :: st) σ res :=
  tr_get (j := 18) g in_X5 (ci := 5) rfl (by decide) rfl (by decide) hw rfl n hd hn k
theorem gf_X5_19 {E : tn_E} {G : tn_G} {cc : ByteArray} {own : String} {nL : Nat} {R : Room} {ρ : Type} {enc : ρ → Option Value} {pc : Nat} {lv : List (Nat × Value)} {st : List Value} {σ : tn_M} {i : Nat} {res : Option (ρ × tn_M)} (g : tn_Ok E G cc own nL R) (hw : Cond.fieldLink own i "TillNineModel" "limit" "I" ∈ tn_T) (n : Nat) (hd : decode cc pc = .ok (.getfield i, 3)) (hn : pc + 3 = n) (k : tn_V E G enc n lv (.int (σ.1 5 19) :: st) σ res) : tn_V E G enc pc lv (.ref (tn_ad E 5) :: st) σ res :=
  tr_get (j := 19) g in_X5 (ci := 5) rfl (by decide) rfl (by decide) hw rfl n hd hn k
theorem gf_X5_20 {E : tn_E} {G : tn_G} {cc : ByteArray} {own : String} {nL : Nat} {R : Room} {ρ : Type} {enc : ρ → Option Value} {pc : Nat} {lv : List (Nat × Value)} {st : List Value} {σ : tn_M} {i : Nat} {res : Option (ρ × tn_M)} (g : tn_Ok E G cc own nL R) (hw : Cond.fieldLink own i "TillNineModel" "fixed" "I" ∈ tn_T) (n : Nat) (hd : decode cc pc = .ok (.getfield i, 3)) (hn : pc + 3 = n) (k : tn_V E G enc n lv (.int (σ.1 5 20) :: st) σ res) : tn_V E G enc pc lv (.ref (tn_ad E 5) :: st) σ res :=
  tr_get (j := 20) g in_X5 (ci := 5) rfl (by decide) rfl (by decide) hw rfl n hd hn k
theorem gf_X5_21 {E : tn_E} {G : tn_G} {cc : ByteArray} {own : String} {nL : Nat} {R : Room} {ρ : Type} {enc : ρ → Option Value} {pc : Nat} {lv : List (Nat × Value)} {st : List Value} {σ : tn_M} {i : Nat} {res : Option (ρ × tn_M)} (g : tn_Ok E G cc own nL R) (hw : Cond.fieldLink own i "TillNineModel" "costs" "[I" ∈ tn_T) (n : Nat) (hd : decode cc pc = .ok (.getfield i, 3)) (hn : pc + 3 = n) (k : tn_V E G enc n lv (.ref (tn_ad E 46) :: st) σ res) : tn_V E G enc pc lv (.ref (tn_ad E 5) :: st) σ res :=
  tr_get (j := 21) g in_X5 (ci := 5) rfl (by decide) rfl (by decide) hw rfl n hd hn k
theorem gf_X5_22 {E : tn_E} {G : tn_G} {cc : ByteArray} {own : String} {nL : Nat} {R : Room} {ρ : Type} {enc : ρ → Option Value} {pc : Nat} {lv : List (Nat × Value)} {st : List Value} {σ : tn_M} {i : Nat} {res : Option (ρ × tn_M)} (g : tn_Ok E G cc own nL R) (hw : Cond.fieldLink own i "TillNineModel" "earned" "[J" ∈ tn_T) (n : Nat) (hd : decode cc pc = .ok (.getfield i, 3)) (hn : pc + 3 = n) (k : tn_V E G enc n lv (.ref (tn_ad E 47) :: st) σ res) : tn_V E G enc pc lv (.ref (tn_ad E 5) :: st) σ res :=
  tr_get (j := 22) g in_X5 (ci := 5) rfl (by decide) rfl (by decide) hw rfl n hd hn k
theorem gf_X5_23 {E : tn_E} {G : tn_G} {cc : ByteArray} {own : String} {nL : Nat} {R : Room} {ρ : Type} {enc : ρ → Option Value} {pc : Nat} {lv : List (Nat × Value)} {st : List Value} {σ : tn_M} {i : Nat} {res : Option (ρ × tn_M)} (g : tn_Ok E G cc own nL R) (hw : Cond.fieldLink own i "TillNineModel" "served" "J" ∈ tn_T) (n : Nat) (hd : decode cc pc = .ok (.getfield i, 3)) (hn : pc + 3 = n) (k : tn_V E G enc n lv (.long (σ.2 5 23) :: st) σ res) : tn_V E G enc pc lv (.ref (tn_ad E 5) :: st) σ res :=
  tr_get (j := 23) g in_X5 (ci := 5) rfl (by decide) rfl (by decide) hw rfl n hd hn k
theorem gf_X5_24 {E : tn_E} {G : tn_G} {cc : ByteArray} {own : String} {nL : Nat} {R : Room} {ρ : Type} {enc : ρ → Option Value} {pc : Nat} {lv : List (Nat × Value)} {st : List Value} {σ : tn_M} {i : Nat} {res : Option (ρ × tn_M)} (g : tn_Ok E G cc own nL R) (hw : Cond.fieldLink own i "TillNineModel" "rounds" "I" ∈ tn_T) (n : Nat) (hd : decode cc pc = .ok (.getfield i, 3)) (hn : pc + 3 = n) (k : tn_V E G enc n lv (.int (σ.1 5 24) :: st) σ res) : tn_V E G enc pc lv (.ref (tn_ad E 5) :: st) σ res :=
  tr_get (j := 24) g in_X5 (ci := 5) rfl (by decide) rfl (by decide) hw rfl n hd hn k
theorem gf_X5_25 {E : tn_E} {G : tn_G} {cc : ByteArray} {own : String} {nL : Nat} {R : Room} {ρ : Type} {enc : ρ → Option Value} {pc : Nat} {lv : List (Nat × Value)} {st : List Value} {σ : tn_M} {i : Nat} {res : Option (ρ × tn_M)} (g : tn_Ok E G cc own nL R) (hw : Cond.fieldLink own i "TillNineModel" "bestAmount" "J" ∈ tn_T) (n : Nat) (hd : decode cc pc = .ok (.getfield i, 3)) (hn : pc + 3 = n) (k : tn_V E G enc n lv (.long (σ.2 5 25) :: st) σ res) : tn_V E G enc pc lv (.ref (tn_ad E 5) :: st) σ res :=
  tr_get (j := 25) g in_X5 (ci := 5) rfl (by decide) rfl (by decide) hw rfl n hd hn k
theorem gf_X5_26 {E : tn_E} {G : tn_G} {cc : ByteArray} {own : String} {nL : Nat} {R : Room} {ρ : Type} {enc : ρ → Option Value} {pc : Nat} {lv : List (Nat × Value)} {st : List Value} {σ : tn_M} {i : Nat} {res : Option (ρ × tn_M)} (g : tn_Ok E G cc own nL R) (hw : Cond.fieldLink own i "TillNineModel" "kept" "[I" ∈ tn_T) (n : Nat) (hd : decode cc pc = .ok (.getfield i, 3)) (hn : pc + 3 = n) (k : tn_V E G enc n lv (.ref (tn_ad E 48) :: st) σ res) : tn_V E G enc pc lv (.ref (tn_ad E 5) :: st) σ res :=
  tr_get (j := 26) g in_X5 (ci := 5) rfl (by decide) rfl (by decide) hw rfl n hd hn k
theorem pf_X0_8 {E : tn_E} {G : tn_G} {cc : ByteArray} {own : String} {nL : Nat} {R : Room} {ρ : Type} {enc : ρ → Option Value} {pc : Nat} {lv : List (Nat × Value)} {st : List Value} {σ : tn_M} {i : Nat} {kk : tn_M → Option (ρ × tn_M)} {v : Int32} (g : tn_Ok E G cc own nL R) (hw : Cond.fieldLink own i "TillNine$Scene" "cap" "I" ∈ tn_T)  (n : Nat) (hd : decode cc pc = .ok (.putfield i, 3)) (hn : pc + 3 = n) (k : ∀ σ1, tn_V E G enc n lv st σ1 (kk σ1)) : tn_V E G enc pc lv (.int v :: .ref (tn_ad E 3) :: st) σ (tn_lt (tn_si σ 3 8 v) kk) :=
  tr_put (j := 8) g in_X0 tyX0 tyX0_ok nmX0 (ci := 0) rfl (by decide) rfl (by decide) hw rfl (ty := .int) (by decide +kernel) rfl rfl (Nat.le_of_ble_eq_true rfl) rfl tn_si_ne n hd hn k
theorem pf_X0_9 {E : tn_E} {G : tn_G} {cc : ByteArray} {own : String} {nL : Nat} {R : Room} {ρ : Type} {enc : ρ → Option Value} {pc : Nat} {lv : List (Nat × Value)} {st : List Value} {σ : tn_M} {i : Nat} {kk : tn_M → Option (ρ × tn_M)} {v : Int32} (g : tn_Ok E G cc own nL R) (hw : Cond.fieldLink own i "TillNine$Scene" "small" "I" ∈ tn_T)  (n : Nat) (hd : decode cc pc = .ok (.putfield i, 3)) (hn : pc + 3 = n) (k : ∀ σ1, tn_V E G enc n lv st σ1 (kk σ1)) : tn_V E G enc pc lv (.int v :: .ref (tn_ad E 3) :: st) σ (tn_lt (tn_si σ 3 9 v) kk) :=
  tr_put (j := 9) g in_X0 tyX0 tyX0_ok nmX0 (ci := 0) rfl (by decide) rfl (by decide) hw rfl (ty := .int) (by decide +kernel) rfl rfl (Nat.le_of_ble_eq_true rfl) rfl tn_si_ne n hd hn k
theorem pf_X0_10 {E : tn_E} {G : tn_G} {cc : ByteArray} {own : String} {nL : Nat} {R : Room} {ρ : Type} {enc : ρ → Option Value} {pc : Nat} {lv : List (Nat × Value)} {st : List Value} {σ : tn_M} {i : Nat} {kk : tn_M → Option (ρ × tn_M)} {v : Int64} (g : tn_Ok E G cc own nL R) (hw : Cond.fieldLink own i "TillNine$Scene" "fine" "J" ∈ tn_T)  (n : Nat) (hd : decode cc pc = .ok (.putfield i, 3)) (hn : pc + 3 = n) (k : ∀ σ1, tn_V E G enc n lv st σ1 (kk σ1)) : tn_V E G enc pc lv (.long v :: .ref (tn_ad E 3) :: st) σ (tn_lt (tn_sl σ 3 10 v) kk) :=
  tr_put (j := 10) g in_X0 tyX0 tyX0_ok nmX0 (ci := 0) rfl (by decide) rfl (by decide) hw rfl (ty := .long) (by decide +kernel) rfl rfl (Nat.le_of_ble_eq_true rfl) rfl tn_sl_ne n hd hn k
theorem pf_X0_11 {E : tn_E} {G : tn_G} {cc : ByteArray} {own : String} {nL : Nat} {R : Room} {ρ : Type} {enc : ρ → Option Value} {pc : Nat} {lv : List (Nat × Value)} {st : List Value} {σ : tn_M} {i : Nat} {kk : tn_M → Option (ρ × tn_M)} {v : Int32} (g : tn_Ok E G cc own nL R) (hw : Cond.fieldLink own i "TillNine$Scene" "held" "I" ∈ tn_T)  (n : Nat) (hd : decode cc pc = .ok (.putfield i, 3)) (hn : pc + 3 = n) (k : ∀ σ1, tn_V E G enc n lv st σ1 (kk σ1)) : tn_V E G enc pc lv (.int v :: .ref (tn_ad E 3) :: st) σ (tn_lt (tn_si σ 3 11 v) kk) :=
  tr_put (j := 11) g in_X0 tyX0 tyX0_ok nmX0 (ci := 0) rfl (by decide) rfl (by decide) hw rfl (ty := .int) (by decide +kernel) rfl rfl (Nat.le_of_ble_eq_true rfl) rfl tn_si_ne n hd hn k
theorem pf_X0_12 {E : tn_E} {G : tn_G} {cc : ByteArray} {own : String} {nL : Nat} {R : Room} {ρ : Type} {enc : ρ → Option Value} {pc : Nat} {lv : List (Nat × Value)} {st : List Value} {σ : tn_M} {i : Nat} {kk : tn_M → Option (ρ × tn_M)} {v : Int32} (g : tn_Ok E G cc own nL R) (hw : Cond.fieldLink own i "TillNine$Scene" "rounds" "I" ∈ tn_T)  (n : Nat) (hd : decode cc pc = .ok (.putfield i, 3)) (hn : pc + 3 = n) (k : ∀ σ1, tn_V E G enc n lv st σ1 (kk σ1)) : tn_V E G enc pc lv (.int v :: .ref (tn_ad E 3) :: st) σ (tn_lt (tn_si σ 3 12 v) kk) :=
  tr_put (j := 12) g in_X0 tyX0 tyX0_ok nmX0 (ci := 0) rfl (by decide) rfl (by decide) hw rfl (ty := .int) (by decide +kernel) rfl rfl (Nat.le_of_ble_eq_true rfl) rfl tn_si_ne n hd hn k
theorem pf_X1_3 {E : tn_E} {G : tn_G} {cc : ByteArray} {own : String} {nL : Nat} {R : Room} {ρ : Type} {enc : ρ → Option Value} {pc : Nat} {lv : List (Nat × Value)} {st : List Value} {σ : tn_M} {i : Nat} {kk : tn_M → Option (ρ × tn_M)} {v : Int32} (g : tn_Ok E G cc own nL R) (hw : Cond.fieldLink own i "TillNine$Shelf" "latest" "I" ∈ tn_T)  (n : Nat) (hd : decode cc pc = .ok (.putfield i, 3)) (hn : pc + 3 = n) (k : ∀ σ1, tn_V E G enc n lv st σ1 (kk σ1)) : tn_V E G enc pc lv (.int v :: .ref (tn_ad E 4) :: st) σ (tn_lt (tn_si σ 4 3 v) kk) :=
  tr_put (j := 3) g in_X1 tyX1 tyX1_ok nmX1 (ci := 1) rfl (by decide) rfl (by decide) hw rfl (ty := .int) (by decide +kernel) rfl rfl (Nat.le_of_ble_eq_true rfl) rfl tn_si_ne n hd hn k
theorem pf_X2_4 {E : tn_E} {G : tn_G} {cc : ByteArray} {own : String} {nL : Nat} {R : Room} {ρ : Type} {enc : ρ → Option Value} {pc : Nat} {lv : List (Nat × Value)} {st : List Value} {σ : tn_M} {i : Nat} {kk : tn_M → Option (ρ × tn_M)} {v : Int32} (g : tn_Ok E G cc own nL R) (hw : Cond.fieldLink own i "TillNine$Street" "length" "I" ∈ tn_T)  (n : Nat) (hd : decode cc pc = .ok (.putfield i, 3)) (hn : pc + 3 = n) (k : ∀ σ1, tn_V E G enc n lv st σ1 (kk σ1)) : tn_V E G enc pc lv (.int v :: .ref (tn_ad E 1) :: st) σ (tn_lt (tn_si σ 1 4 v) kk) :=
  tr_put (j := 4) g in_X2 tyX2 tyX2_ok nmX2 (ci := 2) rfl (by decide) rfl (by decide) hw rfl (ty := .int) (by decide +kernel) rfl rfl (Nat.le_of_ble_eq_true rfl) rfl tn_si_ne n hd hn k
theorem pf_X2_5 {E : tn_E} {G : tn_G} {cc : ByteArray} {own : String} {nL : Nat} {R : Room} {ρ : Type} {enc : ρ → Option Value} {pc : Nat} {lv : List (Nat × Value)} {st : List Value} {σ : tn_M} {i : Nat} {kk : tn_M → Option (ρ × tn_M)} {v : Int32} (g : tn_Ok E G cc own nL R) (hw : Cond.fieldLink own i "TillNine$Street" "shops" "I" ∈ tn_T)  (n : Nat) (hd : decode cc pc = .ok (.putfield i, 3)) (hn : pc + 3 = n) (k : ∀ σ1, tn_V E G enc n lv st σ1 (kk σ1)) : tn_V E G enc pc lv (.int v :: .ref (tn_ad E 1) :: st) σ (tn_lt (tn_si σ 1 5 v) kk) :=
  tr_put (j := 5) g in_X2 tyX2 tyX2_ok nmX2 (ci := 2) rfl (by decide) rfl (by decide) hw rfl (ty := .int) (by decide +kernel) rfl rfl (Nat.le_of_ble_eq_true rfl) rfl tn_si_ne n hd hn k
theorem pf_X2_6 {E : tn_E} {G : tn_G} {cc : ByteArray} {own : String} {nL : Nat} {R : Room} {ρ : Type} {enc : ρ → Option Value} {pc : Nat} {lv : List (Nat × Value)} {st : List Value} {σ : tn_M} {i : Nat} {kk : tn_M → Option (ρ × tn_M)} {v : Int32} (g : tn_Ok E G cc own nL R) (hw : Cond.fieldLink own i "TillNine$Street" "sorts" "I" ∈ tn_T)  (n : Nat) (hd : decode cc pc = .ok (.putfield i, 3)) (hn : pc + 3 = n) (k : ∀ σ1, tn_V E G enc n lv st σ1 (kk σ1)) : tn_V E G enc pc lv (.int v :: .ref (tn_ad E 1) :: st) σ (tn_lt (tn_si σ 1 6 v) kk) :=
  tr_put (j := 6) g in_X2 tyX2 tyX2_ok nmX2 (ci := 2) rfl (by decide) rfl (by decide) hw rfl (ty := .int) (by decide +kernel) rfl rfl (Nat.le_of_ble_eq_true rfl) rfl tn_si_ne n hd hn k
theorem pf_X2_7 {E : tn_E} {G : tn_G} {cc : ByteArray} {own : String} {nL : Nat} {R : Room} {ρ : Type} {enc : ρ → Option Value} {pc : Nat} {lv : List (Nat × Value)} {st : List Value} {σ : tn_M} {i : Nat} {kk : tn_M → Option (ρ × tn_M)} {v : Int32} (g : tn_Ok E G cc own nL R) (hw : Cond.fieldLink own i "TillNine$Street" "wrong" "I" ∈ tn_T)  (n : Nat) (hd : decode cc pc = .ok (.putfield i, 3)) (hn : pc + 3 = n) (k : ∀ σ1, tn_V E G enc n lv st σ1 (kk σ1)) : tn_V E G enc pc lv (.int v :: .ref (tn_ad E 1) :: st) σ (tn_lt (tn_si σ 1 7 v) kk) :=
  tr_put (j := 7) g in_X2 tyX2 tyX2_ok nmX2 (ci := 2) rfl (by decide) rfl (by decide) hw rfl (ty := .int) (by decide +kernel) rfl rfl (Nat.le_of_ble_eq_true rfl) rfl tn_si_ne n hd hn k
theorem pf_X2_8 {E : tn_E} {G : tn_G} {cc : ByteArray} {own : String} {nL : Nat} {R : Room} {ρ : Type} {enc : ρ → Option Value} {pc : Nat} {lv : List (Nat × Value)} {st : List Value} {σ : tn_M} {i : Nat} {kk : tn_M → Option (ρ × tn_M)} {v : Int32} (g : tn_Ok E G cc own nL R) (hw : Cond.fieldLink own i "TillNine$Street" "at" "I" ∈ tn_T)  (n : Nat) (hd : decode cc pc = .ok (.putfield i, 3)) (hn : pc + 3 = n) (k : ∀ σ1, tn_V E G enc n lv st σ1 (kk σ1)) : tn_V E G enc pc lv (.int v :: .ref (tn_ad E 1) :: st) σ (tn_lt (tn_si σ 1 8 v) kk) :=
  tr_put (j := 8) g in_X2 tyX2 tyX2_ok nmX2 (ci := 2) rfl (by decide) rfl (by decide) hw rfl (ty := .int) (by decide +kernel) rfl rfl (Nat.le_of_ble_eq_true rfl) rfl tn_si_ne n hd hn k
theorem pf_X3_1 {E : tn_E} {G : tn_G} {cc : ByteArray} {own : String} {nL : Nat} {R : Room} {ρ : Type} {enc : ρ → Option Value} {pc : Nat} {lv : List (Nat × Value)} {st : List Value} {σ : tn_M} {i : Nat} {kk : tn_M → Option (ρ × tn_M)} {v : Int32} (g : tn_Ok E G cc own nL R) (hw : Cond.fieldLink own i "TillNine$Trade" "stale" "Z" ∈ tn_T) (hz1 : narrow .boolean (.int v) = .int v) (hz2 : fits .boolean (.int v) = true) (n : Nat) (hd : decode cc pc = .ok (.putfield i, 3)) (hn : pc + 3 = n) (k : ∀ σ1, tn_V E G enc n lv st σ1 (kk σ1)) : tn_V E G enc pc lv (.int v :: .ref (tn_ad E 2) :: st) σ (tn_lt (tn_si σ 2 1 v) kk) :=
  tr_put (j := 1) g in_X3 tyX3 tyX3_ok nmX3 (ci := 3) rfl (by decide) rfl (by decide) hw rfl (ty := .boolean) (by decide +kernel) hz1 hz2 (Nat.le_of_ble_eq_true rfl) rfl tn_si_ne n hd hn k
theorem pf_X5_4 {E : tn_E} {G : tn_G} {cc : ByteArray} {own : String} {nL : Nat} {R : Room} {ρ : Type} {enc : ρ → Option Value} {pc : Nat} {lv : List (Nat × Value)} {st : List Value} {σ : tn_M} {i : Nat} {kk : tn_M → Option (ρ × tn_M)} {v : Int32} (g : tn_Ok E G cc own nL R) (hw : Cond.fieldLink own i "TillNineModel" "latest" "I" ∈ tn_T)  (n : Nat) (hd : decode cc pc = .ok (.putfield i, 3)) (hn : pc + 3 = n) (k : ∀ σ1, tn_V E G enc n lv st σ1 (kk σ1)) : tn_V E G enc pc lv (.int v :: .ref (tn_ad E 5) :: st) σ (tn_lt (tn_si σ 5 4 v) kk) :=
  tr_put (j := 4) g in_X5 tyX5 tyX5_ok nmX5 (ci := 5) rfl (by decide) rfl (by decide) hw rfl (ty := .int) (by decide +kernel) rfl rfl (Nat.le_of_ble_eq_true rfl) rfl tn_si_ne n hd hn k
theorem pf_X5_6 {E : tn_E} {G : tn_G} {cc : ByteArray} {own : String} {nL : Nat} {R : Room} {ρ : Type} {enc : ρ → Option Value} {pc : Nat} {lv : List (Nat × Value)} {st : List Value} {σ : tn_M} {i : Nat} {kk : tn_M → Option (ρ × tn_M)} {v : Int32} (g : tn_Ok E G cc own nL R) (hw : Cond.fieldLink own i "TillNineModel" "typed" "I" ∈ tn_T)  (n : Nat) (hd : decode cc pc = .ok (.putfield i, 3)) (hn : pc + 3 = n) (k : ∀ σ1, tn_V E G enc n lv st σ1 (kk σ1)) : tn_V E G enc pc lv (.int v :: .ref (tn_ad E 5) :: st) σ (tn_lt (tn_si σ 5 6 v) kk) :=
  tr_put (j := 6) g in_X5 tyX5 tyX5_ok nmX5 (ci := 5) rfl (by decide) rfl (by decide) hw rfl (ty := .int) (by decide +kernel) rfl rfl (Nat.le_of_ble_eq_true rfl) rfl tn_si_ne n hd hn k
theorem pf_X5_7 {E : tn_E} {G : tn_G} {cc : ByteArray} {own : String} {nL : Nat} {R : Room} {ρ : Type} {enc : ρ → Option Value} {pc : Nat} {lv : List (Nat × Value)} {st : List Value} {σ : tn_M} {i : Nat} {kk : tn_M → Option (ρ × tn_M)} {v : Int32} (g : tn_Ok E G cc own nL R) (hw : Cond.fieldLink own i "TillNineModel" "at" "I" ∈ tn_T)  (n : Nat) (hd : decode cc pc = .ok (.putfield i, 3)) (hn : pc + 3 = n) (k : ∀ σ1, tn_V E G enc n lv st σ1 (kk σ1)) : tn_V E G enc pc lv (.int v :: .ref (tn_ad E 5) :: st) σ (tn_lt (tn_si σ 5 7 v) kk) :=
  tr_put (j := 7) g in_X5 tyX5 tyX5_ok nmX5 (ci := 5) rfl (by decide) rfl (by decide) hw rfl (ty := .int) (by decide +kernel) rfl rfl (Nat.le_of_ble_eq_true rfl) rfl tn_si_ne n hd hn k
theorem pf_X5_8 {E : tn_E} {G : tn_G} {cc : ByteArray} {own : String} {nL : Nat} {R : Room} {ρ : Type} {enc : ρ → Option Value} {pc : Nat} {lv : List (Nat × Value)} {st : List Value} {σ : tn_M} {i : Nat} {kk : tn_M → Option (ρ × tn_M)} {v : Int32} (g : tn_Ok E G cc own nL R) (hw : Cond.fieldLink own i "TillNineModel" "shops" "I" ∈ tn_T)  (n : Nat) (hd : decode cc pc = .ok (.putfield i, 3)) (hn : pc + 3 = n) (k : ∀ σ1, tn_V E G enc n lv st σ1 (kk σ1)) : tn_V E G enc pc lv (.int v :: .ref (tn_ad E 5) :: st) σ (tn_lt (tn_si σ 5 8 v) kk) :=
  tr_put (j := 8) g in_X5 tyX5 tyX5_ok nmX5 (ci := 5) rfl (by decide) rfl (by decide) hw rfl (ty := .int) (by decide +kernel) rfl rfl (Nat.le_of_ble_eq_true rfl) rfl tn_si_ne n hd hn k
theorem pf_X5_11 {E : tn_E} {G : tn_G} {cc : ByteArray} {own : String} {nL : Nat} {R : Room} {ρ : Type} {enc : ρ → Option Value} {pc : Nat} {lv : List (Nat × Value)} {st : List Value} {σ : tn_M} {i : Nat} {kk : tn_M → Option (ρ × tn_M)} {v : Int32} (g : tn_Ok E G cc own nL R) (hw : Cond.fieldLink own i "TillNineModel" "sorts" "I" ∈ tn_T)  (n : Nat) (hd : decode cc pc = .ok (.putfield i, 3)) (hn : pc + 3 = n) (k : ∀ σ1, tn_V E G enc n lv st σ1 (kk σ1)) : tn_V E G enc pc lv (.int v :: .ref (tn_ad E 5) :: st) σ (tn_lt (tn_si σ 5 11 v) kk) :=
  tr_put (j := 11) g in_X5 tyX5 tyX5_ok nmX5 (ci := 5) rfl (by decide) rfl (by decide) hw rfl (ty := .int) (by decide +kernel) rfl rfl (Nat.le_of_ble_eq_true rfl) rfl tn_si_ne n hd hn k
theorem pf_X5_18 {E : tn_E} {G : tn_G} {cc : ByteArray} {own : String} {nL : Nat} {R : Room} {ρ : Type} {enc : ρ → Option Value} {pc : Nat} {lv : List (Nat × Value)} {st : List Value} {σ : tn_M} {i : Nat} {kk : tn_M → Option (ρ × tn_M)} {v : Int32} (g : tn_Ok E G cc own nL R) (hw : Cond.fieldLink own i "TillNineModel" "fined" "Z" ∈ tn_T) (hz1 : narrow .boolean (.int v) = .int v) (hz2 : fits .boolean (.int v) = true) (n : Nat) (hd : decode cc pc = .ok (.putfield i, 3)) (hn : pc + 3 = n) (k : ∀ σ1, tn_V E G enc n lv st σ1 (kk σ1)) : tn_V E G enc pc lv (.int v :: .ref (tn_ad E 5) :: st) σ (tn_lt (tn_si σ 5 18 v) kk) :=
  tr_put (j := 18) g in_X5 tyX5 tyX5_ok nmX5 (ci := 5) rfl (by decide) rfl (by decide) hw rfl (ty := .boolean) (by decide +kernel) hz1 hz2 (Nat.le_of_ble_eq_true rfl) rfl tn_si_ne n hd hn k
theorem pf_X5_19 {E : tn_E} {G : tn_G} {cc : ByteArray} {own : String} {nL : Nat} {R : Room} {ρ : Type} {enc : ρ → Option Value} {pc : Nat} {lv : List (Nat × Value)} {st : List Value} {σ : tn_M} {i : Nat} {kk : tn_M → Option (ρ × tn_M)} {v : Int32} (g : tn_Ok E G cc own nL R) (hw : Cond.fieldLink own i "TillNineModel" "limit" "I" ∈ tn_T)  (n : Nat) (hd : decode cc pc = .ok (.putfield i, 3)) (hn : pc + 3 = n) (k : ∀ σ1, tn_V E G enc n lv st σ1 (kk σ1)) : tn_V E G enc pc lv (.int v :: .ref (tn_ad E 5) :: st) σ (tn_lt (tn_si σ 5 19 v) kk) :=
  tr_put (j := 19) g in_X5 tyX5 tyX5_ok nmX5 (ci := 5) rfl (by decide) rfl (by decide) hw rfl (ty := .int) (by decide +kernel) rfl rfl (Nat.le_of_ble_eq_true rfl) rfl tn_si_ne n hd hn k
theorem pf_X5_20 {E : tn_E} {G : tn_G} {cc : ByteArray} {own : String} {nL : Nat} {R : Room} {ρ : Type} {enc : ρ → Option Value} {pc : Nat} {lv : List (Nat × Value)} {st : List Value} {σ : tn_M} {i : Nat} {kk : tn_M → Option (ρ × tn_M)} {v : Int32} (g : tn_Ok E G cc own nL R) (hw : Cond.fieldLink own i "TillNineModel" "fixed" "I" ∈ tn_T)  (n : Nat) (hd : decode cc pc = .ok (.putfield i, 3)) (hn : pc + 3 = n) (k : ∀ σ1, tn_V E G enc n lv st σ1 (kk σ1)) : tn_V E G enc pc lv (.int v :: .ref (tn_ad E 5) :: st) σ (tn_lt (tn_si σ 5 20 v) kk) :=
  tr_put (j := 20) g in_X5 tyX5 tyX5_ok nmX5 (ci := 5) rfl (by decide) rfl (by decide) hw rfl (ty := .int) (by decide +kernel) rfl rfl (Nat.le_of_ble_eq_true rfl) rfl tn_si_ne n hd hn k
theorem pf_X5_23 {E : tn_E} {G : tn_G} {cc : ByteArray} {own : String} {nL : Nat} {R : Room} {ρ : Type} {enc : ρ → Option Value} {pc : Nat} {lv : List (Nat × Value)} {st : List Value} {σ : tn_M} {i : Nat} {kk : tn_M → Option (ρ × tn_M)} {v : Int64} (g : tn_Ok E G cc own nL R) (hw : Cond.fieldLink own i "TillNineModel" "served" "J" ∈ tn_T)  (n : Nat) (hd : decode cc pc = .ok (.putfield i, 3)) (hn : pc + 3 = n) (k : ∀ σ1, tn_V E G enc n lv st σ1 (kk σ1)) : tn_V E G enc pc lv (.long v :: .ref (tn_ad E 5) :: st) σ (tn_lt (tn_sl σ 5 23 v) kk) :=
  tr_put (j := 23) g in_X5 tyX5 tyX5_ok nmX5 (ci := 5) rfl (by decide) rfl (by decide) hw rfl (ty := .long) (by decide +kernel) rfl rfl (Nat.le_of_ble_eq_true rfl) rfl tn_sl_ne n hd hn k
theorem pf_X5_24 {E : tn_E} {G : tn_G} {cc : ByteArray} {own : String} {nL : Nat} {R : Room} {ρ : Type} {enc : ρ → Option Value} {pc : Nat} {lv : List (Nat × Value)} {st : List Value} {σ : tn_M} {i : Nat} {kk : tn_M → Option (ρ × tn_M)} {v : Int32} (g : tn_Ok E G cc own nL R) (hw : Cond.fieldLink own i "TillNineModel" "rounds" "I" ∈ tn_T)  (n : Nat) (hd : decode cc pc = .ok (.putfield i, 3)) (hn : pc + 3 = n) (k : ∀ σ1, tn_V E G enc n lv st σ1 (kk σ1)) : tn_V E G enc pc lv (.int v :: .ref (tn_ad E 5) :: st) σ (tn_lt (tn_si σ 5 24 v) kk) :=
  tr_put (j := 24) g in_X5 tyX5 tyX5_ok nmX5 (ci := 5) rfl (by decide) rfl (by decide) hw rfl (ty := .int) (by decide +kernel) rfl rfl (Nat.le_of_ble_eq_true rfl) rfl tn_si_ne n hd hn k
theorem pf_X5_25 {E : tn_E} {G : tn_G} {cc : ByteArray} {own : String} {nL : Nat} {R : Room} {ρ : Type} {enc : ρ → Option Value} {pc : Nat} {lv : List (Nat × Value)} {st : List Value} {σ : tn_M} {i : Nat} {kk : tn_M → Option (ρ × tn_M)} {v : Int64} (g : tn_Ok E G cc own nL R) (hw : Cond.fieldLink own i "TillNineModel" "bestAmount" "J" ∈ tn_T)  (n : Nat) (hd : decode cc pc = .ok (.putfield i, 3)) (hn : pc + 3 = n) (k : ∀ σ1, tn_V E G enc n lv st σ1 (kk σ1)) : tn_V E G enc pc lv (.long v :: .ref (tn_ad E 5) :: st) σ (tn_lt (tn_sl σ 5 25 v) kk) :=
  tr_put (j := 25) g in_X5 tyX5 tyX5_ok nmX5 (ci := 5) rfl (by decide) rfl (by decide) hw rfl (ty := .long) (by decide +kernel) rfl rfl (Nat.le_of_ble_eq_true rfl) rfl tn_sl_ne n hd hn k
theorem tn_swd {x : Int32} {m : Nat} (h : ∀ k : Nat, k ≤ m → ¬ x.toInt = (k : Int)) : x.toInt < 0 ∨ (m : Int) < x.toInt := by
  apply Decidable.byContradiction
  intro q
  have h1 : ¬ x.toInt < 0 := fun z => q (Or.inl z)
  have h2 : ¬ (m : Int) < x.toInt := fun z => q (Or.inr z)
  exact h x.toInt.toNat (by omega) (by omega)
theorem tn_ne {x : Int32} (k : Nat) (hk : (Int32.ofNat k).toInt = (k : Int)) (h : ¬ x = Int32.ofNat k) : ¬ x.toInt = (k : Int) := fun q => h (Int32.toInt_inj.mp (q.trans hk.symm))
theorem tn_all5 {x : Int32} (h0 : ¬ x = 0) (h1 : ¬ x = 1) (h2 : ¬ x = 2) (h3 : ¬ x = 3) (h4 : ¬ x = 4) : ∀ k : Nat, k ≤ 4 → ¬ x.toInt = (k : Int) := by
  intro k hk
  rcases (by omega : k = 0 ∨ k = 1 ∨ k = 2 ∨ k = 3 ∨ k = 4) with rfl | rfl | rfl | rfl | rfl
  · exact tn_ne 0 rfl h0
  · exact tn_ne 1 rfl h1
  · exact tn_ne 2 rfl h2
  · exact tn_ne 3 rfl h3
  · exact tn_ne 4 rfl h4
theorem tn_all9 {x : Int32} (h0 : ¬ x = 0) (h1 : ¬ x = 1) (h2 : ¬ x = 2) (h3 : ¬ x = 3) (h4 : ¬ x = 4) (h5 : ¬ x = 5) (h6 : ¬ x = 6) (h7 : ¬ x = 7) (h8 : ¬ x = 8) : ∀ k : Nat, k ≤ 8 → ¬ x.toInt = (k : Int) := by
  intro k hk
  rcases (by omega : k = 0 ∨ k = 1 ∨ k = 2 ∨ k = 3 ∨ k = 4 ∨ k = 5 ∨ k = 6 ∨ k = 7 ∨ k = 8) with rfl | rfl | rfl | rfl | rfl | rfl | rfl | rfl | rfl
  · exact tn_ne 0 rfl h0
  · exact tn_ne 1 rfl h1
  · exact tn_ne 2 rfl h2
  · exact tn_ne 3 rfl h3
  · exact tn_ne 4 rfl h4
  · exact tn_ne 5 rfl h5
  · exact tn_ne 6 rfl h6
  · exact tn_ne 7 rfl h7
  · exact tn_ne 8 rfl h8
theorem tn_all33 {x : Int32} (h0 : ¬ x = 0) (h1 : ¬ x = 1) (h2 : ¬ x = 2) (h3 : ¬ x = 3) (h4 : ¬ x = 4) (h5 : ¬ x = 5) (h6 : ¬ x = 6) (h7 : ¬ x = 7) (h8 : ¬ x = 8) (h9 : ¬ x = 9) (h10 : ¬ x = 10) (h11 : ¬ x = 11) (h12 : ¬ x = 12) (h13 : ¬ x = 13) (h14 : ¬ x = 14) (h15 : ¬ x = 15) (h16 : ¬ x = 16) (h17 : ¬ x = 17) (h18 : ¬ x = 18) (h19 : ¬ x = 19) (h20 : ¬ x = 20) (h21 : ¬ x = 21) (h22 : ¬ x = 22) (h23 : ¬ x = 23) (h24 : ¬ x = 24) (h25 : ¬ x = 25) (h26 : ¬ x = 26) (h27 : ¬ x = 27) (h28 : ¬ x = 28) (h29 : ¬ x = 29) (h30 : ¬ x = 30) (h31 : ¬ x = 31) (h32 : ¬ x = 32) : ∀ k : Nat, k ≤ 32 → ¬ x.toInt = (k : Int) := by
  intro k hk
  rcases (by omega : k = 0 ∨ k = 1 ∨ k = 2 ∨ k = 3 ∨ k = 4 ∨ k = 5 ∨ k = 6 ∨ k = 7 ∨ k = 8 ∨ k = 9 ∨ k = 10 ∨ k = 11 ∨ k = 12 ∨ k = 13 ∨ k = 14 ∨ k = 15 ∨ k = 16 ∨ k = 17 ∨ k = 18 ∨ k = 19 ∨ k = 20 ∨ k = 21 ∨ k = 22 ∨ k = 23 ∨ k = 24 ∨ k = 25 ∨ k = 26 ∨ k = 27 ∨ k = 28 ∨ k = 29 ∨ k = 30 ∨ k = 31 ∨ k = 32) with rfl | rfl | rfl | rfl | rfl | rfl | rfl | rfl | rfl | rfl | rfl | rfl | rfl | rfl | rfl | rfl | rfl | rfl | rfl | rfl | rfl | rfl | rfl | rfl | rfl | rfl | rfl | rfl | rfl | rfl | rfl | rfl | rfl
  · exact tn_ne 0 rfl h0
  · exact tn_ne 1 rfl h1
  · exact tn_ne 2 rfl h2
  · exact tn_ne 3 rfl h3
  · exact tn_ne 4 rfl h4
  · exact tn_ne 5 rfl h5
  · exact tn_ne 6 rfl h6
  · exact tn_ne 7 rfl h7
  · exact tn_ne 8 rfl h8
  · exact tn_ne 9 rfl h9
  · exact tn_ne 10 rfl h10
  · exact tn_ne 11 rfl h11
  · exact tn_ne 12 rfl h12
  · exact tn_ne 13 rfl h13
  · exact tn_ne 14 rfl h14
  · exact tn_ne 15 rfl h15
  · exact tn_ne 16 rfl h16
  · exact tn_ne 17 rfl h17
  · exact tn_ne 18 rfl h18
  · exact tn_ne 19 rfl h19
  · exact tn_ne 20 rfl h20
  · exact tn_ne 21 rfl h21
  · exact tn_ne 22 rfl h22
  · exact tn_ne 23 rfl h23
  · exact tn_ne 24 rfl h24
  · exact tn_ne 25 rfl h25
  · exact tn_ne 26 rfl h26
  · exact tn_ne 27 rfl h27
  · exact tn_ne 28 rfl h28
  · exact tn_ne 29 rfl h29
  · exact tn_ne 30 rfl h30
  · exact tn_ne 31 rfl h31
  · exact tn_ne 32 rfl h32

theorem dX5_all_0 : decode cX5_all 0 = .ok (.iload_n 1, 1) := by decide +kernel
theorem dX5_all_1 : decode cX5_all 1 = .ok (.invokestatic 206, 3) := by decide +kernel
theorem dX5_all_4 : decode cX5_all 4 = .ok (.ifCond .eq 19, 3) := by decide +kernel
theorem dX5_all_7 : decode cX5_all 7 = .ok (.iload_n 2, 1) := by decide +kernel
theorem dX5_all_8 : decode cX5_all 8 = .ok (.invokestatic 206, 3) := by decide +kernel
theorem dX5_all_11 : decode cX5_all 11 = .ok (.ifCond .eq 12, 3) := by decide +kernel
theorem dX5_all_14 : decode cX5_all 14 = .ok (.aload_n 0, 1) := by decide +kernel
theorem dX5_all_15 : decode cX5_all 15 = .ok (.iload_n 1, 1) := by decide +kernel
theorem dX5_all_16 : decode cX5_all 16 = .ok (.iload_n 2, 1) := by decide +kernel
theorem dX5_all_17 : decode cX5_all 17 = .ok (.invokevirtual 224, 3) := by decide +kernel
theorem dX5_all_20 : decode cX5_all 20 = .ok (.goto 8, 3) := by decide +kernel
theorem dX5_all_23 : decode cX5_all 23 = .ok (.bipush (-2), 2) := by decide +kernel
theorem dX5_all_25 : decode cX5_all 25 = .ok (.invokestatic 212, 3) := by decide +kernel
theorem dX5_all_28 : decode cX5_all 28 = .ok (.lreturn, 1) := by decide +kernel
theorem dX5_answerNow_0 : decode cX5_answerNow 0 = .ok (.aload_n 0, 1) := by decide +kernel
theorem dX5_answerNow_1 : decode cX5_answerNow 1 = .ok (.invokevirtual 165, 3) := by decide +kernel
theorem dX5_answerNow_4 : decode cX5_answerNow 4 = .ok (.aload_n 0, 1) := by decide +kernel
theorem dX5_answerNow_5 : decode cX5_answerNow 5 = .ok (.iload_n 1, 1) := by decide +kernel
theorem dX5_answerNow_6 : decode cX5_answerNow 6 = .ok (.invokevirtual 227, 3) := by decide +kernel
theorem dX5_answerNow_9 : decode cX5_answerNow 9 = .ok (.ireturn, 1) := by decide +kernel
theorem dX5_answer_0 : decode cX5_answer 0 = .ok (.aload_n 0, 1) := by decide +kernel
theorem dX5_answer_1 : decode cX5_answer 1 = .ok (.iload_n 1, 1) := by decide +kernel
theorem dX5_answer_2 : decode cX5_answer 2 = .ok (.invokevirtual 138, 3) := by decide +kernel
theorem dX5_answer_5 : decode cX5_answer 5 = .ok (.ifCond .eq 11, 3) := by decide +kernel
theorem dX5_answer_8 : decode cX5_answer 8 = .ok (.aload_n 0, 1) := by decide +kernel
theorem dX5_answer_9 : decode cX5_answer 9 = .ok (.iload_n 1, 1) := by decide +kernel
theorem dX5_answer_10 : decode cX5_answer 10 = .ok (.invokevirtual 230, 3) := by decide +kernel
theorem dX5_answer_13 : decode cX5_answer 13 = .ok (.goto 5, 3) := by decide +kernel
theorem dX5_answer_16 : decode cX5_answer 16 = .ok (.bipush (-2), 2) := by decide +kernel
theorem dX5_answer_18 : decode cX5_answer 18 = .ok (.ireturn, 1) := by decide +kernel
theorem dX5_roundGoes_0 : decode cX5_roundGoes 0 = .ok (.iconst 0, 1) := by decide +kernel
theorem dX5_roundGoes_1 : decode cX5_roundGoes 1 = .ok (.istore_n 1, 1) := by decide +kernel
theorem dX5_roundGoes_2 : decode cX5_roundGoes 2 = .ok (.iconst 0, 1) := by decide +kernel
theorem dX5_roundGoes_3 : decode cX5_roundGoes 3 = .ok (.istore_n 2, 1) := by decide +kernel
theorem dX5_roundGoes_4 : decode cX5_roundGoes 4 = .ok (.iload_n 2, 1) := by decide +kernel
theorem dX5_roundGoes_5 : decode cX5_roundGoes 5 = .ok (.aload_n 0, 1) := by decide +kernel
theorem dX5_roundGoes_6 : decode cX5_roundGoes 6 = .ok (.getfield 110, 3) := by decide +kernel
theorem dX5_roundGoes_9 : decode cX5_roundGoes 9 = .ok (.if_icmp .ge 87, 3) := by decide +kernel
theorem dX5_roundGoes_12 : decode cX5_roundGoes 12 = .ok (.iload_n 2, 1) := by decide +kernel
theorem dX5_roundGoes_13 : decode cX5_roundGoes 13 = .ok (.aload_n 0, 1) := by decide +kernel
theorem dX5_roundGoes_14 : decode cX5_roundGoes 14 = .ok (.getfield 162, 3) := by decide +kernel
theorem dX5_roundGoes_17 : decode cX5_roundGoes 17 = .ok (.if_icmp .eq 73, 3) := by decide +kernel
theorem dX5_roundGoes_20 : decode cX5_roundGoes 20 = .ok (.aload_n 0, 1) := by decide +kernel
theorem dX5_roundGoes_21 : decode cX5_roundGoes 21 = .ok (.iload_n 2, 1) := by decide +kernel
theorem dX5_roundGoes_22 : decode cX5_roundGoes 22 = .ok (.invokevirtual 227, 3) := by decide +kernel
theorem dX5_roundGoes_25 : decode cX5_roundGoes 25 = .ok (.istore_n 3, 1) := by decide +kernel
theorem dX5_roundGoes_26 : decode cX5_roundGoes 26 = .ok (.aload_n 0, 1) := by decide +kernel
theorem dX5_roundGoes_27 : decode cX5_roundGoes 27 = .ok (.iload_n 2, 1) := by decide +kernel
theorem dX5_roundGoes_28 : decode cX5_roundGoes 28 = .ok (.iload_n 3, 1) := by decide +kernel
theorem dX5_roundGoes_29 : decode cX5_roundGoes 29 = .ok (.invokevirtual 202, 3) := by decide +kernel
theorem dX5_roundGoes_32 : decode cX5_roundGoes 32 = .ok (.aload_n 0, 1) := by decide +kernel
theorem dX5_roundGoes_33 : decode cX5_roundGoes 33 = .ok (.iload_n 2, 1) := by decide +kernel
theorem dX5_roundGoes_34 : decode cX5_roundGoes 34 = .ok (.aload_n 0, 1) := by decide +kernel
theorem dX5_roundGoes_35 : decode cX5_roundGoes 35 = .ok (.getfield 43, 3) := by decide +kernel
theorem dX5_roundGoes_38 : decode cX5_roundGoes 38 = .ok (.iload_n 2, 1) := by decide +kernel
theorem dX5_roundGoes_39 : decode cX5_roundGoes 39 = .ok (.iaload, 1) := by decide +kernel
theorem dX5_roundGoes_40 : decode cX5_roundGoes 40 = .ok (.invokevirtual 202, 3) := by decide +kernel
theorem dX5_roundGoes_43 : decode cX5_roundGoes 43 = .ok (.lcmp, 1) := by decide +kernel
theorem dX5_roundGoes_44 : decode cX5_roundGoes 44 = .ok (.ifCond .le 7, 3) := by decide +kernel
theorem dX5_roundGoes_47 : decode cX5_roundGoes 47 = .ok (.iconst 1, 1) := by decide +kernel
theorem dX5_roundGoes_48 : decode cX5_roundGoes 48 = .ok (.goto 4, 3) := by decide +kernel
theorem dX5_roundGoes_51 : decode cX5_roundGoes 51 = .ok (.iconst 0, 1) := by decide +kernel
theorem dX5_roundGoes_52 : decode cX5_roundGoes 52 = .ok (.istore 4, 2) := by decide +kernel
theorem dX5_roundGoes_54 : decode cX5_roundGoes 54 = .ok (.aload_n 0, 1) := by decide +kernel
theorem dX5_roundGoes_55 : decode cX5_roundGoes 55 = .ok (.getfield 43, 3) := by decide +kernel
theorem dX5_roundGoes_58 : decode cX5_roundGoes 58 = .ok (.iload_n 2, 1) := by decide +kernel
theorem dX5_roundGoes_59 : decode cX5_roundGoes 59 = .ok (.iload 4, 2) := by decide +kernel
theorem dX5_roundGoes_61 : decode cX5_roundGoes 61 = .ok (.ifCond .eq 7, 3) := by decide +kernel
theorem dX5_roundGoes_64 : decode cX5_roundGoes 64 = .ok (.iload_n 3, 1) := by decide +kernel
theorem dX5_roundGoes_65 : decode cX5_roundGoes 65 = .ok (.goto 9, 3) := by decide +kernel
theorem dX5_roundGoes_68 : decode cX5_roundGoes 68 = .ok (.aload_n 0, 1) := by decide +kernel
theorem dX5_roundGoes_69 : decode cX5_roundGoes 69 = .ok (.getfield 43, 3) := by decide +kernel
theorem dX5_roundGoes_72 : decode cX5_roundGoes 72 = .ok (.iload_n 2, 1) := by decide +kernel
theorem dX5_roundGoes_73 : decode cX5_roundGoes 73 = .ok (.iaload, 1) := by decide +kernel
theorem dX5_roundGoes_74 : decode cX5_roundGoes 74 = .ok (.iastore, 1) := by decide +kernel
theorem dX5_roundGoes_75 : decode cX5_roundGoes 75 = .ok (.iload_n 1, 1) := by decide +kernel
theorem dX5_roundGoes_76 : decode cX5_roundGoes 76 = .ok (.ifCond .ne 8, 3) := by decide +kernel
theorem dX5_roundGoes_79 : decode cX5_roundGoes 79 = .ok (.iload 4, 2) := by decide +kernel
theorem dX5_roundGoes_81 : decode cX5_roundGoes 81 = .ok (.ifCond .eq 7, 3) := by decide +kernel
theorem dX5_roundGoes_84 : decode cX5_roundGoes 84 = .ok (.iconst 1, 1) := by decide +kernel
theorem dX5_roundGoes_85 : decode cX5_roundGoes 85 = .ok (.goto 4, 3) := by decide +kernel
theorem dX5_roundGoes_88 : decode cX5_roundGoes 88 = .ok (.iconst 0, 1) := by decide +kernel
theorem dX5_roundGoes_89 : decode cX5_roundGoes 89 = .ok (.istore_n 1, 1) := by decide +kernel
theorem dX5_roundGoes_90 : decode cX5_roundGoes 90 = .ok (.iinc 2 1, 3) := by decide +kernel
theorem dX5_roundGoes_93 : decode cX5_roundGoes 93 = .ok (.goto (-89), 3) := by decide +kernel
theorem dX5_roundGoes_96 : decode cX5_roundGoes 96 = .ok (.iload_n 1, 1) := by decide +kernel
theorem dX5_roundGoes_97 : decode cX5_roundGoes 97 = .ok (.ireturn, 1) := by decide +kernel
theorem dX5_runsDown_0 : decode cX5_runsDown 0 = .ok (.aload_n 0, 1) := by decide +kernel
theorem dX5_runsDown_1 : decode cX5_runsDown 1 = .ok (.iconst 0, 1) := by decide +kernel
theorem dX5_runsDown_2 : decode cX5_runsDown 2 = .ok (.putfield 233, 3) := by decide +kernel
theorem dX5_runsDown_5 : decode cX5_runsDown 5 = .ok (.aload_n 0, 1) := by decide +kernel
theorem dX5_runsDown_6 : decode cX5_runsDown 6 = .ok (.invokevirtual 236, 3) := by decide +kernel
theorem dX5_runsDown_9 : decode cX5_runsDown 9 = .ok (.ifCond .eq 24, 3) := by decide +kernel
theorem dX5_runsDown_12 : decode cX5_runsDown 12 = .ok (.aload_n 0, 1) := by decide +kernel
theorem dX5_runsDown_13 : decode cX5_runsDown 13 = .ok (.dup, 1) := by decide +kernel
theorem dX5_runsDown_14 : decode cX5_runsDown 14 = .ok (.getfield 233, 3) := by decide +kernel
theorem dX5_runsDown_17 : decode cX5_runsDown 17 = .ok (.iconst 1, 1) := by decide +kernel
theorem dX5_runsDown_18 : decode cX5_runsDown 18 = .ok (.iadd, 1) := by decide +kernel
theorem dX5_runsDown_19 : decode cX5_runsDown 19 = .ok (.putfield 233, 3) := by decide +kernel
theorem dX5_runsDown_22 : decode cX5_runsDown 22 = .ok (.aload_n 0, 1) := by decide +kernel
theorem dX5_runsDown_23 : decode cX5_runsDown 23 = .ok (.getfield 233, 3) := by decide +kernel
theorem dX5_runsDown_26 : decode cX5_runsDown 26 = .ok (.bipush 40, 2) := by decide +kernel
theorem dX5_runsDown_28 : decode cX5_runsDown 28 = .ok (.if_icmp .ne (-23), 3) := by decide +kernel
theorem dX5_runsDown_31 : decode cX5_runsDown 31 = .ok (.iconst 0, 1) := by decide +kernel
theorem dX5_runsDown_32 : decode cX5_runsDown 32 = .ok (.ireturn, 1) := by decide +kernel
theorem dX5_runsDown_33 : decode cX5_runsDown 33 = .ok (.iconst 1, 1) := by decide +kernel
theorem dX5_runsDown_34 : decode cX5_runsDown 34 = .ok (.ireturn, 1) := by decide +kernel
theorem dX5_restOf_0 : decode cX5_restOf 0 = .ok (.aload_n 0, 1) := by decide +kernel
theorem dX5_restOf_1 : decode cX5_restOf 1 = .ok (.invokevirtual 165, 3) := by decide +kernel
theorem dX5_restOf_4 : decode cX5_restOf 4 = .ok (.aload_n 0, 1) := by decide +kernel
theorem dX5_restOf_5 : decode cX5_restOf 5 = .ok (.invokevirtual 239, 3) := by decide +kernel
theorem dX5_restOf_8 : decode cX5_restOf 8 = .ok (.ifCond .ne 8, 3) := by decide +kernel
theorem dX5_restOf_11 : decode cX5_restOf 11 = .ok (.bipush (-3), 2) := by decide +kernel
theorem dX5_restOf_13 : decode cX5_restOf 13 = .ok (.goto 21, 3) := by decide +kernel
theorem dX5_restOf_16 : decode cX5_restOf 16 = .ok (.iload_n 1, 1) := by decide +kernel
theorem dX5_restOf_17 : decode cX5_restOf 17 = .ok (.iconst (-1), 1) := by decide +kernel
theorem dX5_restOf_18 : decode cX5_restOf 18 = .ok (.if_icmp .ne 10, 3) := by decide +kernel
theorem dX5_restOf_21 : decode cX5_restOf 21 = .ok (.aload_n 0, 1) := by decide +kernel
theorem dX5_restOf_22 : decode cX5_restOf 22 = .ok (.getfield 233, 3) := by decide +kernel
theorem dX5_restOf_25 : decode cX5_restOf 25 = .ok (.goto 9, 3) := by decide +kernel
theorem dX5_restOf_28 : decode cX5_restOf 28 = .ok (.aload_n 0, 1) := by decide +kernel
theorem dX5_restOf_29 : decode cX5_restOf 29 = .ok (.getfield 43, 3) := by decide +kernel
theorem dX5_restOf_32 : decode cX5_restOf 32 = .ok (.iload_n 1, 1) := by decide +kernel
theorem dX5_restOf_33 : decode cX5_restOf 33 = .ok (.iaload, 1) := by decide +kernel
theorem dX5_restOf_34 : decode cX5_restOf 34 = .ok (.ireturn, 1) := by decide +kernel
theorem dX5_rest_0 : decode cX5_rest 0 = .ok (.iload_n 1, 1) := by decide +kernel
theorem dX5_rest_1 : decode cX5_rest 1 = .ok (.iconst (-1), 1) := by decide +kernel
theorem dX5_rest_2 : decode cX5_rest 2 = .ok (.if_icmp .eq 11, 3) := by decide +kernel
theorem dX5_rest_5 : decode cX5_rest 5 = .ok (.aload_n 0, 1) := by decide +kernel
theorem dX5_rest_6 : decode cX5_rest 6 = .ok (.iload_n 1, 1) := by decide +kernel
theorem dX5_rest_7 : decode cX5_rest 7 = .ok (.invokevirtual 138, 3) := by decide +kernel
theorem dX5_rest_10 : decode cX5_rest 10 = .ok (.ifCond .eq 11, 3) := by decide +kernel
theorem dX5_rest_13 : decode cX5_rest 13 = .ok (.aload_n 0, 1) := by decide +kernel
theorem dX5_rest_14 : decode cX5_rest 14 = .ok (.iload_n 1, 1) := by decide +kernel
theorem dX5_rest_15 : decode cX5_rest 15 = .ok (.invokevirtual 242, 3) := by decide +kernel
theorem dX5_rest_18 : decode cX5_rest 18 = .ok (.goto 5, 3) := by decide +kernel
theorem dX5_rest_21 : decode cX5_rest 21 = .ok (.bipush (-2), 2) := by decide +kernel
theorem dX5_rest_23 : decode cX5_rest 23 = .ok (.ireturn, 1) := by decide +kernel
theorem dX5_isStill_0 : decode cX5_isStill 0 = .ok (.iconst 0, 1) := by decide +kernel
theorem dX5_isStill_1 : decode cX5_isStill 1 = .ok (.istore_n 1, 1) := by decide +kernel
theorem dX5_isStill_2 : decode cX5_isStill 2 = .ok (.iload_n 1, 1) := by decide +kernel
theorem dX5_isStill_3 : decode cX5_isStill 3 = .ok (.aload_n 0, 1) := by decide +kernel
theorem dX5_isStill_4 : decode cX5_isStill 4 = .ok (.getfield 110, 3) := by decide +kernel
theorem dX5_isStill_7 : decode cX5_isStill 7 = .ok (.if_icmp .ge 50, 3) := by decide +kernel
theorem dX5_isStill_10 : decode cX5_isStill 10 = .ok (.aload_n 0, 1) := by decide +kernel
theorem dX5_isStill_11 : decode cX5_isStill 11 = .ok (.iload_n 1, 1) := by decide +kernel
theorem dX5_isStill_12 : decode cX5_isStill 12 = .ok (.aload_n 0, 1) := by decide +kernel
theorem dX5_isStill_13 : decode cX5_isStill 13 = .ok (.getfield 43, 3) := by decide +kernel
theorem dX5_isStill_16 : decode cX5_isStill 16 = .ok (.iload_n 1, 1) := by decide +kernel
theorem dX5_isStill_17 : decode cX5_isStill 17 = .ok (.iaload, 1) := by decide +kernel
theorem dX5_isStill_18 : decode cX5_isStill 18 = .ok (.invokevirtual 202, 3) := by decide +kernel
theorem dX5_isStill_21 : decode cX5_isStill 21 = .ok (.lstore_n 2, 1) := by decide +kernel
theorem dX5_isStill_22 : decode cX5_isStill 22 = .ok (.iconst 0, 1) := by decide +kernel
theorem dX5_isStill_23 : decode cX5_isStill 23 = .ok (.istore 4, 2) := by decide +kernel
theorem dX5_isStill_25 : decode cX5_isStill 25 = .ok (.iload 4, 2) := by decide +kernel
theorem dX5_isStill_27 : decode cX5_isStill 27 = .ok (.iconst 4, 1) := by decide +kernel
theorem dX5_isStill_28 : decode cX5_isStill 28 = .ok (.if_icmp .ge 23, 3) := by decide +kernel
theorem dX5_isStill_31 : decode cX5_isStill 31 = .ok (.aload_n 0, 1) := by decide +kernel
theorem dX5_isStill_32 : decode cX5_isStill 32 = .ok (.iload_n 1, 1) := by decide +kernel
theorem dX5_isStill_33 : decode cX5_isStill 33 = .ok (.iload 4, 2) := by decide +kernel
theorem dX5_isStill_35 : decode cX5_isStill 35 = .ok (.invokevirtual 202, 3) := by decide +kernel
theorem dX5_isStill_38 : decode cX5_isStill 38 = .ok (.lload_n 2, 1) := by decide +kernel
theorem dX5_isStill_39 : decode cX5_isStill 39 = .ok (.lcmp, 1) := by decide +kernel
theorem dX5_isStill_40 : decode cX5_isStill 40 = .ok (.ifCond .le 5, 3) := by decide +kernel
theorem dX5_isStill_43 : decode cX5_isStill 43 = .ok (.iconst 0, 1) := by decide +kernel
theorem dX5_isStill_44 : decode cX5_isStill 44 = .ok (.ireturn, 1) := by decide +kernel
theorem dX5_isStill_45 : decode cX5_isStill 45 = .ok (.iinc 4 1, 3) := by decide +kernel
theorem dX5_isStill_48 : decode cX5_isStill 48 = .ok (.goto (-23), 3) := by decide +kernel
theorem dX5_isStill_51 : decode cX5_isStill 51 = .ok (.iinc 1 1, 3) := by decide +kernel
theorem dX5_isStill_54 : decode cX5_isStill 54 = .ok (.goto (-52), 3) := by decide +kernel
theorem dX5_isStill_57 : decode cX5_isStill 57 = .ok (.iconst 1, 1) := by decide +kernel
theorem dX5_isStill_58 : decode cX5_isStill 58 = .ok (.ireturn, 1) := by decide +kernel
theorem dX5_lays_0 : decode cX5_lays 0 = .ok (.iload_n 1, 1) := by decide +kernel
theorem dX5_lays_1 : decode cX5_lays 1 = .ok (.istore_n 2, 1) := by decide +kernel
theorem dX5_lays_2 : decode cX5_lays 2 = .ok (.aload_n 0, 1) := by decide +kernel
theorem dX5_lays_3 : decode cX5_lays 3 = .ok (.getfield 110, 3) := by decide +kernel
theorem dX5_lays_6 : decode cX5_lays 6 = .ok (.iconst 1, 1) := by decide +kernel
theorem dX5_lays_7 : decode cX5_lays 7 = .ok (.isub, 1) := by decide +kernel
theorem dX5_lays_8 : decode cX5_lays 8 = .ok (.istore_n 3, 1) := by decide +kernel
theorem dX5_lays_9 : decode cX5_lays 9 = .ok (.iload_n 3, 1) := by decide +kernel
theorem dX5_lays_10 : decode cX5_lays 10 = .ok (.ifCond .lt 22, 3) := by decide +kernel
theorem dX5_lays_13 : decode cX5_lays 13 = .ok (.aload_n 0, 1) := by decide +kernel
theorem dX5_lays_14 : decode cX5_lays 14 = .ok (.getfield 43, 3) := by decide +kernel
theorem dX5_lays_17 : decode cX5_lays 17 = .ok (.iload_n 3, 1) := by decide +kernel
theorem dX5_lays_18 : decode cX5_lays 18 = .ok (.iload_n 2, 1) := by decide +kernel
theorem dX5_lays_19 : decode cX5_lays 19 = .ok (.iconst 4, 1) := by decide +kernel
theorem dX5_lays_20 : decode cX5_lays 20 = .ok (.irem, 1) := by decide +kernel
theorem dX5_lays_21 : decode cX5_lays 21 = .ok (.iastore, 1) := by decide +kernel
theorem dX5_lays_22 : decode cX5_lays 22 = .ok (.iload_n 2, 1) := by decide +kernel
theorem dX5_lays_23 : decode cX5_lays 23 = .ok (.iconst 4, 1) := by decide +kernel
theorem dX5_lays_24 : decode cX5_lays 24 = .ok (.idiv, 1) := by decide +kernel
theorem dX5_lays_25 : decode cX5_lays 25 = .ok (.istore_n 2, 1) := by decide +kernel
theorem dX5_lays_26 : decode cX5_lays 26 = .ok (.iinc 3 (-1), 3) := by decide +kernel
theorem dX5_lays_29 : decode cX5_lays 29 = .ok (.goto (-20), 3) := by decide +kernel
theorem dX5_lays_32 : decode cX5_lays 32 = .ok (.return_, 1) := by decide +kernel
theorem dX5_stillOf_0 : decode cX5_stillOf 0 = .ok (.aload_n 0, 1) := by decide +kernel
theorem dX5_stillOf_1 : decode cX5_stillOf 1 = .ok (.invokevirtual 165, 3) := by decide +kernel
theorem dX5_stillOf_4 : decode cX5_stillOf 4 = .ok (.iconst 0, 1) := by decide +kernel
theorem dX5_stillOf_5 : decode cX5_stillOf 5 = .ok (.istore_n 3, 1) := by decide +kernel
theorem dX5_stillOf_6 : decode cX5_stillOf 6 = .ok (.iconst 0, 1) := by decide +kernel
theorem dX5_stillOf_7 : decode cX5_stillOf 7 = .ok (.istore 4, 2) := by decide +kernel
theorem dX5_stillOf_9 : decode cX5_stillOf 9 = .ok (.iload 4, 2) := by decide +kernel
theorem dX5_stillOf_11 : decode cX5_stillOf 11 = .ok (.iconst 1, 1) := by decide +kernel
theorem dX5_stillOf_12 : decode cX5_stillOf 12 = .ok (.iconst 2, 1) := by decide +kernel
theorem dX5_stillOf_13 : decode cX5_stillOf 13 = .ok (.aload_n 0, 1) := by decide +kernel
theorem dX5_stillOf_14 : decode cX5_stillOf 14 = .ok (.getfield 110, 3) := by decide +kernel
theorem dX5_stillOf_17 : decode cX5_stillOf 17 = .ok (.imul, 1) := by decide +kernel
theorem dX5_stillOf_18 : decode cX5_stillOf 18 = .ok (.ishl, 1) := by decide +kernel
theorem dX5_stillOf_19 : decode cX5_stillOf 19 = .ok (.if_icmp .ge 37, 3) := by decide +kernel
theorem dX5_stillOf_22 : decode cX5_stillOf 22 = .ok (.aload_n 0, 1) := by decide +kernel
theorem dX5_stillOf_23 : decode cX5_stillOf 23 = .ok (.iload 4, 2) := by decide +kernel
theorem dX5_stillOf_25 : decode cX5_stillOf 25 = .ok (.invokevirtual 245, 3) := by decide +kernel
theorem dX5_stillOf_28 : decode cX5_stillOf 28 = .ok (.aload_n 0, 1) := by decide +kernel
theorem dX5_stillOf_29 : decode cX5_stillOf 29 = .ok (.invokevirtual 248, 3) := by decide +kernel
theorem dX5_stillOf_32 : decode cX5_stillOf 32 = .ok (.ifCond .eq 18, 3) := by decide +kernel
theorem dX5_stillOf_35 : decode cX5_stillOf 35 = .ok (.iload_n 3, 1) := by decide +kernel
theorem dX5_stillOf_36 : decode cX5_stillOf 36 = .ok (.iload_n 1, 1) := by decide +kernel
theorem dX5_stillOf_37 : decode cX5_stillOf 37 = .ok (.if_icmp .ne 10, 3) := by decide +kernel
theorem dX5_stillOf_40 : decode cX5_stillOf 40 = .ok (.aload_n 0, 1) := by decide +kernel
theorem dX5_stillOf_41 : decode cX5_stillOf 41 = .ok (.getfield 43, 3) := by decide +kernel
theorem dX5_stillOf_44 : decode cX5_stillOf 44 = .ok (.iload_n 2, 1) := by decide +kernel
theorem dX5_stillOf_45 : decode cX5_stillOf 45 = .ok (.iaload, 1) := by decide +kernel
theorem dX5_stillOf_46 : decode cX5_stillOf 46 = .ok (.ireturn, 1) := by decide +kernel
theorem dX5_stillOf_47 : decode cX5_stillOf 47 = .ok (.iinc 3 1, 3) := by decide +kernel
theorem dX5_stillOf_50 : decode cX5_stillOf 50 = .ok (.iinc 4 1, 3) := by decide +kernel
theorem dX5_stillOf_53 : decode cX5_stillOf 53 = .ok (.goto (-44), 3) := by decide +kernel
theorem dX5_stillOf_56 : decode cX5_stillOf 56 = .ok (.iload_n 1, 1) := by decide +kernel
theorem dX5_stillOf_57 : decode cX5_stillOf 57 = .ok (.iconst (-1), 1) := by decide +kernel
theorem dX5_stillOf_58 : decode cX5_stillOf 58 = .ok (.if_icmp .ne 7, 3) := by decide +kernel
theorem dX5_stillOf_61 : decode cX5_stillOf 61 = .ok (.iload_n 3, 1) := by decide +kernel
theorem dX5_stillOf_62 : decode cX5_stillOf 62 = .ok (.goto 4, 3) := by decide +kernel
theorem dX5_stillOf_65 : decode cX5_stillOf 65 = .ok (.iconst (-1), 1) := by decide +kernel
theorem dX5_stillOf_66 : decode cX5_stillOf 66 = .ok (.ireturn, 1) := by decide +kernel
theorem dX5_still_0 : decode cX5_still 0 = .ok (.iload_n 1, 1) := by decide +kernel
theorem dX5_still_1 : decode cX5_still 1 = .ok (.iconst (-1), 1) := by decide +kernel
theorem dX5_still_2 : decode cX5_still 2 = .ok (.if_icmp .ne 16, 3) := by decide +kernel
theorem dX5_still_5 : decode cX5_still 5 = .ok (.iload_n 2, 1) := by decide +kernel
theorem dX5_still_6 : decode cX5_still 6 = .ok (.iconst (-1), 1) := by decide +kernel
theorem dX5_still_7 : decode cX5_still 7 = .ok (.if_icmp .ne 7, 3) := by decide +kernel
theorem dX5_still_10 : decode cX5_still 10 = .ok (.iconst 1, 1) := by decide +kernel
theorem dX5_still_11 : decode cX5_still 11 = .ok (.goto 24, 3) := by decide +kernel
theorem dX5_still_14 : decode cX5_still 14 = .ok (.iconst 0, 1) := by decide +kernel
theorem dX5_still_15 : decode cX5_still 15 = .ok (.goto 20, 3) := by decide +kernel
theorem dX5_still_18 : decode cX5_still 18 = .ok (.iload_n 1, 1) := by decide +kernel
theorem dX5_still_19 : decode cX5_still 19 = .ok (.ifCond .lt 15, 3) := by decide +kernel
theorem dX5_still_22 : decode cX5_still 22 = .ok (.aload_n 0, 1) := by decide +kernel
theorem dX5_still_23 : decode cX5_still 23 = .ok (.iload_n 2, 1) := by decide +kernel
theorem dX5_still_24 : decode cX5_still 24 = .ok (.invokevirtual 138, 3) := by decide +kernel
theorem dX5_still_27 : decode cX5_still 27 = .ok (.ifCond .eq 7, 3) := by decide +kernel
theorem dX5_still_30 : decode cX5_still 30 = .ok (.iconst 1, 1) := by decide +kernel
theorem dX5_still_31 : decode cX5_still 31 = .ok (.goto 4, 3) := by decide +kernel
theorem dX5_still_34 : decode cX5_still 34 = .ok (.iconst 0, 1) := by decide +kernel
theorem dX5_still_35 : decode cX5_still 35 = .ok (.istore_n 3, 1) := by decide +kernel
theorem dX5_still_36 : decode cX5_still 36 = .ok (.iload_n 3, 1) := by decide +kernel
theorem dX5_still_37 : decode cX5_still 37 = .ok (.ifCond .eq 12, 3) := by decide +kernel
theorem dX5_still_40 : decode cX5_still 40 = .ok (.aload_n 0, 1) := by decide +kernel
theorem dX5_still_41 : decode cX5_still 41 = .ok (.iload_n 1, 1) := by decide +kernel
theorem dX5_still_42 : decode cX5_still 42 = .ok (.iload_n 2, 1) := by decide +kernel
theorem dX5_still_43 : decode cX5_still 43 = .ok (.invokevirtual 251, 3) := by decide +kernel
theorem dX5_still_46 : decode cX5_still 46 = .ok (.goto 5, 3) := by decide +kernel
theorem dX5_still_49 : decode cX5_still 49 = .ok (.bipush (-2), 2) := by decide +kernel
theorem dX5_still_51 : decode cX5_still 51 = .ok (.ireturn, 1) := by decide +kernel
theorem dX5_findBest_0 : decode cX5_findBest 0 = .ok (.aload_n 0, 1) := by decide +kernel
theorem dX5_findBest_1 : decode cX5_findBest 1 = .ok (.invokevirtual 165, 3) := by decide +kernel
theorem dX5_findBest_4 : decode cX5_findBest 4 = .ok (.iconst 0, 1) := by decide +kernel
theorem dX5_findBest_5 : decode cX5_findBest 5 = .ok (.istore_n 2, 1) := by decide +kernel
theorem dX5_findBest_6 : decode cX5_findBest 6 = .ok (.aload_n 0, 1) := by decide +kernel
theorem dX5_findBest_7 : decode cX5_findBest 7 = .ok (.ldc2_w 59, 3) := by decide +kernel
theorem dX5_findBest_10 : decode cX5_findBest 10 = .ok (.putfield 254, 3) := by decide +kernel
theorem dX5_findBest_13 : decode cX5_findBest 13 = .ok (.iconst 0, 1) := by decide +kernel
theorem dX5_findBest_14 : decode cX5_findBest 14 = .ok (.istore_n 3, 1) := by decide +kernel
theorem dX5_findBest_15 : decode cX5_findBest 15 = .ok (.iload_n 3, 1) := by decide +kernel
theorem dX5_findBest_16 : decode cX5_findBest 16 = .ok (.iconst 1, 1) := by decide +kernel
theorem dX5_findBest_17 : decode cX5_findBest 17 = .ok (.iconst 2, 1) := by decide +kernel
theorem dX5_findBest_18 : decode cX5_findBest 18 = .ok (.aload_n 0, 1) := by decide +kernel
theorem dX5_findBest_19 : decode cX5_findBest 19 = .ok (.getfield 110, 3) := by decide +kernel
theorem dX5_findBest_22 : decode cX5_findBest 22 = .ok (.imul, 1) := by decide +kernel
theorem dX5_findBest_23 : decode cX5_findBest 23 = .ok (.ishl, 1) := by decide +kernel
theorem dX5_findBest_24 : decode cX5_findBest 24 = .ok (.if_icmp .ge 74, 3) := by decide +kernel
theorem dX5_findBest_27 : decode cX5_findBest 27 = .ok (.aload_n 0, 1) := by decide +kernel
theorem dX5_findBest_28 : decode cX5_findBest 28 = .ok (.iload_n 3, 1) := by decide +kernel
theorem dX5_findBest_29 : decode cX5_findBest 29 = .ok (.invokevirtual 245, 3) := by decide +kernel
theorem dX5_findBest_32 : decode cX5_findBest 32 = .ok (.aload_n 0, 1) := by decide +kernel
theorem dX5_findBest_33 : decode cX5_findBest 33 = .ok (.invokevirtual 220, 3) := by decide +kernel
theorem dX5_findBest_36 : decode cX5_findBest 36 = .ok (.lstore 4, 2) := by decide +kernel
theorem dX5_findBest_38 : decode cX5_findBest 38 = .ok (.iload_n 1, 1) := by decide +kernel
theorem dX5_findBest_39 : decode cX5_findBest 39 = .ok (.ifCond .ne 8, 3) := by decide +kernel
theorem dX5_findBest_42 : decode cX5_findBest 42 = .ok (.lload 4, 2) := by decide +kernel
theorem dX5_findBest_44 : decode cX5_findBest 44 = .ok (.goto 7, 3) := by decide +kernel
theorem dX5_findBest_47 : decode cX5_findBest 47 = .ok (.aload_n 0, 1) := by decide +kernel
theorem dX5_findBest_48 : decode cX5_findBest 48 = .ok (.getfield 174, 3) := by decide +kernel
theorem dX5_findBest_51 : decode cX5_findBest 51 = .ok (.lstore 6, 2) := by decide +kernel
theorem dX5_findBest_53 : decode cX5_findBest 53 = .ok (.lload 6, 2) := by decide +kernel
theorem dX5_findBest_55 : decode cX5_findBest 55 = .ok (.aload_n 0, 1) := by decide +kernel
theorem dX5_findBest_56 : decode cX5_findBest 56 = .ok (.getfield 254, 3) := by decide +kernel
theorem dX5_findBest_59 : decode cX5_findBest 59 = .ok (.lcmp, 1) := by decide +kernel
theorem dX5_findBest_60 : decode cX5_findBest 60 = .ok (.ifCond .le 7, 3) := by decide +kernel
theorem dX5_findBest_63 : decode cX5_findBest 63 = .ok (.iload_n 3, 1) := by decide +kernel
theorem dX5_findBest_64 : decode cX5_findBest 64 = .ok (.goto 4, 3) := by decide +kernel
theorem dX5_findBest_67 : decode cX5_findBest 67 = .ok (.iload_n 2, 1) := by decide +kernel
theorem dX5_findBest_68 : decode cX5_findBest 68 = .ok (.istore_n 2, 1) := by decide +kernel
theorem dX5_findBest_69 : decode cX5_findBest 69 = .ok (.aload_n 0, 1) := by decide +kernel
theorem dX5_findBest_70 : decode cX5_findBest 70 = .ok (.lload 6, 2) := by decide +kernel
theorem dX5_findBest_72 : decode cX5_findBest 72 = .ok (.aload_n 0, 1) := by decide +kernel
theorem dX5_findBest_73 : decode cX5_findBest 73 = .ok (.getfield 254, 3) := by decide +kernel
theorem dX5_findBest_76 : decode cX5_findBest 76 = .ok (.lcmp, 1) := by decide +kernel
theorem dX5_findBest_77 : decode cX5_findBest 77 = .ok (.ifCond .le 8, 3) := by decide +kernel
theorem dX5_findBest_80 : decode cX5_findBest 80 = .ok (.lload 6, 2) := by decide +kernel
theorem dX5_findBest_82 : decode cX5_findBest 82 = .ok (.goto 7, 3) := by decide +kernel
theorem dX5_findBest_85 : decode cX5_findBest 85 = .ok (.aload_n 0, 1) := by decide +kernel
theorem dX5_findBest_86 : decode cX5_findBest 86 = .ok (.getfield 254, 3) := by decide +kernel
theorem dX5_findBest_89 : decode cX5_findBest 89 = .ok (.putfield 254, 3) := by decide +kernel
theorem dX5_findBest_92 : decode cX5_findBest 92 = .ok (.iinc 3 1, 3) := by decide +kernel
theorem dX5_findBest_95 : decode cX5_findBest 95 = .ok (.goto (-80), 3) := by decide +kernel
theorem dX5_findBest_98 : decode cX5_findBest 98 = .ok (.iload_n 2, 1) := by decide +kernel
theorem dX5_findBest_99 : decode cX5_findBest 99 = .ok (.ireturn, 1) := by decide +kernel
theorem dX5_bestOf_0 : decode cX5_bestOf 0 = .ok (.aload_n 0, 1) := by decide +kernel
theorem dX5_bestOf_1 : decode cX5_bestOf 1 = .ok (.aload_n 0, 1) := by decide +kernel
theorem dX5_bestOf_2 : decode cX5_bestOf 2 = .ok (.iload_n 1, 1) := by decide +kernel
theorem dX5_bestOf_3 : decode cX5_bestOf 3 = .ok (.invokevirtual 257, 3) := by decide +kernel
theorem dX5_bestOf_6 : decode cX5_bestOf 6 = .ok (.invokevirtual 245, 3) := by decide +kernel
theorem dX5_bestOf_9 : decode cX5_bestOf 9 = .ok (.aload_n 0, 1) := by decide +kernel
theorem dX5_bestOf_10 : decode cX5_bestOf 10 = .ok (.getfield 43, 3) := by decide +kernel
theorem dX5_bestOf_13 : decode cX5_bestOf 13 = .ok (.iload_n 2, 1) := by decide +kernel
theorem dX5_bestOf_14 : decode cX5_bestOf 14 = .ok (.iaload, 1) := by decide +kernel
theorem dX5_bestOf_15 : decode cX5_bestOf 15 = .ok (.ireturn, 1) := by decide +kernel
theorem dX5_best_0 : decode cX5_best 0 = .ok (.iload_n 1, 1) := by decide +kernel
theorem dX5_best_1 : decode cX5_best 1 = .ok (.invokestatic 206, 3) := by decide +kernel
theorem dX5_best_4 : decode cX5_best 4 = .ok (.ifCond .eq 20, 3) := by decide +kernel
theorem dX5_best_7 : decode cX5_best 7 = .ok (.aload_n 0, 1) := by decide +kernel
theorem dX5_best_8 : decode cX5_best 8 = .ok (.iload_n 2, 1) := by decide +kernel
theorem dX5_best_9 : decode cX5_best 9 = .ok (.invokevirtual 138, 3) := by decide +kernel
theorem dX5_best_12 : decode cX5_best 12 = .ok (.ifCond .eq 12, 3) := by decide +kernel
theorem dX5_best_15 : decode cX5_best 15 = .ok (.aload_n 0, 1) := by decide +kernel
theorem dX5_best_16 : decode cX5_best 16 = .ok (.iload_n 1, 1) := by decide +kernel
theorem dX5_best_17 : decode cX5_best 17 = .ok (.iload_n 2, 1) := by decide +kernel
theorem dX5_best_18 : decode cX5_best 18 = .ok (.invokevirtual 260, 3) := by decide +kernel
theorem dX5_best_21 : decode cX5_best 21 = .ok (.goto 5, 3) := by decide +kernel
theorem dX5_best_24 : decode cX5_best 24 = .ok (.bipush (-2), 2) := by decide +kernel
theorem dX5_best_26 : decode cX5_best 26 = .ok (.ireturn, 1) := by decide +kernel
theorem dX5_loss_0 : decode cX5_loss 0 = .ok (.iload_n 1, 1) := by decide +kernel
theorem dX5_loss_1 : decode cX5_loss 1 = .ok (.invokestatic 206, 3) := by decide +kernel
theorem dX5_loss_4 : decode cX5_loss 4 = .ok (.ifCond .ne 9, 3) := by decide +kernel
theorem dX5_loss_7 : decode cX5_loss 7 = .ok (.bipush (-2), 2) := by decide +kernel
theorem dX5_loss_9 : decode cX5_loss 9 = .ok (.invokestatic 212, 3) := by decide +kernel
theorem dX5_loss_12 : decode cX5_loss 12 = .ok (.lreturn, 1) := by decide +kernel
theorem dX5_loss_13 : decode cX5_loss 13 = .ok (.aload_n 0, 1) := by decide +kernel
theorem dX5_loss_14 : decode cX5_loss 14 = .ok (.iconst 0, 1) := by decide +kernel
theorem dX5_loss_15 : decode cX5_loss 15 = .ok (.invokevirtual 257, 3) := by decide +kernel
theorem dX5_loss_18 : decode cX5_loss 18 = .ok (.pop, 1) := by decide +kernel
theorem dX5_loss_19 : decode cX5_loss 19 = .ok (.aload_n 0, 1) := by decide +kernel
theorem dX5_loss_20 : decode cX5_loss 20 = .ok (.getfield 254, 3) := by decide +kernel
theorem dX5_loss_23 : decode cX5_loss 23 = .ok (.lstore_n 2, 1) := by decide +kernel
theorem dX5_loss_24 : decode cX5_loss 24 = .ok (.aload_n 0, 1) := by decide +kernel
theorem dX5_loss_25 : decode cX5_loss 25 = .ok (.invokevirtual 165, 3) := by decide +kernel
theorem dX5_loss_28 : decode cX5_loss 28 = .ok (.lload_n 2, 1) := by decide +kernel
theorem dX5_loss_29 : decode cX5_loss 29 = .ok (.aload_n 0, 1) := by decide +kernel
theorem dX5_loss_30 : decode cX5_loss 30 = .ok (.invokevirtual 220, 3) := by decide +kernel
theorem dX5_loss_33 : decode cX5_loss 33 = .ok (.lsub, 1) := by decide +kernel
theorem dX5_loss_34 : decode cX5_loss 34 = .ok (.ldc2_w 195, 3) := by decide +kernel
theorem dX5_loss_37 : decode cX5_loss 37 = .ok (.iload_n 1, 1) := by decide +kernel
theorem dX5_loss_38 : decode cX5_loss 38 = .ok (.invokestatic 216, 3) := by decide +kernel
theorem dX5_loss_41 : decode cX5_loss 41 = .ok (.lreturn, 1) := by decide +kernel
theorem dX5_leastNow_0 : decode cX5_leastNow 0 = .ok (.aload_n 0, 1) := by decide +kernel
theorem dX5_leastNow_1 : decode cX5_leastNow 1 = .ok (.invokevirtual 165, 3) := by decide +kernel
theorem dX5_leastNow_4 : decode cX5_leastNow 4 = .ok (.aload_n 0, 1) := by decide +kernel
theorem dX5_leastNow_5 : decode cX5_leastNow 5 = .ok (.getfield 34, 3) := by decide +kernel
theorem dX5_leastNow_8 : decode cX5_leastNow 8 = .ok (.iconst 1, 1) := by decide +kernel
theorem dX5_leastNow_9 : decode cX5_leastNow 9 = .ok (.iaload, 1) := by decide +kernel
theorem dX5_leastNow_10 : decode cX5_leastNow 10 = .ok (.istore_n 1, 1) := by decide +kernel
theorem dX5_leastNow_11 : decode cX5_leastNow 11 = .ok (.iconst 0, 1) := by decide +kernel
theorem dX5_leastNow_12 : decode cX5_leastNow 12 = .ok (.istore_n 2, 1) := by decide +kernel
theorem dX5_leastNow_13 : decode cX5_leastNow 13 = .ok (.iload_n 2, 1) := by decide +kernel
theorem dX5_leastNow_14 : decode cX5_leastNow 14 = .ok (.aload_n 0, 1) := by decide +kernel
theorem dX5_leastNow_15 : decode cX5_leastNow 15 = .ok (.getfield 110, 3) := by decide +kernel
theorem dX5_leastNow_18 : decode cX5_leastNow 18 = .ok (.if_icmp .ge 43, 3) := by decide +kernel
theorem dX5_leastNow_21 : decode cX5_leastNow 21 = .ok (.aload_n 0, 1) := by decide +kernel
theorem dX5_leastNow_22 : decode cX5_leastNow 22 = .ok (.getfield 43, 3) := by decide +kernel
theorem dX5_leastNow_25 : decode cX5_leastNow 25 = .ok (.iload_n 2, 1) := by decide +kernel
theorem dX5_leastNow_26 : decode cX5_leastNow 26 = .ok (.aload_n 0, 1) := by decide +kernel
theorem dX5_leastNow_27 : decode cX5_leastNow 27 = .ok (.iload_n 2, 1) := by decide +kernel
theorem dX5_leastNow_28 : decode cX5_leastNow 28 = .ok (.invokevirtual 141, 3) := by decide +kernel
theorem dX5_leastNow_31 : decode cX5_leastNow 31 = .ok (.ifCond .eq 17, 3) := by decide +kernel
theorem dX5_leastNow_34 : decode cX5_leastNow 34 = .ok (.aload_n 0, 1) := by decide +kernel
theorem dX5_leastNow_35 : decode cX5_leastNow 35 = .ok (.getfield 43, 3) := by decide +kernel
theorem dX5_leastNow_38 : decode cX5_leastNow 38 = .ok (.iload_n 2, 1) := by decide +kernel
theorem dX5_leastNow_39 : decode cX5_leastNow 39 = .ok (.iaload, 1) := by decide +kernel
theorem dX5_leastNow_40 : decode cX5_leastNow 40 = .ok (.iload_n 1, 1) := by decide +kernel
theorem dX5_leastNow_41 : decode cX5_leastNow 41 = .ok (.if_icmp .le 7, 3) := by decide +kernel
theorem dX5_leastNow_44 : decode cX5_leastNow 44 = .ok (.iload_n 1, 1) := by decide +kernel
theorem dX5_leastNow_45 : decode cX5_leastNow 45 = .ok (.goto 9, 3) := by decide +kernel
theorem dX5_leastNow_48 : decode cX5_leastNow 48 = .ok (.aload_n 0, 1) := by decide +kernel
theorem dX5_leastNow_49 : decode cX5_leastNow 49 = .ok (.getfield 43, 3) := by decide +kernel
theorem dX5_leastNow_52 : decode cX5_leastNow 52 = .ok (.iload_n 2, 1) := by decide +kernel
theorem dX5_leastNow_53 : decode cX5_leastNow 53 = .ok (.iaload, 1) := by decide +kernel
theorem dX5_leastNow_54 : decode cX5_leastNow 54 = .ok (.iastore, 1) := by decide +kernel
theorem dX5_leastNow_55 : decode cX5_leastNow 55 = .ok (.iinc 2 1, 3) := by decide +kernel
theorem dX5_leastNow_58 : decode cX5_leastNow 58 = .ok (.goto (-45), 3) := by decide +kernel
theorem dX5_leastNow_61 : decode cX5_leastNow 61 = .ok (.aload_n 0, 1) := by decide +kernel
theorem dX5_leastNow_62 : decode cX5_leastNow 62 = .ok (.iconst 0, 1) := by decide +kernel
theorem dX5_leastNow_63 : decode cX5_leastNow 63 = .ok (.putfield 155, 3) := by decide +kernel
theorem dX5_leastNow_66 : decode cX5_leastNow 66 = .ok (.lconst 0, 1) := by decide +kernel
theorem dX5_leastNow_67 : decode cX5_leastNow 67 = .ok (.lstore_n 2, 1) := by decide +kernel
theorem dX5_leastNow_68 : decode cX5_leastNow 68 = .ok (.iconst 0, 1) := by decide +kernel
theorem dX5_leastNow_69 : decode cX5_leastNow 69 = .ok (.istore 4, 2) := by decide +kernel
theorem dX5_leastNow_71 : decode cX5_leastNow 71 = .ok (.iload 4, 2) := by decide +kernel
theorem dX5_leastNow_73 : decode cX5_leastNow 73 = .ok (.aload_n 0, 1) := by decide +kernel
theorem dX5_leastNow_74 : decode cX5_leastNow 74 = .ok (.getfield 110, 3) := by decide +kernel
theorem dX5_leastNow_77 : decode cX5_leastNow 77 = .ok (.if_icmp .ge 73, 3) := by decide +kernel
theorem dX5_leastNow_80 : decode cX5_leastNow 80 = .ok (.iload_n 1, 1) := by decide +kernel
theorem dX5_leastNow_81 : decode cX5_leastNow 81 = .ok (.iconst 1, 1) := by decide +kernel
theorem dX5_leastNow_82 : decode cX5_leastNow 82 = .ok (.iadd, 1) := by decide +kernel
theorem dX5_leastNow_83 : decode cX5_leastNow 83 = .ok (.istore 5, 2) := by decide +kernel
theorem dX5_leastNow_85 : decode cX5_leastNow 85 = .ok (.iload 5, 2) := by decide +kernel
theorem dX5_leastNow_87 : decode cX5_leastNow 87 = .ok (.iconst 4, 1) := by decide +kernel
theorem dX5_leastNow_88 : decode cX5_leastNow 88 = .ok (.if_icmp .ge 56, 3) := by decide +kernel
theorem dX5_leastNow_91 : decode cX5_leastNow 91 = .ok (.aload_n 0, 1) := by decide +kernel
theorem dX5_leastNow_92 : decode cX5_leastNow 92 = .ok (.iload 4, 2) := by decide +kernel
theorem dX5_leastNow_94 : decode cX5_leastNow 94 = .ok (.invokevirtual 141, 3) := by decide +kernel
theorem dX5_leastNow_97 : decode cX5_leastNow 97 = .ok (.ifCond .eq 47, 3) := by decide +kernel
theorem dX5_leastNow_100 : decode cX5_leastNow 100 = .ok (.aload_n 0, 1) := by decide +kernel
theorem dX5_leastNow_101 : decode cX5_leastNow 101 = .ok (.iload 4, 2) := by decide +kernel
theorem dX5_leastNow_103 : decode cX5_leastNow 103 = .ok (.iload 5, 2) := by decide +kernel
theorem dX5_leastNow_105 : decode cX5_leastNow 105 = .ok (.invokevirtual 202, 3) := by decide +kernel
theorem dX5_leastNow_108 : decode cX5_leastNow 108 = .ok (.aload_n 0, 1) := by decide +kernel
theorem dX5_leastNow_109 : decode cX5_leastNow 109 = .ok (.iload 4, 2) := by decide +kernel
theorem dX5_leastNow_111 : decode cX5_leastNow 111 = .ok (.aload_n 0, 1) := by decide +kernel
theorem dX5_leastNow_112 : decode cX5_leastNow 112 = .ok (.getfield 43, 3) := by decide +kernel
theorem dX5_leastNow_115 : decode cX5_leastNow 115 = .ok (.iload 4, 2) := by decide +kernel
theorem dX5_leastNow_117 : decode cX5_leastNow 117 = .ok (.iaload, 1) := by decide +kernel
theorem dX5_leastNow_118 : decode cX5_leastNow 118 = .ok (.invokevirtual 202, 3) := by decide +kernel
theorem dX5_leastNow_121 : decode cX5_leastNow 121 = .ok (.lsub, 1) := by decide +kernel
theorem dX5_leastNow_122 : decode cX5_leastNow 122 = .ok (.lstore 6, 2) := by decide +kernel
theorem dX5_leastNow_124 : decode cX5_leastNow 124 = .ok (.lload 6, 2) := by decide +kernel
theorem dX5_leastNow_126 : decode cX5_leastNow 126 = .ok (.lload_n 2, 1) := by decide +kernel
theorem dX5_leastNow_127 : decode cX5_leastNow 127 = .ok (.lcmp, 1) := by decide +kernel
theorem dX5_leastNow_128 : decode cX5_leastNow 128 = .ok (.ifCond .le 8, 3) := by decide +kernel
theorem dX5_leastNow_131 : decode cX5_leastNow 131 = .ok (.lload 6, 2) := by decide +kernel
theorem dX5_leastNow_133 : decode cX5_leastNow 133 = .ok (.goto 4, 3) := by decide +kernel
theorem dX5_leastNow_136 : decode cX5_leastNow 136 = .ok (.lload_n 2, 1) := by decide +kernel
theorem dX5_leastNow_137 : decode cX5_leastNow 137 = .ok (.lstore_n 2, 1) := by decide +kernel
theorem dX5_leastNow_138 : decode cX5_leastNow 138 = .ok (.iinc 5 1, 3) := by decide +kernel
theorem dX5_leastNow_141 : decode cX5_leastNow 141 = .ok (.goto (-56), 3) := by decide +kernel
theorem dX5_leastNow_144 : decode cX5_leastNow 144 = .ok (.iinc 4 1, 3) := by decide +kernel
theorem dX5_leastNow_147 : decode cX5_leastNow 147 = .ok (.goto (-76), 3) := by decide +kernel
theorem dX5_leastNow_150 : decode cX5_leastNow 150 = .ok (.iconst 0, 1) := by decide +kernel
theorem dX5_leastNow_151 : decode cX5_leastNow 151 = .ok (.istore 4, 2) := by decide +kernel
theorem dX5_leastNow_153 : decode cX5_leastNow 153 = .ok (.iload 4, 2) := by decide +kernel
theorem dX5_leastNow_155 : decode cX5_leastNow 155 = .ok (.sipush 1000, 3) := by decide +kernel
theorem dX5_leastNow_158 : decode cX5_leastNow 158 = .ok (.if_icmp .ge 32, 3) := by decide +kernel
theorem dX5_leastNow_161 : decode cX5_leastNow 161 = .ok (.ldc2_w 197, 3) := by decide +kernel
theorem dX5_leastNow_164 : decode cX5_leastNow 164 = .ok (.iload 4, 2) := by decide +kernel
theorem dX5_leastNow_166 : decode cX5_leastNow 166 = .ok (.i2l, 1) := by decide +kernel
theorem dX5_leastNow_167 : decode cX5_leastNow 167 = .ok (.lmul, 1) := by decide +kernel
theorem dX5_leastNow_168 : decode cX5_leastNow 168 = .ok (.aload_n 0, 1) := by decide +kernel
theorem dX5_leastNow_169 : decode cX5_leastNow 169 = .ok (.getfield 34, 3) := by decide +kernel
theorem dX5_leastNow_172 : decode cX5_leastNow 172 = .ok (.iconst 4, 1) := by decide +kernel
theorem dX5_leastNow_173 : decode cX5_leastNow 173 = .ok (.iaload, 1) := by decide +kernel
theorem dX5_leastNow_174 : decode cX5_leastNow 174 = .ok (.i2l, 1) := by decide +kernel
theorem dX5_leastNow_175 : decode cX5_leastNow 175 = .ok (.lmul, 1) := by decide +kernel
theorem dX5_leastNow_176 : decode cX5_leastNow 176 = .ok (.lload_n 2, 1) := by decide +kernel
theorem dX5_leastNow_177 : decode cX5_leastNow 177 = .ok (.lcmp, 1) := by decide +kernel
theorem dX5_leastNow_178 : decode cX5_leastNow 178 = .ok (.ifCond .lt 6, 3) := by decide +kernel
theorem dX5_leastNow_181 : decode cX5_leastNow 181 = .ok (.iload 4, 2) := by decide +kernel
theorem dX5_leastNow_183 : decode cX5_leastNow 183 = .ok (.ireturn, 1) := by decide +kernel
theorem dX5_leastNow_184 : decode cX5_leastNow 184 = .ok (.iinc 4 1, 3) := by decide +kernel
theorem dX5_leastNow_187 : decode cX5_leastNow 187 = .ok (.goto (-34), 3) := by decide +kernel
theorem dX5_leastNow_190 : decode cX5_leastNow 190 = .ok (.iconst (-1), 1) := by decide +kernel
theorem dX5_leastNow_191 : decode cX5_leastNow 191 = .ok (.ireturn, 1) := by decide +kernel
theorem dX5_leastFine_0 : decode cX5_leastFine 0 = .ok (.aload_n 0, 1) := by decide +kernel
theorem dX5_leastFine_1 : decode cX5_leastFine 1 = .ok (.invokevirtual 263, 3) := by decide +kernel
theorem dX5_leastFine_4 : decode cX5_leastFine 4 = .ok (.ireturn, 1) := by decide +kernel
theorem dX5_bestCap_0 : decode cX5_bestCap 0 = .ok (.iload_n 1, 1) := by decide +kernel
theorem dX5_bestCap_1 : decode cX5_bestCap 1 = .ok (.i2l, 1) := by decide +kernel
theorem dX5_bestCap_2 : decode cX5_bestCap 2 = .ok (.lconst 0, 1) := by decide +kernel
theorem dX5_bestCap_3 : decode cX5_bestCap 3 = .ok (.ldc2_w 75, 3) := by decide +kernel
theorem dX5_bestCap_6 : decode cX5_bestCap 6 = .ok (.invokestatic 61, 3) := by decide +kernel
theorem dX5_bestCap_9 : decode cX5_bestCap 9 = .ok (.ifCond .ne 9, 3) := by decide +kernel
theorem dX5_bestCap_12 : decode cX5_bestCap 12 = .ok (.bipush (-2), 2) := by decide +kernel
theorem dX5_bestCap_14 : decode cX5_bestCap 14 = .ok (.invokestatic 212, 3) := by decide +kernel
theorem dX5_bestCap_17 : decode cX5_bestCap 17 = .ok (.lreturn, 1) := by decide +kernel
theorem dX5_bestCap_18 : decode cX5_bestCap 18 = .ok (.iconst (-1), 1) := by decide +kernel
theorem dX5_bestCap_19 : decode cX5_bestCap 19 = .ok (.istore_n 2, 1) := by decide +kernel
theorem dX5_bestCap_20 : decode cX5_bestCap 20 = .ok (.lconst 0, 1) := by decide +kernel
theorem dX5_bestCap_21 : decode cX5_bestCap 21 = .ok (.lstore_n 3, 1) := by decide +kernel
theorem dX5_bestCap_22 : decode cX5_bestCap 22 = .ok (.iconst 0, 1) := by decide +kernel
theorem dX5_bestCap_23 : decode cX5_bestCap 23 = .ok (.istore 5, 2) := by decide +kernel
theorem dX5_bestCap_25 : decode cX5_bestCap 25 = .ok (.iload 5, 2) := by decide +kernel
theorem dX5_bestCap_27 : decode cX5_bestCap 27 = .ok (.iconst 4, 1) := by decide +kernel
theorem dX5_bestCap_28 : decode cX5_bestCap 28 = .ok (.if_icmp .ge 60, 3) := by decide +kernel
theorem dX5_bestCap_31 : decode cX5_bestCap 31 = .ok (.aload_n 0, 1) := by decide +kernel
theorem dX5_bestCap_32 : decode cX5_bestCap 32 = .ok (.invokevirtual 165, 3) := by decide +kernel
theorem dX5_bestCap_35 : decode cX5_bestCap 35 = .ok (.aload_n 0, 1) := by decide +kernel
theorem dX5_bestCap_36 : decode cX5_bestCap 36 = .ok (.iconst 0, 1) := by decide +kernel
theorem dX5_bestCap_37 : decode cX5_bestCap 37 = .ok (.putfield 155, 3) := by decide +kernel
theorem dX5_bestCap_40 : decode cX5_bestCap 40 = .ok (.aload_n 0, 1) := by decide +kernel
theorem dX5_bestCap_41 : decode cX5_bestCap 41 = .ok (.iload 5, 2) := by decide +kernel
theorem dX5_bestCap_43 : decode cX5_bestCap 43 = .ok (.putfield 159, 3) := by decide +kernel
theorem dX5_bestCap_46 : decode cX5_bestCap 46 = .ok (.aload_n 0, 1) := by decide +kernel
theorem dX5_bestCap_47 : decode cX5_bestCap 47 = .ok (.iconst 0, 1) := by decide +kernel
theorem dX5_bestCap_48 : decode cX5_bestCap 48 = .ok (.invokevirtual 245, 3) := by decide +kernel
theorem dX5_bestCap_51 : decode cX5_bestCap 51 = .ok (.aload_n 0, 1) := by decide +kernel
theorem dX5_bestCap_52 : decode cX5_bestCap 52 = .ok (.invokevirtual 239, 3) := by decide +kernel
theorem dX5_bestCap_55 : decode cX5_bestCap 55 = .ok (.ifCond .eq 27, 3) := by decide +kernel
theorem dX5_bestCap_58 : decode cX5_bestCap 58 = .ok (.aload_n 0, 1) := by decide +kernel
theorem dX5_bestCap_59 : decode cX5_bestCap 59 = .ok (.invokevirtual 220, 3) := by decide +kernel
theorem dX5_bestCap_62 : decode cX5_bestCap 62 = .ok (.lstore 6, 2) := by decide +kernel
theorem dX5_bestCap_64 : decode cX5_bestCap 64 = .ok (.iload_n 2, 1) := by decide +kernel
theorem dX5_bestCap_65 : decode cX5_bestCap 65 = .ok (.iconst (-1), 1) := by decide +kernel
theorem dX5_bestCap_66 : decode cX5_bestCap 66 = .ok (.if_icmp .eq 10, 3) := by decide +kernel
theorem dX5_bestCap_69 : decode cX5_bestCap 69 = .ok (.lload 6, 2) := by decide +kernel
theorem dX5_bestCap_71 : decode cX5_bestCap 71 = .ok (.lload_n 3, 1) := by decide +kernel
theorem dX5_bestCap_72 : decode cX5_bestCap 72 = .ok (.lcmp, 1) := by decide +kernel
theorem dX5_bestCap_73 : decode cX5_bestCap 73 = .ok (.ifCond .le 9, 3) := by decide +kernel
theorem dX5_bestCap_76 : decode cX5_bestCap 76 = .ok (.iload 5, 2) := by decide +kernel
theorem dX5_bestCap_78 : decode cX5_bestCap 78 = .ok (.istore_n 2, 1) := by decide +kernel
theorem dX5_bestCap_79 : decode cX5_bestCap 79 = .ok (.lload 6, 2) := by decide +kernel
theorem dX5_bestCap_81 : decode cX5_bestCap 81 = .ok (.lstore_n 3, 1) := by decide +kernel
theorem dX5_bestCap_82 : decode cX5_bestCap 82 = .ok (.iinc 5 1, 3) := by decide +kernel
theorem dX5_bestCap_85 : decode cX5_bestCap 85 = .ok (.goto (-60), 3) := by decide +kernel
theorem dX5_bestCap_88 : decode cX5_bestCap 88 = .ok (.iload_n 1, 1) := by decide +kernel
theorem dX5_bestCap_89 : decode cX5_bestCap 89 = .ok (.iconst 2, 1) := by decide +kernel
theorem dX5_bestCap_90 : decode cX5_bestCap 90 = .ok (.if_icmp .ne 8, 3) := by decide +kernel
theorem dX5_bestCap_93 : decode cX5_bestCap 93 = .ok (.iload_n 2, 1) := by decide +kernel
theorem dX5_bestCap_94 : decode cX5_bestCap 94 = .ok (.i2l, 1) := by decide +kernel
theorem dX5_bestCap_95 : decode cX5_bestCap 95 = .ok (.goto 24, 3) := by decide +kernel
theorem dX5_bestCap_98 : decode cX5_bestCap 98 = .ok (.iload_n 2, 1) := by decide +kernel
theorem dX5_bestCap_99 : decode cX5_bestCap 99 = .ok (.iconst (-1), 1) := by decide +kernel
theorem dX5_bestCap_100 : decode cX5_bestCap 100 = .ok (.if_icmp .ne 11, 3) := by decide +kernel
theorem dX5_bestCap_103 : decode cX5_bestCap 103 = .ok (.bipush (-3), 2) := by decide +kernel
theorem dX5_bestCap_105 : decode cX5_bestCap 105 = .ok (.invokestatic 212, 3) := by decide +kernel
theorem dX5_bestCap_108 : decode cX5_bestCap 108 = .ok (.goto 11, 3) := by decide +kernel
theorem dX5_bestCap_111 : decode cX5_bestCap 111 = .ok (.lload_n 3, 1) := by decide +kernel
theorem dX5_bestCap_112 : decode cX5_bestCap 112 = .ok (.ldc2_w 195, 3) := by decide +kernel
theorem dX5_bestCap_115 : decode cX5_bestCap 115 = .ok (.iload_n 1, 1) := by decide +kernel
theorem dX5_bestCap_116 : decode cX5_bestCap 116 = .ok (.invokestatic 216, 3) := by decide +kernel
theorem dX5_bestCap_119 : decode cX5_bestCap 119 = .ok (.lreturn, 1) := by decide +kernel
theorem dX5_edge_0 : decode cX5_edge 0 = .ok (.aload_n 0, 1) := by decide +kernel
theorem dX5_edge_1 : decode cX5_edge 1 = .ok (.iload_n 1, 1) := by decide +kernel
theorem dX5_edge_2 : decode cX5_edge 2 = .ok (.invokevirtual 138, 3) := by decide +kernel
theorem dX5_edge_5 : decode cX5_edge 5 = .ok (.ifCond .ne 6, 3) := by decide +kernel
theorem dX5_edge_8 : decode cX5_edge 8 = .ok (.bipush (-2), 2) := by decide +kernel
theorem dX5_edge_10 : decode cX5_edge 10 = .ok (.ireturn, 1) := by decide +kernel
theorem dX5_edge_11 : decode cX5_edge 11 = .ok (.aload_n 0, 1) := by decide +kernel
theorem dX5_edge_12 : decode cX5_edge 12 = .ok (.invokevirtual 165, 3) := by decide +kernel
theorem dX5_edge_15 : decode cX5_edge 15 = .ok (.iconst 0, 1) := by decide +kernel
theorem dX5_edge_16 : decode cX5_edge 16 = .ok (.istore_n 2, 1) := by decide +kernel
theorem dX5_edge_17 : decode cX5_edge 17 = .ok (.iload_n 2, 1) := by decide +kernel
theorem dX5_edge_18 : decode cX5_edge 18 = .ok (.bipush 100, 2) := by decide +kernel
theorem dX5_edge_20 : decode cX5_edge 20 = .ok (.if_icmp .ge 26, 3) := by decide +kernel
theorem dX5_edge_23 : decode cX5_edge 23 = .ok (.aload_n 0, 1) := by decide +kernel
theorem dX5_edge_24 : decode cX5_edge 24 = .ok (.getfield 49, 3) := by decide +kernel
theorem dX5_edge_27 : decode cX5_edge 27 = .ok (.iload_n 1, 1) := by decide +kernel
theorem dX5_edge_28 : decode cX5_edge 28 = .ok (.iload_n 2, 1) := by decide +kernel
theorem dX5_edge_29 : decode cX5_edge 29 = .ok (.iastore, 1) := by decide +kernel
theorem dX5_edge_30 : decode cX5_edge 30 = .ok (.aload_n 0, 1) := by decide +kernel
theorem dX5_edge_31 : decode cX5_edge 31 = .ok (.iload_n 1, 1) := by decide +kernel
theorem dX5_edge_32 : decode cX5_edge 32 = .ok (.invokevirtual 227, 3) := by decide +kernel
theorem dX5_edge_35 : decode cX5_edge 35 = .ok (.ifCond .ne 5, 3) := by decide +kernel
theorem dX5_edge_38 : decode cX5_edge 38 = .ok (.iload_n 2, 1) := by decide +kernel
theorem dX5_edge_39 : decode cX5_edge 39 = .ok (.ireturn, 1) := by decide +kernel
theorem dX5_edge_40 : decode cX5_edge 40 = .ok (.iinc 2 1, 3) := by decide +kernel
theorem dX5_edge_43 : decode cX5_edge 43 = .ok (.goto (-26), 3) := by decide +kernel
theorem dX5_edge_46 : decode cX5_edge 46 = .ok (.iconst (-1), 1) := by decide +kernel
theorem dX5_edge_47 : decode cX5_edge 47 = .ok (.ireturn, 1) := by decide +kernel
theorem dX5_always_0 : decode cX5_always 0 = .ok (.aload_n 0, 1) := by decide +kernel
theorem dX5_always_1 : decode cX5_always 1 = .ok (.iload_n 1, 1) := by decide +kernel
theorem dX5_always_2 : decode cX5_always 2 = .ok (.invokevirtual 138, 3) := by decide +kernel
theorem dX5_always_5 : decode cX5_always 5 = .ok (.ifCond .eq 10, 3) := by decide +kernel
theorem dX5_always_8 : decode cX5_always 8 = .ok (.iload_n 2, 1) := by decide +kernel
theorem dX5_always_9 : decode cX5_always 9 = .ok (.invokestatic 206, 3) := by decide +kernel
theorem dX5_always_12 : decode cX5_always 12 = .ok (.ifCond .ne 9, 3) := by decide +kernel
theorem dX5_always_15 : decode cX5_always 15 = .ok (.bipush (-2), 2) := by decide +kernel
theorem dX5_always_17 : decode cX5_always 17 = .ok (.invokestatic 212, 3) := by decide +kernel
theorem dX5_always_20 : decode cX5_always 20 = .ok (.lreturn, 1) := by decide +kernel
theorem dX5_always_21 : decode cX5_always 21 = .ok (.aload_n 0, 1) := by decide +kernel
theorem dX5_always_22 : decode cX5_always 22 = .ok (.invokevirtual 165, 3) := by decide +kernel
theorem dX5_always_25 : decode cX5_always 25 = .ok (.aload_n 0, 1) := by decide +kernel
theorem dX5_always_26 : decode cX5_always 26 = .ok (.getfield 43, 3) := by decide +kernel
theorem dX5_always_29 : decode cX5_always 29 = .ok (.iload_n 1, 1) := by decide +kernel
theorem dX5_always_30 : decode cX5_always 30 = .ok (.iconst 3, 1) := by decide +kernel
theorem dX5_always_31 : decode cX5_always 31 = .ok (.iastore, 1) := by decide +kernel
theorem dX5_always_32 : decode cX5_always 32 = .ok (.aload_n 0, 1) := by decide +kernel
theorem dX5_always_33 : decode cX5_always 33 = .ok (.iload_n 1, 1) := by decide +kernel
theorem dX5_always_34 : decode cX5_always 34 = .ok (.putfield 162, 3) := by decide +kernel
theorem dX5_always_37 : decode cX5_always 37 = .ok (.aload_n 0, 1) := by decide +kernel
theorem dX5_always_38 : decode cX5_always 38 = .ok (.invokevirtual 239, 3) := by decide +kernel
theorem dX5_always_41 : decode cX5_always 41 = .ok (.ifCond .ne 9, 3) := by decide +kernel
theorem dX5_always_44 : decode cX5_always 44 = .ok (.bipush (-3), 2) := by decide +kernel
theorem dX5_always_46 : decode cX5_always 46 = .ok (.invokestatic 212, 3) := by decide +kernel
theorem dX5_always_49 : decode cX5_always 49 = .ok (.lreturn, 1) := by decide +kernel
theorem dX5_always_50 : decode cX5_always 50 = .ok (.aload_n 0, 1) := by decide +kernel
theorem dX5_always_51 : decode cX5_always 51 = .ok (.invokevirtual 199, 3) := by decide +kernel
theorem dX5_always_54 : decode cX5_always 54 = .ok (.aload_n 0, 1) := by decide +kernel
theorem dX5_always_55 : decode cX5_always 55 = .ok (.getfield 52, 3) := by decide +kernel
theorem dX5_always_58 : decode cX5_always 58 = .ok (.iload_n 1, 1) := by decide +kernel
theorem dX5_always_59 : decode cX5_always 59 = .ok (.laload, 1) := by decide +kernel
theorem dX5_always_60 : decode cX5_always 60 = .ok (.lstore_n 3, 1) := by decide +kernel
theorem dX5_always_61 : decode cX5_always 61 = .ok (.aload_n 0, 1) := by decide +kernel
theorem dX5_always_62 : decode cX5_always 62 = .ok (.invokevirtual 165, 3) := by decide +kernel
theorem dX5_always_65 : decode cX5_always 65 = .ok (.aload_n 0, 1) := by decide +kernel
theorem dX5_always_66 : decode cX5_always 66 = .ok (.invokevirtual 239, 3) := by decide +kernel
theorem dX5_always_69 : decode cX5_always 69 = .ok (.ifCond .ne 9, 3) := by decide +kernel
theorem dX5_always_72 : decode cX5_always 72 = .ok (.bipush (-3), 2) := by decide +kernel
theorem dX5_always_74 : decode cX5_always 74 = .ok (.invokestatic 212, 3) := by decide +kernel
theorem dX5_always_77 : decode cX5_always 77 = .ok (.lreturn, 1) := by decide +kernel
theorem dX5_always_78 : decode cX5_always 78 = .ok (.aload_n 0, 1) := by decide +kernel
theorem dX5_always_79 : decode cX5_always 79 = .ok (.invokevirtual 199, 3) := by decide +kernel
theorem dX5_always_82 : decode cX5_always 82 = .ok (.lload_n 3, 1) := by decide +kernel
theorem dX5_always_83 : decode cX5_always 83 = .ok (.aload_n 0, 1) := by decide +kernel
theorem dX5_always_84 : decode cX5_always 84 = .ok (.getfield 52, 3) := by decide +kernel
theorem dX5_always_87 : decode cX5_always 87 = .ok (.iload_n 1, 1) := by decide +kernel
theorem dX5_always_88 : decode cX5_always 88 = .ok (.laload, 1) := by decide +kernel
theorem dX5_always_89 : decode cX5_always 89 = .ok (.lsub, 1) := by decide +kernel
theorem dX5_always_90 : decode cX5_always 90 = .ok (.ldc2_w 195, 3) := by decide +kernel
theorem dX5_always_93 : decode cX5_always 93 = .ok (.iload_n 2, 1) := by decide +kernel
theorem dX5_always_94 : decode cX5_always 94 = .ok (.invokestatic 216, 3) := by decide +kernel
theorem dX5_always_97 : decode cX5_always 97 = .ok (.lreturn, 1) := by decide +kernel
theorem dX5_turn_0 : decode cX5_turn 0 = .ok (.iload_n 1, 1) := by decide +kernel
theorem dX5_turn_1 : decode cX5_turn 1 = .ok (.i2l, 1) := by decide +kernel
theorem dX5_turn_2 : decode cX5_turn 2 = .ok (.lconst 0, 1) := by decide +kernel
theorem dX5_turn_3 : decode cX5_turn 3 = .ok (.ldc2_w 144, 3) := by decide +kernel
theorem dX5_turn_6 : decode cX5_turn 6 = .ok (.invokestatic 61, 3) := by decide +kernel
theorem dX5_turn_9 : decode cX5_turn 9 = .ok (.ifCond .eq 15, 3) := by decide +kernel
theorem dX5_turn_12 : decode cX5_turn 12 = .ok (.iload_n 2, 1) := by decide +kernel
theorem dX5_turn_13 : decode cX5_turn 13 = .ok (.i2l, 1) := by decide +kernel
theorem dX5_turn_14 : decode cX5_turn 14 = .ok (.lconst 0, 1) := by decide +kernel
theorem dX5_turn_15 : decode cX5_turn 15 = .ok (.ldc2_w 266, 3) := by decide +kernel
theorem dX5_turn_18 : decode cX5_turn 18 = .ok (.invokestatic 61, 3) := by decide +kernel
theorem dX5_turn_21 : decode cX5_turn 21 = .ok (.ifCond .ne 6, 3) := by decide +kernel
theorem dX5_turn_24 : decode cX5_turn 24 = .ok (.bipush (-2), 2) := by decide +kernel
theorem dX5_turn_26 : decode cX5_turn 26 = .ok (.ireturn, 1) := by decide +kernel
theorem dX5_turn_27 : decode cX5_turn 27 = .ok (.aload_n 0, 1) := by decide +kernel
theorem dX5_turn_28 : decode cX5_turn 28 = .ok (.getfield 40, 3) := by decide +kernel
theorem dX5_turn_31 : decode cX5_turn 31 = .ok (.iload_n 1, 1) := by decide +kernel
theorem dX5_turn_32 : decode cX5_turn 32 = .ok (.iaload, 1) := by decide +kernel
theorem dX5_turn_33 : decode cX5_turn 33 = .ok (.istore_n 3, 1) := by decide +kernel
theorem dX5_turn_34 : decode cX5_turn 34 = .ok (.aload_n 0, 1) := by decide +kernel
theorem dX5_turn_35 : decode cX5_turn 35 = .ok (.getfield 40, 3) := by decide +kernel
theorem dX5_turn_38 : decode cX5_turn 38 = .ok (.iload_n 1, 1) := by decide +kernel
theorem dX5_turn_39 : decode cX5_turn 39 = .ok (.iload_n 2, 1) := by decide +kernel
theorem dX5_turn_40 : decode cX5_turn 40 = .ok (.iastore, 1) := by decide +kernel
theorem dX5_turn_41 : decode cX5_turn 41 = .ok (.iload_n 3, 1) := by decide +kernel
theorem dX5_turn_42 : decode cX5_turn 42 = .ok (.ireturn, 1) := by decide +kernel
theorem dX5_layTurn_0 : decode cX5_layTurn 0 = .ok (.aload_n 0, 1) := by decide +kernel
theorem dX5_layTurn_1 : decode cX5_layTurn 1 = .ok (.invokevirtual 165, 3) := by decide +kernel
theorem dX5_layTurn_4 : decode cX5_layTurn 4 = .ok (.iconst 0, 1) := by decide +kernel
theorem dX5_layTurn_5 : decode cX5_layTurn 5 = .ok (.istore_n 2, 1) := by decide +kernel
theorem dX5_layTurn_6 : decode cX5_layTurn 6 = .ok (.iload_n 2, 1) := by decide +kernel
theorem dX5_layTurn_7 : decode cX5_layTurn 7 = .ok (.aload_n 0, 1) := by decide +kernel
theorem dX5_layTurn_8 : decode cX5_layTurn 8 = .ok (.getfield 110, 3) := by decide +kernel
theorem dX5_layTurn_11 : decode cX5_layTurn 11 = .ok (.if_icmp .ge 34, 3) := by decide +kernel
theorem dX5_layTurn_14 : decode cX5_layTurn 14 = .ok (.aload_n 0, 1) := by decide +kernel
theorem dX5_layTurn_15 : decode cX5_layTurn 15 = .ok (.getfield 43, 3) := by decide +kernel
theorem dX5_layTurn_18 : decode cX5_layTurn 18 = .ok (.iload_n 2, 1) := by decide +kernel
theorem dX5_layTurn_19 : decode cX5_layTurn 19 = .ok (.aload_n 0, 1) := by decide +kernel
theorem dX5_layTurn_20 : decode cX5_layTurn 20 = .ok (.getfield 40, 3) := by decide +kernel
theorem dX5_layTurn_23 : decode cX5_layTurn 23 = .ok (.iload_n 1, 1) := by decide +kernel
theorem dX5_layTurn_24 : decode cX5_layTurn 24 = .ok (.iaload, 1) := by decide +kernel
theorem dX5_layTurn_25 : decode cX5_layTurn 25 = .ok (.iload_n 2, 1) := by decide +kernel
theorem dX5_layTurn_26 : decode cX5_layTurn 26 = .ok (.ishr, 1) := by decide +kernel
theorem dX5_layTurn_27 : decode cX5_layTurn 27 = .ok (.iconst 1, 1) := by decide +kernel
theorem dX5_layTurn_28 : decode cX5_layTurn 28 = .ok (.iand, 1) := by decide +kernel
theorem dX5_layTurn_29 : decode cX5_layTurn 29 = .ok (.iconst 1, 1) := by decide +kernel
theorem dX5_layTurn_30 : decode cX5_layTurn 30 = .ok (.if_icmp .ne 7, 3) := by decide +kernel
theorem dX5_layTurn_33 : decode cX5_layTurn 33 = .ok (.iconst 3, 1) := by decide +kernel
theorem dX5_layTurn_34 : decode cX5_layTurn 34 = .ok (.goto 4, 3) := by decide +kernel
theorem dX5_layTurn_37 : decode cX5_layTurn 37 = .ok (.iconst 0, 1) := by decide +kernel
theorem dX5_layTurn_38 : decode cX5_layTurn 38 = .ok (.iastore, 1) := by decide +kernel
theorem dX5_layTurn_39 : decode cX5_layTurn 39 = .ok (.iinc 2 1, 3) := by decide +kernel
theorem dX5_layTurn_42 : decode cX5_layTurn 42 = .ok (.goto (-36), 3) := by decide +kernel
theorem dX5_layTurn_45 : decode cX5_layTurn 45 = .ok (.return_, 1) := by decide +kernel
theorem dX5_keepsOf_0 : decode cX5_keepsOf 0 = .ok (.iconst 0, 1) := by decide +kernel
theorem dX5_keepsOf_1 : decode cX5_keepsOf 1 = .ok (.istore_n 2, 1) := by decide +kernel
theorem dX5_keepsOf_2 : decode cX5_keepsOf 2 = .ok (.iload_n 2, 1) := by decide +kernel
theorem dX5_keepsOf_3 : decode cX5_keepsOf 3 = .ok (.bipush 6, 2) := by decide +kernel
theorem dX5_keepsOf_5 : decode cX5_keepsOf 5 = .ok (.if_icmp .ge 65, 3) := by decide +kernel
theorem dX5_keepsOf_8 : decode cX5_keepsOf 8 = .ok (.aload_n 0, 1) := by decide +kernel
theorem dX5_keepsOf_9 : decode cX5_keepsOf 9 = .ok (.iload_n 2, 1) := by decide +kernel
theorem dX5_keepsOf_10 : decode cX5_keepsOf 10 = .ok (.invokevirtual 268, 3) := by decide +kernel
theorem dX5_keepsOf_13 : decode cX5_keepsOf 13 = .ok (.iconst 0, 1) := by decide +kernel
theorem dX5_keepsOf_14 : decode cX5_keepsOf 14 = .ok (.istore_n 3, 1) := by decide +kernel
theorem dX5_keepsOf_15 : decode cX5_keepsOf 15 = .ok (.iload_n 3, 1) := by decide +kernel
theorem dX5_keepsOf_16 : decode cX5_keepsOf 16 = .ok (.aload_n 0, 1) := by decide +kernel
theorem dX5_keepsOf_17 : decode cX5_keepsOf 17 = .ok (.getfield 110, 3) := by decide +kernel
theorem dX5_keepsOf_20 : decode cX5_keepsOf 20 = .ok (.if_icmp .ge 44, 3) := by decide +kernel
theorem dX5_keepsOf_23 : decode cX5_keepsOf 23 = .ok (.aload_n 0, 1) := by decide +kernel
theorem dX5_keepsOf_24 : decode cX5_keepsOf 24 = .ok (.iload_n 3, 1) := by decide +kernel
theorem dX5_keepsOf_25 : decode cX5_keepsOf 25 = .ok (.aload_n 0, 1) := by decide +kernel
theorem dX5_keepsOf_26 : decode cX5_keepsOf 26 = .ok (.iload_n 3, 1) := by decide +kernel
theorem dX5_keepsOf_27 : decode cX5_keepsOf 27 = .ok (.invokevirtual 227, 3) := by decide +kernel
theorem dX5_keepsOf_30 : decode cX5_keepsOf 30 = .ok (.invokevirtual 202, 3) := by decide +kernel
theorem dX5_keepsOf_33 : decode cX5_keepsOf 33 = .ok (.aload_n 0, 1) := by decide +kernel
theorem dX5_keepsOf_34 : decode cX5_keepsOf 34 = .ok (.iload_n 3, 1) := by decide +kernel
theorem dX5_keepsOf_35 : decode cX5_keepsOf 35 = .ok (.aload_n 0, 1) := by decide +kernel
theorem dX5_keepsOf_36 : decode cX5_keepsOf 36 = .ok (.getfield 43, 3) := by decide +kernel
theorem dX5_keepsOf_39 : decode cX5_keepsOf 39 = .ok (.iload_n 3, 1) := by decide +kernel
theorem dX5_keepsOf_40 : decode cX5_keepsOf 40 = .ok (.iaload, 1) := by decide +kernel
theorem dX5_keepsOf_41 : decode cX5_keepsOf 41 = .ok (.invokevirtual 202, 3) := by decide +kernel
theorem dX5_keepsOf_44 : decode cX5_keepsOf 44 = .ok (.lcmp, 1) := by decide +kernel
theorem dX5_keepsOf_45 : decode cX5_keepsOf 45 = .ok (.ifCond .le 13, 3) := by decide +kernel
theorem dX5_keepsOf_48 : decode cX5_keepsOf 48 = .ok (.iload_n 1, 1) := by decide +kernel
theorem dX5_keepsOf_49 : decode cX5_keepsOf 49 = .ok (.ifCond .ne 7, 3) := by decide +kernel
theorem dX5_keepsOf_52 : decode cX5_keepsOf 52 = .ok (.iload_n 2, 1) := by decide +kernel
theorem dX5_keepsOf_53 : decode cX5_keepsOf 53 = .ok (.goto 4, 3) := by decide +kernel
theorem dX5_keepsOf_56 : decode cX5_keepsOf 56 = .ok (.iload_n 3, 1) := by decide +kernel
theorem dX5_keepsOf_57 : decode cX5_keepsOf 57 = .ok (.ireturn, 1) := by decide +kernel
theorem dX5_keepsOf_58 : decode cX5_keepsOf 58 = .ok (.iinc 3 1, 3) := by decide +kernel
theorem dX5_keepsOf_61 : decode cX5_keepsOf 61 = .ok (.goto (-46), 3) := by decide +kernel
theorem dX5_keepsOf_64 : decode cX5_keepsOf 64 = .ok (.iinc 2 1, 3) := by decide +kernel
theorem dX5_keepsOf_67 : decode cX5_keepsOf 67 = .ok (.goto (-65), 3) := by decide +kernel
theorem dX5_keepsOf_70 : decode cX5_keepsOf 70 = .ok (.iconst (-1), 1) := by decide +kernel
theorem dX5_keepsOf_71 : decode cX5_keepsOf 71 = .ok (.ireturn, 1) := by decide +kernel
theorem dX5_keeps_0 : decode cX5_keeps 0 = .ok (.iload_n 1, 1) := by decide +kernel
theorem dX5_keeps_1 : decode cX5_keeps 1 = .ok (.invokestatic 206, 3) := by decide +kernel
theorem dX5_keeps_4 : decode cX5_keeps 4 = .ok (.ifCond .eq 11, 3) := by decide +kernel
theorem dX5_keeps_7 : decode cX5_keeps 7 = .ok (.aload_n 0, 1) := by decide +kernel
theorem dX5_keeps_8 : decode cX5_keeps 8 = .ok (.iload_n 1, 1) := by decide +kernel
theorem dX5_keeps_9 : decode cX5_keeps 9 = .ok (.invokevirtual 271, 3) := by decide +kernel
theorem dX5_keeps_12 : decode cX5_keeps 12 = .ok (.goto 5, 3) := by decide +kernel
theorem dX5_keeps_15 : decode cX5_keeps 15 = .ok (.bipush (-2), 2) := by decide +kernel
theorem dX5_keeps_17 : decode cX5_keeps 17 = .ok (.ireturn, 1) := by decide +kernel
theorem dX5_week_0 : decode cX5_week 0 = .ok (.aload_n 0, 1) := by decide +kernel
theorem dX5_week_1 : decode cX5_week 1 = .ok (.iload_n 1, 1) := by decide +kernel
theorem dX5_week_2 : decode cX5_week 2 = .ok (.invokevirtual 138, 3) := by decide +kernel
theorem dX5_week_5 : decode cX5_week 5 = .ok (.ifCond .eq 10, 3) := by decide +kernel
theorem dX5_week_8 : decode cX5_week 8 = .ok (.iload_n 2, 1) := by decide +kernel
theorem dX5_week_9 : decode cX5_week 9 = .ok (.invokestatic 206, 3) := by decide +kernel
theorem dX5_week_12 : decode cX5_week 12 = .ok (.ifCond .ne 9, 3) := by decide +kernel
theorem dX5_week_15 : decode cX5_week 15 = .ok (.bipush (-2), 2) := by decide +kernel
theorem dX5_week_17 : decode cX5_week 17 = .ok (.invokestatic 212, 3) := by decide +kernel
theorem dX5_week_20 : decode cX5_week 20 = .ok (.lreturn, 1) := by decide +kernel
theorem dX5_week_21 : decode cX5_week 21 = .ok (.lconst 0, 1) := by decide +kernel
theorem dX5_week_22 : decode cX5_week 22 = .ok (.lstore_n 3, 1) := by decide +kernel
theorem dX5_week_23 : decode cX5_week 23 = .ok (.iconst 0, 1) := by decide +kernel
theorem dX5_week_24 : decode cX5_week 24 = .ok (.istore 5, 2) := by decide +kernel
theorem dX5_week_26 : decode cX5_week 26 = .ok (.iload 5, 2) := by decide +kernel
theorem dX5_week_28 : decode cX5_week 28 = .ok (.bipush 6, 2) := by decide +kernel
theorem dX5_week_30 : decode cX5_week 30 = .ok (.if_icmp .ge 28, 3) := by decide +kernel
theorem dX5_week_33 : decode cX5_week 33 = .ok (.aload_n 0, 1) := by decide +kernel
theorem dX5_week_34 : decode cX5_week 34 = .ok (.iload 5, 2) := by decide +kernel
theorem dX5_week_36 : decode cX5_week 36 = .ok (.invokevirtual 268, 3) := by decide +kernel
theorem dX5_week_39 : decode cX5_week 39 = .ok (.aload_n 0, 1) := by decide +kernel
theorem dX5_week_40 : decode cX5_week 40 = .ok (.invokevirtual 199, 3) := by decide +kernel
theorem dX5_week_43 : decode cX5_week 43 = .ok (.lload_n 3, 1) := by decide +kernel
theorem dX5_week_44 : decode cX5_week 44 = .ok (.aload_n 0, 1) := by decide +kernel
theorem dX5_week_45 : decode cX5_week 45 = .ok (.getfield 52, 3) := by decide +kernel
theorem dX5_week_48 : decode cX5_week 48 = .ok (.iload_n 1, 1) := by decide +kernel
theorem dX5_week_49 : decode cX5_week 49 = .ok (.laload, 1) := by decide +kernel
theorem dX5_week_50 : decode cX5_week 50 = .ok (.ladd, 1) := by decide +kernel
theorem dX5_week_51 : decode cX5_week 51 = .ok (.lstore_n 3, 1) := by decide +kernel
theorem dX5_week_52 : decode cX5_week 52 = .ok (.iinc 5 1, 3) := by decide +kernel
theorem dX5_week_55 : decode cX5_week 55 = .ok (.goto (-29), 3) := by decide +kernel
theorem dX5_week_58 : decode cX5_week 58 = .ok (.lload_n 3, 1) := by decide +kernel
theorem dX5_week_59 : decode cX5_week 59 = .ok (.ldc2_w 195, 3) := by decide +kernel
theorem dX5_week_62 : decode cX5_week 62 = .ok (.iload_n 2, 1) := by decide +kernel
theorem dX5_week_63 : decode cX5_week 63 = .ok (.invokestatic 216, 3) := by decide +kernel
theorem dX5_week_66 : decode cX5_week 66 = .ok (.lreturn, 1) := by decide +kernel
theorem dX5_weekGoes_0 : decode cX5_weekGoes 0 = .ok (.iconst 0, 1) := by decide +kernel
theorem dX5_weekGoes_1 : decode cX5_weekGoes 1 = .ok (.istore_n 1, 1) := by decide +kernel
theorem dX5_weekGoes_2 : decode cX5_weekGoes 2 = .ok (.iload_n 1, 1) := by decide +kernel
theorem dX5_weekGoes_3 : decode cX5_weekGoes 3 = .ok (.iconst 5, 1) := by decide +kernel
theorem dX5_weekGoes_4 : decode cX5_weekGoes 4 = .ok (.if_icmp .ge 21, 3) := by decide +kernel
theorem dX5_weekGoes_7 : decode cX5_weekGoes 7 = .ok (.aload_n 0, 1) := by decide +kernel
theorem dX5_weekGoes_8 : decode cX5_weekGoes 8 = .ok (.getfield 56, 3) := by decide +kernel
theorem dX5_weekGoes_11 : decode cX5_weekGoes 11 = .ok (.iload_n 1, 1) := by decide +kernel
theorem dX5_weekGoes_12 : decode cX5_weekGoes 12 = .ok (.aload_n 0, 1) := by decide +kernel
theorem dX5_weekGoes_13 : decode cX5_weekGoes 13 = .ok (.getfield 43, 3) := by decide +kernel
theorem dX5_weekGoes_16 : decode cX5_weekGoes 16 = .ok (.iload_n 1, 1) := by decide +kernel
theorem dX5_weekGoes_17 : decode cX5_weekGoes 17 = .ok (.iaload, 1) := by decide +kernel
theorem dX5_weekGoes_18 : decode cX5_weekGoes 18 = .ok (.iastore, 1) := by decide +kernel
theorem dX5_weekGoes_19 : decode cX5_weekGoes 19 = .ok (.iinc 1 1, 3) := by decide +kernel
theorem dX5_weekGoes_22 : decode cX5_weekGoes 22 = .ok (.goto (-20), 3) := by decide +kernel
theorem dX5_weekGoes_25 : decode cX5_weekGoes 25 = .ok (.aload_n 0, 1) := by decide +kernel
theorem dX5_weekGoes_26 : decode cX5_weekGoes 26 = .ok (.invokevirtual 239, 3) := by decide +kernel
theorem dX5_weekGoes_29 : decode cX5_weekGoes 29 = .ok (.ifCond .ne 28, 3) := by decide +kernel
theorem dX5_weekGoes_32 : decode cX5_weekGoes 32 = .ok (.iconst 0, 1) := by decide +kernel
theorem dX5_weekGoes_33 : decode cX5_weekGoes 33 = .ok (.istore_n 1, 1) := by decide +kernel
theorem dX5_weekGoes_34 : decode cX5_weekGoes 34 = .ok (.iload_n 1, 1) := by decide +kernel
theorem dX5_weekGoes_35 : decode cX5_weekGoes 35 = .ok (.iconst 5, 1) := by decide +kernel
theorem dX5_weekGoes_36 : decode cX5_weekGoes 36 = .ok (.if_icmp .ge 21, 3) := by decide +kernel
theorem dX5_weekGoes_39 : decode cX5_weekGoes 39 = .ok (.aload_n 0, 1) := by decide +kernel
theorem dX5_weekGoes_40 : decode cX5_weekGoes 40 = .ok (.getfield 43, 3) := by decide +kernel
theorem dX5_weekGoes_43 : decode cX5_weekGoes 43 = .ok (.iload_n 1, 1) := by decide +kernel
theorem dX5_weekGoes_44 : decode cX5_weekGoes 44 = .ok (.aload_n 0, 1) := by decide +kernel
theorem dX5_weekGoes_45 : decode cX5_weekGoes 45 = .ok (.getfield 56, 3) := by decide +kernel
theorem dX5_weekGoes_48 : decode cX5_weekGoes 48 = .ok (.iload_n 1, 1) := by decide +kernel
theorem dX5_weekGoes_49 : decode cX5_weekGoes 49 = .ok (.iaload, 1) := by decide +kernel
theorem dX5_weekGoes_50 : decode cX5_weekGoes 50 = .ok (.iastore, 1) := by decide +kernel
theorem dX5_weekGoes_51 : decode cX5_weekGoes 51 = .ok (.iinc 1 1, 3) := by decide +kernel
theorem dX5_weekGoes_54 : decode cX5_weekGoes 54 = .ok (.goto (-20), 3) := by decide +kernel
theorem dX5_weekGoes_57 : decode cX5_weekGoes 57 = .ok (.iconst 1, 1) := by decide +kernel
theorem dX5_weekGoes_58 : decode cX5_weekGoes 58 = .ok (.istore_n 1, 1) := by decide +kernel
theorem dX5_weekGoes_59 : decode cX5_weekGoes 59 = .ok (.iload_n 1, 1) := by decide +kernel
theorem dX5_weekGoes_60 : decode cX5_weekGoes 60 = .ok (.iconst 4, 1) := by decide +kernel
theorem dX5_weekGoes_61 : decode cX5_weekGoes 61 = .ok (.if_icmp .ge 56, 3) := by decide +kernel
theorem dX5_weekGoes_64 : decode cX5_weekGoes 64 = .ok (.aload_n 0, 1) := by decide +kernel
theorem dX5_weekGoes_65 : decode cX5_weekGoes 65 = .ok (.getfield 46, 3) := by decide +kernel
theorem dX5_weekGoes_68 : decode cX5_weekGoes 68 = .ok (.iload_n 1, 1) := by decide +kernel
theorem dX5_weekGoes_69 : decode cX5_weekGoes 69 = .ok (.iaload, 1) := by decide +kernel
theorem dX5_weekGoes_70 : decode cX5_weekGoes 70 = .ok (.aload_n 0, 1) := by decide +kernel
theorem dX5_weekGoes_71 : decode cX5_weekGoes 71 = .ok (.iload_n 1, 1) := by decide +kernel
theorem dX5_weekGoes_72 : decode cX5_weekGoes 72 = .ok (.invokevirtual 168, 3) := by decide +kernel
theorem dX5_weekGoes_75 : decode cX5_weekGoes 75 = .ok (.ifCond .eq 7, 3) := by decide +kernel
theorem dX5_weekGoes_78 : decode cX5_weekGoes 78 = .ok (.iconst 1, 1) := by decide +kernel
theorem dX5_weekGoes_79 : decode cX5_weekGoes 79 = .ok (.goto 4, 3) := by decide +kernel
theorem dX5_weekGoes_82 : decode cX5_weekGoes 82 = .ok (.iconst (-1), 1) := by decide +kernel
theorem dX5_weekGoes_83 : decode cX5_weekGoes 83 = .ok (.iadd, 1) := by decide +kernel
theorem dX5_weekGoes_84 : decode cX5_weekGoes 84 = .ok (.istore_n 2, 1) := by decide +kernel
theorem dX5_weekGoes_85 : decode cX5_weekGoes 85 = .ok (.aload_n 0, 1) := by decide +kernel
theorem dX5_weekGoes_86 : decode cX5_weekGoes 86 = .ok (.getfield 46, 3) := by decide +kernel
theorem dX5_weekGoes_89 : decode cX5_weekGoes 89 = .ok (.iload_n 1, 1) := by decide +kernel
theorem dX5_weekGoes_90 : decode cX5_weekGoes 90 = .ok (.iload_n 2, 1) := by decide +kernel
theorem dX5_weekGoes_91 : decode cX5_weekGoes 91 = .ok (.ifCond .ge 7, 3) := by decide +kernel
theorem dX5_weekGoes_94 : decode cX5_weekGoes 94 = .ok (.iconst 0, 1) := by decide +kernel
theorem dX5_weekGoes_95 : decode cX5_weekGoes 95 = .ok (.goto 15, 3) := by decide +kernel
theorem dX5_weekGoes_98 : decode cX5_weekGoes 98 = .ok (.iload_n 2, 1) := by decide +kernel
theorem dX5_weekGoes_99 : decode cX5_weekGoes 99 = .ok (.bipush 8, 2) := by decide +kernel
theorem dX5_weekGoes_101 : decode cX5_weekGoes 101 = .ok (.if_icmp .le 8, 3) := by decide +kernel
theorem dX5_weekGoes_104 : decode cX5_weekGoes 104 = .ok (.bipush 8, 2) := by decide +kernel
theorem dX5_weekGoes_106 : decode cX5_weekGoes 106 = .ok (.goto 4, 3) := by decide +kernel
theorem dX5_weekGoes_109 : decode cX5_weekGoes 109 = .ok (.iload_n 2, 1) := by decide +kernel
theorem dX5_weekGoes_110 : decode cX5_weekGoes 110 = .ok (.iastore, 1) := by decide +kernel
theorem dX5_weekGoes_111 : decode cX5_weekGoes 111 = .ok (.iinc 1 1, 3) := by decide +kernel
theorem dX5_weekGoes_114 : decode cX5_weekGoes 114 = .ok (.goto (-55), 3) := by decide +kernel
theorem dX5_weekGoes_117 : decode cX5_weekGoes 117 = .ok (.return_, 1) := by decide +kernel
theorem dX5_weeksOf_0 : decode cX5_weeksOf 0 = .ok (.aload_n 0, 1) := by decide +kernel
theorem dX5_weeksOf_1 : decode cX5_weeksOf 1 = .ok (.invokevirtual 165, 3) := by decide +kernel
theorem dX5_weeksOf_4 : decode cX5_weeksOf 4 = .ok (.iconst 0, 1) := by decide +kernel
theorem dX5_weeksOf_5 : decode cX5_weeksOf 5 = .ok (.istore_n 3, 1) := by decide +kernel
theorem dX5_weeksOf_6 : decode cX5_weeksOf 6 = .ok (.iload_n 3, 1) := by decide +kernel
theorem dX5_weeksOf_7 : decode cX5_weeksOf 7 = .ok (.iload_n 1, 1) := by decide +kernel
theorem dX5_weeksOf_8 : decode cX5_weeksOf 8 = .ok (.if_icmp .ge 13, 3) := by decide +kernel
theorem dX5_weeksOf_11 : decode cX5_weeksOf 11 = .ok (.aload_n 0, 1) := by decide +kernel
theorem dX5_weeksOf_12 : decode cX5_weeksOf 12 = .ok (.invokevirtual 274, 3) := by decide +kernel
theorem dX5_weeksOf_15 : decode cX5_weeksOf 15 = .ok (.iinc 3 1, 3) := by decide +kernel
theorem dX5_weeksOf_18 : decode cX5_weeksOf 18 = .ok (.goto (-12), 3) := by decide +kernel
theorem dX5_weeksOf_21 : decode cX5_weeksOf 21 = .ok (.iload_n 2, 1) := by decide +kernel
theorem dX5_weeksOf_22 : decode cX5_weeksOf 22 = .ok (.iconst 5, 1) := by decide +kernel
theorem dX5_weeksOf_23 : decode cX5_weeksOf 23 = .ok (.if_icmp .ge 12, 3) := by decide +kernel
theorem dX5_weeksOf_26 : decode cX5_weeksOf 26 = .ok (.aload_n 0, 1) := by decide +kernel
theorem dX5_weeksOf_27 : decode cX5_weeksOf 27 = .ok (.getfield 43, 3) := by decide +kernel
theorem dX5_weeksOf_30 : decode cX5_weeksOf 30 = .ok (.iload_n 2, 1) := by decide +kernel
theorem dX5_weeksOf_31 : decode cX5_weeksOf 31 = .ok (.iaload, 1) := by decide +kernel
theorem dX5_weeksOf_32 : decode cX5_weeksOf 32 = .ok (.goto 11, 3) := by decide +kernel
theorem dX5_weeksOf_35 : decode cX5_weeksOf 35 = .ok (.aload_n 0, 1) := by decide +kernel
theorem dX5_weeksOf_36 : decode cX5_weeksOf 36 = .ok (.getfield 46, 3) := by decide +kernel
theorem dX5_weeksOf_39 : decode cX5_weeksOf 39 = .ok (.iload_n 2, 1) := by decide +kernel
theorem dX5_weeksOf_40 : decode cX5_weeksOf 40 = .ok (.iconst 4, 1) := by decide +kernel
theorem dX5_weeksOf_41 : decode cX5_weeksOf 41 = .ok (.isub, 1) := by decide +kernel
theorem dX5_weeksOf_42 : decode cX5_weeksOf 42 = .ok (.iaload, 1) := by decide +kernel
theorem dX5_weeksOf_43 : decode cX5_weeksOf 43 = .ok (.ireturn, 1) := by decide +kernel
theorem dX5_weeks_0 : decode cX5_weeks 0 = .ok (.iload_n 1, 1) := by decide +kernel
theorem dX5_weeks_1 : decode cX5_weeks 1 = .ok (.i2l, 1) := by decide +kernel
theorem dX5_weeks_2 : decode cX5_weeks 2 = .ok (.lconst 0, 1) := by decide +kernel
theorem dX5_weeks_3 : decode cX5_weeks 3 = .ok (.ldc2_w 277, 3) := by decide +kernel
theorem dX5_weeks_6 : decode cX5_weeks 6 = .ok (.invokestatic 61, 3) := by decide +kernel
theorem dX5_weeks_9 : decode cX5_weeks 9 = .ok (.ifCond .eq 24, 3) := by decide +kernel
theorem dX5_weeks_12 : decode cX5_weeks 12 = .ok (.iload_n 2, 1) := by decide +kernel
theorem dX5_weeks_13 : decode cX5_weeks 13 = .ok (.i2l, 1) := by decide +kernel
theorem dX5_weeks_14 : decode cX5_weeks 14 = .ok (.lconst 0, 1) := by decide +kernel
theorem dX5_weeks_15 : decode cX5_weeks 15 = .ok (.ldc2_w 146, 3) := by decide +kernel
theorem dX5_weeks_18 : decode cX5_weeks 18 = .ok (.invokestatic 61, 3) := by decide +kernel
theorem dX5_weeks_21 : decode cX5_weeks 21 = .ok (.ifCond .eq 12, 3) := by decide +kernel
theorem dX5_weeks_24 : decode cX5_weeks 24 = .ok (.aload_n 0, 1) := by decide +kernel
theorem dX5_weeks_25 : decode cX5_weeks 25 = .ok (.iload_n 1, 1) := by decide +kernel
theorem dX5_weeks_26 : decode cX5_weeks 26 = .ok (.iload_n 2, 1) := by decide +kernel
theorem dX5_weeks_27 : decode cX5_weeks 27 = .ok (.invokevirtual 279, 3) := by decide +kernel
theorem dX5_weeks_30 : decode cX5_weeks 30 = .ok (.goto 5, 3) := by decide +kernel
theorem dX5_weeks_33 : decode cX5_weeks 33 = .ok (.bipush (-2), 2) := by decide +kernel
theorem dX5_weeks_35 : decode cX5_weeks 35 = .ok (.ireturn, 1) := by decide +kernel
theorem dX5_isNoWayBack_0 : decode cX5_isNoWayBack 0 = .ok (.iconst 0, 1) := by decide +kernel
theorem dX5_isNoWayBack_1 : decode cX5_isNoWayBack 1 = .ok (.istore_n 1, 1) := by decide +kernel
theorem dX5_isNoWayBack_2 : decode cX5_isNoWayBack 2 = .ok (.iload_n 1, 1) := by decide +kernel
theorem dX5_isNoWayBack_3 : decode cX5_isNoWayBack 3 = .ok (.iconst 5, 1) := by decide +kernel
theorem dX5_isNoWayBack_4 : decode cX5_isNoWayBack 4 = .ok (.if_icmp .ge 21, 3) := by decide +kernel
theorem dX5_isNoWayBack_7 : decode cX5_isNoWayBack 7 = .ok (.aload_n 0, 1) := by decide +kernel
theorem dX5_isNoWayBack_8 : decode cX5_isNoWayBack 8 = .ok (.getfield 56, 3) := by decide +kernel
theorem dX5_isNoWayBack_11 : decode cX5_isNoWayBack 11 = .ok (.iload_n 1, 1) := by decide +kernel
theorem dX5_isNoWayBack_12 : decode cX5_isNoWayBack 12 = .ok (.aload_n 0, 1) := by decide +kernel
theorem dX5_isNoWayBack_13 : decode cX5_isNoWayBack 13 = .ok (.getfield 43, 3) := by decide +kernel
theorem dX5_isNoWayBack_16 : decode cX5_isNoWayBack 16 = .ok (.iload_n 1, 1) := by decide +kernel
theorem dX5_isNoWayBack_17 : decode cX5_isNoWayBack 17 = .ok (.iaload, 1) := by decide +kernel
theorem dX5_isNoWayBack_18 : decode cX5_isNoWayBack 18 = .ok (.iastore, 1) := by decide +kernel
theorem dX5_isNoWayBack_19 : decode cX5_isNoWayBack 19 = .ok (.iinc 1 1, 3) := by decide +kernel
theorem dX5_isNoWayBack_22 : decode cX5_isNoWayBack 22 = .ok (.goto (-20), 3) := by decide +kernel
theorem dX5_isNoWayBack_25 : decode cX5_isNoWayBack 25 = .ok (.aload_n 0, 1) := by decide +kernel
theorem dX5_isNoWayBack_26 : decode cX5_isNoWayBack 26 = .ok (.iconst 0, 1) := by decide +kernel
theorem dX5_isNoWayBack_27 : decode cX5_isNoWayBack 27 = .ok (.invokevirtual 245, 3) := by decide +kernel
theorem dX5_isNoWayBack_30 : decode cX5_isNoWayBack 30 = .ok (.aload_n 0, 1) := by decide +kernel
theorem dX5_isNoWayBack_31 : decode cX5_isNoWayBack 31 = .ok (.invokevirtual 248, 3) := by decide +kernel
theorem dX5_isNoWayBack_34 : decode cX5_isNoWayBack 34 = .ok (.istore_n 1, 1) := by decide +kernel
theorem dX5_isNoWayBack_35 : decode cX5_isNoWayBack 35 = .ok (.iconst 0, 1) := by decide +kernel
theorem dX5_isNoWayBack_36 : decode cX5_isNoWayBack 36 = .ok (.istore_n 2, 1) := by decide +kernel
theorem dX5_isNoWayBack_37 : decode cX5_isNoWayBack 37 = .ok (.iload_n 2, 1) := by decide +kernel
theorem dX5_isNoWayBack_38 : decode cX5_isNoWayBack 38 = .ok (.iconst 5, 1) := by decide +kernel
theorem dX5_isNoWayBack_39 : decode cX5_isNoWayBack 39 = .ok (.if_icmp .ge 21, 3) := by decide +kernel
theorem dX5_isNoWayBack_42 : decode cX5_isNoWayBack 42 = .ok (.aload_n 0, 1) := by decide +kernel
theorem dX5_isNoWayBack_43 : decode cX5_isNoWayBack 43 = .ok (.getfield 43, 3) := by decide +kernel
theorem dX5_isNoWayBack_46 : decode cX5_isNoWayBack 46 = .ok (.iload_n 2, 1) := by decide +kernel
theorem dX5_isNoWayBack_47 : decode cX5_isNoWayBack 47 = .ok (.aload_n 0, 1) := by decide +kernel
theorem dX5_isNoWayBack_48 : decode cX5_isNoWayBack 48 = .ok (.getfield 56, 3) := by decide +kernel
theorem dX5_isNoWayBack_51 : decode cX5_isNoWayBack 51 = .ok (.iload_n 2, 1) := by decide +kernel
theorem dX5_isNoWayBack_52 : decode cX5_isNoWayBack 52 = .ok (.iaload, 1) := by decide +kernel
theorem dX5_isNoWayBack_53 : decode cX5_isNoWayBack 53 = .ok (.iastore, 1) := by decide +kernel
theorem dX5_isNoWayBack_54 : decode cX5_isNoWayBack 54 = .ok (.iinc 2 1, 3) := by decide +kernel
theorem dX5_isNoWayBack_57 : decode cX5_isNoWayBack 57 = .ok (.goto (-20), 3) := by decide +kernel
theorem dX5_isNoWayBack_60 : decode cX5_isNoWayBack 60 = .ok (.iload_n 1, 1) := by decide +kernel
theorem dX5_isNoWayBack_61 : decode cX5_isNoWayBack 61 = .ok (.ifCond .ne 7, 3) := by decide +kernel
theorem dX5_isNoWayBack_64 : decode cX5_isNoWayBack 64 = .ok (.iconst 1, 1) := by decide +kernel
theorem dX5_isNoWayBack_65 : decode cX5_isNoWayBack 65 = .ok (.goto 4, 3) := by decide +kernel
theorem dX5_isNoWayBack_68 : decode cX5_isNoWayBack 68 = .ok (.iconst 0, 1) := by decide +kernel
theorem dX5_isNoWayBack_69 : decode cX5_isNoWayBack 69 = .ok (.ireturn, 1) := by decide +kernel
theorem dX5_backNow_0 : decode cX5_backNow 0 = .ok (.aload_n 0, 1) := by decide +kernel
theorem dX5_backNow_1 : decode cX5_backNow 1 = .ok (.invokevirtual 165, 3) := by decide +kernel
theorem dX5_backNow_4 : decode cX5_backNow 4 = .ok (.iconst 0, 1) := by decide +kernel
theorem dX5_backNow_5 : decode cX5_backNow 5 = .ok (.istore_n 1, 1) := by decide +kernel
theorem dX5_backNow_6 : decode cX5_backNow 6 = .ok (.iload_n 1, 1) := by decide +kernel
theorem dX5_backNow_7 : decode cX5_backNow 7 = .ok (.bipush 50, 2) := by decide +kernel
theorem dX5_backNow_9 : decode cX5_backNow 9 = .ok (.if_icmp .gt 22, 3) := by decide +kernel
theorem dX5_backNow_12 : decode cX5_backNow 12 = .ok (.aload_n 0, 1) := by decide +kernel
theorem dX5_backNow_13 : decode cX5_backNow 13 = .ok (.invokevirtual 282, 3) := by decide +kernel
theorem dX5_backNow_16 : decode cX5_backNow 16 = .ok (.ifCond .eq 5, 3) := by decide +kernel
theorem dX5_backNow_19 : decode cX5_backNow 19 = .ok (.iload_n 1, 1) := by decide +kernel
theorem dX5_backNow_20 : decode cX5_backNow 20 = .ok (.ireturn, 1) := by decide +kernel
theorem dX5_backNow_21 : decode cX5_backNow 21 = .ok (.aload_n 0, 1) := by decide +kernel
theorem dX5_backNow_22 : decode cX5_backNow 22 = .ok (.invokevirtual 274, 3) := by decide +kernel
theorem dX5_backNow_25 : decode cX5_backNow 25 = .ok (.iinc 1 1, 3) := by decide +kernel
theorem dX5_backNow_28 : decode cX5_backNow 28 = .ok (.goto (-22), 3) := by decide +kernel
theorem dX5_backNow_31 : decode cX5_backNow 31 = .ok (.iconst (-1), 1) := by decide +kernel
theorem dX5_backNow_32 : decode cX5_backNow 32 = .ok (.ireturn, 1) := by decide +kernel
theorem dX5_back_0 : decode cX5_back 0 = .ok (.aload_n 0, 1) := by decide +kernel
theorem dX5_back_1 : decode cX5_back 1 = .ok (.invokevirtual 285, 3) := by decide +kernel
theorem dX5_back_4 : decode cX5_back 4 = .ok (.ireturn, 1) := by decide +kernel
theorem dX5_write_0 : decode cX5_write 0 = .ok (.iload_n 1, 1) := by decide +kernel
theorem dX5_write_1 : decode cX5_write 1 = .ok (.invokestatic 71, 3) := by decide +kernel
theorem dX5_write_4 : decode cX5_write 4 = .ok (.ifCond .ne 6, 3) := by decide +kernel
theorem dX5_write_7 : decode cX5_write 7 = .ok (.bipush (-2), 2) := by decide +kernel
theorem dX5_write_9 : decode cX5_write 9 = .ok (.ireturn, 1) := by decide +kernel
theorem dX5_write_10 : decode cX5_write 10 = .ok (.aload_n 0, 1) := by decide +kernel
theorem dX5_write_11 : decode cX5_write 11 = .ok (.getfield 7, 3) := by decide +kernel
theorem dX5_write_14 : decode cX5_write 14 = .ok (.iload_n 1, 1) := by decide +kernel
theorem dX5_write_15 : decode cX5_write 15 = .ok (.iaload, 1) := by decide +kernel
theorem dX5_write_16 : decode cX5_write 16 = .ok (.ifCond .ge 9, 3) := by decide +kernel
theorem dX5_write_19 : decode cX5_write 19 = .ok (.aload_n 0, 1) := by decide +kernel
theorem dX5_write_20 : decode cX5_write 20 = .ok (.iconst 1, 1) := by decide +kernel
theorem dX5_write_21 : decode cX5_write 21 = .ok (.invokevirtual 77, 3) := by decide +kernel
theorem dX5_write_24 : decode cX5_write 24 = .ok (.ireturn, 1) := by decide +kernel
theorem dX5_write_25 : decode cX5_write 25 = .ok (.aload_n 0, 1) := by decide +kernel
theorem dX5_write_26 : decode cX5_write 26 = .ok (.invokevirtual 165, 3) := by decide +kernel
theorem dX5_write_29 : decode cX5_write 29 = .ok (.aload_n 0, 1) := by decide +kernel
theorem dX5_write_30 : decode cX5_write 30 = .ok (.getfield 13, 3) := by decide +kernel
theorem dX5_write_33 : decode cX5_write 33 = .ok (.iload_n 1, 1) := by decide +kernel
theorem dX5_write_34 : decode cX5_write 34 = .ok (.iaload, 1) := by decide +kernel
theorem dX5_write_35 : decode cX5_write 35 = .ok (.aload_n 0, 1) := by decide +kernel
theorem dX5_write_36 : decode cX5_write 36 = .ok (.getfield 110, 3) := by decide +kernel
theorem dX5_write_39 : decode cX5_write 39 = .ok (.if_icmp .ge 12, 3) := by decide +kernel
theorem dX5_write_42 : decode cX5_write 42 = .ok (.aload_n 0, 1) := by decide +kernel
theorem dX5_write_43 : decode cX5_write 43 = .ok (.getfield 13, 3) := by decide +kernel
theorem dX5_write_46 : decode cX5_write 46 = .ok (.iload_n 1, 1) := by decide +kernel
theorem dX5_write_47 : decode cX5_write 47 = .ok (.iaload, 1) := by decide +kernel
theorem dX5_write_48 : decode cX5_write 48 = .ok (.goto 7, 3) := by decide +kernel
theorem dX5_write_51 : decode cX5_write 51 = .ok (.aload_n 0, 1) := by decide +kernel
theorem dX5_write_52 : decode cX5_write 52 = .ok (.getfield 110, 3) := by decide +kernel
theorem dX5_write_55 : decode cX5_write 55 = .ok (.istore_n 2, 1) := by decide +kernel
theorem dX5_write_56 : decode cX5_write 56 = .ok (.iconst 0, 1) := by decide +kernel
theorem dX5_write_57 : decode cX5_write 57 = .ok (.istore_n 3, 1) := by decide +kernel
theorem dX5_write_58 : decode cX5_write 58 = .ok (.iload_n 3, 1) := by decide +kernel
theorem dX5_write_59 : decode cX5_write 59 = .ok (.iload_n 2, 1) := by decide +kernel
theorem dX5_write_60 : decode cX5_write 60 = .ok (.if_icmp .ge 34, 3) := by decide +kernel
theorem dX5_write_63 : decode cX5_write 63 = .ok (.aload_n 0, 1) := by decide +kernel
theorem dX5_write_64 : decode cX5_write 64 = .ok (.getfield 16, 3) := by decide +kernel
theorem dX5_write_67 : decode cX5_write 67 = .ok (.bipush 60, 2) := by decide +kernel
theorem dX5_write_69 : decode cX5_write 69 = .ok (.iload_n 1, 1) := by decide +kernel
theorem dX5_write_70 : decode cX5_write 70 = .ok (.imul, 1) := by decide +kernel
theorem dX5_write_71 : decode cX5_write 71 = .ok (.iload_n 3, 1) := by decide +kernel
theorem dX5_write_72 : decode cX5_write 72 = .ok (.iadd, 1) := by decide +kernel
theorem dX5_write_73 : decode cX5_write 73 = .ok (.aload_n 0, 1) := by decide +kernel
theorem dX5_write_74 : decode cX5_write 74 = .ok (.getfield 7, 3) := by decide +kernel
theorem dX5_write_77 : decode cX5_write 77 = .ok (.iload_n 1, 1) := by decide +kernel
theorem dX5_write_78 : decode cX5_write 78 = .ok (.iaload, 1) := by decide +kernel
theorem dX5_write_79 : decode cX5_write 79 = .ok (.aload_n 0, 1) := by decide +kernel
theorem dX5_write_80 : decode cX5_write 80 = .ok (.iload_n 3, 1) := by decide +kernel
theorem dX5_write_81 : decode cX5_write 81 = .ok (.invokevirtual 227, 3) := by decide +kernel
theorem dX5_write_84 : decode cX5_write 84 = .ok (.invokestatic 85, 3) := by decide +kernel
theorem dX5_write_87 : decode cX5_write 87 = .ok (.iastore, 1) := by decide +kernel
theorem dX5_write_88 : decode cX5_write 88 = .ok (.iinc 3 1, 3) := by decide +kernel
theorem dX5_write_91 : decode cX5_write 91 = .ok (.goto (-33), 3) := by decide +kernel
theorem dX5_write_94 : decode cX5_write 94 = .ok (.iload_n 2, 1) := by decide +kernel
theorem dX5_write_95 : decode cX5_write 95 = .ok (.ireturn, 1) := by decide +kernel
theorem dX5_count_0 : decode cX5_count 0 = .ok (.iconst 0, 1) := by decide +kernel
theorem dX5_count_1 : decode cX5_count 1 = .ok (.istore_n 2, 1) := by decide +kernel
theorem dX5_count_2 : decode cX5_count 2 = .ok (.aload_n 0, 1) := by decide +kernel
theorem dX5_count_3 : decode cX5_count 3 = .ok (.invokevirtual 135, 3) := by decide +kernel
theorem dX5_count_6 : decode cX5_count 6 = .ok (.pop, 1) := by decide +kernel
theorem dX5_count_7 : decode cX5_count 7 = .ok (.iload_n 1, 1) := by decide +kernel
theorem dX5_count_8 : decode cX5_count 8 = .ok (.tableswitch 186 0 8 #[52, 57, 62, 67, 94, 119, 142, 149, 181], 52) := by decide +kernel
theorem dX5_count_60 : decode cX5_count 60 = .ok (.aload_n 0, 1) := by decide +kernel
theorem dX5_count_61 : decode cX5_count 61 = .ok (.getfield 110, 3) := by decide +kernel
theorem dX5_count_64 : decode cX5_count 64 = .ok (.ireturn, 1) := by decide +kernel
theorem dX5_count_65 : decode cX5_count 65 = .ok (.aload_n 0, 1) := by decide +kernel
theorem dX5_count_66 : decode cX5_count 66 = .ok (.getfield 119, 3) := by decide +kernel
theorem dX5_count_69 : decode cX5_count 69 = .ok (.ireturn, 1) := by decide +kernel
theorem dX5_count_70 : decode cX5_count 70 = .ok (.aload_n 0, 1) := by decide +kernel
theorem dX5_count_71 : decode cX5_count 71 = .ok (.getfield 96, 3) := by decide +kernel
theorem dX5_count_74 : decode cX5_count 74 = .ok (.ireturn, 1) := by decide +kernel
theorem dX5_count_75 : decode cX5_count 75 = .ok (.iconst 0, 1) := by decide +kernel
theorem dX5_count_76 : decode cX5_count 76 = .ok (.istore_n 3, 1) := by decide +kernel
theorem dX5_count_77 : decode cX5_count 77 = .ok (.iload_n 3, 1) := by decide +kernel
theorem dX5_count_78 : decode cX5_count 78 = .ok (.aload_n 0, 1) := by decide +kernel
theorem dX5_count_79 : decode cX5_count 79 = .ok (.getfield 110, 3) := by decide +kernel
theorem dX5_count_82 : decode cX5_count 82 = .ok (.if_icmp .ge 18, 3) := by decide +kernel
theorem dX5_count_85 : decode cX5_count 85 = .ok (.iload_n 2, 1) := by decide +kernel
theorem dX5_count_86 : decode cX5_count 86 = .ok (.aload_n 0, 1) := by decide +kernel
theorem dX5_count_87 : decode cX5_count 87 = .ok (.getfield 37, 3) := by decide +kernel
theorem dX5_count_90 : decode cX5_count 90 = .ok (.iload_n 3, 1) := by decide +kernel
theorem dX5_count_91 : decode cX5_count 91 = .ok (.iaload, 1) := by decide +kernel
theorem dX5_count_92 : decode cX5_count 92 = .ok (.iadd, 1) := by decide +kernel
theorem dX5_count_93 : decode cX5_count 93 = .ok (.istore_n 2, 1) := by decide +kernel
theorem dX5_count_94 : decode cX5_count 94 = .ok (.iinc 3 1, 3) := by decide +kernel
theorem dX5_count_97 : decode cX5_count 97 = .ok (.goto (-20), 3) := by decide +kernel
theorem dX5_count_100 : decode cX5_count 100 = .ok (.iload_n 2, 1) := by decide +kernel
theorem dX5_count_101 : decode cX5_count 101 = .ok (.ireturn, 1) := by decide +kernel
theorem dX5_count_102 : decode cX5_count 102 = .ok (.iconst 0, 1) := by decide +kernel
theorem dX5_count_103 : decode cX5_count 103 = .ok (.istore_n 3, 1) := by decide +kernel
theorem dX5_count_104 : decode cX5_count 104 = .ok (.iload_n 3, 1) := by decide +kernel
theorem dX5_count_105 : decode cX5_count 105 = .ok (.bipush 6, 2) := by decide +kernel
theorem dX5_count_107 : decode cX5_count 107 = .ok (.if_icmp .ge 18, 3) := by decide +kernel
theorem dX5_count_110 : decode cX5_count 110 = .ok (.iload_n 2, 1) := by decide +kernel
theorem dX5_count_111 : decode cX5_count 111 = .ok (.aload_n 0, 1) := by decide +kernel
theorem dX5_count_112 : decode cX5_count 112 = .ok (.getfield 40, 3) := by decide +kernel
theorem dX5_count_115 : decode cX5_count 115 = .ok (.iload_n 3, 1) := by decide +kernel
theorem dX5_count_116 : decode cX5_count 116 = .ok (.iaload, 1) := by decide +kernel
theorem dX5_count_117 : decode cX5_count 117 = .ok (.iadd, 1) := by decide +kernel
theorem dX5_count_118 : decode cX5_count 118 = .ok (.istore_n 2, 1) := by decide +kernel
theorem dX5_count_119 : decode cX5_count 119 = .ok (.iinc 3 1, 3) := by decide +kernel
theorem dX5_count_122 : decode cX5_count 122 = .ok (.goto (-18), 3) := by decide +kernel
theorem dX5_count_125 : decode cX5_count 125 = .ok (.iload_n 2, 1) := by decide +kernel
theorem dX5_count_126 : decode cX5_count 126 = .ok (.ireturn, 1) := by decide +kernel
theorem dX5_count_127 : decode cX5_count 127 = .ok (.aload_n 0, 1) := by decide +kernel
theorem dX5_count_128 : decode cX5_count 128 = .ok (.getfield 34, 3) := by decide +kernel
theorem dX5_count_131 : decode cX5_count 131 = .ok (.iconst 5, 1) := by decide +kernel
theorem dX5_count_132 : decode cX5_count 132 = .ok (.iaload, 1) := by decide +kernel
theorem dX5_count_133 : decode cX5_count 133 = .ok (.aload_n 0, 1) := by decide +kernel
theorem dX5_count_134 : decode cX5_count 134 = .ok (.getfield 34, 3) := by decide +kernel
theorem dX5_count_137 : decode cX5_count 137 = .ok (.bipush 6, 2) := by decide +kernel
theorem dX5_count_139 : decode cX5_count 139 = .ok (.iaload, 1) := by decide +kernel
theorem dX5_count_140 : decode cX5_count 140 = .ok (.iadd, 1) := by decide +kernel
theorem dX5_count_141 : decode cX5_count 141 = .ok (.aload_n 0, 1) := by decide +kernel
theorem dX5_count_142 : decode cX5_count 142 = .ok (.getfield 34, 3) := by decide +kernel
theorem dX5_count_145 : decode cX5_count 145 = .ok (.bipush 7, 2) := by decide +kernel
theorem dX5_count_147 : decode cX5_count 147 = .ok (.iaload, 1) := by decide +kernel
theorem dX5_count_148 : decode cX5_count 148 = .ok (.iadd, 1) := by decide +kernel
theorem dX5_count_149 : decode cX5_count 149 = .ok (.ireturn, 1) := by decide +kernel
theorem dX5_count_150 : decode cX5_count 150 = .ok (.aload_n 0, 1) := by decide +kernel
theorem dX5_count_151 : decode cX5_count 151 = .ok (.getfield 34, 3) := by decide +kernel
theorem dX5_count_154 : decode cX5_count 154 = .ok (.iconst 1, 1) := by decide +kernel
theorem dX5_count_155 : decode cX5_count 155 = .ok (.iaload, 1) := by decide +kernel
theorem dX5_count_156 : decode cX5_count 156 = .ok (.ireturn, 1) := by decide +kernel
theorem dX5_count_157 : decode cX5_count 157 = .ok (.iconst 0, 1) := by decide +kernel
theorem dX5_count_158 : decode cX5_count 158 = .ok (.istore_n 3, 1) := by decide +kernel
theorem dX5_count_159 : decode cX5_count 159 = .ok (.iload_n 3, 1) := by decide +kernel
theorem dX5_count_160 : decode cX5_count 160 = .ok (.aload_n 0, 1) := by decide +kernel
theorem dX5_count_161 : decode cX5_count 161 = .ok (.getfield 119, 3) := by decide +kernel
theorem dX5_count_164 : decode cX5_count 164 = .ok (.if_icmp .ge 23, 3) := by decide +kernel
theorem dX5_count_167 : decode cX5_count 167 = .ok (.iload_n 2, 1) := by decide +kernel
theorem dX5_count_168 : decode cX5_count 168 = .ok (.aload_n 0, 1) := by decide +kernel
theorem dX5_count_169 : decode cX5_count 169 = .ok (.getfield 31, 3) := by decide +kernel
theorem dX5_count_172 : decode cX5_count 172 = .ok (.bipush 6, 2) := by decide +kernel
theorem dX5_count_174 : decode cX5_count 174 = .ok (.iload_n 3, 1) := by decide +kernel
theorem dX5_count_175 : decode cX5_count 175 = .ok (.imul, 1) := by decide +kernel
theorem dX5_count_176 : decode cX5_count 176 = .ok (.iconst 1, 1) := by decide +kernel
theorem dX5_count_177 : decode cX5_count 177 = .ok (.iadd, 1) := by decide +kernel
theorem dX5_count_178 : decode cX5_count 178 = .ok (.iaload, 1) := by decide +kernel
theorem dX5_count_179 : decode cX5_count 179 = .ok (.iadd, 1) := by decide +kernel
theorem dX5_count_180 : decode cX5_count 180 = .ok (.istore_n 2, 1) := by decide +kernel
theorem dX5_count_181 : decode cX5_count 181 = .ok (.iinc 3 1, 3) := by decide +kernel
theorem dX5_count_184 : decode cX5_count 184 = .ok (.goto (-25), 3) := by decide +kernel
theorem dX5_count_187 : decode cX5_count 187 = .ok (.iload_n 2, 1) := by decide +kernel
theorem dX5_count_188 : decode cX5_count 188 = .ok (.ireturn, 1) := by decide +kernel
theorem dX5_count_189 : decode cX5_count 189 = .ok (.aload_n 0, 1) := by decide +kernel
theorem dX5_count_190 : decode cX5_count 190 = .ok (.getfield 65, 3) := by decide +kernel
theorem dX5_count_193 : decode cX5_count 193 = .ok (.ireturn, 1) := by decide +kernel
theorem dX5_count_194 : decode cX5_count 194 = .ok (.bipush (-2), 2) := by decide +kernel
theorem dX5_count_196 : decode cX5_count 196 = .ok (.ireturn, 1) := by decide +kernel
theorem dX5_digest_0 : decode cX5_digest 0 = .ok (.ldc2_w 288, 3) := by decide +kernel
theorem dX5_digest_3 : decode cX5_digest 3 = .ok (.lstore_n 1, 1) := by decide +kernel
theorem dX5_digest_4 : decode cX5_digest 4 = .ok (.iconst 0, 1) := by decide +kernel
theorem dX5_digest_5 : decode cX5_digest 5 = .ok (.istore_n 3, 1) := by decide +kernel
theorem dX5_digest_6 : decode cX5_digest 6 = .ok (.iload_n 3, 1) := by decide +kernel
theorem dX5_digest_7 : decode cX5_digest 7 = .ok (.bipush 8, 2) := by decide +kernel
theorem dX5_digest_9 : decode cX5_digest 9 = .ok (.if_icmp .ge 22, 3) := by decide +kernel
theorem dX5_digest_12 : decode cX5_digest 12 = .ok (.ldc2_w 266, 3) := by decide +kernel
theorem dX5_digest_15 : decode cX5_digest 15 = .ok (.lload_n 1, 1) := by decide +kernel
theorem dX5_digest_16 : decode cX5_digest 16 = .ok (.lmul, 1) := by decide +kernel
theorem dX5_digest_17 : decode cX5_digest 17 = .ok (.aload_n 0, 1) := by decide +kernel
theorem dX5_digest_18 : decode cX5_digest 18 = .ok (.iload_n 3, 1) := by decide +kernel
theorem dX5_digest_19 : decode cX5_digest 19 = .ok (.invokevirtual 290, 3) := by decide +kernel
theorem dX5_digest_22 : decode cX5_digest 22 = .ok (.i2l, 1) := by decide +kernel
theorem dX5_digest_23 : decode cX5_digest 23 = .ok (.ladd, 1) := by decide +kernel
theorem dX5_digest_24 : decode cX5_digest 24 = .ok (.lstore_n 1, 1) := by decide +kernel
theorem dX5_digest_25 : decode cX5_digest 25 = .ok (.iinc 3 1, 3) := by decide +kernel
theorem dX5_digest_28 : decode cX5_digest 28 = .ok (.goto (-22), 3) := by decide +kernel
theorem dX5_digest_31 : decode cX5_digest 31 = .ok (.ldc2_w 266, 3) := by decide +kernel
theorem dX5_digest_34 : decode cX5_digest 34 = .ok (.lload_n 1, 1) := by decide +kernel
theorem dX5_digest_35 : decode cX5_digest 35 = .ok (.lmul, 1) := by decide +kernel
theorem dX5_digest_36 : decode cX5_digest 36 = .ok (.aload_n 0, 1) := by decide +kernel
theorem dX5_digest_37 : decode cX5_digest 37 = .ok (.invokevirtual 135, 3) := by decide +kernel
theorem dX5_digest_40 : decode cX5_digest 40 = .ok (.i2l, 1) := by decide +kernel
theorem dX5_digest_41 : decode cX5_digest 41 = .ok (.ladd, 1) := by decide +kernel
theorem dX5_digest_42 : decode cX5_digest 42 = .ok (.lstore_n 1, 1) := by decide +kernel
theorem dX5_digest_43 : decode cX5_digest 43 = .ok (.iconst 0, 1) := by decide +kernel
theorem dX5_digest_44 : decode cX5_digest 44 = .ok (.istore_n 3, 1) := by decide +kernel
theorem dX5_digest_45 : decode cX5_digest 45 = .ok (.iload_n 3, 1) := by decide +kernel
theorem dX5_digest_46 : decode cX5_digest 46 = .ok (.aload_n 0, 1) := by decide +kernel
theorem dX5_digest_47 : decode cX5_digest 47 = .ok (.getfield 110, 3) := by decide +kernel
theorem dX5_digest_50 : decode cX5_digest 50 = .ok (.if_icmp .ge 89, 3) := by decide +kernel
theorem dX5_digest_53 : decode cX5_digest 53 = .ok (.ldc2_w 266, 3) := by decide +kernel
theorem dX5_digest_56 : decode cX5_digest 56 = .ok (.lload_n 1, 1) := by decide +kernel
theorem dX5_digest_57 : decode cX5_digest 57 = .ok (.lmul, 1) := by decide +kernel
theorem dX5_digest_58 : decode cX5_digest 58 = .ok (.aload_n 0, 1) := by decide +kernel
theorem dX5_digest_59 : decode cX5_digest 59 = .ok (.iload_n 3, 1) := by decide +kernel
theorem dX5_digest_60 : decode cX5_digest 60 = .ok (.iconst 0, 1) := by decide +kernel
theorem dX5_digest_61 : decode cX5_digest 61 = .ok (.invokevirtual 209, 3) := by decide +kernel
theorem dX5_digest_64 : decode cX5_digest 64 = .ok (.ladd, 1) := by decide +kernel
theorem dX5_digest_65 : decode cX5_digest 65 = .ok (.lstore_n 1, 1) := by decide +kernel
theorem dX5_digest_66 : decode cX5_digest 66 = .ok (.ldc2_w 266, 3) := by decide +kernel
theorem dX5_digest_69 : decode cX5_digest 69 = .ok (.lload_n 1, 1) := by decide +kernel
theorem dX5_digest_70 : decode cX5_digest 70 = .ok (.lmul, 1) := by decide +kernel
theorem dX5_digest_71 : decode cX5_digest 71 = .ok (.aload_n 0, 1) := by decide +kernel
theorem dX5_digest_72 : decode cX5_digest 72 = .ok (.iload_n 3, 1) := by decide +kernel
theorem dX5_digest_73 : decode cX5_digest 73 = .ok (.iconst 1, 1) := by decide +kernel
theorem dX5_digest_74 : decode cX5_digest 74 = .ok (.invokevirtual 209, 3) := by decide +kernel
theorem dX5_digest_77 : decode cX5_digest 77 = .ok (.ladd, 1) := by decide +kernel
theorem dX5_digest_78 : decode cX5_digest 78 = .ok (.lstore_n 1, 1) := by decide +kernel
theorem dX5_digest_79 : decode cX5_digest 79 = .ok (.ldc2_w 266, 3) := by decide +kernel
theorem dX5_digest_82 : decode cX5_digest 82 = .ok (.lload_n 1, 1) := by decide +kernel
theorem dX5_digest_83 : decode cX5_digest 83 = .ok (.lmul, 1) := by decide +kernel
theorem dX5_digest_84 : decode cX5_digest 84 = .ok (.aload_n 0, 1) := by decide +kernel
theorem dX5_digest_85 : decode cX5_digest 85 = .ok (.iload_n 3, 1) := by decide +kernel
theorem dX5_digest_86 : decode cX5_digest 86 = .ok (.invokevirtual 230, 3) := by decide +kernel
theorem dX5_digest_89 : decode cX5_digest 89 = .ok (.i2l, 1) := by decide +kernel
theorem dX5_digest_90 : decode cX5_digest 90 = .ok (.ladd, 1) := by decide +kernel
theorem dX5_digest_91 : decode cX5_digest 91 = .ok (.lstore_n 1, 1) := by decide +kernel
theorem dX5_digest_92 : decode cX5_digest 92 = .ok (.ldc2_w 266, 3) := by decide +kernel
theorem dX5_digest_95 : decode cX5_digest 95 = .ok (.lload_n 1, 1) := by decide +kernel
theorem dX5_digest_96 : decode cX5_digest 96 = .ok (.lmul, 1) := by decide +kernel
theorem dX5_digest_97 : decode cX5_digest 97 = .ok (.aload_n 0, 1) := by decide +kernel
theorem dX5_digest_98 : decode cX5_digest 98 = .ok (.iload_n 3, 1) := by decide +kernel
theorem dX5_digest_99 : decode cX5_digest 99 = .ok (.invokevirtual 242, 3) := by decide +kernel
theorem dX5_digest_102 : decode cX5_digest 102 = .ok (.i2l, 1) := by decide +kernel
theorem dX5_digest_103 : decode cX5_digest 103 = .ok (.ladd, 1) := by decide +kernel
theorem dX5_digest_104 : decode cX5_digest 104 = .ok (.lstore_n 1, 1) := by decide +kernel
theorem dX5_digest_105 : decode cX5_digest 105 = .ok (.ldc2_w 266, 3) := by decide +kernel
theorem dX5_digest_108 : decode cX5_digest 108 = .ok (.lload_n 1, 1) := by decide +kernel
theorem dX5_digest_109 : decode cX5_digest 109 = .ok (.lmul, 1) := by decide +kernel
theorem dX5_digest_110 : decode cX5_digest 110 = .ok (.aload_n 0, 1) := by decide +kernel
theorem dX5_digest_111 : decode cX5_digest 111 = .ok (.iconst 0, 1) := by decide +kernel
theorem dX5_digest_112 : decode cX5_digest 112 = .ok (.iload_n 3, 1) := by decide +kernel
theorem dX5_digest_113 : decode cX5_digest 113 = .ok (.invokevirtual 260, 3) := by decide +kernel
theorem dX5_digest_116 : decode cX5_digest 116 = .ok (.i2l, 1) := by decide +kernel
theorem dX5_digest_117 : decode cX5_digest 117 = .ok (.ladd, 1) := by decide +kernel
theorem dX5_digest_118 : decode cX5_digest 118 = .ok (.lstore_n 1, 1) := by decide +kernel
theorem dX5_digest_119 : decode cX5_digest 119 = .ok (.ldc2_w 266, 3) := by decide +kernel
theorem dX5_digest_122 : decode cX5_digest 122 = .ok (.lload_n 1, 1) := by decide +kernel
theorem dX5_digest_123 : decode cX5_digest 123 = .ok (.lmul, 1) := by decide +kernel
theorem dX5_digest_124 : decode cX5_digest 124 = .ok (.aload_n 0, 1) := by decide +kernel
theorem dX5_digest_125 : decode cX5_digest 125 = .ok (.iconst 1, 1) := by decide +kernel
theorem dX5_digest_126 : decode cX5_digest 126 = .ok (.iload_n 3, 1) := by decide +kernel
theorem dX5_digest_127 : decode cX5_digest 127 = .ok (.invokevirtual 260, 3) := by decide +kernel
theorem dX5_digest_130 : decode cX5_digest 130 = .ok (.i2l, 1) := by decide +kernel
theorem dX5_digest_131 : decode cX5_digest 131 = .ok (.ladd, 1) := by decide +kernel
theorem dX5_digest_132 : decode cX5_digest 132 = .ok (.lstore_n 1, 1) := by decide +kernel
theorem dX5_digest_133 : decode cX5_digest 133 = .ok (.iinc 3 1, 3) := by decide +kernel
theorem dX5_digest_136 : decode cX5_digest 136 = .ok (.goto (-91), 3) := by decide +kernel
theorem dX5_digest_139 : decode cX5_digest 139 = .ok (.iconst 0, 1) := by decide +kernel
theorem dX5_digest_140 : decode cX5_digest 140 = .ok (.istore_n 3, 1) := by decide +kernel
theorem dX5_digest_141 : decode cX5_digest 141 = .ok (.iload_n 3, 1) := by decide +kernel
theorem dX5_digest_142 : decode cX5_digest 142 = .ok (.iconst 4, 1) := by decide +kernel
theorem dX5_digest_143 : decode cX5_digest 143 = .ok (.if_icmp .ge 26, 3) := by decide +kernel
theorem dX5_digest_146 : decode cX5_digest 146 = .ok (.ldc2_w 266, 3) := by decide +kernel
theorem dX5_digest_149 : decode cX5_digest 149 = .ok (.lload_n 1, 1) := by decide +kernel
theorem dX5_digest_150 : decode cX5_digest 150 = .ok (.lmul, 1) := by decide +kernel
theorem dX5_digest_151 : decode cX5_digest 151 = .ok (.aload_n 0, 1) := by decide +kernel
theorem dX5_digest_152 : decode cX5_digest 152 = .ok (.iload_n 3, 1) := by decide +kernel
theorem dX5_digest_153 : decode cX5_digest 153 = .ok (.iconst 2, 1) := by decide +kernel
theorem dX5_digest_154 : decode cX5_digest 154 = .ok (.idiv, 1) := by decide +kernel
theorem dX5_digest_155 : decode cX5_digest 155 = .ok (.iload_n 3, 1) := by decide +kernel
theorem dX5_digest_156 : decode cX5_digest 156 = .ok (.iconst 2, 1) := by decide +kernel
theorem dX5_digest_157 : decode cX5_digest 157 = .ok (.irem, 1) := by decide +kernel
theorem dX5_digest_158 : decode cX5_digest 158 = .ok (.invokevirtual 224, 3) := by decide +kernel
theorem dX5_digest_161 : decode cX5_digest 161 = .ok (.ladd, 1) := by decide +kernel
theorem dX5_digest_162 : decode cX5_digest 162 = .ok (.lstore_n 1, 1) := by decide +kernel
theorem dX5_digest_163 : decode cX5_digest 163 = .ok (.iinc 3 1, 3) := by decide +kernel
theorem dX5_digest_166 : decode cX5_digest 166 = .ok (.goto (-25), 3) := by decide +kernel
theorem dX5_digest_169 : decode cX5_digest 169 = .ok (.ldc2_w 266, 3) := by decide +kernel
theorem dX5_digest_172 : decode cX5_digest 172 = .ok (.lload_n 1, 1) := by decide +kernel
theorem dX5_digest_173 : decode cX5_digest 173 = .ok (.lmul, 1) := by decide +kernel
theorem dX5_digest_174 : decode cX5_digest 174 = .ok (.aload_n 0, 1) := by decide +kernel
theorem dX5_digest_175 : decode cX5_digest 175 = .ok (.iconst (-1), 1) := by decide +kernel
theorem dX5_digest_176 : decode cX5_digest 176 = .ok (.invokevirtual 242, 3) := by decide +kernel
theorem dX5_digest_179 : decode cX5_digest 179 = .ok (.i2l, 1) := by decide +kernel
theorem dX5_digest_180 : decode cX5_digest 180 = .ok (.ladd, 1) := by decide +kernel
theorem dX5_digest_181 : decode cX5_digest 181 = .ok (.lstore_n 1, 1) := by decide +kernel
theorem dX5_digest_182 : decode cX5_digest 182 = .ok (.ldc2_w 266, 3) := by decide +kernel
theorem dX5_digest_185 : decode cX5_digest 185 = .ok (.lload_n 1, 1) := by decide +kernel
theorem dX5_digest_186 : decode cX5_digest 186 = .ok (.lmul, 1) := by decide +kernel
theorem dX5_digest_187 : decode cX5_digest 187 = .ok (.aload_n 0, 1) := by decide +kernel
theorem dX5_digest_188 : decode cX5_digest 188 = .ok (.iconst (-1), 1) := by decide +kernel
theorem dX5_digest_189 : decode cX5_digest 189 = .ok (.iconst (-1), 1) := by decide +kernel
theorem dX5_digest_190 : decode cX5_digest 190 = .ok (.invokevirtual 251, 3) := by decide +kernel
theorem dX5_digest_193 : decode cX5_digest 193 = .ok (.i2l, 1) := by decide +kernel
theorem dX5_digest_194 : decode cX5_digest 194 = .ok (.ladd, 1) := by decide +kernel
theorem dX5_digest_195 : decode cX5_digest 195 = .ok (.lstore_n 1, 1) := by decide +kernel
theorem dX5_digest_196 : decode cX5_digest 196 = .ok (.ldc2_w 266, 3) := by decide +kernel
theorem dX5_digest_199 : decode cX5_digest 199 = .ok (.lload_n 1, 1) := by decide +kernel
theorem dX5_digest_200 : decode cX5_digest 200 = .ok (.lmul, 1) := by decide +kernel
theorem dX5_digest_201 : decode cX5_digest 201 = .ok (.aload_n 0, 1) := by decide +kernel
theorem dX5_digest_202 : decode cX5_digest 202 = .ok (.invokevirtual 263, 3) := by decide +kernel
theorem dX5_digest_205 : decode cX5_digest 205 = .ok (.i2l, 1) := by decide +kernel
theorem dX5_digest_206 : decode cX5_digest 206 = .ok (.ladd, 1) := by decide +kernel
theorem dX5_digest_207 : decode cX5_digest 207 = .ok (.lstore_n 1, 1) := by decide +kernel
theorem dX5_digest_208 : decode cX5_digest 208 = .ok (.ldc2_w 266, 3) := by decide +kernel
theorem dX5_digest_211 : decode cX5_digest 211 = .ok (.lload_n 1, 1) := by decide +kernel
theorem dX5_digest_212 : decode cX5_digest 212 = .ok (.lmul, 1) := by decide +kernel
theorem dX5_digest_213 : decode cX5_digest 213 = .ok (.aload_n 0, 1) := by decide +kernel
theorem dX5_digest_214 : decode cX5_digest 214 = .ok (.iconst 0, 1) := by decide +kernel
theorem dX5_digest_215 : decode cX5_digest 215 = .ok (.invokevirtual 271, 3) := by decide +kernel
theorem dX5_digest_218 : decode cX5_digest 218 = .ok (.i2l, 1) := by decide +kernel
theorem dX5_digest_219 : decode cX5_digest 219 = .ok (.ladd, 1) := by decide +kernel
theorem dX5_digest_220 : decode cX5_digest 220 = .ok (.lstore_n 1, 1) := by decide +kernel
theorem dX5_digest_221 : decode cX5_digest 221 = .ok (.ldc2_w 266, 3) := by decide +kernel
theorem dX5_digest_224 : decode cX5_digest 224 = .ok (.lload_n 1, 1) := by decide +kernel
theorem dX5_digest_225 : decode cX5_digest 225 = .ok (.lmul, 1) := by decide +kernel
theorem dX5_digest_226 : decode cX5_digest 226 = .ok (.aload_n 0, 1) := by decide +kernel
theorem dX5_digest_227 : decode cX5_digest 227 = .ok (.iconst 1, 1) := by decide +kernel
theorem dX5_digest_228 : decode cX5_digest 228 = .ok (.invokevirtual 271, 3) := by decide +kernel
theorem dX5_digest_231 : decode cX5_digest 231 = .ok (.i2l, 1) := by decide +kernel
theorem dX5_digest_232 : decode cX5_digest 232 = .ok (.ladd, 1) := by decide +kernel
theorem dX5_digest_233 : decode cX5_digest 233 = .ok (.lstore_n 1, 1) := by decide +kernel
theorem dX5_digest_234 : decode cX5_digest 234 = .ok (.iconst 0, 1) := by decide +kernel
theorem dX5_digest_235 : decode cX5_digest 235 = .ok (.istore_n 3, 1) := by decide +kernel
theorem dX5_digest_236 : decode cX5_digest 236 = .ok (.iload_n 3, 1) := by decide +kernel
theorem dX5_digest_237 : decode cX5_digest 237 = .ok (.bipush 8, 2) := by decide +kernel
theorem dX5_digest_239 : decode cX5_digest 239 = .ok (.if_icmp .ge 23, 3) := by decide +kernel
theorem dX5_digest_242 : decode cX5_digest 242 = .ok (.ldc2_w 266, 3) := by decide +kernel
theorem dX5_digest_245 : decode cX5_digest 245 = .ok (.lload_n 1, 1) := by decide +kernel
theorem dX5_digest_246 : decode cX5_digest 246 = .ok (.lmul, 1) := by decide +kernel
theorem dX5_digest_247 : decode cX5_digest 247 = .ok (.aload_n 0, 1) := by decide +kernel
theorem dX5_digest_248 : decode cX5_digest 248 = .ok (.iconst 5, 1) := by decide +kernel
theorem dX5_digest_249 : decode cX5_digest 249 = .ok (.iload_n 3, 1) := by decide +kernel
theorem dX5_digest_250 : decode cX5_digest 250 = .ok (.invokevirtual 279, 3) := by decide +kernel
theorem dX5_digest_253 : decode cX5_digest 253 = .ok (.i2l, 1) := by decide +kernel
theorem dX5_digest_254 : decode cX5_digest 254 = .ok (.ladd, 1) := by decide +kernel
theorem dX5_digest_255 : decode cX5_digest 255 = .ok (.lstore_n 1, 1) := by decide +kernel
theorem dX5_digest_256 : decode cX5_digest 256 = .ok (.iinc 3 1, 3) := by decide +kernel
theorem dX5_digest_259 : decode cX5_digest 259 = .ok (.goto (-23), 3) := by decide +kernel
theorem dX5_digest_262 : decode cX5_digest 262 = .ok (.ldc2_w 266, 3) := by decide +kernel
theorem dX5_digest_265 : decode cX5_digest 265 = .ok (.lload_n 1, 1) := by decide +kernel
theorem dX5_digest_266 : decode cX5_digest 266 = .ok (.lmul, 1) := by decide +kernel
theorem dX5_digest_267 : decode cX5_digest 267 = .ok (.aload_n 0, 1) := by decide +kernel
theorem dX5_digest_268 : decode cX5_digest 268 = .ok (.invokevirtual 285, 3) := by decide +kernel
theorem dX5_digest_271 : decode cX5_digest 271 = .ok (.i2l, 1) := by decide +kernel
theorem dX5_digest_272 : decode cX5_digest 272 = .ok (.ladd, 1) := by decide +kernel
theorem dX5_digest_273 : decode cX5_digest 273 = .ok (.lreturn, 1) := by decide +kernel

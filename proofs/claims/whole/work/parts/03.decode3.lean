theorem dX4_keeps_0 : decode cX4_keeps 0 = .ok (.iload_n 1, 1) := by decide +kernel
theorem dX4_keeps_1 : decode cX4_keeps 1 = .ok (.ifCond .lt 8, 3) := by decide +kernel
theorem dX4_keeps_4 : decode cX4_keeps 4 = .ok (.iload_n 1, 1) := by decide +kernel
theorem dX4_keeps_5 : decode cX4_keeps 5 = .ok (.iconst 1, 1) := by decide +kernel
theorem dX4_keeps_6 : decode cX4_keeps 6 = .ok (.if_icmp .le 6, 3) := by decide +kernel
theorem dX4_keeps_9 : decode cX4_keeps 9 = .ok (.bipush (-2), 2) := by decide +kernel
theorem dX4_keeps_11 : decode cX4_keeps 11 = .ok (.ireturn, 1) := by decide +kernel
theorem dX4_keeps_12 : decode cX4_keeps 12 = .ok (.aload_n 0, 1) := by decide +kernel
theorem dX4_keeps_13 : decode cX4_keeps 13 = .ok (.invokevirtual 101, 3) := by decide +kernel
theorem dX4_keeps_16 : decode cX4_keeps 16 = .ok (.astore_n 2, 1) := by decide +kernel
theorem dX4_keeps_17 : decode cX4_keeps 17 = .ok (.iconst 0, 1) := by decide +kernel
theorem dX4_keeps_18 : decode cX4_keeps 18 = .ok (.istore_n 3, 1) := by decide +kernel
theorem dX4_keeps_19 : decode cX4_keeps 19 = .ok (.iload_n 3, 1) := by decide +kernel
theorem dX4_keeps_20 : decode cX4_keeps 20 = .ok (.bipush 6, 2) := by decide +kernel
theorem dX4_keeps_22 : decode cX4_keeps 22 = .ok (.if_icmp .ge 42, 3) := by decide +kernel
theorem dX4_keeps_25 : decode cX4_keeps 25 = .ok (.aload_n 2, 1) := by decide +kernel
theorem dX4_keeps_26 : decode cX4_keeps 26 = .ok (.aload_n 0, 1) := by decide +kernel
theorem dX4_keeps_27 : decode cX4_keeps 27 = .ok (.getfield 46, 3) := by decide +kernel
theorem dX4_keeps_30 : decode cX4_keeps 30 = .ok (.iload_n 3, 1) := by decide +kernel
theorem dX4_keeps_31 : decode cX4_keeps 31 = .ok (.iaload, 1) := by decide +kernel
theorem dX4_keeps_32 : decode cX4_keeps 32 = .ok (.invokevirtual 196, 3) := by decide +kernel
theorem dX4_keeps_35 : decode cX4_keeps 35 = .ok (.aload_n 2, 1) := by decide +kernel
theorem dX4_keeps_36 : decode cX4_keeps 36 = .ok (.invokevirtual 148, 3) := by decide +kernel
theorem dX4_keeps_39 : decode cX4_keeps 39 = .ok (.istore 4, 2) := by decide +kernel
theorem dX4_keeps_41 : decode cX4_keeps 41 = .ok (.iload 4, 2) := by decide +kernel
theorem dX4_keeps_43 : decode cX4_keeps 43 = .ok (.iconst (-1), 1) := by decide +kernel
theorem dX4_keeps_44 : decode cX4_keeps 44 = .ok (.if_icmp .eq 14, 3) := by decide +kernel
theorem dX4_keeps_47 : decode cX4_keeps 47 = .ok (.iload_n 1, 1) := by decide +kernel
theorem dX4_keeps_48 : decode cX4_keeps 48 = .ok (.ifCond .ne 7, 3) := by decide +kernel
theorem dX4_keeps_51 : decode cX4_keeps 51 = .ok (.iload_n 3, 1) := by decide +kernel
theorem dX4_keeps_52 : decode cX4_keeps 52 = .ok (.goto 5, 3) := by decide +kernel
theorem dX4_keeps_55 : decode cX4_keeps 55 = .ok (.iload 4, 2) := by decide +kernel
theorem dX4_keeps_57 : decode cX4_keeps 57 = .ok (.ireturn, 1) := by decide +kernel
theorem dX4_keeps_58 : decode cX4_keeps 58 = .ok (.iinc 3 1, 3) := by decide +kernel
theorem dX4_keeps_61 : decode cX4_keeps 61 = .ok (.goto (-42), 3) := by decide +kernel
theorem dX4_keeps_64 : decode cX4_keeps 64 = .ok (.iconst (-1), 1) := by decide +kernel
theorem dX4_keeps_65 : decode cX4_keeps 65 = .ok (.ireturn, 1) := by decide +kernel
theorem dX4_week_0 : decode cX4_week 0 = .ok (.aload_n 0, 1) := by decide +kernel
theorem dX4_week_1 : decode cX4_week 1 = .ok (.iload_n 1, 1) := by decide +kernel
theorem dX4_week_2 : decode cX4_week 2 = .ok (.invokevirtual 67, 3) := by decide +kernel
theorem dX4_week_5 : decode cX4_week 5 = .ok (.ifCond .ne 10, 3) := by decide +kernel
theorem dX4_week_8 : decode cX4_week 8 = .ok (.iload_n 2, 1) := by decide +kernel
theorem dX4_week_9 : decode cX4_week 9 = .ok (.invokestatic 108, 3) := by decide +kernel
theorem dX4_week_12 : decode cX4_week 12 = .ok (.ifCond .eq 9, 3) := by decide +kernel
theorem dX4_week_15 : decode cX4_week 15 = .ok (.bipush (-2), 2) := by decide +kernel
theorem dX4_week_17 : decode cX4_week 17 = .ok (.invokestatic 111, 3) := by decide +kernel
theorem dX4_week_20 : decode cX4_week 20 = .ok (.lreturn, 1) := by decide +kernel
theorem dX4_week_21 : decode cX4_week 21 = .ok (.aload_n 0, 1) := by decide +kernel
theorem dX4_week_22 : decode cX4_week 22 = .ok (.invokevirtual 101, 3) := by decide +kernel
theorem dX4_week_25 : decode cX4_week 25 = .ok (.astore_n 3, 1) := by decide +kernel
theorem dX4_week_26 : decode cX4_week 26 = .ok (.lconst 0, 1) := by decide +kernel
theorem dX4_week_27 : decode cX4_week 27 = .ok (.lstore 4, 2) := by decide +kernel
theorem dX4_week_29 : decode cX4_week 29 = .ok (.iconst 0, 1) := by decide +kernel
theorem dX4_week_30 : decode cX4_week 30 = .ok (.istore 6, 2) := by decide +kernel
theorem dX4_week_32 : decode cX4_week 32 = .ok (.iload 6, 2) := by decide +kernel
theorem dX4_week_34 : decode cX4_week 34 = .ok (.bipush 6, 2) := by decide +kernel
theorem dX4_week_36 : decode cX4_week 36 = .ok (.if_icmp .ge 30, 3) := by decide +kernel
theorem dX4_week_39 : decode cX4_week 39 = .ok (.aload_n 3, 1) := by decide +kernel
theorem dX4_week_40 : decode cX4_week 40 = .ok (.aload_n 0, 1) := by decide +kernel
theorem dX4_week_41 : decode cX4_week 41 = .ok (.getfield 46, 3) := by decide +kernel
theorem dX4_week_44 : decode cX4_week 44 = .ok (.iload 6, 2) := by decide +kernel
theorem dX4_week_46 : decode cX4_week 46 = .ok (.iaload, 1) := by decide +kernel
theorem dX4_week_47 : decode cX4_week 47 = .ok (.invokevirtual 196, 3) := by decide +kernel
theorem dX4_week_50 : decode cX4_week 50 = .ok (.lload 4, 2) := by decide +kernel
theorem dX4_week_52 : decode cX4_week 52 = .ok (.aload_n 3, 1) := by decide +kernel
theorem dX4_week_53 : decode cX4_week 53 = .ok (.iload_n 1, 1) := by decide +kernel
theorem dX4_week_54 : decode cX4_week 54 = .ok (.invokevirtual 115, 3) := by decide +kernel
theorem dX4_week_57 : decode cX4_week 57 = .ok (.ladd, 1) := by decide +kernel
theorem dX4_week_58 : decode cX4_week 58 = .ok (.lstore 4, 2) := by decide +kernel
theorem dX4_week_60 : decode cX4_week 60 = .ok (.iinc 6 1, 3) := by decide +kernel
theorem dX4_week_63 : decode cX4_week 63 = .ok (.goto (-31), 3) := by decide +kernel
theorem dX4_week_66 : decode cX4_week 66 = .ok (.lload 4, 2) := by decide +kernel
theorem dX4_week_68 : decode cX4_week 68 = .ok (.iload_n 2, 1) := by decide +kernel
theorem dX4_week_69 : decode cX4_week 69 = .ok (.invokestatic 118, 3) := by decide +kernel
theorem dX4_week_72 : decode cX4_week 72 = .ok (.lreturn, 1) := by decide +kernel
theorem dX4_weeks_0 : decode cX4_weeks 0 = .ok (.iload_n 1, 1) := by decide +kernel
theorem dX4_weeks_1 : decode cX4_weeks 1 = .ok (.ifCond .lt 19, 3) := by decide +kernel
theorem dX4_weeks_4 : decode cX4_weeks 4 = .ok (.iload_n 1, 1) := by decide +kernel
theorem dX4_weeks_5 : decode cX4_weeks 5 = .ok (.bipush 50, 2) := by decide +kernel
theorem dX4_weeks_7 : decode cX4_weeks 7 = .ok (.if_icmp .gt 13, 3) := by decide +kernel
theorem dX4_weeks_10 : decode cX4_weeks 10 = .ok (.iload_n 2, 1) := by decide +kernel
theorem dX4_weeks_11 : decode cX4_weeks 11 = .ok (.ifCond .lt 9, 3) := by decide +kernel
theorem dX4_weeks_14 : decode cX4_weeks 14 = .ok (.iload_n 2, 1) := by decide +kernel
theorem dX4_weeks_15 : decode cX4_weeks 15 = .ok (.bipush 8, 2) := by decide +kernel
theorem dX4_weeks_17 : decode cX4_weeks 17 = .ok (.if_icmp .lt 6, 3) := by decide +kernel
theorem dX4_weeks_20 : decode cX4_weeks 20 = .ok (.bipush (-2), 2) := by decide +kernel
theorem dX4_weeks_22 : decode cX4_weeks 22 = .ok (.ireturn, 1) := by decide +kernel
theorem dX4_weeks_23 : decode cX4_weeks 23 = .ok (.aload_n 0, 1) := by decide +kernel
theorem dX4_weeks_24 : decode cX4_weeks 24 = .ok (.iload_n 1, 1) := by decide +kernel
theorem dX4_weeks_25 : decode cX4_weeks 25 = .ok (.invokevirtual 199, 3) := by decide +kernel
theorem dX4_weeks_28 : decode cX4_weeks 28 = .ok (.iload_n 2, 1) := by decide +kernel
theorem dX4_weeks_29 : decode cX4_weeks 29 = .ok (.invokevirtual 202, 3) := by decide +kernel
theorem dX4_weeks_32 : decode cX4_weeks 32 = .ok (.ireturn, 1) := by decide +kernel
theorem dX4_back_0 : decode cX4_back 0 = .ok (.aload_n 0, 1) := by decide +kernel
theorem dX4_back_1 : decode cX4_back 1 = .ok (.invokevirtual 101, 3) := by decide +kernel
theorem dX4_back_4 : decode cX4_back 4 = .ok (.astore_n 1, 1) := by decide +kernel
theorem dX4_back_5 : decode cX4_back 5 = .ok (.iconst 0, 1) := by decide +kernel
theorem dX4_back_6 : decode cX4_back 6 = .ok (.istore_n 2, 1) := by decide +kernel
theorem dX4_back_7 : decode cX4_back 7 = .ok (.iload_n 2, 1) := by decide +kernel
theorem dX4_back_8 : decode cX4_back 8 = .ok (.bipush 50, 2) := by decide +kernel
theorem dX4_back_10 : decode cX4_back 10 = .ok (.if_icmp .gt 22, 3) := by decide +kernel
theorem dX4_back_13 : decode cX4_back 13 = .ok (.aload_n 1, 1) := by decide +kernel
theorem dX4_back_14 : decode cX4_back 14 = .ok (.invokevirtual 205, 3) := by decide +kernel
theorem dX4_back_17 : decode cX4_back 17 = .ok (.ifCond .ne 5, 3) := by decide +kernel
theorem dX4_back_20 : decode cX4_back 20 = .ok (.iload_n 2, 1) := by decide +kernel
theorem dX4_back_21 : decode cX4_back 21 = .ok (.ireturn, 1) := by decide +kernel
theorem dX4_back_22 : decode cX4_back 22 = .ok (.aload_n 1, 1) := by decide +kernel
theorem dX4_back_23 : decode cX4_back 23 = .ok (.invokevirtual 208, 3) := by decide +kernel
theorem dX4_back_26 : decode cX4_back 26 = .ok (.iinc 2 1, 3) := by decide +kernel
theorem dX4_back_29 : decode cX4_back 29 = .ok (.goto (-22), 3) := by decide +kernel
theorem dX4_back_32 : decode cX4_back 32 = .ok (.iconst (-1), 1) := by decide +kernel
theorem dX4_back_33 : decode cX4_back 33 = .ok (.ireturn, 1) := by decide +kernel
theorem dX4_sheet_0 : decode cX4_sheet 0 = .ok (.iload_n 1, 1) := by decide +kernel
theorem dX4_sheet_1 : decode cX4_sheet 1 = .ok (.invokestatic 211, 3) := by decide +kernel
theorem dX4_sheet_4 : decode cX4_sheet 4 = .ok (.ifCond .ne 16, 3) := by decide +kernel
theorem dX4_sheet_7 : decode cX4_sheet 7 = .ok (.iload_n 2, 1) := by decide +kernel
theorem dX4_sheet_8 : decode cX4_sheet 8 = .ok (.invokestatic 214, 3) := by decide +kernel
theorem dX4_sheet_11 : decode cX4_sheet 11 = .ok (.ifCond .ne 9, 3) := by decide +kernel
theorem dX4_sheet_14 : decode cX4_sheet 14 = .ok (.iload_n 3, 1) := by decide +kernel
theorem dX4_sheet_15 : decode cX4_sheet 15 = .ok (.bipush 60, 2) := by decide +kernel
theorem dX4_sheet_17 : decode cX4_sheet 17 = .ok (.if_icmp .le 6, 3) := by decide +kernel
theorem dX4_sheet_20 : decode cX4_sheet 20 = .ok (.bipush (-2), 2) := by decide +kernel
theorem dX4_sheet_22 : decode cX4_sheet 22 = .ok (.ireturn, 1) := by decide +kernel
theorem dX4_sheet_23 : decode cX4_sheet 23 = .ok (.iload_n 3, 1) := by decide +kernel
theorem dX4_sheet_24 : decode cX4_sheet 24 = .ok (.ifCond .ge 12, 3) := by decide +kernel
theorem dX4_sheet_27 : decode cX4_sheet 27 = .ok (.aload_n 0, 1) := by decide +kernel
theorem dX4_sheet_28 : decode cX4_sheet 28 = .ok (.getfield 35, 3) := by decide +kernel
theorem dX4_sheet_31 : decode cX4_sheet 31 = .ok (.iconst 5, 1) := by decide +kernel
theorem dX4_sheet_32 : decode cX4_sheet 32 = .ok (.invokevirtual 217, 3) := by decide +kernel
theorem dX4_sheet_35 : decode cX4_sheet 35 = .ok (.ireturn, 1) := by decide +kernel
theorem dX4_sheet_36 : decode cX4_sheet 36 = .ok (.aload_n 0, 1) := by decide +kernel
theorem dX4_sheet_37 : decode cX4_sheet 37 = .ok (.getfield 35, 3) := by decide +kernel
theorem dX4_sheet_40 : decode cX4_sheet 40 = .ok (.iload_n 1, 1) := by decide +kernel
theorem dX4_sheet_41 : decode cX4_sheet 41 = .ok (.iload_n 2, 1) := by decide +kernel
theorem dX4_sheet_42 : decode cX4_sheet 42 = .ok (.iload_n 3, 1) := by decide +kernel
theorem dX4_sheet_43 : decode cX4_sheet 43 = .ok (.invokevirtual 220, 3) := by decide +kernel
theorem dX4_sheet_46 : decode cX4_sheet 46 = .ok (.iload_n 3, 1) := by decide +kernel
theorem dX4_sheet_47 : decode cX4_sheet 47 = .ok (.ireturn, 1) := by decide +kernel
theorem dX4_lose_0 : decode cX4_lose 0 = .ok (.aload_n 0, 1) := by decide +kernel
theorem dX4_lose_1 : decode cX4_lose 1 = .ok (.getfield 35, 3) := by decide +kernel
theorem dX4_lose_4 : decode cX4_lose 4 = .ok (.iload_n 1, 1) := by decide +kernel
theorem dX4_lose_5 : decode cX4_lose 5 = .ok (.invokevirtual 87, 3) := by decide +kernel
theorem dX4_lose_8 : decode cX4_lose 8 = .ok (.istore_n 2, 1) := by decide +kernel
theorem dX4_lose_9 : decode cX4_lose 9 = .ok (.iload_n 2, 1) := by decide +kernel
theorem dX4_lose_10 : decode cX4_lose 10 = .ok (.ifCond .eq 5, 3) := by decide +kernel
theorem dX4_lose_13 : decode cX4_lose 13 = .ok (.iload_n 2, 1) := by decide +kernel
theorem dX4_lose_14 : decode cX4_lose 14 = .ok (.ireturn, 1) := by decide +kernel
theorem dX4_lose_15 : decode cX4_lose 15 = .ok (.aload_n 0, 1) := by decide +kernel
theorem dX4_lose_16 : decode cX4_lose 16 = .ok (.getfield 35, 3) := by decide +kernel
theorem dX4_lose_19 : decode cX4_lose 19 = .ok (.getfield 224, 3) := by decide +kernel
theorem dX4_lose_22 : decode cX4_lose 22 = .ok (.iload_n 1, 1) := by decide +kernel
theorem dX4_lose_23 : decode cX4_lose 23 = .ok (.iconst (-1), 1) := by decide +kernel
theorem dX4_lose_24 : decode cX4_lose 24 = .ok (.iastore, 1) := by decide +kernel
theorem dX4_lose_25 : decode cX4_lose 25 = .ok (.aload_n 0, 1) := by decide +kernel
theorem dX4_lose_26 : decode cX4_lose 26 = .ok (.getfield 35, 3) := by decide +kernel
theorem dX4_lose_29 : decode cX4_lose 29 = .ok (.getfield 91, 3) := by decide +kernel
theorem dX4_lose_32 : decode cX4_lose 32 = .ok (.iload_n 1, 1) := by decide +kernel
theorem dX4_lose_33 : decode cX4_lose 33 = .ok (.iaload, 1) := by decide +kernel
theorem dX4_lose_34 : decode cX4_lose 34 = .ok (.ireturn, 1) := by decide +kernel
theorem dX4_lay_0 : decode cX4_lay 0 = .ok (.aload_n 0, 1) := by decide +kernel
theorem dX4_lay_1 : decode cX4_lay 1 = .ok (.getfield 35, 3) := by decide +kernel
theorem dX4_lay_4 : decode cX4_lay 4 = .ok (.iload_n 1, 1) := by decide +kernel
theorem dX4_lay_5 : decode cX4_lay 5 = .ok (.iload_n 2, 1) := by decide +kernel
theorem dX4_lay_6 : decode cX4_lay 6 = .ok (.iload_n 3, 1) := by decide +kernel
theorem dX4_lay_7 : decode cX4_lay 7 = .ok (.invokevirtual 227, 3) := by decide +kernel
theorem dX4_lay_10 : decode cX4_lay 10 = .ok (.istore 5, 2) := by decide +kernel
theorem dX4_lay_12 : decode cX4_lay 12 = .ok (.iload 5, 2) := by decide +kernel
theorem dX4_lay_14 : decode cX4_lay 14 = .ok (.ifCond .eq 6, 3) := by decide +kernel
theorem dX4_lay_17 : decode cX4_lay 17 = .ok (.iload 5, 2) := by decide +kernel
theorem dX4_lay_19 : decode cX4_lay 19 = .ok (.ireturn, 1) := by decide +kernel
theorem dX4_lay_20 : decode cX4_lay 20 = .ok (.aload_n 0, 1) := by decide +kernel
theorem dX4_lay_21 : decode cX4_lay 21 = .ok (.getfield 35, 3) := by decide +kernel
theorem dX4_lay_24 : decode cX4_lay 24 = .ok (.iload_n 1, 1) := by decide +kernel
theorem dX4_lay_25 : decode cX4_lay 25 = .ok (.iload_n 3, 1) := by decide +kernel
theorem dX4_lay_26 : decode cX4_lay 26 = .ok (.iload 4, 2) := by decide +kernel
theorem dX4_lay_28 : decode cX4_lay 28 = .ok (.invokevirtual 231, 3) := by decide +kernel
theorem dX4_lay_31 : decode cX4_lay 31 = .ok (.iconst 1, 1) := by decide +kernel
theorem dX4_lay_32 : decode cX4_lay 32 = .ok (.ireturn, 1) := by decide +kernel
theorem dX4_get_0 : decode cX4_get 0 = .ok (.aload_n 0, 1) := by decide +kernel
theorem dX4_get_1 : decode cX4_get 1 = .ok (.getfield 35, 3) := by decide +kernel
theorem dX4_get_4 : decode cX4_get 4 = .ok (.iload_n 1, 1) := by decide +kernel
theorem dX4_get_5 : decode cX4_get 5 = .ok (.iload_n 2, 1) := by decide +kernel
theorem dX4_get_6 : decode cX4_get 6 = .ok (.iload_n 3, 1) := by decide +kernel
theorem dX4_get_7 : decode cX4_get 7 = .ok (.invokevirtual 227, 3) := by decide +kernel
theorem dX4_get_10 : decode cX4_get 10 = .ok (.ifCond .eq 6, 3) := by decide +kernel
theorem dX4_get_13 : decode cX4_get 13 = .ok (.ldc 236, 2) := by decide +kernel
theorem dX4_get_15 : decode cX4_get 15 = .ok (.ireturn, 1) := by decide +kernel
theorem dX4_get_16 : decode cX4_get 16 = .ok (.aload_n 0, 1) := by decide +kernel
theorem dX4_get_17 : decode cX4_get 17 = .ok (.getfield 35, 3) := by decide +kernel
theorem dX4_get_20 : decode cX4_get 20 = .ok (.getfield 98, 3) := by decide +kernel
theorem dX4_get_23 : decode cX4_get 23 = .ok (.iload_n 1, 1) := by decide +kernel
theorem dX4_get_24 : decode cX4_get 24 = .ok (.aaload, 1) := by decide +kernel
theorem dX4_get_25 : decode cX4_get 25 = .ok (.iload_n 3, 1) := by decide +kernel
theorem dX4_get_26 : decode cX4_get 26 = .ok (.iaload, 1) := by decide +kernel
theorem dX4_get_27 : decode cX4_get 27 = .ok (.ireturn, 1) := by decide +kernel
theorem dX4_copy_0 : decode cX4_copy 0 = .ok (.iload_n 1, 1) := by decide +kernel
theorem dX4_copy_1 : decode cX4_copy 1 = .ok (.invokestatic 211, 3) := by decide +kernel
theorem dX4_copy_4 : decode cX4_copy 4 = .ok (.ifCond .ne 10, 3) := by decide +kernel
theorem dX4_copy_7 : decode cX4_copy 7 = .ok (.iload_n 3, 1) := by decide +kernel
theorem dX4_copy_8 : decode cX4_copy 8 = .ok (.invokestatic 211, 3) := by decide +kernel
theorem dX4_copy_11 : decode cX4_copy 11 = .ok (.ifCond .eq 6, 3) := by decide +kernel
theorem dX4_copy_14 : decode cX4_copy 14 = .ok (.bipush (-2), 2) := by decide +kernel
theorem dX4_copy_16 : decode cX4_copy 16 = .ok (.ireturn, 1) := by decide +kernel
theorem dX4_copy_17 : decode cX4_copy 17 = .ok (.aload_n 0, 1) := by decide +kernel
theorem dX4_copy_18 : decode cX4_copy 18 = .ok (.getfield 35, 3) := by decide +kernel
theorem dX4_copy_21 : decode cX4_copy 21 = .ok (.getfield 224, 3) := by decide +kernel
theorem dX4_copy_24 : decode cX4_copy 24 = .ok (.iload_n 1, 1) := by decide +kernel
theorem dX4_copy_25 : decode cX4_copy 25 = .ok (.iaload, 1) := by decide +kernel
theorem dX4_copy_26 : decode cX4_copy 26 = .ok (.iconst (-1), 1) := by decide +kernel
theorem dX4_copy_27 : decode cX4_copy 27 = .ok (.if_icmp .eq 16, 3) := by decide +kernel
theorem dX4_copy_30 : decode cX4_copy 30 = .ok (.aload_n 0, 1) := by decide +kernel
theorem dX4_copy_31 : decode cX4_copy 31 = .ok (.getfield 35, 3) := by decide +kernel
theorem dX4_copy_34 : decode cX4_copy 34 = .ok (.getfield 224, 3) := by decide +kernel
theorem dX4_copy_37 : decode cX4_copy 37 = .ok (.iload_n 3, 1) := by decide +kernel
theorem dX4_copy_38 : decode cX4_copy 38 = .ok (.iaload, 1) := by decide +kernel
theorem dX4_copy_39 : decode cX4_copy 39 = .ok (.iconst (-1), 1) := by decide +kernel
theorem dX4_copy_40 : decode cX4_copy 40 = .ok (.if_icmp .ne 12, 3) := by decide +kernel
theorem dX4_copy_43 : decode cX4_copy 43 = .ok (.aload_n 0, 1) := by decide +kernel
theorem dX4_copy_44 : decode cX4_copy 44 = .ok (.getfield 35, 3) := by decide +kernel
theorem dX4_copy_47 : decode cX4_copy 47 = .ok (.iconst 1, 1) := by decide +kernel
theorem dX4_copy_48 : decode cX4_copy 48 = .ok (.invokevirtual 217, 3) := by decide +kernel
theorem dX4_copy_51 : decode cX4_copy 51 = .ok (.ireturn, 1) := by decide +kernel
theorem dX4_copy_52 : decode cX4_copy 52 = .ok (.aload_n 0, 1) := by decide +kernel
theorem dX4_copy_53 : decode cX4_copy 53 = .ok (.getfield 35, 3) := by decide +kernel
theorem dX4_copy_56 : decode cX4_copy 56 = .ok (.getfield 224, 3) := by decide +kernel
theorem dX4_copy_59 : decode cX4_copy 59 = .ok (.iload_n 1, 1) := by decide +kernel
theorem dX4_copy_60 : decode cX4_copy 60 = .ok (.iaload, 1) := by decide +kernel
theorem dX4_copy_61 : decode cX4_copy 61 = .ok (.aload_n 0, 1) := by decide +kernel
theorem dX4_copy_62 : decode cX4_copy 62 = .ok (.getfield 35, 3) := by decide +kernel
theorem dX4_copy_65 : decode cX4_copy 65 = .ok (.getfield 224, 3) := by decide +kernel
theorem dX4_copy_68 : decode cX4_copy 68 = .ok (.iload_n 3, 1) := by decide +kernel
theorem dX4_copy_69 : decode cX4_copy 69 = .ok (.iaload, 1) := by decide +kernel
theorem dX4_copy_70 : decode cX4_copy 70 = .ok (.if_icmp .eq 12, 3) := by decide +kernel
theorem dX4_copy_73 : decode cX4_copy 73 = .ok (.aload_n 0, 1) := by decide +kernel
theorem dX4_copy_74 : decode cX4_copy 74 = .ok (.getfield 35, 3) := by decide +kernel
theorem dX4_copy_77 : decode cX4_copy 77 = .ok (.iconst 4, 1) := by decide +kernel
theorem dX4_copy_78 : decode cX4_copy 78 = .ok (.invokevirtual 217, 3) := by decide +kernel
theorem dX4_copy_81 : decode cX4_copy 81 = .ok (.ireturn, 1) := by decide +kernel
theorem dX4_copy_82 : decode cX4_copy 82 = .ok (.aload_n 0, 1) := by decide +kernel
theorem dX4_copy_83 : decode cX4_copy 83 = .ok (.getfield 35, 3) := by decide +kernel
theorem dX4_copy_86 : decode cX4_copy 86 = .ok (.iload_n 1, 1) := by decide +kernel
theorem dX4_copy_87 : decode cX4_copy 87 = .ok (.iload_n 2, 1) := by decide +kernel
theorem dX4_copy_88 : decode cX4_copy 88 = .ok (.iload 5, 2) := by decide +kernel
theorem dX4_copy_90 : decode cX4_copy 90 = .ok (.invokevirtual 237, 3) := by decide +kernel
theorem dX4_copy_93 : decode cX4_copy 93 = .ok (.ifCond .ne 18, 3) := by decide +kernel
theorem dX4_copy_96 : decode cX4_copy 96 = .ok (.aload_n 0, 1) := by decide +kernel
theorem dX4_copy_97 : decode cX4_copy 97 = .ok (.getfield 35, 3) := by decide +kernel
theorem dX4_copy_100 : decode cX4_copy 100 = .ok (.iload_n 3, 1) := by decide +kernel
theorem dX4_copy_101 : decode cX4_copy 101 = .ok (.iload 4, 2) := by decide +kernel
theorem dX4_copy_103 : decode cX4_copy 103 = .ok (.iload 5, 2) := by decide +kernel
theorem dX4_copy_105 : decode cX4_copy 105 = .ok (.invokevirtual 237, 3) := by decide +kernel
theorem dX4_copy_108 : decode cX4_copy 108 = .ok (.ifCond .eq 12, 3) := by decide +kernel
theorem dX4_copy_111 : decode cX4_copy 111 = .ok (.aload_n 0, 1) := by decide +kernel
theorem dX4_copy_112 : decode cX4_copy 112 = .ok (.getfield 35, 3) := by decide +kernel
theorem dX4_copy_115 : decode cX4_copy 115 = .ok (.iconst 2, 1) := by decide +kernel
theorem dX4_copy_116 : decode cX4_copy 116 = .ok (.invokevirtual 217, 3) := by decide +kernel
theorem dX4_copy_119 : decode cX4_copy 119 = .ok (.ireturn, 1) := by decide +kernel
theorem dX4_copy_120 : decode cX4_copy 120 = .ok (.aload_n 0, 1) := by decide +kernel
theorem dX4_copy_121 : decode cX4_copy 121 = .ok (.getfield 35, 3) := by decide +kernel
theorem dX4_copy_124 : decode cX4_copy 124 = .ok (.getfield 98, 3) := by decide +kernel
theorem dX4_copy_127 : decode cX4_copy 127 = .ok (.iload_n 1, 1) := by decide +kernel
theorem dX4_copy_128 : decode cX4_copy 128 = .ok (.aaload, 1) := by decide +kernel
theorem dX4_copy_129 : decode cX4_copy 129 = .ok (.iload_n 2, 1) := by decide +kernel
theorem dX4_copy_130 : decode cX4_copy 130 = .ok (.aload_n 0, 1) := by decide +kernel
theorem dX4_copy_131 : decode cX4_copy 131 = .ok (.getfield 35, 3) := by decide +kernel
theorem dX4_copy_134 : decode cX4_copy 134 = .ok (.getfield 98, 3) := by decide +kernel
theorem dX4_copy_137 : decode cX4_copy 137 = .ok (.iload_n 3, 1) := by decide +kernel
theorem dX4_copy_138 : decode cX4_copy 138 = .ok (.aaload, 1) := by decide +kernel
theorem dX4_copy_139 : decode cX4_copy 139 = .ok (.iload 4, 2) := by decide +kernel
theorem dX4_copy_141 : decode cX4_copy 141 = .ok (.iload 5, 2) := by decide +kernel
theorem dX4_copy_143 : decode cX4_copy 143 = .ok (.invokestatic 241, 3) := by decide +kernel
theorem dX4_copy_146 : decode cX4_copy 146 = .ok (.iconst 1, 1) := by decide +kernel
theorem dX4_copy_147 : decode cX4_copy 147 = .ok (.ireturn, 1) := by decide +kernel
theorem dX4_write_0 : decode cX4_write 0 = .ok (.aload_n 0, 1) := by decide +kernel
theorem dX4_write_1 : decode cX4_write 1 = .ok (.getfield 35, 3) := by decide +kernel
theorem dX4_write_4 : decode cX4_write 4 = .ok (.iload_n 1, 1) := by decide +kernel
theorem dX4_write_5 : decode cX4_write 5 = .ok (.invokevirtual 87, 3) := by decide +kernel
theorem dX4_write_8 : decode cX4_write 8 = .ok (.istore_n 2, 1) := by decide +kernel
theorem dX4_write_9 : decode cX4_write 9 = .ok (.iload_n 2, 1) := by decide +kernel
theorem dX4_write_10 : decode cX4_write 10 = .ok (.ifCond .eq 5, 3) := by decide +kernel
theorem dX4_write_13 : decode cX4_write 13 = .ok (.iload_n 2, 1) := by decide +kernel
theorem dX4_write_14 : decode cX4_write 14 = .ok (.ireturn, 1) := by decide +kernel
theorem dX4_write_15 : decode cX4_write 15 = .ok (.aload_n 0, 1) := by decide +kernel
theorem dX4_write_16 : decode cX4_write 16 = .ok (.invokevirtual 101, 3) := by decide +kernel
theorem dX4_write_19 : decode cX4_write 19 = .ok (.astore_n 3, 1) := by decide +kernel
theorem dX4_write_20 : decode cX4_write 20 = .ok (.aload_n 0, 1) := by decide +kernel
theorem dX4_write_21 : decode cX4_write 21 = .ok (.getfield 35, 3) := by decide +kernel
theorem dX4_write_24 : decode cX4_write 24 = .ok (.getfield 91, 3) := by decide +kernel
theorem dX4_write_27 : decode cX4_write 27 = .ok (.iload_n 1, 1) := by decide +kernel
theorem dX4_write_28 : decode cX4_write 28 = .ok (.iaload, 1) := by decide +kernel
theorem dX4_write_29 : decode cX4_write 29 = .ok (.aload_n 0, 1) := by decide +kernel
theorem dX4_write_30 : decode cX4_write 30 = .ok (.getfield 12, 3) := by decide +kernel
theorem dX4_write_33 : decode cX4_write 33 = .ok (.getfield 247, 3) := by decide +kernel
theorem dX4_write_36 : decode cX4_write 36 = .ok (.invokestatic 92, 3) := by decide +kernel
theorem dX4_write_39 : decode cX4_write 39 = .ok (.istore 4, 2) := by decide +kernel
theorem dX4_write_41 : decode cX4_write 41 = .ok (.iconst 0, 1) := by decide +kernel
theorem dX4_write_42 : decode cX4_write 42 = .ok (.istore 5, 2) := by decide +kernel
theorem dX4_write_44 : decode cX4_write 44 = .ok (.iload 5, 2) := by decide +kernel
theorem dX4_write_46 : decode cX4_write 46 = .ok (.iload 4, 2) := by decide +kernel
theorem dX4_write_48 : decode cX4_write 48 = .ok (.if_icmp .ge 25, 3) := by decide +kernel
theorem dX4_write_51 : decode cX4_write 51 = .ok (.aload_n 0, 1) := by decide +kernel
theorem dX4_write_52 : decode cX4_write 52 = .ok (.getfield 35, 3) := by decide +kernel
theorem dX4_write_55 : decode cX4_write 55 = .ok (.iload_n 1, 1) := by decide +kernel
theorem dX4_write_56 : decode cX4_write 56 = .ok (.iload 5, 2) := by decide +kernel
theorem dX4_write_58 : decode cX4_write 58 = .ok (.aload_n 3, 1) := by decide +kernel
theorem dX4_write_59 : decode cX4_write 59 = .ok (.iload 5, 2) := by decide +kernel
theorem dX4_write_61 : decode cX4_write 61 = .ok (.invokevirtual 125, 3) := by decide +kernel
theorem dX4_write_64 : decode cX4_write 64 = .ok (.invokevirtual 231, 3) := by decide +kernel
theorem dX4_write_67 : decode cX4_write 67 = .ok (.iinc 5 1, 3) := by decide +kernel
theorem dX4_write_70 : decode cX4_write 70 = .ok (.goto (-26), 3) := by decide +kernel
theorem dX4_write_73 : decode cX4_write 73 = .ok (.iload 4, 2) := by decide +kernel
theorem dX4_write_75 : decode cX4_write 75 = .ok (.ireturn, 1) := by decide +kernel
theorem dX4_count_0 : decode cX4_count 0 = .ok (.iload_n 1, 1) := by decide +kernel
theorem dX4_count_1 : decode cX4_count 1 = .ok (.tableswitch 136 0 8 #[51, 59, 67, 75, 91, 102, 113, 120, 128], 51) := by decide +kernel
theorem dX4_count_52 : decode cX4_count 52 = .ok (.aload_n 0, 1) := by decide +kernel
theorem dX4_count_53 : decode cX4_count 53 = .ok (.getfield 12, 3) := by decide +kernel
theorem dX4_count_56 : decode cX4_count 56 = .ok (.getfield 247, 3) := by decide +kernel
theorem dX4_count_59 : decode cX4_count 59 = .ok (.ireturn, 1) := by decide +kernel
theorem dX4_count_60 : decode cX4_count 60 = .ok (.aload_n 0, 1) := by decide +kernel
theorem dX4_count_61 : decode cX4_count 61 = .ok (.getfield 12, 3) := by decide +kernel
theorem dX4_count_64 : decode cX4_count 64 = .ok (.getfield 77, 3) := by decide +kernel
theorem dX4_count_67 : decode cX4_count 67 = .ok (.ireturn, 1) := by decide +kernel
theorem dX4_count_68 : decode cX4_count 68 = .ok (.aload_n 0, 1) := by decide +kernel
theorem dX4_count_69 : decode cX4_count 69 = .ok (.getfield 12, 3) := by decide +kernel
theorem dX4_count_72 : decode cX4_count 72 = .ok (.getfield 49, 3) := by decide +kernel
theorem dX4_count_75 : decode cX4_count 75 = .ok (.ireturn, 1) := by decide +kernel
theorem dX4_count_76 : decode cX4_count 76 = .ok (.aload_n 0, 1) := by decide +kernel
theorem dX4_count_77 : decode cX4_count 77 = .ok (.getfield 43, 3) := by decide +kernel
theorem dX4_count_80 : decode cX4_count 80 = .ok (.iconst 0, 1) := by decide +kernel
theorem dX4_count_81 : decode cX4_count 81 = .ok (.aload_n 0, 1) := by decide +kernel
theorem dX4_count_82 : decode cX4_count 82 = .ok (.getfield 12, 3) := by decide +kernel
theorem dX4_count_85 : decode cX4_count 85 = .ok (.getfield 247, 3) := by decide +kernel
theorem dX4_count_88 : decode cX4_count 88 = .ok (.invokestatic 250, 3) := by decide +kernel
theorem dX4_count_91 : decode cX4_count 91 = .ok (.ireturn, 1) := by decide +kernel
theorem dX4_count_92 : decode cX4_count 92 = .ok (.aload_n 0, 1) := by decide +kernel
theorem dX4_count_93 : decode cX4_count 93 = .ok (.getfield 46, 3) := by decide +kernel
theorem dX4_count_96 : decode cX4_count 96 = .ok (.iconst 0, 1) := by decide +kernel
theorem dX4_count_97 : decode cX4_count 97 = .ok (.bipush 6, 2) := by decide +kernel
theorem dX4_count_99 : decode cX4_count 99 = .ok (.invokestatic 250, 3) := by decide +kernel
theorem dX4_count_102 : decode cX4_count 102 = .ok (.ireturn, 1) := by decide +kernel
theorem dX4_count_103 : decode cX4_count 103 = .ok (.aload_n 0, 1) := by decide +kernel
theorem dX4_count_104 : decode cX4_count 104 = .ok (.getfield 39, 3) := by decide +kernel
theorem dX4_count_107 : decode cX4_count 107 = .ok (.iconst 5, 1) := by decide +kernel
theorem dX4_count_108 : decode cX4_count 108 = .ok (.bipush 8, 2) := by decide +kernel
theorem dX4_count_110 : decode cX4_count 110 = .ok (.invokestatic 250, 3) := by decide +kernel
theorem dX4_count_113 : decode cX4_count 113 = .ok (.ireturn, 1) := by decide +kernel
theorem dX4_count_114 : decode cX4_count 114 = .ok (.aload_n 0, 1) := by decide +kernel
theorem dX4_count_115 : decode cX4_count 115 = .ok (.getfield 39, 3) := by decide +kernel
theorem dX4_count_118 : decode cX4_count 118 = .ok (.iconst 1, 1) := by decide +kernel
theorem dX4_count_119 : decode cX4_count 119 = .ok (.iaload, 1) := by decide +kernel
theorem dX4_count_120 : decode cX4_count 120 = .ok (.ireturn, 1) := by decide +kernel
theorem dX4_count_121 : decode cX4_count 121 = .ok (.aload_n 0, 1) := by decide +kernel
theorem dX4_count_122 : decode cX4_count 122 = .ok (.getfield 12, 3) := by decide +kernel
theorem dX4_count_125 : decode cX4_count 125 = .ok (.invokevirtual 254, 3) := by decide +kernel
theorem dX4_count_128 : decode cX4_count 128 = .ok (.ireturn, 1) := by decide +kernel
theorem dX4_count_129 : decode cX4_count 129 = .ok (.aload_n 0, 1) := by decide +kernel
theorem dX4_count_130 : decode cX4_count 130 = .ok (.getfield 35, 3) := by decide +kernel
theorem dX4_count_133 : decode cX4_count 133 = .ok (.getfield 257, 3) := by decide +kernel
theorem dX4_count_136 : decode cX4_count 136 = .ok (.ireturn, 1) := by decide +kernel
theorem dX4_count_137 : decode cX4_count 137 = .ok (.bipush (-2), 2) := by decide +kernel
theorem dX4_count_139 : decode cX4_count 139 = .ok (.ireturn, 1) := by decide +kernel
theorem dX4_digest_0 : decode cX4_digest 0 = .ok (.ldc2_w 260, 3) := by decide +kernel
theorem dX4_digest_3 : decode cX4_digest 3 = .ok (.lstore_n 1, 1) := by decide +kernel
theorem dX4_digest_4 : decode cX4_digest 4 = .ok (.iconst 0, 1) := by decide +kernel
theorem dX4_digest_5 : decode cX4_digest 5 = .ok (.istore_n 3, 1) := by decide +kernel
theorem dX4_digest_6 : decode cX4_digest 6 = .ok (.iload_n 3, 1) := by decide +kernel
theorem dX4_digest_7 : decode cX4_digest 7 = .ok (.bipush 7, 2) := by decide +kernel
theorem dX4_digest_9 : decode cX4_digest 9 = .ok (.if_icmp .gt 22, 3) := by decide +kernel
theorem dX4_digest_12 : decode cX4_digest 12 = .ok (.ldc2_w 262, 3) := by decide +kernel
theorem dX4_digest_15 : decode cX4_digest 15 = .ok (.lload_n 1, 1) := by decide +kernel
theorem dX4_digest_16 : decode cX4_digest 16 = .ok (.lmul, 1) := by decide +kernel
theorem dX4_digest_17 : decode cX4_digest 17 = .ok (.aload_n 0, 1) := by decide +kernel
theorem dX4_digest_18 : decode cX4_digest 18 = .ok (.iload_n 3, 1) := by decide +kernel
theorem dX4_digest_19 : decode cX4_digest 19 = .ok (.invokevirtual 264, 3) := by decide +kernel
theorem dX4_digest_22 : decode cX4_digest 22 = .ok (.i2l, 1) := by decide +kernel
theorem dX4_digest_23 : decode cX4_digest 23 = .ok (.ladd, 1) := by decide +kernel
theorem dX4_digest_24 : decode cX4_digest 24 = .ok (.lstore_n 1, 1) := by decide +kernel
theorem dX4_digest_25 : decode cX4_digest 25 = .ok (.iinc 3 1, 3) := by decide +kernel
theorem dX4_digest_28 : decode cX4_digest 28 = .ok (.goto (-22), 3) := by decide +kernel
theorem dX4_digest_31 : decode cX4_digest 31 = .ok (.ldc2_w 262, 3) := by decide +kernel
theorem dX4_digest_34 : decode cX4_digest 34 = .ok (.lload_n 1, 1) := by decide +kernel
theorem dX4_digest_35 : decode cX4_digest 35 = .ok (.lmul, 1) := by decide +kernel
theorem dX4_digest_36 : decode cX4_digest 36 = .ok (.aload_n 0, 1) := by decide +kernel
theorem dX4_digest_37 : decode cX4_digest 37 = .ok (.invokevirtual 267, 3) := by decide +kernel
theorem dX4_digest_40 : decode cX4_digest 40 = .ok (.i2l, 1) := by decide +kernel
theorem dX4_digest_41 : decode cX4_digest 41 = .ok (.ladd, 1) := by decide +kernel
theorem dX4_digest_42 : decode cX4_digest 42 = .ok (.lstore_n 1, 1) := by decide +kernel
theorem dX4_digest_43 : decode cX4_digest 43 = .ok (.aload_n 0, 1) := by decide +kernel
theorem dX4_digest_44 : decode cX4_digest 44 = .ok (.iconst 0, 1) := by decide +kernel
theorem dX4_digest_45 : decode cX4_digest 45 = .ok (.invokevirtual 270, 3) := by decide +kernel
theorem dX4_digest_48 : decode cX4_digest 48 = .ok (.istore_n 3, 1) := by decide +kernel
theorem dX4_digest_49 : decode cX4_digest 49 = .ok (.aload_n 0, 1) := by decide +kernel
theorem dX4_digest_50 : decode cX4_digest 50 = .ok (.iconst 1, 1) := by decide +kernel
theorem dX4_digest_51 : decode cX4_digest 51 = .ok (.invokevirtual 270, 3) := by decide +kernel
theorem dX4_digest_54 : decode cX4_digest 54 = .ok (.istore 4, 2) := by decide +kernel
theorem dX4_digest_56 : decode cX4_digest 56 = .ok (.iconst 0, 1) := by decide +kernel
theorem dX4_digest_57 : decode cX4_digest 57 = .ok (.istore 5, 2) := by decide +kernel
theorem dX4_digest_59 : decode cX4_digest 59 = .ok (.iload 5, 2) := by decide +kernel
theorem dX4_digest_61 : decode cX4_digest 61 = .ok (.aload_n 0, 1) := by decide +kernel
theorem dX4_digest_62 : decode cX4_digest 62 = .ok (.getfield 12, 3) := by decide +kernel
theorem dX4_digest_65 : decode cX4_digest 65 = .ok (.getfield 247, 3) := by decide +kernel
theorem dX4_digest_68 : decode cX4_digest 68 = .ok (.if_icmp .ge 102, 3) := by decide +kernel
theorem dX4_digest_71 : decode cX4_digest 71 = .ok (.ldc2_w 262, 3) := by decide +kernel
theorem dX4_digest_74 : decode cX4_digest 74 = .ok (.lload_n 1, 1) := by decide +kernel
theorem dX4_digest_75 : decode cX4_digest 75 = .ok (.lmul, 1) := by decide +kernel
theorem dX4_digest_76 : decode cX4_digest 76 = .ok (.aload_n 0, 1) := by decide +kernel
theorem dX4_digest_77 : decode cX4_digest 77 = .ok (.iload 5, 2) := by decide +kernel
theorem dX4_digest_79 : decode cX4_digest 79 = .ok (.iconst 0, 1) := by decide +kernel
theorem dX4_digest_80 : decode cX4_digest 80 = .ok (.invokevirtual 273, 3) := by decide +kernel
theorem dX4_digest_83 : decode cX4_digest 83 = .ok (.ladd, 1) := by decide +kernel
theorem dX4_digest_84 : decode cX4_digest 84 = .ok (.lstore_n 1, 1) := by decide +kernel
theorem dX4_digest_85 : decode cX4_digest 85 = .ok (.ldc2_w 262, 3) := by decide +kernel
theorem dX4_digest_88 : decode cX4_digest 88 = .ok (.lload_n 1, 1) := by decide +kernel
theorem dX4_digest_89 : decode cX4_digest 89 = .ok (.lmul, 1) := by decide +kernel
theorem dX4_digest_90 : decode cX4_digest 90 = .ok (.aload_n 0, 1) := by decide +kernel
theorem dX4_digest_91 : decode cX4_digest 91 = .ok (.iload 5, 2) := by decide +kernel
theorem dX4_digest_93 : decode cX4_digest 93 = .ok (.iconst 1, 1) := by decide +kernel
theorem dX4_digest_94 : decode cX4_digest 94 = .ok (.invokevirtual 273, 3) := by decide +kernel
theorem dX4_digest_97 : decode cX4_digest 97 = .ok (.ladd, 1) := by decide +kernel
theorem dX4_digest_98 : decode cX4_digest 98 = .ok (.lstore_n 1, 1) := by decide +kernel
theorem dX4_digest_99 : decode cX4_digest 99 = .ok (.ldc2_w 262, 3) := by decide +kernel
theorem dX4_digest_102 : decode cX4_digest 102 = .ok (.lload_n 1, 1) := by decide +kernel
theorem dX4_digest_103 : decode cX4_digest 103 = .ok (.lmul, 1) := by decide +kernel
theorem dX4_digest_104 : decode cX4_digest 104 = .ok (.aload_n 0, 1) := by decide +kernel
theorem dX4_digest_105 : decode cX4_digest 105 = .ok (.iload 5, 2) := by decide +kernel
theorem dX4_digest_107 : decode cX4_digest 107 = .ok (.invokevirtual 277, 3) := by decide +kernel
theorem dX4_digest_110 : decode cX4_digest 110 = .ok (.i2l, 1) := by decide +kernel
theorem dX4_digest_111 : decode cX4_digest 111 = .ok (.ladd, 1) := by decide +kernel
theorem dX4_digest_112 : decode cX4_digest 112 = .ok (.lstore_n 1, 1) := by decide +kernel
theorem dX4_digest_113 : decode cX4_digest 113 = .ok (.ldc2_w 262, 3) := by decide +kernel
theorem dX4_digest_116 : decode cX4_digest 116 = .ok (.lload_n 1, 1) := by decide +kernel
theorem dX4_digest_117 : decode cX4_digest 117 = .ok (.lmul, 1) := by decide +kernel
theorem dX4_digest_118 : decode cX4_digest 118 = .ok (.aload_n 0, 1) := by decide +kernel
theorem dX4_digest_119 : decode cX4_digest 119 = .ok (.iload 5, 2) := by decide +kernel
theorem dX4_digest_121 : decode cX4_digest 121 = .ok (.invokevirtual 280, 3) := by decide +kernel
theorem dX4_digest_124 : decode cX4_digest 124 = .ok (.i2l, 1) := by decide +kernel
theorem dX4_digest_125 : decode cX4_digest 125 = .ok (.ladd, 1) := by decide +kernel
theorem dX4_digest_126 : decode cX4_digest 126 = .ok (.lstore_n 1, 1) := by decide +kernel
theorem dX4_digest_127 : decode cX4_digest 127 = .ok (.ldc2_w 262, 3) := by decide +kernel
theorem dX4_digest_130 : decode cX4_digest 130 = .ok (.lload_n 1, 1) := by decide +kernel
theorem dX4_digest_131 : decode cX4_digest 131 = .ok (.lmul, 1) := by decide +kernel
theorem dX4_digest_132 : decode cX4_digest 132 = .ok (.aload_n 0, 1) := by decide +kernel
theorem dX4_digest_133 : decode cX4_digest 133 = .ok (.getfield 28, 3) := by decide +kernel
theorem dX4_digest_136 : decode cX4_digest 136 = .ok (.iload_n 3, 1) := by decide +kernel
theorem dX4_digest_137 : decode cX4_digest 137 = .ok (.iload 5, 2) := by decide +kernel
theorem dX4_digest_139 : decode cX4_digest 139 = .ok (.invokevirtual 283, 3) := by decide +kernel
theorem dX4_digest_142 : decode cX4_digest 142 = .ok (.i2l, 1) := by decide +kernel
theorem dX4_digest_143 : decode cX4_digest 143 = .ok (.ladd, 1) := by decide +kernel
theorem dX4_digest_144 : decode cX4_digest 144 = .ok (.lstore_n 1, 1) := by decide +kernel
theorem dX4_digest_145 : decode cX4_digest 145 = .ok (.ldc2_w 262, 3) := by decide +kernel
theorem dX4_digest_148 : decode cX4_digest 148 = .ok (.lload_n 1, 1) := by decide +kernel
theorem dX4_digest_149 : decode cX4_digest 149 = .ok (.lmul, 1) := by decide +kernel
theorem dX4_digest_150 : decode cX4_digest 150 = .ok (.aload_n 0, 1) := by decide +kernel
theorem dX4_digest_151 : decode cX4_digest 151 = .ok (.getfield 28, 3) := by decide +kernel
theorem dX4_digest_154 : decode cX4_digest 154 = .ok (.iload 4, 2) := by decide +kernel
theorem dX4_digest_156 : decode cX4_digest 156 = .ok (.iload 5, 2) := by decide +kernel
theorem dX4_digest_158 : decode cX4_digest 158 = .ok (.invokevirtual 283, 3) := by decide +kernel
theorem dX4_digest_161 : decode cX4_digest 161 = .ok (.i2l, 1) := by decide +kernel
theorem dX4_digest_162 : decode cX4_digest 162 = .ok (.ladd, 1) := by decide +kernel
theorem dX4_digest_163 : decode cX4_digest 163 = .ok (.lstore_n 1, 1) := by decide +kernel
theorem dX4_digest_164 : decode cX4_digest 164 = .ok (.iinc 5 1, 3) := by decide +kernel
theorem dX4_digest_167 : decode cX4_digest 167 = .ok (.goto (-108), 3) := by decide +kernel
theorem dX4_digest_170 : decode cX4_digest 170 = .ok (.iconst 0, 1) := by decide +kernel
theorem dX4_digest_171 : decode cX4_digest 171 = .ok (.istore 5, 2) := by decide +kernel
theorem dX4_digest_173 : decode cX4_digest 173 = .ok (.iload 5, 2) := by decide +kernel
theorem dX4_digest_175 : decode cX4_digest 175 = .ok (.iconst 1, 1) := by decide +kernel
theorem dX4_digest_176 : decode cX4_digest 176 = .ok (.if_icmp .gt 37, 3) := by decide +kernel
theorem dX4_digest_179 : decode cX4_digest 179 = .ok (.ldc2_w 262, 3) := by decide +kernel
theorem dX4_digest_182 : decode cX4_digest 182 = .ok (.lload_n 1, 1) := by decide +kernel
theorem dX4_digest_183 : decode cX4_digest 183 = .ok (.lmul, 1) := by decide +kernel
theorem dX4_digest_184 : decode cX4_digest 184 = .ok (.aload_n 0, 1) := by decide +kernel
theorem dX4_digest_185 : decode cX4_digest 185 = .ok (.iload 5, 2) := by decide +kernel
theorem dX4_digest_187 : decode cX4_digest 187 = .ok (.iconst 0, 1) := by decide +kernel
theorem dX4_digest_188 : decode cX4_digest 188 = .ok (.invokevirtual 286, 3) := by decide +kernel
theorem dX4_digest_191 : decode cX4_digest 191 = .ok (.ladd, 1) := by decide +kernel
theorem dX4_digest_192 : decode cX4_digest 192 = .ok (.lstore_n 1, 1) := by decide +kernel
theorem dX4_digest_193 : decode cX4_digest 193 = .ok (.ldc2_w 262, 3) := by decide +kernel
theorem dX4_digest_196 : decode cX4_digest 196 = .ok (.lload_n 1, 1) := by decide +kernel
theorem dX4_digest_197 : decode cX4_digest 197 = .ok (.lmul, 1) := by decide +kernel
theorem dX4_digest_198 : decode cX4_digest 198 = .ok (.aload_n 0, 1) := by decide +kernel
theorem dX4_digest_199 : decode cX4_digest 199 = .ok (.iload 5, 2) := by decide +kernel
theorem dX4_digest_201 : decode cX4_digest 201 = .ok (.iconst 1, 1) := by decide +kernel
theorem dX4_digest_202 : decode cX4_digest 202 = .ok (.invokevirtual 286, 3) := by decide +kernel
theorem dX4_digest_205 : decode cX4_digest 205 = .ok (.ladd, 1) := by decide +kernel
theorem dX4_digest_206 : decode cX4_digest 206 = .ok (.lstore_n 1, 1) := by decide +kernel
theorem dX4_digest_207 : decode cX4_digest 207 = .ok (.iinc 5 1, 3) := by decide +kernel
theorem dX4_digest_210 : decode cX4_digest 210 = .ok (.goto (-37), 3) := by decide +kernel
theorem dX4_digest_213 : decode cX4_digest 213 = .ok (.ldc2_w 262, 3) := by decide +kernel
theorem dX4_digest_216 : decode cX4_digest 216 = .ok (.lload_n 1, 1) := by decide +kernel
theorem dX4_digest_217 : decode cX4_digest 217 = .ok (.lmul, 1) := by decide +kernel
theorem dX4_digest_218 : decode cX4_digest 218 = .ok (.aload_n 0, 1) := by decide +kernel
theorem dX4_digest_219 : decode cX4_digest 219 = .ok (.iconst (-1), 1) := by decide +kernel
theorem dX4_digest_220 : decode cX4_digest 220 = .ok (.invokevirtual 280, 3) := by decide +kernel
theorem dX4_digest_223 : decode cX4_digest 223 = .ok (.i2l, 1) := by decide +kernel
theorem dX4_digest_224 : decode cX4_digest 224 = .ok (.ladd, 1) := by decide +kernel
theorem dX4_digest_225 : decode cX4_digest 225 = .ok (.lstore_n 1, 1) := by decide +kernel
theorem dX4_digest_226 : decode cX4_digest 226 = .ok (.ldc2_w 262, 3) := by decide +kernel
theorem dX4_digest_229 : decode cX4_digest 229 = .ok (.lload_n 1, 1) := by decide +kernel
theorem dX4_digest_230 : decode cX4_digest 230 = .ok (.lmul, 1) := by decide +kernel
theorem dX4_digest_231 : decode cX4_digest 231 = .ok (.aload_n 0, 1) := by decide +kernel
theorem dX4_digest_232 : decode cX4_digest 232 = .ok (.invokevirtual 138, 3) := by decide +kernel
theorem dX4_digest_235 : decode cX4_digest 235 = .ok (.i2l, 1) := by decide +kernel
theorem dX4_digest_236 : decode cX4_digest 236 = .ok (.ladd, 1) := by decide +kernel
theorem dX4_digest_237 : decode cX4_digest 237 = .ok (.lstore_n 1, 1) := by decide +kernel
theorem dX4_digest_238 : decode cX4_digest 238 = .ok (.ldc2_w 262, 3) := by decide +kernel
theorem dX4_digest_241 : decode cX4_digest 241 = .ok (.lload_n 1, 1) := by decide +kernel
theorem dX4_digest_242 : decode cX4_digest 242 = .ok (.lmul, 1) := by decide +kernel
theorem dX4_digest_243 : decode cX4_digest 243 = .ok (.aload_n 0, 1) := by decide +kernel
theorem dX4_digest_244 : decode cX4_digest 244 = .ok (.invokevirtual 289, 3) := by decide +kernel
theorem dX4_digest_247 : decode cX4_digest 247 = .ok (.i2l, 1) := by decide +kernel
theorem dX4_digest_248 : decode cX4_digest 248 = .ok (.ladd, 1) := by decide +kernel
theorem dX4_digest_249 : decode cX4_digest 249 = .ok (.lstore_n 1, 1) := by decide +kernel
theorem dX4_digest_250 : decode cX4_digest 250 = .ok (.ldc2_w 262, 3) := by decide +kernel
theorem dX4_digest_253 : decode cX4_digest 253 = .ok (.lload_n 1, 1) := by decide +kernel
theorem dX4_digest_254 : decode cX4_digest 254 = .ok (.lmul, 1) := by decide +kernel
theorem dX4_digest_255 : decode cX4_digest 255 = .ok (.aload_n 0, 1) := by decide +kernel
theorem dX4_digest_256 : decode cX4_digest 256 = .ok (.iconst 0, 1) := by decide +kernel
theorem dX4_digest_257 : decode cX4_digest 257 = .ok (.invokevirtual 292, 3) := by decide +kernel
theorem dX4_digest_260 : decode cX4_digest 260 = .ok (.i2l, 1) := by decide +kernel
theorem dX4_digest_261 : decode cX4_digest 261 = .ok (.ladd, 1) := by decide +kernel
theorem dX4_digest_262 : decode cX4_digest 262 = .ok (.lstore_n 1, 1) := by decide +kernel
theorem dX4_digest_263 : decode cX4_digest 263 = .ok (.ldc2_w 262, 3) := by decide +kernel
theorem dX4_digest_266 : decode cX4_digest 266 = .ok (.lload_n 1, 1) := by decide +kernel
theorem dX4_digest_267 : decode cX4_digest 267 = .ok (.lmul, 1) := by decide +kernel
theorem dX4_digest_268 : decode cX4_digest 268 = .ok (.aload_n 0, 1) := by decide +kernel
theorem dX4_digest_269 : decode cX4_digest 269 = .ok (.iconst 1, 1) := by decide +kernel
theorem dX4_digest_270 : decode cX4_digest 270 = .ok (.invokevirtual 292, 3) := by decide +kernel
theorem dX4_digest_273 : decode cX4_digest 273 = .ok (.i2l, 1) := by decide +kernel
theorem dX4_digest_274 : decode cX4_digest 274 = .ok (.ladd, 1) := by decide +kernel
theorem dX4_digest_275 : decode cX4_digest 275 = .ok (.lstore_n 1, 1) := by decide +kernel
theorem dX4_digest_276 : decode cX4_digest 276 = .ok (.aload_n 0, 1) := by decide +kernel
theorem dX4_digest_277 : decode cX4_digest 277 = .ok (.iconst 5, 1) := by decide +kernel
theorem dX4_digest_278 : decode cX4_digest 278 = .ok (.invokevirtual 199, 3) := by decide +kernel
theorem dX4_digest_281 : decode cX4_digest 281 = .ok (.astore 5, 2) := by decide +kernel
theorem dX4_digest_283 : decode cX4_digest 283 = .ok (.iconst 0, 1) := by decide +kernel
theorem dX4_digest_284 : decode cX4_digest 284 = .ok (.istore 6, 2) := by decide +kernel
theorem dX4_digest_286 : decode cX4_digest 286 = .ok (.iload 6, 2) := by decide +kernel
theorem dX4_digest_288 : decode cX4_digest 288 = .ok (.bipush 8, 2) := by decide +kernel
theorem dX4_digest_290 : decode cX4_digest 290 = .ok (.if_icmp .ge 24, 3) := by decide +kernel
theorem dX4_digest_293 : decode cX4_digest 293 = .ok (.ldc2_w 262, 3) := by decide +kernel
theorem dX4_digest_296 : decode cX4_digest 296 = .ok (.lload_n 1, 1) := by decide +kernel
theorem dX4_digest_297 : decode cX4_digest 297 = .ok (.lmul, 1) := by decide +kernel
theorem dX4_digest_298 : decode cX4_digest 298 = .ok (.aload 5, 2) := by decide +kernel
theorem dX4_digest_300 : decode cX4_digest 300 = .ok (.iload 6, 2) := by decide +kernel
theorem dX4_digest_302 : decode cX4_digest 302 = .ok (.invokevirtual 202, 3) := by decide +kernel
theorem dX4_digest_305 : decode cX4_digest 305 = .ok (.i2l, 1) := by decide +kernel
theorem dX4_digest_306 : decode cX4_digest 306 = .ok (.ladd, 1) := by decide +kernel
theorem dX4_digest_307 : decode cX4_digest 307 = .ok (.lstore_n 1, 1) := by decide +kernel
theorem dX4_digest_308 : decode cX4_digest 308 = .ok (.iinc 6 1, 3) := by decide +kernel
theorem dX4_digest_311 : decode cX4_digest 311 = .ok (.goto (-25), 3) := by decide +kernel
theorem dX4_digest_314 : decode cX4_digest 314 = .ok (.ldc2_w 262, 3) := by decide +kernel
theorem dX4_digest_317 : decode cX4_digest 317 = .ok (.lload_n 1, 1) := by decide +kernel
theorem dX4_digest_318 : decode cX4_digest 318 = .ok (.lmul, 1) := by decide +kernel
theorem dX4_digest_319 : decode cX4_digest 319 = .ok (.aload_n 0, 1) := by decide +kernel
theorem dX4_digest_320 : decode cX4_digest 320 = .ok (.invokevirtual 295, 3) := by decide +kernel
theorem dX4_digest_323 : decode cX4_digest 323 = .ok (.i2l, 1) := by decide +kernel
theorem dX4_digest_324 : decode cX4_digest 324 = .ok (.ladd, 1) := by decide +kernel
theorem dX4_digest_325 : decode cX4_digest 325 = .ok (.lreturn, 1) := by decide +kernel
theorem dX4_sceneNow_0 : decode cX4_sceneNow 0 = .ok (.aload_n 0, 1) := by decide +kernel
theorem dX4_sceneNow_1 : decode cX4_sceneNow 1 = .ok (.getfield 19, 3) := by decide +kernel
theorem dX4_sceneNow_4 : decode cX4_sceneNow 4 = .ok (.getfield 57, 3) := by decide +kernel
theorem dX4_sceneNow_7 : decode cX4_sceneNow 7 = .ok (.ifCond .eq 20, 3) := by decide +kernel
theorem dX4_sceneNow_10 : decode cX4_sceneNow 10 = .ok (.aload_n 0, 1) := by decide +kernel
theorem dX4_sceneNow_11 : decode cX4_sceneNow 11 = .ok (.getfield 19, 3) := by decide +kernel
theorem dX4_sceneNow_14 : decode cX4_sceneNow 14 = .ok (.aload_n 0, 1) := by decide +kernel
theorem dX4_sceneNow_15 : decode cX4_sceneNow 15 = .ok (.getfield 12, 3) := by decide +kernel
theorem dX4_sceneNow_18 : decode cX4_sceneNow 18 = .ok (.aload_n 0, 1) := by decide +kernel
theorem dX4_sceneNow_19 : decode cX4_sceneNow 19 = .ok (.getfield 39, 3) := by decide +kernel
theorem dX4_sceneNow_22 : decode cX4_sceneNow 22 = .ok (.iconst 0, 1) := by decide +kernel
theorem dX4_sceneNow_23 : decode cX4_sceneNow 23 = .ok (.iaload, 1) := by decide +kernel
theorem dX4_sceneNow_24 : decode cX4_sceneNow 24 = .ok (.invokevirtual 298, 3) := by decide +kernel
theorem dX4_sceneNow_27 : decode cX4_sceneNow 27 = .ok (.aload_n 0, 1) := by decide +kernel
theorem dX4_sceneNow_28 : decode cX4_sceneNow 28 = .ok (.getfield 28, 3) := by decide +kernel
theorem dX4_sceneNow_31 : decode cX4_sceneNow 31 = .ok (.aload_n 0, 1) := by decide +kernel
theorem dX4_sceneNow_32 : decode cX4_sceneNow 32 = .ok (.getfield 43, 3) := by decide +kernel
theorem dX4_sceneNow_35 : decode cX4_sceneNow 35 = .ok (.aload_n 0, 1) := by decide +kernel
theorem dX4_sceneNow_36 : decode cX4_sceneNow 36 = .ok (.getfield 39, 3) := by decide +kernel
theorem dX4_sceneNow_39 : decode cX4_sceneNow 39 = .ok (.invokevirtual 302, 3) := by decide +kernel
theorem dX4_sceneNow_42 : decode cX4_sceneNow 42 = .ok (.aload_n 0, 1) := by decide +kernel
theorem dX4_sceneNow_43 : decode cX4_sceneNow 43 = .ok (.getfield 28, 3) := by decide +kernel
theorem dX4_sceneNow_46 : decode cX4_sceneNow 46 = .ok (.areturn, 1) := by decide +kernel
theorem dX4_sceneAfter_0 : decode cX4_sceneAfter 0 = .ok (.aload_n 0, 1) := by decide +kernel
theorem dX4_sceneAfter_1 : decode cX4_sceneAfter 1 = .ok (.invokevirtual 101, 3) := by decide +kernel
theorem dX4_sceneAfter_4 : decode cX4_sceneAfter 4 = .ok (.astore_n 2, 1) := by decide +kernel
theorem dX4_sceneAfter_5 : decode cX4_sceneAfter 5 = .ok (.iconst 0, 1) := by decide +kernel
theorem dX4_sceneAfter_6 : decode cX4_sceneAfter 6 = .ok (.istore_n 3, 1) := by decide +kernel
theorem dX4_sceneAfter_7 : decode cX4_sceneAfter 7 = .ok (.iload_n 3, 1) := by decide +kernel
theorem dX4_sceneAfter_8 : decode cX4_sceneAfter 8 = .ok (.iload_n 1, 1) := by decide +kernel
theorem dX4_sceneAfter_9 : decode cX4_sceneAfter 9 = .ok (.if_icmp .ge 13, 3) := by decide +kernel
theorem dX4_sceneAfter_12 : decode cX4_sceneAfter 12 = .ok (.aload_n 2, 1) := by decide +kernel
theorem dX4_sceneAfter_13 : decode cX4_sceneAfter 13 = .ok (.invokevirtual 208, 3) := by decide +kernel
theorem dX4_sceneAfter_16 : decode cX4_sceneAfter 16 = .ok (.iinc 3 1, 3) := by decide +kernel
theorem dX4_sceneAfter_19 : decode cX4_sceneAfter 19 = .ok (.goto (-12), 3) := by decide +kernel
theorem dX4_sceneAfter_22 : decode cX4_sceneAfter 22 = .ok (.aload_n 2, 1) := by decide +kernel
theorem dX4_sceneAfter_23 : decode cX4_sceneAfter 23 = .ok (.areturn, 1) := by decide +kernel
theorem dX4_countStill_0 : decode cX4_countStill 0 = .ok (.aload_n 0, 1) := by decide +kernel
theorem dX4_countStill_1 : decode cX4_countStill 1 = .ok (.invokevirtual 101, 3) := by decide +kernel
theorem dX4_countStill_4 : decode cX4_countStill 4 = .ok (.astore_n 1, 1) := by decide +kernel
theorem dX4_countStill_5 : decode cX4_countStill 5 = .ok (.aload_n 1, 1) := by decide +kernel
theorem dX4_countStill_6 : decode cX4_countStill 6 = .ok (.invokevirtual 142, 3) := by decide +kernel
theorem dX4_countStill_9 : decode cX4_countStill 9 = .ok (.istore_n 2, 1) := by decide +kernel
theorem dX4_countStill_10 : decode cX4_countStill 10 = .ok (.iconst 0, 1) := by decide +kernel
theorem dX4_countStill_11 : decode cX4_countStill 11 = .ok (.istore_n 3, 1) := by decide +kernel
theorem dX4_countStill_12 : decode cX4_countStill 12 = .ok (.aload_n 1, 1) := by decide +kernel
theorem dX4_countStill_13 : decode cX4_countStill 13 = .ok (.iconst 0, 1) := by decide +kernel
theorem dX4_countStill_14 : decode cX4_countStill 14 = .ok (.invokevirtual 145, 3) := by decide +kernel
theorem dX4_countStill_17 : decode cX4_countStill 17 = .ok (.iconst 0, 1) := by decide +kernel
theorem dX4_countStill_18 : decode cX4_countStill 18 = .ok (.istore 4, 2) := by decide +kernel
theorem dX4_countStill_20 : decode cX4_countStill 20 = .ok (.iload 4, 2) := by decide +kernel
theorem dX4_countStill_22 : decode cX4_countStill 22 = .ok (.iload_n 2, 1) := by decide +kernel
theorem dX4_countStill_23 : decode cX4_countStill 23 = .ok (.if_icmp .ge 24, 3) := by decide +kernel
theorem dX4_countStill_26 : decode cX4_countStill 26 = .ok (.aload_n 1, 1) := by decide +kernel
theorem dX4_countStill_27 : decode cX4_countStill 27 = .ok (.invokevirtual 148, 3) := by decide +kernel
theorem dX4_countStill_30 : decode cX4_countStill 30 = .ok (.iconst (-1), 1) := by decide +kernel
theorem dX4_countStill_31 : decode cX4_countStill 31 = .ok (.if_icmp .ne 6, 3) := by decide +kernel
theorem dX4_countStill_34 : decode cX4_countStill 34 = .ok (.iinc 3 1, 3) := by decide +kernel
theorem dX4_countStill_37 : decode cX4_countStill 37 = .ok (.aload_n 1, 1) := by decide +kernel
theorem dX4_countStill_38 : decode cX4_countStill 38 = .ok (.invokevirtual 151, 3) := by decide +kernel
theorem dX4_countStill_41 : decode cX4_countStill 41 = .ok (.iinc 4 1, 3) := by decide +kernel
theorem dX4_countStill_44 : decode cX4_countStill 44 = .ok (.goto (-24), 3) := by decide +kernel
theorem dX4_countStill_47 : decode cX4_countStill 47 = .ok (.iload_n 3, 1) := by decide +kernel
theorem dX4_countStill_48 : decode cX4_countStill 48 = .ok (.ireturn, 1) := by decide +kernel
theorem dX4_bestCode_0 : decode cX4_bestCode 0 = .ok (.aload_n 0, 1) := by decide +kernel
theorem dX4_bestCode_1 : decode cX4_bestCode 1 = .ok (.invokevirtual 101, 3) := by decide +kernel
theorem dX4_bestCode_4 : decode cX4_bestCode 4 = .ok (.astore_n 2, 1) := by decide +kernel
theorem dX4_bestCode_5 : decode cX4_bestCode 5 = .ok (.aload_n 2, 1) := by decide +kernel
theorem dX4_bestCode_6 : decode cX4_bestCode 6 = .ok (.invokevirtual 142, 3) := by decide +kernel
theorem dX4_bestCode_9 : decode cX4_bestCode 9 = .ok (.istore_n 3, 1) := by decide +kernel
theorem dX4_bestCode_10 : decode cX4_bestCode 10 = .ok (.iconst 0, 1) := by decide +kernel
theorem dX4_bestCode_11 : decode cX4_bestCode 11 = .ok (.istore 4, 2) := by decide +kernel
theorem dX4_bestCode_13 : decode cX4_bestCode 13 = .ok (.ldc2_w 308, 3) := by decide +kernel
theorem dX4_bestCode_16 : decode cX4_bestCode 16 = .ok (.lstore 5, 2) := by decide +kernel
theorem dX4_bestCode_18 : decode cX4_bestCode 18 = .ok (.aload_n 2, 1) := by decide +kernel
theorem dX4_bestCode_19 : decode cX4_bestCode 19 = .ok (.iconst 0, 1) := by decide +kernel
theorem dX4_bestCode_20 : decode cX4_bestCode 20 = .ok (.invokevirtual 145, 3) := by decide +kernel
theorem dX4_bestCode_23 : decode cX4_bestCode 23 = .ok (.iconst 0, 1) := by decide +kernel
theorem dX4_bestCode_24 : decode cX4_bestCode 24 = .ok (.istore 7, 2) := by decide +kernel
theorem dX4_bestCode_26 : decode cX4_bestCode 26 = .ok (.iload 7, 2) := by decide +kernel
theorem dX4_bestCode_28 : decode cX4_bestCode 28 = .ok (.iload_n 3, 1) := by decide +kernel
theorem dX4_bestCode_29 : decode cX4_bestCode 29 = .ok (.if_icmp .ge 36, 3) := by decide +kernel
theorem dX4_bestCode_32 : decode cX4_bestCode 32 = .ok (.aload_n 2, 1) := by decide +kernel
theorem dX4_bestCode_33 : decode cX4_bestCode 33 = .ok (.iload_n 1, 1) := by decide +kernel
theorem dX4_bestCode_34 : decode cX4_bestCode 34 = .ok (.invokevirtual 122, 3) := by decide +kernel
theorem dX4_bestCode_37 : decode cX4_bestCode 37 = .ok (.lstore 8, 2) := by decide +kernel
theorem dX4_bestCode_39 : decode cX4_bestCode 39 = .ok (.lload 8, 2) := by decide +kernel
theorem dX4_bestCode_41 : decode cX4_bestCode 41 = .ok (.lload 5, 2) := by decide +kernel
theorem dX4_bestCode_43 : decode cX4_bestCode 43 = .ok (.lcmp, 1) := by decide +kernel
theorem dX4_bestCode_44 : decode cX4_bestCode 44 = .ok (.ifCond .le 11, 3) := by decide +kernel
theorem dX4_bestCode_47 : decode cX4_bestCode 47 = .ok (.lload 8, 2) := by decide +kernel
theorem dX4_bestCode_49 : decode cX4_bestCode 49 = .ok (.lstore 5, 2) := by decide +kernel
theorem dX4_bestCode_51 : decode cX4_bestCode 51 = .ok (.iload 7, 2) := by decide +kernel
theorem dX4_bestCode_53 : decode cX4_bestCode 53 = .ok (.istore 4, 2) := by decide +kernel
theorem dX4_bestCode_55 : decode cX4_bestCode 55 = .ok (.aload_n 2, 1) := by decide +kernel
theorem dX4_bestCode_56 : decode cX4_bestCode 56 = .ok (.invokevirtual 151, 3) := by decide +kernel
theorem dX4_bestCode_59 : decode cX4_bestCode 59 = .ok (.iinc 7 1, 3) := by decide +kernel
theorem dX4_bestCode_62 : decode cX4_bestCode 62 = .ok (.goto (-36), 3) := by decide +kernel
theorem dX4_bestCode_65 : decode cX4_bestCode 65 = .ok (.iload 4, 2) := by decide +kernel
theorem dX4_bestCode_67 : decode cX4_bestCode 67 = .ok (.ireturn, 1) := by decide +kernel
theorem dX4_placedBest_0 : decode cX4_placedBest 0 = .ok (.aload_n 0, 1) := by decide +kernel
theorem dX4_placedBest_1 : decode cX4_placedBest 1 = .ok (.getfield 28, 3) := by decide +kernel
theorem dX4_placedBest_4 : decode cX4_placedBest 4 = .ok (.aload_n 0, 1) := by decide +kernel
theorem dX4_placedBest_5 : decode cX4_placedBest 5 = .ok (.iload_n 1, 1) := by decide +kernel
theorem dX4_placedBest_6 : decode cX4_placedBest 6 = .ok (.invokevirtual 270, 3) := by decide +kernel
theorem dX4_placedBest_9 : decode cX4_placedBest 9 = .ok (.invokevirtual 145, 3) := by decide +kernel
theorem dX4_placedBest_12 : decode cX4_placedBest 12 = .ok (.aload_n 0, 1) := by decide +kernel
theorem dX4_placedBest_13 : decode cX4_placedBest 13 = .ok (.getfield 28, 3) := by decide +kernel
theorem dX4_placedBest_16 : decode cX4_placedBest 16 = .ok (.areturn, 1) := by decide +kernel
theorem dX4_bestCapNow_0 : decode cX4_bestCapNow 0 = .ok (.iconst (-1), 1) := by decide +kernel
theorem dX4_bestCapNow_1 : decode cX4_bestCapNow 1 = .ok (.istore_n 1, 1) := by decide +kernel
theorem dX4_bestCapNow_2 : decode cX4_bestCapNow 2 = .ok (.lconst 0, 1) := by decide +kernel
theorem dX4_bestCapNow_3 : decode cX4_bestCapNow 3 = .ok (.lstore_n 2, 1) := by decide +kernel
theorem dX4_bestCapNow_4 : decode cX4_bestCapNow 4 = .ok (.iconst 0, 1) := by decide +kernel
theorem dX4_bestCapNow_5 : decode cX4_bestCapNow 5 = .ok (.istore 4, 2) := by decide +kernel
theorem dX4_bestCapNow_7 : decode cX4_bestCapNow 7 = .ok (.iload 4, 2) := by decide +kernel
theorem dX4_bestCapNow_9 : decode cX4_bestCapNow 9 = .ok (.iconst 3, 1) := by decide +kernel
theorem dX4_bestCapNow_10 : decode cX4_bestCapNow 10 = .ok (.if_icmp .gt 45, 3) := by decide +kernel
theorem dX4_bestCapNow_13 : decode cX4_bestCapNow 13 = .ok (.aload_n 0, 1) := by decide +kernel
theorem dX4_bestCapNow_14 : decode cX4_bestCapNow 14 = .ok (.iload 4, 2) := by decide +kernel
theorem dX4_bestCapNow_16 : decode cX4_bestCapNow 16 = .ok (.invokevirtual 181, 3) := by decide +kernel
theorem dX4_bestCapNow_19 : decode cX4_bestCapNow 19 = .ok (.ifCond .eq 30, 3) := by decide +kernel
theorem dX4_bestCapNow_22 : decode cX4_bestCapNow 22 = .ok (.aload_n 0, 1) := by decide +kernel
theorem dX4_bestCapNow_23 : decode cX4_bestCapNow 23 = .ok (.getfield 28, 3) := by decide +kernel
theorem dX4_bestCapNow_26 : decode cX4_bestCapNow 26 = .ok (.invokevirtual 158, 3) := by decide +kernel
theorem dX4_bestCapNow_29 : decode cX4_bestCapNow 29 = .ok (.lstore 5, 2) := by decide +kernel
theorem dX4_bestCapNow_31 : decode cX4_bestCapNow 31 = .ok (.iload_n 1, 1) := by decide +kernel
theorem dX4_bestCapNow_32 : decode cX4_bestCapNow 32 = .ok (.iconst (-1), 1) := by decide +kernel
theorem dX4_bestCapNow_33 : decode cX4_bestCapNow 33 = .ok (.if_icmp .eq 10, 3) := by decide +kernel
theorem dX4_bestCapNow_36 : decode cX4_bestCapNow 36 = .ok (.lload 5, 2) := by decide +kernel
theorem dX4_bestCapNow_38 : decode cX4_bestCapNow 38 = .ok (.lload_n 2, 1) := by decide +kernel
theorem dX4_bestCapNow_39 : decode cX4_bestCapNow 39 = .ok (.lcmp, 1) := by decide +kernel
theorem dX4_bestCapNow_40 : decode cX4_bestCapNow 40 = .ok (.ifCond .le 9, 3) := by decide +kernel
theorem dX4_bestCapNow_43 : decode cX4_bestCapNow 43 = .ok (.lload 5, 2) := by decide +kernel
theorem dX4_bestCapNow_45 : decode cX4_bestCapNow 45 = .ok (.lstore_n 2, 1) := by decide +kernel
theorem dX4_bestCapNow_46 : decode cX4_bestCapNow 46 = .ok (.iload 4, 2) := by decide +kernel
theorem dX4_bestCapNow_48 : decode cX4_bestCapNow 48 = .ok (.istore_n 1, 1) := by decide +kernel
theorem dX4_bestCapNow_49 : decode cX4_bestCapNow 49 = .ok (.iinc 4 1, 3) := by decide +kernel
theorem dX4_bestCapNow_52 : decode cX4_bestCapNow 52 = .ok (.goto (-45), 3) := by decide +kernel
theorem dX4_bestCapNow_55 : decode cX4_bestCapNow 55 = .ok (.iload_n 1, 1) := by decide +kernel
theorem dX4_bestCapNow_56 : decode cX4_bestCapNow 56 = .ok (.ireturn, 1) := by decide +kernel
theorem dX4_restsUnder_0 : decode cX4_restsUnder 0 = .ok (.aload_n 0, 1) := by decide +kernel
theorem dX4_restsUnder_1 : decode cX4_restsUnder 1 = .ok (.invokevirtual 101, 3) := by decide +kernel
theorem dX4_restsUnder_4 : decode cX4_restsUnder 4 = .ok (.astore_n 2, 1) := by decide +kernel
theorem dX4_restsUnder_5 : decode cX4_restsUnder 5 = .ok (.aload_n 2, 1) := by decide +kernel
theorem dX4_restsUnder_6 : decode cX4_restsUnder 6 = .ok (.lconst 0, 1) := by decide +kernel
theorem dX4_restsUnder_7 : decode cX4_restsUnder 7 = .ok (.putfield 162, 3) := by decide +kernel
theorem dX4_restsUnder_10 : decode cX4_restsUnder 10 = .ok (.aload_n 2, 1) := by decide +kernel
theorem dX4_restsUnder_11 : decode cX4_restsUnder 11 = .ok (.iconst 0, 1) := by decide +kernel
theorem dX4_restsUnder_12 : decode cX4_restsUnder 12 = .ok (.invokevirtual 196, 3) := by decide +kernel
theorem dX4_restsUnder_15 : decode cX4_restsUnder 15 = .ok (.aload_n 2, 1) := by decide +kernel
theorem dX4_restsUnder_16 : decode cX4_restsUnder 16 = .ok (.iload_n 1, 1) := by decide +kernel
theorem dX4_restsUnder_17 : decode cX4_restsUnder 17 = .ok (.invokevirtual 310, 3) := by decide +kernel
theorem dX4_restsUnder_20 : decode cX4_restsUnder 20 = .ok (.aload_n 2, 1) := by decide +kernel
theorem dX4_restsUnder_21 : decode cX4_restsUnder 21 = .ok (.invokevirtual 128, 3) := by decide +kernel
theorem dX4_restsUnder_24 : decode cX4_restsUnder 24 = .ok (.ireturn, 1) := by decide +kernel
theorem dX4_noShop_0 : decode cX4_noShop 0 = .ok (.iload_n 1, 1) := by decide +kernel
theorem dX4_noShop_1 : decode cX4_noShop 1 = .ok (.ifCond .lt 14, 3) := by decide +kernel
theorem dX4_noShop_4 : decode cX4_noShop 4 = .ok (.iload_n 1, 1) := by decide +kernel
theorem dX4_noShop_5 : decode cX4_noShop 5 = .ok (.aload_n 0, 1) := by decide +kernel
theorem dX4_noShop_6 : decode cX4_noShop 6 = .ok (.getfield 12, 3) := by decide +kernel
theorem dX4_noShop_9 : decode cX4_noShop 9 = .ok (.getfield 247, 3) := by decide +kernel
theorem dX4_noShop_12 : decode cX4_noShop 12 = .ok (.if_icmp .lt 7, 3) := by decide +kernel
theorem dX4_noShop_15 : decode cX4_noShop 15 = .ok (.iconst 1, 1) := by decide +kernel
theorem dX4_noShop_16 : decode cX4_noShop 16 = .ok (.goto 4, 3) := by decide +kernel
theorem dX4_noShop_19 : decode cX4_noShop 19 = .ok (.iconst 0, 1) := by decide +kernel
theorem dX4_noShop_20 : decode cX4_noShop 20 = .ok (.ireturn, 1) := by decide +kernel
theorem dX4_noSide_0 : decode cX4_noSide 0 = .ok (.iload_n 0, 1) := by decide +kernel
theorem dX4_noSide_1 : decode cX4_noSide 1 = .ok (.ifCond .lt 8, 3) := by decide +kernel
theorem dX4_noSide_4 : decode cX4_noSide 4 = .ok (.iload_n 0, 1) := by decide +kernel
theorem dX4_noSide_5 : decode cX4_noSide 5 = .ok (.iconst 1, 1) := by decide +kernel
theorem dX4_noSide_6 : decode cX4_noSide 6 = .ok (.if_icmp .le 7, 3) := by decide +kernel
theorem dX4_noSide_9 : decode cX4_noSide 9 = .ok (.iconst 1, 1) := by decide +kernel
theorem dX4_noSide_10 : decode cX4_noSide 10 = .ok (.goto 4, 3) := by decide +kernel
theorem dX4_noSide_13 : decode cX4_noSide 13 = .ok (.iconst 0, 1) := by decide +kernel
theorem dX4_noSide_14 : decode cX4_noSide 14 = .ok (.ireturn, 1) := by decide +kernel
theorem dX4_refused_0 : decode cX4_refused 0 = .ok (.ldc2_w 308, 3) := by decide +kernel
theorem dX4_refused_3 : decode cX4_refused 3 = .ok (.iload_n 0, 1) := by decide +kernel
theorem dX4_refused_4 : decode cX4_refused 4 = .ok (.i2l, 1) := by decide +kernel
theorem dX4_refused_5 : decode cX4_refused 5 = .ok (.lsub, 1) := by decide +kernel
theorem dX4_refused_6 : decode cX4_refused 6 = .ok (.lreturn, 1) := by decide +kernel
theorem dX4_fraction_0 : decode cX4_fraction 0 = .ok (.lload_n 0, 1) := by decide +kernel
theorem dX4_fraction_1 : decode cX4_fraction 1 = .ok (.invokestatic 313, 3) := by decide +kernel
theorem dX4_fraction_4 : decode cX4_fraction 4 = .ok (.ldc2_w 317, 3) := by decide +kernel
theorem dX4_fraction_7 : decode cX4_fraction 7 = .ok (.invokestatic 319, 3) := by decide +kernel
theorem dX4_fraction_10 : decode cX4_fraction 10 = .ok (.lstore_n 3, 1) := by decide +kernel
theorem dX4_fraction_11 : decode cX4_fraction 11 = .ok (.lload_n 3, 1) := by decide +kernel
theorem dX4_fraction_12 : decode cX4_fraction 12 = .ok (.lconst 0, 1) := by decide +kernel
theorem dX4_fraction_13 : decode cX4_fraction 13 = .ok (.lcmp, 1) := by decide +kernel
theorem dX4_fraction_14 : decode cX4_fraction 14 = .ok (.ifCond .ne 5, 3) := by decide +kernel
theorem dX4_fraction_17 : decode cX4_fraction 17 = .ok (.lconst 0, 1) := by decide +kernel
theorem dX4_fraction_18 : decode cX4_fraction 18 = .ok (.lreturn, 1) := by decide +kernel
theorem dX4_fraction_19 : decode cX4_fraction 19 = .ok (.iload_n 2, 1) := by decide +kernel
theorem dX4_fraction_20 : decode cX4_fraction 20 = .ok (.ifCond .ne 9, 3) := by decide +kernel
theorem dX4_fraction_23 : decode cX4_fraction 23 = .ok (.lload_n 0, 1) := by decide +kernel
theorem dX4_fraction_24 : decode cX4_fraction 24 = .ok (.lload_n 3, 1) := by decide +kernel
theorem dX4_fraction_25 : decode cX4_fraction 25 = .ok (.ldiv, 1) := by decide +kernel
theorem dX4_fraction_26 : decode cX4_fraction 26 = .ok (.goto 8, 3) := by decide +kernel
theorem dX4_fraction_29 : decode cX4_fraction 29 = .ok (.ldc2_w 317, 3) := by decide +kernel
theorem dX4_fraction_32 : decode cX4_fraction 32 = .ok (.lload_n 3, 1) := by decide +kernel
theorem dX4_fraction_33 : decode cX4_fraction 33 = .ok (.ldiv, 1) := by decide +kernel
theorem dX4_fraction_34 : decode cX4_fraction 34 = .ok (.lreturn, 1) := by decide +kernel
theorem dX4_divisor_0 : decode cX4_divisor 0 = .ok (.lload_n 0, 1) := by decide +kernel
theorem dX4_divisor_1 : decode cX4_divisor 1 = .ok (.lstore 4, 2) := by decide +kernel
theorem dX4_divisor_3 : decode cX4_divisor 3 = .ok (.lload_n 2, 1) := by decide +kernel
theorem dX4_divisor_4 : decode cX4_divisor 4 = .ok (.lstore 6, 2) := by decide +kernel
theorem dX4_divisor_6 : decode cX4_divisor 6 = .ok (.iconst 0, 1) := by decide +kernel
theorem dX4_divisor_7 : decode cX4_divisor 7 = .ok (.istore 8, 2) := by decide +kernel
theorem dX4_divisor_9 : decode cX4_divisor 9 = .ok (.iload 8, 2) := by decide +kernel
theorem dX4_divisor_11 : decode cX4_divisor 11 = .ok (.sipush 200, 3) := by decide +kernel
theorem dX4_divisor_14 : decode cX4_divisor 14 = .ok (.if_icmp .ge 31, 3) := by decide +kernel
theorem dX4_divisor_17 : decode cX4_divisor 17 = .ok (.lload 6, 2) := by decide +kernel
theorem dX4_divisor_19 : decode cX4_divisor 19 = .ok (.lconst 0, 1) := by decide +kernel
theorem dX4_divisor_20 : decode cX4_divisor 20 = .ok (.lcmp, 1) := by decide +kernel
theorem dX4_divisor_21 : decode cX4_divisor 21 = .ok (.ifCond .eq 24, 3) := by decide +kernel
theorem dX4_divisor_24 : decode cX4_divisor 24 = .ok (.lload 4, 2) := by decide +kernel
theorem dX4_divisor_26 : decode cX4_divisor 26 = .ok (.lload 6, 2) := by decide +kernel
theorem dX4_divisor_28 : decode cX4_divisor 28 = .ok (.lrem, 1) := by decide +kernel
theorem dX4_divisor_29 : decode cX4_divisor 29 = .ok (.lstore 9, 2) := by decide +kernel
theorem dX4_divisor_31 : decode cX4_divisor 31 = .ok (.lload 6, 2) := by decide +kernel
theorem dX4_divisor_33 : decode cX4_divisor 33 = .ok (.lstore 4, 2) := by decide +kernel
theorem dX4_divisor_35 : decode cX4_divisor 35 = .ok (.lload 9, 2) := by decide +kernel
theorem dX4_divisor_37 : decode cX4_divisor 37 = .ok (.lstore 6, 2) := by decide +kernel
theorem dX4_divisor_39 : decode cX4_divisor 39 = .ok (.iinc 8 1, 3) := by decide +kernel
theorem dX4_divisor_42 : decode cX4_divisor 42 = .ok (.goto (-33), 3) := by decide +kernel
theorem dX4_divisor_45 : decode cX4_divisor 45 = .ok (.lload 4, 2) := by decide +kernel
theorem dX4_divisor_47 : decode cX4_divisor 47 = .ok (.lreturn, 1) := by decide +kernel
theorem dX4_ceiling_0 : decode cX4_ceiling 0 = .ok (.lload_n 0, 1) := by decide +kernel
theorem dX4_ceiling_1 : decode cX4_ceiling 1 = .ok (.lconst 0, 1) := by decide +kernel
theorem dX4_ceiling_2 : decode cX4_ceiling 2 = .ok (.lcmp, 1) := by decide +kernel
theorem dX4_ceiling_3 : decode cX4_ceiling 3 = .ok (.ifCond .le 9, 3) := by decide +kernel
theorem dX4_ceiling_6 : decode cX4_ceiling 6 = .ok (.lload_n 2, 1) := by decide +kernel
theorem dX4_ceiling_7 : decode cX4_ceiling 7 = .ok (.lconst 0, 1) := by decide +kernel
theorem dX4_ceiling_8 : decode cX4_ceiling 8 = .ok (.lcmp, 1) := by decide +kernel
theorem dX4_ceiling_9 : decode cX4_ceiling 9 = .ok (.ifCond .gt 5, 3) := by decide +kernel
theorem dX4_ceiling_12 : decode cX4_ceiling 12 = .ok (.lconst 0, 1) := by decide +kernel
theorem dX4_ceiling_13 : decode cX4_ceiling 13 = .ok (.lreturn, 1) := by decide +kernel
theorem dX4_ceiling_14 : decode cX4_ceiling 14 = .ok (.lload_n 0, 1) := by decide +kernel
theorem dX4_ceiling_15 : decode cX4_ceiling 15 = .ok (.lconst 1, 1) := by decide +kernel
theorem dX4_ceiling_16 : decode cX4_ceiling 16 = .ok (.lsub, 1) := by decide +kernel
theorem dX4_ceiling_17 : decode cX4_ceiling 17 = .ok (.lload_n 2, 1) := by decide +kernel
theorem dX4_ceiling_18 : decode cX4_ceiling 18 = .ok (.ldiv, 1) := by decide +kernel
theorem dX4_ceiling_19 : decode cX4_ceiling 19 = .ok (.lconst 1, 1) := by decide +kernel
theorem dX4_ceiling_20 : decode cX4_ceiling 20 = .ok (.ladd, 1) := by decide +kernel
theorem dX4_ceiling_21 : decode cX4_ceiling 21 = .ok (.lreturn, 1) := by decide +kernel
theorem dX4_sum_0 : decode cX4_sum 0 = .ok (.iconst 0, 1) := by decide +kernel
theorem dX4_sum_1 : decode cX4_sum 1 = .ok (.istore_n 3, 1) := by decide +kernel
theorem dX4_sum_2 : decode cX4_sum 2 = .ok (.iload_n 1, 1) := by decide +kernel
theorem dX4_sum_3 : decode cX4_sum 3 = .ok (.istore 4, 2) := by decide +kernel
theorem dX4_sum_5 : decode cX4_sum 5 = .ok (.iload 4, 2) := by decide +kernel
theorem dX4_sum_7 : decode cX4_sum 7 = .ok (.iload_n 2, 1) := by decide +kernel
theorem dX4_sum_8 : decode cX4_sum 8 = .ok (.if_icmp .ge 23, 3) := by decide +kernel
theorem dX4_sum_11 : decode cX4_sum 11 = .ok (.iload 4, 2) := by decide +kernel
theorem dX4_sum_13 : decode cX4_sum 13 = .ok (.aload_n 0, 1) := by decide +kernel
theorem dX4_sum_14 : decode cX4_sum 14 = .ok (.arraylength, 1) := by decide +kernel
theorem dX4_sum_15 : decode cX4_sum 15 = .ok (.if_icmp .ge 16, 3) := by decide +kernel
theorem dX4_sum_18 : decode cX4_sum 18 = .ok (.iload_n 3, 1) := by decide +kernel
theorem dX4_sum_19 : decode cX4_sum 19 = .ok (.aload_n 0, 1) := by decide +kernel
theorem dX4_sum_20 : decode cX4_sum 20 = .ok (.iload 4, 2) := by decide +kernel
theorem dX4_sum_22 : decode cX4_sum 22 = .ok (.iaload, 1) := by decide +kernel
theorem dX4_sum_23 : decode cX4_sum 23 = .ok (.iadd, 1) := by decide +kernel
theorem dX4_sum_24 : decode cX4_sum 24 = .ok (.istore_n 3, 1) := by decide +kernel
theorem dX4_sum_25 : decode cX4_sum 25 = .ok (.iinc 4 1, 3) := by decide +kernel
theorem dX4_sum_28 : decode cX4_sum 28 = .ok (.goto (-23), 3) := by decide +kernel
theorem dX4_sum_31 : decode cX4_sum 31 = .ok (.iload_n 3, 1) := by decide +kernel
theorem dX4_sum_32 : decode cX4_sum 32 = .ok (.ireturn, 1) := by decide +kernel
theorem dX5_init_0 : decode cX5_init 0 = .ok (.aload_n 0, 1) := by decide +kernel
theorem dX5_init_1 : decode cX5_init 1 = .ok (.invokespecial 1, 3) := by decide +kernel
theorem dX5_init_4 : decode cX5_init 4 = .ok (.aload_n 0, 1) := by decide +kernel
theorem dX5_init_5 : decode cX5_init 5 = .ok (.iconst 4, 1) := by decide +kernel
theorem dX5_init_6 : decode cX5_init 6 = .ok (.newarray .int, 2) := by decide +kernel
theorem dX5_init_8 : decode cX5_init 8 = .ok (.putfield 7, 3) := by decide +kernel
theorem dX5_init_11 : decode cX5_init 11 = .ok (.aload_n 0, 1) := by decide +kernel
theorem dX5_init_12 : decode cX5_init 12 = .ok (.iconst 4, 1) := by decide +kernel
theorem dX5_init_13 : decode cX5_init 13 = .ok (.newarray .int, 2) := by decide +kernel
theorem dX5_init_15 : decode cX5_init 15 = .ok (.putfield 13, 3) := by decide +kernel
theorem dX5_init_18 : decode cX5_init 18 = .ok (.aload_n 0, 1) := by decide +kernel
theorem dX5_init_19 : decode cX5_init 19 = .ok (.sipush 240, 3) := by decide +kernel
theorem dX5_init_22 : decode cX5_init 22 = .ok (.newarray .int, 2) := by decide +kernel
theorem dX5_init_24 : decode cX5_init 24 = .ok (.putfield 16, 3) := by decide +kernel
theorem dX5_init_27 : decode cX5_init 27 = .ok (.aload_n 0, 1) := by decide +kernel
theorem dX5_init_28 : decode cX5_init 28 = .ok (.bipush 60, 2) := by decide +kernel
theorem dX5_init_30 : decode cX5_init 30 = .ok (.newarray .int, 2) := by decide +kernel
theorem dX5_init_32 : decode cX5_init 32 = .ok (.putfield 19, 3) := by decide +kernel
theorem dX5_init_35 : decode cX5_init 35 = .ok (.aload_n 0, 1) := by decide +kernel
theorem dX5_init_36 : decode cX5_init 36 = .ok (.sipush 150, 3) := by decide +kernel
theorem dX5_init_39 : decode cX5_init 39 = .ok (.newarray .int, 2) := by decide +kernel
theorem dX5_init_41 : decode cX5_init 41 = .ok (.putfield 22, 3) := by decide +kernel
theorem dX5_init_44 : decode cX5_init 44 = .ok (.aload_n 0, 1) := by decide +kernel
theorem dX5_init_45 : decode cX5_init 45 = .ok (.iconst 5, 1) := by decide +kernel
theorem dX5_init_46 : decode cX5_init 46 = .ok (.newarray .int, 2) := by decide +kernel
theorem dX5_init_48 : decode cX5_init 48 = .ok (.putfield 25, 3) := by decide +kernel
theorem dX5_init_51 : decode cX5_init 51 = .ok (.aload_n 0, 1) := by decide +kernel
theorem dX5_init_52 : decode cX5_init 52 = .ok (.iconst 5, 1) := by decide +kernel
theorem dX5_init_53 : decode cX5_init 53 = .ok (.newarray .int, 2) := by decide +kernel
theorem dX5_init_55 : decode cX5_init 55 = .ok (.putfield 28, 3) := by decide +kernel
theorem dX5_init_58 : decode cX5_init 58 = .ok (.aload_n 0, 1) := by decide +kernel
theorem dX5_init_59 : decode cX5_init 59 = .ok (.bipush 36, 2) := by decide +kernel
theorem dX5_init_61 : decode cX5_init 61 = .ok (.newarray .int, 2) := by decide +kernel
theorem dX5_init_63 : decode cX5_init 63 = .ok (.putfield 31, 3) := by decide +kernel
theorem dX5_init_66 : decode cX5_init 66 = .ok (.aload_n 0, 1) := by decide +kernel
theorem dX5_init_67 : decode cX5_init 67 = .ok (.bipush 8, 2) := by decide +kernel
theorem dX5_init_69 : decode cX5_init 69 = .ok (.newarray .int, 2) := by decide +kernel
theorem dX5_init_71 : decode cX5_init 71 = .ok (.putfield 34, 3) := by decide +kernel
theorem dX5_init_74 : decode cX5_init 74 = .ok (.aload_n 0, 1) := by decide +kernel
theorem dX5_init_75 : decode cX5_init 75 = .ok (.iconst 5, 1) := by decide +kernel
theorem dX5_init_76 : decode cX5_init 76 = .ok (.newarray .int, 2) := by decide +kernel
theorem dX5_init_78 : decode cX5_init 78 = .ok (.putfield 37, 3) := by decide +kernel
theorem dX5_init_81 : decode cX5_init 81 = .ok (.aload_n 0, 1) := by decide +kernel
theorem dX5_init_82 : decode cX5_init 82 = .ok (.bipush 6, 2) := by decide +kernel
theorem dX5_init_84 : decode cX5_init 84 = .ok (.newarray .int, 2) := by decide +kernel
theorem dX5_init_86 : decode cX5_init 86 = .ok (.putfield 40, 3) := by decide +kernel
theorem dX5_init_89 : decode cX5_init 89 = .ok (.aload_n 0, 1) := by decide +kernel
theorem dX5_init_90 : decode cX5_init 90 = .ok (.iconst 5, 1) := by decide +kernel
theorem dX5_init_91 : decode cX5_init 91 = .ok (.newarray .int, 2) := by decide +kernel
theorem dX5_init_93 : decode cX5_init 93 = .ok (.putfield 43, 3) := by decide +kernel
theorem dX5_init_96 : decode cX5_init 96 = .ok (.aload_n 0, 1) := by decide +kernel
theorem dX5_init_97 : decode cX5_init 97 = .ok (.iconst 4, 1) := by decide +kernel
theorem dX5_init_98 : decode cX5_init 98 = .ok (.newarray .int, 2) := by decide +kernel
theorem dX5_init_100 : decode cX5_init 100 = .ok (.putfield 46, 3) := by decide +kernel
theorem dX5_init_103 : decode cX5_init 103 = .ok (.aload_n 0, 1) := by decide +kernel
theorem dX5_init_104 : decode cX5_init 104 = .ok (.iconst 5, 1) := by decide +kernel
theorem dX5_init_105 : decode cX5_init 105 = .ok (.newarray .int, 2) := by decide +kernel
theorem dX5_init_107 : decode cX5_init 107 = .ok (.putfield 49, 3) := by decide +kernel
theorem dX5_init_110 : decode cX5_init 110 = .ok (.aload_n 0, 1) := by decide +kernel
theorem dX5_init_111 : decode cX5_init 111 = .ok (.iconst 5, 1) := by decide +kernel
theorem dX5_init_112 : decode cX5_init 112 = .ok (.newarray .long, 2) := by decide +kernel
theorem dX5_init_114 : decode cX5_init 114 = .ok (.putfield 52, 3) := by decide +kernel
theorem dX5_init_117 : decode cX5_init 117 = .ok (.aload_n 0, 1) := by decide +kernel
theorem dX5_init_118 : decode cX5_init 118 = .ok (.iconst 5, 1) := by decide +kernel
theorem dX5_init_119 : decode cX5_init 119 = .ok (.newarray .int, 2) := by decide +kernel
theorem dX5_init_121 : decode cX5_init 121 = .ok (.putfield 56, 3) := by decide +kernel
theorem dX5_init_124 : decode cX5_init 124 = .ok (.iconst 0, 1) := by decide +kernel
theorem dX5_init_125 : decode cX5_init 125 = .ok (.istore_n 1, 1) := by decide +kernel
theorem dX5_init_126 : decode cX5_init 126 = .ok (.iload_n 1, 1) := by decide +kernel
theorem dX5_init_127 : decode cX5_init 127 = .ok (.iconst 4, 1) := by decide +kernel
theorem dX5_init_128 : decode cX5_init 128 = .ok (.if_icmp .ge 16, 3) := by decide +kernel
theorem dX5_init_131 : decode cX5_init 131 = .ok (.aload_n 0, 1) := by decide +kernel
theorem dX5_init_132 : decode cX5_init 132 = .ok (.getfield 7, 3) := by decide +kernel
theorem dX5_init_135 : decode cX5_init 135 = .ok (.iload_n 1, 1) := by decide +kernel
theorem dX5_init_136 : decode cX5_init 136 = .ok (.iconst (-1), 1) := by decide +kernel
theorem dX5_init_137 : decode cX5_init 137 = .ok (.iastore, 1) := by decide +kernel
theorem dX5_init_138 : decode cX5_init 138 = .ok (.iinc 1 1, 3) := by decide +kernel
theorem dX5_init_141 : decode cX5_init 141 = .ok (.goto (-15), 3) := by decide +kernel
theorem dX5_init_144 : decode cX5_init 144 = .ok (.aload_n 0, 1) := by decide +kernel
theorem dX5_init_145 : decode cX5_init 145 = .ok (.getfield 34, 3) := by decide +kernel
theorem dX5_init_148 : decode cX5_init 148 = .ok (.iconst 1, 1) := by decide +kernel
theorem dX5_init_149 : decode cX5_init 149 = .ok (.iconst 3, 1) := by decide +kernel
theorem dX5_init_150 : decode cX5_init 150 = .ok (.iastore, 1) := by decide +kernel
theorem dX5_init_151 : decode cX5_init 151 = .ok (.aload_n 0, 1) := by decide +kernel
theorem dX5_init_152 : decode cX5_init 152 = .ok (.getfield 34, 3) := by decide +kernel
theorem dX5_init_155 : decode cX5_init 155 = .ok (.iconst 4, 1) := by decide +kernel
theorem dX5_init_156 : decode cX5_init 156 = .ok (.bipush 16, 2) := by decide +kernel
theorem dX5_init_158 : decode cX5_init 158 = .ok (.iastore, 1) := by decide +kernel
theorem dX5_init_159 : decode cX5_init 159 = .ok (.return_, 1) := by decide +kernel
theorem dX5_in_0 : decode cX5_in 0 = .ok (.lload_n 0, 1) := by decide +kernel
theorem dX5_in_1 : decode cX5_in 1 = .ok (.lload_n 2, 1) := by decide +kernel
theorem dX5_in_2 : decode cX5_in 2 = .ok (.lcmp, 1) := by decide +kernel
theorem dX5_in_3 : decode cX5_in 3 = .ok (.ifCond .lt 14, 3) := by decide +kernel
theorem dX5_in_6 : decode cX5_in 6 = .ok (.lload_n 0, 1) := by decide +kernel
theorem dX5_in_7 : decode cX5_in 7 = .ok (.lload 4, 2) := by decide +kernel
theorem dX5_in_9 : decode cX5_in 9 = .ok (.lcmp, 1) := by decide +kernel
theorem dX5_in_10 : decode cX5_in 10 = .ok (.ifCond .gt 7, 3) := by decide +kernel
theorem dX5_in_13 : decode cX5_in 13 = .ok (.iconst 1, 1) := by decide +kernel
theorem dX5_in_14 : decode cX5_in 14 = .ok (.goto 4, 3) := by decide +kernel
theorem dX5_in_17 : decode cX5_in 17 = .ok (.iconst 0, 1) := by decide +kernel
theorem dX5_in_18 : decode cX5_in 18 = .ok (.ireturn, 1) := by decide +kernel
theorem dX5_no_0 : decode cX5_no 0 = .ok (.ldc2_w 59, 3) := by decide +kernel
theorem dX5_no_3 : decode cX5_no 3 = .ok (.iload_n 0, 1) := by decide +kernel
theorem dX5_no_4 : decode cX5_no 4 = .ok (.i2l, 1) := by decide +kernel
theorem dX5_no_5 : decode cX5_no 5 = .ok (.lsub, 1) := by decide +kernel
theorem dX5_no_6 : decode cX5_no 6 = .ok (.lreturn, 1) := by decide +kernel
theorem dX5_isTwo_0 : decode cX5_isTwo 0 = .ok (.iload_n 0, 1) := by decide +kernel
theorem dX5_isTwo_1 : decode cX5_isTwo 1 = .ok (.i2l, 1) := by decide +kernel
theorem dX5_isTwo_2 : decode cX5_isTwo 2 = .ok (.lconst 0, 1) := by decide +kernel
theorem dX5_isTwo_3 : decode cX5_isTwo 3 = .ok (.lconst 1, 1) := by decide +kernel
theorem dX5_isTwo_4 : decode cX5_isTwo 4 = .ok (.invokestatic 61, 3) := by decide +kernel
theorem dX5_isTwo_7 : decode cX5_isTwo 7 = .ok (.ireturn, 1) := by decide +kernel
theorem dX5_met_0 : decode cX5_met 0 = .ok (.aload_n 0, 1) := by decide +kernel
theorem dX5_met_1 : decode cX5_met 1 = .ok (.iload_n 1, 1) := by decide +kernel
theorem dX5_met_2 : decode cX5_met 2 = .ok (.putfield 65, 3) := by decide +kernel
theorem dX5_met_5 : decode cX5_met 5 = .ok (.bipush (-10), 2) := by decide +kernel
theorem dX5_met_7 : decode cX5_met 7 = .ok (.iload_n 1, 1) := by decide +kernel
theorem dX5_met_8 : decode cX5_met 8 = .ok (.isub, 1) := by decide +kernel
theorem dX5_met_9 : decode cX5_met 9 = .ok (.ireturn, 1) := by decide +kernel
theorem dX5_isSheet_0 : decode cX5_isSheet 0 = .ok (.iload_n 0, 1) := by decide +kernel
theorem dX5_isSheet_1 : decode cX5_isSheet 1 = .ok (.i2l, 1) := by decide +kernel
theorem dX5_isSheet_2 : decode cX5_isSheet 2 = .ok (.lconst 0, 1) := by decide +kernel
theorem dX5_isSheet_3 : decode cX5_isSheet 3 = .ok (.ldc2_w 69, 3) := by decide +kernel
theorem dX5_isSheet_6 : decode cX5_isSheet 6 = .ok (.invokestatic 61, 3) := by decide +kernel
theorem dX5_isSheet_9 : decode cX5_isSheet 9 = .ok (.ireturn, 1) := by decide +kernel
theorem dX5_sheet_0 : decode cX5_sheet 0 = .ok (.iload_n 1, 1) := by decide +kernel
theorem dX5_sheet_1 : decode cX5_sheet 1 = .ok (.invokestatic 71, 3) := by decide +kernel
theorem dX5_sheet_4 : decode cX5_sheet 4 = .ok (.ifCond .eq 21, 3) := by decide +kernel
theorem dX5_sheet_7 : decode cX5_sheet 7 = .ok (.iload_n 2, 1) := by decide +kernel
theorem dX5_sheet_8 : decode cX5_sheet 8 = .ok (.i2l, 1) := by decide +kernel
theorem dX5_sheet_9 : decode cX5_sheet 9 = .ok (.lconst 0, 1) := by decide +kernel
theorem dX5_sheet_10 : decode cX5_sheet 10 = .ok (.ldc2_w 75, 3) := by decide +kernel
theorem dX5_sheet_13 : decode cX5_sheet 13 = .ok (.invokestatic 61, 3) := by decide +kernel
theorem dX5_sheet_16 : decode cX5_sheet 16 = .ok (.ifCond .eq 9, 3) := by decide +kernel
theorem dX5_sheet_19 : decode cX5_sheet 19 = .ok (.iload_n 3, 1) := by decide +kernel
theorem dX5_sheet_20 : decode cX5_sheet 20 = .ok (.bipush 60, 2) := by decide +kernel
theorem dX5_sheet_22 : decode cX5_sheet 22 = .ok (.if_icmp .le 6, 3) := by decide +kernel
theorem dX5_sheet_25 : decode cX5_sheet 25 = .ok (.bipush (-2), 2) := by decide +kernel
theorem dX5_sheet_27 : decode cX5_sheet 27 = .ok (.ireturn, 1) := by decide +kernel
theorem dX5_sheet_28 : decode cX5_sheet 28 = .ok (.iload_n 3, 1) := by decide +kernel
theorem dX5_sheet_29 : decode cX5_sheet 29 = .ok (.ifCond .ge 9, 3) := by decide +kernel
theorem dX5_sheet_32 : decode cX5_sheet 32 = .ok (.aload_n 0, 1) := by decide +kernel
theorem dX5_sheet_33 : decode cX5_sheet 33 = .ok (.iconst 5, 1) := by decide +kernel
theorem dX5_sheet_34 : decode cX5_sheet 34 = .ok (.invokevirtual 77, 3) := by decide +kernel
theorem dX5_sheet_37 : decode cX5_sheet 37 = .ok (.ireturn, 1) := by decide +kernel
theorem dX5_sheet_38 : decode cX5_sheet 38 = .ok (.aload_n 0, 1) := by decide +kernel
theorem dX5_sheet_39 : decode cX5_sheet 39 = .ok (.getfield 7, 3) := by decide +kernel
theorem dX5_sheet_42 : decode cX5_sheet 42 = .ok (.iload_n 1, 1) := by decide +kernel
theorem dX5_sheet_43 : decode cX5_sheet 43 = .ok (.iload_n 2, 1) := by decide +kernel
theorem dX5_sheet_44 : decode cX5_sheet 44 = .ok (.iastore, 1) := by decide +kernel
theorem dX5_sheet_45 : decode cX5_sheet 45 = .ok (.aload_n 0, 1) := by decide +kernel
theorem dX5_sheet_46 : decode cX5_sheet 46 = .ok (.getfield 13, 3) := by decide +kernel
theorem dX5_sheet_49 : decode cX5_sheet 49 = .ok (.iload_n 1, 1) := by decide +kernel
theorem dX5_sheet_50 : decode cX5_sheet 50 = .ok (.iload_n 3, 1) := by decide +kernel
theorem dX5_sheet_51 : decode cX5_sheet 51 = .ok (.iastore, 1) := by decide +kernel
theorem dX5_sheet_52 : decode cX5_sheet 52 = .ok (.iconst 0, 1) := by decide +kernel
theorem dX5_sheet_53 : decode cX5_sheet 53 = .ok (.istore 4, 2) := by decide +kernel
theorem dX5_sheet_55 : decode cX5_sheet 55 = .ok (.iload 4, 2) := by decide +kernel
theorem dX5_sheet_57 : decode cX5_sheet 57 = .ok (.iload_n 3, 1) := by decide +kernel
theorem dX5_sheet_58 : decode cX5_sheet 58 = .ok (.if_icmp .ge 22, 3) := by decide +kernel
theorem dX5_sheet_61 : decode cX5_sheet 61 = .ok (.aload_n 0, 1) := by decide +kernel
theorem dX5_sheet_62 : decode cX5_sheet 62 = .ok (.getfield 16, 3) := by decide +kernel
theorem dX5_sheet_65 : decode cX5_sheet 65 = .ok (.bipush 60, 2) := by decide +kernel
theorem dX5_sheet_67 : decode cX5_sheet 67 = .ok (.iload_n 1, 1) := by decide +kernel
theorem dX5_sheet_68 : decode cX5_sheet 68 = .ok (.imul, 1) := by decide +kernel
theorem dX5_sheet_69 : decode cX5_sheet 69 = .ok (.iload 4, 2) := by decide +kernel
theorem dX5_sheet_71 : decode cX5_sheet 71 = .ok (.iadd, 1) := by decide +kernel
theorem dX5_sheet_72 : decode cX5_sheet 72 = .ok (.iconst 0, 1) := by decide +kernel
theorem dX5_sheet_73 : decode cX5_sheet 73 = .ok (.iastore, 1) := by decide +kernel
theorem dX5_sheet_74 : decode cX5_sheet 74 = .ok (.iinc 4 1, 3) := by decide +kernel
theorem dX5_sheet_77 : decode cX5_sheet 77 = .ok (.goto (-22), 3) := by decide +kernel
theorem dX5_sheet_80 : decode cX5_sheet 80 = .ok (.iload_n 3, 1) := by decide +kernel
theorem dX5_sheet_81 : decode cX5_sheet 81 = .ok (.ireturn, 1) := by decide +kernel
theorem dX5_lose_0 : decode cX5_lose 0 = .ok (.iload_n 1, 1) := by decide +kernel
theorem dX5_lose_1 : decode cX5_lose 1 = .ok (.invokestatic 71, 3) := by decide +kernel
theorem dX5_lose_4 : decode cX5_lose 4 = .ok (.ifCond .ne 6, 3) := by decide +kernel
theorem dX5_lose_7 : decode cX5_lose 7 = .ok (.bipush (-2), 2) := by decide +kernel
theorem dX5_lose_9 : decode cX5_lose 9 = .ok (.ireturn, 1) := by decide +kernel
theorem dX5_lose_10 : decode cX5_lose 10 = .ok (.aload_n 0, 1) := by decide +kernel
theorem dX5_lose_11 : decode cX5_lose 11 = .ok (.getfield 7, 3) := by decide +kernel
theorem dX5_lose_14 : decode cX5_lose 14 = .ok (.iload_n 1, 1) := by decide +kernel
theorem dX5_lose_15 : decode cX5_lose 15 = .ok (.iaload, 1) := by decide +kernel
theorem dX5_lose_16 : decode cX5_lose 16 = .ok (.ifCond .ge 9, 3) := by decide +kernel
theorem dX5_lose_19 : decode cX5_lose 19 = .ok (.aload_n 0, 1) := by decide +kernel
theorem dX5_lose_20 : decode cX5_lose 20 = .ok (.iconst 1, 1) := by decide +kernel
theorem dX5_lose_21 : decode cX5_lose 21 = .ok (.invokevirtual 77, 3) := by decide +kernel
theorem dX5_lose_24 : decode cX5_lose 24 = .ok (.ireturn, 1) := by decide +kernel
theorem dX5_lose_25 : decode cX5_lose 25 = .ok (.aload_n 0, 1) := by decide +kernel
theorem dX5_lose_26 : decode cX5_lose 26 = .ok (.getfield 7, 3) := by decide +kernel
theorem dX5_lose_29 : decode cX5_lose 29 = .ok (.iload_n 1, 1) := by decide +kernel
theorem dX5_lose_30 : decode cX5_lose 30 = .ok (.iconst (-1), 1) := by decide +kernel
theorem dX5_lose_31 : decode cX5_lose 31 = .ok (.iastore, 1) := by decide +kernel
theorem dX5_lose_32 : decode cX5_lose 32 = .ok (.aload_n 0, 1) := by decide +kernel
theorem dX5_lose_33 : decode cX5_lose 33 = .ok (.getfield 13, 3) := by decide +kernel
theorem dX5_lose_36 : decode cX5_lose 36 = .ok (.iload_n 1, 1) := by decide +kernel
theorem dX5_lose_37 : decode cX5_lose 37 = .ok (.iaload, 1) := by decide +kernel
theorem dX5_lose_38 : decode cX5_lose 38 = .ok (.ireturn, 1) := by decide +kernel
theorem dX5_lacks_0 : decode cX5_lacks 0 = .ok (.aload_n 0, 1) := by decide +kernel
theorem dX5_lacks_1 : decode cX5_lacks 1 = .ok (.getfield 7, 3) := by decide +kernel
theorem dX5_lacks_4 : decode cX5_lacks 4 = .ok (.iload_n 1, 1) := by decide +kernel
theorem dX5_lacks_5 : decode cX5_lacks 5 = .ok (.iaload, 1) := by decide +kernel
theorem dX5_lacks_6 : decode cX5_lacks 6 = .ok (.ifCond .ge 9, 3) := by decide +kernel
theorem dX5_lacks_9 : decode cX5_lacks 9 = .ok (.aload_n 0, 1) := by decide +kernel
theorem dX5_lacks_10 : decode cX5_lacks 10 = .ok (.iconst 1, 1) := by decide +kernel
theorem dX5_lacks_11 : decode cX5_lacks 11 = .ok (.invokevirtual 77, 3) := by decide +kernel
theorem dX5_lacks_14 : decode cX5_lacks 14 = .ok (.ireturn, 1) := by decide +kernel
theorem dX5_lacks_15 : decode cX5_lacks 15 = .ok (.aload_n 0, 1) := by decide +kernel
theorem dX5_lacks_16 : decode cX5_lacks 16 = .ok (.getfield 7, 3) := by decide +kernel
theorem dX5_lacks_19 : decode cX5_lacks 19 = .ok (.iload_n 1, 1) := by decide +kernel
theorem dX5_lacks_20 : decode cX5_lacks 20 = .ok (.iaload, 1) := by decide +kernel
theorem dX5_lacks_21 : decode cX5_lacks 21 = .ok (.iload_n 2, 1) := by decide +kernel
theorem dX5_lacks_22 : decode cX5_lacks 22 = .ok (.if_icmp .eq 9, 3) := by decide +kernel
theorem dX5_lacks_25 : decode cX5_lacks 25 = .ok (.aload_n 0, 1) := by decide +kernel
theorem dX5_lacks_26 : decode cX5_lacks 26 = .ok (.iconst 3, 1) := by decide +kernel
theorem dX5_lacks_27 : decode cX5_lacks 27 = .ok (.invokevirtual 77, 3) := by decide +kernel
theorem dX5_lacks_30 : decode cX5_lacks 30 = .ok (.ireturn, 1) := by decide +kernel
theorem dX5_lacks_31 : decode cX5_lacks 31 = .ok (.iload_n 3, 1) := by decide +kernel
theorem dX5_lacks_32 : decode cX5_lacks 32 = .ok (.i2l, 1) := by decide +kernel
theorem dX5_lacks_33 : decode cX5_lacks 33 = .ok (.lconst 0, 1) := by decide +kernel
theorem dX5_lacks_34 : decode cX5_lacks 34 = .ok (.aload_n 0, 1) := by decide +kernel
theorem dX5_lacks_35 : decode cX5_lacks 35 = .ok (.getfield 13, 3) := by decide +kernel
theorem dX5_lacks_38 : decode cX5_lacks 38 = .ok (.iload_n 1, 1) := by decide +kernel
theorem dX5_lacks_39 : decode cX5_lacks 39 = .ok (.iaload, 1) := by decide +kernel
theorem dX5_lacks_40 : decode cX5_lacks 40 = .ok (.iconst 1, 1) := by decide +kernel
theorem dX5_lacks_41 : decode cX5_lacks 41 = .ok (.isub, 1) := by decide +kernel
theorem dX5_lacks_42 : decode cX5_lacks 42 = .ok (.i2l, 1) := by decide +kernel
theorem dX5_lacks_43 : decode cX5_lacks 43 = .ok (.invokestatic 61, 3) := by decide +kernel
theorem dX5_lacks_46 : decode cX5_lacks 46 = .ok (.ifCond .eq 7, 3) := by decide +kernel
theorem dX5_lacks_49 : decode cX5_lacks 49 = .ok (.iconst 0, 1) := by decide +kernel
theorem dX5_lacks_50 : decode cX5_lacks 50 = .ok (.goto 8, 3) := by decide +kernel
theorem dX5_lacks_53 : decode cX5_lacks 53 = .ok (.aload_n 0, 1) := by decide +kernel
theorem dX5_lacks_54 : decode cX5_lacks 54 = .ok (.iconst 2, 1) := by decide +kernel
theorem dX5_lacks_55 : decode cX5_lacks 55 = .ok (.invokevirtual 77, 3) := by decide +kernel
theorem dX5_lacks_58 : decode cX5_lacks 58 = .ok (.ireturn, 1) := by decide +kernel
theorem dX5_cut_0 : decode cX5_cut 0 = .ok (.iload_n 0, 1) := by decide +kernel
theorem dX5_cut_1 : decode cX5_cut 1 = .ok (.ifCond .ne 8, 3) := by decide +kernel
theorem dX5_cut_4 : decode cX5_cut 4 = .ok (.iload_n 1, 1) := by decide +kernel
theorem dX5_cut_5 : decode cX5_cut 5 = .ok (.i2b, 1) := by decide +kernel
theorem dX5_cut_6 : decode cX5_cut 6 = .ok (.goto 14, 3) := by decide +kernel
theorem dX5_cut_9 : decode cX5_cut 9 = .ok (.iload_n 0, 1) := by decide +kernel
theorem dX5_cut_10 : decode cX5_cut 10 = .ok (.iconst 1, 1) := by decide +kernel
theorem dX5_cut_11 : decode cX5_cut 11 = .ok (.if_icmp .ne 8, 3) := by decide +kernel
theorem dX5_cut_14 : decode cX5_cut 14 = .ok (.iload_n 1, 1) := by decide +kernel
theorem dX5_cut_15 : decode cX5_cut 15 = .ok (.i2s, 1) := by decide +kernel
theorem dX5_cut_16 : decode cX5_cut 16 = .ok (.goto 4, 3) := by decide +kernel
theorem dX5_cut_19 : decode cX5_cut 19 = .ok (.iload_n 1, 1) := by decide +kernel
theorem dX5_cut_20 : decode cX5_cut 20 = .ok (.ireturn, 1) := by decide +kernel
theorem dX5_lay_0 : decode cX5_lay 0 = .ok (.iload_n 1, 1) := by decide +kernel
theorem dX5_lay_1 : decode cX5_lay 1 = .ok (.invokestatic 71, 3) := by decide +kernel
theorem dX5_lay_4 : decode cX5_lay 4 = .ok (.ifCond .eq 15, 3) := by decide +kernel
theorem dX5_lay_7 : decode cX5_lay 7 = .ok (.iload_n 2, 1) := by decide +kernel
theorem dX5_lay_8 : decode cX5_lay 8 = .ok (.i2l, 1) := by decide +kernel
theorem dX5_lay_9 : decode cX5_lay 9 = .ok (.lconst 0, 1) := by decide +kernel
theorem dX5_lay_10 : decode cX5_lay 10 = .ok (.ldc2_w 75, 3) := by decide +kernel
theorem dX5_lay_13 : decode cX5_lay 13 = .ok (.invokestatic 61, 3) := by decide +kernel
theorem dX5_lay_16 : decode cX5_lay 16 = .ok (.ifCond .ne 6, 3) := by decide +kernel
theorem dX5_lay_19 : decode cX5_lay 19 = .ok (.bipush (-2), 2) := by decide +kernel
theorem dX5_lay_21 : decode cX5_lay 21 = .ok (.ireturn, 1) := by decide +kernel
theorem dX5_lay_22 : decode cX5_lay 22 = .ok (.aload_n 0, 1) := by decide +kernel
theorem dX5_lay_23 : decode cX5_lay 23 = .ok (.iload_n 1, 1) := by decide +kernel
theorem dX5_lay_24 : decode cX5_lay 24 = .ok (.iload_n 2, 1) := by decide +kernel
theorem dX5_lay_25 : decode cX5_lay 25 = .ok (.iload_n 3, 1) := by decide +kernel
theorem dX5_lay_26 : decode cX5_lay 26 = .ok (.invokevirtual 81, 3) := by decide +kernel
theorem dX5_lay_29 : decode cX5_lay 29 = .ok (.istore 5, 2) := by decide +kernel
theorem dX5_lay_31 : decode cX5_lay 31 = .ok (.iload 5, 2) := by decide +kernel
theorem dX5_lay_33 : decode cX5_lay 33 = .ok (.ifCond .eq 6, 3) := by decide +kernel
theorem dX5_lay_36 : decode cX5_lay 36 = .ok (.iload 5, 2) := by decide +kernel
theorem dX5_lay_38 : decode cX5_lay 38 = .ok (.ireturn, 1) := by decide +kernel
theorem dX5_lay_39 : decode cX5_lay 39 = .ok (.aload_n 0, 1) := by decide +kernel
theorem dX5_lay_40 : decode cX5_lay 40 = .ok (.getfield 16, 3) := by decide +kernel
theorem dX5_lay_43 : decode cX5_lay 43 = .ok (.bipush 60, 2) := by decide +kernel
theorem dX5_lay_45 : decode cX5_lay 45 = .ok (.iload_n 1, 1) := by decide +kernel
theorem dX5_lay_46 : decode cX5_lay 46 = .ok (.imul, 1) := by decide +kernel
theorem dX5_lay_47 : decode cX5_lay 47 = .ok (.iload_n 3, 1) := by decide +kernel
theorem dX5_lay_48 : decode cX5_lay 48 = .ok (.iadd, 1) := by decide +kernel
theorem dX5_lay_49 : decode cX5_lay 49 = .ok (.iload_n 2, 1) := by decide +kernel
theorem dX5_lay_50 : decode cX5_lay 50 = .ok (.iload 4, 2) := by decide +kernel
theorem dX5_lay_52 : decode cX5_lay 52 = .ok (.invokestatic 85, 3) := by decide +kernel
theorem dX5_lay_55 : decode cX5_lay 55 = .ok (.iastore, 1) := by decide +kernel
theorem dX5_lay_56 : decode cX5_lay 56 = .ok (.iconst 1, 1) := by decide +kernel
theorem dX5_lay_57 : decode cX5_lay 57 = .ok (.ireturn, 1) := by decide +kernel
theorem dX5_get_0 : decode cX5_get 0 = .ok (.iload_n 1, 1) := by decide +kernel
theorem dX5_get_1 : decode cX5_get 1 = .ok (.invokestatic 71, 3) := by decide +kernel
theorem dX5_get_4 : decode cX5_get 4 = .ok (.ifCond .eq 25, 3) := by decide +kernel
theorem dX5_get_7 : decode cX5_get 7 = .ok (.iload_n 2, 1) := by decide +kernel
theorem dX5_get_8 : decode cX5_get 8 = .ok (.i2l, 1) := by decide +kernel
theorem dX5_get_9 : decode cX5_get 9 = .ok (.lconst 0, 1) := by decide +kernel
theorem dX5_get_10 : decode cX5_get 10 = .ok (.ldc2_w 75, 3) := by decide +kernel
theorem dX5_get_13 : decode cX5_get 13 = .ok (.invokestatic 61, 3) := by decide +kernel
theorem dX5_get_16 : decode cX5_get 16 = .ok (.ifCond .eq 13, 3) := by decide +kernel
theorem dX5_get_19 : decode cX5_get 19 = .ok (.aload_n 0, 1) := by decide +kernel
theorem dX5_get_20 : decode cX5_get 20 = .ok (.iload_n 1, 1) := by decide +kernel
theorem dX5_get_21 : decode cX5_get 21 = .ok (.iload_n 2, 1) := by decide +kernel
theorem dX5_get_22 : decode cX5_get 22 = .ok (.iload_n 3, 1) := by decide +kernel
theorem dX5_get_23 : decode cX5_get 23 = .ok (.invokevirtual 81, 3) := by decide +kernel
theorem dX5_get_26 : decode cX5_get 26 = .ok (.ifCond .eq 6, 3) := by decide +kernel
theorem dX5_get_29 : decode cX5_get 29 = .ok (.ldc 89, 2) := by decide +kernel
theorem dX5_get_31 : decode cX5_get 31 = .ok (.ireturn, 1) := by decide +kernel
theorem dX5_get_32 : decode cX5_get 32 = .ok (.aload_n 0, 1) := by decide +kernel
theorem dX5_get_33 : decode cX5_get 33 = .ok (.getfield 16, 3) := by decide +kernel
theorem dX5_get_36 : decode cX5_get 36 = .ok (.bipush 60, 2) := by decide +kernel
theorem dX5_get_38 : decode cX5_get 38 = .ok (.iload_n 1, 1) := by decide +kernel
theorem dX5_get_39 : decode cX5_get 39 = .ok (.imul, 1) := by decide +kernel
theorem dX5_get_40 : decode cX5_get 40 = .ok (.iload_n 3, 1) := by decide +kernel
theorem dX5_get_41 : decode cX5_get 41 = .ok (.iadd, 1) := by decide +kernel
theorem dX5_get_42 : decode cX5_get 42 = .ok (.iaload, 1) := by decide +kernel
theorem dX5_get_43 : decode cX5_get 43 = .ok (.ireturn, 1) := by decide +kernel
theorem dX5_copy_0 : decode cX5_copy 0 = .ok (.iload_n 1, 1) := by decide +kernel
theorem dX5_copy_1 : decode cX5_copy 1 = .ok (.invokestatic 71, 3) := by decide +kernel
theorem dX5_copy_4 : decode cX5_copy 4 = .ok (.ifCond .eq 10, 3) := by decide +kernel
theorem dX5_copy_7 : decode cX5_copy 7 = .ok (.iload_n 3, 1) := by decide +kernel
theorem dX5_copy_8 : decode cX5_copy 8 = .ok (.invokestatic 71, 3) := by decide +kernel
theorem dX5_copy_11 : decode cX5_copy 11 = .ok (.ifCond .ne 6, 3) := by decide +kernel
theorem dX5_copy_14 : decode cX5_copy 14 = .ok (.bipush (-2), 2) := by decide +kernel
theorem dX5_copy_16 : decode cX5_copy 16 = .ok (.ireturn, 1) := by decide +kernel
theorem dX5_copy_17 : decode cX5_copy 17 = .ok (.aload_n 0, 1) := by decide +kernel
theorem dX5_copy_18 : decode cX5_copy 18 = .ok (.getfield 7, 3) := by decide +kernel
theorem dX5_copy_21 : decode cX5_copy 21 = .ok (.iload_n 1, 1) := by decide +kernel
theorem dX5_copy_22 : decode cX5_copy 22 = .ok (.iaload, 1) := by decide +kernel
theorem dX5_copy_23 : decode cX5_copy 23 = .ok (.ifCond .lt 12, 3) := by decide +kernel
theorem dX5_copy_26 : decode cX5_copy 26 = .ok (.aload_n 0, 1) := by decide +kernel
theorem dX5_copy_27 : decode cX5_copy 27 = .ok (.getfield 7, 3) := by decide +kernel
theorem dX5_copy_30 : decode cX5_copy 30 = .ok (.iload_n 3, 1) := by decide +kernel
theorem dX5_copy_31 : decode cX5_copy 31 = .ok (.iaload, 1) := by decide +kernel
theorem dX5_copy_32 : decode cX5_copy 32 = .ok (.ifCond .ge 9, 3) := by decide +kernel
theorem dX5_copy_35 : decode cX5_copy 35 = .ok (.aload_n 0, 1) := by decide +kernel
theorem dX5_copy_36 : decode cX5_copy 36 = .ok (.iconst 1, 1) := by decide +kernel
theorem dX5_copy_37 : decode cX5_copy 37 = .ok (.invokevirtual 77, 3) := by decide +kernel
theorem dX5_copy_40 : decode cX5_copy 40 = .ok (.ireturn, 1) := by decide +kernel
theorem dX5_copy_41 : decode cX5_copy 41 = .ok (.aload_n 0, 1) := by decide +kernel
theorem dX5_copy_42 : decode cX5_copy 42 = .ok (.getfield 7, 3) := by decide +kernel
theorem dX5_copy_45 : decode cX5_copy 45 = .ok (.iload_n 1, 1) := by decide +kernel
theorem dX5_copy_46 : decode cX5_copy 46 = .ok (.iaload, 1) := by decide +kernel
theorem dX5_copy_47 : decode cX5_copy 47 = .ok (.aload_n 0, 1) := by decide +kernel
theorem dX5_copy_48 : decode cX5_copy 48 = .ok (.getfield 7, 3) := by decide +kernel
theorem dX5_copy_51 : decode cX5_copy 51 = .ok (.iload_n 3, 1) := by decide +kernel
theorem dX5_copy_52 : decode cX5_copy 52 = .ok (.iaload, 1) := by decide +kernel
theorem dX5_copy_53 : decode cX5_copy 53 = .ok (.if_icmp .eq 9, 3) := by decide +kernel
theorem dX5_copy_56 : decode cX5_copy 56 = .ok (.aload_n 0, 1) := by decide +kernel
theorem dX5_copy_57 : decode cX5_copy 57 = .ok (.iconst 4, 1) := by decide +kernel
theorem dX5_copy_58 : decode cX5_copy 58 = .ok (.invokevirtual 77, 3) := by decide +kernel
theorem dX5_copy_61 : decode cX5_copy 61 = .ok (.ireturn, 1) := by decide +kernel
theorem dX5_copy_62 : decode cX5_copy 62 = .ok (.iload_n 2, 1) := by decide +kernel
theorem dX5_copy_63 : decode cX5_copy 63 = .ok (.ifCond .lt 48, 3) := by decide +kernel
theorem dX5_copy_66 : decode cX5_copy 66 = .ok (.iload 4, 2) := by decide +kernel
theorem dX5_copy_68 : decode cX5_copy 68 = .ok (.ifCond .lt 43, 3) := by decide +kernel
theorem dX5_copy_71 : decode cX5_copy 71 = .ok (.iload 5, 2) := by decide +kernel
theorem dX5_copy_73 : decode cX5_copy 73 = .ok (.ifCond .lt 38, 3) := by decide +kernel
theorem dX5_copy_76 : decode cX5_copy 76 = .ok (.iload_n 2, 1) := by decide +kernel
theorem dX5_copy_77 : decode cX5_copy 77 = .ok (.i2l, 1) := by decide +kernel
theorem dX5_copy_78 : decode cX5_copy 78 = .ok (.iload 5, 2) := by decide +kernel
theorem dX5_copy_80 : decode cX5_copy 80 = .ok (.i2l, 1) := by decide +kernel
theorem dX5_copy_81 : decode cX5_copy 81 = .ok (.ladd, 1) := by decide +kernel
theorem dX5_copy_82 : decode cX5_copy 82 = .ok (.aload_n 0, 1) := by decide +kernel
theorem dX5_copy_83 : decode cX5_copy 83 = .ok (.getfield 13, 3) := by decide +kernel
theorem dX5_copy_86 : decode cX5_copy 86 = .ok (.iload_n 1, 1) := by decide +kernel
theorem dX5_copy_87 : decode cX5_copy 87 = .ok (.iaload, 1) := by decide +kernel
theorem dX5_copy_88 : decode cX5_copy 88 = .ok (.i2l, 1) := by decide +kernel
theorem dX5_copy_89 : decode cX5_copy 89 = .ok (.lcmp, 1) := by decide +kernel
theorem dX5_copy_90 : decode cX5_copy 90 = .ok (.ifCond .gt 21, 3) := by decide +kernel
theorem dX5_copy_93 : decode cX5_copy 93 = .ok (.iload 4, 2) := by decide +kernel
theorem dX5_copy_95 : decode cX5_copy 95 = .ok (.i2l, 1) := by decide +kernel
theorem dX5_copy_96 : decode cX5_copy 96 = .ok (.iload 5, 2) := by decide +kernel
theorem dX5_copy_98 : decode cX5_copy 98 = .ok (.i2l, 1) := by decide +kernel
theorem dX5_copy_99 : decode cX5_copy 99 = .ok (.ladd, 1) := by decide +kernel
theorem dX5_copy_100 : decode cX5_copy 100 = .ok (.aload_n 0, 1) := by decide +kernel
theorem dX5_copy_101 : decode cX5_copy 101 = .ok (.getfield 13, 3) := by decide +kernel
theorem dX5_copy_104 : decode cX5_copy 104 = .ok (.iload_n 3, 1) := by decide +kernel
theorem dX5_copy_105 : decode cX5_copy 105 = .ok (.iaload, 1) := by decide +kernel
theorem dX5_copy_106 : decode cX5_copy 106 = .ok (.i2l, 1) := by decide +kernel
theorem dX5_copy_107 : decode cX5_copy 107 = .ok (.lcmp, 1) := by decide +kernel
theorem dX5_copy_108 : decode cX5_copy 108 = .ok (.ifCond .le 9, 3) := by decide +kernel
theorem dX5_copy_111 : decode cX5_copy 111 = .ok (.aload_n 0, 1) := by decide +kernel
theorem dX5_copy_112 : decode cX5_copy 112 = .ok (.iconst 2, 1) := by decide +kernel
theorem dX5_copy_113 : decode cX5_copy 113 = .ok (.invokevirtual 77, 3) := by decide +kernel
theorem dX5_copy_116 : decode cX5_copy 116 = .ok (.ireturn, 1) := by decide +kernel
theorem dX5_copy_117 : decode cX5_copy 117 = .ok (.iconst 0, 1) := by decide +kernel
theorem dX5_copy_118 : decode cX5_copy 118 = .ok (.istore 6, 2) := by decide +kernel
theorem dX5_copy_120 : decode cX5_copy 120 = .ok (.iload 6, 2) := by decide +kernel
theorem dX5_copy_122 : decode cX5_copy 122 = .ok (.iload 5, 2) := by decide +kernel
theorem dX5_copy_124 : decode cX5_copy 124 = .ok (.if_icmp .ge 30, 3) := by decide +kernel
theorem dX5_copy_127 : decode cX5_copy 127 = .ok (.aload_n 0, 1) := by decide +kernel
theorem dX5_copy_128 : decode cX5_copy 128 = .ok (.getfield 19, 3) := by decide +kernel
theorem dX5_copy_131 : decode cX5_copy 131 = .ok (.iload 6, 2) := by decide +kernel
theorem dX5_copy_133 : decode cX5_copy 133 = .ok (.aload_n 0, 1) := by decide +kernel
theorem dX5_copy_134 : decode cX5_copy 134 = .ok (.getfield 16, 3) := by decide +kernel
theorem dX5_copy_137 : decode cX5_copy 137 = .ok (.bipush 60, 2) := by decide +kernel
theorem dX5_copy_139 : decode cX5_copy 139 = .ok (.iload_n 1, 1) := by decide +kernel
theorem dX5_copy_140 : decode cX5_copy 140 = .ok (.imul, 1) := by decide +kernel
theorem dX5_copy_141 : decode cX5_copy 141 = .ok (.iload_n 2, 1) := by decide +kernel
theorem dX5_copy_142 : decode cX5_copy 142 = .ok (.iadd, 1) := by decide +kernel
theorem dX5_copy_143 : decode cX5_copy 143 = .ok (.iload 6, 2) := by decide +kernel
theorem dX5_copy_145 : decode cX5_copy 145 = .ok (.iadd, 1) := by decide +kernel
theorem dX5_copy_146 : decode cX5_copy 146 = .ok (.iaload, 1) := by decide +kernel
theorem dX5_copy_147 : decode cX5_copy 147 = .ok (.iastore, 1) := by decide +kernel
theorem dX5_copy_148 : decode cX5_copy 148 = .ok (.iinc 6 1, 3) := by decide +kernel
theorem dX5_copy_151 : decode cX5_copy 151 = .ok (.goto (-31), 3) := by decide +kernel
theorem dX5_copy_154 : decode cX5_copy 154 = .ok (.iconst 0, 1) := by decide +kernel
theorem dX5_copy_155 : decode cX5_copy 155 = .ok (.istore 6, 2) := by decide +kernel
theorem dX5_copy_157 : decode cX5_copy 157 = .ok (.iload 6, 2) := by decide +kernel
theorem dX5_copy_159 : decode cX5_copy 159 = .ok (.iload 5, 2) := by decide +kernel
theorem dX5_copy_161 : decode cX5_copy 161 = .ok (.if_icmp .ge 31, 3) := by decide +kernel
theorem dX5_copy_164 : decode cX5_copy 164 = .ok (.aload_n 0, 1) := by decide +kernel
theorem dX5_copy_165 : decode cX5_copy 165 = .ok (.getfield 16, 3) := by decide +kernel
theorem dX5_copy_168 : decode cX5_copy 168 = .ok (.bipush 60, 2) := by decide +kernel
theorem dX5_copy_170 : decode cX5_copy 170 = .ok (.iload_n 3, 1) := by decide +kernel
theorem dX5_copy_171 : decode cX5_copy 171 = .ok (.imul, 1) := by decide +kernel
theorem dX5_copy_172 : decode cX5_copy 172 = .ok (.iload 4, 2) := by decide +kernel
theorem dX5_copy_174 : decode cX5_copy 174 = .ok (.iadd, 1) := by decide +kernel
theorem dX5_copy_175 : decode cX5_copy 175 = .ok (.iload 6, 2) := by decide +kernel
theorem dX5_copy_177 : decode cX5_copy 177 = .ok (.iadd, 1) := by decide +kernel
theorem dX5_copy_178 : decode cX5_copy 178 = .ok (.aload_n 0, 1) := by decide +kernel
theorem dX5_copy_179 : decode cX5_copy 179 = .ok (.getfield 19, 3) := by decide +kernel
theorem dX5_copy_182 : decode cX5_copy 182 = .ok (.iload 6, 2) := by decide +kernel
theorem dX5_copy_184 : decode cX5_copy 184 = .ok (.iaload, 1) := by decide +kernel
theorem dX5_copy_185 : decode cX5_copy 185 = .ok (.iastore, 1) := by decide +kernel
theorem dX5_copy_186 : decode cX5_copy 186 = .ok (.iinc 6 1, 3) := by decide +kernel
theorem dX5_copy_189 : decode cX5_copy 189 = .ok (.goto (-32), 3) := by decide +kernel
theorem dX5_copy_192 : decode cX5_copy 192 = .ok (.iconst 1, 1) := by decide +kernel
theorem dX5_copy_193 : decode cX5_copy 193 = .ok (.ireturn, 1) := by decide +kernel

theorem dX5_divisor_0 : decode cX5_divisor 0 = .ok (.lload_n 0, 1) := by decide +kernel
theorem dX5_divisor_1 : decode cX5_divisor 1 = .ok (.lconst 0, 1) := by decide +kernel
theorem dX5_divisor_2 : decode cX5_divisor 2 = .ok (.lcmp, 1) := by decide +kernel
theorem dX5_divisor_3 : decode cX5_divisor 3 = .ok (.ifCond .ge 8, 3) := by decide +kernel
theorem dX5_divisor_6 : decode cX5_divisor 6 = .ok (.lload_n 0, 1) := by decide +kernel
theorem dX5_divisor_7 : decode cX5_divisor 7 = .ok (.lneg, 1) := by decide +kernel
theorem dX5_divisor_8 : decode cX5_divisor 8 = .ok (.goto 4, 3) := by decide +kernel
theorem dX5_divisor_11 : decode cX5_divisor 11 = .ok (.lload_n 0, 1) := by decide +kernel
theorem dX5_divisor_12 : decode cX5_divisor 12 = .ok (.lstore 4, 2) := by decide +kernel
theorem dX5_divisor_14 : decode cX5_divisor 14 = .ok (.lload_n 2, 1) := by decide +kernel
theorem dX5_divisor_15 : decode cX5_divisor 15 = .ok (.lstore 6, 2) := by decide +kernel
theorem dX5_divisor_17 : decode cX5_divisor 17 = .ok (.lload 6, 2) := by decide +kernel
theorem dX5_divisor_19 : decode cX5_divisor 19 = .ok (.lconst 0, 1) := by decide +kernel
theorem dX5_divisor_20 : decode cX5_divisor 20 = .ok (.lcmp, 1) := by decide +kernel
theorem dX5_divisor_21 : decode cX5_divisor 21 = .ok (.ifCond .eq 21, 3) := by decide +kernel
theorem dX5_divisor_24 : decode cX5_divisor 24 = .ok (.lload 4, 2) := by decide +kernel
theorem dX5_divisor_26 : decode cX5_divisor 26 = .ok (.lload 6, 2) := by decide +kernel
theorem dX5_divisor_28 : decode cX5_divisor 28 = .ok (.lrem, 1) := by decide +kernel
theorem dX5_divisor_29 : decode cX5_divisor 29 = .ok (.lstore 8, 2) := by decide +kernel
theorem dX5_divisor_31 : decode cX5_divisor 31 = .ok (.lload 6, 2) := by decide +kernel
theorem dX5_divisor_33 : decode cX5_divisor 33 = .ok (.lstore 4, 2) := by decide +kernel
theorem dX5_divisor_35 : decode cX5_divisor 35 = .ok (.lload 8, 2) := by decide +kernel
theorem dX5_divisor_37 : decode cX5_divisor 37 = .ok (.lstore 6, 2) := by decide +kernel
theorem dX5_divisor_39 : decode cX5_divisor 39 = .ok (.goto (-22), 3) := by decide +kernel
theorem dX5_divisor_42 : decode cX5_divisor 42 = .ok (.lload 4, 2) := by decide +kernel
theorem dX5_divisor_44 : decode cX5_divisor 44 = .ok (.lreturn, 1) := by decide +kernel
theorem dX5_part_0 : decode cX5_part 0 = .ok (.iload 4, 2) := by decide +kernel
theorem dX5_part_2 : decode cX5_part 2 = .ok (.ifCond .ne 7, 3) := by decide +kernel
theorem dX5_part_5 : decode cX5_part 5 = .ok (.lload_n 0, 1) := by decide +kernel
theorem dX5_part_6 : decode cX5_part 6 = .ok (.goto 4, 3) := by decide +kernel
theorem dX5_part_9 : decode cX5_part 9 = .ok (.lload_n 2, 1) := by decide +kernel
theorem dX5_part_10 : decode cX5_part 10 = .ok (.lload_n 0, 1) := by decide +kernel
theorem dX5_part_11 : decode cX5_part 11 = .ok (.lload_n 2, 1) := by decide +kernel
theorem dX5_part_12 : decode cX5_part 12 = .ok (.invokestatic 90, 3) := by decide +kernel
theorem dX5_part_15 : decode cX5_part 15 = .ok (.ldiv, 1) := by decide +kernel
theorem dX5_part_16 : decode cX5_part 16 = .ok (.lreturn, 1) := by decide +kernel
theorem dX5_type_0 : decode cX5_type 0 = .ok (.iload_n 1, 1) := by decide +kernel
theorem dX5_type_1 : decode cX5_type 1 = .ok (.i2l, 1) := by decide +kernel
theorem dX5_type_2 : decode cX5_type 2 = .ok (.lconst 0, 1) := by decide +kernel
theorem dX5_type_3 : decode cX5_type 3 = .ok (.ldc2_w 94, 3) := by decide +kernel
theorem dX5_type_6 : decode cX5_type 6 = .ok (.invokestatic 61, 3) := by decide +kernel
theorem dX5_type_9 : decode cX5_type 9 = .ok (.ifCond .ne 6, 3) := by decide +kernel
theorem dX5_type_12 : decode cX5_type 12 = .ok (.bipush (-2), 2) := by decide +kernel
theorem dX5_type_14 : decode cX5_type 14 = .ok (.ireturn, 1) := by decide +kernel
theorem dX5_type_15 : decode cX5_type 15 = .ok (.aload_n 0, 1) := by decide +kernel
theorem dX5_type_16 : decode cX5_type 16 = .ok (.getfield 96, 3) := by decide +kernel
theorem dX5_type_19 : decode cX5_type 19 = .ok (.sipush 150, 3) := by decide +kernel
theorem dX5_type_22 : decode cX5_type 22 = .ok (.if_icmp .ne 6, 3) := by decide +kernel
theorem dX5_type_25 : decode cX5_type 25 = .ok (.bipush (-4), 2) := by decide +kernel
theorem dX5_type_27 : decode cX5_type 27 = .ok (.ireturn, 1) := by decide +kernel
theorem dX5_type_28 : decode cX5_type 28 = .ok (.aload_n 0, 1) := by decide +kernel
theorem dX5_type_29 : decode cX5_type 29 = .ok (.getfield 22, 3) := by decide +kernel
theorem dX5_type_32 : decode cX5_type 32 = .ok (.aload_n 0, 1) := by decide +kernel
theorem dX5_type_33 : decode cX5_type 33 = .ok (.getfield 96, 3) := by decide +kernel
theorem dX5_type_36 : decode cX5_type 36 = .ok (.iload_n 1, 1) := by decide +kernel
theorem dX5_type_37 : decode cX5_type 37 = .ok (.iastore, 1) := by decide +kernel
theorem dX5_type_38 : decode cX5_type 38 = .ok (.aload_n 0, 1) := by decide +kernel
theorem dX5_type_39 : decode cX5_type 39 = .ok (.dup, 1) := by decide +kernel
theorem dX5_type_40 : decode cX5_type 40 = .ok (.getfield 96, 3) := by decide +kernel
theorem dX5_type_43 : decode cX5_type 43 = .ok (.iconst 1, 1) := by decide +kernel
theorem dX5_type_44 : decode cX5_type 44 = .ok (.iadd, 1) := by decide +kernel
theorem dX5_type_45 : decode cX5_type 45 = .ok (.putfield 96, 3) := by decide +kernel
theorem dX5_type_48 : decode cX5_type 48 = .ok (.aload_n 0, 1) := by decide +kernel
theorem dX5_type_49 : decode cX5_type 49 = .ok (.getfield 96, 3) := by decide +kernel
theorem dX5_type_52 : decode cX5_type 52 = .ok (.ireturn, 1) := by decide +kernel
theorem dX5_wipe_0 : decode cX5_wipe 0 = .ok (.aload_n 0, 1) := by decide +kernel
theorem dX5_wipe_1 : decode cX5_wipe 1 = .ok (.getfield 96, 3) := by decide +kernel
theorem dX5_wipe_4 : decode cX5_wipe 4 = .ok (.istore_n 1, 1) := by decide +kernel
theorem dX5_wipe_5 : decode cX5_wipe 5 = .ok (.aload_n 0, 1) := by decide +kernel
theorem dX5_wipe_6 : decode cX5_wipe 6 = .ok (.iconst 0, 1) := by decide +kernel
theorem dX5_wipe_7 : decode cX5_wipe 7 = .ok (.putfield 96, 3) := by decide +kernel
theorem dX5_wipe_10 : decode cX5_wipe 10 = .ok (.iload_n 1, 1) := by decide +kernel
theorem dX5_wipe_11 : decode cX5_wipe 11 = .ok (.ireturn, 1) := by decide +kernel
theorem dX5_here_0 : decode cX5_here 0 = .ok (.aload_n 0, 1) := by decide +kernel
theorem dX5_here_1 : decode cX5_here 1 = .ok (.getfield 99, 3) := by decide +kernel
theorem dX5_here_4 : decode cX5_here 4 = .ok (.aload_n 0, 1) := by decide +kernel
theorem dX5_here_5 : decode cX5_here 5 = .ok (.getfield 96, 3) := by decide +kernel
theorem dX5_here_8 : decode cX5_here 8 = .ok (.if_icmp .ge 15, 3) := by decide +kernel
theorem dX5_here_11 : decode cX5_here 11 = .ok (.aload_n 0, 1) := by decide +kernel
theorem dX5_here_12 : decode cX5_here 12 = .ok (.getfield 22, 3) := by decide +kernel
theorem dX5_here_15 : decode cX5_here 15 = .ok (.aload_n 0, 1) := by decide +kernel
theorem dX5_here_16 : decode cX5_here 16 = .ok (.getfield 99, 3) := by decide +kernel
theorem dX5_here_19 : decode cX5_here 19 = .ok (.iaload, 1) := by decide +kernel
theorem dX5_here_20 : decode cX5_here 20 = .ok (.goto 4, 3) := by decide +kernel
theorem dX5_here_23 : decode cX5_here 23 = .ok (.iconst (-1), 1) := by decide +kernel
theorem dX5_here_24 : decode cX5_here 24 = .ok (.ireturn, 1) := by decide +kernel
theorem dX5_goes_0 : decode cX5_goes 0 = .ok (.aload_n 0, 1) := by decide +kernel
theorem dX5_goes_1 : decode cX5_goes 1 = .ok (.invokevirtual 102, 3) := by decide +kernel
theorem dX5_goes_4 : decode cX5_goes 4 = .ok (.iload_n 1, 1) := by decide +kernel
theorem dX5_goes_5 : decode cX5_goes 5 = .ok (.if_icmp .ne 7, 3) := by decide +kernel
theorem dX5_goes_8 : decode cX5_goes 8 = .ok (.iconst 1, 1) := by decide +kernel
theorem dX5_goes_9 : decode cX5_goes 9 = .ok (.goto 4, 3) := by decide +kernel
theorem dX5_goes_12 : decode cX5_goes 12 = .ok (.iconst 0, 1) := by decide +kernel
theorem dX5_goes_13 : decode cX5_goes 13 = .ok (.istore_n 2, 1) := by decide +kernel
theorem dX5_goes_14 : decode cX5_goes 14 = .ok (.aload_n 0, 1) := by decide +kernel
theorem dX5_goes_15 : decode cX5_goes 15 = .ok (.dup, 1) := by decide +kernel
theorem dX5_goes_16 : decode cX5_goes 16 = .ok (.getfield 99, 3) := by decide +kernel
theorem dX5_goes_19 : decode cX5_goes 19 = .ok (.iload_n 2, 1) := by decide +kernel
theorem dX5_goes_20 : decode cX5_goes 20 = .ok (.ifCond .eq 7, 3) := by decide +kernel
theorem dX5_goes_23 : decode cX5_goes 23 = .ok (.iconst 1, 1) := by decide +kernel
theorem dX5_goes_24 : decode cX5_goes 24 = .ok (.goto 4, 3) := by decide +kernel
theorem dX5_goes_27 : decode cX5_goes 27 = .ok (.iconst 0, 1) := by decide +kernel
theorem dX5_goes_28 : decode cX5_goes 28 = .ok (.iadd, 1) := by decide +kernel
theorem dX5_goes_29 : decode cX5_goes 29 = .ok (.putfield 99, 3) := by decide +kernel
theorem dX5_goes_32 : decode cX5_goes 32 = .ok (.iload_n 2, 1) := by decide +kernel
theorem dX5_goes_33 : decode cX5_goes 33 = .ok (.ireturn, 1) := by decide +kernel
theorem dX5_figures_0 : decode cX5_figures 0 = .ok (.aload_n 0, 1) := by decide +kernel
theorem dX5_figures_1 : decode cX5_figures 1 = .ok (.getfield 99, 3) := by decide +kernel
theorem dX5_figures_4 : decode cX5_figures 4 = .ok (.istore 4, 2) := by decide +kernel
theorem dX5_figures_6 : decode cX5_figures 6 = .ok (.iconst 0, 1) := by decide +kernel
theorem dX5_figures_7 : decode cX5_figures 7 = .ok (.istore 5, 2) := by decide +kernel
theorem dX5_figures_9 : decode cX5_figures 9 = .ok (.aload_n 0, 1) := by decide +kernel
theorem dX5_figures_10 : decode cX5_figures 10 = .ok (.getfield 99, 3) := by decide +kernel
theorem dX5_figures_13 : decode cX5_figures 13 = .ok (.iload 4, 2) := by decide +kernel
theorem dX5_figures_15 : decode cX5_figures 15 = .ok (.iload_n 1, 1) := by decide +kernel
theorem dX5_figures_16 : decode cX5_figures 16 = .ok (.iadd, 1) := by decide +kernel
theorem dX5_figures_17 : decode cX5_figures 17 = .ok (.if_icmp .ge 48, 3) := by decide +kernel
theorem dX5_figures_20 : decode cX5_figures 20 = .ok (.aload_n 0, 1) := by decide +kernel
theorem dX5_figures_21 : decode cX5_figures 21 = .ok (.invokevirtual 102, 3) := by decide +kernel
theorem dX5_figures_24 : decode cX5_figures 24 = .ok (.i2l, 1) := by decide +kernel
theorem dX5_figures_25 : decode cX5_figures 25 = .ok (.ldc2_w 106, 3) := by decide +kernel
theorem dX5_figures_28 : decode cX5_figures 28 = .ok (.ldc2_w 108, 3) := by decide +kernel
theorem dX5_figures_31 : decode cX5_figures 31 = .ok (.invokestatic 61, 3) := by decide +kernel
theorem dX5_figures_34 : decode cX5_figures 34 = .ok (.ifCond .eq 31, 3) := by decide +kernel
theorem dX5_figures_37 : decode cX5_figures 37 = .ok (.bipush 10, 2) := by decide +kernel
theorem dX5_figures_39 : decode cX5_figures 39 = .ok (.iload 5, 2) := by decide +kernel
theorem dX5_figures_41 : decode cX5_figures 41 = .ok (.imul, 1) := by decide +kernel
theorem dX5_figures_42 : decode cX5_figures 42 = .ok (.aload_n 0, 1) := by decide +kernel
theorem dX5_figures_43 : decode cX5_figures 43 = .ok (.invokevirtual 102, 3) := by decide +kernel
theorem dX5_figures_46 : decode cX5_figures 46 = .ok (.iadd, 1) := by decide +kernel
theorem dX5_figures_47 : decode cX5_figures 47 = .ok (.bipush 48, 2) := by decide +kernel
theorem dX5_figures_49 : decode cX5_figures 49 = .ok (.isub, 1) := by decide +kernel
theorem dX5_figures_50 : decode cX5_figures 50 = .ok (.istore 5, 2) := by decide +kernel
theorem dX5_figures_52 : decode cX5_figures 52 = .ok (.aload_n 0, 1) := by decide +kernel
theorem dX5_figures_53 : decode cX5_figures 53 = .ok (.dup, 1) := by decide +kernel
theorem dX5_figures_54 : decode cX5_figures 54 = .ok (.getfield 99, 3) := by decide +kernel
theorem dX5_figures_57 : decode cX5_figures 57 = .ok (.iconst 1, 1) := by decide +kernel
theorem dX5_figures_58 : decode cX5_figures 58 = .ok (.iadd, 1) := by decide +kernel
theorem dX5_figures_59 : decode cX5_figures 59 = .ok (.putfield 99, 3) := by decide +kernel
theorem dX5_figures_62 : decode cX5_figures 62 = .ok (.goto (-53), 3) := by decide +kernel
theorem dX5_figures_65 : decode cX5_figures 65 = .ok (.aload_n 0, 1) := by decide +kernel
theorem dX5_figures_66 : decode cX5_figures 66 = .ok (.getfield 99, 3) := by decide +kernel
theorem dX5_figures_69 : decode cX5_figures 69 = .ok (.iload 4, 2) := by decide +kernel
theorem dX5_figures_71 : decode cX5_figures 71 = .ok (.if_icmp .le 19, 3) := by decide +kernel
theorem dX5_figures_74 : decode cX5_figures 74 = .ok (.iload 5, 2) := by decide +kernel
theorem dX5_figures_76 : decode cX5_figures 76 = .ok (.i2l, 1) := by decide +kernel
theorem dX5_figures_77 : decode cX5_figures 77 = .ok (.iload_n 2, 1) := by decide +kernel
theorem dX5_figures_78 : decode cX5_figures 78 = .ok (.i2l, 1) := by decide +kernel
theorem dX5_figures_79 : decode cX5_figures 79 = .ok (.iload_n 3, 1) := by decide +kernel
theorem dX5_figures_80 : decode cX5_figures 80 = .ok (.i2l, 1) := by decide +kernel
theorem dX5_figures_81 : decode cX5_figures 81 = .ok (.invokestatic 61, 3) := by decide +kernel
theorem dX5_figures_84 : decode cX5_figures 84 = .ok (.ifCond .eq 6, 3) := by decide +kernel
theorem dX5_figures_87 : decode cX5_figures 87 = .ok (.iload 5, 2) := by decide +kernel
theorem dX5_figures_89 : decode cX5_figures 89 = .ok (.ireturn, 1) := by decide +kernel
theorem dX5_figures_90 : decode cX5_figures 90 = .ok (.aload_n 0, 1) := by decide +kernel
theorem dX5_figures_91 : decode cX5_figures 91 = .ok (.iload 4, 2) := by decide +kernel
theorem dX5_figures_93 : decode cX5_figures 93 = .ok (.putfield 99, 3) := by decide +kernel
theorem dX5_figures_96 : decode cX5_figures 96 = .ok (.bipush (-9), 2) := by decide +kernel
theorem dX5_figures_98 : decode cX5_figures 98 = .ok (.ireturn, 1) := by decide +kernel
theorem dX5_readsShop_0 : decode cX5_readsShop 0 = .ok (.aload_n 0, 1) := by decide +kernel
theorem dX5_readsShop_1 : decode cX5_readsShop 1 = .ok (.getfield 110, 3) := by decide +kernel
theorem dX5_readsShop_4 : decode cX5_readsShop 4 = .ok (.iconst 5, 1) := by decide +kernel
theorem dX5_readsShop_5 : decode cX5_readsShop 5 = .ok (.if_icmp .ne 5, 3) := by decide +kernel
theorem dX5_readsShop_8 : decode cX5_readsShop 8 = .ok (.iconst 0, 1) := by decide +kernel
theorem dX5_readsShop_9 : decode cX5_readsShop 9 = .ok (.ireturn, 1) := by decide +kernel
theorem dX5_readsShop_10 : decode cX5_readsShop 10 = .ok (.aload_n 0, 1) := by decide +kernel
theorem dX5_readsShop_11 : decode cX5_readsShop 11 = .ok (.dup, 1) := by decide +kernel
theorem dX5_readsShop_12 : decode cX5_readsShop 12 = .ok (.getfield 99, 3) := by decide +kernel
theorem dX5_readsShop_15 : decode cX5_readsShop 15 = .ok (.iconst 1, 1) := by decide +kernel
theorem dX5_readsShop_16 : decode cX5_readsShop 16 = .ok (.iadd, 1) := by decide +kernel
theorem dX5_readsShop_17 : decode cX5_readsShop 17 = .ok (.putfield 99, 3) := by decide +kernel
theorem dX5_readsShop_20 : decode cX5_readsShop 20 = .ok (.aload_n 0, 1) := by decide +kernel
theorem dX5_readsShop_21 : decode cX5_readsShop 21 = .ok (.iconst 1, 1) := by decide +kernel
theorem dX5_readsShop_22 : decode cX5_readsShop 22 = .ok (.iconst 1, 1) := by decide +kernel
theorem dX5_readsShop_23 : decode cX5_readsShop 23 = .ok (.iconst 3, 1) := by decide +kernel
theorem dX5_readsShop_24 : decode cX5_readsShop 24 = .ok (.invokevirtual 113, 3) := by decide +kernel
theorem dX5_readsShop_27 : decode cX5_readsShop 27 = .ok (.istore_n 1, 1) := by decide +kernel
theorem dX5_readsShop_28 : decode cX5_readsShop 28 = .ok (.iload_n 1, 1) := by decide +kernel
theorem dX5_readsShop_29 : decode cX5_readsShop 29 = .ok (.ifCond .lt 12, 3) := by decide +kernel
theorem dX5_readsShop_32 : decode cX5_readsShop 32 = .ok (.aload_n 0, 1) := by decide +kernel
theorem dX5_readsShop_33 : decode cX5_readsShop 33 = .ok (.bipush 44, 2) := by decide +kernel
theorem dX5_readsShop_35 : decode cX5_readsShop 35 = .ok (.invokevirtual 116, 3) := by decide +kernel
theorem dX5_readsShop_38 : decode cX5_readsShop 38 = .ok (.ifCond .ne 5, 3) := by decide +kernel
theorem dX5_readsShop_41 : decode cX5_readsShop 41 = .ok (.iconst 0, 1) := by decide +kernel
theorem dX5_readsShop_42 : decode cX5_readsShop 42 = .ok (.ireturn, 1) := by decide +kernel
theorem dX5_readsShop_43 : decode cX5_readsShop 43 = .ok (.aload_n 0, 1) := by decide +kernel
theorem dX5_readsShop_44 : decode cX5_readsShop 44 = .ok (.iconst 2, 1) := by decide +kernel
theorem dX5_readsShop_45 : decode cX5_readsShop 45 = .ok (.iconst 0, 1) := by decide +kernel
theorem dX5_readsShop_46 : decode cX5_readsShop 46 = .ok (.bipush 99, 2) := by decide +kernel
theorem dX5_readsShop_48 : decode cX5_readsShop 48 = .ok (.invokevirtual 113, 3) := by decide +kernel
theorem dX5_readsShop_51 : decode cX5_readsShop 51 = .ok (.istore_n 2, 1) := by decide +kernel
theorem dX5_readsShop_52 : decode cX5_readsShop 52 = .ok (.iload_n 2, 1) := by decide +kernel
theorem dX5_readsShop_53 : decode cX5_readsShop 53 = .ok (.ifCond .ge 5, 3) := by decide +kernel
theorem dX5_readsShop_56 : decode cX5_readsShop 56 = .ok (.iconst 0, 1) := by decide +kernel
theorem dX5_readsShop_57 : decode cX5_readsShop 57 = .ok (.ireturn, 1) := by decide +kernel
theorem dX5_readsShop_58 : decode cX5_readsShop 58 = .ok (.aload_n 0, 1) := by decide +kernel
theorem dX5_readsShop_59 : decode cX5_readsShop 59 = .ok (.getfield 25, 3) := by decide +kernel
theorem dX5_readsShop_62 : decode cX5_readsShop 62 = .ok (.aload_n 0, 1) := by decide +kernel
theorem dX5_readsShop_63 : decode cX5_readsShop 63 = .ok (.getfield 110, 3) := by decide +kernel
theorem dX5_readsShop_66 : decode cX5_readsShop 66 = .ok (.iload_n 1, 1) := by decide +kernel
theorem dX5_readsShop_67 : decode cX5_readsShop 67 = .ok (.iastore, 1) := by decide +kernel
theorem dX5_readsShop_68 : decode cX5_readsShop 68 = .ok (.aload_n 0, 1) := by decide +kernel
theorem dX5_readsShop_69 : decode cX5_readsShop 69 = .ok (.getfield 28, 3) := by decide +kernel
theorem dX5_readsShop_72 : decode cX5_readsShop 72 = .ok (.aload_n 0, 1) := by decide +kernel
theorem dX5_readsShop_73 : decode cX5_readsShop 73 = .ok (.getfield 110, 3) := by decide +kernel
theorem dX5_readsShop_76 : decode cX5_readsShop 76 = .ok (.iload_n 2, 1) := by decide +kernel
theorem dX5_readsShop_77 : decode cX5_readsShop 77 = .ok (.iastore, 1) := by decide +kernel
theorem dX5_readsShop_78 : decode cX5_readsShop 78 = .ok (.aload_n 0, 1) := by decide +kernel
theorem dX5_readsShop_79 : decode cX5_readsShop 79 = .ok (.dup, 1) := by decide +kernel
theorem dX5_readsShop_80 : decode cX5_readsShop 80 = .ok (.getfield 110, 3) := by decide +kernel
theorem dX5_readsShop_83 : decode cX5_readsShop 83 = .ok (.iconst 1, 1) := by decide +kernel
theorem dX5_readsShop_84 : decode cX5_readsShop 84 = .ok (.iadd, 1) := by decide +kernel
theorem dX5_readsShop_85 : decode cX5_readsShop 85 = .ok (.putfield 110, 3) := by decide +kernel
theorem dX5_readsShop_88 : decode cX5_readsShop 88 = .ok (.iconst 1, 1) := by decide +kernel
theorem dX5_readsShop_89 : decode cX5_readsShop 89 = .ok (.ireturn, 1) := by decide +kernel
theorem dX5_behind_0 : decode cX5_behind 0 = .ok (.aload_n 0, 1) := by decide +kernel
theorem dX5_behind_1 : decode cX5_behind 1 = .ok (.bipush 44, 2) := by decide +kernel
theorem dX5_behind_3 : decode cX5_behind 3 = .ok (.invokevirtual 116, 3) := by decide +kernel
theorem dX5_behind_6 : decode cX5_behind 6 = .ok (.ifCond .ne 6, 3) := by decide +kernel
theorem dX5_behind_9 : decode cX5_behind 9 = .ok (.bipush (-9), 2) := by decide +kernel
theorem dX5_behind_11 : decode cX5_behind 11 = .ok (.ireturn, 1) := by decide +kernel
theorem dX5_behind_12 : decode cX5_behind 12 = .ok (.iload_n 1, 1) := by decide +kernel
theorem dX5_behind_13 : decode cX5_behind 13 = .ok (.iconst 2, 1) := by decide +kernel
theorem dX5_behind_14 : decode cX5_behind 14 = .ok (.if_icmp .ne 29, 3) := by decide +kernel
theorem dX5_behind_17 : decode cX5_behind 17 = .ok (.aload_n 0, 1) := by decide +kernel
theorem dX5_behind_18 : decode cX5_behind 18 = .ok (.bipush 45, 2) := by decide +kernel
theorem dX5_behind_20 : decode cX5_behind 20 = .ok (.invokevirtual 116, 3) := by decide +kernel
theorem dX5_behind_23 : decode cX5_behind 23 = .ok (.ifCond .eq 7, 3) := by decide +kernel
theorem dX5_behind_26 : decode cX5_behind 26 = .ok (.iconst (-1), 1) := by decide +kernel
theorem dX5_behind_27 : decode cX5_behind 27 = .ok (.goto 15, 3) := by decide +kernel
theorem dX5_behind_30 : decode cX5_behind 30 = .ok (.aload_n 0, 1) := by decide +kernel
theorem dX5_behind_31 : decode cX5_behind 31 = .ok (.iconst 1, 1) := by decide +kernel
theorem dX5_behind_32 : decode cX5_behind 32 = .ok (.iconst 0, 1) := by decide +kernel
theorem dX5_behind_33 : decode cX5_behind 33 = .ok (.aload_n 0, 1) := by decide +kernel
theorem dX5_behind_34 : decode cX5_behind 34 = .ok (.getfield 110, 3) := by decide +kernel
theorem dX5_behind_37 : decode cX5_behind 37 = .ok (.iconst 1, 1) := by decide +kernel
theorem dX5_behind_38 : decode cX5_behind 38 = .ok (.isub, 1) := by decide +kernel
theorem dX5_behind_39 : decode cX5_behind 39 = .ok (.invokevirtual 113, 3) := by decide +kernel
theorem dX5_behind_42 : decode cX5_behind 42 = .ok (.ireturn, 1) := by decide +kernel
theorem dX5_behind_43 : decode cX5_behind 43 = .ok (.iload_n 1, 1) := by decide +kernel
theorem dX5_behind_44 : decode cX5_behind 44 = .ok (.iconst 3, 1) := by decide +kernel
theorem dX5_behind_45 : decode cX5_behind 45 = .ok (.if_icmp .eq 8, 3) := by decide +kernel
theorem dX5_behind_48 : decode cX5_behind 48 = .ok (.iload_n 1, 1) := by decide +kernel
theorem dX5_behind_49 : decode cX5_behind 49 = .ok (.iconst 4, 1) := by decide +kernel
theorem dX5_behind_50 : decode cX5_behind 50 = .ok (.if_icmp .ne 14, 3) := by decide +kernel
theorem dX5_behind_53 : decode cX5_behind 53 = .ok (.aload_n 0, 1) := by decide +kernel
theorem dX5_behind_54 : decode cX5_behind 54 = .ok (.iconst 2, 1) := by decide +kernel
theorem dX5_behind_55 : decode cX5_behind 55 = .ok (.iconst 0, 1) := by decide +kernel
theorem dX5_behind_56 : decode cX5_behind 56 = .ok (.bipush 16, 2) := by decide +kernel
theorem dX5_behind_58 : decode cX5_behind 58 = .ok (.invokevirtual 113, 3) := by decide +kernel
theorem dX5_behind_61 : decode cX5_behind 61 = .ok (.goto 11, 3) := by decide +kernel
theorem dX5_behind_64 : decode cX5_behind 64 = .ok (.aload_n 0, 1) := by decide +kernel
theorem dX5_behind_65 : decode cX5_behind 65 = .ok (.iconst 2, 1) := by decide +kernel
theorem dX5_behind_66 : decode cX5_behind 66 = .ok (.iconst 1, 1) := by decide +kernel
theorem dX5_behind_67 : decode cX5_behind 67 = .ok (.bipush 99, 2) := by decide +kernel
theorem dX5_behind_69 : decode cX5_behind 69 = .ok (.invokevirtual 113, 3) := by decide +kernel
theorem dX5_behind_72 : decode cX5_behind 72 = .ok (.ireturn, 1) := by decide +kernel
theorem dX5_readsSort_0 : decode cX5_readsSort 0 = .ok (.aload_n 0, 1) := by decide +kernel
theorem dX5_readsSort_1 : decode cX5_readsSort 1 = .ok (.getfield 119, 3) := by decide +kernel
theorem dX5_readsSort_4 : decode cX5_readsSort 4 = .ok (.bipush 6, 2) := by decide +kernel
theorem dX5_readsSort_6 : decode cX5_readsSort 6 = .ok (.if_icmp .ne 5, 3) := by decide +kernel
theorem dX5_readsSort_9 : decode cX5_readsSort 9 = .ok (.iconst 0, 1) := by decide +kernel
theorem dX5_readsSort_10 : decode cX5_readsSort 10 = .ok (.ireturn, 1) := by decide +kernel
theorem dX5_readsSort_11 : decode cX5_readsSort 11 = .ok (.aload_n 0, 1) := by decide +kernel
theorem dX5_readsSort_12 : decode cX5_readsSort 12 = .ok (.dup, 1) := by decide +kernel
theorem dX5_readsSort_13 : decode cX5_readsSort 13 = .ok (.getfield 99, 3) := by decide +kernel
theorem dX5_readsSort_16 : decode cX5_readsSort 16 = .ok (.iconst 1, 1) := by decide +kernel
theorem dX5_readsSort_17 : decode cX5_readsSort 17 = .ok (.iadd, 1) := by decide +kernel
theorem dX5_readsSort_18 : decode cX5_readsSort 18 = .ok (.putfield 99, 3) := by decide +kernel
theorem dX5_readsSort_21 : decode cX5_readsSort 21 = .ok (.aload_n 0, 1) := by decide +kernel
theorem dX5_readsSort_22 : decode cX5_readsSort 22 = .ok (.iconst 1, 1) := by decide +kernel
theorem dX5_readsSort_23 : decode cX5_readsSort 23 = .ok (.iconst 1, 1) := by decide +kernel
theorem dX5_readsSort_24 : decode cX5_readsSort 24 = .ok (.iconst 3, 1) := by decide +kernel
theorem dX5_readsSort_25 : decode cX5_readsSort 25 = .ok (.invokevirtual 113, 3) := by decide +kernel
theorem dX5_readsSort_28 : decode cX5_readsSort 28 = .ok (.istore_n 1, 1) := by decide +kernel
theorem dX5_readsSort_29 : decode cX5_readsSort 29 = .ok (.iload_n 1, 1) := by decide +kernel
theorem dX5_readsSort_30 : decode cX5_readsSort 30 = .ok (.ifCond .ge 5, 3) := by decide +kernel
theorem dX5_readsSort_33 : decode cX5_readsSort 33 = .ok (.iconst 0, 1) := by decide +kernel
theorem dX5_readsSort_34 : decode cX5_readsSort 34 = .ok (.ireturn, 1) := by decide +kernel
theorem dX5_readsSort_35 : decode cX5_readsSort 35 = .ok (.aload_n 0, 1) := by decide +kernel
theorem dX5_readsSort_36 : decode cX5_readsSort 36 = .ok (.getfield 31, 3) := by decide +kernel
theorem dX5_readsSort_39 : decode cX5_readsSort 39 = .ok (.bipush 6, 2) := by decide +kernel
theorem dX5_readsSort_41 : decode cX5_readsSort 41 = .ok (.aload_n 0, 1) := by decide +kernel
theorem dX5_readsSort_42 : decode cX5_readsSort 42 = .ok (.getfield 119, 3) := by decide +kernel
theorem dX5_readsSort_45 : decode cX5_readsSort 45 = .ok (.imul, 1) := by decide +kernel
theorem dX5_readsSort_46 : decode cX5_readsSort 46 = .ok (.iload_n 1, 1) := by decide +kernel
theorem dX5_readsSort_47 : decode cX5_readsSort 47 = .ok (.iastore, 1) := by decide +kernel
theorem dX5_readsSort_48 : decode cX5_readsSort 48 = .ok (.iconst 1, 1) := by decide +kernel
theorem dX5_readsSort_49 : decode cX5_readsSort 49 = .ok (.istore_n 2, 1) := by decide +kernel
theorem dX5_readsSort_50 : decode cX5_readsSort 50 = .ok (.iload_n 2, 1) := by decide +kernel
theorem dX5_readsSort_51 : decode cX5_readsSort 51 = .ok (.bipush 6, 2) := by decide +kernel
theorem dX5_readsSort_53 : decode cX5_readsSort 53 = .ok (.if_icmp .ge 38, 3) := by decide +kernel
theorem dX5_readsSort_56 : decode cX5_readsSort 56 = .ok (.aload_n 0, 1) := by decide +kernel
theorem dX5_readsSort_57 : decode cX5_readsSort 57 = .ok (.iload_n 2, 1) := by decide +kernel
theorem dX5_readsSort_58 : decode cX5_readsSort 58 = .ok (.invokevirtual 122, 3) := by decide +kernel
theorem dX5_readsSort_61 : decode cX5_readsSort 61 = .ok (.istore_n 3, 1) := by decide +kernel
theorem dX5_readsSort_62 : decode cX5_readsSort 62 = .ok (.iload_n 3, 1) := by decide +kernel
theorem dX5_readsSort_63 : decode cX5_readsSort 63 = .ok (.bipush (-9), 2) := by decide +kernel
theorem dX5_readsSort_65 : decode cX5_readsSort 65 = .ok (.if_icmp .ne 5, 3) := by decide +kernel
theorem dX5_readsSort_68 : decode cX5_readsSort 68 = .ok (.iconst 0, 1) := by decide +kernel
theorem dX5_readsSort_69 : decode cX5_readsSort 69 = .ok (.ireturn, 1) := by decide +kernel
theorem dX5_readsSort_70 : decode cX5_readsSort 70 = .ok (.aload_n 0, 1) := by decide +kernel
theorem dX5_readsSort_71 : decode cX5_readsSort 71 = .ok (.getfield 31, 3) := by decide +kernel
theorem dX5_readsSort_74 : decode cX5_readsSort 74 = .ok (.bipush 6, 2) := by decide +kernel
theorem dX5_readsSort_76 : decode cX5_readsSort 76 = .ok (.aload_n 0, 1) := by decide +kernel
theorem dX5_readsSort_77 : decode cX5_readsSort 77 = .ok (.getfield 119, 3) := by decide +kernel
theorem dX5_readsSort_80 : decode cX5_readsSort 80 = .ok (.imul, 1) := by decide +kernel
theorem dX5_readsSort_81 : decode cX5_readsSort 81 = .ok (.iload_n 2, 1) := by decide +kernel
theorem dX5_readsSort_82 : decode cX5_readsSort 82 = .ok (.iadd, 1) := by decide +kernel
theorem dX5_readsSort_83 : decode cX5_readsSort 83 = .ok (.iload_n 3, 1) := by decide +kernel
theorem dX5_readsSort_84 : decode cX5_readsSort 84 = .ok (.iastore, 1) := by decide +kernel
theorem dX5_readsSort_85 : decode cX5_readsSort 85 = .ok (.iinc 2 1, 3) := by decide +kernel
theorem dX5_readsSort_88 : decode cX5_readsSort 88 = .ok (.goto (-38), 3) := by decide +kernel
theorem dX5_readsSort_91 : decode cX5_readsSort 91 = .ok (.aload_n 0, 1) := by decide +kernel
theorem dX5_readsSort_92 : decode cX5_readsSort 92 = .ok (.dup, 1) := by decide +kernel
theorem dX5_readsSort_93 : decode cX5_readsSort 93 = .ok (.getfield 119, 3) := by decide +kernel
theorem dX5_readsSort_96 : decode cX5_readsSort 96 = .ok (.iconst 1, 1) := by decide +kernel
theorem dX5_readsSort_97 : decode cX5_readsSort 97 = .ok (.iadd, 1) := by decide +kernel
theorem dX5_readsSort_98 : decode cX5_readsSort 98 = .ok (.putfield 119, 3) := by decide +kernel
theorem dX5_readsSort_101 : decode cX5_readsSort 101 = .ok (.iconst 1, 1) := by decide +kernel
theorem dX5_readsSort_102 : decode cX5_readsSort 102 = .ok (.ireturn, 1) := by decide +kernel
theorem dX5_stops_0 : decode cX5_stops 0 = .ok (.aload_n 0, 1) := by decide +kernel
theorem dX5_stops_1 : decode cX5_stops 1 = .ok (.iconst 0, 1) := by decide +kernel
theorem dX5_stops_2 : decode cX5_stops 2 = .ok (.putfield 110, 3) := by decide +kernel
theorem dX5_stops_5 : decode cX5_stops 5 = .ok (.aload_n 0, 1) := by decide +kernel
theorem dX5_stops_6 : decode cX5_stops 6 = .ok (.iconst 0, 1) := by decide +kernel
theorem dX5_stops_7 : decode cX5_stops 7 = .ok (.putfield 119, 3) := by decide +kernel
theorem dX5_stops_10 : decode cX5_stops 10 = .ok (.aload_n 0, 1) := by decide +kernel
theorem dX5_stops_11 : decode cX5_stops 11 = .ok (.getfield 99, 3) := by decide +kernel
theorem dX5_stops_14 : decode cX5_stops 14 = .ok (.ireturn, 1) := by decide +kernel
theorem dX5_reads_0 : decode cX5_reads 0 = .ok (.aload_n 0, 1) := by decide +kernel
theorem dX5_reads_1 : decode cX5_reads 1 = .ok (.iconst 0, 1) := by decide +kernel
theorem dX5_reads_2 : decode cX5_reads 2 = .ok (.putfield 99, 3) := by decide +kernel
theorem dX5_reads_5 : decode cX5_reads 5 = .ok (.aload_n 0, 1) := by decide +kernel
theorem dX5_reads_6 : decode cX5_reads 6 = .ok (.iconst 0, 1) := by decide +kernel
theorem dX5_reads_7 : decode cX5_reads 7 = .ok (.putfield 110, 3) := by decide +kernel
theorem dX5_reads_10 : decode cX5_reads 10 = .ok (.aload_n 0, 1) := by decide +kernel
theorem dX5_reads_11 : decode cX5_reads 11 = .ok (.iconst 0, 1) := by decide +kernel
theorem dX5_reads_12 : decode cX5_reads 12 = .ok (.putfield 119, 3) := by decide +kernel
theorem dX5_reads_15 : decode cX5_reads 15 = .ok (.aload_n 0, 1) := by decide +kernel
theorem dX5_reads_16 : decode cX5_reads 16 = .ok (.getfield 96, 3) := by decide +kernel
theorem dX5_reads_19 : decode cX5_reads 19 = .ok (.ifCond .le 7, 3) := by decide +kernel
theorem dX5_reads_22 : decode cX5_reads 22 = .ok (.iconst 1, 1) := by decide +kernel
theorem dX5_reads_23 : decode cX5_reads 23 = .ok (.goto 4, 3) := by decide +kernel
theorem dX5_reads_26 : decode cX5_reads 26 = .ok (.iconst 0, 1) := by decide +kernel
theorem dX5_reads_27 : decode cX5_reads 27 = .ok (.istore_n 1, 1) := by decide +kernel
theorem dX5_reads_28 : decode cX5_reads 28 = .ok (.iload_n 1, 1) := by decide +kernel
theorem dX5_reads_29 : decode cX5_reads 29 = .ok (.ifCond .eq 104, 3) := by decide +kernel
theorem dX5_reads_32 : decode cX5_reads 32 = .ok (.aload_n 0, 1) := by decide +kernel
theorem dX5_reads_33 : decode cX5_reads 33 = .ok (.invokevirtual 102, 3) := by decide +kernel
theorem dX5_reads_36 : decode cX5_reads 36 = .ok (.istore_n 2, 1) := by decide +kernel
theorem dX5_reads_37 : decode cX5_reads 37 = .ok (.iload_n 2, 1) := by decide +kernel
theorem dX5_reads_38 : decode cX5_reads 38 = .ok (.bipush 115, 2) := by decide +kernel
theorem dX5_reads_40 : decode cX5_reads 40 = .ok (.if_icmp .eq 9, 3) := by decide +kernel
theorem dX5_reads_43 : decode cX5_reads 43 = .ok (.iload_n 2, 1) := by decide +kernel
theorem dX5_reads_44 : decode cX5_reads 44 = .ok (.bipush 98, 2) := by decide +kernel
theorem dX5_reads_46 : decode cX5_reads 46 = .ok (.if_icmp .ne 26, 3) := by decide +kernel
theorem dX5_reads_49 : decode cX5_reads 49 = .ok (.iload_n 2, 1) := by decide +kernel
theorem dX5_reads_50 : decode cX5_reads 50 = .ok (.bipush 115, 2) := by decide +kernel
theorem dX5_reads_52 : decode cX5_reads 52 = .ok (.if_icmp .ne 13, 3) := by decide +kernel
theorem dX5_reads_55 : decode cX5_reads 55 = .ok (.aload_n 0, 1) := by decide +kernel
theorem dX5_reads_56 : decode cX5_reads 56 = .ok (.invokevirtual 125, 3) := by decide +kernel
theorem dX5_reads_59 : decode cX5_reads 59 = .ok (.ifCond .eq 13, 3) := by decide +kernel
theorem dX5_reads_62 : decode cX5_reads 62 = .ok (.goto 15, 3) := by decide +kernel
theorem dX5_reads_65 : decode cX5_reads 65 = .ok (.aload_n 0, 1) := by decide +kernel
theorem dX5_reads_66 : decode cX5_reads 66 = .ok (.invokevirtual 129, 3) := by decide +kernel
theorem dX5_reads_69 : decode cX5_reads 69 = .ok (.ifCond .ne 8, 3) := by decide +kernel
theorem dX5_reads_72 : decode cX5_reads 72 = .ok (.aload_n 0, 1) := by decide +kernel
theorem dX5_reads_73 : decode cX5_reads 73 = .ok (.invokevirtual 132, 3) := by decide +kernel
theorem dX5_reads_76 : decode cX5_reads 76 = .ok (.ireturn, 1) := by decide +kernel
theorem dX5_reads_77 : decode cX5_reads 77 = .ok (.aload_n 0, 1) := by decide +kernel
theorem dX5_reads_78 : decode cX5_reads 78 = .ok (.getfield 99, 3) := by decide +kernel
theorem dX5_reads_81 : decode cX5_reads 81 = .ok (.aload_n 0, 1) := by decide +kernel
theorem dX5_reads_82 : decode cX5_reads 82 = .ok (.getfield 96, 3) := by decide +kernel
theorem dX5_reads_85 : decode cX5_reads 85 = .ok (.if_icmp .ge 7, 3) := by decide +kernel
theorem dX5_reads_88 : decode cX5_reads 88 = .ok (.iconst 1, 1) := by decide +kernel
theorem dX5_reads_89 : decode cX5_reads 89 = .ok (.goto 4, 3) := by decide +kernel
theorem dX5_reads_92 : decode cX5_reads 92 = .ok (.iconst 0, 1) := by decide +kernel
theorem dX5_reads_93 : decode cX5_reads 93 = .ok (.istore_n 1, 1) := by decide +kernel
theorem dX5_reads_94 : decode cX5_reads 94 = .ok (.iload_n 1, 1) := by decide +kernel
theorem dX5_reads_95 : decode cX5_reads 95 = .ok (.ifCond .eq 17, 3) := by decide +kernel
theorem dX5_reads_98 : decode cX5_reads 98 = .ok (.aload_n 0, 1) := by decide +kernel
theorem dX5_reads_99 : decode cX5_reads 99 = .ok (.invokevirtual 102, 3) := by decide +kernel
theorem dX5_reads_102 : decode cX5_reads 102 = .ok (.bipush 59, 2) := by decide +kernel
theorem dX5_reads_104 : decode cX5_reads 104 = .ok (.if_icmp .eq 8, 3) := by decide +kernel
theorem dX5_reads_107 : decode cX5_reads 107 = .ok (.aload_n 0, 1) := by decide +kernel
theorem dX5_reads_108 : decode cX5_reads 108 = .ok (.invokevirtual 132, 3) := by decide +kernel
theorem dX5_reads_111 : decode cX5_reads 111 = .ok (.ireturn, 1) := by decide +kernel
theorem dX5_reads_112 : decode cX5_reads 112 = .ok (.aload_n 0, 1) := by decide +kernel
theorem dX5_reads_113 : decode cX5_reads 113 = .ok (.dup, 1) := by decide +kernel
theorem dX5_reads_114 : decode cX5_reads 114 = .ok (.getfield 99, 3) := by decide +kernel
theorem dX5_reads_117 : decode cX5_reads 117 = .ok (.iload_n 1, 1) := by decide +kernel
theorem dX5_reads_118 : decode cX5_reads 118 = .ok (.ifCond .eq 7, 3) := by decide +kernel
theorem dX5_reads_121 : decode cX5_reads 121 = .ok (.iconst 1, 1) := by decide +kernel
theorem dX5_reads_122 : decode cX5_reads 122 = .ok (.goto 4, 3) := by decide +kernel
theorem dX5_reads_125 : decode cX5_reads 125 = .ok (.iconst 0, 1) := by decide +kernel
theorem dX5_reads_126 : decode cX5_reads 126 = .ok (.iadd, 1) := by decide +kernel
theorem dX5_reads_127 : decode cX5_reads 127 = .ok (.putfield 99, 3) := by decide +kernel
theorem dX5_reads_130 : decode cX5_reads 130 = .ok (.goto (-102), 3) := by decide +kernel
theorem dX5_reads_133 : decode cX5_reads 133 = .ok (.iconst (-1), 1) := by decide +kernel
theorem dX5_reads_134 : decode cX5_reads 134 = .ok (.ireturn, 1) := by decide +kernel
theorem dX5_fault_0 : decode cX5_fault 0 = .ok (.aload_n 0, 1) := by decide +kernel
theorem dX5_fault_1 : decode cX5_fault 1 = .ok (.invokevirtual 135, 3) := by decide +kernel
theorem dX5_fault_4 : decode cX5_fault 4 = .ok (.ireturn, 1) := by decide +kernel
theorem dX5_isShop_0 : decode cX5_isShop 0 = .ok (.aload_n 0, 1) := by decide +kernel
theorem dX5_isShop_1 : decode cX5_isShop 1 = .ok (.invokevirtual 135, 3) := by decide +kernel
theorem dX5_isShop_4 : decode cX5_isShop 4 = .ok (.pop, 1) := by decide +kernel
theorem dX5_isShop_5 : decode cX5_isShop 5 = .ok (.iload_n 1, 1) := by decide +kernel
theorem dX5_isShop_6 : decode cX5_isShop 6 = .ok (.i2l, 1) := by decide +kernel
theorem dX5_isShop_7 : decode cX5_isShop 7 = .ok (.lconst 0, 1) := by decide +kernel
theorem dX5_isShop_8 : decode cX5_isShop 8 = .ok (.aload_n 0, 1) := by decide +kernel
theorem dX5_isShop_9 : decode cX5_isShop 9 = .ok (.getfield 110, 3) := by decide +kernel
theorem dX5_isShop_12 : decode cX5_isShop 12 = .ok (.iconst 1, 1) := by decide +kernel
theorem dX5_isShop_13 : decode cX5_isShop 13 = .ok (.isub, 1) := by decide +kernel
theorem dX5_isShop_14 : decode cX5_isShop 14 = .ok (.i2l, 1) := by decide +kernel
theorem dX5_isShop_15 : decode cX5_isShop 15 = .ok (.invokestatic 61, 3) := by decide +kernel
theorem dX5_isShop_18 : decode cX5_isShop 18 = .ok (.ireturn, 1) := by decide +kernel
theorem dX5_isBound_0 : decode cX5_isBound 0 = .ok (.aload_n 0, 1) := by decide +kernel
theorem dX5_isBound_1 : decode cX5_isBound 1 = .ok (.getfield 25, 3) := by decide +kernel
theorem dX5_isBound_4 : decode cX5_isBound 4 = .ok (.iload_n 1, 1) := by decide +kernel
theorem dX5_isBound_5 : decode cX5_isBound 5 = .ok (.iaload, 1) := by decide +kernel
theorem dX5_isBound_6 : decode cX5_isBound 6 = .ok (.aload_n 0, 1) := by decide +kernel
theorem dX5_isBound_7 : decode cX5_isBound 7 = .ok (.getfield 34, 3) := by decide +kernel
theorem dX5_isBound_10 : decode cX5_isBound 10 = .ok (.iconst 2, 1) := by decide +kernel
theorem dX5_isBound_11 : decode cX5_isBound 11 = .ok (.iaload, 1) := by decide +kernel
theorem dX5_isBound_12 : decode cX5_isBound 12 = .ok (.if_icmp .le 7, 3) := by decide +kernel
theorem dX5_isBound_15 : decode cX5_isBound 15 = .ok (.iconst 1, 1) := by decide +kernel
theorem dX5_isBound_16 : decode cX5_isBound 16 = .ok (.goto 4, 3) := by decide +kernel
theorem dX5_isBound_19 : decode cX5_isBound 19 = .ok (.iconst 0, 1) := by decide +kernel
theorem dX5_isBound_20 : decode cX5_isBound 20 = .ok (.ireturn, 1) := by decide +kernel
theorem dX5_shop_0 : decode cX5_shop 0 = .ok (.aload_n 0, 1) := by decide +kernel
theorem dX5_shop_1 : decode cX5_shop 1 = .ok (.iload_n 1, 1) := by decide +kernel
theorem dX5_shop_2 : decode cX5_shop 2 = .ok (.invokevirtual 138, 3) := by decide +kernel
theorem dX5_shop_5 : decode cX5_shop 5 = .ok (.ifCond .eq 15, 3) := by decide +kernel
theorem dX5_shop_8 : decode cX5_shop 8 = .ok (.iload_n 2, 1) := by decide +kernel
theorem dX5_shop_9 : decode cX5_shop 9 = .ok (.i2l, 1) := by decide +kernel
theorem dX5_shop_10 : decode cX5_shop 10 = .ok (.lconst 0, 1) := by decide +kernel
theorem dX5_shop_11 : decode cX5_shop 11 = .ok (.ldc2_w 75, 3) := by decide +kernel
theorem dX5_shop_14 : decode cX5_shop 14 = .ok (.invokestatic 61, 3) := by decide +kernel
theorem dX5_shop_17 : decode cX5_shop 17 = .ok (.ifCond .ne 6, 3) := by decide +kernel
theorem dX5_shop_20 : decode cX5_shop 20 = .ok (.bipush (-2), 2) := by decide +kernel
theorem dX5_shop_22 : decode cX5_shop 22 = .ok (.ireturn, 1) := by decide +kernel
theorem dX5_shop_23 : decode cX5_shop 23 = .ok (.iload_n 2, 1) := by decide +kernel
theorem dX5_shop_24 : decode cX5_shop 24 = .ok (.ifCond .ne 12, 3) := by decide +kernel
theorem dX5_shop_27 : decode cX5_shop 27 = .ok (.aload_n 0, 1) := by decide +kernel
theorem dX5_shop_28 : decode cX5_shop 28 = .ok (.getfield 25, 3) := by decide +kernel
theorem dX5_shop_31 : decode cX5_shop 31 = .ok (.iload_n 1, 1) := by decide +kernel
theorem dX5_shop_32 : decode cX5_shop 32 = .ok (.iaload, 1) := by decide +kernel
theorem dX5_shop_33 : decode cX5_shop 33 = .ok (.goto 30, 3) := by decide +kernel
theorem dX5_shop_36 : decode cX5_shop 36 = .ok (.iload_n 2, 1) := by decide +kernel
theorem dX5_shop_37 : decode cX5_shop 37 = .ok (.iconst 1, 1) := by decide +kernel
theorem dX5_shop_38 : decode cX5_shop 38 = .ok (.if_icmp .ne 12, 3) := by decide +kernel
theorem dX5_shop_41 : decode cX5_shop 41 = .ok (.aload_n 0, 1) := by decide +kernel
theorem dX5_shop_42 : decode cX5_shop 42 = .ok (.getfield 28, 3) := by decide +kernel
theorem dX5_shop_45 : decode cX5_shop 45 = .ok (.iload_n 1, 1) := by decide +kernel
theorem dX5_shop_46 : decode cX5_shop 46 = .ok (.iaload, 1) := by decide +kernel
theorem dX5_shop_47 : decode cX5_shop 47 = .ok (.goto 16, 3) := by decide +kernel
theorem dX5_shop_50 : decode cX5_shop 50 = .ok (.aload_n 0, 1) := by decide +kernel
theorem dX5_shop_51 : decode cX5_shop 51 = .ok (.iload_n 1, 1) := by decide +kernel
theorem dX5_shop_52 : decode cX5_shop 52 = .ok (.invokevirtual 141, 3) := by decide +kernel
theorem dX5_shop_55 : decode cX5_shop 55 = .ok (.ifCond .eq 7, 3) := by decide +kernel
theorem dX5_shop_58 : decode cX5_shop 58 = .ok (.iconst 1, 1) := by decide +kernel
theorem dX5_shop_59 : decode cX5_shop 59 = .ok (.goto 4, 3) := by decide +kernel
theorem dX5_shop_62 : decode cX5_shop 62 = .ok (.iconst 0, 1) := by decide +kernel
theorem dX5_shop_63 : decode cX5_shop 63 = .ok (.ireturn, 1) := by decide +kernel
theorem dX5_sort_0 : decode cX5_sort 0 = .ok (.aload_n 0, 1) := by decide +kernel
theorem dX5_sort_1 : decode cX5_sort 1 = .ok (.invokevirtual 135, 3) := by decide +kernel
theorem dX5_sort_4 : decode cX5_sort 4 = .ok (.pop, 1) := by decide +kernel
theorem dX5_sort_5 : decode cX5_sort 5 = .ok (.iload_n 1, 1) := by decide +kernel
theorem dX5_sort_6 : decode cX5_sort 6 = .ok (.i2l, 1) := by decide +kernel
theorem dX5_sort_7 : decode cX5_sort 7 = .ok (.lconst 0, 1) := by decide +kernel
theorem dX5_sort_8 : decode cX5_sort 8 = .ok (.aload_n 0, 1) := by decide +kernel
theorem dX5_sort_9 : decode cX5_sort 9 = .ok (.getfield 119, 3) := by decide +kernel
theorem dX5_sort_12 : decode cX5_sort 12 = .ok (.iconst 1, 1) := by decide +kernel
theorem dX5_sort_13 : decode cX5_sort 13 = .ok (.isub, 1) := by decide +kernel
theorem dX5_sort_14 : decode cX5_sort 14 = .ok (.i2l, 1) := by decide +kernel
theorem dX5_sort_15 : decode cX5_sort 15 = .ok (.invokestatic 61, 3) := by decide +kernel
theorem dX5_sort_18 : decode cX5_sort 18 = .ok (.ifCond .eq 29, 3) := by decide +kernel
theorem dX5_sort_21 : decode cX5_sort 21 = .ok (.iload_n 2, 1) := by decide +kernel
theorem dX5_sort_22 : decode cX5_sort 22 = .ok (.i2l, 1) := by decide +kernel
theorem dX5_sort_23 : decode cX5_sort 23 = .ok (.lconst 0, 1) := by decide +kernel
theorem dX5_sort_24 : decode cX5_sort 24 = .ok (.ldc2_w 144, 3) := by decide +kernel
theorem dX5_sort_27 : decode cX5_sort 27 = .ok (.invokestatic 61, 3) := by decide +kernel
theorem dX5_sort_30 : decode cX5_sort 30 = .ok (.ifCond .eq 17, 3) := by decide +kernel
theorem dX5_sort_33 : decode cX5_sort 33 = .ok (.aload_n 0, 1) := by decide +kernel
theorem dX5_sort_34 : decode cX5_sort 34 = .ok (.getfield 31, 3) := by decide +kernel
theorem dX5_sort_37 : decode cX5_sort 37 = .ok (.bipush 6, 2) := by decide +kernel
theorem dX5_sort_39 : decode cX5_sort 39 = .ok (.iload_n 1, 1) := by decide +kernel
theorem dX5_sort_40 : decode cX5_sort 40 = .ok (.imul, 1) := by decide +kernel
theorem dX5_sort_41 : decode cX5_sort 41 = .ok (.iload_n 2, 1) := by decide +kernel
theorem dX5_sort_42 : decode cX5_sort 42 = .ok (.iadd, 1) := by decide +kernel
theorem dX5_sort_43 : decode cX5_sort 43 = .ok (.iaload, 1) := by decide +kernel
theorem dX5_sort_44 : decode cX5_sort 44 = .ok (.goto 5, 3) := by decide +kernel
theorem dX5_sort_47 : decode cX5_sort 47 = .ok (.bipush (-2), 2) := by decide +kernel
theorem dX5_sort_49 : decode cX5_sort 49 = .ok (.ireturn, 1) := by decide +kernel
theorem dX5_high_0 : decode cX5_high 0 = .ok (.iload_n 0, 1) := by decide +kernel
theorem dX5_high_1 : decode cX5_high 1 = .ok (.tableswitch 44 0 4 #[35, 38, 38, 40, 35], 35) := by decide +kernel
theorem dX5_high_36 : decode cX5_high 36 = .ok (.bipush 16, 2) := by decide +kernel
theorem dX5_high_38 : decode cX5_high 38 = .ok (.ireturn, 1) := by decide +kernel
theorem dX5_high_39 : decode cX5_high 39 = .ok (.iconst 3, 1) := by decide +kernel
theorem dX5_high_40 : decode cX5_high 40 = .ok (.ireturn, 1) := by decide +kernel
theorem dX5_high_41 : decode cX5_high 41 = .ok (.sipush 999, 3) := by decide +kernel
theorem dX5_high_44 : decode cX5_high 44 = .ok (.ireturn, 1) := by decide +kernel
theorem dX5_high_45 : decode cX5_high 45 = .ok (.bipush 8, 2) := by decide +kernel
theorem dX5_high_47 : decode cX5_high 47 = .ok (.ireturn, 1) := by decide +kernel
theorem dX5_set_0 : decode cX5_set 0 = .ok (.iload_n 1, 1) := by decide +kernel
theorem dX5_set_1 : decode cX5_set 1 = .ok (.i2l, 1) := by decide +kernel
theorem dX5_set_2 : decode cX5_set 2 = .ok (.lconst 0, 1) := by decide +kernel
theorem dX5_set_3 : decode cX5_set 3 = .ok (.ldc2_w 146, 3) := by decide +kernel
theorem dX5_set_6 : decode cX5_set 6 = .ok (.invokestatic 61, 3) := by decide +kernel
theorem dX5_set_9 : decode cX5_set 9 = .ok (.ifCond .eq 17, 3) := by decide +kernel
theorem dX5_set_12 : decode cX5_set 12 = .ok (.iload_n 2, 1) := by decide +kernel
theorem dX5_set_13 : decode cX5_set 13 = .ok (.i2l, 1) := by decide +kernel
theorem dX5_set_14 : decode cX5_set 14 = .ok (.lconst 0, 1) := by decide +kernel
theorem dX5_set_15 : decode cX5_set 15 = .ok (.iload_n 1, 1) := by decide +kernel
theorem dX5_set_16 : decode cX5_set 16 = .ok (.invokestatic 148, 3) := by decide +kernel
theorem dX5_set_19 : decode cX5_set 19 = .ok (.i2l, 1) := by decide +kernel
theorem dX5_set_20 : decode cX5_set 20 = .ok (.invokestatic 61, 3) := by decide +kernel
theorem dX5_set_23 : decode cX5_set 23 = .ok (.ifCond .ne 6, 3) := by decide +kernel
theorem dX5_set_26 : decode cX5_set 26 = .ok (.bipush (-2), 2) := by decide +kernel
theorem dX5_set_28 : decode cX5_set 28 = .ok (.ireturn, 1) := by decide +kernel
theorem dX5_set_29 : decode cX5_set 29 = .ok (.aload_n 0, 1) := by decide +kernel
theorem dX5_set_30 : decode cX5_set 30 = .ok (.getfield 34, 3) := by decide +kernel
theorem dX5_set_33 : decode cX5_set 33 = .ok (.iload_n 1, 1) := by decide +kernel
theorem dX5_set_34 : decode cX5_set 34 = .ok (.iaload, 1) := by decide +kernel
theorem dX5_set_35 : decode cX5_set 35 = .ok (.istore_n 3, 1) := by decide +kernel
theorem dX5_set_36 : decode cX5_set 36 = .ok (.aload_n 0, 1) := by decide +kernel
theorem dX5_set_37 : decode cX5_set 37 = .ok (.getfield 34, 3) := by decide +kernel
theorem dX5_set_40 : decode cX5_set 40 = .ok (.iload_n 1, 1) := by decide +kernel
theorem dX5_set_41 : decode cX5_set 41 = .ok (.iload_n 2, 1) := by decide +kernel
theorem dX5_set_42 : decode cX5_set 42 = .ok (.iastore, 1) := by decide +kernel
theorem dX5_set_43 : decode cX5_set 43 = .ok (.iload_n 3, 1) := by decide +kernel
theorem dX5_set_44 : decode cX5_set 44 = .ok (.ireturn, 1) := by decide +kernel
theorem dX5_hours_0 : decode cX5_hours 0 = .ok (.iload_n 1, 1) := by decide +kernel
theorem dX5_hours_1 : decode cX5_hours 1 = .ok (.i2l, 1) := by decide +kernel
theorem dX5_hours_2 : decode cX5_hours 2 = .ok (.lconst 0, 1) := by decide +kernel
theorem dX5_hours_3 : decode cX5_hours 3 = .ok (.ldc2_w 151, 3) := by decide +kernel
theorem dX5_hours_6 : decode cX5_hours 6 = .ok (.invokestatic 61, 3) := by decide +kernel
theorem dX5_hours_9 : decode cX5_hours 9 = .ok (.ifCond .eq 15, 3) := by decide +kernel
theorem dX5_hours_12 : decode cX5_hours 12 = .ok (.iload_n 2, 1) := by decide +kernel
theorem dX5_hours_13 : decode cX5_hours 13 = .ok (.i2l, 1) := by decide +kernel
theorem dX5_hours_14 : decode cX5_hours 14 = .ok (.lconst 0, 1) := by decide +kernel
theorem dX5_hours_15 : decode cX5_hours 15 = .ok (.ldc2_w 69, 3) := by decide +kernel
theorem dX5_hours_18 : decode cX5_hours 18 = .ok (.invokestatic 61, 3) := by decide +kernel
theorem dX5_hours_21 : decode cX5_hours 21 = .ok (.ifCond .ne 6, 3) := by decide +kernel
theorem dX5_hours_24 : decode cX5_hours 24 = .ok (.bipush (-2), 2) := by decide +kernel
theorem dX5_hours_26 : decode cX5_hours 26 = .ok (.ireturn, 1) := by decide +kernel
theorem dX5_hours_27 : decode cX5_hours 27 = .ok (.aload_n 0, 1) := by decide +kernel
theorem dX5_hours_28 : decode cX5_hours 28 = .ok (.getfield 37, 3) := by decide +kernel
theorem dX5_hours_31 : decode cX5_hours 31 = .ok (.iload_n 1, 1) := by decide +kernel
theorem dX5_hours_32 : decode cX5_hours 32 = .ok (.iaload, 1) := by decide +kernel
theorem dX5_hours_33 : decode cX5_hours 33 = .ok (.istore_n 3, 1) := by decide +kernel
theorem dX5_hours_34 : decode cX5_hours 34 = .ok (.aload_n 0, 1) := by decide +kernel
theorem dX5_hours_35 : decode cX5_hours 35 = .ok (.getfield 37, 3) := by decide +kernel
theorem dX5_hours_38 : decode cX5_hours 38 = .ok (.iload_n 1, 1) := by decide +kernel
theorem dX5_hours_39 : decode cX5_hours 39 = .ok (.iload_n 2, 1) := by decide +kernel
theorem dX5_hours_40 : decode cX5_hours 40 = .ok (.iastore, 1) := by decide +kernel
theorem dX5_hours_41 : decode cX5_hours 41 = .ok (.iload_n 3, 1) := by decide +kernel
theorem dX5_hours_42 : decode cX5_hours 42 = .ok (.ireturn, 1) := by decide +kernel
theorem dX5_read_0 : decode cX5_read 0 = .ok (.iload_n 1, 1) := by decide +kernel
theorem dX5_read_1 : decode cX5_read 1 = .ok (.invokestatic 71, 3) := by decide +kernel
theorem dX5_read_4 : decode cX5_read 4 = .ok (.ifCond .ne 6, 3) := by decide +kernel
theorem dX5_read_7 : decode cX5_read 7 = .ok (.bipush (-2), 2) := by decide +kernel
theorem dX5_read_9 : decode cX5_read 9 = .ok (.ireturn, 1) := by decide +kernel
theorem dX5_read_10 : decode cX5_read 10 = .ok (.aload_n 0, 1) := by decide +kernel
theorem dX5_read_11 : decode cX5_read 11 = .ok (.getfield 7, 3) := by decide +kernel
theorem dX5_read_14 : decode cX5_read 14 = .ok (.iload_n 1, 1) := by decide +kernel
theorem dX5_read_15 : decode cX5_read 15 = .ok (.iaload, 1) := by decide +kernel
theorem dX5_read_16 : decode cX5_read 16 = .ok (.ifCond .ge 9, 3) := by decide +kernel
theorem dX5_read_19 : decode cX5_read 19 = .ok (.aload_n 0, 1) := by decide +kernel
theorem dX5_read_20 : decode cX5_read 20 = .ok (.iconst 1, 1) := by decide +kernel
theorem dX5_read_21 : decode cX5_read 21 = .ok (.invokevirtual 77, 3) := by decide +kernel
theorem dX5_read_24 : decode cX5_read 24 = .ok (.ireturn, 1) := by decide +kernel
theorem dX5_read_25 : decode cX5_read 25 = .ok (.iconst 0, 1) := by decide +kernel
theorem dX5_read_26 : decode cX5_read 26 = .ok (.istore_n 2, 1) := by decide +kernel
theorem dX5_read_27 : decode cX5_read 27 = .ok (.iload_n 2, 1) := by decide +kernel
theorem dX5_read_28 : decode cX5_read 28 = .ok (.aload_n 0, 1) := by decide +kernel
theorem dX5_read_29 : decode cX5_read 29 = .ok (.getfield 13, 3) := by decide +kernel
theorem dX5_read_32 : decode cX5_read 32 = .ok (.iload_n 1, 1) := by decide +kernel
theorem dX5_read_33 : decode cX5_read 33 = .ok (.iaload, 1) := by decide +kernel
theorem dX5_read_34 : decode cX5_read 34 = .ok (.if_icmp .ge 28, 3) := by decide +kernel
theorem dX5_read_37 : decode cX5_read 37 = .ok (.aload_n 0, 1) := by decide +kernel
theorem dX5_read_38 : decode cX5_read 38 = .ok (.iload_n 2, 1) := by decide +kernel
theorem dX5_read_39 : decode cX5_read 39 = .ok (.aload_n 0, 1) := by decide +kernel
theorem dX5_read_40 : decode cX5_read 40 = .ok (.getfield 16, 3) := by decide +kernel
theorem dX5_read_43 : decode cX5_read 43 = .ok (.bipush 60, 2) := by decide +kernel
theorem dX5_read_45 : decode cX5_read 45 = .ok (.iload_n 1, 1) := by decide +kernel
theorem dX5_read_46 : decode cX5_read 46 = .ok (.imul, 1) := by decide +kernel
theorem dX5_read_47 : decode cX5_read 47 = .ok (.iload_n 2, 1) := by decide +kernel
theorem dX5_read_48 : decode cX5_read 48 = .ok (.iadd, 1) := by decide +kernel
theorem dX5_read_49 : decode cX5_read 49 = .ok (.iaload, 1) := by decide +kernel
theorem dX5_read_50 : decode cX5_read 50 = .ok (.invokevirtual 153, 3) := by decide +kernel
theorem dX5_read_53 : decode cX5_read 53 = .ok (.ifCond .lt 9, 3) := by decide +kernel
theorem dX5_read_56 : decode cX5_read 56 = .ok (.iinc 2 1, 3) := by decide +kernel
theorem dX5_read_59 : decode cX5_read 59 = .ok (.goto (-32), 3) := by decide +kernel
theorem dX5_read_62 : decode cX5_read 62 = .ok (.iload_n 2, 1) := by decide +kernel
theorem dX5_read_63 : decode cX5_read 63 = .ok (.ireturn, 1) := by decide +kernel
theorem dX5_tries_0 : decode cX5_tries 0 = .ok (.aload_n 0, 1) := by decide +kernel
theorem dX5_tries_1 : decode cX5_tries 1 = .ok (.invokevirtual 135, 3) := by decide +kernel
theorem dX5_tries_4 : decode cX5_tries 4 = .ok (.pop, 1) := by decide +kernel
theorem dX5_tries_5 : decode cX5_tries 5 = .ok (.iconst 0, 1) := by decide +kernel
theorem dX5_tries_6 : decode cX5_tries 6 = .ok (.istore_n 1, 1) := by decide +kernel
theorem dX5_tries_7 : decode cX5_tries 7 = .ok (.iload_n 1, 1) := by decide +kernel
theorem dX5_tries_8 : decode cX5_tries 8 = .ok (.iconst 5, 1) := by decide +kernel
theorem dX5_tries_9 : decode cX5_tries 9 = .ok (.if_icmp .ge 33, 3) := by decide +kernel
theorem dX5_tries_12 : decode cX5_tries 12 = .ok (.aload_n 0, 1) := by decide +kernel
theorem dX5_tries_13 : decode cX5_tries 13 = .ok (.getfield 43, 3) := by decide +kernel
theorem dX5_tries_16 : decode cX5_tries 16 = .ok (.iload_n 1, 1) := by decide +kernel
theorem dX5_tries_17 : decode cX5_tries 17 = .ok (.aload_n 0, 1) := by decide +kernel
theorem dX5_tries_18 : decode cX5_tries 18 = .ok (.getfield 37, 3) := by decide +kernel
theorem dX5_tries_21 : decode cX5_tries 21 = .ok (.iload_n 1, 1) := by decide +kernel
theorem dX5_tries_22 : decode cX5_tries 22 = .ok (.iaload, 1) := by decide +kernel
theorem dX5_tries_23 : decode cX5_tries 23 = .ok (.iastore, 1) := by decide +kernel
theorem dX5_tries_24 : decode cX5_tries 24 = .ok (.aload_n 0, 1) := by decide +kernel
theorem dX5_tries_25 : decode cX5_tries 25 = .ok (.getfield 49, 3) := by decide +kernel
theorem dX5_tries_28 : decode cX5_tries 28 = .ok (.iload_n 1, 1) := by decide +kernel
theorem dX5_tries_29 : decode cX5_tries 29 = .ok (.aload_n 0, 1) := by decide +kernel
theorem dX5_tries_30 : decode cX5_tries 30 = .ok (.getfield 28, 3) := by decide +kernel
theorem dX5_tries_33 : decode cX5_tries 33 = .ok (.iload_n 1, 1) := by decide +kernel
theorem dX5_tries_34 : decode cX5_tries 34 = .ok (.iaload, 1) := by decide +kernel
theorem dX5_tries_35 : decode cX5_tries 35 = .ok (.iastore, 1) := by decide +kernel
theorem dX5_tries_36 : decode cX5_tries 36 = .ok (.iinc 1 1, 3) := by decide +kernel
theorem dX5_tries_39 : decode cX5_tries 39 = .ok (.goto (-32), 3) := by decide +kernel
theorem dX5_tries_42 : decode cX5_tries 42 = .ok (.iconst 1, 1) := by decide +kernel
theorem dX5_tries_43 : decode cX5_tries 43 = .ok (.istore_n 1, 1) := by decide +kernel
theorem dX5_tries_44 : decode cX5_tries 44 = .ok (.iload_n 1, 1) := by decide +kernel
theorem dX5_tries_45 : decode cX5_tries 45 = .ok (.iconst 4, 1) := by decide +kernel
theorem dX5_tries_46 : decode cX5_tries 46 = .ok (.if_icmp .ge 23, 3) := by decide +kernel
theorem dX5_tries_49 : decode cX5_tries 49 = .ok (.aload_n 0, 1) := by decide +kernel
theorem dX5_tries_50 : decode cX5_tries 50 = .ok (.getfield 46, 3) := by decide +kernel
theorem dX5_tries_53 : decode cX5_tries 53 = .ok (.iload_n 1, 1) := by decide +kernel
theorem dX5_tries_54 : decode cX5_tries 54 = .ok (.aload_n 0, 1) := by decide +kernel
theorem dX5_tries_55 : decode cX5_tries 55 = .ok (.getfield 34, 3) := by decide +kernel
theorem dX5_tries_58 : decode cX5_tries 58 = .ok (.iconst 4, 1) := by decide +kernel
theorem dX5_tries_59 : decode cX5_tries 59 = .ok (.iload_n 1, 1) := by decide +kernel
theorem dX5_tries_60 : decode cX5_tries 60 = .ok (.iadd, 1) := by decide +kernel
theorem dX5_tries_61 : decode cX5_tries 61 = .ok (.iaload, 1) := by decide +kernel
theorem dX5_tries_62 : decode cX5_tries 62 = .ok (.iastore, 1) := by decide +kernel
theorem dX5_tries_63 : decode cX5_tries 63 = .ok (.iinc 1 1, 3) := by decide +kernel
theorem dX5_tries_66 : decode cX5_tries 66 = .ok (.goto (-22), 3) := by decide +kernel
theorem dX5_tries_69 : decode cX5_tries 69 = .ok (.aload_n 0, 1) := by decide +kernel
theorem dX5_tries_70 : decode cX5_tries 70 = .ok (.iconst 1, 1) := by decide +kernel
theorem dX5_tries_71 : decode cX5_tries 71 = .ok (.putfield 155, 3) := by decide +kernel
theorem dX5_tries_74 : decode cX5_tries 74 = .ok (.aload_n 0, 1) := by decide +kernel
theorem dX5_tries_75 : decode cX5_tries 75 = .ok (.iconst 3, 1) := by decide +kernel
theorem dX5_tries_76 : decode cX5_tries 76 = .ok (.putfield 159, 3) := by decide +kernel
theorem dX5_tries_79 : decode cX5_tries 79 = .ok (.aload_n 0, 1) := by decide +kernel
theorem dX5_tries_80 : decode cX5_tries 80 = .ok (.iconst (-1), 1) := by decide +kernel
theorem dX5_tries_81 : decode cX5_tries 81 = .ok (.putfield 162, 3) := by decide +kernel
theorem dX5_tries_84 : decode cX5_tries 84 = .ok (.return_, 1) := by decide +kernel
theorem dX5_openIn_0 : decode cX5_openIn 0 = .ok (.iconst 0, 1) := by decide +kernel
theorem dX5_openIn_1 : decode cX5_openIn 1 = .ok (.istore_n 2, 1) := by decide +kernel
theorem dX5_openIn_2 : decode cX5_openIn 2 = .ok (.iconst 0, 1) := by decide +kernel
theorem dX5_openIn_3 : decode cX5_openIn 3 = .ok (.istore_n 3, 1) := by decide +kernel
theorem dX5_openIn_4 : decode cX5_openIn 4 = .ok (.iload_n 3, 1) := by decide +kernel
theorem dX5_openIn_5 : decode cX5_openIn 5 = .ok (.aload_n 0, 1) := by decide +kernel
theorem dX5_openIn_6 : decode cX5_openIn 6 = .ok (.getfield 110, 3) := by decide +kernel
theorem dX5_openIn_9 : decode cX5_openIn 9 = .ok (.if_icmp .ge 29, 3) := by decide +kernel
theorem dX5_openIn_12 : decode cX5_openIn 12 = .ok (.iload_n 2, 1) := by decide +kernel
theorem dX5_openIn_13 : decode cX5_openIn 13 = .ok (.aload_n 0, 1) := by decide +kernel
theorem dX5_openIn_14 : decode cX5_openIn 14 = .ok (.getfield 43, 3) := by decide +kernel
theorem dX5_openIn_17 : decode cX5_openIn 17 = .ok (.iload_n 3, 1) := by decide +kernel
theorem dX5_openIn_18 : decode cX5_openIn 18 = .ok (.iaload, 1) := by decide +kernel
theorem dX5_openIn_19 : decode cX5_openIn 19 = .ok (.iload_n 1, 1) := by decide +kernel
theorem dX5_openIn_20 : decode cX5_openIn 20 = .ok (.if_icmp .lt 9, 3) := by decide +kernel
theorem dX5_openIn_23 : decode cX5_openIn 23 = .ok (.iconst 1, 1) := by decide +kernel
theorem dX5_openIn_24 : decode cX5_openIn 24 = .ok (.iload_n 3, 1) := by decide +kernel
theorem dX5_openIn_25 : decode cX5_openIn 25 = .ok (.ishl, 1) := by decide +kernel
theorem dX5_openIn_26 : decode cX5_openIn 26 = .ok (.goto 4, 3) := by decide +kernel
theorem dX5_openIn_29 : decode cX5_openIn 29 = .ok (.iconst 0, 1) := by decide +kernel
theorem dX5_openIn_30 : decode cX5_openIn 30 = .ok (.ior, 1) := by decide +kernel
theorem dX5_openIn_31 : decode cX5_openIn 31 = .ok (.istore_n 2, 1) := by decide +kernel
theorem dX5_openIn_32 : decode cX5_openIn 32 = .ok (.iinc 3 1, 3) := by decide +kernel
theorem dX5_openIn_35 : decode cX5_openIn 35 = .ok (.goto (-31), 3) := by decide +kernel
theorem dX5_openIn_38 : decode cX5_openIn 38 = .ok (.iload_n 2, 1) := by decide +kernel
theorem dX5_openIn_39 : decode cX5_openIn 39 = .ok (.ireturn, 1) := by decide +kernel
theorem dX5_open_0 : decode cX5_open 0 = .ok (.iload_n 1, 1) := by decide +kernel
theorem dX5_open_1 : decode cX5_open 1 = .ok (.i2l, 1) := by decide +kernel
theorem dX5_open_2 : decode cX5_open 2 = .ok (.lconst 1, 1) := by decide +kernel
theorem dX5_open_3 : decode cX5_open 3 = .ok (.ldc2_w 69, 3) := by decide +kernel
theorem dX5_open_6 : decode cX5_open 6 = .ok (.invokestatic 61, 3) := by decide +kernel
theorem dX5_open_9 : decode cX5_open 9 = .ok (.ifCond .ne 6, 3) := by decide +kernel
theorem dX5_open_12 : decode cX5_open 12 = .ok (.bipush (-2), 2) := by decide +kernel
theorem dX5_open_14 : decode cX5_open 14 = .ok (.ireturn, 1) := by decide +kernel
theorem dX5_open_15 : decode cX5_open 15 = .ok (.aload_n 0, 1) := by decide +kernel
theorem dX5_open_16 : decode cX5_open 16 = .ok (.invokevirtual 165, 3) := by decide +kernel
theorem dX5_open_19 : decode cX5_open 19 = .ok (.aload_n 0, 1) := by decide +kernel
theorem dX5_open_20 : decode cX5_open 20 = .ok (.iload_n 1, 1) := by decide +kernel
theorem dX5_open_21 : decode cX5_open 21 = .ok (.invokevirtual 168, 3) := by decide +kernel
theorem dX5_open_24 : decode cX5_open 24 = .ok (.ireturn, 1) := by decide +kernel
theorem dX5_sizesOf_0 : decode cX5_sizesOf 0 = .ok (.iconst 0, 1) := by decide +kernel
theorem dX5_sizesOf_1 : decode cX5_sizesOf 1 = .ok (.istore_n 2, 1) := by decide +kernel
theorem dX5_sizesOf_2 : decode cX5_sizesOf 2 = .ok (.iconst 0, 1) := by decide +kernel
theorem dX5_sizesOf_3 : decode cX5_sizesOf 3 = .ok (.istore_n 3, 1) := by decide +kernel
theorem dX5_sizesOf_4 : decode cX5_sizesOf 4 = .ok (.iload_n 3, 1) := by decide +kernel
theorem dX5_sizesOf_5 : decode cX5_sizesOf 5 = .ok (.aload_n 0, 1) := by decide +kernel
theorem dX5_sizesOf_6 : decode cX5_sizesOf 6 = .ok (.getfield 110, 3) := by decide +kernel
theorem dX5_sizesOf_9 : decode cX5_sizesOf 9 = .ok (.if_icmp .ge 31, 3) := by decide +kernel
theorem dX5_sizesOf_12 : decode cX5_sizesOf 12 = .ok (.iload_n 2, 1) := by decide +kernel
theorem dX5_sizesOf_13 : decode cX5_sizesOf 13 = .ok (.iload_n 1, 1) := by decide +kernel
theorem dX5_sizesOf_14 : decode cX5_sizesOf 14 = .ok (.iload_n 3, 1) := by decide +kernel
theorem dX5_sizesOf_15 : decode cX5_sizesOf 15 = .ok (.ishr, 1) := by decide +kernel
theorem dX5_sizesOf_16 : decode cX5_sizesOf 16 = .ok (.iconst 1, 1) := by decide +kernel
theorem dX5_sizesOf_17 : decode cX5_sizesOf 17 = .ok (.iand, 1) := by decide +kernel
theorem dX5_sizesOf_18 : decode cX5_sizesOf 18 = .ok (.iconst 1, 1) := by decide +kernel
theorem dX5_sizesOf_19 : decode cX5_sizesOf 19 = .ok (.if_icmp .ne 12, 3) := by decide +kernel
theorem dX5_sizesOf_22 : decode cX5_sizesOf 22 = .ok (.aload_n 0, 1) := by decide +kernel
theorem dX5_sizesOf_23 : decode cX5_sizesOf 23 = .ok (.getfield 25, 3) := by decide +kernel
theorem dX5_sizesOf_26 : decode cX5_sizesOf 26 = .ok (.iload_n 3, 1) := by decide +kernel
theorem dX5_sizesOf_27 : decode cX5_sizesOf 27 = .ok (.iaload, 1) := by decide +kernel
theorem dX5_sizesOf_28 : decode cX5_sizesOf 28 = .ok (.goto 4, 3) := by decide +kernel
theorem dX5_sizesOf_31 : decode cX5_sizesOf 31 = .ok (.iconst 0, 1) := by decide +kernel
theorem dX5_sizesOf_32 : decode cX5_sizesOf 32 = .ok (.iadd, 1) := by decide +kernel
theorem dX5_sizesOf_33 : decode cX5_sizesOf 33 = .ok (.istore_n 2, 1) := by decide +kernel
theorem dX5_sizesOf_34 : decode cX5_sizesOf 34 = .ok (.iinc 3 1, 3) := by decide +kernel
theorem dX5_sizesOf_37 : decode cX5_sizesOf 37 = .ok (.goto (-33), 3) := by decide +kernel
theorem dX5_sizesOf_40 : decode cX5_sizesOf 40 = .ok (.iload_n 2, 1) := by decide +kernel
theorem dX5_sizesOf_41 : decode cX5_sizesOf 41 = .ok (.ireturn, 1) := by decide +kernel
theorem dX5_parts_0 : decode cX5_parts 0 = .ok (.aload_n 0, 1) := by decide +kernel
theorem dX5_parts_1 : decode cX5_parts 1 = .ok (.iload_n 3, 1) := by decide +kernel
theorem dX5_parts_2 : decode cX5_parts 2 = .ok (.invokevirtual 171, 3) := by decide +kernel
theorem dX5_parts_5 : decode cX5_parts 5 = .ok (.istore 5, 2) := by decide +kernel
theorem dX5_parts_7 : decode cX5_parts 7 = .ok (.iconst 0, 1) := by decide +kernel
theorem dX5_parts_8 : decode cX5_parts 8 = .ok (.istore 6, 2) := by decide +kernel
theorem dX5_parts_10 : decode cX5_parts 10 = .ok (.iload 6, 2) := by decide +kernel
theorem dX5_parts_12 : decode cX5_parts 12 = .ok (.aload_n 0, 1) := by decide +kernel
theorem dX5_parts_13 : decode cX5_parts 13 = .ok (.getfield 110, 3) := by decide +kernel
theorem dX5_parts_16 : decode cX5_parts 16 = .ok (.if_icmp .ge 51, 3) := by decide +kernel
theorem dX5_parts_19 : decode cX5_parts 19 = .ok (.aload_n 0, 1) := by decide +kernel
theorem dX5_parts_20 : decode cX5_parts 20 = .ok (.getfield 52, 3) := by decide +kernel
theorem dX5_parts_23 : decode cX5_parts 23 = .ok (.iload 6, 2) := by decide +kernel
theorem dX5_parts_25 : decode cX5_parts 25 = .ok (.dup2, 1) := by decide +kernel
theorem dX5_parts_26 : decode cX5_parts 26 = .ok (.laload, 1) := by decide +kernel
theorem dX5_parts_27 : decode cX5_parts 27 = .ok (.iload_n 3, 1) := by decide +kernel
theorem dX5_parts_28 : decode cX5_parts 28 = .ok (.iload 6, 2) := by decide +kernel
theorem dX5_parts_30 : decode cX5_parts 30 = .ok (.ishr, 1) := by decide +kernel
theorem dX5_parts_31 : decode cX5_parts 31 = .ok (.iconst 1, 1) := by decide +kernel
theorem dX5_parts_32 : decode cX5_parts 32 = .ok (.iand, 1) := by decide +kernel
theorem dX5_parts_33 : decode cX5_parts 33 = .ok (.iconst 1, 1) := by decide +kernel
theorem dX5_parts_34 : decode cX5_parts 34 = .ok (.if_icmp .ne 24, 3) := by decide +kernel
theorem dX5_parts_37 : decode cX5_parts 37 = .ok (.lload_n 1, 1) := by decide +kernel
theorem dX5_parts_38 : decode cX5_parts 38 = .ok (.iload 5, 2) := by decide +kernel
theorem dX5_parts_40 : decode cX5_parts 40 = .ok (.i2l, 1) := by decide +kernel
theorem dX5_parts_41 : decode cX5_parts 41 = .ok (.ldiv, 1) := by decide +kernel
theorem dX5_parts_42 : decode cX5_parts 42 = .ok (.aload_n 0, 1) := by decide +kernel
theorem dX5_parts_43 : decode cX5_parts 43 = .ok (.getfield 25, 3) := by decide +kernel
theorem dX5_parts_46 : decode cX5_parts 46 = .ok (.iload 6, 2) := by decide +kernel
theorem dX5_parts_48 : decode cX5_parts 48 = .ok (.iaload, 1) := by decide +kernel
theorem dX5_parts_49 : decode cX5_parts 49 = .ok (.i2l, 1) := by decide +kernel
theorem dX5_parts_50 : decode cX5_parts 50 = .ok (.lmul, 1) := by decide +kernel
theorem dX5_parts_51 : decode cX5_parts 51 = .ok (.iload 4, 2) := by decide +kernel
theorem dX5_parts_53 : decode cX5_parts 53 = .ok (.i2l, 1) := by decide +kernel
theorem dX5_parts_54 : decode cX5_parts 54 = .ok (.lmul, 1) := by decide +kernel
theorem dX5_parts_55 : decode cX5_parts 55 = .ok (.goto 4, 3) := by decide +kernel
theorem dX5_parts_58 : decode cX5_parts 58 = .ok (.lconst 0, 1) := by decide +kernel
theorem dX5_parts_59 : decode cX5_parts 59 = .ok (.ladd, 1) := by decide +kernel
theorem dX5_parts_60 : decode cX5_parts 60 = .ok (.lastore, 1) := by decide +kernel
theorem dX5_parts_61 : decode cX5_parts 61 = .ok (.iinc 6 1, 3) := by decide +kernel
theorem dX5_parts_64 : decode cX5_parts 64 = .ok (.goto (-54), 3) := by decide +kernel
theorem dX5_parts_67 : decode cX5_parts 67 = .ok (.aload_n 0, 1) := by decide +kernel
theorem dX5_parts_68 : decode cX5_parts 68 = .ok (.dup, 1) := by decide +kernel
theorem dX5_parts_69 : decode cX5_parts 69 = .ok (.getfield 174, 3) := by decide +kernel
theorem dX5_parts_72 : decode cX5_parts 72 = .ok (.lload_n 1, 1) := by decide +kernel
theorem dX5_parts_73 : decode cX5_parts 73 = .ok (.ladd, 1) := by decide +kernel
theorem dX5_parts_74 : decode cX5_parts 74 = .ok (.putfield 174, 3) := by decide +kernel
theorem dX5_parts_77 : decode cX5_parts 77 = .ok (.return_, 1) := by decide +kernel
theorem dX5_ones_0 : decode cX5_ones 0 = .ok (.iconst 0, 1) := by decide +kernel
theorem dX5_ones_1 : decode cX5_ones 1 = .ok (.istore_n 1, 1) := by decide +kernel
theorem dX5_ones_2 : decode cX5_ones 2 = .ok (.iload_n 0, 1) := by decide +kernel
theorem dX5_ones_3 : decode cX5_ones 3 = .ok (.istore_n 2, 1) := by decide +kernel
theorem dX5_ones_4 : decode cX5_ones 4 = .ok (.iload_n 2, 1) := by decide +kernel
theorem dX5_ones_5 : decode cX5_ones 5 = .ok (.ifCond .eq 15, 3) := by decide +kernel
theorem dX5_ones_8 : decode cX5_ones 8 = .ok (.iinc 1 1, 3) := by decide +kernel
theorem dX5_ones_11 : decode cX5_ones 11 = .ok (.iload_n 2, 1) := by decide +kernel
theorem dX5_ones_12 : decode cX5_ones 12 = .ok (.iload_n 2, 1) := by decide +kernel
theorem dX5_ones_13 : decode cX5_ones 13 = .ok (.iconst 1, 1) := by decide +kernel
theorem dX5_ones_14 : decode cX5_ones 14 = .ok (.isub, 1) := by decide +kernel
theorem dX5_ones_15 : decode cX5_ones 15 = .ok (.iand, 1) := by decide +kernel
theorem dX5_ones_16 : decode cX5_ones 16 = .ok (.istore_n 2, 1) := by decide +kernel
theorem dX5_ones_17 : decode cX5_ones 17 = .ok (.goto (-13), 3) := by decide +kernel
theorem dX5_ones_20 : decode cX5_ones 20 = .ok (.iload_n 1, 1) := by decide +kernel
theorem dX5_ones_21 : decode cX5_ones 21 = .ok (.ireturn, 1) := by decide +kernel
theorem dX5_buys_0 : decode cX5_buys 0 = .ok (.bipush 6, 2) := by decide +kernel
theorem dX5_buys_2 : decode cX5_buys 2 = .ok (.iload_n 1, 1) := by decide +kernel
theorem dX5_buys_3 : decode cX5_buys 3 = .ok (.imul, 1) := by decide +kernel
theorem dX5_buys_4 : decode cX5_buys 4 = .ok (.istore_n 2, 1) := by decide +kernel
theorem dX5_buys_5 : decode cX5_buys 5 = .ok (.aload_n 0, 1) := by decide +kernel
theorem dX5_buys_6 : decode cX5_buys 6 = .ok (.getfield 31, 3) := by decide +kernel
theorem dX5_buys_9 : decode cX5_buys 9 = .ok (.iload_n 2, 1) := by decide +kernel
theorem dX5_buys_10 : decode cX5_buys 10 = .ok (.iaload, 1) := by decide +kernel
theorem dX5_buys_11 : decode cX5_buys 11 = .ok (.istore_n 3, 1) := by decide +kernel
theorem dX5_buys_12 : decode cX5_buys 12 = .ok (.aload_n 0, 1) := by decide +kernel
theorem dX5_buys_13 : decode cX5_buys 13 = .ok (.getfield 31, 3) := by decide +kernel
theorem dX5_buys_16 : decode cX5_buys 16 = .ok (.iload_n 2, 1) := by decide +kernel
theorem dX5_buys_17 : decode cX5_buys 17 = .ok (.iconst 2, 1) := by decide +kernel
theorem dX5_buys_18 : decode cX5_buys 18 = .ok (.iadd, 1) := by decide +kernel
theorem dX5_buys_19 : decode cX5_buys 19 = .ok (.iaload, 1) := by decide +kernel
theorem dX5_buys_20 : decode cX5_buys 20 = .ok (.istore 4, 2) := by decide +kernel
theorem dX5_buys_22 : decode cX5_buys 22 = .ok (.aload_n 0, 1) := by decide +kernel
theorem dX5_buys_23 : decode cX5_buys 23 = .ok (.getfield 31, 3) := by decide +kernel
theorem dX5_buys_26 : decode cX5_buys 26 = .ok (.iload_n 2, 1) := by decide +kernel
theorem dX5_buys_27 : decode cX5_buys 27 = .ok (.iconst 5, 1) := by decide +kernel
theorem dX5_buys_28 : decode cX5_buys 28 = .ok (.iadd, 1) := by decide +kernel
theorem dX5_buys_29 : decode cX5_buys 29 = .ok (.iaload, 1) := by decide +kernel
theorem dX5_buys_30 : decode cX5_buys 30 = .ok (.istore 5, 2) := by decide +kernel
theorem dX5_buys_32 : decode cX5_buys 32 = .ok (.aload_n 0, 1) := by decide +kernel
theorem dX5_buys_33 : decode cX5_buys 33 = .ok (.iload_n 3, 1) := by decide +kernel
theorem dX5_buys_34 : decode cX5_buys 34 = .ok (.invokevirtual 168, 3) := by decide +kernel
theorem dX5_buys_37 : decode cX5_buys 37 = .ok (.istore 6, 2) := by decide +kernel
theorem dX5_buys_39 : decode cX5_buys 39 = .ok (.iload 6, 2) := by decide +kernel
theorem dX5_buys_41 : decode cX5_buys 41 = .ok (.invokestatic 178, 3) := by decide +kernel
theorem dX5_buys_44 : decode cX5_buys 44 = .ok (.istore 7, 2) := by decide +kernel
theorem dX5_buys_46 : decode cX5_buys 46 = .ok (.bipush 16, 2) := by decide +kernel
theorem dX5_buys_48 : decode cX5_buys 48 = .ok (.iload 7, 2) := by decide +kernel
theorem dX5_buys_50 : decode cX5_buys 50 = .ok (.iconst 1, 1) := by decide +kernel
theorem dX5_buys_51 : decode cX5_buys 51 = .ok (.if_icmp .le 17, 3) := by decide +kernel
theorem dX5_buys_54 : decode cX5_buys 54 = .ok (.aload_n 0, 1) := by decide +kernel
theorem dX5_buys_55 : decode cX5_buys 55 = .ok (.getfield 34, 3) := by decide +kernel
theorem dX5_buys_58 : decode cX5_buys 58 = .ok (.iconst 0, 1) := by decide +kernel
theorem dX5_buys_59 : decode cX5_buys 59 = .ok (.iaload, 1) := by decide +kernel
theorem dX5_buys_60 : decode cX5_buys 60 = .ok (.iload 7, 2) := by decide +kernel
theorem dX5_buys_62 : decode cX5_buys 62 = .ok (.iconst 1, 1) := by decide +kernel
theorem dX5_buys_63 : decode cX5_buys 63 = .ok (.isub, 1) := by decide +kernel
theorem dX5_buys_64 : decode cX5_buys 64 = .ok (.imul, 1) := by decide +kernel
theorem dX5_buys_65 : decode cX5_buys 65 = .ok (.goto 4, 3) := by decide +kernel
theorem dX5_buys_68 : decode cX5_buys 68 = .ok (.iconst 0, 1) := by decide +kernel
theorem dX5_buys_69 : decode cX5_buys 69 = .ok (.iadd, 1) := by decide +kernel
theorem dX5_buys_70 : decode cX5_buys 70 = .ok (.istore 8, 2) := by decide +kernel
theorem dX5_buys_72 : decode cX5_buys 72 = .ok (.aload_n 0, 1) := by decide +kernel
theorem dX5_buys_73 : decode cX5_buys 73 = .ok (.getfield 31, 3) := by decide +kernel
theorem dX5_buys_76 : decode cX5_buys 76 = .ok (.iload_n 2, 1) := by decide +kernel
theorem dX5_buys_77 : decode cX5_buys 77 = .ok (.iconst 1, 1) := by decide +kernel
theorem dX5_buys_78 : decode cX5_buys 78 = .ok (.iadd, 1) := by decide +kernel
theorem dX5_buys_79 : decode cX5_buys 79 = .ok (.iaload, 1) := by decide +kernel
theorem dX5_buys_80 : decode cX5_buys 80 = .ok (.i2l, 1) := by decide +kernel
theorem dX5_buys_81 : decode cX5_buys 81 = .ok (.iload 8, 2) := by decide +kernel
theorem dX5_buys_83 : decode cX5_buys 83 = .ok (.i2l, 1) := by decide +kernel
theorem dX5_buys_84 : decode cX5_buys 84 = .ok (.lmul, 1) := by decide +kernel
theorem dX5_buys_85 : decode cX5_buys 85 = .ok (.bipush 8, 2) := by decide +kernel
theorem dX5_buys_87 : decode cX5_buys 87 = .ok (.aload_n 0, 1) := by decide +kernel
theorem dX5_buys_88 : decode cX5_buys 88 = .ok (.getfield 46, 3) := by decide +kernel
theorem dX5_buys_91 : decode cX5_buys 91 = .ok (.iload_n 3, 1) := by decide +kernel
theorem dX5_buys_92 : decode cX5_buys 92 = .ok (.iaload, 1) := by decide +kernel
theorem dX5_buys_93 : decode cX5_buys 93 = .ok (.iadd, 1) := by decide +kernel
theorem dX5_buys_94 : decode cX5_buys 94 = .ok (.i2l, 1) := by decide +kernel
theorem dX5_buys_95 : decode cX5_buys 95 = .ok (.lmul, 1) := by decide +kernel
theorem dX5_buys_96 : decode cX5_buys 96 = .ok (.lstore 9, 2) := by decide +kernel
theorem dX5_buys_98 : decode cX5_buys 98 = .ok (.iload 4, 2) := by decide +kernel
theorem dX5_buys_100 : decode cX5_buys 100 = .ok (.iconst (-1), 1) := by decide +kernel
theorem dX5_buys_101 : decode cX5_buys 101 = .ok (.if_icmp .eq 35, 3) := by decide +kernel
theorem dX5_buys_104 : decode cX5_buys 104 = .ok (.iload 6, 2) := by decide +kernel
theorem dX5_buys_106 : decode cX5_buys 106 = .ok (.iload 4, 2) := by decide +kernel
theorem dX5_buys_108 : decode cX5_buys 108 = .ok (.ishr, 1) := by decide +kernel
theorem dX5_buys_109 : decode cX5_buys 109 = .ok (.iconst 1, 1) := by decide +kernel
theorem dX5_buys_110 : decode cX5_buys 110 = .ok (.iand, 1) := by decide +kernel
theorem dX5_buys_111 : decode cX5_buys 111 = .ok (.iconst 1, 1) := by decide +kernel
theorem dX5_buys_112 : decode cX5_buys 112 = .ok (.if_icmp .ne 24, 3) := by decide +kernel
theorem dX5_buys_115 : decode cX5_buys 115 = .ok (.aload_n 0, 1) := by decide +kernel
theorem dX5_buys_116 : decode cX5_buys 116 = .ok (.lload 9, 2) := by decide +kernel
theorem dX5_buys_118 : decode cX5_buys 118 = .ok (.ldc2_w 181, 3) := by decide +kernel
theorem dX5_buys_121 : decode cX5_buys 121 = .ok (.lmul, 1) := by decide +kernel
theorem dX5_buys_122 : decode cX5_buys 122 = .ok (.ldc2_w 183, 3) := by decide +kernel
theorem dX5_buys_125 : decode cX5_buys 125 = .ok (.lmul, 1) := by decide +kernel
theorem dX5_buys_126 : decode cX5_buys 126 = .ok (.iconst 1, 1) := by decide +kernel
theorem dX5_buys_127 : decode cX5_buys 127 = .ok (.iload 4, 2) := by decide +kernel
theorem dX5_buys_129 : decode cX5_buys 129 = .ok (.ishl, 1) := by decide +kernel
theorem dX5_buys_130 : decode cX5_buys 130 = .ok (.iload 5, 2) := by decide +kernel
theorem dX5_buys_132 : decode cX5_buys 132 = .ok (.invokevirtual 185, 3) := by decide +kernel
theorem dX5_buys_135 : decode cX5_buys 135 = .ok (.return_, 1) := by decide +kernel
theorem dX5_buys_136 : decode cX5_buys 136 = .ok (.iload 6, 2) := by decide +kernel
theorem dX5_buys_138 : decode cX5_buys 138 = .ok (.ifCond .eq 14, 3) := by decide +kernel
theorem dX5_buys_141 : decode cX5_buys 141 = .ok (.aload_n 0, 1) := by decide +kernel
theorem dX5_buys_142 : decode cX5_buys 142 = .ok (.getfield 31, 3) := by decide +kernel
theorem dX5_buys_145 : decode cX5_buys 145 = .ok (.iload_n 2, 1) := by decide +kernel
theorem dX5_buys_146 : decode cX5_buys 146 = .ok (.iconst 3, 1) := by decide +kernel
theorem dX5_buys_147 : decode cX5_buys 147 = .ok (.iadd, 1) := by decide +kernel
theorem dX5_buys_148 : decode cX5_buys 148 = .ok (.iaload, 1) := by decide +kernel
theorem dX5_buys_149 : decode cX5_buys 149 = .ok (.goto 4, 3) := by decide +kernel
theorem dX5_buys_152 : decode cX5_buys 152 = .ok (.iconst 0, 1) := by decide +kernel
theorem dX5_buys_153 : decode cX5_buys 153 = .ok (.istore 11, 2) := by decide +kernel
theorem dX5_buys_155 : decode cX5_buys 155 = .ok (.iload 11, 2) := by decide +kernel
theorem dX5_buys_157 : decode cX5_buys 157 = .ok (.ifCond .le 25, 3) := by decide +kernel
theorem dX5_buys_160 : decode cX5_buys 160 = .ok (.aload_n 0, 1) := by decide +kernel
theorem dX5_buys_161 : decode cX5_buys 161 = .ok (.lload 9, 2) := by decide +kernel
theorem dX5_buys_163 : decode cX5_buys 163 = .ok (.iload 11, 2) := by decide +kernel
theorem dX5_buys_165 : decode cX5_buys 165 = .ok (.i2l, 1) := by decide +kernel
theorem dX5_buys_166 : decode cX5_buys 166 = .ok (.lmul, 1) := by decide +kernel
theorem dX5_buys_167 : decode cX5_buys 167 = .ok (.ldc2_w 189, 3) := by decide +kernel
theorem dX5_buys_170 : decode cX5_buys 170 = .ok (.lmul, 1) := by decide +kernel
theorem dX5_buys_171 : decode cX5_buys 171 = .ok (.ldc2_w 183, 3) := by decide +kernel
theorem dX5_buys_174 : decode cX5_buys 174 = .ok (.lmul, 1) := by decide +kernel
theorem dX5_buys_175 : decode cX5_buys 175 = .ok (.iload 6, 2) := by decide +kernel
theorem dX5_buys_177 : decode cX5_buys 177 = .ok (.iload 5, 2) := by decide +kernel
theorem dX5_buys_179 : decode cX5_buys 179 = .ok (.invokevirtual 185, 3) := by decide +kernel
theorem dX5_buys_182 : decode cX5_buys 182 = .ok (.lload 9, 2) := by decide +kernel
theorem dX5_buys_184 : decode cX5_buys 184 = .ok (.bipush 16, 2) := by decide +kernel
theorem dX5_buys_186 : decode cX5_buys 186 = .ok (.iload 11, 2) := by decide +kernel
theorem dX5_buys_188 : decode cX5_buys 188 = .ok (.isub, 1) := by decide +kernel
theorem dX5_buys_189 : decode cX5_buys 189 = .ok (.i2l, 1) := by decide +kernel
theorem dX5_buys_190 : decode cX5_buys 190 = .ok (.lmul, 1) := by decide +kernel
theorem dX5_buys_191 : decode cX5_buys 191 = .ok (.aload_n 0, 1) := by decide +kernel
theorem dX5_buys_192 : decode cX5_buys 192 = .ok (.getfield 31, 3) := by decide +kernel
theorem dX5_buys_195 : decode cX5_buys 195 = .ok (.iload_n 2, 1) := by decide +kernel
theorem dX5_buys_196 : decode cX5_buys 196 = .ok (.iconst 4, 1) := by decide +kernel
theorem dX5_buys_197 : decode cX5_buys 197 = .ok (.iadd, 1) := by decide +kernel
theorem dX5_buys_198 : decode cX5_buys 198 = .ok (.iaload, 1) := by decide +kernel
theorem dX5_buys_199 : decode cX5_buys 199 = .ok (.i2l, 1) := by decide +kernel
theorem dX5_buys_200 : decode cX5_buys 200 = .ok (.lmul, 1) := by decide +kernel
theorem dX5_buys_201 : decode cX5_buys 201 = .ok (.ldc2_w 183, 3) := by decide +kernel
theorem dX5_buys_204 : decode cX5_buys 204 = .ok (.lmul, 1) := by decide +kernel
theorem dX5_buys_205 : decode cX5_buys 205 = .ok (.lstore 12, 2) := by decide +kernel
theorem dX5_buys_207 : decode cX5_buys 207 = .ok (.iload 4, 2) := by decide +kernel
theorem dX5_buys_209 : decode cX5_buys 209 = .ok (.iconst (-1), 1) := by decide +kernel
theorem dX5_buys_210 : decode cX5_buys 210 = .ok (.if_icmp .eq 10, 3) := by decide +kernel
theorem dX5_buys_213 : decode cX5_buys 213 = .ok (.iconst 1, 1) := by decide +kernel
theorem dX5_buys_214 : decode cX5_buys 214 = .ok (.iload 4, 2) := by decide +kernel
theorem dX5_buys_216 : decode cX5_buys 216 = .ok (.ishl, 1) := by decide +kernel
theorem dX5_buys_217 : decode cX5_buys 217 = .ok (.goto 11, 3) := by decide +kernel
theorem dX5_buys_220 : decode cX5_buys 220 = .ok (.iconst 1, 1) := by decide +kernel
theorem dX5_buys_221 : decode cX5_buys 221 = .ok (.aload_n 0, 1) := by decide +kernel
theorem dX5_buys_222 : decode cX5_buys 222 = .ok (.getfield 110, 3) := by decide +kernel
theorem dX5_buys_225 : decode cX5_buys 225 = .ok (.ishl, 1) := by decide +kernel
theorem dX5_buys_226 : decode cX5_buys 226 = .ok (.iconst 1, 1) := by decide +kernel
theorem dX5_buys_227 : decode cX5_buys 227 = .ok (.isub, 1) := by decide +kernel
theorem dX5_buys_228 : decode cX5_buys 228 = .ok (.istore 14, 2) := by decide +kernel
theorem dX5_buys_230 : decode cX5_buys 230 = .ok (.iload 14, 2) := by decide +kernel
theorem dX5_buys_232 : decode cX5_buys 232 = .ok (.ifCond .eq 13, 3) := by decide +kernel
theorem dX5_buys_235 : decode cX5_buys 235 = .ok (.aload_n 0, 1) := by decide +kernel
theorem dX5_buys_236 : decode cX5_buys 236 = .ok (.lload 12, 2) := by decide +kernel
theorem dX5_buys_238 : decode cX5_buys 238 = .ok (.iload 14, 2) := by decide +kernel
theorem dX5_buys_240 : decode cX5_buys 240 = .ok (.iload 5, 2) := by decide +kernel
theorem dX5_buys_242 : decode cX5_buys 242 = .ok (.invokevirtual 185, 3) := by decide +kernel
theorem dX5_buys_245 : decode cX5_buys 245 = .ok (.return_, 1) := by decide +kernel
theorem dX5_earnAll_0 : decode cX5_earnAll 0 = .ok (.aload_n 0, 1) := by decide +kernel
theorem dX5_earnAll_1 : decode cX5_earnAll 1 = .ok (.lconst 0, 1) := by decide +kernel
theorem dX5_earnAll_2 : decode cX5_earnAll 2 = .ok (.putfield 174, 3) := by decide +kernel
theorem dX5_earnAll_5 : decode cX5_earnAll 5 = .ok (.iconst 0, 1) := by decide +kernel
theorem dX5_earnAll_6 : decode cX5_earnAll 6 = .ok (.istore_n 1, 1) := by decide +kernel
theorem dX5_earnAll_7 : decode cX5_earnAll 7 = .ok (.iload_n 1, 1) := by decide +kernel
theorem dX5_earnAll_8 : decode cX5_earnAll 8 = .ok (.iconst 5, 1) := by decide +kernel
theorem dX5_earnAll_9 : decode cX5_earnAll 9 = .ok (.if_icmp .ge 16, 3) := by decide +kernel
theorem dX5_earnAll_12 : decode cX5_earnAll 12 = .ok (.aload_n 0, 1) := by decide +kernel
theorem dX5_earnAll_13 : decode cX5_earnAll 13 = .ok (.getfield 52, 3) := by decide +kernel
theorem dX5_earnAll_16 : decode cX5_earnAll 16 = .ok (.iload_n 1, 1) := by decide +kernel
theorem dX5_earnAll_17 : decode cX5_earnAll 17 = .ok (.lconst 0, 1) := by decide +kernel
theorem dX5_earnAll_18 : decode cX5_earnAll 18 = .ok (.lastore, 1) := by decide +kernel
theorem dX5_earnAll_19 : decode cX5_earnAll 19 = .ok (.iinc 1 1, 3) := by decide +kernel
theorem dX5_earnAll_22 : decode cX5_earnAll 22 = .ok (.goto (-15), 3) := by decide +kernel
theorem dX5_earnAll_25 : decode cX5_earnAll 25 = .ok (.iconst 0, 1) := by decide +kernel
theorem dX5_earnAll_26 : decode cX5_earnAll 26 = .ok (.istore_n 1, 1) := by decide +kernel
theorem dX5_earnAll_27 : decode cX5_earnAll 27 = .ok (.iload_n 1, 1) := by decide +kernel
theorem dX5_earnAll_28 : decode cX5_earnAll 28 = .ok (.aload_n 0, 1) := by decide +kernel
theorem dX5_earnAll_29 : decode cX5_earnAll 29 = .ok (.getfield 119, 3) := by decide +kernel
theorem dX5_earnAll_32 : decode cX5_earnAll 32 = .ok (.if_icmp .ge 14, 3) := by decide +kernel
theorem dX5_earnAll_35 : decode cX5_earnAll 35 = .ok (.aload_n 0, 1) := by decide +kernel
theorem dX5_earnAll_36 : decode cX5_earnAll 36 = .ok (.iload_n 1, 1) := by decide +kernel
theorem dX5_earnAll_37 : decode cX5_earnAll 37 = .ok (.invokevirtual 191, 3) := by decide +kernel
theorem dX5_earnAll_40 : decode cX5_earnAll 40 = .ok (.iinc 1 1, 3) := by decide +kernel
theorem dX5_earnAll_43 : decode cX5_earnAll 43 = .ok (.goto (-16), 3) := by decide +kernel
theorem dX5_earnAll_46 : decode cX5_earnAll 46 = .ok (.iconst 0, 1) := by decide +kernel
theorem dX5_earnAll_47 : decode cX5_earnAll 47 = .ok (.istore_n 1, 1) := by decide +kernel
theorem dX5_earnAll_48 : decode cX5_earnAll 48 = .ok (.iload_n 1, 1) := by decide +kernel
theorem dX5_earnAll_49 : decode cX5_earnAll 49 = .ok (.aload_n 0, 1) := by decide +kernel
theorem dX5_earnAll_50 : decode cX5_earnAll 50 = .ok (.getfield 110, 3) := by decide +kernel
theorem dX5_earnAll_53 : decode cX5_earnAll 53 = .ok (.if_icmp .ge 109, 3) := by decide +kernel
theorem dX5_earnAll_56 : decode cX5_earnAll 56 = .ok (.aload_n 0, 1) := by decide +kernel
theorem dX5_earnAll_57 : decode cX5_earnAll 57 = .ok (.getfield 52, 3) := by decide +kernel
theorem dX5_earnAll_60 : decode cX5_earnAll 60 = .ok (.iload_n 1, 1) := by decide +kernel
theorem dX5_earnAll_61 : decode cX5_earnAll 61 = .ok (.dup2, 1) := by decide +kernel
theorem dX5_earnAll_62 : decode cX5_earnAll 62 = .ok (.laload, 1) := by decide +kernel
theorem dX5_earnAll_63 : decode cX5_earnAll 63 = .ok (.ldc2_w 195, 3) := by decide +kernel
theorem dX5_earnAll_66 : decode cX5_earnAll 66 = .ok (.aload_n 0, 1) := by decide +kernel
theorem dX5_earnAll_67 : decode cX5_earnAll 67 = .ok (.getfield 49, 3) := by decide +kernel
theorem dX5_earnAll_70 : decode cX5_earnAll 70 = .ok (.iload_n 1, 1) := by decide +kernel
theorem dX5_earnAll_71 : decode cX5_earnAll 71 = .ok (.iaload, 1) := by decide +kernel
theorem dX5_earnAll_72 : decode cX5_earnAll 72 = .ok (.i2l, 1) := by decide +kernel
theorem dX5_earnAll_73 : decode cX5_earnAll 73 = .ok (.lmul, 1) := by decide +kernel
theorem dX5_earnAll_74 : decode cX5_earnAll 74 = .ok (.aload_n 0, 1) := by decide +kernel
theorem dX5_earnAll_75 : decode cX5_earnAll 75 = .ok (.getfield 43, 3) := by decide +kernel
theorem dX5_earnAll_78 : decode cX5_earnAll 78 = .ok (.iload_n 1, 1) := by decide +kernel
theorem dX5_earnAll_79 : decode cX5_earnAll 79 = .ok (.iaload, 1) := by decide +kernel
theorem dX5_earnAll_80 : decode cX5_earnAll 80 = .ok (.i2l, 1) := by decide +kernel
theorem dX5_earnAll_81 : decode cX5_earnAll 81 = .ok (.lmul, 1) := by decide +kernel
theorem dX5_earnAll_82 : decode cX5_earnAll 82 = .ok (.lsub, 1) := by decide +kernel
theorem dX5_earnAll_83 : decode cX5_earnAll 83 = .ok (.lastore, 1) := by decide +kernel
theorem dX5_earnAll_84 : decode cX5_earnAll 84 = .ok (.aload_n 0, 1) := by decide +kernel
theorem dX5_earnAll_85 : decode cX5_earnAll 85 = .ok (.getfield 155, 3) := by decide +kernel
theorem dX5_earnAll_88 : decode cX5_earnAll 88 = .ok (.ifCond .eq 30, 3) := by decide +kernel
theorem dX5_earnAll_91 : decode cX5_earnAll 91 = .ok (.aload_n 0, 1) := by decide +kernel
theorem dX5_earnAll_92 : decode cX5_earnAll 92 = .ok (.iload_n 1, 1) := by decide +kernel
theorem dX5_earnAll_93 : decode cX5_earnAll 93 = .ok (.invokevirtual 141, 3) := by decide +kernel
theorem dX5_earnAll_96 : decode cX5_earnAll 96 = .ok (.ifCond .eq 22, 3) := by decide +kernel
theorem dX5_earnAll_99 : decode cX5_earnAll 99 = .ok (.aload_n 0, 1) := by decide +kernel
theorem dX5_earnAll_100 : decode cX5_earnAll 100 = .ok (.getfield 43, 3) := by decide +kernel
theorem dX5_earnAll_103 : decode cX5_earnAll 103 = .ok (.iload_n 1, 1) := by decide +kernel
theorem dX5_earnAll_104 : decode cX5_earnAll 104 = .ok (.iaload, 1) := by decide +kernel
theorem dX5_earnAll_105 : decode cX5_earnAll 105 = .ok (.aload_n 0, 1) := by decide +kernel
theorem dX5_earnAll_106 : decode cX5_earnAll 106 = .ok (.getfield 34, 3) := by decide +kernel
theorem dX5_earnAll_109 : decode cX5_earnAll 109 = .ok (.iconst 1, 1) := by decide +kernel
theorem dX5_earnAll_110 : decode cX5_earnAll 110 = .ok (.iaload, 1) := by decide +kernel
theorem dX5_earnAll_111 : decode cX5_earnAll 111 = .ok (.if_icmp .le 7, 3) := by decide +kernel
theorem dX5_earnAll_114 : decode cX5_earnAll 114 = .ok (.iconst 1, 1) := by decide +kernel
theorem dX5_earnAll_115 : decode cX5_earnAll 115 = .ok (.goto 4, 3) := by decide +kernel
theorem dX5_earnAll_118 : decode cX5_earnAll 118 = .ok (.iconst 0, 1) := by decide +kernel
theorem dX5_earnAll_119 : decode cX5_earnAll 119 = .ok (.istore_n 2, 1) := by decide +kernel
theorem dX5_earnAll_120 : decode cX5_earnAll 120 = .ok (.aload_n 0, 1) := by decide +kernel
theorem dX5_earnAll_121 : decode cX5_earnAll 121 = .ok (.getfield 52, 3) := by decide +kernel
theorem dX5_earnAll_124 : decode cX5_earnAll 124 = .ok (.iload_n 1, 1) := by decide +kernel
theorem dX5_earnAll_125 : decode cX5_earnAll 125 = .ok (.dup2, 1) := by decide +kernel
theorem dX5_earnAll_126 : decode cX5_earnAll 126 = .ok (.laload, 1) := by decide +kernel
theorem dX5_earnAll_127 : decode cX5_earnAll 127 = .ok (.iload_n 2, 1) := by decide +kernel
theorem dX5_earnAll_128 : decode cX5_earnAll 128 = .ok (.ifCond .eq 25, 3) := by decide +kernel
theorem dX5_earnAll_131 : decode cX5_earnAll 131 = .ok (.ldc2_w 197, 3) := by decide +kernel
theorem dX5_earnAll_134 : decode cX5_earnAll 134 = .ok (.aload_n 0, 1) := by decide +kernel
theorem dX5_earnAll_135 : decode cX5_earnAll 135 = .ok (.getfield 34, 3) := by decide +kernel
theorem dX5_earnAll_138 : decode cX5_earnAll 138 = .ok (.iconst 3, 1) := by decide +kernel
theorem dX5_earnAll_139 : decode cX5_earnAll 139 = .ok (.iaload, 1) := by decide +kernel
theorem dX5_earnAll_140 : decode cX5_earnAll 140 = .ok (.i2l, 1) := by decide +kernel
theorem dX5_earnAll_141 : decode cX5_earnAll 141 = .ok (.lmul, 1) := by decide +kernel
theorem dX5_earnAll_142 : decode cX5_earnAll 142 = .ok (.aload_n 0, 1) := by decide +kernel
theorem dX5_earnAll_143 : decode cX5_earnAll 143 = .ok (.getfield 34, 3) := by decide +kernel
theorem dX5_earnAll_146 : decode cX5_earnAll 146 = .ok (.iconst 4, 1) := by decide +kernel
theorem dX5_earnAll_147 : decode cX5_earnAll 147 = .ok (.iaload, 1) := by decide +kernel
theorem dX5_earnAll_148 : decode cX5_earnAll 148 = .ok (.i2l, 1) := by decide +kernel
theorem dX5_earnAll_149 : decode cX5_earnAll 149 = .ok (.lmul, 1) := by decide +kernel
theorem dX5_earnAll_150 : decode cX5_earnAll 150 = .ok (.goto 4, 3) := by decide +kernel
theorem dX5_earnAll_153 : decode cX5_earnAll 153 = .ok (.lconst 0, 1) := by decide +kernel
theorem dX5_earnAll_154 : decode cX5_earnAll 154 = .ok (.lsub, 1) := by decide +kernel
theorem dX5_earnAll_155 : decode cX5_earnAll 155 = .ok (.lastore, 1) := by decide +kernel
theorem dX5_earnAll_156 : decode cX5_earnAll 156 = .ok (.iinc 1 1, 3) := by decide +kernel
theorem dX5_earnAll_159 : decode cX5_earnAll 159 = .ok (.goto (-111), 3) := by decide +kernel
theorem dX5_earnAll_162 : decode cX5_earnAll 162 = .ok (.return_, 1) := by decide +kernel
theorem dX5_earnsBy_0 : decode cX5_earnsBy 0 = .ok (.aload_n 0, 1) := by decide +kernel
theorem dX5_earnsBy_1 : decode cX5_earnsBy 1 = .ok (.getfield 43, 3) := by decide +kernel
theorem dX5_earnsBy_4 : decode cX5_earnsBy 4 = .ok (.iload_n 1, 1) := by decide +kernel
theorem dX5_earnsBy_5 : decode cX5_earnsBy 5 = .ok (.iaload, 1) := by decide +kernel
theorem dX5_earnsBy_6 : decode cX5_earnsBy 6 = .ok (.istore_n 3, 1) := by decide +kernel
theorem dX5_earnsBy_7 : decode cX5_earnsBy 7 = .ok (.aload_n 0, 1) := by decide +kernel
theorem dX5_earnsBy_8 : decode cX5_earnsBy 8 = .ok (.getfield 43, 3) := by decide +kernel
theorem dX5_earnsBy_11 : decode cX5_earnsBy 11 = .ok (.iload_n 1, 1) := by decide +kernel
theorem dX5_earnsBy_12 : decode cX5_earnsBy 12 = .ok (.iload_n 2, 1) := by decide +kernel
theorem dX5_earnsBy_13 : decode cX5_earnsBy 13 = .ok (.iastore, 1) := by decide +kernel
theorem dX5_earnsBy_14 : decode cX5_earnsBy 14 = .ok (.aload_n 0, 1) := by decide +kernel
theorem dX5_earnsBy_15 : decode cX5_earnsBy 15 = .ok (.invokevirtual 199, 3) := by decide +kernel
theorem dX5_earnsBy_18 : decode cX5_earnsBy 18 = .ok (.aload_n 0, 1) := by decide +kernel
theorem dX5_earnsBy_19 : decode cX5_earnsBy 19 = .ok (.getfield 43, 3) := by decide +kernel
theorem dX5_earnsBy_22 : decode cX5_earnsBy 22 = .ok (.iload_n 1, 1) := by decide +kernel
theorem dX5_earnsBy_23 : decode cX5_earnsBy 23 = .ok (.iload_n 3, 1) := by decide +kernel
theorem dX5_earnsBy_24 : decode cX5_earnsBy 24 = .ok (.iastore, 1) := by decide +kernel
theorem dX5_earnsBy_25 : decode cX5_earnsBy 25 = .ok (.aload_n 0, 1) := by decide +kernel
theorem dX5_earnsBy_26 : decode cX5_earnsBy 26 = .ok (.getfield 52, 3) := by decide +kernel
theorem dX5_earnsBy_29 : decode cX5_earnsBy 29 = .ok (.iload_n 1, 1) := by decide +kernel
theorem dX5_earnsBy_30 : decode cX5_earnsBy 30 = .ok (.laload, 1) := by decide +kernel
theorem dX5_earnsBy_31 : decode cX5_earnsBy 31 = .ok (.lreturn, 1) := by decide +kernel
theorem dX5_together_0 : decode cX5_together 0 = .ok (.aload_n 0, 1) := by decide +kernel
theorem dX5_together_1 : decode cX5_together 1 = .ok (.invokevirtual 199, 3) := by decide +kernel
theorem dX5_together_4 : decode cX5_together 4 = .ok (.lconst 0, 1) := by decide +kernel
theorem dX5_together_5 : decode cX5_together 5 = .ok (.lstore_n 1, 1) := by decide +kernel
theorem dX5_together_6 : decode cX5_together 6 = .ok (.iconst 0, 1) := by decide +kernel
theorem dX5_together_7 : decode cX5_together 7 = .ok (.istore_n 3, 1) := by decide +kernel
theorem dX5_together_8 : decode cX5_together 8 = .ok (.iload_n 3, 1) := by decide +kernel
theorem dX5_together_9 : decode cX5_together 9 = .ok (.aload_n 0, 1) := by decide +kernel
theorem dX5_together_10 : decode cX5_together 10 = .ok (.getfield 110, 3) := by decide +kernel
theorem dX5_together_13 : decode cX5_together 13 = .ok (.if_icmp .ge 18, 3) := by decide +kernel
theorem dX5_together_16 : decode cX5_together 16 = .ok (.lload_n 1, 1) := by decide +kernel
theorem dX5_together_17 : decode cX5_together 17 = .ok (.aload_n 0, 1) := by decide +kernel
theorem dX5_together_18 : decode cX5_together 18 = .ok (.getfield 52, 3) := by decide +kernel
theorem dX5_together_21 : decode cX5_together 21 = .ok (.iload_n 3, 1) := by decide +kernel
theorem dX5_together_22 : decode cX5_together 22 = .ok (.laload, 1) := by decide +kernel
theorem dX5_together_23 : decode cX5_together 23 = .ok (.ladd, 1) := by decide +kernel
theorem dX5_together_24 : decode cX5_together 24 = .ok (.lstore_n 1, 1) := by decide +kernel
theorem dX5_together_25 : decode cX5_together 25 = .ok (.iinc 3 1, 3) := by decide +kernel
theorem dX5_together_28 : decode cX5_together 28 = .ok (.goto (-20), 3) := by decide +kernel
theorem dX5_together_31 : decode cX5_together 31 = .ok (.lload_n 1, 1) := by decide +kernel
theorem dX5_together_32 : decode cX5_together 32 = .ok (.lreturn, 1) := by decide +kernel
theorem dX5_answerOf_0 : decode cX5_answerOf 0 = .ok (.aload_n 0, 1) := by decide +kernel
theorem dX5_answerOf_1 : decode cX5_answerOf 1 = .ok (.iload_n 1, 1) := by decide +kernel
theorem dX5_answerOf_2 : decode cX5_answerOf 2 = .ok (.invokevirtual 141, 3) := by decide +kernel
theorem dX5_answerOf_5 : decode cX5_answerOf 5 = .ok (.ifCond .eq 10, 3) := by decide +kernel
theorem dX5_answerOf_8 : decode cX5_answerOf 8 = .ok (.aload_n 0, 1) := by decide +kernel
theorem dX5_answerOf_9 : decode cX5_answerOf 9 = .ok (.getfield 159, 3) := by decide +kernel
theorem dX5_answerOf_12 : decode cX5_answerOf 12 = .ok (.goto 4, 3) := by decide +kernel
theorem dX5_answerOf_15 : decode cX5_answerOf 15 = .ok (.iconst 3, 1) := by decide +kernel
theorem dX5_answerOf_16 : decode cX5_answerOf 16 = .ok (.istore_n 2, 1) := by decide +kernel
theorem dX5_answerOf_17 : decode cX5_answerOf 17 = .ok (.iconst 0, 1) := by decide +kernel
theorem dX5_answerOf_18 : decode cX5_answerOf 18 = .ok (.istore_n 3, 1) := by decide +kernel
theorem dX5_answerOf_19 : decode cX5_answerOf 19 = .ok (.aload_n 0, 1) := by decide +kernel
theorem dX5_answerOf_20 : decode cX5_answerOf 20 = .ok (.iload_n 1, 1) := by decide +kernel
theorem dX5_answerOf_21 : decode cX5_answerOf 21 = .ok (.iconst 0, 1) := by decide +kernel
theorem dX5_answerOf_22 : decode cX5_answerOf 22 = .ok (.invokevirtual 202, 3) := by decide +kernel
theorem dX5_answerOf_25 : decode cX5_answerOf 25 = .ok (.lstore 4, 2) := by decide +kernel
theorem dX5_answerOf_27 : decode cX5_answerOf 27 = .ok (.iconst 1, 1) := by decide +kernel
theorem dX5_answerOf_28 : decode cX5_answerOf 28 = .ok (.istore 6, 2) := by decide +kernel
theorem dX5_answerOf_30 : decode cX5_answerOf 30 = .ok (.iload 6, 2) := by decide +kernel
theorem dX5_answerOf_32 : decode cX5_answerOf 32 = .ok (.iload_n 2, 1) := by decide +kernel
theorem dX5_answerOf_33 : decode cX5_answerOf 33 = .ok (.if_icmp .gt 50, 3) := by decide +kernel
theorem dX5_answerOf_36 : decode cX5_answerOf 36 = .ok (.aload_n 0, 1) := by decide +kernel
theorem dX5_answerOf_37 : decode cX5_answerOf 37 = .ok (.iload_n 1, 1) := by decide +kernel
theorem dX5_answerOf_38 : decode cX5_answerOf 38 = .ok (.iload 6, 2) := by decide +kernel
theorem dX5_answerOf_40 : decode cX5_answerOf 40 = .ok (.invokevirtual 202, 3) := by decide +kernel
theorem dX5_answerOf_43 : decode cX5_answerOf 43 = .ok (.lstore 7, 2) := by decide +kernel
theorem dX5_answerOf_45 : decode cX5_answerOf 45 = .ok (.lload 7, 2) := by decide +kernel
theorem dX5_answerOf_47 : decode cX5_answerOf 47 = .ok (.lload 4, 2) := by decide +kernel
theorem dX5_answerOf_49 : decode cX5_answerOf 49 = .ok (.lcmp, 1) := by decide +kernel
theorem dX5_answerOf_50 : decode cX5_answerOf 50 = .ok (.ifCond .le 8, 3) := by decide +kernel
theorem dX5_answerOf_53 : decode cX5_answerOf 53 = .ok (.iload 6, 2) := by decide +kernel
theorem dX5_answerOf_55 : decode cX5_answerOf 55 = .ok (.goto 4, 3) := by decide +kernel
theorem dX5_answerOf_58 : decode cX5_answerOf 58 = .ok (.iload_n 3, 1) := by decide +kernel
theorem dX5_answerOf_59 : decode cX5_answerOf 59 = .ok (.istore_n 3, 1) := by decide +kernel
theorem dX5_answerOf_60 : decode cX5_answerOf 60 = .ok (.lload 7, 2) := by decide +kernel
theorem dX5_answerOf_62 : decode cX5_answerOf 62 = .ok (.lload 4, 2) := by decide +kernel
theorem dX5_answerOf_64 : decode cX5_answerOf 64 = .ok (.lcmp, 1) := by decide +kernel
theorem dX5_answerOf_65 : decode cX5_answerOf 65 = .ok (.ifCond .le 8, 3) := by decide +kernel
theorem dX5_answerOf_68 : decode cX5_answerOf 68 = .ok (.lload 7, 2) := by decide +kernel
theorem dX5_answerOf_70 : decode cX5_answerOf 70 = .ok (.goto 5, 3) := by decide +kernel
theorem dX5_answerOf_73 : decode cX5_answerOf 73 = .ok (.lload 4, 2) := by decide +kernel
theorem dX5_answerOf_75 : decode cX5_answerOf 75 = .ok (.lstore 4, 2) := by decide +kernel
theorem dX5_answerOf_77 : decode cX5_answerOf 77 = .ok (.iinc 6 1, 3) := by decide +kernel
theorem dX5_answerOf_80 : decode cX5_answerOf 80 = .ok (.goto (-50), 3) := by decide +kernel
theorem dX5_answerOf_83 : decode cX5_answerOf 83 = .ok (.iload_n 3, 1) := by decide +kernel
theorem dX5_answerOf_84 : decode cX5_answerOf 84 = .ok (.ireturn, 1) := by decide +kernel
theorem dX5_earns_0 : decode cX5_earns 0 = .ok (.aload_n 0, 1) := by decide +kernel
theorem dX5_earns_1 : decode cX5_earns 1 = .ok (.iload_n 1, 1) := by decide +kernel
theorem dX5_earns_2 : decode cX5_earns 2 = .ok (.invokevirtual 138, 3) := by decide +kernel
theorem dX5_earns_5 : decode cX5_earns 5 = .ok (.ifCond .eq 19, 3) := by decide +kernel
theorem dX5_earns_8 : decode cX5_earns 8 = .ok (.iload_n 2, 1) := by decide +kernel
theorem dX5_earns_9 : decode cX5_earns 9 = .ok (.invokestatic 206, 3) := by decide +kernel
theorem dX5_earns_12 : decode cX5_earns 12 = .ok (.ifCond .eq 12, 3) := by decide +kernel
theorem dX5_earns_15 : decode cX5_earns 15 = .ok (.aload_n 0, 1) := by decide +kernel
theorem dX5_earns_16 : decode cX5_earns 16 = .ok (.iload_n 1, 1) := by decide +kernel
theorem dX5_earns_17 : decode cX5_earns 17 = .ok (.iload_n 2, 1) := by decide +kernel
theorem dX5_earns_18 : decode cX5_earns 18 = .ok (.invokevirtual 209, 3) := by decide +kernel
theorem dX5_earns_21 : decode cX5_earns 21 = .ok (.goto 8, 3) := by decide +kernel
theorem dX5_earns_24 : decode cX5_earns 24 = .ok (.bipush (-2), 2) := by decide +kernel
theorem dX5_earns_26 : decode cX5_earns 26 = .ok (.invokestatic 212, 3) := by decide +kernel
theorem dX5_earns_29 : decode cX5_earns 29 = .ok (.lreturn, 1) := by decide +kernel
theorem dX5_earnsOf_0 : decode cX5_earnsOf 0 = .ok (.aload_n 0, 1) := by decide +kernel
theorem dX5_earnsOf_1 : decode cX5_earnsOf 1 = .ok (.invokevirtual 165, 3) := by decide +kernel
theorem dX5_earnsOf_4 : decode cX5_earnsOf 4 = .ok (.aload_n 0, 1) := by decide +kernel
theorem dX5_earnsOf_5 : decode cX5_earnsOf 5 = .ok (.invokevirtual 199, 3) := by decide +kernel
theorem dX5_earnsOf_8 : decode cX5_earnsOf 8 = .ok (.aload_n 0, 1) := by decide +kernel
theorem dX5_earnsOf_9 : decode cX5_earnsOf 9 = .ok (.getfield 52, 3) := by decide +kernel
theorem dX5_earnsOf_12 : decode cX5_earnsOf 12 = .ok (.iload_n 1, 1) := by decide +kernel
theorem dX5_earnsOf_13 : decode cX5_earnsOf 13 = .ok (.laload, 1) := by decide +kernel
theorem dX5_earnsOf_14 : decode cX5_earnsOf 14 = .ok (.ldc2_w 195, 3) := by decide +kernel
theorem dX5_earnsOf_17 : decode cX5_earnsOf 17 = .ok (.iload_n 2, 1) := by decide +kernel
theorem dX5_earnsOf_18 : decode cX5_earnsOf 18 = .ok (.invokestatic 216, 3) := by decide +kernel
theorem dX5_earnsOf_21 : decode cX5_earnsOf 21 = .ok (.lreturn, 1) := by decide +kernel
theorem dX5_allOf_0 : decode cX5_allOf 0 = .ok (.aload_n 0, 1) := by decide +kernel
theorem dX5_allOf_1 : decode cX5_allOf 1 = .ok (.invokevirtual 165, 3) := by decide +kernel
theorem dX5_allOf_4 : decode cX5_allOf 4 = .ok (.aload_n 0, 1) := by decide +kernel
theorem dX5_allOf_5 : decode cX5_allOf 5 = .ok (.invokevirtual 220, 3) := by decide +kernel
theorem dX5_allOf_8 : decode cX5_allOf 8 = .ok (.lstore_n 3, 1) := by decide +kernel
theorem dX5_allOf_9 : decode cX5_allOf 9 = .ok (.iload_n 1, 1) := by decide +kernel
theorem dX5_allOf_10 : decode cX5_allOf 10 = .ok (.ifCond .ne 7, 3) := by decide +kernel
theorem dX5_allOf_13 : decode cX5_allOf 13 = .ok (.lload_n 3, 1) := by decide +kernel
theorem dX5_allOf_14 : decode cX5_allOf 14 = .ok (.goto 7, 3) := by decide +kernel
theorem dX5_allOf_17 : decode cX5_allOf 17 = .ok (.aload_n 0, 1) := by decide +kernel
theorem dX5_allOf_18 : decode cX5_allOf 18 = .ok (.getfield 174, 3) := by decide +kernel
theorem dX5_allOf_21 : decode cX5_allOf 21 = .ok (.ldc2_w 195, 3) := by decide +kernel
theorem dX5_allOf_24 : decode cX5_allOf 24 = .ok (.iload_n 2, 1) := by decide +kernel
theorem dX5_allOf_25 : decode cX5_allOf 25 = .ok (.invokestatic 216, 3) := by decide +kernel
theorem dX5_allOf_28 : decode cX5_allOf 28 = .ok (.lreturn, 1) := by decide +kernel

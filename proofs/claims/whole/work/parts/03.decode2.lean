theorem dX2_takeShop_0 : decode cX2_takeShop 0 = .ok (.aload_n 0, 1) := by decide +kernel
theorem dX2_takeShop_1 : decode cX2_takeShop 1 = .ok (.dup, 1) := by decide +kernel
theorem dX2_takeShop_2 : decode cX2_takeShop 2 = .ok (.getfield 42, 3) := by decide +kernel
theorem dX2_takeShop_5 : decode cX2_takeShop 5 = .ok (.iconst 1, 1) := by decide +kernel
theorem dX2_takeShop_6 : decode cX2_takeShop 6 = .ok (.iadd, 1) := by decide +kernel
theorem dX2_takeShop_7 : decode cX2_takeShop 7 = .ok (.putfield 42, 3) := by decide +kernel
theorem dX2_takeShop_10 : decode cX2_takeShop 10 = .ok (.aload_n 0, 1) := by decide +kernel
theorem dX2_takeShop_11 : decode cX2_takeShop 11 = .ok (.invokevirtual 65, 3) := by decide +kernel
theorem dX2_takeShop_14 : decode cX2_takeShop 14 = .ok (.istore_n 1, 1) := by decide +kernel
theorem dX2_takeShop_15 : decode cX2_takeShop 15 = .ok (.aload_n 0, 1) := by decide +kernel
theorem dX2_takeShop_16 : decode cX2_takeShop 16 = .ok (.bipush 44, 2) := by decide +kernel
theorem dX2_takeShop_18 : decode cX2_takeShop 18 = .ok (.invokevirtual 48, 3) := by decide +kernel
theorem dX2_takeShop_21 : decode cX2_takeShop 21 = .ok (.aload_n 0, 1) := by decide +kernel
theorem dX2_takeShop_22 : decode cX2_takeShop 22 = .ok (.iconst 0, 1) := by decide +kernel
theorem dX2_takeShop_23 : decode cX2_takeShop 23 = .ok (.bipush 99, 2) := by decide +kernel
theorem dX2_takeShop_25 : decode cX2_takeShop 25 = .ok (.invokevirtual 68, 3) := by decide +kernel
theorem dX2_takeShop_28 : decode cX2_takeShop 28 = .ok (.istore_n 2, 1) := by decide +kernel
theorem dX2_takeShop_29 : decode cX2_takeShop 29 = .ok (.aload_n 0, 1) := by decide +kernel
theorem dX2_takeShop_30 : decode cX2_takeShop 30 = .ok (.getfield 26, 3) := by decide +kernel
theorem dX2_takeShop_33 : decode cX2_takeShop 33 = .ok (.iconst (-1), 1) := by decide +kernel
theorem dX2_takeShop_34 : decode cX2_takeShop 34 = .ok (.if_icmp .ne 33, 3) := by decide +kernel
theorem dX2_takeShop_37 : decode cX2_takeShop 37 = .ok (.aload_n 0, 1) := by decide +kernel
theorem dX2_takeShop_38 : decode cX2_takeShop 38 = .ok (.getfield 15, 3) := by decide +kernel
theorem dX2_takeShop_41 : decode cX2_takeShop 41 = .ok (.aload_n 0, 1) := by decide +kernel
theorem dX2_takeShop_42 : decode cX2_takeShop 42 = .ok (.getfield 39, 3) := by decide +kernel
theorem dX2_takeShop_45 : decode cX2_takeShop 45 = .ok (.iload_n 1, 1) := by decide +kernel
theorem dX2_takeShop_46 : decode cX2_takeShop 46 = .ok (.iastore, 1) := by decide +kernel
theorem dX2_takeShop_47 : decode cX2_takeShop 47 = .ok (.aload_n 0, 1) := by decide +kernel
theorem dX2_takeShop_48 : decode cX2_takeShop 48 = .ok (.getfield 18, 3) := by decide +kernel
theorem dX2_takeShop_51 : decode cX2_takeShop 51 = .ok (.aload_n 0, 1) := by decide +kernel
theorem dX2_takeShop_52 : decode cX2_takeShop 52 = .ok (.getfield 39, 3) := by decide +kernel
theorem dX2_takeShop_55 : decode cX2_takeShop 55 = .ok (.iload_n 2, 1) := by decide +kernel
theorem dX2_takeShop_56 : decode cX2_takeShop 56 = .ok (.iastore, 1) := by decide +kernel
theorem dX2_takeShop_57 : decode cX2_takeShop 57 = .ok (.aload_n 0, 1) := by decide +kernel
theorem dX2_takeShop_58 : decode cX2_takeShop 58 = .ok (.dup, 1) := by decide +kernel
theorem dX2_takeShop_59 : decode cX2_takeShop 59 = .ok (.getfield 39, 3) := by decide +kernel
theorem dX2_takeShop_62 : decode cX2_takeShop 62 = .ok (.iconst 1, 1) := by decide +kernel
theorem dX2_takeShop_63 : decode cX2_takeShop 63 = .ok (.iadd, 1) := by decide +kernel
theorem dX2_takeShop_64 : decode cX2_takeShop 64 = .ok (.putfield 39, 3) := by decide +kernel
theorem dX2_takeShop_67 : decode cX2_takeShop 67 = .ok (.return_, 1) := by decide +kernel
theorem dX2_takeSort_0 : decode cX2_takeSort 0 = .ok (.aload_n 0, 1) := by decide +kernel
theorem dX2_takeSort_1 : decode cX2_takeSort 1 = .ok (.dup, 1) := by decide +kernel
theorem dX2_takeSort_2 : decode cX2_takeSort 2 = .ok (.getfield 42, 3) := by decide +kernel
theorem dX2_takeSort_5 : decode cX2_takeSort 5 = .ok (.iconst 1, 1) := by decide +kernel
theorem dX2_takeSort_6 : decode cX2_takeSort 6 = .ok (.iadd, 1) := by decide +kernel
theorem dX2_takeSort_7 : decode cX2_takeSort 7 = .ok (.putfield 42, 3) := by decide +kernel
theorem dX2_takeSort_10 : decode cX2_takeSort 10 = .ok (.aload_n 0, 1) := by decide +kernel
theorem dX2_takeSort_11 : decode cX2_takeSort 11 = .ok (.getfield 23, 3) := by decide +kernel
theorem dX2_takeSort_14 : decode cX2_takeSort 14 = .ok (.aload_n 0, 1) := by decide +kernel
theorem dX2_takeSort_15 : decode cX2_takeSort 15 = .ok (.getfield 36, 3) := by decide +kernel
theorem dX2_takeSort_18 : decode cX2_takeSort 18 = .ok (.aaload, 1) := by decide +kernel
theorem dX2_takeSort_19 : decode cX2_takeSort 19 = .ok (.astore_n 1, 1) := by decide +kernel
theorem dX2_takeSort_20 : decode cX2_takeSort 20 = .ok (.aload_n 1, 1) := by decide +kernel
theorem dX2_takeSort_21 : decode cX2_takeSort 21 = .ok (.iconst 0, 1) := by decide +kernel
theorem dX2_takeSort_22 : decode cX2_takeSort 22 = .ok (.aload_n 0, 1) := by decide +kernel
theorem dX2_takeSort_23 : decode cX2_takeSort 23 = .ok (.invokevirtual 65, 3) := by decide +kernel
theorem dX2_takeSort_26 : decode cX2_takeSort 26 = .ok (.iastore, 1) := by decide +kernel
theorem dX2_takeSort_27 : decode cX2_takeSort 27 = .ok (.aload_n 0, 1) := by decide +kernel
theorem dX2_takeSort_28 : decode cX2_takeSort 28 = .ok (.bipush 44, 2) := by decide +kernel
theorem dX2_takeSort_30 : decode cX2_takeSort 30 = .ok (.invokevirtual 48, 3) := by decide +kernel
theorem dX2_takeSort_33 : decode cX2_takeSort 33 = .ok (.aload_n 1, 1) := by decide +kernel
theorem dX2_takeSort_34 : decode cX2_takeSort 34 = .ok (.iconst 1, 1) := by decide +kernel
theorem dX2_takeSort_35 : decode cX2_takeSort 35 = .ok (.aload_n 0, 1) := by decide +kernel
theorem dX2_takeSort_36 : decode cX2_takeSort 36 = .ok (.iconst 1, 1) := by decide +kernel
theorem dX2_takeSort_37 : decode cX2_takeSort 37 = .ok (.bipush 99, 2) := by decide +kernel
theorem dX2_takeSort_39 : decode cX2_takeSort 39 = .ok (.invokevirtual 68, 3) := by decide +kernel
theorem dX2_takeSort_42 : decode cX2_takeSort 42 = .ok (.iastore, 1) := by decide +kernel
theorem dX2_takeSort_43 : decode cX2_takeSort 43 = .ok (.aload_n 0, 1) := by decide +kernel
theorem dX2_takeSort_44 : decode cX2_takeSort 44 = .ok (.bipush 44, 2) := by decide +kernel
theorem dX2_takeSort_46 : decode cX2_takeSort 46 = .ok (.invokevirtual 48, 3) := by decide +kernel
theorem dX2_takeSort_49 : decode cX2_takeSort 49 = .ok (.aload_n 1, 1) := by decide +kernel
theorem dX2_takeSort_50 : decode cX2_takeSort 50 = .ok (.iconst 2, 1) := by decide +kernel
theorem dX2_takeSort_51 : decode cX2_takeSort 51 = .ok (.aload_n 0, 1) := by decide +kernel
theorem dX2_takeSort_52 : decode cX2_takeSort 52 = .ok (.invokevirtual 72, 3) := by decide +kernel
theorem dX2_takeSort_55 : decode cX2_takeSort 55 = .ok (.iastore, 1) := by decide +kernel
theorem dX2_takeSort_56 : decode cX2_takeSort 56 = .ok (.aload_n 0, 1) := by decide +kernel
theorem dX2_takeSort_57 : decode cX2_takeSort 57 = .ok (.bipush 44, 2) := by decide +kernel
theorem dX2_takeSort_59 : decode cX2_takeSort 59 = .ok (.invokevirtual 48, 3) := by decide +kernel
theorem dX2_takeSort_62 : decode cX2_takeSort 62 = .ok (.aload_n 1, 1) := by decide +kernel
theorem dX2_takeSort_63 : decode cX2_takeSort 63 = .ok (.iconst 3, 1) := by decide +kernel
theorem dX2_takeSort_64 : decode cX2_takeSort 64 = .ok (.aload_n 0, 1) := by decide +kernel
theorem dX2_takeSort_65 : decode cX2_takeSort 65 = .ok (.iconst 0, 1) := by decide +kernel
theorem dX2_takeSort_66 : decode cX2_takeSort 66 = .ok (.bipush 16, 2) := by decide +kernel
theorem dX2_takeSort_68 : decode cX2_takeSort 68 = .ok (.invokevirtual 68, 3) := by decide +kernel
theorem dX2_takeSort_71 : decode cX2_takeSort 71 = .ok (.iastore, 1) := by decide +kernel
theorem dX2_takeSort_72 : decode cX2_takeSort 72 = .ok (.aload_n 0, 1) := by decide +kernel
theorem dX2_takeSort_73 : decode cX2_takeSort 73 = .ok (.bipush 44, 2) := by decide +kernel
theorem dX2_takeSort_75 : decode cX2_takeSort 75 = .ok (.invokevirtual 48, 3) := by decide +kernel
theorem dX2_takeSort_78 : decode cX2_takeSort 78 = .ok (.aload_n 1, 1) := by decide +kernel
theorem dX2_takeSort_79 : decode cX2_takeSort 79 = .ok (.iconst 4, 1) := by decide +kernel
theorem dX2_takeSort_80 : decode cX2_takeSort 80 = .ok (.aload_n 0, 1) := by decide +kernel
theorem dX2_takeSort_81 : decode cX2_takeSort 81 = .ok (.iconst 0, 1) := by decide +kernel
theorem dX2_takeSort_82 : decode cX2_takeSort 82 = .ok (.bipush 16, 2) := by decide +kernel
theorem dX2_takeSort_84 : decode cX2_takeSort 84 = .ok (.invokevirtual 68, 3) := by decide +kernel
theorem dX2_takeSort_87 : decode cX2_takeSort 87 = .ok (.iastore, 1) := by decide +kernel
theorem dX2_takeSort_88 : decode cX2_takeSort 88 = .ok (.aload_n 0, 1) := by decide +kernel
theorem dX2_takeSort_89 : decode cX2_takeSort 89 = .ok (.bipush 44, 2) := by decide +kernel
theorem dX2_takeSort_91 : decode cX2_takeSort 91 = .ok (.invokevirtual 48, 3) := by decide +kernel
theorem dX2_takeSort_94 : decode cX2_takeSort 94 = .ok (.aload_n 1, 1) := by decide +kernel
theorem dX2_takeSort_95 : decode cX2_takeSort 95 = .ok (.iconst 5, 1) := by decide +kernel
theorem dX2_takeSort_96 : decode cX2_takeSort 96 = .ok (.aload_n 0, 1) := by decide +kernel
theorem dX2_takeSort_97 : decode cX2_takeSort 97 = .ok (.iconst 1, 1) := by decide +kernel
theorem dX2_takeSort_98 : decode cX2_takeSort 98 = .ok (.bipush 99, 2) := by decide +kernel
theorem dX2_takeSort_100 : decode cX2_takeSort 100 = .ok (.invokevirtual 68, 3) := by decide +kernel
theorem dX2_takeSort_103 : decode cX2_takeSort 103 = .ok (.iastore, 1) := by decide +kernel
theorem dX2_takeSort_104 : decode cX2_takeSort 104 = .ok (.aload_n 0, 1) := by decide +kernel
theorem dX2_takeSort_105 : decode cX2_takeSort 105 = .ok (.getfield 26, 3) := by decide +kernel
theorem dX2_takeSort_108 : decode cX2_takeSort 108 = .ok (.iconst (-1), 1) := by decide +kernel
theorem dX2_takeSort_109 : decode cX2_takeSort 109 = .ok (.if_icmp .ne 13, 3) := by decide +kernel
theorem dX2_takeSort_112 : decode cX2_takeSort 112 = .ok (.aload_n 0, 1) := by decide +kernel
theorem dX2_takeSort_113 : decode cX2_takeSort 113 = .ok (.dup, 1) := by decide +kernel
theorem dX2_takeSort_114 : decode cX2_takeSort 114 = .ok (.getfield 36, 3) := by decide +kernel
theorem dX2_takeSort_117 : decode cX2_takeSort 117 = .ok (.iconst 1, 1) := by decide +kernel
theorem dX2_takeSort_118 : decode cX2_takeSort 118 = .ok (.iadd, 1) := by decide +kernel
theorem dX2_takeSort_119 : decode cX2_takeSort 119 = .ok (.putfield 36, 3) := by decide +kernel
theorem dX2_takeSort_122 : decode cX2_takeSort 122 = .ok (.return_, 1) := by decide +kernel
theorem dX2_takeSign_0 : decode cX2_takeSign 0 = .ok (.aload_n 0, 1) := by decide +kernel
theorem dX2_takeSign_1 : decode cX2_takeSign 1 = .ok (.invokevirtual 52, 3) := by decide +kernel
theorem dX2_takeSign_4 : decode cX2_takeSign 4 = .ok (.iload_n 1, 1) := by decide +kernel
theorem dX2_takeSign_5 : decode cX2_takeSign 5 = .ok (.if_icmp .ne 16, 3) := by decide +kernel
theorem dX2_takeSign_8 : decode cX2_takeSign 8 = .ok (.aload_n 0, 1) := by decide +kernel
theorem dX2_takeSign_9 : decode cX2_takeSign 9 = .ok (.dup, 1) := by decide +kernel
theorem dX2_takeSign_10 : decode cX2_takeSign 10 = .ok (.getfield 42, 3) := by decide +kernel
theorem dX2_takeSign_13 : decode cX2_takeSign 13 = .ok (.iconst 1, 1) := by decide +kernel
theorem dX2_takeSign_14 : decode cX2_takeSign 14 = .ok (.iadd, 1) := by decide +kernel
theorem dX2_takeSign_15 : decode cX2_takeSign 15 = .ok (.putfield 42, 3) := by decide +kernel
theorem dX2_takeSign_18 : decode cX2_takeSign 18 = .ok (.goto 11, 3) := by decide +kernel
theorem dX2_takeSign_21 : decode cX2_takeSign 21 = .ok (.aload_n 0, 1) := by decide +kernel
theorem dX2_takeSign_22 : decode cX2_takeSign 22 = .ok (.aload_n 0, 1) := by decide +kernel
theorem dX2_takeSign_23 : decode cX2_takeSign 23 = .ok (.getfield 42, 3) := by decide +kernel
theorem dX2_takeSign_26 : decode cX2_takeSign 26 = .ok (.invokevirtual 62, 3) := by decide +kernel
theorem dX2_takeSign_29 : decode cX2_takeSign 29 = .ok (.return_, 1) := by decide +kernel
theorem dX2_takeFigure_0 : decode cX2_takeFigure 0 = .ok (.aload_n 0, 1) := by decide +kernel
theorem dX2_takeFigure_1 : decode cX2_takeFigure 1 = .ok (.invokevirtual 52, 3) := by decide +kernel
theorem dX2_takeFigure_4 : decode cX2_takeFigure 4 = .ok (.bipush 48, 2) := by decide +kernel
theorem dX2_takeFigure_6 : decode cX2_takeFigure 6 = .ok (.isub, 1) := by decide +kernel
theorem dX2_takeFigure_7 : decode cX2_takeFigure 7 = .ok (.istore_n 1, 1) := by decide +kernel
theorem dX2_takeFigure_8 : decode cX2_takeFigure 8 = .ok (.iload_n 1, 1) := by decide +kernel
theorem dX2_takeFigure_9 : decode cX2_takeFigure 9 = .ok (.iconst 1, 1) := by decide +kernel
theorem dX2_takeFigure_10 : decode cX2_takeFigure 10 = .ok (.if_icmp .lt 8, 3) := by decide +kernel
theorem dX2_takeFigure_13 : decode cX2_takeFigure 13 = .ok (.iload_n 1, 1) := by decide +kernel
theorem dX2_takeFigure_14 : decode cX2_takeFigure 14 = .ok (.iconst 3, 1) := by decide +kernel
theorem dX2_takeFigure_15 : decode cX2_takeFigure 15 = .ok (.if_icmp .le 13, 3) := by decide +kernel
theorem dX2_takeFigure_18 : decode cX2_takeFigure 18 = .ok (.aload_n 0, 1) := by decide +kernel
theorem dX2_takeFigure_19 : decode cX2_takeFigure 19 = .ok (.aload_n 0, 1) := by decide +kernel
theorem dX2_takeFigure_20 : decode cX2_takeFigure 20 = .ok (.getfield 42, 3) := by decide +kernel
theorem dX2_takeFigure_23 : decode cX2_takeFigure 23 = .ok (.invokevirtual 62, 3) := by decide +kernel
theorem dX2_takeFigure_26 : decode cX2_takeFigure 26 = .ok (.iconst 0, 1) := by decide +kernel
theorem dX2_takeFigure_27 : decode cX2_takeFigure 27 = .ok (.ireturn, 1) := by decide +kernel
theorem dX2_takeFigure_28 : decode cX2_takeFigure 28 = .ok (.aload_n 0, 1) := by decide +kernel
theorem dX2_takeFigure_29 : decode cX2_takeFigure 29 = .ok (.dup, 1) := by decide +kernel
theorem dX2_takeFigure_30 : decode cX2_takeFigure 30 = .ok (.getfield 42, 3) := by decide +kernel
theorem dX2_takeFigure_33 : decode cX2_takeFigure 33 = .ok (.iconst 1, 1) := by decide +kernel
theorem dX2_takeFigure_34 : decode cX2_takeFigure 34 = .ok (.iadd, 1) := by decide +kernel
theorem dX2_takeFigure_35 : decode cX2_takeFigure 35 = .ok (.putfield 42, 3) := by decide +kernel
theorem dX2_takeFigure_38 : decode cX2_takeFigure 38 = .ok (.iload_n 1, 1) := by decide +kernel
theorem dX2_takeFigure_39 : decode cX2_takeFigure 39 = .ok (.ireturn, 1) := by decide +kernel
theorem dX2_takeLiked_0 : decode cX2_takeLiked 0 = .ok (.aload_n 0, 1) := by decide +kernel
theorem dX2_takeLiked_1 : decode cX2_takeLiked 1 = .ok (.invokevirtual 52, 3) := by decide +kernel
theorem dX2_takeLiked_4 : decode cX2_takeLiked 4 = .ok (.istore_n 1, 1) := by decide +kernel
theorem dX2_takeLiked_5 : decode cX2_takeLiked 5 = .ok (.iload_n 1, 1) := by decide +kernel
theorem dX2_takeLiked_6 : decode cX2_takeLiked 6 = .ok (.bipush 45, 2) := by decide +kernel
theorem dX2_takeLiked_8 : decode cX2_takeLiked 8 = .ok (.if_icmp .ne 7, 3) := by decide +kernel
theorem dX2_takeLiked_11 : decode cX2_takeLiked 11 = .ok (.iconst (-1), 1) := by decide +kernel
theorem dX2_takeLiked_12 : decode cX2_takeLiked 12 = .ok (.goto 7, 3) := by decide +kernel
theorem dX2_takeLiked_15 : decode cX2_takeLiked 15 = .ok (.iload_n 1, 1) := by decide +kernel
theorem dX2_takeLiked_16 : decode cX2_takeLiked 16 = .ok (.bipush 48, 2) := by decide +kernel
theorem dX2_takeLiked_18 : decode cX2_takeLiked 18 = .ok (.isub, 1) := by decide +kernel
theorem dX2_takeLiked_19 : decode cX2_takeLiked 19 = .ok (.istore_n 2, 1) := by decide +kernel
theorem dX2_takeLiked_20 : decode cX2_takeLiked 20 = .ok (.iload_n 1, 1) := by decide +kernel
theorem dX2_takeLiked_21 : decode cX2_takeLiked 21 = .ok (.bipush 45, 2) := by decide +kernel
theorem dX2_takeLiked_23 : decode cX2_takeLiked 23 = .ok (.if_icmp .eq 25, 3) := by decide +kernel
theorem dX2_takeLiked_26 : decode cX2_takeLiked 26 = .ok (.iload_n 2, 1) := by decide +kernel
theorem dX2_takeLiked_27 : decode cX2_takeLiked 27 = .ok (.ifCond .lt 11, 3) := by decide +kernel
theorem dX2_takeLiked_30 : decode cX2_takeLiked 30 = .ok (.iload_n 2, 1) := by decide +kernel
theorem dX2_takeLiked_31 : decode cX2_takeLiked 31 = .ok (.aload_n 0, 1) := by decide +kernel
theorem dX2_takeLiked_32 : decode cX2_takeLiked 32 = .ok (.getfield 39, 3) := by decide +kernel
theorem dX2_takeLiked_35 : decode cX2_takeLiked 35 = .ok (.if_icmp .lt 13, 3) := by decide +kernel
theorem dX2_takeLiked_38 : decode cX2_takeLiked 38 = .ok (.aload_n 0, 1) := by decide +kernel
theorem dX2_takeLiked_39 : decode cX2_takeLiked 39 = .ok (.aload_n 0, 1) := by decide +kernel
theorem dX2_takeLiked_40 : decode cX2_takeLiked 40 = .ok (.getfield 42, 3) := by decide +kernel
theorem dX2_takeLiked_43 : decode cX2_takeLiked 43 = .ok (.invokevirtual 62, 3) := by decide +kernel
theorem dX2_takeLiked_46 : decode cX2_takeLiked 46 = .ok (.iconst (-1), 1) := by decide +kernel
theorem dX2_takeLiked_47 : decode cX2_takeLiked 47 = .ok (.ireturn, 1) := by decide +kernel
theorem dX2_takeLiked_48 : decode cX2_takeLiked 48 = .ok (.aload_n 0, 1) := by decide +kernel
theorem dX2_takeLiked_49 : decode cX2_takeLiked 49 = .ok (.dup, 1) := by decide +kernel
theorem dX2_takeLiked_50 : decode cX2_takeLiked 50 = .ok (.getfield 42, 3) := by decide +kernel
theorem dX2_takeLiked_53 : decode cX2_takeLiked 53 = .ok (.iconst 1, 1) := by decide +kernel
theorem dX2_takeLiked_54 : decode cX2_takeLiked 54 = .ok (.iadd, 1) := by decide +kernel
theorem dX2_takeLiked_55 : decode cX2_takeLiked 55 = .ok (.putfield 42, 3) := by decide +kernel
theorem dX2_takeLiked_58 : decode cX2_takeLiked 58 = .ok (.iload_n 2, 1) := by decide +kernel
theorem dX2_takeLiked_59 : decode cX2_takeLiked 59 = .ok (.ireturn, 1) := by decide +kernel
theorem dX2_takeNumber_0 : decode cX2_takeNumber 0 = .ok (.aload_n 0, 1) := by decide +kernel
theorem dX2_takeNumber_1 : decode cX2_takeNumber 1 = .ok (.getfield 42, 3) := by decide +kernel
theorem dX2_takeNumber_4 : decode cX2_takeNumber 4 = .ok (.istore_n 3, 1) := by decide +kernel
theorem dX2_takeNumber_5 : decode cX2_takeNumber 5 = .ok (.iconst 0, 1) := by decide +kernel
theorem dX2_takeNumber_6 : decode cX2_takeNumber 6 = .ok (.istore 4, 2) := by decide +kernel
theorem dX2_takeNumber_8 : decode cX2_takeNumber 8 = .ok (.iconst 0, 1) := by decide +kernel
theorem dX2_takeNumber_9 : decode cX2_takeNumber 9 = .ok (.istore 5, 2) := by decide +kernel
theorem dX2_takeNumber_11 : decode cX2_takeNumber 11 = .ok (.iload 5, 2) := by decide +kernel
theorem dX2_takeNumber_13 : decode cX2_takeNumber 13 = .ok (.iconst 2, 1) := by decide +kernel
theorem dX2_takeNumber_14 : decode cX2_takeNumber 14 = .ok (.if_icmp .ge 44, 3) := by decide +kernel
theorem dX2_takeNumber_17 : decode cX2_takeNumber 17 = .ok (.aload_n 0, 1) := by decide +kernel
theorem dX2_takeNumber_18 : decode cX2_takeNumber 18 = .ok (.invokevirtual 52, 3) := by decide +kernel
theorem dX2_takeNumber_21 : decode cX2_takeNumber 21 = .ok (.invokestatic 75, 3) := by decide +kernel
theorem dX2_takeNumber_24 : decode cX2_takeNumber 24 = .ok (.ifCond .eq 34, 3) := by decide +kernel
theorem dX2_takeNumber_27 : decode cX2_takeNumber 27 = .ok (.bipush 10, 2) := by decide +kernel
theorem dX2_takeNumber_29 : decode cX2_takeNumber 29 = .ok (.iload 4, 2) := by decide +kernel
theorem dX2_takeNumber_31 : decode cX2_takeNumber 31 = .ok (.imul, 1) := by decide +kernel
theorem dX2_takeNumber_32 : decode cX2_takeNumber 32 = .ok (.aload_n 0, 1) := by decide +kernel
theorem dX2_takeNumber_33 : decode cX2_takeNumber 33 = .ok (.invokevirtual 52, 3) := by decide +kernel
theorem dX2_takeNumber_36 : decode cX2_takeNumber 36 = .ok (.iadd, 1) := by decide +kernel
theorem dX2_takeNumber_37 : decode cX2_takeNumber 37 = .ok (.bipush 48, 2) := by decide +kernel
theorem dX2_takeNumber_39 : decode cX2_takeNumber 39 = .ok (.isub, 1) := by decide +kernel
theorem dX2_takeNumber_40 : decode cX2_takeNumber 40 = .ok (.istore 4, 2) := by decide +kernel
theorem dX2_takeNumber_42 : decode cX2_takeNumber 42 = .ok (.aload_n 0, 1) := by decide +kernel
theorem dX2_takeNumber_43 : decode cX2_takeNumber 43 = .ok (.dup, 1) := by decide +kernel
theorem dX2_takeNumber_44 : decode cX2_takeNumber 44 = .ok (.getfield 42, 3) := by decide +kernel
theorem dX2_takeNumber_47 : decode cX2_takeNumber 47 = .ok (.iconst 1, 1) := by decide +kernel
theorem dX2_takeNumber_48 : decode cX2_takeNumber 48 = .ok (.iadd, 1) := by decide +kernel
theorem dX2_takeNumber_49 : decode cX2_takeNumber 49 = .ok (.putfield 42, 3) := by decide +kernel
theorem dX2_takeNumber_52 : decode cX2_takeNumber 52 = .ok (.iinc 5 1, 3) := by decide +kernel
theorem dX2_takeNumber_55 : decode cX2_takeNumber 55 = .ok (.goto (-44), 3) := by decide +kernel
theorem dX2_takeNumber_58 : decode cX2_takeNumber 58 = .ok (.aload_n 0, 1) := by decide +kernel
theorem dX2_takeNumber_59 : decode cX2_takeNumber 59 = .ok (.getfield 42, 3) := by decide +kernel
theorem dX2_takeNumber_62 : decode cX2_takeNumber 62 = .ok (.iload_n 3, 1) := by decide +kernel
theorem dX2_takeNumber_63 : decode cX2_takeNumber 63 = .ok (.if_icmp .eq 15, 3) := by decide +kernel
theorem dX2_takeNumber_66 : decode cX2_takeNumber 66 = .ok (.iload 4, 2) := by decide +kernel
theorem dX2_takeNumber_68 : decode cX2_takeNumber 68 = .ok (.iload_n 1, 1) := by decide +kernel
theorem dX2_takeNumber_69 : decode cX2_takeNumber 69 = .ok (.if_icmp .lt 9, 3) := by decide +kernel
theorem dX2_takeNumber_72 : decode cX2_takeNumber 72 = .ok (.iload 4, 2) := by decide +kernel
theorem dX2_takeNumber_74 : decode cX2_takeNumber 74 = .ok (.iload_n 2, 1) := by decide +kernel
theorem dX2_takeNumber_75 : decode cX2_takeNumber 75 = .ok (.if_icmp .le 8, 3) := by decide +kernel
theorem dX2_takeNumber_78 : decode cX2_takeNumber 78 = .ok (.aload_n 0, 1) := by decide +kernel
theorem dX2_takeNumber_79 : decode cX2_takeNumber 79 = .ok (.iload_n 3, 1) := by decide +kernel
theorem dX2_takeNumber_80 : decode cX2_takeNumber 80 = .ok (.invokevirtual 62, 3) := by decide +kernel
theorem dX2_takeNumber_83 : decode cX2_takeNumber 83 = .ok (.iload 4, 2) := by decide +kernel
theorem dX2_takeNumber_85 : decode cX2_takeNumber 85 = .ok (.ireturn, 1) := by decide +kernel
theorem dX2_next_0 : decode cX2_next 0 = .ok (.aload_n 0, 1) := by decide +kernel
theorem dX2_next_1 : decode cX2_next 1 = .ok (.getfield 42, 3) := by decide +kernel
theorem dX2_next_4 : decode cX2_next 4 = .ok (.ifCond .lt 26, 3) := by decide +kernel
theorem dX2_next_7 : decode cX2_next 7 = .ok (.aload_n 0, 1) := by decide +kernel
theorem dX2_next_8 : decode cX2_next 8 = .ok (.getfield 42, 3) := by decide +kernel
theorem dX2_next_11 : decode cX2_next 11 = .ok (.aload_n 0, 1) := by decide +kernel
theorem dX2_next_12 : decode cX2_next 12 = .ok (.getfield 30, 3) := by decide +kernel
theorem dX2_next_15 : decode cX2_next 15 = .ok (.if_icmp .ge 15, 3) := by decide +kernel
theorem dX2_next_18 : decode cX2_next 18 = .ok (.aload_n 0, 1) := by decide +kernel
theorem dX2_next_19 : decode cX2_next 19 = .ok (.getfield 9, 3) := by decide +kernel
theorem dX2_next_22 : decode cX2_next 22 = .ok (.aload_n 0, 1) := by decide +kernel
theorem dX2_next_23 : decode cX2_next 23 = .ok (.getfield 42, 3) := by decide +kernel
theorem dX2_next_26 : decode cX2_next 26 = .ok (.iaload, 1) := by decide +kernel
theorem dX2_next_27 : decode cX2_next 27 = .ok (.goto 4, 3) := by decide +kernel
theorem dX2_next_30 : decode cX2_next 30 = .ok (.iconst (-1), 1) := by decide +kernel
theorem dX2_next_31 : decode cX2_next 31 = .ok (.ireturn, 1) := by decide +kernel
theorem dX2_isFigure_0 : decode cX2_isFigure 0 = .ok (.iload_n 0, 1) := by decide +kernel
theorem dX2_isFigure_1 : decode cX2_isFigure 1 = .ok (.bipush 48, 2) := by decide +kernel
theorem dX2_isFigure_3 : decode cX2_isFigure 3 = .ok (.if_icmp .lt 13, 3) := by decide +kernel
theorem dX2_isFigure_6 : decode cX2_isFigure 6 = .ok (.iload_n 0, 1) := by decide +kernel
theorem dX2_isFigure_7 : decode cX2_isFigure 7 = .ok (.bipush 57, 2) := by decide +kernel
theorem dX2_isFigure_9 : decode cX2_isFigure 9 = .ok (.if_icmp .gt 7, 3) := by decide +kernel
theorem dX2_isFigure_12 : decode cX2_isFigure 12 = .ok (.iconst 1, 1) := by decide +kernel
theorem dX2_isFigure_13 : decode cX2_isFigure 13 = .ok (.goto 4, 3) := by decide +kernel
theorem dX2_isFigure_16 : decode cX2_isFigure 16 = .ok (.iconst 0, 1) := by decide +kernel
theorem dX2_isFigure_17 : decode cX2_isFigure 17 = .ok (.ireturn, 1) := by decide +kernel
theorem dX2_fail_0 : decode cX2_fail 0 = .ok (.aload_n 0, 1) := by decide +kernel
theorem dX2_fail_1 : decode cX2_fail 1 = .ok (.getfield 26, 3) := by decide +kernel
theorem dX2_fail_4 : decode cX2_fail 4 = .ok (.iconst (-1), 1) := by decide +kernel
theorem dX2_fail_5 : decode cX2_fail 5 = .ok (.if_icmp .ne 8, 3) := by decide +kernel
theorem dX2_fail_8 : decode cX2_fail 8 = .ok (.aload_n 0, 1) := by decide +kernel
theorem dX2_fail_9 : decode cX2_fail 9 = .ok (.iload_n 1, 1) := by decide +kernel
theorem dX2_fail_10 : decode cX2_fail 10 = .ok (.putfield 26, 3) := by decide +kernel
theorem dX2_fail_13 : decode cX2_fail 13 = .ok (.return_, 1) := by decide +kernel
theorem dX3_init_0 : decode cX3_init 0 = .ok (.aload_n 0, 1) := by decide +kernel
theorem dX3_init_1 : decode cX3_init 1 = .ok (.invokespecial 3, 3) := by decide +kernel
theorem dX3_init_4 : decode cX3_init 4 = .ok (.aload_n 0, 1) := by decide +kernel
theorem dX3_init_5 : decode cX3_init 5 = .ok (.sipush 672, 3) := by decide +kernel
theorem dX3_init_8 : decode cX3_init 8 = .ok (.newarray .long, 2) := by decide +kernel
theorem dX3_init_10 : decode cX3_init 10 = .ok (.putfield 11, 3) := by decide +kernel
theorem dX3_init_13 : decode cX3_init 13 = .ok (.return_, 1) := by decide +kernel
theorem dX3_rowOf_0 : decode cX3_rowOf 0 = .ok (.iload_n 0, 1) := by decide +kernel
theorem dX3_rowOf_1 : decode cX3_rowOf 1 = .ok (.iconst 1, 1) := by decide +kernel
theorem dX3_rowOf_2 : decode cX3_rowOf 2 = .ok (.isub, 1) := by decide +kernel
theorem dX3_rowOf_3 : decode cX3_rowOf 3 = .ok (.bipush 32, 2) := by decide +kernel
theorem dX3_rowOf_5 : decode cX3_rowOf 5 = .ok (.imul, 1) := by decide +kernel
theorem dX3_rowOf_6 : decode cX3_rowOf 6 = .ok (.iload_n 1, 1) := by decide +kernel
theorem dX3_rowOf_7 : decode cX3_rowOf 7 = .ok (.iadd, 1) := by decide +kernel
theorem dX3_rowOf_8 : decode cX3_rowOf 8 = .ok (.bipush 7, 2) := by decide +kernel
theorem dX3_rowOf_10 : decode cX3_rowOf 10 = .ok (.imul, 1) := by decide +kernel
theorem dX3_rowOf_11 : decode cX3_rowOf 11 = .ok (.ireturn, 1) := by decide +kernel
theorem dX3_fill_0 : decode cX3_fill 0 = .ok (.aload_n 0, 1) := by decide +kernel
theorem dX3_fill_1 : decode cX3_fill 1 = .ok (.iconst 0, 1) := by decide +kernel
theorem dX3_fill_2 : decode cX3_fill 2 = .ok (.putfield 15, 3) := by decide +kernel
theorem dX3_fill_5 : decode cX3_fill 5 = .ok (.aload_n 0, 1) := by decide +kernel
theorem dX3_fill_6 : decode cX3_fill 6 = .ok (.getfield 11, 3) := by decide +kernel
theorem dX3_fill_9 : decode cX3_fill 9 = .ok (.lconst 0, 1) := by decide +kernel
theorem dX3_fill_10 : decode cX3_fill 10 = .ok (.invokestatic 19, 3) := by decide +kernel
theorem dX3_fill_13 : decode cX3_fill 13 = .ok (.iconst 1, 1) := by decide +kernel
theorem dX3_fill_14 : decode cX3_fill 14 = .ok (.aload_n 1, 1) := by decide +kernel
theorem dX3_fill_15 : decode cX3_fill 15 = .ok (.getfield 25, 3) := by decide +kernel
theorem dX3_fill_18 : decode cX3_fill 18 = .ok (.ishl, 1) := by decide +kernel
theorem dX3_fill_19 : decode cX3_fill 19 = .ok (.istore_n 3, 1) := by decide +kernel
theorem dX3_fill_20 : decode cX3_fill 20 = .ok (.iconst 0, 1) := by decide +kernel
theorem dX3_fill_21 : decode cX3_fill 21 = .ok (.istore 4, 2) := by decide +kernel
theorem dX3_fill_23 : decode cX3_fill 23 = .ok (.iload 4, 2) := by decide +kernel
theorem dX3_fill_25 : decode cX3_fill 25 = .ok (.aload_n 1, 1) := by decide +kernel
theorem dX3_fill_26 : decode cX3_fill 26 = .ok (.getfield 31, 3) := by decide +kernel
theorem dX3_fill_29 : decode cX3_fill 29 = .ok (.if_icmp .ge 39, 3) := by decide +kernel
theorem dX3_fill_32 : decode cX3_fill 32 = .ok (.iconst 0, 1) := by decide +kernel
theorem dX3_fill_33 : decode cX3_fill 33 = .ok (.istore 5, 2) := by decide +kernel
theorem dX3_fill_35 : decode cX3_fill 35 = .ok (.iload 5, 2) := by decide +kernel
theorem dX3_fill_37 : decode cX3_fill 37 = .ok (.iload_n 3, 1) := by decide +kernel
theorem dX3_fill_38 : decode cX3_fill 38 = .ok (.if_icmp .ge 24, 3) := by decide +kernel
theorem dX3_fill_41 : decode cX3_fill 41 = .ok (.aload_n 0, 1) := by decide +kernel
theorem dX3_fill_42 : decode cX3_fill 42 = .ok (.aload_n 1, 1) := by decide +kernel
theorem dX3_fill_43 : decode cX3_fill 43 = .ok (.aload_n 1, 1) := by decide +kernel
theorem dX3_fill_44 : decode cX3_fill 44 = .ok (.getfield 34, 3) := by decide +kernel
theorem dX3_fill_47 : decode cX3_fill 47 = .ok (.iload 4, 2) := by decide +kernel
theorem dX3_fill_49 : decode cX3_fill 49 = .ok (.aaload, 1) := by decide +kernel
theorem dX3_fill_50 : decode cX3_fill 50 = .ok (.iload 5, 2) := by decide +kernel
theorem dX3_fill_52 : decode cX3_fill 52 = .ok (.iload_n 2, 1) := by decide +kernel
theorem dX3_fill_53 : decode cX3_fill 53 = .ok (.invokevirtual 38, 3) := by decide +kernel
theorem dX3_fill_56 : decode cX3_fill 56 = .ok (.iinc 5 1, 3) := by decide +kernel
theorem dX3_fill_59 : decode cX3_fill 59 = .ok (.goto (-24), 3) := by decide +kernel
theorem dX3_fill_62 : decode cX3_fill 62 = .ok (.iinc 4 1, 3) := by decide +kernel
theorem dX3_fill_65 : decode cX3_fill 65 = .ok (.goto (-42), 3) := by decide +kernel
theorem dX3_fill_68 : decode cX3_fill 68 = .ok (.return_, 1) := by decide +kernel
theorem dX3_addBuyers_0 : decode cX3_addBuyers 0 = .ok (.aload_n 2, 1) := by decide +kernel
theorem dX3_addBuyers_1 : decode cX3_addBuyers 1 = .ok (.iconst 0, 1) := by decide +kernel
theorem dX3_addBuyers_2 : decode cX3_addBuyers 2 = .ok (.iaload, 1) := by decide +kernel
theorem dX3_addBuyers_3 : decode cX3_addBuyers 3 = .ok (.iload_n 3, 1) := by decide +kernel
theorem dX3_addBuyers_4 : decode cX3_addBuyers 4 = .ok (.invokestatic 42, 3) := by decide +kernel
theorem dX3_addBuyers_7 : decode cX3_addBuyers 7 = .ok (.istore 5, 2) := by decide +kernel
theorem dX3_addBuyers_9 : decode cX3_addBuyers 9 = .ok (.iload_n 3, 1) := by decide +kernel
theorem dX3_addBuyers_10 : decode cX3_addBuyers 10 = .ok (.invokestatic 46, 3) := by decide +kernel
theorem dX3_addBuyers_13 : decode cX3_addBuyers 13 = .ok (.istore 6, 2) := by decide +kernel
theorem dX3_addBuyers_15 : decode cX3_addBuyers 15 = .ok (.aload_n 2, 1) := by decide +kernel
theorem dX3_addBuyers_16 : decode cX3_addBuyers 16 = .ok (.iconst 1, 1) := by decide +kernel
theorem dX3_addBuyers_17 : decode cX3_addBuyers 17 = .ok (.iaload, 1) := by decide +kernel
theorem dX3_addBuyers_18 : decode cX3_addBuyers 18 = .ok (.i2l, 1) := by decide +kernel
theorem dX3_addBuyers_19 : decode cX3_addBuyers 19 = .ok (.iload 6, 2) := by decide +kernel
theorem dX3_addBuyers_21 : decode cX3_addBuyers 21 = .ok (.ifCond .ne 9, 3) := by decide +kernel
theorem dX3_addBuyers_24 : decode cX3_addBuyers 24 = .ok (.ldc2_w 52, 3) := by decide +kernel
theorem dX3_addBuyers_27 : decode cX3_addBuyers 27 = .ok (.goto 16, 3) := by decide +kernel
theorem dX3_addBuyers_30 : decode cX3_addBuyers 30 = .ok (.ldc2_w 52, 3) := by decide +kernel
theorem dX3_addBuyers_33 : decode cX3_addBuyers 33 = .ok (.iload 4, 2) := by decide +kernel
theorem dX3_addBuyers_35 : decode cX3_addBuyers 35 = .ok (.i2l, 1) := by decide +kernel
theorem dX3_addBuyers_36 : decode cX3_addBuyers 36 = .ok (.iload 6, 2) := by decide +kernel
theorem dX3_addBuyers_38 : decode cX3_addBuyers 38 = .ok (.i2l, 1) := by decide +kernel
theorem dX3_addBuyers_39 : decode cX3_addBuyers 39 = .ok (.lconst 1, 1) := by decide +kernel
theorem dX3_addBuyers_40 : decode cX3_addBuyers 40 = .ok (.lsub, 1) := by decide +kernel
theorem dX3_addBuyers_41 : decode cX3_addBuyers 41 = .ok (.lmul, 1) := by decide +kernel
theorem dX3_addBuyers_42 : decode cX3_addBuyers 42 = .ok (.ladd, 1) := by decide +kernel
theorem dX3_addBuyers_43 : decode cX3_addBuyers 43 = .ok (.lmul, 1) := by decide +kernel
theorem dX3_addBuyers_44 : decode cX3_addBuyers 44 = .ok (.ldc2_w 54, 3) := by decide +kernel
theorem dX3_addBuyers_47 : decode cX3_addBuyers 47 = .ok (.lmul, 1) := by decide +kernel
theorem dX3_addBuyers_48 : decode cX3_addBuyers 48 = .ok (.lstore 7, 2) := by decide +kernel
theorem dX3_addBuyers_50 : decode cX3_addBuyers 50 = .ok (.aload_n 2, 1) := by decide +kernel
theorem dX3_addBuyers_51 : decode cX3_addBuyers 51 = .ok (.iconst 2, 1) := by decide +kernel
theorem dX3_addBuyers_52 : decode cX3_addBuyers 52 = .ok (.iaload, 1) := by decide +kernel
theorem dX3_addBuyers_53 : decode cX3_addBuyers 53 = .ok (.istore 9, 2) := by decide +kernel
theorem dX3_addBuyers_55 : decode cX3_addBuyers 55 = .ok (.iload 9, 2) := by decide +kernel
theorem dX3_addBuyers_57 : decode cX3_addBuyers 57 = .ok (.iconst (-1), 1) := by decide +kernel
theorem dX3_addBuyers_58 : decode cX3_addBuyers 58 = .ok (.if_icmp .eq 34, 3) := by decide +kernel
theorem dX3_addBuyers_61 : decode cX3_addBuyers 61 = .ok (.iload_n 3, 1) := by decide +kernel
theorem dX3_addBuyers_62 : decode cX3_addBuyers 62 = .ok (.iload 9, 2) := by decide +kernel
theorem dX3_addBuyers_64 : decode cX3_addBuyers 64 = .ok (.ishr, 1) := by decide +kernel
theorem dX3_addBuyers_65 : decode cX3_addBuyers 65 = .ok (.iconst 1, 1) := by decide +kernel
theorem dX3_addBuyers_66 : decode cX3_addBuyers 66 = .ok (.iand, 1) := by decide +kernel
theorem dX3_addBuyers_67 : decode cX3_addBuyers 67 = .ok (.iconst 1, 1) := by decide +kernel
theorem dX3_addBuyers_68 : decode cX3_addBuyers 68 = .ok (.if_icmp .ne 24, 3) := by decide +kernel
theorem dX3_addBuyers_71 : decode cX3_addBuyers 71 = .ok (.aload_n 0, 1) := by decide +kernel
theorem dX3_addBuyers_72 : decode cX3_addBuyers 72 = .ok (.aload_n 1, 1) := by decide +kernel
theorem dX3_addBuyers_73 : decode cX3_addBuyers 73 = .ok (.iload 5, 2) := by decide +kernel
theorem dX3_addBuyers_75 : decode cX3_addBuyers 75 = .ok (.iconst 1, 1) := by decide +kernel
theorem dX3_addBuyers_76 : decode cX3_addBuyers 76 = .ok (.iload 9, 2) := by decide +kernel
theorem dX3_addBuyers_78 : decode cX3_addBuyers 78 = .ok (.ishl, 1) := by decide +kernel
theorem dX3_addBuyers_79 : decode cX3_addBuyers 79 = .ok (.lload 7, 2) := by decide +kernel
theorem dX3_addBuyers_81 : decode cX3_addBuyers 81 = .ok (.ldc2_w 56, 3) := by decide +kernel
theorem dX3_addBuyers_84 : decode cX3_addBuyers 84 = .ok (.lmul, 1) := by decide +kernel
theorem dX3_addBuyers_85 : decode cX3_addBuyers 85 = .ok (.aload_n 2, 1) := by decide +kernel
theorem dX3_addBuyers_86 : decode cX3_addBuyers 86 = .ok (.iconst 5, 1) := by decide +kernel
theorem dX3_addBuyers_87 : decode cX3_addBuyers 87 = .ok (.iaload, 1) := by decide +kernel
theorem dX3_addBuyers_88 : decode cX3_addBuyers 88 = .ok (.invokevirtual 58, 3) := by decide +kernel
theorem dX3_addBuyers_91 : decode cX3_addBuyers 91 = .ok (.return_, 1) := by decide +kernel
theorem dX3_addBuyers_92 : decode cX3_addBuyers 92 = .ok (.iload 6, 2) := by decide +kernel
theorem dX3_addBuyers_94 : decode cX3_addBuyers 94 = .ok (.ifCond .ne 7, 3) := by decide +kernel
theorem dX3_addBuyers_97 : decode cX3_addBuyers 97 = .ok (.iconst 0, 1) := by decide +kernel
theorem dX3_addBuyers_98 : decode cX3_addBuyers 98 = .ok (.goto 6, 3) := by decide +kernel
theorem dX3_addBuyers_101 : decode cX3_addBuyers 101 = .ok (.aload_n 2, 1) := by decide +kernel
theorem dX3_addBuyers_102 : decode cX3_addBuyers 102 = .ok (.iconst 3, 1) := by decide +kernel
theorem dX3_addBuyers_103 : decode cX3_addBuyers 103 = .ok (.iaload, 1) := by decide +kernel
theorem dX3_addBuyers_104 : decode cX3_addBuyers 104 = .ok (.istore 10, 2) := by decide +kernel
theorem dX3_addBuyers_106 : decode cX3_addBuyers 106 = .ok (.aload_n 0, 1) := by decide +kernel
theorem dX3_addBuyers_107 : decode cX3_addBuyers 107 = .ok (.aload_n 1, 1) := by decide +kernel
theorem dX3_addBuyers_108 : decode cX3_addBuyers 108 = .ok (.iload 5, 2) := by decide +kernel
theorem dX3_addBuyers_110 : decode cX3_addBuyers 110 = .ok (.iload_n 3, 1) := by decide +kernel
theorem dX3_addBuyers_111 : decode cX3_addBuyers 111 = .ok (.lload 7, 2) := by decide +kernel
theorem dX3_addBuyers_113 : decode cX3_addBuyers 113 = .ok (.iload 10, 2) := by decide +kernel
theorem dX3_addBuyers_115 : decode cX3_addBuyers 115 = .ok (.i2l, 1) := by decide +kernel
theorem dX3_addBuyers_116 : decode cX3_addBuyers 116 = .ok (.lmul, 1) := by decide +kernel
theorem dX3_addBuyers_117 : decode cX3_addBuyers 117 = .ok (.ldc2_w 52, 3) := by decide +kernel
theorem dX3_addBuyers_120 : decode cX3_addBuyers 120 = .ok (.lmul, 1) := by decide +kernel
theorem dX3_addBuyers_121 : decode cX3_addBuyers 121 = .ok (.aload_n 2, 1) := by decide +kernel
theorem dX3_addBuyers_122 : decode cX3_addBuyers 122 = .ok (.iconst 5, 1) := by decide +kernel
theorem dX3_addBuyers_123 : decode cX3_addBuyers 123 = .ok (.iaload, 1) := by decide +kernel
theorem dX3_addBuyers_124 : decode cX3_addBuyers 124 = .ok (.invokevirtual 58, 3) := by decide +kernel
theorem dX3_addBuyers_127 : decode cX3_addBuyers 127 = .ok (.iload 9, 2) := by decide +kernel
theorem dX3_addBuyers_129 : decode cX3_addBuyers 129 = .ok (.iconst (-1), 1) := by decide +kernel
theorem dX3_addBuyers_130 : decode cX3_addBuyers 130 = .ok (.if_icmp .ne 8, 3) := by decide +kernel
theorem dX3_addBuyers_133 : decode cX3_addBuyers 133 = .ok (.bipush 31, 2) := by decide +kernel
theorem dX3_addBuyers_135 : decode cX3_addBuyers 135 = .ok (.goto 7, 3) := by decide +kernel
theorem dX3_addBuyers_138 : decode cX3_addBuyers 138 = .ok (.iconst 1, 1) := by decide +kernel
theorem dX3_addBuyers_139 : decode cX3_addBuyers 139 = .ok (.iload 9, 2) := by decide +kernel
theorem dX3_addBuyers_141 : decode cX3_addBuyers 141 = .ok (.ishl, 1) := by decide +kernel
theorem dX3_addBuyers_142 : decode cX3_addBuyers 142 = .ok (.istore 11, 2) := by decide +kernel
theorem dX3_addBuyers_144 : decode cX3_addBuyers 144 = .ok (.aload_n 0, 1) := by decide +kernel
theorem dX3_addBuyers_145 : decode cX3_addBuyers 145 = .ok (.aload_n 1, 1) := by decide +kernel
theorem dX3_addBuyers_146 : decode cX3_addBuyers 146 = .ok (.iload 5, 2) := by decide +kernel
theorem dX3_addBuyers_148 : decode cX3_addBuyers 148 = .ok (.iload 11, 2) := by decide +kernel
theorem dX3_addBuyers_150 : decode cX3_addBuyers 150 = .ok (.lload 7, 2) := by decide +kernel
theorem dX3_addBuyers_152 : decode cX3_addBuyers 152 = .ok (.bipush 16, 2) := by decide +kernel
theorem dX3_addBuyers_154 : decode cX3_addBuyers 154 = .ok (.iload 10, 2) := by decide +kernel
theorem dX3_addBuyers_156 : decode cX3_addBuyers 156 = .ok (.isub, 1) := by decide +kernel
theorem dX3_addBuyers_157 : decode cX3_addBuyers 157 = .ok (.i2l, 1) := by decide +kernel
theorem dX3_addBuyers_158 : decode cX3_addBuyers 158 = .ok (.lmul, 1) := by decide +kernel
theorem dX3_addBuyers_159 : decode cX3_addBuyers 159 = .ok (.aload_n 2, 1) := by decide +kernel
theorem dX3_addBuyers_160 : decode cX3_addBuyers 160 = .ok (.iconst 4, 1) := by decide +kernel
theorem dX3_addBuyers_161 : decode cX3_addBuyers 161 = .ok (.iaload, 1) := by decide +kernel
theorem dX3_addBuyers_162 : decode cX3_addBuyers 162 = .ok (.i2l, 1) := by decide +kernel
theorem dX3_addBuyers_163 : decode cX3_addBuyers 163 = .ok (.lmul, 1) := by decide +kernel
theorem dX3_addBuyers_164 : decode cX3_addBuyers 164 = .ok (.aload_n 2, 1) := by decide +kernel
theorem dX3_addBuyers_165 : decode cX3_addBuyers 165 = .ok (.iconst 5, 1) := by decide +kernel
theorem dX3_addBuyers_166 : decode cX3_addBuyers 166 = .ok (.iaload, 1) := by decide +kernel
theorem dX3_addBuyers_167 : decode cX3_addBuyers 167 = .ok (.invokevirtual 58, 3) := by decide +kernel
theorem dX3_addBuyers_170 : decode cX3_addBuyers 170 = .ok (.return_, 1) := by decide +kernel
theorem dX3_part_0 : decode cX3_part 0 = .ok (.iconst 0, 1) := by decide +kernel
theorem dX3_part_1 : decode cX3_part 1 = .ok (.istore 7, 2) := by decide +kernel
theorem dX3_part_3 : decode cX3_part 3 = .ok (.iconst 0, 1) := by decide +kernel
theorem dX3_part_4 : decode cX3_part 4 = .ok (.istore 8, 2) := by decide +kernel
theorem dX3_part_6 : decode cX3_part 6 = .ok (.iload 8, 2) := by decide +kernel
theorem dX3_part_8 : decode cX3_part 8 = .ok (.aload_n 1, 1) := by decide +kernel
theorem dX3_part_9 : decode cX3_part 9 = .ok (.getfield 25, 3) := by decide +kernel
theorem dX3_part_12 : decode cX3_part 12 = .ok (.if_icmp .ge 28, 3) := by decide +kernel
theorem dX3_part_15 : decode cX3_part 15 = .ok (.iload 7, 2) := by decide +kernel
theorem dX3_part_17 : decode cX3_part 17 = .ok (.iload_n 3, 1) := by decide +kernel
theorem dX3_part_18 : decode cX3_part 18 = .ok (.iload 8, 2) := by decide +kernel
theorem dX3_part_20 : decode cX3_part 20 = .ok (.ishr, 1) := by decide +kernel
theorem dX3_part_21 : decode cX3_part 21 = .ok (.iconst 1, 1) := by decide +kernel
theorem dX3_part_22 : decode cX3_part 22 = .ok (.iand, 1) := by decide +kernel
theorem dX3_part_23 : decode cX3_part 23 = .ok (.aload_n 1, 1) := by decide +kernel
theorem dX3_part_24 : decode cX3_part 24 = .ok (.getfield 62, 3) := by decide +kernel
theorem dX3_part_27 : decode cX3_part 27 = .ok (.iload 8, 2) := by decide +kernel
theorem dX3_part_29 : decode cX3_part 29 = .ok (.iaload, 1) := by decide +kernel
theorem dX3_part_30 : decode cX3_part 30 = .ok (.imul, 1) := by decide +kernel
theorem dX3_part_31 : decode cX3_part 31 = .ok (.iadd, 1) := by decide +kernel
theorem dX3_part_32 : decode cX3_part 32 = .ok (.istore 7, 2) := by decide +kernel
theorem dX3_part_34 : decode cX3_part 34 = .ok (.iinc 8 1, 3) := by decide +kernel
theorem dX3_part_37 : decode cX3_part 37 = .ok (.goto (-31), 3) := by decide +kernel
theorem dX3_part_40 : decode cX3_part 40 = .ok (.iload 7, 2) := by decide +kernel
theorem dX3_part_42 : decode cX3_part 42 = .ok (.ifCond .ne 4, 3) := by decide +kernel
theorem dX3_part_45 : decode cX3_part 45 = .ok (.return_, 1) := by decide +kernel
theorem dX3_part_46 : decode cX3_part 46 = .ok (.lload 4, 2) := by decide +kernel
theorem dX3_part_48 : decode cX3_part 48 = .ok (.iload 7, 2) := by decide +kernel
theorem dX3_part_50 : decode cX3_part 50 = .ok (.i2l, 1) := by decide +kernel
theorem dX3_part_51 : decode cX3_part 51 = .ok (.ldiv, 1) := by decide +kernel
theorem dX3_part_52 : decode cX3_part 52 = .ok (.lstore 8, 2) := by decide +kernel
theorem dX3_part_54 : decode cX3_part 54 = .ok (.iconst 0, 1) := by decide +kernel
theorem dX3_part_55 : decode cX3_part 55 = .ok (.istore 10, 2) := by decide +kernel
theorem dX3_part_57 : decode cX3_part 57 = .ok (.iload 10, 2) := by decide +kernel
theorem dX3_part_59 : decode cX3_part 59 = .ok (.aload_n 1, 1) := by decide +kernel
theorem dX3_part_60 : decode cX3_part 60 = .ok (.getfield 25, 3) := by decide +kernel
theorem dX3_part_63 : decode cX3_part 63 = .ok (.if_icmp .ge 46, 3) := by decide +kernel
theorem dX3_part_66 : decode cX3_part 66 = .ok (.iload_n 3, 1) := by decide +kernel
theorem dX3_part_67 : decode cX3_part 67 = .ok (.iload 10, 2) := by decide +kernel
theorem dX3_part_69 : decode cX3_part 69 = .ok (.ishr, 1) := by decide +kernel
theorem dX3_part_70 : decode cX3_part 70 = .ok (.iconst 1, 1) := by decide +kernel
theorem dX3_part_71 : decode cX3_part 71 = .ok (.iand, 1) := by decide +kernel
theorem dX3_part_72 : decode cX3_part 72 = .ok (.iconst 1, 1) := by decide +kernel
theorem dX3_part_73 : decode cX3_part 73 = .ok (.if_icmp .ne 30, 3) := by decide +kernel
theorem dX3_part_76 : decode cX3_part 76 = .ok (.aload_n 0, 1) := by decide +kernel
theorem dX3_part_77 : decode cX3_part 77 = .ok (.getfield 11, 3) := by decide +kernel
theorem dX3_part_80 : decode cX3_part 80 = .ok (.iload_n 2, 1) := by decide +kernel
theorem dX3_part_81 : decode cX3_part 81 = .ok (.iload 10, 2) := by decide +kernel
theorem dX3_part_83 : decode cX3_part 83 = .ok (.iadd, 1) := by decide +kernel
theorem dX3_part_84 : decode cX3_part 84 = .ok (.dup2, 1) := by decide +kernel
theorem dX3_part_85 : decode cX3_part 85 = .ok (.laload, 1) := by decide +kernel
theorem dX3_part_86 : decode cX3_part 86 = .ok (.lload 8, 2) := by decide +kernel
theorem dX3_part_88 : decode cX3_part 88 = .ok (.aload_n 1, 1) := by decide +kernel
theorem dX3_part_89 : decode cX3_part 89 = .ok (.getfield 62, 3) := by decide +kernel
theorem dX3_part_92 : decode cX3_part 92 = .ok (.iload 10, 2) := by decide +kernel
theorem dX3_part_94 : decode cX3_part 94 = .ok (.iaload, 1) := by decide +kernel
theorem dX3_part_95 : decode cX3_part 95 = .ok (.i2l, 1) := by decide +kernel
theorem dX3_part_96 : decode cX3_part 96 = .ok (.lmul, 1) := by decide +kernel
theorem dX3_part_97 : decode cX3_part 97 = .ok (.iload 6, 2) := by decide +kernel
theorem dX3_part_99 : decode cX3_part 99 = .ok (.i2l, 1) := by decide +kernel
theorem dX3_part_100 : decode cX3_part 100 = .ok (.lmul, 1) := by decide +kernel
theorem dX3_part_101 : decode cX3_part 101 = .ok (.ladd, 1) := by decide +kernel
theorem dX3_part_102 : decode cX3_part 102 = .ok (.lastore, 1) := by decide +kernel
theorem dX3_part_103 : decode cX3_part 103 = .ok (.iinc 10 1, 3) := by decide +kernel
theorem dX3_part_106 : decode cX3_part 106 = .ok (.goto (-49), 3) := by decide +kernel
theorem dX3_part_109 : decode cX3_part 109 = .ok (.aload_n 0, 1) := by decide +kernel
theorem dX3_part_110 : decode cX3_part 110 = .ok (.getfield 11, 3) := by decide +kernel
theorem dX3_part_113 : decode cX3_part 113 = .ok (.iload_n 2, 1) := by decide +kernel
theorem dX3_part_114 : decode cX3_part 114 = .ok (.iconst 5, 1) := by decide +kernel
theorem dX3_part_115 : decode cX3_part 115 = .ok (.iadd, 1) := by decide +kernel
theorem dX3_part_116 : decode cX3_part 116 = .ok (.dup2, 1) := by decide +kernel
theorem dX3_part_117 : decode cX3_part 117 = .ok (.laload, 1) := by decide +kernel
theorem dX3_part_118 : decode cX3_part 118 = .ok (.lload 4, 2) := by decide +kernel
theorem dX3_part_120 : decode cX3_part 120 = .ok (.iload 6, 2) := by decide +kernel
theorem dX3_part_122 : decode cX3_part 122 = .ok (.i2l, 1) := by decide +kernel
theorem dX3_part_123 : decode cX3_part 123 = .ok (.lmul, 1) := by decide +kernel
theorem dX3_part_124 : decode cX3_part 124 = .ok (.ladd, 1) := by decide +kernel
theorem dX3_part_125 : decode cX3_part 125 = .ok (.lastore, 1) := by decide +kernel
theorem dX3_part_126 : decode cX3_part 126 = .ok (.aload_n 0, 1) := by decide +kernel
theorem dX3_part_127 : decode cX3_part 127 = .ok (.getfield 11, 3) := by decide +kernel
theorem dX3_part_130 : decode cX3_part 130 = .ok (.iload_n 2, 1) := by decide +kernel
theorem dX3_part_131 : decode cX3_part 131 = .ok (.bipush 6, 2) := by decide +kernel
theorem dX3_part_133 : decode cX3_part 133 = .ok (.iadd, 1) := by decide +kernel
theorem dX3_part_134 : decode cX3_part 134 = .ok (.dup2, 1) := by decide +kernel
theorem dX3_part_135 : decode cX3_part 135 = .ok (.laload, 1) := by decide +kernel
theorem dX3_part_136 : decode cX3_part 136 = .ok (.lload 4, 2) := by decide +kernel
theorem dX3_part_138 : decode cX3_part 138 = .ok (.ladd, 1) := by decide +kernel
theorem dX3_part_139 : decode cX3_part 139 = .ok (.lastore, 1) := by decide +kernel
theorem dX3_part_140 : decode cX3_part 140 = .ok (.return_, 1) := by decide +kernel
theorem dX4_init_0 : decode cX4_init 0 = .ok (.aload_n 0, 1) := by decide +kernel
theorem dX4_init_1 : decode cX4_init 1 = .ok (.invokespecial 3, 3) := by decide +kernel
theorem dX4_init_4 : decode cX4_init 4 = .ok (.aload_n 0, 1) := by decide +kernel
theorem dX4_init_5 : decode cX4_init 5 = .ok (.new 9, 3) := by decide +kernel
theorem dX4_init_8 : decode cX4_init 8 = .ok (.dup, 1) := by decide +kernel
theorem dX4_init_9 : decode cX4_init 9 = .ok (.invokespecial 11, 3) := by decide +kernel
theorem dX4_init_12 : decode cX4_init 12 = .ok (.putfield 12, 3) := by decide +kernel
theorem dX4_init_15 : decode cX4_init 15 = .ok (.aload_n 0, 1) := by decide +kernel
theorem dX4_init_16 : decode cX4_init 16 = .ok (.new 16, 3) := by decide +kernel
theorem dX4_init_19 : decode cX4_init 19 = .ok (.dup, 1) := by decide +kernel
theorem dX4_init_20 : decode cX4_init 20 = .ok (.invokespecial 18, 3) := by decide +kernel
theorem dX4_init_23 : decode cX4_init 23 = .ok (.putfield 19, 3) := by decide +kernel
theorem dX4_init_26 : decode cX4_init 26 = .ok (.aload_n 0, 1) := by decide +kernel
theorem dX4_init_27 : decode cX4_init 27 = .ok (.new 23, 3) := by decide +kernel
theorem dX4_init_30 : decode cX4_init 30 = .ok (.dup, 1) := by decide +kernel
theorem dX4_init_31 : decode cX4_init 31 = .ok (.aload_n 0, 1) := by decide +kernel
theorem dX4_init_32 : decode cX4_init 32 = .ok (.getfield 12, 3) := by decide +kernel
theorem dX4_init_35 : decode cX4_init 35 = .ok (.aload_n 0, 1) := by decide +kernel
theorem dX4_init_36 : decode cX4_init 36 = .ok (.getfield 19, 3) := by decide +kernel
theorem dX4_init_39 : decode cX4_init 39 = .ok (.invokespecial 25, 3) := by decide +kernel
theorem dX4_init_42 : decode cX4_init 42 = .ok (.putfield 28, 3) := by decide +kernel
theorem dX4_init_45 : decode cX4_init 45 = .ok (.aload_n 0, 1) := by decide +kernel
theorem dX4_init_46 : decode cX4_init 46 = .ok (.new 32, 3) := by decide +kernel
theorem dX4_init_49 : decode cX4_init 49 = .ok (.dup, 1) := by decide +kernel
theorem dX4_init_50 : decode cX4_init 50 = .ok (.invokespecial 34, 3) := by decide +kernel
theorem dX4_init_53 : decode cX4_init 53 = .ok (.putfield 35, 3) := by decide +kernel
theorem dX4_init_56 : decode cX4_init 56 = .ok (.aload_n 0, 1) := by decide +kernel
theorem dX4_init_57 : decode cX4_init 57 = .ok (.bipush 8, 2) := by decide +kernel
theorem dX4_init_59 : decode cX4_init 59 = .ok (.newarray .int, 2) := by decide +kernel
theorem dX4_init_61 : decode cX4_init 61 = .ok (.dup, 1) := by decide +kernel
theorem dX4_init_62 : decode cX4_init 62 = .ok (.iconst 0, 1) := by decide +kernel
theorem dX4_init_63 : decode cX4_init 63 = .ok (.iconst 0, 1) := by decide +kernel
theorem dX4_init_64 : decode cX4_init 64 = .ok (.iastore, 1) := by decide +kernel
theorem dX4_init_65 : decode cX4_init 65 = .ok (.dup, 1) := by decide +kernel
theorem dX4_init_66 : decode cX4_init 66 = .ok (.iconst 1, 1) := by decide +kernel
theorem dX4_init_67 : decode cX4_init 67 = .ok (.iconst 3, 1) := by decide +kernel
theorem dX4_init_68 : decode cX4_init 68 = .ok (.iastore, 1) := by decide +kernel
theorem dX4_init_69 : decode cX4_init 69 = .ok (.dup, 1) := by decide +kernel
theorem dX4_init_70 : decode cX4_init 70 = .ok (.iconst 2, 1) := by decide +kernel
theorem dX4_init_71 : decode cX4_init 71 = .ok (.iconst 0, 1) := by decide +kernel
theorem dX4_init_72 : decode cX4_init 72 = .ok (.iastore, 1) := by decide +kernel
theorem dX4_init_73 : decode cX4_init 73 = .ok (.dup, 1) := by decide +kernel
theorem dX4_init_74 : decode cX4_init 74 = .ok (.iconst 3, 1) := by decide +kernel
theorem dX4_init_75 : decode cX4_init 75 = .ok (.iconst 0, 1) := by decide +kernel
theorem dX4_init_76 : decode cX4_init 76 = .ok (.iastore, 1) := by decide +kernel
theorem dX4_init_77 : decode cX4_init 77 = .ok (.dup, 1) := by decide +kernel
theorem dX4_init_78 : decode cX4_init 78 = .ok (.iconst 4, 1) := by decide +kernel
theorem dX4_init_79 : decode cX4_init 79 = .ok (.bipush 16, 2) := by decide +kernel
theorem dX4_init_81 : decode cX4_init 81 = .ok (.iastore, 1) := by decide +kernel
theorem dX4_init_82 : decode cX4_init 82 = .ok (.dup, 1) := by decide +kernel
theorem dX4_init_83 : decode cX4_init 83 = .ok (.iconst 5, 1) := by decide +kernel
theorem dX4_init_84 : decode cX4_init 84 = .ok (.iconst 0, 1) := by decide +kernel
theorem dX4_init_85 : decode cX4_init 85 = .ok (.iastore, 1) := by decide +kernel
theorem dX4_init_86 : decode cX4_init 86 = .ok (.dup, 1) := by decide +kernel
theorem dX4_init_87 : decode cX4_init 87 = .ok (.bipush 6, 2) := by decide +kernel
theorem dX4_init_89 : decode cX4_init 89 = .ok (.iconst 0, 1) := by decide +kernel
theorem dX4_init_90 : decode cX4_init 90 = .ok (.iastore, 1) := by decide +kernel
theorem dX4_init_91 : decode cX4_init 91 = .ok (.dup, 1) := by decide +kernel
theorem dX4_init_92 : decode cX4_init 92 = .ok (.bipush 7, 2) := by decide +kernel
theorem dX4_init_94 : decode cX4_init 94 = .ok (.iconst 0, 1) := by decide +kernel
theorem dX4_init_95 : decode cX4_init 95 = .ok (.iastore, 1) := by decide +kernel
theorem dX4_init_96 : decode cX4_init 96 = .ok (.putfield 39, 3) := by decide +kernel
theorem dX4_init_99 : decode cX4_init 99 = .ok (.aload_n 0, 1) := by decide +kernel
theorem dX4_init_100 : decode cX4_init 100 = .ok (.iconst 5, 1) := by decide +kernel
theorem dX4_init_101 : decode cX4_init 101 = .ok (.newarray .int, 2) := by decide +kernel
theorem dX4_init_103 : decode cX4_init 103 = .ok (.putfield 43, 3) := by decide +kernel
theorem dX4_init_106 : decode cX4_init 106 = .ok (.aload_n 0, 1) := by decide +kernel
theorem dX4_init_107 : decode cX4_init 107 = .ok (.bipush 6, 2) := by decide +kernel
theorem dX4_init_109 : decode cX4_init 109 = .ok (.newarray .int, 2) := by decide +kernel
theorem dX4_init_111 : decode cX4_init 111 = .ok (.putfield 46, 3) := by decide +kernel
theorem dX4_init_114 : decode cX4_init 114 = .ok (.return_, 1) := by decide +kernel
theorem dX4_type_0 : decode cX4_type 0 = .ok (.iload_n 1, 1) := by decide +kernel
theorem dX4_type_1 : decode cX4_type 1 = .ok (.ifCond .lt 10, 3) := by decide +kernel
theorem dX4_type_4 : decode cX4_type 4 = .ok (.iload_n 1, 1) := by decide +kernel
theorem dX4_type_5 : decode cX4_type 5 = .ok (.sipush 255, 3) := by decide +kernel
theorem dX4_type_8 : decode cX4_type 8 = .ok (.if_icmp .le 6, 3) := by decide +kernel
theorem dX4_type_11 : decode cX4_type 11 = .ok (.bipush (-2), 2) := by decide +kernel
theorem dX4_type_13 : decode cX4_type 13 = .ok (.ireturn, 1) := by decide +kernel
theorem dX4_type_14 : decode cX4_type 14 = .ok (.aload_n 0, 1) := by decide +kernel
theorem dX4_type_15 : decode cX4_type 15 = .ok (.getfield 12, 3) := by decide +kernel
theorem dX4_type_18 : decode cX4_type 18 = .ok (.getfield 49, 3) := by decide +kernel
theorem dX4_type_21 : decode cX4_type 21 = .ok (.sipush 150, 3) := by decide +kernel
theorem dX4_type_24 : decode cX4_type 24 = .ok (.if_icmp .lt 6, 3) := by decide +kernel
theorem dX4_type_27 : decode cX4_type 27 = .ok (.bipush (-4), 2) := by decide +kernel
theorem dX4_type_29 : decode cX4_type 29 = .ok (.ireturn, 1) := by decide +kernel
theorem dX4_type_30 : decode cX4_type 30 = .ok (.aload_n 0, 1) := by decide +kernel
theorem dX4_type_31 : decode cX4_type 31 = .ok (.getfield 12, 3) := by decide +kernel
theorem dX4_type_34 : decode cX4_type 34 = .ok (.iload_n 1, 1) := by decide +kernel
theorem dX4_type_35 : decode cX4_type 35 = .ok (.invokevirtual 53, 3) := by decide +kernel
theorem dX4_type_38 : decode cX4_type 38 = .ok (.aload_n 0, 1) := by decide +kernel
theorem dX4_type_39 : decode cX4_type 39 = .ok (.getfield 19, 3) := by decide +kernel
theorem dX4_type_42 : decode cX4_type 42 = .ok (.iconst 1, 1) := by decide +kernel
theorem dX4_type_43 : decode cX4_type 43 = .ok (.putfield 57, 3) := by decide +kernel
theorem dX4_type_46 : decode cX4_type 46 = .ok (.aload_n 0, 1) := by decide +kernel
theorem dX4_type_47 : decode cX4_type 47 = .ok (.getfield 12, 3) := by decide +kernel
theorem dX4_type_50 : decode cX4_type 50 = .ok (.getfield 49, 3) := by decide +kernel
theorem dX4_type_53 : decode cX4_type 53 = .ok (.ireturn, 1) := by decide +kernel
theorem dX4_wipe_0 : decode cX4_wipe 0 = .ok (.aload_n 0, 1) := by decide +kernel
theorem dX4_wipe_1 : decode cX4_wipe 1 = .ok (.getfield 12, 3) := by decide +kernel
theorem dX4_wipe_4 : decode cX4_wipe 4 = .ok (.getfield 49, 3) := by decide +kernel
theorem dX4_wipe_7 : decode cX4_wipe 7 = .ok (.istore_n 1, 1) := by decide +kernel
theorem dX4_wipe_8 : decode cX4_wipe 8 = .ok (.aload_n 0, 1) := by decide +kernel
theorem dX4_wipe_9 : decode cX4_wipe 9 = .ok (.getfield 12, 3) := by decide +kernel
theorem dX4_wipe_12 : decode cX4_wipe 12 = .ok (.invokevirtual 61, 3) := by decide +kernel
theorem dX4_wipe_15 : decode cX4_wipe 15 = .ok (.aload_n 0, 1) := by decide +kernel
theorem dX4_wipe_16 : decode cX4_wipe 16 = .ok (.getfield 19, 3) := by decide +kernel
theorem dX4_wipe_19 : decode cX4_wipe 19 = .ok (.iconst 1, 1) := by decide +kernel
theorem dX4_wipe_20 : decode cX4_wipe 20 = .ok (.putfield 57, 3) := by decide +kernel
theorem dX4_wipe_23 : decode cX4_wipe 23 = .ok (.iload_n 1, 1) := by decide +kernel
theorem dX4_wipe_24 : decode cX4_wipe 24 = .ok (.ireturn, 1) := by decide +kernel
theorem dX4_fault_0 : decode cX4_fault 0 = .ok (.aload_n 0, 1) := by decide +kernel
theorem dX4_fault_1 : decode cX4_fault 1 = .ok (.getfield 12, 3) := by decide +kernel
theorem dX4_fault_4 : decode cX4_fault 4 = .ok (.getfield 64, 3) := by decide +kernel
theorem dX4_fault_7 : decode cX4_fault 7 = .ok (.ireturn, 1) := by decide +kernel
theorem dX4_shop_0 : decode cX4_shop 0 = .ok (.aload_n 0, 1) := by decide +kernel
theorem dX4_shop_1 : decode cX4_shop 1 = .ok (.iload_n 1, 1) := by decide +kernel
theorem dX4_shop_2 : decode cX4_shop 2 = .ok (.invokevirtual 67, 3) := by decide +kernel
theorem dX4_shop_5 : decode cX4_shop 5 = .ok (.ifCond .ne 12, 3) := by decide +kernel
theorem dX4_shop_8 : decode cX4_shop 8 = .ok (.iload_n 2, 1) := by decide +kernel
theorem dX4_shop_9 : decode cX4_shop 9 = .ok (.ifCond .lt 8, 3) := by decide +kernel
theorem dX4_shop_12 : decode cX4_shop 12 = .ok (.iload_n 2, 1) := by decide +kernel
theorem dX4_shop_13 : decode cX4_shop 13 = .ok (.iconst 2, 1) := by decide +kernel
theorem dX4_shop_14 : decode cX4_shop 14 = .ok (.if_icmp .le 6, 3) := by decide +kernel
theorem dX4_shop_17 : decode cX4_shop 17 = .ok (.bipush (-2), 2) := by decide +kernel
theorem dX4_shop_19 : decode cX4_shop 19 = .ok (.ireturn, 1) := by decide +kernel
theorem dX4_shop_20 : decode cX4_shop 20 = .ok (.iload_n 2, 1) := by decide +kernel
theorem dX4_shop_21 : decode cX4_shop 21 = .ok (.ifCond .ne 13, 3) := by decide +kernel
theorem dX4_shop_24 : decode cX4_shop 24 = .ok (.aload_n 0, 1) := by decide +kernel
theorem dX4_shop_25 : decode cX4_shop 25 = .ok (.getfield 12, 3) := by decide +kernel
theorem dX4_shop_28 : decode cX4_shop 28 = .ok (.getfield 71, 3) := by decide +kernel
theorem dX4_shop_31 : decode cX4_shop 31 = .ok (.iload_n 1, 1) := by decide +kernel
theorem dX4_shop_32 : decode cX4_shop 32 = .ok (.iaload, 1) := by decide +kernel
theorem dX4_shop_33 : decode cX4_shop 33 = .ok (.ireturn, 1) := by decide +kernel
theorem dX4_shop_34 : decode cX4_shop 34 = .ok (.iload_n 2, 1) := by decide +kernel
theorem dX4_shop_35 : decode cX4_shop 35 = .ok (.iconst 1, 1) := by decide +kernel
theorem dX4_shop_36 : decode cX4_shop 36 = .ok (.if_icmp .ne 13, 3) := by decide +kernel
theorem dX4_shop_39 : decode cX4_shop 39 = .ok (.aload_n 0, 1) := by decide +kernel
theorem dX4_shop_40 : decode cX4_shop 40 = .ok (.getfield 12, 3) := by decide +kernel
theorem dX4_shop_43 : decode cX4_shop 43 = .ok (.getfield 74, 3) := by decide +kernel
theorem dX4_shop_46 : decode cX4_shop 46 = .ok (.iload_n 1, 1) := by decide +kernel
theorem dX4_shop_47 : decode cX4_shop 47 = .ok (.iaload, 1) := by decide +kernel
theorem dX4_shop_48 : decode cX4_shop 48 = .ok (.ireturn, 1) := by decide +kernel
theorem dX4_shop_49 : decode cX4_shop 49 = .ok (.aload_n 0, 1) := by decide +kernel
theorem dX4_shop_50 : decode cX4_shop 50 = .ok (.getfield 12, 3) := by decide +kernel
theorem dX4_shop_53 : decode cX4_shop 53 = .ok (.getfield 71, 3) := by decide +kernel
theorem dX4_shop_56 : decode cX4_shop 56 = .ok (.iload_n 1, 1) := by decide +kernel
theorem dX4_shop_57 : decode cX4_shop 57 = .ok (.iaload, 1) := by decide +kernel
theorem dX4_shop_58 : decode cX4_shop 58 = .ok (.aload_n 0, 1) := by decide +kernel
theorem dX4_shop_59 : decode cX4_shop 59 = .ok (.getfield 39, 3) := by decide +kernel
theorem dX4_shop_62 : decode cX4_shop 62 = .ok (.iconst 2, 1) := by decide +kernel
theorem dX4_shop_63 : decode cX4_shop 63 = .ok (.iaload, 1) := by decide +kernel
theorem dX4_shop_64 : decode cX4_shop 64 = .ok (.if_icmp .le 7, 3) := by decide +kernel
theorem dX4_shop_67 : decode cX4_shop 67 = .ok (.iconst 1, 1) := by decide +kernel
theorem dX4_shop_68 : decode cX4_shop 68 = .ok (.goto 4, 3) := by decide +kernel
theorem dX4_shop_71 : decode cX4_shop 71 = .ok (.iconst 0, 1) := by decide +kernel
theorem dX4_shop_72 : decode cX4_shop 72 = .ok (.ireturn, 1) := by decide +kernel
theorem dX4_sort_0 : decode cX4_sort 0 = .ok (.iload_n 1, 1) := by decide +kernel
theorem dX4_sort_1 : decode cX4_sort 1 = .ok (.ifCond .lt 23, 3) := by decide +kernel
theorem dX4_sort_4 : decode cX4_sort 4 = .ok (.iload_n 1, 1) := by decide +kernel
theorem dX4_sort_5 : decode cX4_sort 5 = .ok (.aload_n 0, 1) := by decide +kernel
theorem dX4_sort_6 : decode cX4_sort 6 = .ok (.getfield 12, 3) := by decide +kernel
theorem dX4_sort_9 : decode cX4_sort 9 = .ok (.getfield 77, 3) := by decide +kernel
theorem dX4_sort_12 : decode cX4_sort 12 = .ok (.if_icmp .ge 12, 3) := by decide +kernel
theorem dX4_sort_15 : decode cX4_sort 15 = .ok (.iload_n 2, 1) := by decide +kernel
theorem dX4_sort_16 : decode cX4_sort 16 = .ok (.ifCond .lt 8, 3) := by decide +kernel
theorem dX4_sort_19 : decode cX4_sort 19 = .ok (.iload_n 2, 1) := by decide +kernel
theorem dX4_sort_20 : decode cX4_sort 20 = .ok (.iconst 5, 1) := by decide +kernel
theorem dX4_sort_21 : decode cX4_sort 21 = .ok (.if_icmp .le 6, 3) := by decide +kernel
theorem dX4_sort_24 : decode cX4_sort 24 = .ok (.bipush (-2), 2) := by decide +kernel
theorem dX4_sort_26 : decode cX4_sort 26 = .ok (.ireturn, 1) := by decide +kernel
theorem dX4_sort_27 : decode cX4_sort 27 = .ok (.aload_n 0, 1) := by decide +kernel
theorem dX4_sort_28 : decode cX4_sort 28 = .ok (.getfield 12, 3) := by decide +kernel
theorem dX4_sort_31 : decode cX4_sort 31 = .ok (.getfield 80, 3) := by decide +kernel
theorem dX4_sort_34 : decode cX4_sort 34 = .ok (.iload_n 1, 1) := by decide +kernel
theorem dX4_sort_35 : decode cX4_sort 35 = .ok (.aaload, 1) := by decide +kernel
theorem dX4_sort_36 : decode cX4_sort 36 = .ok (.iload_n 2, 1) := by decide +kernel
theorem dX4_sort_37 : decode cX4_sort 37 = .ok (.iaload, 1) := by decide +kernel
theorem dX4_sort_38 : decode cX4_sort 38 = .ok (.ireturn, 1) := by decide +kernel
theorem dX4_set_0 : decode cX4_set 0 = .ok (.iload_n 1, 1) := by decide +kernel
theorem dX4_set_1 : decode cX4_set 1 = .ok (.ifCond .lt 22, 3) := by decide +kernel
theorem dX4_set_4 : decode cX4_set 4 = .ok (.iload_n 1, 1) := by decide +kernel
theorem dX4_set_5 : decode cX4_set 5 = .ok (.bipush 8, 2) := by decide +kernel
theorem dX4_set_7 : decode cX4_set 7 = .ok (.if_icmp .ge 16, 3) := by decide +kernel
theorem dX4_set_10 : decode cX4_set 10 = .ok (.iload_n 2, 1) := by decide +kernel
theorem dX4_set_11 : decode cX4_set 11 = .ok (.ifCond .lt 12, 3) := by decide +kernel
theorem dX4_set_14 : decode cX4_set 14 = .ok (.iload_n 2, 1) := by decide +kernel
theorem dX4_set_15 : decode cX4_set 15 = .ok (.getstatic 84, 3) := by decide +kernel
theorem dX4_set_18 : decode cX4_set 18 = .ok (.iload_n 1, 1) := by decide +kernel
theorem dX4_set_19 : decode cX4_set 19 = .ok (.iaload, 1) := by decide +kernel
theorem dX4_set_20 : decode cX4_set 20 = .ok (.if_icmp .le 6, 3) := by decide +kernel
theorem dX4_set_23 : decode cX4_set 23 = .ok (.bipush (-2), 2) := by decide +kernel
theorem dX4_set_25 : decode cX4_set 25 = .ok (.ireturn, 1) := by decide +kernel
theorem dX4_set_26 : decode cX4_set 26 = .ok (.aload_n 0, 1) := by decide +kernel
theorem dX4_set_27 : decode cX4_set 27 = .ok (.getfield 39, 3) := by decide +kernel
theorem dX4_set_30 : decode cX4_set 30 = .ok (.iload_n 1, 1) := by decide +kernel
theorem dX4_set_31 : decode cX4_set 31 = .ok (.iaload, 1) := by decide +kernel
theorem dX4_set_32 : decode cX4_set 32 = .ok (.istore_n 3, 1) := by decide +kernel
theorem dX4_set_33 : decode cX4_set 33 = .ok (.aload_n 0, 1) := by decide +kernel
theorem dX4_set_34 : decode cX4_set 34 = .ok (.getfield 39, 3) := by decide +kernel
theorem dX4_set_37 : decode cX4_set 37 = .ok (.iload_n 1, 1) := by decide +kernel
theorem dX4_set_38 : decode cX4_set 38 = .ok (.iload_n 2, 1) := by decide +kernel
theorem dX4_set_39 : decode cX4_set 39 = .ok (.iastore, 1) := by decide +kernel
theorem dX4_set_40 : decode cX4_set 40 = .ok (.iload_n 1, 1) := by decide +kernel
theorem dX4_set_41 : decode cX4_set 41 = .ok (.ifCond .ne 11, 3) := by decide +kernel
theorem dX4_set_44 : decode cX4_set 44 = .ok (.aload_n 0, 1) := by decide +kernel
theorem dX4_set_45 : decode cX4_set 45 = .ok (.getfield 19, 3) := by decide +kernel
theorem dX4_set_48 : decode cX4_set 48 = .ok (.iconst 1, 1) := by decide +kernel
theorem dX4_set_49 : decode cX4_set 49 = .ok (.putfield 57, 3) := by decide +kernel
theorem dX4_set_52 : decode cX4_set 52 = .ok (.iload_n 3, 1) := by decide +kernel
theorem dX4_set_53 : decode cX4_set 53 = .ok (.ireturn, 1) := by decide +kernel
theorem dX4_hours_0 : decode cX4_hours 0 = .ok (.iload_n 1, 1) := by decide +kernel
theorem dX4_hours_1 : decode cX4_hours 1 = .ok (.ifCond .lt 17, 3) := by decide +kernel
theorem dX4_hours_4 : decode cX4_hours 4 = .ok (.iload_n 1, 1) := by decide +kernel
theorem dX4_hours_5 : decode cX4_hours 5 = .ok (.iconst 5, 1) := by decide +kernel
theorem dX4_hours_6 : decode cX4_hours 6 = .ok (.if_icmp .ge 12, 3) := by decide +kernel
theorem dX4_hours_9 : decode cX4_hours 9 = .ok (.iload_n 2, 1) := by decide +kernel
theorem dX4_hours_10 : decode cX4_hours 10 = .ok (.ifCond .lt 8, 3) := by decide +kernel
theorem dX4_hours_13 : decode cX4_hours 13 = .ok (.iload_n 2, 1) := by decide +kernel
theorem dX4_hours_14 : decode cX4_hours 14 = .ok (.iconst 3, 1) := by decide +kernel
theorem dX4_hours_15 : decode cX4_hours 15 = .ok (.if_icmp .le 6, 3) := by decide +kernel
theorem dX4_hours_18 : decode cX4_hours 18 = .ok (.bipush (-2), 2) := by decide +kernel
theorem dX4_hours_20 : decode cX4_hours 20 = .ok (.ireturn, 1) := by decide +kernel
theorem dX4_hours_21 : decode cX4_hours 21 = .ok (.aload_n 0, 1) := by decide +kernel
theorem dX4_hours_22 : decode cX4_hours 22 = .ok (.getfield 43, 3) := by decide +kernel
theorem dX4_hours_25 : decode cX4_hours 25 = .ok (.iload_n 1, 1) := by decide +kernel
theorem dX4_hours_26 : decode cX4_hours 26 = .ok (.iaload, 1) := by decide +kernel
theorem dX4_hours_27 : decode cX4_hours 27 = .ok (.istore_n 3, 1) := by decide +kernel
theorem dX4_hours_28 : decode cX4_hours 28 = .ok (.aload_n 0, 1) := by decide +kernel
theorem dX4_hours_29 : decode cX4_hours 29 = .ok (.getfield 43, 3) := by decide +kernel
theorem dX4_hours_32 : decode cX4_hours 32 = .ok (.iload_n 1, 1) := by decide +kernel
theorem dX4_hours_33 : decode cX4_hours 33 = .ok (.iload_n 2, 1) := by decide +kernel
theorem dX4_hours_34 : decode cX4_hours 34 = .ok (.iastore, 1) := by decide +kernel
theorem dX4_hours_35 : decode cX4_hours 35 = .ok (.iload_n 3, 1) := by decide +kernel
theorem dX4_hours_36 : decode cX4_hours 36 = .ok (.ireturn, 1) := by decide +kernel
theorem dX4_read_0 : decode cX4_read 0 = .ok (.aload_n 0, 1) := by decide +kernel
theorem dX4_read_1 : decode cX4_read 1 = .ok (.getfield 35, 3) := by decide +kernel
theorem dX4_read_4 : decode cX4_read 4 = .ok (.iload_n 1, 1) := by decide +kernel
theorem dX4_read_5 : decode cX4_read 5 = .ok (.invokevirtual 87, 3) := by decide +kernel
theorem dX4_read_8 : decode cX4_read 8 = .ok (.istore_n 2, 1) := by decide +kernel
theorem dX4_read_9 : decode cX4_read 9 = .ok (.iload_n 2, 1) := by decide +kernel
theorem dX4_read_10 : decode cX4_read 10 = .ok (.ifCond .eq 5, 3) := by decide +kernel
theorem dX4_read_13 : decode cX4_read 13 = .ok (.iload_n 2, 1) := by decide +kernel
theorem dX4_read_14 : decode cX4_read 14 = .ok (.ireturn, 1) := by decide +kernel
theorem dX4_read_15 : decode cX4_read 15 = .ok (.iconst 5, 1) := by decide +kernel
theorem dX4_read_16 : decode cX4_read 16 = .ok (.aload_n 0, 1) := by decide +kernel
theorem dX4_read_17 : decode cX4_read 17 = .ok (.getfield 35, 3) := by decide +kernel
theorem dX4_read_20 : decode cX4_read 20 = .ok (.getfield 91, 3) := by decide +kernel
theorem dX4_read_23 : decode cX4_read 23 = .ok (.iload_n 1, 1) := by decide +kernel
theorem dX4_read_24 : decode cX4_read 24 = .ok (.iaload, 1) := by decide +kernel
theorem dX4_read_25 : decode cX4_read 25 = .ok (.invokestatic 92, 3) := by decide +kernel
theorem dX4_read_28 : decode cX4_read 28 = .ok (.istore_n 3, 1) := by decide +kernel
theorem dX4_read_29 : decode cX4_read 29 = .ok (.iconst 0, 1) := by decide +kernel
theorem dX4_read_30 : decode cX4_read 30 = .ok (.istore 4, 2) := by decide +kernel
theorem dX4_read_32 : decode cX4_read 32 = .ok (.iload 4, 2) := by decide +kernel
theorem dX4_read_34 : decode cX4_read 34 = .ok (.iload_n 3, 1) := by decide +kernel
theorem dX4_read_35 : decode cX4_read 35 = .ok (.if_icmp .ge 46, 3) := by decide +kernel
theorem dX4_read_38 : decode cX4_read 38 = .ok (.aload_n 0, 1) := by decide +kernel
theorem dX4_read_39 : decode cX4_read 39 = .ok (.getfield 35, 3) := by decide +kernel
theorem dX4_read_42 : decode cX4_read 42 = .ok (.getfield 98, 3) := by decide +kernel
theorem dX4_read_45 : decode cX4_read 45 = .ok (.iload_n 1, 1) := by decide +kernel
theorem dX4_read_46 : decode cX4_read 46 = .ok (.aaload, 1) := by decide +kernel
theorem dX4_read_47 : decode cX4_read 47 = .ok (.iload 4, 2) := by decide +kernel
theorem dX4_read_49 : decode cX4_read 49 = .ok (.iaload, 1) := by decide +kernel
theorem dX4_read_50 : decode cX4_read 50 = .ok (.istore 5, 2) := by decide +kernel
theorem dX4_read_52 : decode cX4_read 52 = .ok (.iload 5, 2) := by decide +kernel
theorem dX4_read_54 : decode cX4_read 54 = .ok (.ifCond .lt 9, 3) := by decide +kernel
theorem dX4_read_57 : decode cX4_read 57 = .ok (.iload 5, 2) := by decide +kernel
theorem dX4_read_59 : decode cX4_read 59 = .ok (.iconst 3, 1) := by decide +kernel
theorem dX4_read_60 : decode cX4_read 60 = .ok (.if_icmp .le 6, 3) := by decide +kernel
theorem dX4_read_63 : decode cX4_read 63 = .ok (.iload 4, 2) := by decide +kernel
theorem dX4_read_65 : decode cX4_read 65 = .ok (.ireturn, 1) := by decide +kernel
theorem dX4_read_66 : decode cX4_read 66 = .ok (.aload_n 0, 1) := by decide +kernel
theorem dX4_read_67 : decode cX4_read 67 = .ok (.getfield 43, 3) := by decide +kernel
theorem dX4_read_70 : decode cX4_read 70 = .ok (.iload 4, 2) := by decide +kernel
theorem dX4_read_72 : decode cX4_read 72 = .ok (.iload 5, 2) := by decide +kernel
theorem dX4_read_74 : decode cX4_read 74 = .ok (.iastore, 1) := by decide +kernel
theorem dX4_read_75 : decode cX4_read 75 = .ok (.iinc 4 1, 3) := by decide +kernel
theorem dX4_read_78 : decode cX4_read 78 = .ok (.goto (-46), 3) := by decide +kernel
theorem dX4_read_81 : decode cX4_read 81 = .ok (.iload_n 3, 1) := by decide +kernel
theorem dX4_read_82 : decode cX4_read 82 = .ok (.ireturn, 1) := by decide +kernel
theorem dX4_open_0 : decode cX4_open 0 = .ok (.iload_n 1, 1) := by decide +kernel
theorem dX4_open_1 : decode cX4_open 1 = .ok (.iconst 1, 1) := by decide +kernel
theorem dX4_open_2 : decode cX4_open 2 = .ok (.if_icmp .lt 8, 3) := by decide +kernel
theorem dX4_open_5 : decode cX4_open 5 = .ok (.iload_n 1, 1) := by decide +kernel
theorem dX4_open_6 : decode cX4_open 6 = .ok (.iconst 3, 1) := by decide +kernel
theorem dX4_open_7 : decode cX4_open 7 = .ok (.if_icmp .le 6, 3) := by decide +kernel
theorem dX4_open_10 : decode cX4_open 10 = .ok (.bipush (-2), 2) := by decide +kernel
theorem dX4_open_12 : decode cX4_open 12 = .ok (.ireturn, 1) := by decide +kernel
theorem dX4_open_13 : decode cX4_open 13 = .ok (.aload_n 0, 1) := by decide +kernel
theorem dX4_open_14 : decode cX4_open 14 = .ok (.invokevirtual 101, 3) := by decide +kernel
theorem dX4_open_17 : decode cX4_open 17 = .ok (.getfield 105, 3) := by decide +kernel
theorem dX4_open_20 : decode cX4_open 20 = .ok (.iload_n 1, 1) := by decide +kernel
theorem dX4_open_21 : decode cX4_open 21 = .ok (.iaload, 1) := by decide +kernel
theorem dX4_open_22 : decode cX4_open 22 = .ok (.ireturn, 1) := by decide +kernel
theorem dX4_earns_0 : decode cX4_earns 0 = .ok (.aload_n 0, 1) := by decide +kernel
theorem dX4_earns_1 : decode cX4_earns 1 = .ok (.iload_n 1, 1) := by decide +kernel
theorem dX4_earns_2 : decode cX4_earns 2 = .ok (.invokevirtual 67, 3) := by decide +kernel
theorem dX4_earns_5 : decode cX4_earns 5 = .ok (.ifCond .ne 10, 3) := by decide +kernel
theorem dX4_earns_8 : decode cX4_earns 8 = .ok (.iload_n 2, 1) := by decide +kernel
theorem dX4_earns_9 : decode cX4_earns 9 = .ok (.invokestatic 108, 3) := by decide +kernel
theorem dX4_earns_12 : decode cX4_earns 12 = .ok (.ifCond .eq 9, 3) := by decide +kernel
theorem dX4_earns_15 : decode cX4_earns 15 = .ok (.bipush (-2), 2) := by decide +kernel
theorem dX4_earns_17 : decode cX4_earns 17 = .ok (.invokestatic 111, 3) := by decide +kernel
theorem dX4_earns_20 : decode cX4_earns 20 = .ok (.lreturn, 1) := by decide +kernel
theorem dX4_earns_21 : decode cX4_earns 21 = .ok (.aload_n 0, 1) := by decide +kernel
theorem dX4_earns_22 : decode cX4_earns 22 = .ok (.invokevirtual 101, 3) := by decide +kernel
theorem dX4_earns_25 : decode cX4_earns 25 = .ok (.iload_n 1, 1) := by decide +kernel
theorem dX4_earns_26 : decode cX4_earns 26 = .ok (.invokevirtual 115, 3) := by decide +kernel
theorem dX4_earns_29 : decode cX4_earns 29 = .ok (.iload_n 2, 1) := by decide +kernel
theorem dX4_earns_30 : decode cX4_earns 30 = .ok (.invokestatic 118, 3) := by decide +kernel
theorem dX4_earns_33 : decode cX4_earns 33 = .ok (.lreturn, 1) := by decide +kernel
theorem dX4_all_0 : decode cX4_all 0 = .ok (.iload_n 1, 1) := by decide +kernel
theorem dX4_all_1 : decode cX4_all 1 = .ok (.ifCond .lt 15, 3) := by decide +kernel
theorem dX4_all_4 : decode cX4_all 4 = .ok (.iload_n 1, 1) := by decide +kernel
theorem dX4_all_5 : decode cX4_all 5 = .ok (.iconst 1, 1) := by decide +kernel
theorem dX4_all_6 : decode cX4_all 6 = .ok (.if_icmp .gt 10, 3) := by decide +kernel
theorem dX4_all_9 : decode cX4_all 9 = .ok (.iload_n 2, 1) := by decide +kernel
theorem dX4_all_10 : decode cX4_all 10 = .ok (.invokestatic 108, 3) := by decide +kernel
theorem dX4_all_13 : decode cX4_all 13 = .ok (.ifCond .eq 9, 3) := by decide +kernel
theorem dX4_all_16 : decode cX4_all 16 = .ok (.bipush (-2), 2) := by decide +kernel
theorem dX4_all_18 : decode cX4_all 18 = .ok (.invokestatic 111, 3) := by decide +kernel
theorem dX4_all_21 : decode cX4_all 21 = .ok (.lreturn, 1) := by decide +kernel
theorem dX4_all_22 : decode cX4_all 22 = .ok (.aload_n 0, 1) := by decide +kernel
theorem dX4_all_23 : decode cX4_all 23 = .ok (.invokevirtual 101, 3) := by decide +kernel
theorem dX4_all_26 : decode cX4_all 26 = .ok (.iload_n 1, 1) := by decide +kernel
theorem dX4_all_27 : decode cX4_all 27 = .ok (.invokevirtual 122, 3) := by decide +kernel
theorem dX4_all_30 : decode cX4_all 30 = .ok (.iload_n 2, 1) := by decide +kernel
theorem dX4_all_31 : decode cX4_all 31 = .ok (.invokestatic 118, 3) := by decide +kernel
theorem dX4_all_34 : decode cX4_all 34 = .ok (.lreturn, 1) := by decide +kernel
theorem dX4_answer_0 : decode cX4_answer 0 = .ok (.aload_n 0, 1) := by decide +kernel
theorem dX4_answer_1 : decode cX4_answer 1 = .ok (.iload_n 1, 1) := by decide +kernel
theorem dX4_answer_2 : decode cX4_answer 2 = .ok (.invokevirtual 67, 3) := by decide +kernel
theorem dX4_answer_5 : decode cX4_answer 5 = .ok (.ifCond .eq 6, 3) := by decide +kernel
theorem dX4_answer_8 : decode cX4_answer 8 = .ok (.bipush (-2), 2) := by decide +kernel
theorem dX4_answer_10 : decode cX4_answer 10 = .ok (.ireturn, 1) := by decide +kernel
theorem dX4_answer_11 : decode cX4_answer 11 = .ok (.aload_n 0, 1) := by decide +kernel
theorem dX4_answer_12 : decode cX4_answer 12 = .ok (.invokevirtual 101, 3) := by decide +kernel
theorem dX4_answer_15 : decode cX4_answer 15 = .ok (.iload_n 1, 1) := by decide +kernel
theorem dX4_answer_16 : decode cX4_answer 16 = .ok (.invokevirtual 125, 3) := by decide +kernel
theorem dX4_answer_19 : decode cX4_answer 19 = .ok (.ireturn, 1) := by decide +kernel
theorem dX4_rest_0 : decode cX4_rest 0 = .ok (.iload_n 1, 1) := by decide +kernel
theorem dX4_rest_1 : decode cX4_rest 1 = .ok (.iconst (-1), 1) := by decide +kernel
theorem dX4_rest_2 : decode cX4_rest 2 = .ok (.if_icmp .eq 14, 3) := by decide +kernel
theorem dX4_rest_5 : decode cX4_rest 5 = .ok (.aload_n 0, 1) := by decide +kernel
theorem dX4_rest_6 : decode cX4_rest 6 = .ok (.iload_n 1, 1) := by decide +kernel
theorem dX4_rest_7 : decode cX4_rest 7 = .ok (.invokevirtual 67, 3) := by decide +kernel
theorem dX4_rest_10 : decode cX4_rest 10 = .ok (.ifCond .eq 6, 3) := by decide +kernel
theorem dX4_rest_13 : decode cX4_rest 13 = .ok (.bipush (-2), 2) := by decide +kernel
theorem dX4_rest_15 : decode cX4_rest 15 = .ok (.ireturn, 1) := by decide +kernel
theorem dX4_rest_16 : decode cX4_rest 16 = .ok (.aload_n 0, 1) := by decide +kernel
theorem dX4_rest_17 : decode cX4_rest 17 = .ok (.invokevirtual 101, 3) := by decide +kernel
theorem dX4_rest_20 : decode cX4_rest 20 = .ok (.astore_n 2, 1) := by decide +kernel
theorem dX4_rest_21 : decode cX4_rest 21 = .ok (.aload_n 2, 1) := by decide +kernel
theorem dX4_rest_22 : decode cX4_rest 22 = .ok (.invokevirtual 128, 3) := by decide +kernel
theorem dX4_rest_25 : decode cX4_rest 25 = .ok (.ifCond .ne 6, 3) := by decide +kernel
theorem dX4_rest_28 : decode cX4_rest 28 = .ok (.bipush (-3), 2) := by decide +kernel
theorem dX4_rest_30 : decode cX4_rest 30 = .ok (.ireturn, 1) := by decide +kernel
theorem dX4_rest_31 : decode cX4_rest 31 = .ok (.iload_n 1, 1) := by decide +kernel
theorem dX4_rest_32 : decode cX4_rest 32 = .ok (.iconst (-1), 1) := by decide +kernel
theorem dX4_rest_33 : decode cX4_rest 33 = .ok (.if_icmp .ne 10, 3) := by decide +kernel
theorem dX4_rest_36 : decode cX4_rest 36 = .ok (.aload_n 2, 1) := by decide +kernel
theorem dX4_rest_37 : decode cX4_rest 37 = .ok (.getfield 132, 3) := by decide +kernel
theorem dX4_rest_40 : decode cX4_rest 40 = .ok (.goto 9, 3) := by decide +kernel
theorem dX4_rest_43 : decode cX4_rest 43 = .ok (.aload_n 2, 1) := by decide +kernel
theorem dX4_rest_44 : decode cX4_rest 44 = .ok (.getfield 135, 3) := by decide +kernel
theorem dX4_rest_47 : decode cX4_rest 47 = .ok (.iload_n 1, 1) := by decide +kernel
theorem dX4_rest_48 : decode cX4_rest 48 = .ok (.iaload, 1) := by decide +kernel
theorem dX4_rest_49 : decode cX4_rest 49 = .ok (.ireturn, 1) := by decide +kernel
theorem dX4_still_0 : decode cX4_still 0 = .ok (.iload_n 1, 1) := by decide +kernel
theorem dX4_still_1 : decode cX4_still 1 = .ok (.iconst (-1), 1) := by decide +kernel
theorem dX4_still_2 : decode cX4_still 2 = .ok (.if_icmp .ne 13, 3) := by decide +kernel
theorem dX4_still_5 : decode cX4_still 5 = .ok (.iload_n 2, 1) := by decide +kernel
theorem dX4_still_6 : decode cX4_still 6 = .ok (.iconst (-1), 1) := by decide +kernel
theorem dX4_still_7 : decode cX4_still 7 = .ok (.if_icmp .ne 8, 3) := by decide +kernel
theorem dX4_still_10 : decode cX4_still 10 = .ok (.aload_n 0, 1) := by decide +kernel
theorem dX4_still_11 : decode cX4_still 11 = .ok (.invokevirtual 138, 3) := by decide +kernel
theorem dX4_still_14 : decode cX4_still 14 = .ok (.ireturn, 1) := by decide +kernel
theorem dX4_still_15 : decode cX4_still 15 = .ok (.iload_n 1, 1) := by decide +kernel
theorem dX4_still_16 : decode cX4_still 16 = .ok (.ifCond .lt 11, 3) := by decide +kernel
theorem dX4_still_19 : decode cX4_still 19 = .ok (.aload_n 0, 1) := by decide +kernel
theorem dX4_still_20 : decode cX4_still 20 = .ok (.iload_n 2, 1) := by decide +kernel
theorem dX4_still_21 : decode cX4_still 21 = .ok (.invokevirtual 67, 3) := by decide +kernel
theorem dX4_still_24 : decode cX4_still 24 = .ok (.ifCond .eq 6, 3) := by decide +kernel
theorem dX4_still_27 : decode cX4_still 27 = .ok (.bipush (-2), 2) := by decide +kernel
theorem dX4_still_29 : decode cX4_still 29 = .ok (.ireturn, 1) := by decide +kernel
theorem dX4_still_30 : decode cX4_still 30 = .ok (.aload_n 0, 1) := by decide +kernel
theorem dX4_still_31 : decode cX4_still 31 = .ok (.invokevirtual 101, 3) := by decide +kernel
theorem dX4_still_34 : decode cX4_still 34 = .ok (.astore_n 3, 1) := by decide +kernel
theorem dX4_still_35 : decode cX4_still 35 = .ok (.aload_n 3, 1) := by decide +kernel
theorem dX4_still_36 : decode cX4_still 36 = .ok (.invokevirtual 142, 3) := by decide +kernel
theorem dX4_still_39 : decode cX4_still 39 = .ok (.istore 4, 2) := by decide +kernel
theorem dX4_still_41 : decode cX4_still 41 = .ok (.iconst 0, 1) := by decide +kernel
theorem dX4_still_42 : decode cX4_still 42 = .ok (.istore 5, 2) := by decide +kernel
theorem dX4_still_44 : decode cX4_still 44 = .ok (.aload_n 3, 1) := by decide +kernel
theorem dX4_still_45 : decode cX4_still 45 = .ok (.iconst 0, 1) := by decide +kernel
theorem dX4_still_46 : decode cX4_still 46 = .ok (.invokevirtual 145, 3) := by decide +kernel
theorem dX4_still_49 : decode cX4_still 49 = .ok (.iconst 0, 1) := by decide +kernel
theorem dX4_still_50 : decode cX4_still 50 = .ok (.istore 6, 2) := by decide +kernel
theorem dX4_still_52 : decode cX4_still 52 = .ok (.iload 6, 2) := by decide +kernel
theorem dX4_still_54 : decode cX4_still 54 = .ok (.iload 4, 2) := by decide +kernel
theorem dX4_still_56 : decode cX4_still 56 = .ok (.if_icmp .ge 37, 3) := by decide +kernel
theorem dX4_still_59 : decode cX4_still 59 = .ok (.aload_n 3, 1) := by decide +kernel
theorem dX4_still_60 : decode cX4_still 60 = .ok (.invokevirtual 148, 3) := by decide +kernel
theorem dX4_still_63 : decode cX4_still 63 = .ok (.iconst (-1), 1) := by decide +kernel
theorem dX4_still_64 : decode cX4_still 64 = .ok (.if_icmp .ne 19, 3) := by decide +kernel
theorem dX4_still_67 : decode cX4_still 67 = .ok (.iload 5, 2) := by decide +kernel
theorem dX4_still_69 : decode cX4_still 69 = .ok (.iload_n 1, 1) := by decide +kernel
theorem dX4_still_70 : decode cX4_still 70 = .ok (.if_icmp .ne 10, 3) := by decide +kernel
theorem dX4_still_73 : decode cX4_still 73 = .ok (.aload_n 3, 1) := by decide +kernel
theorem dX4_still_74 : decode cX4_still 74 = .ok (.getfield 135, 3) := by decide +kernel
theorem dX4_still_77 : decode cX4_still 77 = .ok (.iload_n 2, 1) := by decide +kernel
theorem dX4_still_78 : decode cX4_still 78 = .ok (.iaload, 1) := by decide +kernel
theorem dX4_still_79 : decode cX4_still 79 = .ok (.ireturn, 1) := by decide +kernel
theorem dX4_still_80 : decode cX4_still 80 = .ok (.iinc 5 1, 3) := by decide +kernel
theorem dX4_still_83 : decode cX4_still 83 = .ok (.aload_n 3, 1) := by decide +kernel
theorem dX4_still_84 : decode cX4_still 84 = .ok (.invokevirtual 151, 3) := by decide +kernel
theorem dX4_still_87 : decode cX4_still 87 = .ok (.iinc 6 1, 3) := by decide +kernel
theorem dX4_still_90 : decode cX4_still 90 = .ok (.goto (-38), 3) := by decide +kernel
theorem dX4_still_93 : decode cX4_still 93 = .ok (.iconst (-1), 1) := by decide +kernel
theorem dX4_still_94 : decode cX4_still 94 = .ok (.ireturn, 1) := by decide +kernel
theorem dX4_best_0 : decode cX4_best 0 = .ok (.iload_n 1, 1) := by decide +kernel
theorem dX4_best_1 : decode cX4_best 1 = .ok (.ifCond .lt 16, 3) := by decide +kernel
theorem dX4_best_4 : decode cX4_best 4 = .ok (.iload_n 1, 1) := by decide +kernel
theorem dX4_best_5 : decode cX4_best 5 = .ok (.iconst 1, 1) := by decide +kernel
theorem dX4_best_6 : decode cX4_best 6 = .ok (.if_icmp .gt 11, 3) := by decide +kernel
theorem dX4_best_9 : decode cX4_best 9 = .ok (.aload_n 0, 1) := by decide +kernel
theorem dX4_best_10 : decode cX4_best 10 = .ok (.iload_n 2, 1) := by decide +kernel
theorem dX4_best_11 : decode cX4_best 11 = .ok (.invokevirtual 67, 3) := by decide +kernel
theorem dX4_best_14 : decode cX4_best 14 = .ok (.ifCond .eq 6, 3) := by decide +kernel
theorem dX4_best_17 : decode cX4_best 17 = .ok (.bipush (-2), 2) := by decide +kernel
theorem dX4_best_19 : decode cX4_best 19 = .ok (.ireturn, 1) := by decide +kernel
theorem dX4_best_20 : decode cX4_best 20 = .ok (.aload_n 0, 1) := by decide +kernel
theorem dX4_best_21 : decode cX4_best 21 = .ok (.iload_n 1, 1) := by decide +kernel
theorem dX4_best_22 : decode cX4_best 22 = .ok (.invokevirtual 154, 3) := by decide +kernel
theorem dX4_best_25 : decode cX4_best 25 = .ok (.getfield 135, 3) := by decide +kernel
theorem dX4_best_28 : decode cX4_best 28 = .ok (.iload_n 2, 1) := by decide +kernel
theorem dX4_best_29 : decode cX4_best 29 = .ok (.iaload, 1) := by decide +kernel
theorem dX4_best_30 : decode cX4_best 30 = .ok (.ireturn, 1) := by decide +kernel
theorem dX4_loss_0 : decode cX4_loss 0 = .ok (.iload_n 1, 1) := by decide +kernel
theorem dX4_loss_1 : decode cX4_loss 1 = .ok (.invokestatic 108, 3) := by decide +kernel
theorem dX4_loss_4 : decode cX4_loss 4 = .ok (.ifCond .eq 9, 3) := by decide +kernel
theorem dX4_loss_7 : decode cX4_loss 7 = .ok (.bipush (-2), 2) := by decide +kernel
theorem dX4_loss_9 : decode cX4_loss 9 = .ok (.invokestatic 111, 3) := by decide +kernel
theorem dX4_loss_12 : decode cX4_loss 12 = .ok (.lreturn, 1) := by decide +kernel
theorem dX4_loss_13 : decode cX4_loss 13 = .ok (.aload_n 0, 1) := by decide +kernel
theorem dX4_loss_14 : decode cX4_loss 14 = .ok (.iconst 0, 1) := by decide +kernel
theorem dX4_loss_15 : decode cX4_loss 15 = .ok (.invokevirtual 154, 3) := by decide +kernel
theorem dX4_loss_18 : decode cX4_loss 18 = .ok (.invokevirtual 158, 3) := by decide +kernel
theorem dX4_loss_21 : decode cX4_loss 21 = .ok (.lstore_n 2, 1) := by decide +kernel
theorem dX4_loss_22 : decode cX4_loss 22 = .ok (.lload_n 2, 1) := by decide +kernel
theorem dX4_loss_23 : decode cX4_loss 23 = .ok (.aload_n 0, 1) := by decide +kernel
theorem dX4_loss_24 : decode cX4_loss 24 = .ok (.invokevirtual 101, 3) := by decide +kernel
theorem dX4_loss_27 : decode cX4_loss 27 = .ok (.invokevirtual 158, 3) := by decide +kernel
theorem dX4_loss_30 : decode cX4_loss 30 = .ok (.lsub, 1) := by decide +kernel
theorem dX4_loss_31 : decode cX4_loss 31 = .ok (.iload_n 1, 1) := by decide +kernel
theorem dX4_loss_32 : decode cX4_loss 32 = .ok (.invokestatic 118, 3) := by decide +kernel
theorem dX4_loss_35 : decode cX4_loss 35 = .ok (.lreturn, 1) := by decide +kernel
theorem dX4_leastFine_0 : decode cX4_leastFine 0 = .ok (.aload_n 0, 1) := by decide +kernel
theorem dX4_leastFine_1 : decode cX4_leastFine 1 = .ok (.invokevirtual 101, 3) := by decide +kernel
theorem dX4_leastFine_4 : decode cX4_leastFine 4 = .ok (.astore_n 1, 1) := by decide +kernel
theorem dX4_leastFine_5 : decode cX4_leastFine 5 = .ok (.aload_n 1, 1) := by decide +kernel
theorem dX4_leastFine_6 : decode cX4_leastFine 6 = .ok (.lconst 0, 1) := by decide +kernel
theorem dX4_leastFine_7 : decode cX4_leastFine 7 = .ok (.putfield 162, 3) := by decide +kernel
theorem dX4_leastFine_10 : decode cX4_leastFine 10 = .ok (.aload_n 1, 1) := by decide +kernel
theorem dX4_leastFine_11 : decode cX4_leastFine 11 = .ok (.invokevirtual 166, 3) := by decide +kernel
theorem dX4_leastFine_14 : decode cX4_leastFine 14 = .ok (.aload_n 1, 1) := by decide +kernel
theorem dX4_leastFine_15 : decode cX4_leastFine 15 = .ok (.invokevirtual 169, 3) := by decide +kernel
theorem dX4_leastFine_18 : decode cX4_leastFine 18 = .ok (.lstore_n 2, 1) := by decide +kernel
theorem dX4_leastFine_19 : decode cX4_leastFine 19 = .ok (.lload_n 2, 1) := by decide +kernel
theorem dX4_leastFine_20 : decode cX4_leastFine 20 = .ok (.lconst 0, 1) := by decide +kernel
theorem dX4_leastFine_21 : decode cX4_leastFine 21 = .ok (.lcmp, 1) := by decide +kernel
theorem dX4_leastFine_22 : decode cX4_leastFine 22 = .ok (.ifCond .gt 5, 3) := by decide +kernel
theorem dX4_leastFine_25 : decode cX4_leastFine 25 = .ok (.iconst 0, 1) := by decide +kernel
theorem dX4_leastFine_26 : decode cX4_leastFine 26 = .ok (.ireturn, 1) := by decide +kernel
theorem dX4_leastFine_27 : decode cX4_leastFine 27 = .ok (.aload_n 0, 1) := by decide +kernel
theorem dX4_leastFine_28 : decode cX4_leastFine 28 = .ok (.getfield 39, 3) := by decide +kernel
theorem dX4_leastFine_31 : decode cX4_leastFine 31 = .ok (.iconst 4, 1) := by decide +kernel
theorem dX4_leastFine_32 : decode cX4_leastFine 32 = .ok (.iaload, 1) := by decide +kernel
theorem dX4_leastFine_33 : decode cX4_leastFine 33 = .ok (.ifCond .ne 5, 3) := by decide +kernel
theorem dX4_leastFine_36 : decode cX4_leastFine 36 = .ok (.iconst (-1), 1) := by decide +kernel
theorem dX4_leastFine_37 : decode cX4_leastFine 37 = .ok (.ireturn, 1) := by decide +kernel
theorem dX4_leastFine_38 : decode cX4_leastFine 38 = .ok (.lload_n 2, 1) := by decide +kernel
theorem dX4_leastFine_39 : decode cX4_leastFine 39 = .ok (.aload_n 0, 1) := by decide +kernel
theorem dX4_leastFine_40 : decode cX4_leastFine 40 = .ok (.getfield 39, 3) := by decide +kernel
theorem dX4_leastFine_43 : decode cX4_leastFine 43 = .ok (.iconst 4, 1) := by decide +kernel
theorem dX4_leastFine_44 : decode cX4_leastFine 44 = .ok (.iaload, 1) := by decide +kernel
theorem dX4_leastFine_45 : decode cX4_leastFine 45 = .ok (.i2l, 1) := by decide +kernel
theorem dX4_leastFine_46 : decode cX4_leastFine 46 = .ok (.ldc2_w 172, 3) := by decide +kernel
theorem dX4_leastFine_49 : decode cX4_leastFine 49 = .ok (.lmul, 1) := by decide +kernel
theorem dX4_leastFine_50 : decode cX4_leastFine 50 = .ok (.invokestatic 174, 3) := by decide +kernel
theorem dX4_leastFine_53 : decode cX4_leastFine 53 = .ok (.lstore 4, 2) := by decide +kernel
theorem dX4_leastFine_55 : decode cX4_leastFine 55 = .ok (.lload 4, 2) := by decide +kernel
theorem dX4_leastFine_57 : decode cX4_leastFine 57 = .ok (.getstatic 84, 3) := by decide +kernel
theorem dX4_leastFine_60 : decode cX4_leastFine 60 = .ok (.iconst 3, 1) := by decide +kernel
theorem dX4_leastFine_61 : decode cX4_leastFine 61 = .ok (.iaload, 1) := by decide +kernel
theorem dX4_leastFine_62 : decode cX4_leastFine 62 = .ok (.i2l, 1) := by decide +kernel
theorem dX4_leastFine_63 : decode cX4_leastFine 63 = .ok (.lcmp, 1) := by decide +kernel
theorem dX4_leastFine_64 : decode cX4_leastFine 64 = .ok (.ifCond .le 7, 3) := by decide +kernel
theorem dX4_leastFine_67 : decode cX4_leastFine 67 = .ok (.iconst (-1), 1) := by decide +kernel
theorem dX4_leastFine_68 : decode cX4_leastFine 68 = .ok (.goto 6, 3) := by decide +kernel
theorem dX4_leastFine_71 : decode cX4_leastFine 71 = .ok (.lload 4, 2) := by decide +kernel
theorem dX4_leastFine_73 : decode cX4_leastFine 73 = .ok (.l2i, 1) := by decide +kernel
theorem dX4_leastFine_74 : decode cX4_leastFine 74 = .ok (.ireturn, 1) := by decide +kernel
theorem dX4_bestCap_0 : decode cX4_bestCap 0 = .ok (.iload_n 1, 1) := by decide +kernel
theorem dX4_bestCap_1 : decode cX4_bestCap 1 = .ok (.ifCond .lt 8, 3) := by decide +kernel
theorem dX4_bestCap_4 : decode cX4_bestCap 4 = .ok (.iload_n 1, 1) := by decide +kernel
theorem dX4_bestCap_5 : decode cX4_bestCap 5 = .ok (.iconst 2, 1) := by decide +kernel
theorem dX4_bestCap_6 : decode cX4_bestCap 6 = .ok (.if_icmp .le 9, 3) := by decide +kernel
theorem dX4_bestCap_9 : decode cX4_bestCap 9 = .ok (.bipush (-2), 2) := by decide +kernel
theorem dX4_bestCap_11 : decode cX4_bestCap 11 = .ok (.invokestatic 111, 3) := by decide +kernel
theorem dX4_bestCap_14 : decode cX4_bestCap 14 = .ok (.lreturn, 1) := by decide +kernel
theorem dX4_bestCap_15 : decode cX4_bestCap 15 = .ok (.aload_n 0, 1) := by decide +kernel
theorem dX4_bestCap_16 : decode cX4_bestCap 16 = .ok (.invokevirtual 178, 3) := by decide +kernel
theorem dX4_bestCap_19 : decode cX4_bestCap 19 = .ok (.istore_n 2, 1) := by decide +kernel
theorem dX4_bestCap_20 : decode cX4_bestCap 20 = .ok (.iload_n 1, 1) := by decide +kernel
theorem dX4_bestCap_21 : decode cX4_bestCap 21 = .ok (.iconst 2, 1) := by decide +kernel
theorem dX4_bestCap_22 : decode cX4_bestCap 22 = .ok (.if_icmp .ne 6, 3) := by decide +kernel
theorem dX4_bestCap_25 : decode cX4_bestCap 25 = .ok (.iload_n 2, 1) := by decide +kernel
theorem dX4_bestCap_26 : decode cX4_bestCap 26 = .ok (.i2l, 1) := by decide +kernel
theorem dX4_bestCap_27 : decode cX4_bestCap 27 = .ok (.lreturn, 1) := by decide +kernel
theorem dX4_bestCap_28 : decode cX4_bestCap 28 = .ok (.iload_n 2, 1) := by decide +kernel
theorem dX4_bestCap_29 : decode cX4_bestCap 29 = .ok (.iconst (-1), 1) := by decide +kernel
theorem dX4_bestCap_30 : decode cX4_bestCap 30 = .ok (.if_icmp .eq 11, 3) := by decide +kernel
theorem dX4_bestCap_33 : decode cX4_bestCap 33 = .ok (.aload_n 0, 1) := by decide +kernel
theorem dX4_bestCap_34 : decode cX4_bestCap 34 = .ok (.iload_n 2, 1) := by decide +kernel
theorem dX4_bestCap_35 : decode cX4_bestCap 35 = .ok (.invokevirtual 181, 3) := by decide +kernel
theorem dX4_bestCap_38 : decode cX4_bestCap 38 = .ok (.ifCond .ne 9, 3) := by decide +kernel
theorem dX4_bestCap_41 : decode cX4_bestCap 41 = .ok (.bipush (-3), 2) := by decide +kernel
theorem dX4_bestCap_43 : decode cX4_bestCap 43 = .ok (.invokestatic 111, 3) := by decide +kernel
theorem dX4_bestCap_46 : decode cX4_bestCap 46 = .ok (.lreturn, 1) := by decide +kernel
theorem dX4_bestCap_47 : decode cX4_bestCap 47 = .ok (.aload_n 0, 1) := by decide +kernel
theorem dX4_bestCap_48 : decode cX4_bestCap 48 = .ok (.getfield 28, 3) := by decide +kernel
theorem dX4_bestCap_51 : decode cX4_bestCap 51 = .ok (.invokevirtual 158, 3) := by decide +kernel
theorem dX4_bestCap_54 : decode cX4_bestCap 54 = .ok (.iload_n 1, 1) := by decide +kernel
theorem dX4_bestCap_55 : decode cX4_bestCap 55 = .ok (.invokestatic 118, 3) := by decide +kernel
theorem dX4_bestCap_58 : decode cX4_bestCap 58 = .ok (.lreturn, 1) := by decide +kernel
theorem dX4_edge_0 : decode cX4_edge 0 = .ok (.aload_n 0, 1) := by decide +kernel
theorem dX4_edge_1 : decode cX4_edge 1 = .ok (.iload_n 1, 1) := by decide +kernel
theorem dX4_edge_2 : decode cX4_edge 2 = .ok (.invokevirtual 67, 3) := by decide +kernel
theorem dX4_edge_5 : decode cX4_edge 5 = .ok (.ifCond .eq 6, 3) := by decide +kernel
theorem dX4_edge_8 : decode cX4_edge 8 = .ok (.bipush (-2), 2) := by decide +kernel
theorem dX4_edge_10 : decode cX4_edge 10 = .ok (.ireturn, 1) := by decide +kernel
theorem dX4_edge_11 : decode cX4_edge 11 = .ok (.aload_n 0, 1) := by decide +kernel
theorem dX4_edge_12 : decode cX4_edge 12 = .ok (.invokevirtual 101, 3) := by decide +kernel
theorem dX4_edge_15 : decode cX4_edge 15 = .ok (.iload_n 1, 1) := by decide +kernel
theorem dX4_edge_16 : decode cX4_edge 16 = .ok (.invokevirtual 184, 3) := by decide +kernel
theorem dX4_edge_19 : decode cX4_edge 19 = .ok (.lstore_n 2, 1) := by decide +kernel
theorem dX4_edge_20 : decode cX4_edge 20 = .ok (.lload_n 2, 1) := by decide +kernel
theorem dX4_edge_21 : decode cX4_edge 21 = .ok (.ldc2_w 187, 3) := by decide +kernel
theorem dX4_edge_24 : decode cX4_edge 24 = .ok (.lcmp, 1) := by decide +kernel
theorem dX4_edge_25 : decode cX4_edge 25 = .ok (.ifCond .le 7, 3) := by decide +kernel
theorem dX4_edge_28 : decode cX4_edge 28 = .ok (.iconst (-1), 1) := by decide +kernel
theorem dX4_edge_29 : decode cX4_edge 29 = .ok (.goto 5, 3) := by decide +kernel
theorem dX4_edge_32 : decode cX4_edge 32 = .ok (.lload_n 2, 1) := by decide +kernel
theorem dX4_edge_33 : decode cX4_edge 33 = .ok (.l2i, 1) := by decide +kernel
theorem dX4_edge_34 : decode cX4_edge 34 = .ok (.ireturn, 1) := by decide +kernel
theorem dX4_always_0 : decode cX4_always 0 = .ok (.aload_n 0, 1) := by decide +kernel
theorem dX4_always_1 : decode cX4_always 1 = .ok (.iload_n 1, 1) := by decide +kernel
theorem dX4_always_2 : decode cX4_always 2 = .ok (.invokevirtual 67, 3) := by decide +kernel
theorem dX4_always_5 : decode cX4_always 5 = .ok (.ifCond .ne 10, 3) := by decide +kernel
theorem dX4_always_8 : decode cX4_always 8 = .ok (.iload_n 2, 1) := by decide +kernel
theorem dX4_always_9 : decode cX4_always 9 = .ok (.invokestatic 108, 3) := by decide +kernel
theorem dX4_always_12 : decode cX4_always 12 = .ok (.ifCond .eq 9, 3) := by decide +kernel
theorem dX4_always_15 : decode cX4_always 15 = .ok (.bipush (-2), 2) := by decide +kernel
theorem dX4_always_17 : decode cX4_always 17 = .ok (.invokestatic 111, 3) := by decide +kernel
theorem dX4_always_20 : decode cX4_always 20 = .ok (.lreturn, 1) := by decide +kernel
theorem dX4_always_21 : decode cX4_always 21 = .ok (.aload_n 0, 1) := by decide +kernel
theorem dX4_always_22 : decode cX4_always 22 = .ok (.invokevirtual 101, 3) := by decide +kernel
theorem dX4_always_25 : decode cX4_always 25 = .ok (.astore_n 3, 1) := by decide +kernel
theorem dX4_always_26 : decode cX4_always 26 = .ok (.aload_n 3, 1) := by decide +kernel
theorem dX4_always_27 : decode cX4_always 27 = .ok (.iload_n 1, 1) := by decide +kernel
theorem dX4_always_28 : decode cX4_always 28 = .ok (.iconst 3, 1) := by decide +kernel
theorem dX4_always_29 : decode cX4_always 29 = .ok (.invokevirtual 189, 3) := by decide +kernel
theorem dX4_always_32 : decode cX4_always 32 = .ok (.aload_n 3, 1) := by decide +kernel
theorem dX4_always_33 : decode cX4_always 33 = .ok (.iload_n 1, 1) := by decide +kernel
theorem dX4_always_34 : decode cX4_always 34 = .ok (.putfield 193, 3) := by decide +kernel
theorem dX4_always_37 : decode cX4_always 37 = .ok (.aload_n 3, 1) := by decide +kernel
theorem dX4_always_38 : decode cX4_always 38 = .ok (.invokevirtual 128, 3) := by decide +kernel
theorem dX4_always_41 : decode cX4_always 41 = .ok (.ifCond .ne 9, 3) := by decide +kernel
theorem dX4_always_44 : decode cX4_always 44 = .ok (.bipush (-3), 2) := by decide +kernel
theorem dX4_always_46 : decode cX4_always 46 = .ok (.invokestatic 111, 3) := by decide +kernel
theorem dX4_always_49 : decode cX4_always 49 = .ok (.lreturn, 1) := by decide +kernel
theorem dX4_always_50 : decode cX4_always 50 = .ok (.aload_n 3, 1) := by decide +kernel
theorem dX4_always_51 : decode cX4_always 51 = .ok (.iload_n 1, 1) := by decide +kernel
theorem dX4_always_52 : decode cX4_always 52 = .ok (.invokevirtual 115, 3) := by decide +kernel
theorem dX4_always_55 : decode cX4_always 55 = .ok (.lstore 4, 2) := by decide +kernel
theorem dX4_always_57 : decode cX4_always 57 = .ok (.aload_n 0, 1) := by decide +kernel
theorem dX4_always_58 : decode cX4_always 58 = .ok (.invokevirtual 101, 3) := by decide +kernel
theorem dX4_always_61 : decode cX4_always 61 = .ok (.astore_n 3, 1) := by decide +kernel
theorem dX4_always_62 : decode cX4_always 62 = .ok (.aload_n 3, 1) := by decide +kernel
theorem dX4_always_63 : decode cX4_always 63 = .ok (.invokevirtual 128, 3) := by decide +kernel
theorem dX4_always_66 : decode cX4_always 66 = .ok (.ifCond .ne 9, 3) := by decide +kernel
theorem dX4_always_69 : decode cX4_always 69 = .ok (.bipush (-3), 2) := by decide +kernel
theorem dX4_always_71 : decode cX4_always 71 = .ok (.invokestatic 111, 3) := by decide +kernel
theorem dX4_always_74 : decode cX4_always 74 = .ok (.lreturn, 1) := by decide +kernel
theorem dX4_always_75 : decode cX4_always 75 = .ok (.lload 4, 2) := by decide +kernel
theorem dX4_always_77 : decode cX4_always 77 = .ok (.aload_n 3, 1) := by decide +kernel
theorem dX4_always_78 : decode cX4_always 78 = .ok (.iload_n 1, 1) := by decide +kernel
theorem dX4_always_79 : decode cX4_always 79 = .ok (.invokevirtual 115, 3) := by decide +kernel
theorem dX4_always_82 : decode cX4_always 82 = .ok (.lsub, 1) := by decide +kernel
theorem dX4_always_83 : decode cX4_always 83 = .ok (.iload_n 2, 1) := by decide +kernel
theorem dX4_always_84 : decode cX4_always 84 = .ok (.invokestatic 118, 3) := by decide +kernel
theorem dX4_always_87 : decode cX4_always 87 = .ok (.lreturn, 1) := by decide +kernel
theorem dX4_turn_0 : decode cX4_turn 0 = .ok (.iload_n 1, 1) := by decide +kernel
theorem dX4_turn_1 : decode cX4_turn 1 = .ok (.ifCond .lt 19, 3) := by decide +kernel
theorem dX4_turn_4 : decode cX4_turn 4 = .ok (.iload_n 1, 1) := by decide +kernel
theorem dX4_turn_5 : decode cX4_turn 5 = .ok (.bipush 6, 2) := by decide +kernel
theorem dX4_turn_7 : decode cX4_turn 7 = .ok (.if_icmp .ge 13, 3) := by decide +kernel
theorem dX4_turn_10 : decode cX4_turn 10 = .ok (.iload_n 2, 1) := by decide +kernel
theorem dX4_turn_11 : decode cX4_turn 11 = .ok (.ifCond .lt 9, 3) := by decide +kernel
theorem dX4_turn_14 : decode cX4_turn 14 = .ok (.iload_n 2, 1) := by decide +kernel
theorem dX4_turn_15 : decode cX4_turn 15 = .ok (.bipush 32, 2) := by decide +kernel
theorem dX4_turn_17 : decode cX4_turn 17 = .ok (.if_icmp .lt 6, 3) := by decide +kernel
theorem dX4_turn_20 : decode cX4_turn 20 = .ok (.bipush (-2), 2) := by decide +kernel
theorem dX4_turn_22 : decode cX4_turn 22 = .ok (.ireturn, 1) := by decide +kernel
theorem dX4_turn_23 : decode cX4_turn 23 = .ok (.aload_n 0, 1) := by decide +kernel
theorem dX4_turn_24 : decode cX4_turn 24 = .ok (.getfield 46, 3) := by decide +kernel
theorem dX4_turn_27 : decode cX4_turn 27 = .ok (.iload_n 1, 1) := by decide +kernel
theorem dX4_turn_28 : decode cX4_turn 28 = .ok (.iaload, 1) := by decide +kernel
theorem dX4_turn_29 : decode cX4_turn 29 = .ok (.istore_n 3, 1) := by decide +kernel
theorem dX4_turn_30 : decode cX4_turn 30 = .ok (.aload_n 0, 1) := by decide +kernel
theorem dX4_turn_31 : decode cX4_turn 31 = .ok (.getfield 46, 3) := by decide +kernel
theorem dX4_turn_34 : decode cX4_turn 34 = .ok (.iload_n 1, 1) := by decide +kernel
theorem dX4_turn_35 : decode cX4_turn 35 = .ok (.iload_n 2, 1) := by decide +kernel
theorem dX4_turn_36 : decode cX4_turn 36 = .ok (.iastore, 1) := by decide +kernel
theorem dX4_turn_37 : decode cX4_turn 37 = .ok (.iload_n 3, 1) := by decide +kernel
theorem dX4_turn_38 : decode cX4_turn 38 = .ok (.ireturn, 1) := by decide +kernel

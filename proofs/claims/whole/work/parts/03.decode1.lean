theorem dX0_init_0 : decode cX0_init 0 = .ok (.aload_n 0, 1) := by decide +kernel
theorem dX0_init_1 : decode cX0_init 1 = .ok (.invokespecial 3, 3) := by decide +kernel
theorem dX0_init_4 : decode cX0_init 4 = .ok (.aload_n 0, 1) := by decide +kernel
theorem dX0_init_5 : decode cX0_init 5 = .ok (.iconst 5, 1) := by decide +kernel
theorem dX0_init_6 : decode cX0_init 6 = .ok (.newarray .int, 2) := by decide +kernel
theorem dX0_init_8 : decode cX0_init 8 = .ok (.putfield 9, 3) := by decide +kernel
theorem dX0_init_11 : decode cX0_init 11 = .ok (.aload_n 0, 1) := by decide +kernel
theorem dX0_init_12 : decode cX0_init 12 = .ok (.iconst 5, 1) := by decide +kernel
theorem dX0_init_13 : decode cX0_init 13 = .ok (.newarray .int, 2) := by decide +kernel
theorem dX0_init_15 : decode cX0_init 15 = .ok (.putfield 15, 3) := by decide +kernel
theorem dX0_init_18 : decode cX0_init 18 = .ok (.aload_n 0, 1) := by decide +kernel
theorem dX0_init_19 : decode cX0_init 19 = .ok (.iconst 4, 1) := by decide +kernel
theorem dX0_init_20 : decode cX0_init 20 = .ok (.newarray .int, 2) := by decide +kernel
theorem dX0_init_22 : decode cX0_init 22 = .ok (.putfield 18, 3) := by decide +kernel
theorem dX0_init_25 : decode cX0_init 25 = .ok (.aload_n 0, 1) := by decide +kernel
theorem dX0_init_26 : decode cX0_init 26 = .ok (.iconst 5, 1) := by decide +kernel
theorem dX0_init_27 : decode cX0_init 27 = .ok (.newarray .int, 2) := by decide +kernel
theorem dX0_init_29 : decode cX0_init 29 = .ok (.putfield 21, 3) := by decide +kernel
theorem dX0_init_32 : decode cX0_init 32 = .ok (.aload_n 0, 1) := by decide +kernel
theorem dX0_init_33 : decode cX0_init 33 = .ok (.iconst 4, 1) := by decide +kernel
theorem dX0_init_34 : decode cX0_init 34 = .ok (.newarray .int, 2) := by decide +kernel
theorem dX0_init_36 : decode cX0_init 36 = .ok (.putfield 24, 3) := by decide +kernel
theorem dX0_init_39 : decode cX0_init 39 = .ok (.aload_n 0, 1) := by decide +kernel
theorem dX0_init_40 : decode cX0_init 40 = .ok (.iconst 4, 1) := by decide +kernel
theorem dX0_init_41 : decode cX0_init 41 = .ok (.newarray .long, 2) := by decide +kernel
theorem dX0_init_43 : decode cX0_init 43 = .ok (.putfield 27, 3) := by decide +kernel
theorem dX0_init_46 : decode cX0_init 46 = .ok (.aload_n 0, 1) := by decide +kernel
theorem dX0_init_47 : decode cX0_init 47 = .ok (.aload_n 1, 1) := by decide +kernel
theorem dX0_init_48 : decode cX0_init 48 = .ok (.putfield 31, 3) := by decide +kernel
theorem dX0_init_51 : decode cX0_init 51 = .ok (.aload_n 0, 1) := by decide +kernel
theorem dX0_init_52 : decode cX0_init 52 = .ok (.aload_n 2, 1) := by decide +kernel
theorem dX0_init_53 : decode cX0_init 53 = .ok (.putfield 35, 3) := by decide +kernel
theorem dX0_init_56 : decode cX0_init 56 = .ok (.return_, 1) := by decide +kernel
theorem dX0_begin_0 : decode cX0_begin 0 = .ok (.aload_n 1, 1) := by decide +kernel
theorem dX0_begin_1 : decode cX0_begin 1 = .ok (.iconst 0, 1) := by decide +kernel
theorem dX0_begin_2 : decode cX0_begin 2 = .ok (.aload_n 0, 1) := by decide +kernel
theorem dX0_begin_3 : decode cX0_begin 3 = .ok (.getfield 9, 3) := by decide +kernel
theorem dX0_begin_6 : decode cX0_begin 6 = .ok (.iconst 0, 1) := by decide +kernel
theorem dX0_begin_7 : decode cX0_begin 7 = .ok (.iconst 5, 1) := by decide +kernel
theorem dX0_begin_8 : decode cX0_begin 8 = .ok (.invokestatic 39, 3) := by decide +kernel
theorem dX0_begin_11 : decode cX0_begin 11 = .ok (.aload_n 0, 1) := by decide +kernel
theorem dX0_begin_12 : decode cX0_begin 12 = .ok (.getfield 15, 3) := by decide +kernel
theorem dX0_begin_15 : decode cX0_begin 15 = .ok (.iconst 3, 1) := by decide +kernel
theorem dX0_begin_16 : decode cX0_begin 16 = .ok (.invokestatic 45, 3) := by decide +kernel
theorem dX0_begin_19 : decode cX0_begin 19 = .ok (.aload_n 2, 1) := by decide +kernel
theorem dX0_begin_20 : decode cX0_begin 20 = .ok (.iconst 5, 1) := by decide +kernel
theorem dX0_begin_21 : decode cX0_begin 21 = .ok (.aload_n 0, 1) := by decide +kernel
theorem dX0_begin_22 : decode cX0_begin 22 = .ok (.getfield 18, 3) := by decide +kernel
theorem dX0_begin_25 : decode cX0_begin 25 = .ok (.iconst 1, 1) := by decide +kernel
theorem dX0_begin_26 : decode cX0_begin 26 = .ok (.iconst 3, 1) := by decide +kernel
theorem dX0_begin_27 : decode cX0_begin 27 = .ok (.invokestatic 39, 3) := by decide +kernel
theorem dX0_begin_30 : decode cX0_begin 30 = .ok (.aload_n 0, 1) := by decide +kernel
theorem dX0_begin_31 : decode cX0_begin 31 = .ok (.aload_n 2, 1) := by decide +kernel
theorem dX0_begin_32 : decode cX0_begin 32 = .ok (.iconst 1, 1) := by decide +kernel
theorem dX0_begin_33 : decode cX0_begin 33 = .ok (.iaload, 1) := by decide +kernel
theorem dX0_begin_34 : decode cX0_begin 34 = .ok (.putfield 51, 3) := by decide +kernel
theorem dX0_begin_37 : decode cX0_begin 37 = .ok (.aload_n 0, 1) := by decide +kernel
theorem dX0_begin_38 : decode cX0_begin 38 = .ok (.aload_n 2, 1) := by decide +kernel
theorem dX0_begin_39 : decode cX0_begin 39 = .ok (.iconst 2, 1) := by decide +kernel
theorem dX0_begin_40 : decode cX0_begin 40 = .ok (.iaload, 1) := by decide +kernel
theorem dX0_begin_41 : decode cX0_begin 41 = .ok (.putfield 55, 3) := by decide +kernel
theorem dX0_begin_44 : decode cX0_begin 44 = .ok (.aload_n 0, 1) := by decide +kernel
theorem dX0_begin_45 : decode cX0_begin 45 = .ok (.aload_n 2, 1) := by decide +kernel
theorem dX0_begin_46 : decode cX0_begin 46 = .ok (.iconst 3, 1) := by decide +kernel
theorem dX0_begin_47 : decode cX0_begin 47 = .ok (.iaload, 1) := by decide +kernel
theorem dX0_begin_48 : decode cX0_begin 48 = .ok (.aload_n 2, 1) := by decide +kernel
theorem dX0_begin_49 : decode cX0_begin 49 = .ok (.iconst 4, 1) := by decide +kernel
theorem dX0_begin_50 : decode cX0_begin 50 = .ok (.iaload, 1) := by decide +kernel
theorem dX0_begin_51 : decode cX0_begin 51 = .ok (.imul, 1) := by decide +kernel
theorem dX0_begin_52 : decode cX0_begin 52 = .ok (.i2l, 1) := by decide +kernel
theorem dX0_begin_53 : decode cX0_begin 53 = .ok (.ldc2_w 58, 3) := by decide +kernel
theorem dX0_begin_56 : decode cX0_begin 56 = .ok (.lmul, 1) := by decide +kernel
theorem dX0_begin_57 : decode cX0_begin 57 = .ok (.putfield 60, 3) := by decide +kernel
theorem dX0_begin_60 : decode cX0_begin 60 = .ok (.aload_n 0, 1) := by decide +kernel
theorem dX0_begin_61 : decode cX0_begin 61 = .ok (.iconst (-1), 1) := by decide +kernel
theorem dX0_begin_62 : decode cX0_begin 62 = .ok (.putfield 64, 3) := by decide +kernel
theorem dX0_begin_65 : decode cX0_begin 65 = .ok (.aload_n 0, 1) := by decide +kernel
theorem dX0_begin_66 : decode cX0_begin 66 = .ok (.iconst 0, 1) := by decide +kernel
theorem dX0_begin_67 : decode cX0_begin 67 = .ok (.putfield 67, 3) := by decide +kernel
theorem dX0_begin_70 : decode cX0_begin 70 = .ok (.aload_n 0, 1) := by decide +kernel
theorem dX0_begin_71 : decode cX0_begin 71 = .ok (.getfield 24, 3) := by decide +kernel
theorem dX0_begin_74 : decode cX0_begin 74 = .ok (.iconst 0, 1) := by decide +kernel
theorem dX0_begin_75 : decode cX0_begin 75 = .ok (.invokestatic 45, 3) := by decide +kernel
theorem dX0_begin_78 : decode cX0_begin 78 = .ok (.iconst 0, 1) := by decide +kernel
theorem dX0_begin_79 : decode cX0_begin 79 = .ok (.istore_n 3, 1) := by decide +kernel
theorem dX0_begin_80 : decode cX0_begin 80 = .ok (.iload_n 3, 1) := by decide +kernel
theorem dX0_begin_81 : decode cX0_begin 81 = .ok (.aload_n 0, 1) := by decide +kernel
theorem dX0_begin_82 : decode cX0_begin 82 = .ok (.getfield 31, 3) := by decide +kernel
theorem dX0_begin_85 : decode cX0_begin 85 = .ok (.getfield 70, 3) := by decide +kernel
theorem dX0_begin_88 : decode cX0_begin 88 = .ok (.if_icmp .ge 20, 3) := by decide +kernel
theorem dX0_begin_91 : decode cX0_begin 91 = .ok (.aload_n 0, 1) := by decide +kernel
theorem dX0_begin_92 : decode cX0_begin 92 = .ok (.iload_n 3, 1) := by decide +kernel
theorem dX0_begin_93 : decode cX0_begin 93 = .ok (.aload_n 0, 1) := by decide +kernel
theorem dX0_begin_94 : decode cX0_begin 94 = .ok (.getfield 9, 3) := by decide +kernel
theorem dX0_begin_97 : decode cX0_begin 97 = .ok (.iload_n 3, 1) := by decide +kernel
theorem dX0_begin_98 : decode cX0_begin 98 = .ok (.iaload, 1) := by decide +kernel
theorem dX0_begin_99 : decode cX0_begin 99 = .ok (.invokevirtual 75, 3) := by decide +kernel
theorem dX0_begin_102 : decode cX0_begin 102 = .ok (.iinc 3 1, 3) := by decide +kernel
theorem dX0_begin_105 : decode cX0_begin 105 = .ok (.goto (-25), 3) := by decide +kernel
theorem dX0_begin_108 : decode cX0_begin 108 = .ok (.return_, 1) := by decide +kernel
theorem dX0_become_0 : decode cX0_become 0 = .ok (.aload_n 0, 1) := by decide +kernel
theorem dX0_become_1 : decode cX0_become 1 = .ok (.getfield 9, 3) := by decide +kernel
theorem dX0_become_4 : decode cX0_become 4 = .ok (.iload_n 1, 1) := by decide +kernel
theorem dX0_become_5 : decode cX0_become 5 = .ok (.iload_n 2, 1) := by decide +kernel
theorem dX0_become_6 : decode cX0_become 6 = .ok (.iastore, 1) := by decide +kernel
theorem dX0_become_7 : decode cX0_become 7 = .ok (.iconst 1, 1) := by decide +kernel
theorem dX0_become_8 : decode cX0_become 8 = .ok (.istore_n 3, 1) := by decide +kernel
theorem dX0_become_9 : decode cX0_become 9 = .ok (.iload_n 3, 1) := by decide +kernel
theorem dX0_become_10 : decode cX0_become 10 = .ok (.iconst 3, 1) := by decide +kernel
theorem dX0_become_11 : decode cX0_become 11 = .ok (.if_icmp .gt 43, 3) := by decide +kernel
theorem dX0_become_14 : decode cX0_become 14 = .ok (.iload_n 2, 1) := by decide +kernel
theorem dX0_become_15 : decode cX0_become 15 = .ok (.iload_n 3, 1) := by decide +kernel
theorem dX0_become_16 : decode cX0_become 16 = .ok (.if_icmp .lt 18, 3) := by decide +kernel
theorem dX0_become_19 : decode cX0_become 19 = .ok (.aload_n 0, 1) := by decide +kernel
theorem dX0_become_20 : decode cX0_become 20 = .ok (.getfield 24, 3) := by decide +kernel
theorem dX0_become_23 : decode cX0_become 23 = .ok (.iload_n 3, 1) := by decide +kernel
theorem dX0_become_24 : decode cX0_become 24 = .ok (.dup2, 1) := by decide +kernel
theorem dX0_become_25 : decode cX0_become 25 = .ok (.iaload, 1) := by decide +kernel
theorem dX0_become_26 : decode cX0_become 26 = .ok (.iconst 1, 1) := by decide +kernel
theorem dX0_become_27 : decode cX0_become 27 = .ok (.iload_n 1, 1) := by decide +kernel
theorem dX0_become_28 : decode cX0_become 28 = .ok (.ishl, 1) := by decide +kernel
theorem dX0_become_29 : decode cX0_become 29 = .ok (.ior, 1) := by decide +kernel
theorem dX0_become_30 : decode cX0_become 30 = .ok (.iastore, 1) := by decide +kernel
theorem dX0_become_31 : decode cX0_become 31 = .ok (.goto 17, 3) := by decide +kernel
theorem dX0_become_34 : decode cX0_become 34 = .ok (.aload_n 0, 1) := by decide +kernel
theorem dX0_become_35 : decode cX0_become 35 = .ok (.getfield 24, 3) := by decide +kernel
theorem dX0_become_38 : decode cX0_become 38 = .ok (.iload_n 3, 1) := by decide +kernel
theorem dX0_become_39 : decode cX0_become 39 = .ok (.dup2, 1) := by decide +kernel
theorem dX0_become_40 : decode cX0_become 40 = .ok (.iaload, 1) := by decide +kernel
theorem dX0_become_41 : decode cX0_become 41 = .ok (.iconst 1, 1) := by decide +kernel
theorem dX0_become_42 : decode cX0_become 42 = .ok (.iload_n 1, 1) := by decide +kernel
theorem dX0_become_43 : decode cX0_become 43 = .ok (.ishl, 1) := by decide +kernel
theorem dX0_become_44 : decode cX0_become 44 = .ok (.iconst (-1), 1) := by decide +kernel
theorem dX0_become_45 : decode cX0_become 45 = .ok (.ixor, 1) := by decide +kernel
theorem dX0_become_46 : decode cX0_become 46 = .ok (.iand, 1) := by decide +kernel
theorem dX0_become_47 : decode cX0_become 47 = .ok (.iastore, 1) := by decide +kernel
theorem dX0_become_48 : decode cX0_become 48 = .ok (.iinc 3 1, 3) := by decide +kernel
theorem dX0_become_51 : decode cX0_become 51 = .ok (.goto (-42), 3) := by decide +kernel
theorem dX0_become_54 : decode cX0_become 54 = .ok (.return_, 1) := by decide +kernel
theorem dX0_bound_0 : decode cX0_bound 0 = .ok (.aload_n 0, 1) := by decide +kernel
theorem dX0_bound_1 : decode cX0_bound 1 = .ok (.getfield 31, 3) := by decide +kernel
theorem dX0_bound_4 : decode cX0_bound 4 = .ok (.getfield 79, 3) := by decide +kernel
theorem dX0_bound_7 : decode cX0_bound 7 = .ok (.iload_n 1, 1) := by decide +kernel
theorem dX0_bound_8 : decode cX0_bound 8 = .ok (.iaload, 1) := by decide +kernel
theorem dX0_bound_9 : decode cX0_bound 9 = .ok (.aload_n 0, 1) := by decide +kernel
theorem dX0_bound_10 : decode cX0_bound 10 = .ok (.getfield 55, 3) := by decide +kernel
theorem dX0_bound_13 : decode cX0_bound 13 = .ok (.if_icmp .le 7, 3) := by decide +kernel
theorem dX0_bound_16 : decode cX0_bound 16 = .ok (.iconst 1, 1) := by decide +kernel
theorem dX0_bound_17 : decode cX0_bound 17 = .ok (.goto 4, 3) := by decide +kernel
theorem dX0_bound_20 : decode cX0_bound 20 = .ok (.iconst 0, 1) := by decide +kernel
theorem dX0_bound_21 : decode cX0_bound 21 = .ok (.ireturn, 1) := by decide +kernel
theorem dX0_openTillNine_0 : decode cX0_openTillNine 0 = .ok (.iconst 0, 1) := by decide +kernel
theorem dX0_openTillNine_1 : decode cX0_openTillNine 1 = .ok (.istore_n 2, 1) := by decide +kernel
theorem dX0_openTillNine_2 : decode cX0_openTillNine 2 = .ok (.iload_n 2, 1) := by decide +kernel
theorem dX0_openTillNine_3 : decode cX0_openTillNine 3 = .ok (.aload_n 0, 1) := by decide +kernel
theorem dX0_openTillNine_4 : decode cX0_openTillNine 4 = .ok (.getfield 31, 3) := by decide +kernel
theorem dX0_openTillNine_7 : decode cX0_openTillNine 7 = .ok (.getfield 70, 3) := by decide +kernel
theorem dX0_openTillNine_10 : decode cX0_openTillNine 10 = .ok (.if_icmp .ge 21, 3) := by decide +kernel
theorem dX0_openTillNine_13 : decode cX0_openTillNine 13 = .ok (.aload_n 0, 1) := by decide +kernel
theorem dX0_openTillNine_14 : decode cX0_openTillNine 14 = .ok (.iload_n 2, 1) := by decide +kernel
theorem dX0_openTillNine_15 : decode cX0_openTillNine 15 = .ok (.iload_n 1, 1) := by decide +kernel
theorem dX0_openTillNine_16 : decode cX0_openTillNine 16 = .ok (.iload_n 2, 1) := by decide +kernel
theorem dX0_openTillNine_17 : decode cX0_openTillNine 17 = .ok (.ishr, 1) := by decide +kernel
theorem dX0_openTillNine_18 : decode cX0_openTillNine 18 = .ok (.iconst 1, 1) := by decide +kernel
theorem dX0_openTillNine_19 : decode cX0_openTillNine 19 = .ok (.iand, 1) := by decide +kernel
theorem dX0_openTillNine_20 : decode cX0_openTillNine 20 = .ok (.iconst 3, 1) := by decide +kernel
theorem dX0_openTillNine_21 : decode cX0_openTillNine 21 = .ok (.imul, 1) := by decide +kernel
theorem dX0_openTillNine_22 : decode cX0_openTillNine 22 = .ok (.invokevirtual 75, 3) := by decide +kernel
theorem dX0_openTillNine_25 : decode cX0_openTillNine 25 = .ok (.iinc 2 1, 3) := by decide +kernel
theorem dX0_openTillNine_28 : decode cX0_openTillNine 28 = .ok (.goto (-26), 3) := by decide +kernel
theorem dX0_openTillNine_31 : decode cX0_openTillNine 31 = .ok (.return_, 1) := by decide +kernel
theorem dX0_digit_0 : decode cX0_digit 0 = .ok (.iload_n 1, 1) := by decide +kernel
theorem dX0_digit_1 : decode cX0_digit 1 = .ok (.iconst 2, 1) := by decide +kernel
theorem dX0_digit_2 : decode cX0_digit 2 = .ok (.aload_n 0, 1) := by decide +kernel
theorem dX0_digit_3 : decode cX0_digit 3 = .ok (.getfield 31, 3) := by decide +kernel
theorem dX0_digit_6 : decode cX0_digit 6 = .ok (.getfield 70, 3) := by decide +kernel
theorem dX0_digit_9 : decode cX0_digit 9 = .ok (.iconst 1, 1) := by decide +kernel
theorem dX0_digit_10 : decode cX0_digit 10 = .ok (.isub, 1) := by decide +kernel
theorem dX0_digit_11 : decode cX0_digit 11 = .ok (.iload_n 2, 1) := by decide +kernel
theorem dX0_digit_12 : decode cX0_digit 12 = .ok (.isub, 1) := by decide +kernel
theorem dX0_digit_13 : decode cX0_digit 13 = .ok (.imul, 1) := by decide +kernel
theorem dX0_digit_14 : decode cX0_digit 14 = .ok (.ishr, 1) := by decide +kernel
theorem dX0_digit_15 : decode cX0_digit 15 = .ok (.iconst 3, 1) := by decide +kernel
theorem dX0_digit_16 : decode cX0_digit 16 = .ok (.iand, 1) := by decide +kernel
theorem dX0_digit_17 : decode cX0_digit 17 = .ok (.ireturn, 1) := by decide +kernel
theorem dX0_profiles_0 : decode cX0_profiles 0 = .ok (.iconst 1, 1) := by decide +kernel
theorem dX0_profiles_1 : decode cX0_profiles 1 = .ok (.iconst 2, 1) := by decide +kernel
theorem dX0_profiles_2 : decode cX0_profiles 2 = .ok (.aload_n 0, 1) := by decide +kernel
theorem dX0_profiles_3 : decode cX0_profiles 3 = .ok (.getfield 31, 3) := by decide +kernel
theorem dX0_profiles_6 : decode cX0_profiles 6 = .ok (.getfield 70, 3) := by decide +kernel
theorem dX0_profiles_9 : decode cX0_profiles 9 = .ok (.imul, 1) := by decide +kernel
theorem dX0_profiles_10 : decode cX0_profiles 10 = .ok (.ishl, 1) := by decide +kernel
theorem dX0_profiles_11 : decode cX0_profiles 11 = .ok (.ireturn, 1) := by decide +kernel
theorem dX0_place_0 : decode cX0_place 0 = .ok (.iconst 0, 1) := by decide +kernel
theorem dX0_place_1 : decode cX0_place 1 = .ok (.istore_n 2, 1) := by decide +kernel
theorem dX0_place_2 : decode cX0_place 2 = .ok (.iload_n 2, 1) := by decide +kernel
theorem dX0_place_3 : decode cX0_place 3 = .ok (.aload_n 0, 1) := by decide +kernel
theorem dX0_place_4 : decode cX0_place 4 = .ok (.getfield 31, 3) := by decide +kernel
theorem dX0_place_7 : decode cX0_place 7 = .ok (.getfield 70, 3) := by decide +kernel
theorem dX0_place_10 : decode cX0_place 10 = .ok (.if_icmp .ge 20, 3) := by decide +kernel
theorem dX0_place_13 : decode cX0_place 13 = .ok (.aload_n 0, 1) := by decide +kernel
theorem dX0_place_14 : decode cX0_place 14 = .ok (.iload_n 2, 1) := by decide +kernel
theorem dX0_place_15 : decode cX0_place 15 = .ok (.aload_n 0, 1) := by decide +kernel
theorem dX0_place_16 : decode cX0_place 16 = .ok (.iload_n 1, 1) := by decide +kernel
theorem dX0_place_17 : decode cX0_place 17 = .ok (.iload_n 2, 1) := by decide +kernel
theorem dX0_place_18 : decode cX0_place 18 = .ok (.invokevirtual 82, 3) := by decide +kernel
theorem dX0_place_21 : decode cX0_place 21 = .ok (.invokevirtual 75, 3) := by decide +kernel
theorem dX0_place_24 : decode cX0_place 24 = .ok (.iinc 2 1, 3) := by decide +kernel
theorem dX0_place_27 : decode cX0_place 27 = .ok (.goto (-25), 3) := by decide +kernel
theorem dX0_place_30 : decode cX0_place 30 = .ok (.return_, 1) := by decide +kernel
theorem dX0_advance_0 : decode cX0_advance 0 = .ok (.aload_n 0, 1) := by decide +kernel
theorem dX0_advance_1 : decode cX0_advance 1 = .ok (.getfield 31, 3) := by decide +kernel
theorem dX0_advance_4 : decode cX0_advance 4 = .ok (.getfield 70, 3) := by decide +kernel
theorem dX0_advance_7 : decode cX0_advance 7 = .ok (.iconst 1, 1) := by decide +kernel
theorem dX0_advance_8 : decode cX0_advance 8 = .ok (.isub, 1) := by decide +kernel
theorem dX0_advance_9 : decode cX0_advance 9 = .ok (.istore_n 1, 1) := by decide +kernel
theorem dX0_advance_10 : decode cX0_advance 10 = .ok (.iload_n 1, 1) := by decide +kernel
theorem dX0_advance_11 : decode cX0_advance 11 = .ok (.ifCond .lt 39, 3) := by decide +kernel
theorem dX0_advance_14 : decode cX0_advance 14 = .ok (.aload_n 0, 1) := by decide +kernel
theorem dX0_advance_15 : decode cX0_advance 15 = .ok (.getfield 9, 3) := by decide +kernel
theorem dX0_advance_18 : decode cX0_advance 18 = .ok (.iload_n 1, 1) := by decide +kernel
theorem dX0_advance_19 : decode cX0_advance 19 = .ok (.iaload, 1) := by decide +kernel
theorem dX0_advance_20 : decode cX0_advance 20 = .ok (.iconst 3, 1) := by decide +kernel
theorem dX0_advance_21 : decode cX0_advance 21 = .ok (.if_icmp .ge 17, 3) := by decide +kernel
theorem dX0_advance_24 : decode cX0_advance 24 = .ok (.aload_n 0, 1) := by decide +kernel
theorem dX0_advance_25 : decode cX0_advance 25 = .ok (.iload_n 1, 1) := by decide +kernel
theorem dX0_advance_26 : decode cX0_advance 26 = .ok (.aload_n 0, 1) := by decide +kernel
theorem dX0_advance_27 : decode cX0_advance 27 = .ok (.getfield 9, 3) := by decide +kernel
theorem dX0_advance_30 : decode cX0_advance 30 = .ok (.iload_n 1, 1) := by decide +kernel
theorem dX0_advance_31 : decode cX0_advance 31 = .ok (.iaload, 1) := by decide +kernel
theorem dX0_advance_32 : decode cX0_advance 32 = .ok (.iconst 1, 1) := by decide +kernel
theorem dX0_advance_33 : decode cX0_advance 33 = .ok (.iadd, 1) := by decide +kernel
theorem dX0_advance_34 : decode cX0_advance 34 = .ok (.invokevirtual 75, 3) := by decide +kernel
theorem dX0_advance_37 : decode cX0_advance 37 = .ok (.return_, 1) := by decide +kernel
theorem dX0_advance_38 : decode cX0_advance 38 = .ok (.aload_n 0, 1) := by decide +kernel
theorem dX0_advance_39 : decode cX0_advance 39 = .ok (.iload_n 1, 1) := by decide +kernel
theorem dX0_advance_40 : decode cX0_advance 40 = .ok (.iconst 0, 1) := by decide +kernel
theorem dX0_advance_41 : decode cX0_advance 41 = .ok (.invokevirtual 75, 3) := by decide +kernel
theorem dX0_advance_44 : decode cX0_advance 44 = .ok (.iinc 1 (-1), 3) := by decide +kernel
theorem dX0_advance_47 : decode cX0_advance 47 = .ok (.goto (-37), 3) := by decide +kernel
theorem dX0_advance_50 : decode cX0_advance 50 = .ok (.return_, 1) := by decide +kernel
theorem dX0_taken_0 : decode cX0_taken 0 = .ok (.lconst 0, 1) := by decide +kernel
theorem dX0_taken_1 : decode cX0_taken 1 = .ok (.lstore_n 2, 1) := by decide +kernel
theorem dX0_taken_2 : decode cX0_taken 2 = .ok (.iconst 1, 1) := by decide +kernel
theorem dX0_taken_3 : decode cX0_taken 3 = .ok (.istore 4, 2) := by decide +kernel
theorem dX0_taken_5 : decode cX0_taken 5 = .ok (.iload 4, 2) := by decide +kernel
theorem dX0_taken_7 : decode cX0_taken 7 = .ok (.iconst 3, 1) := by decide +kernel
theorem dX0_taken_8 : decode cX0_taken 8 = .ok (.if_icmp .gt 46, 3) := by decide +kernel
theorem dX0_taken_11 : decode cX0_taken 11 = .ok (.lload_n 2, 1) := by decide +kernel
theorem dX0_taken_12 : decode cX0_taken 12 = .ok (.aload_n 0, 1) := by decide +kernel
theorem dX0_taken_13 : decode cX0_taken 13 = .ok (.getfield 35, 3) := by decide +kernel
theorem dX0_taken_16 : decode cX0_taken 16 = .ok (.getfield 86, 3) := by decide +kernel
theorem dX0_taken_19 : decode cX0_taken 19 = .ok (.iload 4, 2) := by decide +kernel
theorem dX0_taken_21 : decode cX0_taken 21 = .ok (.aload_n 0, 1) := by decide +kernel
theorem dX0_taken_22 : decode cX0_taken 22 = .ok (.getfield 24, 3) := by decide +kernel
theorem dX0_taken_25 : decode cX0_taken 25 = .ok (.iload 4, 2) := by decide +kernel
theorem dX0_taken_27 : decode cX0_taken 27 = .ok (.iaload, 1) := by decide +kernel
theorem dX0_taken_28 : decode cX0_taken 28 = .ok (.invokestatic 91, 3) := by decide +kernel
theorem dX0_taken_31 : decode cX0_taken 31 = .ok (.iload_n 1, 1) := by decide +kernel
theorem dX0_taken_32 : decode cX0_taken 32 = .ok (.iadd, 1) := by decide +kernel
theorem dX0_taken_33 : decode cX0_taken 33 = .ok (.laload, 1) := by decide +kernel
theorem dX0_taken_34 : decode cX0_taken 34 = .ok (.bipush 8, 2) := by decide +kernel
theorem dX0_taken_36 : decode cX0_taken 36 = .ok (.aload_n 0, 1) := by decide +kernel
theorem dX0_taken_37 : decode cX0_taken 37 = .ok (.getfield 18, 3) := by decide +kernel
theorem dX0_taken_40 : decode cX0_taken 40 = .ok (.iload 4, 2) := by decide +kernel
theorem dX0_taken_42 : decode cX0_taken 42 = .ok (.iaload, 1) := by decide +kernel
theorem dX0_taken_43 : decode cX0_taken 43 = .ok (.iadd, 1) := by decide +kernel
theorem dX0_taken_44 : decode cX0_taken 44 = .ok (.i2l, 1) := by decide +kernel
theorem dX0_taken_45 : decode cX0_taken 45 = .ok (.lmul, 1) := by decide +kernel
theorem dX0_taken_46 : decode cX0_taken 46 = .ok (.ladd, 1) := by decide +kernel
theorem dX0_taken_47 : decode cX0_taken 47 = .ok (.lstore_n 2, 1) := by decide +kernel
theorem dX0_taken_48 : decode cX0_taken 48 = .ok (.iinc 4 1, 3) := by decide +kernel
theorem dX0_taken_51 : decode cX0_taken 51 = .ok (.goto (-46), 3) := by decide +kernel
theorem dX0_taken_54 : decode cX0_taken 54 = .ok (.lload_n 2, 1) := by decide +kernel
theorem dX0_taken_55 : decode cX0_taken 55 = .ok (.lreturn, 1) := by decide +kernel
theorem dX0_burden_0 : decode cX0_burden 0 = .ok (.aload_n 0, 1) := by decide +kernel
theorem dX0_burden_1 : decode cX0_burden 1 = .ok (.getfield 31, 3) := by decide +kernel
theorem dX0_burden_4 : decode cX0_burden 4 = .ok (.getfield 94, 3) := by decide +kernel
theorem dX0_burden_7 : decode cX0_burden 7 = .ok (.iload_n 1, 1) := by decide +kernel
theorem dX0_burden_8 : decode cX0_burden 8 = .ok (.iaload, 1) := by decide +kernel
theorem dX0_burden_9 : decode cX0_burden 9 = .ok (.iload_n 2, 1) := by decide +kernel
theorem dX0_burden_10 : decode cX0_burden 10 = .ok (.imul, 1) := by decide +kernel
theorem dX0_burden_11 : decode cX0_burden 11 = .ok (.i2l, 1) := by decide +kernel
theorem dX0_burden_12 : decode cX0_burden 12 = .ok (.ldc2_w 97, 3) := by decide +kernel
theorem dX0_burden_15 : decode cX0_burden 15 = .ok (.lmul, 1) := by decide +kernel
theorem dX0_burden_16 : decode cX0_burden 16 = .ok (.lstore_n 3, 1) := by decide +kernel
theorem dX0_burden_17 : decode cX0_burden 17 = .ok (.iload_n 2, 1) := by decide +kernel
theorem dX0_burden_18 : decode cX0_burden 18 = .ok (.aload_n 0, 1) := by decide +kernel
theorem dX0_burden_19 : decode cX0_burden 19 = .ok (.getfield 51, 3) := by decide +kernel
theorem dX0_burden_22 : decode cX0_burden 22 = .ok (.if_icmp .le 28, 3) := by decide +kernel
theorem dX0_burden_25 : decode cX0_burden 25 = .ok (.aload_n 0, 1) := by decide +kernel
theorem dX0_burden_26 : decode cX0_burden 26 = .ok (.getfield 31, 3) := by decide +kernel
theorem dX0_burden_29 : decode cX0_burden 29 = .ok (.getfield 79, 3) := by decide +kernel
theorem dX0_burden_32 : decode cX0_burden 32 = .ok (.iload_n 1, 1) := by decide +kernel
theorem dX0_burden_33 : decode cX0_burden 33 = .ok (.iaload, 1) := by decide +kernel
theorem dX0_burden_34 : decode cX0_burden 34 = .ok (.aload_n 0, 1) := by decide +kernel
theorem dX0_burden_35 : decode cX0_burden 35 = .ok (.getfield 55, 3) := by decide +kernel
theorem dX0_burden_38 : decode cX0_burden 38 = .ok (.if_icmp .le 12, 3) := by decide +kernel
theorem dX0_burden_41 : decode cX0_burden 41 = .ok (.lload_n 3, 1) := by decide +kernel
theorem dX0_burden_42 : decode cX0_burden 42 = .ok (.aload_n 0, 1) := by decide +kernel
theorem dX0_burden_43 : decode cX0_burden 43 = .ok (.getfield 60, 3) := by decide +kernel
theorem dX0_burden_46 : decode cX0_burden 46 = .ok (.ladd, 1) := by decide +kernel
theorem dX0_burden_47 : decode cX0_burden 47 = .ok (.goto 4, 3) := by decide +kernel
theorem dX0_burden_50 : decode cX0_burden 50 = .ok (.lload_n 3, 1) := by decide +kernel
theorem dX0_burden_51 : decode cX0_burden 51 = .ok (.lreturn, 1) := by decide +kernel
theorem dX0_earning_0 : decode cX0_earning 0 = .ok (.aload_n 0, 1) := by decide +kernel
theorem dX0_earning_1 : decode cX0_earning 1 = .ok (.iload_n 1, 1) := by decide +kernel
theorem dX0_earning_2 : decode cX0_earning 2 = .ok (.invokevirtual 99, 3) := by decide +kernel
theorem dX0_earning_5 : decode cX0_earning 5 = .ok (.aload_n 0, 1) := by decide +kernel
theorem dX0_earning_6 : decode cX0_earning 6 = .ok (.iload_n 1, 1) := by decide +kernel
theorem dX0_earning_7 : decode cX0_earning 7 = .ok (.aload_n 0, 1) := by decide +kernel
theorem dX0_earning_8 : decode cX0_earning 8 = .ok (.getfield 9, 3) := by decide +kernel
theorem dX0_earning_11 : decode cX0_earning 11 = .ok (.iload_n 1, 1) := by decide +kernel
theorem dX0_earning_12 : decode cX0_earning 12 = .ok (.iaload, 1) := by decide +kernel
theorem dX0_earning_13 : decode cX0_earning 13 = .ok (.invokevirtual 103, 3) := by decide +kernel
theorem dX0_earning_16 : decode cX0_earning 16 = .ok (.lsub, 1) := by decide +kernel
theorem dX0_earning_17 : decode cX0_earning 17 = .ok (.lreturn, 1) := by decide +kernel
theorem dX0_together_0 : decode cX0_together 0 = .ok (.aload_n 0, 1) := by decide +kernel
theorem dX0_together_1 : decode cX0_together 1 = .ok (.iconst 5, 1) := by decide +kernel
theorem dX0_together_2 : decode cX0_together 2 = .ok (.invokevirtual 99, 3) := by decide +kernel
theorem dX0_together_5 : decode cX0_together 5 = .ok (.lstore_n 1, 1) := by decide +kernel
theorem dX0_together_6 : decode cX0_together 6 = .ok (.iconst 0, 1) := by decide +kernel
theorem dX0_together_7 : decode cX0_together 7 = .ok (.istore_n 3, 1) := by decide +kernel
theorem dX0_together_8 : decode cX0_together 8 = .ok (.iload_n 3, 1) := by decide +kernel
theorem dX0_together_9 : decode cX0_together 9 = .ok (.aload_n 0, 1) := by decide +kernel
theorem dX0_together_10 : decode cX0_together 10 = .ok (.getfield 31, 3) := by decide +kernel
theorem dX0_together_13 : decode cX0_together 13 = .ok (.getfield 70, 3) := by decide +kernel
theorem dX0_together_16 : decode cX0_together 16 = .ok (.if_icmp .ge 23, 3) := by decide +kernel
theorem dX0_together_19 : decode cX0_together 19 = .ok (.lload_n 1, 1) := by decide +kernel
theorem dX0_together_20 : decode cX0_together 20 = .ok (.aload_n 0, 1) := by decide +kernel
theorem dX0_together_21 : decode cX0_together 21 = .ok (.iload_n 3, 1) := by decide +kernel
theorem dX0_together_22 : decode cX0_together 22 = .ok (.aload_n 0, 1) := by decide +kernel
theorem dX0_together_23 : decode cX0_together 23 = .ok (.getfield 9, 3) := by decide +kernel
theorem dX0_together_26 : decode cX0_together 26 = .ok (.iload_n 3, 1) := by decide +kernel
theorem dX0_together_27 : decode cX0_together 27 = .ok (.iaload, 1) := by decide +kernel
theorem dX0_together_28 : decode cX0_together 28 = .ok (.invokevirtual 103, 3) := by decide +kernel
theorem dX0_together_31 : decode cX0_together 31 = .ok (.lsub, 1) := by decide +kernel
theorem dX0_together_32 : decode cX0_together 32 = .ok (.lstore_n 1, 1) := by decide +kernel
theorem dX0_together_33 : decode cX0_together 33 = .ok (.iinc 3 1, 3) := by decide +kernel
theorem dX0_together_36 : decode cX0_together 36 = .ok (.goto (-28), 3) := by decide +kernel
theorem dX0_together_39 : decode cX0_together 39 = .ok (.lload_n 1, 1) := by decide +kernel
theorem dX0_together_40 : decode cX0_together 40 = .ok (.lreturn, 1) := by decide +kernel
theorem dX0_aim_0 : decode cX0_aim 0 = .ok (.iload_n 1, 1) := by decide +kernel
theorem dX0_aim_1 : decode cX0_aim 1 = .ok (.ifCond .ne 10, 3) := by decide +kernel
theorem dX0_aim_4 : decode cX0_aim 4 = .ok (.aload_n 0, 1) := by decide +kernel
theorem dX0_aim_5 : decode cX0_aim 5 = .ok (.invokevirtual 107, 3) := by decide +kernel
theorem dX0_aim_8 : decode cX0_aim 8 = .ok (.goto 9, 3) := by decide +kernel
theorem dX0_aim_11 : decode cX0_aim 11 = .ok (.aload_n 0, 1) := by decide +kernel
theorem dX0_aim_12 : decode cX0_aim 12 = .ok (.bipush 6, 2) := by decide +kernel
theorem dX0_aim_14 : decode cX0_aim 14 = .ok (.invokevirtual 99, 3) := by decide +kernel
theorem dX0_aim_17 : decode cX0_aim 17 = .ok (.lreturn, 1) := by decide +kernel
theorem dX0_weigh_0 : decode cX0_weigh 0 = .ok (.iconst 1, 1) := by decide +kernel
theorem dX0_weigh_1 : decode cX0_weigh 1 = .ok (.iload_n 1, 1) := by decide +kernel
theorem dX0_weigh_2 : decode cX0_weigh 2 = .ok (.ishl, 1) := by decide +kernel
theorem dX0_weigh_3 : decode cX0_weigh 3 = .ok (.istore_n 2, 1) := by decide +kernel
theorem dX0_weigh_4 : decode cX0_weigh 4 = .ok (.lconst 0, 1) := by decide +kernel
theorem dX0_weigh_5 : decode cX0_weigh 5 = .ok (.lstore_n 3, 1) := by decide +kernel
theorem dX0_weigh_6 : decode cX0_weigh 6 = .ok (.iconst 1, 1) := by decide +kernel
theorem dX0_weigh_7 : decode cX0_weigh 7 = .ok (.istore 5, 2) := by decide +kernel
theorem dX0_weigh_9 : decode cX0_weigh 9 = .ok (.iload 5, 2) := by decide +kernel
theorem dX0_weigh_11 : decode cX0_weigh 11 = .ok (.iconst 3, 1) := by decide +kernel
theorem dX0_weigh_12 : decode cX0_weigh 12 = .ok (.if_icmp .gt 103, 3) := by decide +kernel
theorem dX0_weigh_15 : decode cX0_weigh 15 = .ok (.aload_n 0, 1) := by decide +kernel
theorem dX0_weigh_16 : decode cX0_weigh 16 = .ok (.getfield 24, 3) := by decide +kernel
theorem dX0_weigh_19 : decode cX0_weigh 19 = .ok (.iload 5, 2) := by decide +kernel
theorem dX0_weigh_21 : decode cX0_weigh 21 = .ok (.iaload, 1) := by decide +kernel
theorem dX0_weigh_22 : decode cX0_weigh 22 = .ok (.iload_n 2, 1) := by decide +kernel
theorem dX0_weigh_23 : decode cX0_weigh 23 = .ok (.iconst (-1), 1) := by decide +kernel
theorem dX0_weigh_24 : decode cX0_weigh 24 = .ok (.ixor, 1) := by decide +kernel
theorem dX0_weigh_25 : decode cX0_weigh 25 = .ok (.iand, 1) := by decide +kernel
theorem dX0_weigh_26 : decode cX0_weigh 26 = .ok (.istore 6, 2) := by decide +kernel
theorem dX0_weigh_28 : decode cX0_weigh 28 = .ok (.aload_n 0, 1) := by decide +kernel
theorem dX0_weigh_29 : decode cX0_weigh 29 = .ok (.getfield 35, 3) := by decide +kernel
theorem dX0_weigh_32 : decode cX0_weigh 32 = .ok (.getfield 86, 3) := by decide +kernel
theorem dX0_weigh_35 : decode cX0_weigh 35 = .ok (.iload 5, 2) := by decide +kernel
theorem dX0_weigh_37 : decode cX0_weigh 37 = .ok (.iload 6, 2) := by decide +kernel
theorem dX0_weigh_39 : decode cX0_weigh 39 = .ok (.invokestatic 91, 3) := by decide +kernel
theorem dX0_weigh_42 : decode cX0_weigh 42 = .ok (.iload_n 1, 1) := by decide +kernel
theorem dX0_weigh_43 : decode cX0_weigh 43 = .ok (.iadd, 1) := by decide +kernel
theorem dX0_weigh_44 : decode cX0_weigh 44 = .ok (.laload, 1) := by decide +kernel
theorem dX0_weigh_45 : decode cX0_weigh 45 = .ok (.bipush 8, 2) := by decide +kernel
theorem dX0_weigh_47 : decode cX0_weigh 47 = .ok (.aload_n 0, 1) := by decide +kernel
theorem dX0_weigh_48 : decode cX0_weigh 48 = .ok (.getfield 18, 3) := by decide +kernel
theorem dX0_weigh_51 : decode cX0_weigh 51 = .ok (.iload 5, 2) := by decide +kernel
theorem dX0_weigh_53 : decode cX0_weigh 53 = .ok (.iaload, 1) := by decide +kernel
theorem dX0_weigh_54 : decode cX0_weigh 54 = .ok (.iadd, 1) := by decide +kernel
theorem dX0_weigh_55 : decode cX0_weigh 55 = .ok (.i2l, 1) := by decide +kernel
theorem dX0_weigh_56 : decode cX0_weigh 56 = .ok (.lmul, 1) := by decide +kernel
theorem dX0_weigh_57 : decode cX0_weigh 57 = .ok (.lstore 7, 2) := by decide +kernel
theorem dX0_weigh_59 : decode cX0_weigh 59 = .ok (.aload_n 0, 1) := by decide +kernel
theorem dX0_weigh_60 : decode cX0_weigh 60 = .ok (.getfield 35, 3) := by decide +kernel
theorem dX0_weigh_63 : decode cX0_weigh 63 = .ok (.getfield 86, 3) := by decide +kernel
theorem dX0_weigh_66 : decode cX0_weigh 66 = .ok (.iload 5, 2) := by decide +kernel
theorem dX0_weigh_68 : decode cX0_weigh 68 = .ok (.iload 6, 2) := by decide +kernel
theorem dX0_weigh_70 : decode cX0_weigh 70 = .ok (.iload_n 2, 1) := by decide +kernel
theorem dX0_weigh_71 : decode cX0_weigh 71 = .ok (.ior, 1) := by decide +kernel
theorem dX0_weigh_72 : decode cX0_weigh 72 = .ok (.invokestatic 91, 3) := by decide +kernel
theorem dX0_weigh_75 : decode cX0_weigh 75 = .ok (.iload_n 1, 1) := by decide +kernel
theorem dX0_weigh_76 : decode cX0_weigh 76 = .ok (.iadd, 1) := by decide +kernel
theorem dX0_weigh_77 : decode cX0_weigh 77 = .ok (.laload, 1) := by decide +kernel
theorem dX0_weigh_78 : decode cX0_weigh 78 = .ok (.bipush 8, 2) := by decide +kernel
theorem dX0_weigh_80 : decode cX0_weigh 80 = .ok (.aload_n 0, 1) := by decide +kernel
theorem dX0_weigh_81 : decode cX0_weigh 81 = .ok (.getfield 18, 3) := by decide +kernel
theorem dX0_weigh_84 : decode cX0_weigh 84 = .ok (.iload 5, 2) := by decide +kernel
theorem dX0_weigh_86 : decode cX0_weigh 86 = .ok (.iaload, 1) := by decide +kernel
theorem dX0_weigh_87 : decode cX0_weigh 87 = .ok (.iadd, 1) := by decide +kernel
theorem dX0_weigh_88 : decode cX0_weigh 88 = .ok (.i2l, 1) := by decide +kernel
theorem dX0_weigh_89 : decode cX0_weigh 89 = .ok (.lmul, 1) := by decide +kernel
theorem dX0_weigh_90 : decode cX0_weigh 90 = .ok (.lstore 9, 2) := by decide +kernel
theorem dX0_weigh_92 : decode cX0_weigh 92 = .ok (.lload_n 3, 1) := by decide +kernel
theorem dX0_weigh_93 : decode cX0_weigh 93 = .ok (.lload 7, 2) := by decide +kernel
theorem dX0_weigh_95 : decode cX0_weigh 95 = .ok (.ladd, 1) := by decide +kernel
theorem dX0_weigh_96 : decode cX0_weigh 96 = .ok (.lstore_n 3, 1) := by decide +kernel
theorem dX0_weigh_97 : decode cX0_weigh 97 = .ok (.aload_n 0, 1) := by decide +kernel
theorem dX0_weigh_98 : decode cX0_weigh 98 = .ok (.getfield 27, 3) := by decide +kernel
theorem dX0_weigh_101 : decode cX0_weigh 101 = .ok (.iload 5, 2) := by decide +kernel
theorem dX0_weigh_103 : decode cX0_weigh 103 = .ok (.lload 9, 2) := by decide +kernel
theorem dX0_weigh_105 : decode cX0_weigh 105 = .ok (.lload 7, 2) := by decide +kernel
theorem dX0_weigh_107 : decode cX0_weigh 107 = .ok (.lsub, 1) := by decide +kernel
theorem dX0_weigh_108 : decode cX0_weigh 108 = .ok (.lastore, 1) := by decide +kernel
theorem dX0_weigh_109 : decode cX0_weigh 109 = .ok (.iinc 5 1, 3) := by decide +kernel
theorem dX0_weigh_112 : decode cX0_weigh 112 = .ok (.goto (-103), 3) := by decide +kernel
theorem dX0_weigh_115 : decode cX0_weigh 115 = .ok (.aload_n 0, 1) := by decide +kernel
theorem dX0_weigh_116 : decode cX0_weigh 116 = .ok (.getfield 27, 3) := by decide +kernel
theorem dX0_weigh_119 : decode cX0_weigh 119 = .ok (.iconst 0, 1) := by decide +kernel
theorem dX0_weigh_120 : decode cX0_weigh 120 = .ok (.lload_n 3, 1) := by decide +kernel
theorem dX0_weigh_121 : decode cX0_weigh 121 = .ok (.lastore, 1) := by decide +kernel
theorem dX0_weigh_122 : decode cX0_weigh 122 = .ok (.iconst 1, 1) := by decide +kernel
theorem dX0_weigh_123 : decode cX0_weigh 123 = .ok (.istore 5, 2) := by decide +kernel
theorem dX0_weigh_125 : decode cX0_weigh 125 = .ok (.iload 5, 2) := by decide +kernel
theorem dX0_weigh_127 : decode cX0_weigh 127 = .ok (.iconst 3, 1) := by decide +kernel
theorem dX0_weigh_128 : decode cX0_weigh 128 = .ok (.if_icmp .gt 35, 3) := by decide +kernel
theorem dX0_weigh_131 : decode cX0_weigh 131 = .ok (.lload_n 3, 1) := by decide +kernel
theorem dX0_weigh_132 : decode cX0_weigh 132 = .ok (.aload_n 0, 1) := by decide +kernel
theorem dX0_weigh_133 : decode cX0_weigh 133 = .ok (.getfield 27, 3) := by decide +kernel
theorem dX0_weigh_136 : decode cX0_weigh 136 = .ok (.iload 5, 2) := by decide +kernel
theorem dX0_weigh_138 : decode cX0_weigh 138 = .ok (.laload, 1) := by decide +kernel
theorem dX0_weigh_139 : decode cX0_weigh 139 = .ok (.ladd, 1) := by decide +kernel
theorem dX0_weigh_140 : decode cX0_weigh 140 = .ok (.lstore_n 3, 1) := by decide +kernel
theorem dX0_weigh_141 : decode cX0_weigh 141 = .ok (.aload_n 0, 1) := by decide +kernel
theorem dX0_weigh_142 : decode cX0_weigh 142 = .ok (.getfield 27, 3) := by decide +kernel
theorem dX0_weigh_145 : decode cX0_weigh 145 = .ok (.iload 5, 2) := by decide +kernel
theorem dX0_weigh_147 : decode cX0_weigh 147 = .ok (.lload_n 3, 1) := by decide +kernel
theorem dX0_weigh_148 : decode cX0_weigh 148 = .ok (.aload_n 0, 1) := by decide +kernel
theorem dX0_weigh_149 : decode cX0_weigh 149 = .ok (.iload_n 1, 1) := by decide +kernel
theorem dX0_weigh_150 : decode cX0_weigh 150 = .ok (.iload 5, 2) := by decide +kernel
theorem dX0_weigh_152 : decode cX0_weigh 152 = .ok (.invokevirtual 103, 3) := by decide +kernel
theorem dX0_weigh_155 : decode cX0_weigh 155 = .ok (.lsub, 1) := by decide +kernel
theorem dX0_weigh_156 : decode cX0_weigh 156 = .ok (.lastore, 1) := by decide +kernel
theorem dX0_weigh_157 : decode cX0_weigh 157 = .ok (.iinc 5 1, 3) := by decide +kernel
theorem dX0_weigh_160 : decode cX0_weigh 160 = .ok (.goto (-35), 3) := by decide +kernel
theorem dX0_weigh_163 : decode cX0_weigh 163 = .ok (.return_, 1) := by decide +kernel
theorem dX0_reply_0 : decode cX0_reply 0 = .ok (.aload_n 0, 1) := by decide +kernel
theorem dX0_reply_1 : decode cX0_reply 1 = .ok (.iload_n 1, 1) := by decide +kernel
theorem dX0_reply_2 : decode cX0_reply 2 = .ok (.invokevirtual 111, 3) := by decide +kernel
theorem dX0_reply_5 : decode cX0_reply 5 = .ok (.iconst 0, 1) := by decide +kernel
theorem dX0_reply_6 : decode cX0_reply 6 = .ok (.istore_n 2, 1) := by decide +kernel
theorem dX0_reply_7 : decode cX0_reply 7 = .ok (.iconst 1, 1) := by decide +kernel
theorem dX0_reply_8 : decode cX0_reply 8 = .ok (.istore_n 3, 1) := by decide +kernel
theorem dX0_reply_9 : decode cX0_reply 9 = .ok (.iload_n 3, 1) := by decide +kernel
theorem dX0_reply_10 : decode cX0_reply 10 = .ok (.aload_n 0, 1) := by decide +kernel
theorem dX0_reply_11 : decode cX0_reply 11 = .ok (.getfield 15, 3) := by decide +kernel
theorem dX0_reply_14 : decode cX0_reply 14 = .ok (.iload_n 1, 1) := by decide +kernel
theorem dX0_reply_15 : decode cX0_reply 15 = .ok (.iaload, 1) := by decide +kernel
theorem dX0_reply_16 : decode cX0_reply 16 = .ok (.if_icmp .gt 27, 3) := by decide +kernel
theorem dX0_reply_19 : decode cX0_reply 19 = .ok (.aload_n 0, 1) := by decide +kernel
theorem dX0_reply_20 : decode cX0_reply 20 = .ok (.getfield 27, 3) := by decide +kernel
theorem dX0_reply_23 : decode cX0_reply 23 = .ok (.iload_n 3, 1) := by decide +kernel
theorem dX0_reply_24 : decode cX0_reply 24 = .ok (.laload, 1) := by decide +kernel
theorem dX0_reply_25 : decode cX0_reply 25 = .ok (.aload_n 0, 1) := by decide +kernel
theorem dX0_reply_26 : decode cX0_reply 26 = .ok (.getfield 27, 3) := by decide +kernel
theorem dX0_reply_29 : decode cX0_reply 29 = .ok (.iload_n 2, 1) := by decide +kernel
theorem dX0_reply_30 : decode cX0_reply 30 = .ok (.laload, 1) := by decide +kernel
theorem dX0_reply_31 : decode cX0_reply 31 = .ok (.lcmp, 1) := by decide +kernel
theorem dX0_reply_32 : decode cX0_reply 32 = .ok (.ifCond .le 5, 3) := by decide +kernel
theorem dX0_reply_35 : decode cX0_reply 35 = .ok (.iload_n 3, 1) := by decide +kernel
theorem dX0_reply_36 : decode cX0_reply 36 = .ok (.istore_n 2, 1) := by decide +kernel
theorem dX0_reply_37 : decode cX0_reply 37 = .ok (.iinc 3 1, 3) := by decide +kernel
theorem dX0_reply_40 : decode cX0_reply 40 = .ok (.goto (-31), 3) := by decide +kernel
theorem dX0_reply_43 : decode cX0_reply 43 = .ok (.iload_n 2, 1) := by decide +kernel
theorem dX0_reply_44 : decode cX0_reply 44 = .ok (.ireturn, 1) := by decide +kernel
theorem dX0_runDown_0 : decode cX0_runDown 0 = .ok (.iconst 0, 1) := by decide +kernel
theorem dX0_runDown_1 : decode cX0_runDown 1 = .ok (.istore_n 1, 1) := by decide +kernel
theorem dX0_runDown_2 : decode cX0_runDown 2 = .ok (.iload_n 1, 1) := by decide +kernel
theorem dX0_runDown_3 : decode cX0_runDown 3 = .ok (.bipush 40, 2) := by decide +kernel
theorem dX0_runDown_5 : decode cX0_runDown 5 = .ok (.if_icmp .ge 87, 3) := by decide +kernel
theorem dX0_runDown_8 : decode cX0_runDown 8 = .ok (.iconst 0, 1) := by decide +kernel
theorem dX0_runDown_9 : decode cX0_runDown 9 = .ok (.istore_n 2, 1) := by decide +kernel
theorem dX0_runDown_10 : decode cX0_runDown 10 = .ok (.iconst 0, 1) := by decide +kernel
theorem dX0_runDown_11 : decode cX0_runDown 11 = .ok (.istore_n 3, 1) := by decide +kernel
theorem dX0_runDown_12 : decode cX0_runDown 12 = .ok (.iload_n 3, 1) := by decide +kernel
theorem dX0_runDown_13 : decode cX0_runDown 13 = .ok (.aload_n 0, 1) := by decide +kernel
theorem dX0_runDown_14 : decode cX0_runDown 14 = .ok (.getfield 31, 3) := by decide +kernel
theorem dX0_runDown_17 : decode cX0_runDown 17 = .ok (.getfield 70, 3) := by decide +kernel
theorem dX0_runDown_20 : decode cX0_runDown 20 = .ok (.if_icmp .ge 55, 3) := by decide +kernel
theorem dX0_runDown_23 : decode cX0_runDown 23 = .ok (.aload_n 0, 1) := by decide +kernel
theorem dX0_runDown_24 : decode cX0_runDown 24 = .ok (.iload_n 3, 1) := by decide +kernel
theorem dX0_runDown_25 : decode cX0_runDown 25 = .ok (.invokevirtual 115, 3) := by decide +kernel
theorem dX0_runDown_28 : decode cX0_runDown 28 = .ok (.istore 4, 2) := by decide +kernel
theorem dX0_runDown_30 : decode cX0_runDown 30 = .ok (.iload_n 3, 1) := by decide +kernel
theorem dX0_runDown_31 : decode cX0_runDown 31 = .ok (.aload_n 0, 1) := by decide +kernel
theorem dX0_runDown_32 : decode cX0_runDown 32 = .ok (.getfield 64, 3) := by decide +kernel
theorem dX0_runDown_35 : decode cX0_runDown 35 = .ok (.if_icmp .eq 34, 3) := by decide +kernel
theorem dX0_runDown_38 : decode cX0_runDown 38 = .ok (.aload_n 0, 1) := by decide +kernel
theorem dX0_runDown_39 : decode cX0_runDown 39 = .ok (.getfield 27, 3) := by decide +kernel
theorem dX0_runDown_42 : decode cX0_runDown 42 = .ok (.iload 4, 2) := by decide +kernel
theorem dX0_runDown_44 : decode cX0_runDown 44 = .ok (.laload, 1) := by decide +kernel
theorem dX0_runDown_45 : decode cX0_runDown 45 = .ok (.aload_n 0, 1) := by decide +kernel
theorem dX0_runDown_46 : decode cX0_runDown 46 = .ok (.getfield 27, 3) := by decide +kernel
theorem dX0_runDown_49 : decode cX0_runDown 49 = .ok (.aload_n 0, 1) := by decide +kernel
theorem dX0_runDown_50 : decode cX0_runDown 50 = .ok (.getfield 9, 3) := by decide +kernel
theorem dX0_runDown_53 : decode cX0_runDown 53 = .ok (.iload_n 3, 1) := by decide +kernel
theorem dX0_runDown_54 : decode cX0_runDown 54 = .ok (.iaload, 1) := by decide +kernel
theorem dX0_runDown_55 : decode cX0_runDown 55 = .ok (.laload, 1) := by decide +kernel
theorem dX0_runDown_56 : decode cX0_runDown 56 = .ok (.lcmp, 1) := by decide +kernel
theorem dX0_runDown_57 : decode cX0_runDown 57 = .ok (.ifCond .le 12, 3) := by decide +kernel
theorem dX0_runDown_60 : decode cX0_runDown 60 = .ok (.aload_n 0, 1) := by decide +kernel
theorem dX0_runDown_61 : decode cX0_runDown 61 = .ok (.iload_n 3, 1) := by decide +kernel
theorem dX0_runDown_62 : decode cX0_runDown 62 = .ok (.iload 4, 2) := by decide +kernel
theorem dX0_runDown_64 : decode cX0_runDown 64 = .ok (.invokevirtual 75, 3) := by decide +kernel
theorem dX0_runDown_67 : decode cX0_runDown 67 = .ok (.iconst 1, 1) := by decide +kernel
theorem dX0_runDown_68 : decode cX0_runDown 68 = .ok (.istore_n 2, 1) := by decide +kernel
theorem dX0_runDown_69 : decode cX0_runDown 69 = .ok (.iinc 3 1, 3) := by decide +kernel
theorem dX0_runDown_72 : decode cX0_runDown 72 = .ok (.goto (-60), 3) := by decide +kernel
theorem dX0_runDown_75 : decode cX0_runDown 75 = .ok (.iload_n 2, 1) := by decide +kernel
theorem dX0_runDown_76 : decode cX0_runDown 76 = .ok (.ifCond .ne 10, 3) := by decide +kernel
theorem dX0_runDown_79 : decode cX0_runDown 79 = .ok (.aload_n 0, 1) := by decide +kernel
theorem dX0_runDown_80 : decode cX0_runDown 80 = .ok (.iload_n 1, 1) := by decide +kernel
theorem dX0_runDown_81 : decode cX0_runDown 81 = .ok (.putfield 67, 3) := by decide +kernel
theorem dX0_runDown_84 : decode cX0_runDown 84 = .ok (.iconst 1, 1) := by decide +kernel
theorem dX0_runDown_85 : decode cX0_runDown 85 = .ok (.ireturn, 1) := by decide +kernel
theorem dX0_runDown_86 : decode cX0_runDown 86 = .ok (.iinc 1 1, 3) := by decide +kernel
theorem dX0_runDown_89 : decode cX0_runDown 89 = .ok (.goto (-87), 3) := by decide +kernel
theorem dX0_runDown_92 : decode cX0_runDown 92 = .ok (.iconst 0, 1) := by decide +kernel
theorem dX0_runDown_93 : decode cX0_runDown 93 = .ok (.ireturn, 1) := by decide +kernel
theorem dX0_firstGainer_0 : decode cX0_firstGainer 0 = .ok (.iconst 0, 1) := by decide +kernel
theorem dX0_firstGainer_1 : decode cX0_firstGainer 1 = .ok (.istore_n 1, 1) := by decide +kernel
theorem dX0_firstGainer_2 : decode cX0_firstGainer 2 = .ok (.iload_n 1, 1) := by decide +kernel
theorem dX0_firstGainer_3 : decode cX0_firstGainer 3 = .ok (.aload_n 0, 1) := by decide +kernel
theorem dX0_firstGainer_4 : decode cX0_firstGainer 4 = .ok (.getfield 31, 3) := by decide +kernel
theorem dX0_firstGainer_7 : decode cX0_firstGainer 7 = .ok (.getfield 70, 3) := by decide +kernel
theorem dX0_firstGainer_10 : decode cX0_firstGainer 10 = .ok (.if_icmp .ge 38, 3) := by decide +kernel
theorem dX0_firstGainer_13 : decode cX0_firstGainer 13 = .ok (.aload_n 0, 1) := by decide +kernel
theorem dX0_firstGainer_14 : decode cX0_firstGainer 14 = .ok (.iload_n 1, 1) := by decide +kernel
theorem dX0_firstGainer_15 : decode cX0_firstGainer 15 = .ok (.invokevirtual 115, 3) := by decide +kernel
theorem dX0_firstGainer_18 : decode cX0_firstGainer 18 = .ok (.istore_n 2, 1) := by decide +kernel
theorem dX0_firstGainer_19 : decode cX0_firstGainer 19 = .ok (.aload_n 0, 1) := by decide +kernel
theorem dX0_firstGainer_20 : decode cX0_firstGainer 20 = .ok (.getfield 27, 3) := by decide +kernel
theorem dX0_firstGainer_23 : decode cX0_firstGainer 23 = .ok (.iload_n 2, 1) := by decide +kernel
theorem dX0_firstGainer_24 : decode cX0_firstGainer 24 = .ok (.laload, 1) := by decide +kernel
theorem dX0_firstGainer_25 : decode cX0_firstGainer 25 = .ok (.aload_n 0, 1) := by decide +kernel
theorem dX0_firstGainer_26 : decode cX0_firstGainer 26 = .ok (.getfield 27, 3) := by decide +kernel
theorem dX0_firstGainer_29 : decode cX0_firstGainer 29 = .ok (.aload_n 0, 1) := by decide +kernel
theorem dX0_firstGainer_30 : decode cX0_firstGainer 30 = .ok (.getfield 9, 3) := by decide +kernel
theorem dX0_firstGainer_33 : decode cX0_firstGainer 33 = .ok (.iload_n 1, 1) := by decide +kernel
theorem dX0_firstGainer_34 : decode cX0_firstGainer 34 = .ok (.iaload, 1) := by decide +kernel
theorem dX0_firstGainer_35 : decode cX0_firstGainer 35 = .ok (.laload, 1) := by decide +kernel
theorem dX0_firstGainer_36 : decode cX0_firstGainer 36 = .ok (.lcmp, 1) := by decide +kernel
theorem dX0_firstGainer_37 : decode cX0_firstGainer 37 = .ok (.ifCond .le 5, 3) := by decide +kernel
theorem dX0_firstGainer_40 : decode cX0_firstGainer 40 = .ok (.iload_n 1, 1) := by decide +kernel
theorem dX0_firstGainer_41 : decode cX0_firstGainer 41 = .ok (.ireturn, 1) := by decide +kernel
theorem dX0_firstGainer_42 : decode cX0_firstGainer 42 = .ok (.iinc 1 1, 3) := by decide +kernel
theorem dX0_firstGainer_45 : decode cX0_firstGainer 45 = .ok (.goto (-43), 3) := by decide +kernel
theorem dX0_firstGainer_48 : decode cX0_firstGainer 48 = .ok (.iconst (-1), 1) := by decide +kernel
theorem dX0_firstGainer_49 : decode cX0_firstGainer 49 = .ok (.ireturn, 1) := by decide +kernel
theorem dX0_limitBound_0 : decode cX0_limitBound 0 = .ok (.iconst 0, 1) := by decide +kernel
theorem dX0_limitBound_1 : decode cX0_limitBound 1 = .ok (.istore_n 2, 1) := by decide +kernel
theorem dX0_limitBound_2 : decode cX0_limitBound 2 = .ok (.iload_n 2, 1) := by decide +kernel
theorem dX0_limitBound_3 : decode cX0_limitBound 3 = .ok (.aload_n 0, 1) := by decide +kernel
theorem dX0_limitBound_4 : decode cX0_limitBound 4 = .ok (.getfield 31, 3) := by decide +kernel
theorem dX0_limitBound_7 : decode cX0_limitBound 7 = .ok (.getfield 70, 3) := by decide +kernel
theorem dX0_limitBound_10 : decode cX0_limitBound 10 = .ok (.if_icmp .ge 28, 3) := by decide +kernel
theorem dX0_limitBound_13 : decode cX0_limitBound 13 = .ok (.aload_n 0, 1) := by decide +kernel
theorem dX0_limitBound_14 : decode cX0_limitBound 14 = .ok (.getfield 15, 3) := by decide +kernel
theorem dX0_limitBound_17 : decode cX0_limitBound 17 = .ok (.iload_n 2, 1) := by decide +kernel
theorem dX0_limitBound_18 : decode cX0_limitBound 18 = .ok (.aload_n 0, 1) := by decide +kernel
theorem dX0_limitBound_19 : decode cX0_limitBound 19 = .ok (.iload_n 2, 1) := by decide +kernel
theorem dX0_limitBound_20 : decode cX0_limitBound 20 = .ok (.invokevirtual 119, 3) := by decide +kernel
theorem dX0_limitBound_23 : decode cX0_limitBound 23 = .ok (.ifCond .eq 7, 3) := by decide +kernel
theorem dX0_limitBound_26 : decode cX0_limitBound 26 = .ok (.iload_n 1, 1) := by decide +kernel
theorem dX0_limitBound_27 : decode cX0_limitBound 27 = .ok (.goto 4, 3) := by decide +kernel
theorem dX0_limitBound_30 : decode cX0_limitBound 30 = .ok (.iconst 3, 1) := by decide +kernel
theorem dX0_limitBound_31 : decode cX0_limitBound 31 = .ok (.iastore, 1) := by decide +kernel
theorem dX0_limitBound_32 : decode cX0_limitBound 32 = .ok (.iinc 2 1, 3) := by decide +kernel
theorem dX0_limitBound_35 : decode cX0_limitBound 35 = .ok (.goto (-33), 3) := by decide +kernel
theorem dX0_limitBound_38 : decode cX0_limitBound 38 = .ok (.return_, 1) := by decide +kernel
theorem dX0_keepLaw_0 : decode cX0_keepLaw 0 = .ok (.iconst 0, 1) := by decide +kernel
theorem dX0_keepLaw_1 : decode cX0_keepLaw 1 = .ok (.istore_n 1, 1) := by decide +kernel
theorem dX0_keepLaw_2 : decode cX0_keepLaw 2 = .ok (.iload_n 1, 1) := by decide +kernel
theorem dX0_keepLaw_3 : decode cX0_keepLaw 3 = .ok (.aload_n 0, 1) := by decide +kernel
theorem dX0_keepLaw_4 : decode cX0_keepLaw 4 = .ok (.getfield 31, 3) := by decide +kernel
theorem dX0_keepLaw_7 : decode cX0_keepLaw 7 = .ok (.getfield 70, 3) := by decide +kernel
theorem dX0_keepLaw_10 : decode cX0_keepLaw 10 = .ok (.if_icmp .ge 35, 3) := by decide +kernel
theorem dX0_keepLaw_13 : decode cX0_keepLaw 13 = .ok (.aload_n 0, 1) := by decide +kernel
theorem dX0_keepLaw_14 : decode cX0_keepLaw 14 = .ok (.iload_n 1, 1) := by decide +kernel
theorem dX0_keepLaw_15 : decode cX0_keepLaw 15 = .ok (.invokevirtual 119, 3) := by decide +kernel
theorem dX0_keepLaw_18 : decode cX0_keepLaw 18 = .ok (.ifCond .eq 21, 3) := by decide +kernel
theorem dX0_keepLaw_21 : decode cX0_keepLaw 21 = .ok (.aload_n 0, 1) := by decide +kernel
theorem dX0_keepLaw_22 : decode cX0_keepLaw 22 = .ok (.iload_n 1, 1) := by decide +kernel
theorem dX0_keepLaw_23 : decode cX0_keepLaw 23 = .ok (.aload_n 0, 1) := by decide +kernel
theorem dX0_keepLaw_24 : decode cX0_keepLaw 24 = .ok (.getfield 9, 3) := by decide +kernel
theorem dX0_keepLaw_27 : decode cX0_keepLaw 27 = .ok (.iload_n 1, 1) := by decide +kernel
theorem dX0_keepLaw_28 : decode cX0_keepLaw 28 = .ok (.iaload, 1) := by decide +kernel
theorem dX0_keepLaw_29 : decode cX0_keepLaw 29 = .ok (.aload_n 0, 1) := by decide +kernel
theorem dX0_keepLaw_30 : decode cX0_keepLaw 30 = .ok (.getfield 51, 3) := by decide +kernel
theorem dX0_keepLaw_33 : decode cX0_keepLaw 33 = .ok (.invokestatic 123, 3) := by decide +kernel
theorem dX0_keepLaw_36 : decode cX0_keepLaw 36 = .ok (.invokevirtual 75, 3) := by decide +kernel
theorem dX0_keepLaw_39 : decode cX0_keepLaw 39 = .ok (.iinc 1 1, 3) := by decide +kernel
theorem dX0_keepLaw_42 : decode cX0_keepLaw 42 = .ok (.goto (-40), 3) := by decide +kernel
theorem dX0_keepLaw_45 : decode cX0_keepLaw 45 = .ok (.return_, 1) := by decide +kernel
theorem dX0_lawlessGain_0 : decode cX0_lawlessGain 0 = .ok (.lconst 0, 1) := by decide +kernel
theorem dX0_lawlessGain_1 : decode cX0_lawlessGain 1 = .ok (.lstore_n 1, 1) := by decide +kernel
theorem dX0_lawlessGain_2 : decode cX0_lawlessGain 2 = .ok (.iconst 0, 1) := by decide +kernel
theorem dX0_lawlessGain_3 : decode cX0_lawlessGain 3 = .ok (.istore_n 3, 1) := by decide +kernel
theorem dX0_lawlessGain_4 : decode cX0_lawlessGain 4 = .ok (.iload_n 3, 1) := by decide +kernel
theorem dX0_lawlessGain_5 : decode cX0_lawlessGain 5 = .ok (.aload_n 0, 1) := by decide +kernel
theorem dX0_lawlessGain_6 : decode cX0_lawlessGain 6 = .ok (.getfield 31, 3) := by decide +kernel
theorem dX0_lawlessGain_9 : decode cX0_lawlessGain 9 = .ok (.getfield 70, 3) := by decide +kernel
theorem dX0_lawlessGain_12 : decode cX0_lawlessGain 12 = .ok (.if_icmp .ge 66, 3) := by decide +kernel
theorem dX0_lawlessGain_15 : decode cX0_lawlessGain 15 = .ok (.aload_n 0, 1) := by decide +kernel
theorem dX0_lawlessGain_16 : decode cX0_lawlessGain 16 = .ok (.iload_n 3, 1) := by decide +kernel
theorem dX0_lawlessGain_17 : decode cX0_lawlessGain 17 = .ok (.invokevirtual 119, 3) := by decide +kernel
theorem dX0_lawlessGain_20 : decode cX0_lawlessGain 20 = .ok (.ifCond .eq 52, 3) := by decide +kernel
theorem dX0_lawlessGain_23 : decode cX0_lawlessGain 23 = .ok (.aload_n 0, 1) := by decide +kernel
theorem dX0_lawlessGain_24 : decode cX0_lawlessGain 24 = .ok (.iload_n 3, 1) := by decide +kernel
theorem dX0_lawlessGain_25 : decode cX0_lawlessGain 25 = .ok (.invokevirtual 111, 3) := by decide +kernel
theorem dX0_lawlessGain_28 : decode cX0_lawlessGain 28 = .ok (.aload_n 0, 1) := by decide +kernel
theorem dX0_lawlessGain_29 : decode cX0_lawlessGain 29 = .ok (.getfield 51, 3) := by decide +kernel
theorem dX0_lawlessGain_32 : decode cX0_lawlessGain 32 = .ok (.iconst 1, 1) := by decide +kernel
theorem dX0_lawlessGain_33 : decode cX0_lawlessGain 33 = .ok (.iadd, 1) := by decide +kernel
theorem dX0_lawlessGain_34 : decode cX0_lawlessGain 34 = .ok (.istore 4, 2) := by decide +kernel
theorem dX0_lawlessGain_36 : decode cX0_lawlessGain 36 = .ok (.iload 4, 2) := by decide +kernel
theorem dX0_lawlessGain_38 : decode cX0_lawlessGain 38 = .ok (.iconst 3, 1) := by decide +kernel
theorem dX0_lawlessGain_39 : decode cX0_lawlessGain 39 = .ok (.if_icmp .gt 33, 3) := by decide +kernel
theorem dX0_lawlessGain_42 : decode cX0_lawlessGain 42 = .ok (.lload_n 1, 1) := by decide +kernel
theorem dX0_lawlessGain_43 : decode cX0_lawlessGain 43 = .ok (.aload_n 0, 1) := by decide +kernel
theorem dX0_lawlessGain_44 : decode cX0_lawlessGain 44 = .ok (.getfield 27, 3) := by decide +kernel
theorem dX0_lawlessGain_47 : decode cX0_lawlessGain 47 = .ok (.iload 4, 2) := by decide +kernel
theorem dX0_lawlessGain_49 : decode cX0_lawlessGain 49 = .ok (.laload, 1) := by decide +kernel
theorem dX0_lawlessGain_50 : decode cX0_lawlessGain 50 = .ok (.aload_n 0, 1) := by decide +kernel
theorem dX0_lawlessGain_51 : decode cX0_lawlessGain 51 = .ok (.getfield 27, 3) := by decide +kernel
theorem dX0_lawlessGain_54 : decode cX0_lawlessGain 54 = .ok (.aload_n 0, 1) := by decide +kernel
theorem dX0_lawlessGain_55 : decode cX0_lawlessGain 55 = .ok (.getfield 9, 3) := by decide +kernel
theorem dX0_lawlessGain_58 : decode cX0_lawlessGain 58 = .ok (.iload_n 3, 1) := by decide +kernel
theorem dX0_lawlessGain_59 : decode cX0_lawlessGain 59 = .ok (.iaload, 1) := by decide +kernel
theorem dX0_lawlessGain_60 : decode cX0_lawlessGain 60 = .ok (.laload, 1) := by decide +kernel
theorem dX0_lawlessGain_61 : decode cX0_lawlessGain 61 = .ok (.lsub, 1) := by decide +kernel
theorem dX0_lawlessGain_62 : decode cX0_lawlessGain 62 = .ok (.invokestatic 128, 3) := by decide +kernel
theorem dX0_lawlessGain_65 : decode cX0_lawlessGain 65 = .ok (.lstore_n 1, 1) := by decide +kernel
theorem dX0_lawlessGain_66 : decode cX0_lawlessGain 66 = .ok (.iinc 4 1, 3) := by decide +kernel
theorem dX0_lawlessGain_69 : decode cX0_lawlessGain 69 = .ok (.goto (-33), 3) := by decide +kernel
theorem dX0_lawlessGain_72 : decode cX0_lawlessGain 72 = .ok (.iinc 3 1, 3) := by decide +kernel
theorem dX0_lawlessGain_75 : decode cX0_lawlessGain 75 = .ok (.goto (-71), 3) := by decide +kernel
theorem dX0_lawlessGain_78 : decode cX0_lawlessGain 78 = .ok (.lload_n 1, 1) := by decide +kernel
theorem dX0_lawlessGain_79 : decode cX0_lawlessGain 79 = .ok (.lreturn, 1) := by decide +kernel
theorem dX0_shuttingPrice_0 : decode cX0_shuttingPrice 0 = .ok (.aload_n 0, 1) := by decide +kernel
theorem dX0_shuttingPrice_1 : decode cX0_shuttingPrice 1 = .ok (.iload_n 1, 1) := by decide +kernel
theorem dX0_shuttingPrice_2 : decode cX0_shuttingPrice 2 = .ok (.invokevirtual 111, 3) := by decide +kernel
theorem dX0_shuttingPrice_5 : decode cX0_shuttingPrice 5 = .ok (.lconst 0, 1) := by decide +kernel
theorem dX0_shuttingPrice_6 : decode cX0_shuttingPrice 6 = .ok (.lstore_n 2, 1) := by decide +kernel
theorem dX0_shuttingPrice_7 : decode cX0_shuttingPrice 7 = .ok (.iconst 1, 1) := by decide +kernel
theorem dX0_shuttingPrice_8 : decode cX0_shuttingPrice 8 = .ok (.istore 4, 2) := by decide +kernel
theorem dX0_shuttingPrice_10 : decode cX0_shuttingPrice 10 = .ok (.iload 4, 2) := by decide +kernel
theorem dX0_shuttingPrice_12 : decode cX0_shuttingPrice 12 = .ok (.iconst 3, 1) := by decide +kernel
theorem dX0_shuttingPrice_13 : decode cX0_shuttingPrice 13 = .ok (.if_icmp .gt 60, 3) := by decide +kernel
theorem dX0_shuttingPrice_16 : decode cX0_shuttingPrice 16 = .ok (.aload_n 0, 1) := by decide +kernel
theorem dX0_shuttingPrice_17 : decode cX0_shuttingPrice 17 = .ok (.getfield 31, 3) := by decide +kernel
theorem dX0_shuttingPrice_20 : decode cX0_shuttingPrice 20 = .ok (.getfield 94, 3) := by decide +kernel
theorem dX0_shuttingPrice_23 : decode cX0_shuttingPrice 23 = .ok (.iload_n 1, 1) := by decide +kernel
theorem dX0_shuttingPrice_24 : decode cX0_shuttingPrice 24 = .ok (.iaload, 1) := by decide +kernel
theorem dX0_shuttingPrice_25 : decode cX0_shuttingPrice 25 = .ok (.iload 4, 2) := by decide +kernel
theorem dX0_shuttingPrice_27 : decode cX0_shuttingPrice 27 = .ok (.imul, 1) := by decide +kernel
theorem dX0_shuttingPrice_28 : decode cX0_shuttingPrice 28 = .ok (.i2l, 1) := by decide +kernel
theorem dX0_shuttingPrice_29 : decode cX0_shuttingPrice 29 = .ok (.ldc2_w 97, 3) := by decide +kernel
theorem dX0_shuttingPrice_32 : decode cX0_shuttingPrice 32 = .ok (.lmul, 1) := by decide +kernel
theorem dX0_shuttingPrice_33 : decode cX0_shuttingPrice 33 = .ok (.lstore 5, 2) := by decide +kernel
theorem dX0_shuttingPrice_35 : decode cX0_shuttingPrice 35 = .ok (.lload_n 2, 1) := by decide +kernel
theorem dX0_shuttingPrice_36 : decode cX0_shuttingPrice 36 = .ok (.aload_n 0, 1) := by decide +kernel
theorem dX0_shuttingPrice_37 : decode cX0_shuttingPrice 37 = .ok (.getfield 27, 3) := by decide +kernel
theorem dX0_shuttingPrice_40 : decode cX0_shuttingPrice 40 = .ok (.iload 4, 2) := by decide +kernel
theorem dX0_shuttingPrice_42 : decode cX0_shuttingPrice 42 = .ok (.laload, 1) := by decide +kernel
theorem dX0_shuttingPrice_43 : decode cX0_shuttingPrice 43 = .ok (.lload 5, 2) := by decide +kernel
theorem dX0_shuttingPrice_45 : decode cX0_shuttingPrice 45 = .ok (.ladd, 1) := by decide +kernel
theorem dX0_shuttingPrice_46 : decode cX0_shuttingPrice 46 = .ok (.aload_n 0, 1) := by decide +kernel
theorem dX0_shuttingPrice_47 : decode cX0_shuttingPrice 47 = .ok (.getfield 27, 3) := by decide +kernel
theorem dX0_shuttingPrice_50 : decode cX0_shuttingPrice 50 = .ok (.iconst 0, 1) := by decide +kernel
theorem dX0_shuttingPrice_51 : decode cX0_shuttingPrice 51 = .ok (.laload, 1) := by decide +kernel
theorem dX0_shuttingPrice_52 : decode cX0_shuttingPrice 52 = .ok (.lsub, 1) := by decide +kernel
theorem dX0_shuttingPrice_53 : decode cX0_shuttingPrice 53 = .ok (.iload 4, 2) := by decide +kernel
theorem dX0_shuttingPrice_55 : decode cX0_shuttingPrice 55 = .ok (.i2l, 1) := by decide +kernel
theorem dX0_shuttingPrice_56 : decode cX0_shuttingPrice 56 = .ok (.ldc2_w 97, 3) := by decide +kernel
theorem dX0_shuttingPrice_59 : decode cX0_shuttingPrice 59 = .ok (.lmul, 1) := by decide +kernel
theorem dX0_shuttingPrice_60 : decode cX0_shuttingPrice 60 = .ok (.invokestatic 132, 3) := by decide +kernel
theorem dX0_shuttingPrice_63 : decode cX0_shuttingPrice 63 = .ok (.invokestatic 128, 3) := by decide +kernel
theorem dX0_shuttingPrice_66 : decode cX0_shuttingPrice 66 = .ok (.lstore_n 2, 1) := by decide +kernel
theorem dX0_shuttingPrice_67 : decode cX0_shuttingPrice 67 = .ok (.iinc 4 1, 3) := by decide +kernel
theorem dX0_shuttingPrice_70 : decode cX0_shuttingPrice 70 = .ok (.goto (-60), 3) := by decide +kernel
theorem dX0_shuttingPrice_73 : decode cX0_shuttingPrice 73 = .ok (.lload_n 2, 1) := by decide +kernel
theorem dX0_shuttingPrice_74 : decode cX0_shuttingPrice 74 = .ok (.lreturn, 1) := by decide +kernel
theorem dX0_remember_0 : decode cX0_remember 0 = .ok (.aload_n 0, 1) := by decide +kernel
theorem dX0_remember_1 : decode cX0_remember 1 = .ok (.getfield 9, 3) := by decide +kernel
theorem dX0_remember_4 : decode cX0_remember 4 = .ok (.iconst 0, 1) := by decide +kernel
theorem dX0_remember_5 : decode cX0_remember 5 = .ok (.aload_n 0, 1) := by decide +kernel
theorem dX0_remember_6 : decode cX0_remember 6 = .ok (.getfield 21, 3) := by decide +kernel
theorem dX0_remember_9 : decode cX0_remember 9 = .ok (.iconst 0, 1) := by decide +kernel
theorem dX0_remember_10 : decode cX0_remember 10 = .ok (.iconst 5, 1) := by decide +kernel
theorem dX0_remember_11 : decode cX0_remember 11 = .ok (.invokestatic 39, 3) := by decide +kernel
theorem dX0_remember_14 : decode cX0_remember 14 = .ok (.return_, 1) := by decide +kernel
theorem dX0_recall_0 : decode cX0_recall 0 = .ok (.iconst 0, 1) := by decide +kernel
theorem dX0_recall_1 : decode cX0_recall 1 = .ok (.istore_n 1, 1) := by decide +kernel
theorem dX0_recall_2 : decode cX0_recall 2 = .ok (.iload_n 1, 1) := by decide +kernel
theorem dX0_recall_3 : decode cX0_recall 3 = .ok (.aload_n 0, 1) := by decide +kernel
theorem dX0_recall_4 : decode cX0_recall 4 = .ok (.getfield 31, 3) := by decide +kernel
theorem dX0_recall_7 : decode cX0_recall 7 = .ok (.getfield 70, 3) := by decide +kernel
theorem dX0_recall_10 : decode cX0_recall 10 = .ok (.if_icmp .ge 20, 3) := by decide +kernel
theorem dX0_recall_13 : decode cX0_recall 13 = .ok (.aload_n 0, 1) := by decide +kernel
theorem dX0_recall_14 : decode cX0_recall 14 = .ok (.iload_n 1, 1) := by decide +kernel
theorem dX0_recall_15 : decode cX0_recall 15 = .ok (.aload_n 0, 1) := by decide +kernel
theorem dX0_recall_16 : decode cX0_recall 16 = .ok (.getfield 21, 3) := by decide +kernel
theorem dX0_recall_19 : decode cX0_recall 19 = .ok (.iload_n 1, 1) := by decide +kernel
theorem dX0_recall_20 : decode cX0_recall 20 = .ok (.iaload, 1) := by decide +kernel
theorem dX0_recall_21 : decode cX0_recall 21 = .ok (.invokevirtual 75, 3) := by decide +kernel
theorem dX0_recall_24 : decode cX0_recall 24 = .ok (.iinc 1 1, 3) := by decide +kernel
theorem dX0_recall_27 : decode cX0_recall 27 = .ok (.goto (-25), 3) := by decide +kernel
theorem dX0_recall_30 : decode cX0_recall 30 = .ok (.return_, 1) := by decide +kernel
theorem dX0_earlyIsStill_0 : decode cX0_earlyIsStill 0 = .ok (.aload_n 0, 1) := by decide +kernel
theorem dX0_earlyIsStill_1 : decode cX0_earlyIsStill 1 = .ok (.invokevirtual 135, 3) := by decide +kernel
theorem dX0_earlyIsStill_4 : decode cX0_earlyIsStill 4 = .ok (.aload_n 0, 1) := by decide +kernel
theorem dX0_earlyIsStill_5 : decode cX0_earlyIsStill 5 = .ok (.iconst 0, 1) := by decide +kernel
theorem dX0_earlyIsStill_6 : decode cX0_earlyIsStill 6 = .ok (.invokevirtual 138, 3) := by decide +kernel
theorem dX0_earlyIsStill_9 : decode cX0_earlyIsStill 9 = .ok (.aload_n 0, 1) := by decide +kernel
theorem dX0_earlyIsStill_10 : decode cX0_earlyIsStill 10 = .ok (.invokevirtual 141, 3) := by decide +kernel
theorem dX0_earlyIsStill_13 : decode cX0_earlyIsStill 13 = .ok (.iconst (-1), 1) := by decide +kernel
theorem dX0_earlyIsStill_14 : decode cX0_earlyIsStill 14 = .ok (.if_icmp .ne 7, 3) := by decide +kernel
theorem dX0_earlyIsStill_17 : decode cX0_earlyIsStill 17 = .ok (.iconst 1, 1) := by decide +kernel
theorem dX0_earlyIsStill_18 : decode cX0_earlyIsStill 18 = .ok (.goto 4, 3) := by decide +kernel
theorem dX0_earlyIsStill_21 : decode cX0_earlyIsStill 21 = .ok (.iconst 0, 1) := by decide +kernel
theorem dX0_earlyIsStill_22 : decode cX0_earlyIsStill 22 = .ok (.istore_n 1, 1) := by decide +kernel
theorem dX0_earlyIsStill_23 : decode cX0_earlyIsStill 23 = .ok (.aload_n 0, 1) := by decide +kernel
theorem dX0_earlyIsStill_24 : decode cX0_earlyIsStill 24 = .ok (.invokevirtual 145, 3) := by decide +kernel
theorem dX0_earlyIsStill_27 : decode cX0_earlyIsStill 27 = .ok (.iload_n 1, 1) := by decide +kernel
theorem dX0_earlyIsStill_28 : decode cX0_earlyIsStill 28 = .ok (.ireturn, 1) := by decide +kernel
theorem dX0_passWeek_0 : decode cX0_passWeek 0 = .ok (.aload_n 0, 1) := by decide +kernel
theorem dX0_passWeek_1 : decode cX0_passWeek 1 = .ok (.invokevirtual 135, 3) := by decide +kernel
theorem dX0_passWeek_4 : decode cX0_passWeek 4 = .ok (.aload_n 0, 1) := by decide +kernel
theorem dX0_passWeek_5 : decode cX0_passWeek 5 = .ok (.invokevirtual 148, 3) := by decide +kernel
theorem dX0_passWeek_8 : decode cX0_passWeek 8 = .ok (.ifCond .ne 7, 3) := by decide +kernel
theorem dX0_passWeek_11 : decode cX0_passWeek 11 = .ok (.aload_n 0, 1) := by decide +kernel
theorem dX0_passWeek_12 : decode cX0_passWeek 12 = .ok (.invokevirtual 145, 3) := by decide +kernel
theorem dX0_passWeek_15 : decode cX0_passWeek 15 = .ok (.iconst 1, 1) := by decide +kernel
theorem dX0_passWeek_16 : decode cX0_passWeek 16 = .ok (.istore_n 1, 1) := by decide +kernel
theorem dX0_passWeek_17 : decode cX0_passWeek 17 = .ok (.iload_n 1, 1) := by decide +kernel
theorem dX0_passWeek_18 : decode cX0_passWeek 18 = .ok (.iconst 3, 1) := by decide +kernel
theorem dX0_passWeek_19 : decode cX0_passWeek 19 = .ok (.if_icmp .gt 52, 3) := by decide +kernel
theorem dX0_passWeek_22 : decode cX0_passWeek 22 = .ok (.aload_n 0, 1) := by decide +kernel
theorem dX0_passWeek_23 : decode cX0_passWeek 23 = .ok (.getfield 18, 3) := by decide +kernel
theorem dX0_passWeek_26 : decode cX0_passWeek 26 = .ok (.iload_n 1, 1) := by decide +kernel
theorem dX0_passWeek_27 : decode cX0_passWeek 27 = .ok (.aload_n 0, 1) := by decide +kernel
theorem dX0_passWeek_28 : decode cX0_passWeek 28 = .ok (.getfield 24, 3) := by decide +kernel
theorem dX0_passWeek_31 : decode cX0_passWeek 31 = .ok (.iload_n 1, 1) := by decide +kernel
theorem dX0_passWeek_32 : decode cX0_passWeek 32 = .ok (.iaload, 1) := by decide +kernel
theorem dX0_passWeek_33 : decode cX0_passWeek 33 = .ok (.ifCond .eq 19, 3) := by decide +kernel
theorem dX0_passWeek_36 : decode cX0_passWeek 36 = .ok (.bipush 8, 2) := by decide +kernel
theorem dX0_passWeek_38 : decode cX0_passWeek 38 = .ok (.aload_n 0, 1) := by decide +kernel
theorem dX0_passWeek_39 : decode cX0_passWeek 39 = .ok (.getfield 18, 3) := by decide +kernel
theorem dX0_passWeek_42 : decode cX0_passWeek 42 = .ok (.iload_n 1, 1) := by decide +kernel
theorem dX0_passWeek_43 : decode cX0_passWeek 43 = .ok (.iaload, 1) := by decide +kernel
theorem dX0_passWeek_44 : decode cX0_passWeek 44 = .ok (.iconst 1, 1) := by decide +kernel
theorem dX0_passWeek_45 : decode cX0_passWeek 45 = .ok (.iadd, 1) := by decide +kernel
theorem dX0_passWeek_46 : decode cX0_passWeek 46 = .ok (.invokestatic 123, 3) := by decide +kernel
theorem dX0_passWeek_49 : decode cX0_passWeek 49 = .ok (.goto 15, 3) := by decide +kernel
theorem dX0_passWeek_52 : decode cX0_passWeek 52 = .ok (.iconst 0, 1) := by decide +kernel
theorem dX0_passWeek_53 : decode cX0_passWeek 53 = .ok (.aload_n 0, 1) := by decide +kernel
theorem dX0_passWeek_54 : decode cX0_passWeek 54 = .ok (.getfield 18, 3) := by decide +kernel
theorem dX0_passWeek_57 : decode cX0_passWeek 57 = .ok (.iload_n 1, 1) := by decide +kernel
theorem dX0_passWeek_58 : decode cX0_passWeek 58 = .ok (.iaload, 1) := by decide +kernel
theorem dX0_passWeek_59 : decode cX0_passWeek 59 = .ok (.iconst 1, 1) := by decide +kernel
theorem dX0_passWeek_60 : decode cX0_passWeek 60 = .ok (.isub, 1) := by decide +kernel
theorem dX0_passWeek_61 : decode cX0_passWeek 61 = .ok (.invokestatic 152, 3) := by decide +kernel
theorem dX0_passWeek_64 : decode cX0_passWeek 64 = .ok (.iastore, 1) := by decide +kernel
theorem dX0_passWeek_65 : decode cX0_passWeek 65 = .ok (.iinc 1 1, 3) := by decide +kernel
theorem dX0_passWeek_68 : decode cX0_passWeek 68 = .ok (.goto (-51), 3) := by decide +kernel
theorem dX0_passWeek_71 : decode cX0_passWeek 71 = .ok (.return_, 1) := by decide +kernel
theorem dX0_hourOrHabit_0 : decode cX0_hourOrHabit 0 = .ok (.iload_n 1, 1) := by decide +kernel
theorem dX0_hourOrHabit_1 : decode cX0_hourOrHabit 1 = .ok (.iconst 5, 1) := by decide +kernel
theorem dX0_hourOrHabit_2 : decode cX0_hourOrHabit 2 = .ok (.if_icmp .ge 12, 3) := by decide +kernel
theorem dX0_hourOrHabit_5 : decode cX0_hourOrHabit 5 = .ok (.aload_n 0, 1) := by decide +kernel
theorem dX0_hourOrHabit_6 : decode cX0_hourOrHabit 6 = .ok (.getfield 9, 3) := by decide +kernel
theorem dX0_hourOrHabit_9 : decode cX0_hourOrHabit 9 = .ok (.iload_n 1, 1) := by decide +kernel
theorem dX0_hourOrHabit_10 : decode cX0_hourOrHabit 10 = .ok (.iaload, 1) := by decide +kernel
theorem dX0_hourOrHabit_11 : decode cX0_hourOrHabit 11 = .ok (.goto 13, 3) := by decide +kernel
theorem dX0_hourOrHabit_14 : decode cX0_hourOrHabit 14 = .ok (.aload_n 0, 1) := by decide +kernel
theorem dX0_hourOrHabit_15 : decode cX0_hourOrHabit 15 = .ok (.getfield 18, 3) := by decide +kernel
theorem dX0_hourOrHabit_18 : decode cX0_hourOrHabit 18 = .ok (.iload_n 1, 1) := by decide +kernel
theorem dX0_hourOrHabit_19 : decode cX0_hourOrHabit 19 = .ok (.iconst 5, 1) := by decide +kernel
theorem dX0_hourOrHabit_20 : decode cX0_hourOrHabit 20 = .ok (.isub, 1) := by decide +kernel
theorem dX0_hourOrHabit_21 : decode cX0_hourOrHabit 21 = .ok (.iconst 1, 1) := by decide +kernel
theorem dX0_hourOrHabit_22 : decode cX0_hourOrHabit 22 = .ok (.iadd, 1) := by decide +kernel
theorem dX0_hourOrHabit_23 : decode cX0_hourOrHabit 23 = .ok (.iaload, 1) := by decide +kernel
theorem dX0_hourOrHabit_24 : decode cX0_hourOrHabit 24 = .ok (.ireturn, 1) := by decide +kernel
theorem dX1_init_0 : decode cX1_init 0 = .ok (.aload_n 0, 1) := by decide +kernel
theorem dX1_init_1 : decode cX1_init 1 = .ok (.invokespecial 3, 3) := by decide +kernel
theorem dX1_init_4 : decode cX1_init 4 = .ok (.aload_n 0, 1) := by decide +kernel
theorem dX1_init_5 : decode cX1_init 5 = .ok (.iconst 4, 1) := by decide +kernel
theorem dX1_init_6 : decode cX1_init 6 = .ok (.newarray .int, 2) := by decide +kernel
theorem dX1_init_8 : decode cX1_init 8 = .ok (.dup, 1) := by decide +kernel
theorem dX1_init_9 : decode cX1_init 9 = .ok (.iconst 0, 1) := by decide +kernel
theorem dX1_init_10 : decode cX1_init 10 = .ok (.iconst (-1), 1) := by decide +kernel
theorem dX1_init_11 : decode cX1_init 11 = .ok (.iastore, 1) := by decide +kernel
theorem dX1_init_12 : decode cX1_init 12 = .ok (.dup, 1) := by decide +kernel
theorem dX1_init_13 : decode cX1_init 13 = .ok (.iconst 1, 1) := by decide +kernel
theorem dX1_init_14 : decode cX1_init 14 = .ok (.iconst (-1), 1) := by decide +kernel
theorem dX1_init_15 : decode cX1_init 15 = .ok (.iastore, 1) := by decide +kernel
theorem dX1_init_16 : decode cX1_init 16 = .ok (.dup, 1) := by decide +kernel
theorem dX1_init_17 : decode cX1_init 17 = .ok (.iconst 2, 1) := by decide +kernel
theorem dX1_init_18 : decode cX1_init 18 = .ok (.iconst (-1), 1) := by decide +kernel
theorem dX1_init_19 : decode cX1_init 19 = .ok (.iastore, 1) := by decide +kernel
theorem dX1_init_20 : decode cX1_init 20 = .ok (.dup, 1) := by decide +kernel
theorem dX1_init_21 : decode cX1_init 21 = .ok (.iconst 3, 1) := by decide +kernel
theorem dX1_init_22 : decode cX1_init 22 = .ok (.iconst (-1), 1) := by decide +kernel
theorem dX1_init_23 : decode cX1_init 23 = .ok (.iastore, 1) := by decide +kernel
theorem dX1_init_24 : decode cX1_init 24 = .ok (.putfield 9, 3) := by decide +kernel
theorem dX1_init_27 : decode cX1_init 27 = .ok (.aload_n 0, 1) := by decide +kernel
theorem dX1_init_28 : decode cX1_init 28 = .ok (.iconst 4, 1) := by decide +kernel
theorem dX1_init_29 : decode cX1_init 29 = .ok (.newarray .int, 2) := by decide +kernel
theorem dX1_init_31 : decode cX1_init 31 = .ok (.putfield 15, 3) := by decide +kernel
theorem dX1_init_34 : decode cX1_init 34 = .ok (.aload_n 0, 1) := by decide +kernel
theorem dX1_init_35 : decode cX1_init 35 = .ok (.iconst 4, 1) := by decide +kernel
theorem dX1_init_36 : decode cX1_init 36 = .ok (.bipush 60, 2) := by decide +kernel
theorem dX1_init_38 : decode cX1_init 38 = .ok (.multianewarray 18 2, 4) := by decide +kernel
theorem dX1_init_42 : decode cX1_init 42 = .ok (.putfield 20, 3) := by decide +kernel
theorem dX1_init_45 : decode cX1_init 45 = .ok (.return_, 1) := by decide +kernel
theorem dX1_noSheet_0 : decode cX1_noSheet 0 = .ok (.iload_n 0, 1) := by decide +kernel
theorem dX1_noSheet_1 : decode cX1_noSheet 1 = .ok (.ifCond .lt 8, 3) := by decide +kernel
theorem dX1_noSheet_4 : decode cX1_noSheet 4 = .ok (.iload_n 0, 1) := by decide +kernel
theorem dX1_noSheet_5 : decode cX1_noSheet 5 = .ok (.iconst 4, 1) := by decide +kernel
theorem dX1_noSheet_6 : decode cX1_noSheet 6 = .ok (.if_icmp .lt 7, 3) := by decide +kernel
theorem dX1_noSheet_9 : decode cX1_noSheet 9 = .ok (.iconst 1, 1) := by decide +kernel
theorem dX1_noSheet_10 : decode cX1_noSheet 10 = .ok (.goto 4, 3) := by decide +kernel
theorem dX1_noSheet_13 : decode cX1_noSheet 13 = .ok (.iconst 0, 1) := by decide +kernel
theorem dX1_noSheet_14 : decode cX1_noSheet 14 = .ok (.ireturn, 1) := by decide +kernel
theorem dX1_noForm_0 : decode cX1_noForm 0 = .ok (.iload_n 0, 1) := by decide +kernel
theorem dX1_noForm_1 : decode cX1_noForm 1 = .ok (.ifCond .lt 8, 3) := by decide +kernel
theorem dX1_noForm_4 : decode cX1_noForm 4 = .ok (.iload_n 0, 1) := by decide +kernel
theorem dX1_noForm_5 : decode cX1_noForm 5 = .ok (.iconst 2, 1) := by decide +kernel
theorem dX1_noForm_6 : decode cX1_noForm 6 = .ok (.if_icmp .le 7, 3) := by decide +kernel
theorem dX1_noForm_9 : decode cX1_noForm 9 = .ok (.iconst 1, 1) := by decide +kernel
theorem dX1_noForm_10 : decode cX1_noForm 10 = .ok (.goto 4, 3) := by decide +kernel
theorem dX1_noForm_13 : decode cX1_noForm 13 = .ok (.iconst 0, 1) := by decide +kernel
theorem dX1_noForm_14 : decode cX1_noForm 14 = .ok (.ireturn, 1) := by decide +kernel
theorem dX1_finding_0 : decode cX1_finding 0 = .ok (.aload_n 0, 1) := by decide +kernel
theorem dX1_finding_1 : decode cX1_finding 1 = .ok (.iload_n 1, 1) := by decide +kernel
theorem dX1_finding_2 : decode cX1_finding 2 = .ok (.putfield 23, 3) := by decide +kernel
theorem dX1_finding_5 : decode cX1_finding 5 = .ok (.bipush (-10), 2) := by decide +kernel
theorem dX1_finding_7 : decode cX1_finding 7 = .ok (.iload_n 1, 1) := by decide +kernel
theorem dX1_finding_8 : decode cX1_finding 8 = .ok (.isub, 1) := by decide +kernel
theorem dX1_finding_9 : decode cX1_finding 9 = .ok (.ireturn, 1) := by decide +kernel
theorem dX1_refusal_0 : decode cX1_refusal 0 = .ok (.iload_n 1, 1) := by decide +kernel
theorem dX1_refusal_1 : decode cX1_refusal 1 = .ok (.invokestatic 27, 3) := by decide +kernel
theorem dX1_refusal_4 : decode cX1_refusal 4 = .ok (.ifCond .eq 6, 3) := by decide +kernel
theorem dX1_refusal_7 : decode cX1_refusal 7 = .ok (.bipush (-2), 2) := by decide +kernel
theorem dX1_refusal_9 : decode cX1_refusal 9 = .ok (.ireturn, 1) := by decide +kernel
theorem dX1_refusal_10 : decode cX1_refusal 10 = .ok (.aload_n 0, 1) := by decide +kernel
theorem dX1_refusal_11 : decode cX1_refusal 11 = .ok (.getfield 9, 3) := by decide +kernel
theorem dX1_refusal_14 : decode cX1_refusal 14 = .ok (.iload_n 1, 1) := by decide +kernel
theorem dX1_refusal_15 : decode cX1_refusal 15 = .ok (.iaload, 1) := by decide +kernel
theorem dX1_refusal_16 : decode cX1_refusal 16 = .ok (.iconst (-1), 1) := by decide +kernel
theorem dX1_refusal_17 : decode cX1_refusal 17 = .ok (.if_icmp .ne 11, 3) := by decide +kernel
theorem dX1_refusal_20 : decode cX1_refusal 20 = .ok (.aload_n 0, 1) := by decide +kernel
theorem dX1_refusal_21 : decode cX1_refusal 21 = .ok (.iconst 1, 1) := by decide +kernel
theorem dX1_refusal_22 : decode cX1_refusal 22 = .ok (.invokevirtual 31, 3) := by decide +kernel
theorem dX1_refusal_25 : decode cX1_refusal 25 = .ok (.goto 4, 3) := by decide +kernel
theorem dX1_refusal_28 : decode cX1_refusal 28 = .ok (.iconst 0, 1) := by decide +kernel
theorem dX1_refusal_29 : decode cX1_refusal 29 = .ok (.ireturn, 1) := by decide +kernel
theorem dX1_refusalOfItem_0 : decode cX1_refusalOfItem 0 = .ok (.iload_n 1, 1) := by decide +kernel
theorem dX1_refusalOfItem_1 : decode cX1_refusalOfItem 1 = .ok (.invokestatic 27, 3) := by decide +kernel
theorem dX1_refusalOfItem_4 : decode cX1_refusalOfItem 4 = .ok (.ifCond .ne 10, 3) := by decide +kernel
theorem dX1_refusalOfItem_7 : decode cX1_refusalOfItem 7 = .ok (.iload_n 2, 1) := by decide +kernel
theorem dX1_refusalOfItem_8 : decode cX1_refusalOfItem 8 = .ok (.invokestatic 35, 3) := by decide +kernel
theorem dX1_refusalOfItem_11 : decode cX1_refusalOfItem 11 = .ok (.ifCond .eq 6, 3) := by decide +kernel
theorem dX1_refusalOfItem_14 : decode cX1_refusalOfItem 14 = .ok (.bipush (-2), 2) := by decide +kernel
theorem dX1_refusalOfItem_16 : decode cX1_refusalOfItem 16 = .ok (.ireturn, 1) := by decide +kernel
theorem dX1_refusalOfItem_17 : decode cX1_refusalOfItem 17 = .ok (.aload_n 0, 1) := by decide +kernel
theorem dX1_refusalOfItem_18 : decode cX1_refusalOfItem 18 = .ok (.getfield 9, 3) := by decide +kernel
theorem dX1_refusalOfItem_21 : decode cX1_refusalOfItem 21 = .ok (.iload_n 1, 1) := by decide +kernel
theorem dX1_refusalOfItem_22 : decode cX1_refusalOfItem 22 = .ok (.iaload, 1) := by decide +kernel
theorem dX1_refusalOfItem_23 : decode cX1_refusalOfItem 23 = .ok (.iconst (-1), 1) := by decide +kernel
theorem dX1_refusalOfItem_24 : decode cX1_refusalOfItem 24 = .ok (.if_icmp .ne 9, 3) := by decide +kernel
theorem dX1_refusalOfItem_27 : decode cX1_refusalOfItem 27 = .ok (.aload_n 0, 1) := by decide +kernel
theorem dX1_refusalOfItem_28 : decode cX1_refusalOfItem 28 = .ok (.iconst 1, 1) := by decide +kernel
theorem dX1_refusalOfItem_29 : decode cX1_refusalOfItem 29 = .ok (.invokevirtual 31, 3) := by decide +kernel
theorem dX1_refusalOfItem_32 : decode cX1_refusalOfItem 32 = .ok (.ireturn, 1) := by decide +kernel
theorem dX1_refusalOfItem_33 : decode cX1_refusalOfItem 33 = .ok (.aload_n 0, 1) := by decide +kernel
theorem dX1_refusalOfItem_34 : decode cX1_refusalOfItem 34 = .ok (.getfield 9, 3) := by decide +kernel
theorem dX1_refusalOfItem_37 : decode cX1_refusalOfItem 37 = .ok (.iload_n 1, 1) := by decide +kernel
theorem dX1_refusalOfItem_38 : decode cX1_refusalOfItem 38 = .ok (.iaload, 1) := by decide +kernel
theorem dX1_refusalOfItem_39 : decode cX1_refusalOfItem 39 = .ok (.iload_n 2, 1) := by decide +kernel
theorem dX1_refusalOfItem_40 : decode cX1_refusalOfItem 40 = .ok (.if_icmp .eq 9, 3) := by decide +kernel
theorem dX1_refusalOfItem_43 : decode cX1_refusalOfItem 43 = .ok (.aload_n 0, 1) := by decide +kernel
theorem dX1_refusalOfItem_44 : decode cX1_refusalOfItem 44 = .ok (.iconst 3, 1) := by decide +kernel
theorem dX1_refusalOfItem_45 : decode cX1_refusalOfItem 45 = .ok (.invokevirtual 31, 3) := by decide +kernel
theorem dX1_refusalOfItem_48 : decode cX1_refusalOfItem 48 = .ok (.ireturn, 1) := by decide +kernel
theorem dX1_refusalOfItem_49 : decode cX1_refusalOfItem 49 = .ok (.iload_n 3, 1) := by decide +kernel
theorem dX1_refusalOfItem_50 : decode cX1_refusalOfItem 50 = .ok (.ifCond .lt 13, 3) := by decide +kernel
theorem dX1_refusalOfItem_53 : decode cX1_refusalOfItem 53 = .ok (.iload_n 3, 1) := by decide +kernel
theorem dX1_refusalOfItem_54 : decode cX1_refusalOfItem 54 = .ok (.aload_n 0, 1) := by decide +kernel
theorem dX1_refusalOfItem_55 : decode cX1_refusalOfItem 55 = .ok (.getfield 15, 3) := by decide +kernel
theorem dX1_refusalOfItem_58 : decode cX1_refusalOfItem 58 = .ok (.iload_n 1, 1) := by decide +kernel
theorem dX1_refusalOfItem_59 : decode cX1_refusalOfItem 59 = .ok (.iaload, 1) := by decide +kernel
theorem dX1_refusalOfItem_60 : decode cX1_refusalOfItem 60 = .ok (.if_icmp .lt 11, 3) := by decide +kernel
theorem dX1_refusalOfItem_63 : decode cX1_refusalOfItem 63 = .ok (.aload_n 0, 1) := by decide +kernel
theorem dX1_refusalOfItem_64 : decode cX1_refusalOfItem 64 = .ok (.iconst 2, 1) := by decide +kernel
theorem dX1_refusalOfItem_65 : decode cX1_refusalOfItem 65 = .ok (.invokevirtual 31, 3) := by decide +kernel
theorem dX1_refusalOfItem_68 : decode cX1_refusalOfItem 68 = .ok (.goto 4, 3) := by decide +kernel
theorem dX1_refusalOfItem_71 : decode cX1_refusalOfItem 71 = .ok (.iconst 0, 1) := by decide +kernel
theorem dX1_refusalOfItem_72 : decode cX1_refusalOfItem 72 = .ok (.ireturn, 1) := by decide +kernel
theorem dX1_lacks_0 : decode cX1_lacks 0 = .ok (.iload_n 2, 1) := by decide +kernel
theorem dX1_lacks_1 : decode cX1_lacks 1 = .ok (.ifCond .lt 23, 3) := by decide +kernel
theorem dX1_lacks_4 : decode cX1_lacks 4 = .ok (.iload_n 3, 1) := by decide +kernel
theorem dX1_lacks_5 : decode cX1_lacks 5 = .ok (.ifCond .lt 19, 3) := by decide +kernel
theorem dX1_lacks_8 : decode cX1_lacks 8 = .ok (.iload_n 2, 1) := by decide +kernel
theorem dX1_lacks_9 : decode cX1_lacks 9 = .ok (.i2l, 1) := by decide +kernel
theorem dX1_lacks_10 : decode cX1_lacks 10 = .ok (.iload_n 3, 1) := by decide +kernel
theorem dX1_lacks_11 : decode cX1_lacks 11 = .ok (.i2l, 1) := by decide +kernel
theorem dX1_lacks_12 : decode cX1_lacks 12 = .ok (.ladd, 1) := by decide +kernel
theorem dX1_lacks_13 : decode cX1_lacks 13 = .ok (.aload_n 0, 1) := by decide +kernel
theorem dX1_lacks_14 : decode cX1_lacks 14 = .ok (.getfield 15, 3) := by decide +kernel
theorem dX1_lacks_17 : decode cX1_lacks 17 = .ok (.iload_n 1, 1) := by decide +kernel
theorem dX1_lacks_18 : decode cX1_lacks 18 = .ok (.iaload, 1) := by decide +kernel
theorem dX1_lacks_19 : decode cX1_lacks 19 = .ok (.i2l, 1) := by decide +kernel
theorem dX1_lacks_20 : decode cX1_lacks 20 = .ok (.lcmp, 1) := by decide +kernel
theorem dX1_lacks_21 : decode cX1_lacks 21 = .ok (.ifCond .le 7, 3) := by decide +kernel
theorem dX1_lacks_24 : decode cX1_lacks 24 = .ok (.iconst 1, 1) := by decide +kernel
theorem dX1_lacks_25 : decode cX1_lacks 25 = .ok (.goto 4, 3) := by decide +kernel
theorem dX1_lacks_28 : decode cX1_lacks 28 = .ok (.iconst 0, 1) := by decide +kernel
theorem dX1_lacks_29 : decode cX1_lacks 29 = .ok (.ireturn, 1) := by decide +kernel
theorem dX1_renew_0 : decode cX1_renew 0 = .ok (.aload_n 0, 1) := by decide +kernel
theorem dX1_renew_1 : decode cX1_renew 1 = .ok (.getfield 9, 3) := by decide +kernel
theorem dX1_renew_4 : decode cX1_renew 4 = .ok (.iload_n 1, 1) := by decide +kernel
theorem dX1_renew_5 : decode cX1_renew 5 = .ok (.iload_n 2, 1) := by decide +kernel
theorem dX1_renew_6 : decode cX1_renew 6 = .ok (.iastore, 1) := by decide +kernel
theorem dX1_renew_7 : decode cX1_renew 7 = .ok (.aload_n 0, 1) := by decide +kernel
theorem dX1_renew_8 : decode cX1_renew 8 = .ok (.getfield 15, 3) := by decide +kernel
theorem dX1_renew_11 : decode cX1_renew 11 = .ok (.iload_n 1, 1) := by decide +kernel
theorem dX1_renew_12 : decode cX1_renew 12 = .ok (.iload_n 3, 1) := by decide +kernel
theorem dX1_renew_13 : decode cX1_renew 13 = .ok (.iastore, 1) := by decide +kernel
theorem dX1_renew_14 : decode cX1_renew 14 = .ok (.aload_n 0, 1) := by decide +kernel
theorem dX1_renew_15 : decode cX1_renew 15 = .ok (.getfield 20, 3) := by decide +kernel
theorem dX1_renew_18 : decode cX1_renew 18 = .ok (.iload_n 1, 1) := by decide +kernel
theorem dX1_renew_19 : decode cX1_renew 19 = .ok (.aaload, 1) := by decide +kernel
theorem dX1_renew_20 : decode cX1_renew 20 = .ok (.iconst 0, 1) := by decide +kernel
theorem dX1_renew_21 : decode cX1_renew 21 = .ok (.invokestatic 38, 3) := by decide +kernel
theorem dX1_renew_24 : decode cX1_renew 24 = .ok (.return_, 1) := by decide +kernel
theorem dX1_put_0 : decode cX1_put 0 = .ok (.aload_n 0, 1) := by decide +kernel
theorem dX1_put_1 : decode cX1_put 1 = .ok (.getfield 9, 3) := by decide +kernel
theorem dX1_put_4 : decode cX1_put 4 = .ok (.iload_n 1, 1) := by decide +kernel
theorem dX1_put_5 : decode cX1_put 5 = .ok (.iaload, 1) := by decide +kernel
theorem dX1_put_6 : decode cX1_put 6 = .ok (.ifCond .ne 16, 3) := by decide +kernel
theorem dX1_put_9 : decode cX1_put 9 = .ok (.aload_n 0, 1) := by decide +kernel
theorem dX1_put_10 : decode cX1_put 10 = .ok (.getfield 20, 3) := by decide +kernel
theorem dX1_put_13 : decode cX1_put 13 = .ok (.iload_n 1, 1) := by decide +kernel
theorem dX1_put_14 : decode cX1_put 14 = .ok (.aaload, 1) := by decide +kernel
theorem dX1_put_15 : decode cX1_put 15 = .ok (.iload_n 2, 1) := by decide +kernel
theorem dX1_put_16 : decode cX1_put 16 = .ok (.iload_n 3, 1) := by decide +kernel
theorem dX1_put_17 : decode cX1_put 17 = .ok (.i2b, 1) := by decide +kernel
theorem dX1_put_18 : decode cX1_put 18 = .ok (.iastore, 1) := by decide +kernel
theorem dX1_put_19 : decode cX1_put 19 = .ok (.goto 35, 3) := by decide +kernel
theorem dX1_put_22 : decode cX1_put 22 = .ok (.aload_n 0, 1) := by decide +kernel
theorem dX1_put_23 : decode cX1_put 23 = .ok (.getfield 9, 3) := by decide +kernel
theorem dX1_put_26 : decode cX1_put 26 = .ok (.iload_n 1, 1) := by decide +kernel
theorem dX1_put_27 : decode cX1_put 27 = .ok (.iaload, 1) := by decide +kernel
theorem dX1_put_28 : decode cX1_put 28 = .ok (.iconst 1, 1) := by decide +kernel
theorem dX1_put_29 : decode cX1_put 29 = .ok (.if_icmp .ne 16, 3) := by decide +kernel
theorem dX1_put_32 : decode cX1_put 32 = .ok (.aload_n 0, 1) := by decide +kernel
theorem dX1_put_33 : decode cX1_put 33 = .ok (.getfield 20, 3) := by decide +kernel
theorem dX1_put_36 : decode cX1_put 36 = .ok (.iload_n 1, 1) := by decide +kernel
theorem dX1_put_37 : decode cX1_put 37 = .ok (.aaload, 1) := by decide +kernel
theorem dX1_put_38 : decode cX1_put 38 = .ok (.iload_n 2, 1) := by decide +kernel
theorem dX1_put_39 : decode cX1_put 39 = .ok (.iload_n 3, 1) := by decide +kernel
theorem dX1_put_40 : decode cX1_put 40 = .ok (.i2s, 1) := by decide +kernel
theorem dX1_put_41 : decode cX1_put 41 = .ok (.iastore, 1) := by decide +kernel
theorem dX1_put_42 : decode cX1_put 42 = .ok (.goto 12, 3) := by decide +kernel
theorem dX1_put_45 : decode cX1_put 45 = .ok (.aload_n 0, 1) := by decide +kernel
theorem dX1_put_46 : decode cX1_put 46 = .ok (.getfield 20, 3) := by decide +kernel
theorem dX1_put_49 : decode cX1_put 49 = .ok (.iload_n 1, 1) := by decide +kernel
theorem dX1_put_50 : decode cX1_put 50 = .ok (.aaload, 1) := by decide +kernel
theorem dX1_put_51 : decode cX1_put 51 = .ok (.iload_n 2, 1) := by decide +kernel
theorem dX1_put_52 : decode cX1_put 52 = .ok (.iload_n 3, 1) := by decide +kernel
theorem dX1_put_53 : decode cX1_put 53 = .ok (.iastore, 1) := by decide +kernel
theorem dX1_put_54 : decode cX1_put 54 = .ok (.return_, 1) := by decide +kernel
theorem dX2_init_0 : decode cX2_init 0 = .ok (.aload_n 0, 1) := by decide +kernel
theorem dX2_init_1 : decode cX2_init 1 = .ok (.invokespecial 3, 3) := by decide +kernel
theorem dX2_init_4 : decode cX2_init 4 = .ok (.aload_n 0, 1) := by decide +kernel
theorem dX2_init_5 : decode cX2_init 5 = .ok (.sipush 150, 3) := by decide +kernel
theorem dX2_init_8 : decode cX2_init 8 = .ok (.newarray .int, 2) := by decide +kernel
theorem dX2_init_10 : decode cX2_init 10 = .ok (.putfield 9, 3) := by decide +kernel
theorem dX2_init_13 : decode cX2_init 13 = .ok (.aload_n 0, 1) := by decide +kernel
theorem dX2_init_14 : decode cX2_init 14 = .ok (.iconst 5, 1) := by decide +kernel
theorem dX2_init_15 : decode cX2_init 15 = .ok (.newarray .int, 2) := by decide +kernel
theorem dX2_init_17 : decode cX2_init 17 = .ok (.putfield 15, 3) := by decide +kernel
theorem dX2_init_20 : decode cX2_init 20 = .ok (.aload_n 0, 1) := by decide +kernel
theorem dX2_init_21 : decode cX2_init 21 = .ok (.iconst 5, 1) := by decide +kernel
theorem dX2_init_22 : decode cX2_init 22 = .ok (.newarray .int, 2) := by decide +kernel
theorem dX2_init_24 : decode cX2_init 24 = .ok (.putfield 18, 3) := by decide +kernel
theorem dX2_init_27 : decode cX2_init 27 = .ok (.aload_n 0, 1) := by decide +kernel
theorem dX2_init_28 : decode cX2_init 28 = .ok (.bipush 6, 2) := by decide +kernel
theorem dX2_init_30 : decode cX2_init 30 = .ok (.bipush 6, 2) := by decide +kernel
theorem dX2_init_32 : decode cX2_init 32 = .ok (.multianewarray 21 2, 4) := by decide +kernel
theorem dX2_init_36 : decode cX2_init 36 = .ok (.putfield 23, 3) := by decide +kernel
theorem dX2_init_39 : decode cX2_init 39 = .ok (.aload_n 0, 1) := by decide +kernel
theorem dX2_init_40 : decode cX2_init 40 = .ok (.iconst (-1), 1) := by decide +kernel
theorem dX2_init_41 : decode cX2_init 41 = .ok (.putfield 26, 3) := by decide +kernel
theorem dX2_init_44 : decode cX2_init 44 = .ok (.return_, 1) := by decide +kernel
theorem dX2_append_0 : decode cX2_append 0 = .ok (.aload_n 0, 1) := by decide +kernel
theorem dX2_append_1 : decode cX2_append 1 = .ok (.getfield 30, 3) := by decide +kernel
theorem dX2_append_4 : decode cX2_append 4 = .ok (.sipush 150, 3) := by decide +kernel
theorem dX2_append_7 : decode cX2_append 7 = .ok (.if_icmp .ge 27, 3) := by decide +kernel
theorem dX2_append_10 : decode cX2_append 10 = .ok (.aload_n 0, 1) := by decide +kernel
theorem dX2_append_11 : decode cX2_append 11 = .ok (.getfield 9, 3) := by decide +kernel
theorem dX2_append_14 : decode cX2_append 14 = .ok (.aload_n 0, 1) := by decide +kernel
theorem dX2_append_15 : decode cX2_append 15 = .ok (.getfield 30, 3) := by decide +kernel
theorem dX2_append_18 : decode cX2_append 18 = .ok (.iload_n 1, 1) := by decide +kernel
theorem dX2_append_19 : decode cX2_append 19 = .ok (.iastore, 1) := by decide +kernel
theorem dX2_append_20 : decode cX2_append 20 = .ok (.aload_n 0, 1) := by decide +kernel
theorem dX2_append_21 : decode cX2_append 21 = .ok (.dup, 1) := by decide +kernel
theorem dX2_append_22 : decode cX2_append 22 = .ok (.getfield 30, 3) := by decide +kernel
theorem dX2_append_25 : decode cX2_append 25 = .ok (.iconst 1, 1) := by decide +kernel
theorem dX2_append_26 : decode cX2_append 26 = .ok (.iadd, 1) := by decide +kernel
theorem dX2_append_27 : decode cX2_append 27 = .ok (.putfield 30, 3) := by decide +kernel
theorem dX2_append_30 : decode cX2_append 30 = .ok (.aload_n 0, 1) := by decide +kernel
theorem dX2_append_31 : decode cX2_append 31 = .ok (.invokevirtual 33, 3) := by decide +kernel
theorem dX2_append_34 : decode cX2_append 34 = .ok (.return_, 1) := by decide +kernel
theorem dX2_clear_0 : decode cX2_clear 0 = .ok (.aload_n 0, 1) := by decide +kernel
theorem dX2_clear_1 : decode cX2_clear 1 = .ok (.iconst 0, 1) := by decide +kernel
theorem dX2_clear_2 : decode cX2_clear 2 = .ok (.putfield 30, 3) := by decide +kernel
theorem dX2_clear_5 : decode cX2_clear 5 = .ok (.aload_n 0, 1) := by decide +kernel
theorem dX2_clear_6 : decode cX2_clear 6 = .ok (.invokevirtual 33, 3) := by decide +kernel
theorem dX2_clear_9 : decode cX2_clear 9 = .ok (.return_, 1) := by decide +kernel
theorem dX2_crowd_0 : decode cX2_crowd 0 = .ok (.iconst 0, 1) := by decide +kernel
theorem dX2_crowd_1 : decode cX2_crowd 1 = .ok (.istore_n 1, 1) := by decide +kernel
theorem dX2_crowd_2 : decode cX2_crowd 2 = .ok (.iconst 0, 1) := by decide +kernel
theorem dX2_crowd_3 : decode cX2_crowd 3 = .ok (.istore_n 2, 1) := by decide +kernel
theorem dX2_crowd_4 : decode cX2_crowd 4 = .ok (.iload_n 2, 1) := by decide +kernel
theorem dX2_crowd_5 : decode cX2_crowd 5 = .ok (.aload_n 0, 1) := by decide +kernel
theorem dX2_crowd_6 : decode cX2_crowd 6 = .ok (.getfield 36, 3) := by decide +kernel
theorem dX2_crowd_9 : decode cX2_crowd 9 = .ok (.if_icmp .ge 20, 3) := by decide +kernel
theorem dX2_crowd_12 : decode cX2_crowd 12 = .ok (.iload_n 1, 1) := by decide +kernel
theorem dX2_crowd_13 : decode cX2_crowd 13 = .ok (.aload_n 0, 1) := by decide +kernel
theorem dX2_crowd_14 : decode cX2_crowd 14 = .ok (.getfield 23, 3) := by decide +kernel
theorem dX2_crowd_17 : decode cX2_crowd 17 = .ok (.iload_n 2, 1) := by decide +kernel
theorem dX2_crowd_18 : decode cX2_crowd 18 = .ok (.aaload, 1) := by decide +kernel
theorem dX2_crowd_19 : decode cX2_crowd 19 = .ok (.iconst 1, 1) := by decide +kernel
theorem dX2_crowd_20 : decode cX2_crowd 20 = .ok (.iaload, 1) := by decide +kernel
theorem dX2_crowd_21 : decode cX2_crowd 21 = .ok (.iadd, 1) := by decide +kernel
theorem dX2_crowd_22 : decode cX2_crowd 22 = .ok (.istore_n 1, 1) := by decide +kernel
theorem dX2_crowd_23 : decode cX2_crowd 23 = .ok (.iinc 2 1, 3) := by decide +kernel
theorem dX2_crowd_26 : decode cX2_crowd 26 = .ok (.goto (-22), 3) := by decide +kernel
theorem dX2_crowd_29 : decode cX2_crowd 29 = .ok (.iload_n 1, 1) := by decide +kernel
theorem dX2_crowd_30 : decode cX2_crowd 30 = .ok (.ireturn, 1) := by decide +kernel
theorem dX2_parse_0 : decode cX2_parse 0 = .ok (.aload_n 0, 1) := by decide +kernel
theorem dX2_parse_1 : decode cX2_parse 1 = .ok (.iconst 0, 1) := by decide +kernel
theorem dX2_parse_2 : decode cX2_parse 2 = .ok (.putfield 39, 3) := by decide +kernel
theorem dX2_parse_5 : decode cX2_parse 5 = .ok (.aload_n 0, 1) := by decide +kernel
theorem dX2_parse_6 : decode cX2_parse 6 = .ok (.iconst 0, 1) := by decide +kernel
theorem dX2_parse_7 : decode cX2_parse 7 = .ok (.putfield 36, 3) := by decide +kernel
theorem dX2_parse_10 : decode cX2_parse 10 = .ok (.aload_n 0, 1) := by decide +kernel
theorem dX2_parse_11 : decode cX2_parse 11 = .ok (.iconst (-1), 1) := by decide +kernel
theorem dX2_parse_12 : decode cX2_parse 12 = .ok (.putfield 26, 3) := by decide +kernel
theorem dX2_parse_15 : decode cX2_parse 15 = .ok (.aload_n 0, 1) := by decide +kernel
theorem dX2_parse_16 : decode cX2_parse 16 = .ok (.iconst 0, 1) := by decide +kernel
theorem dX2_parse_17 : decode cX2_parse 17 = .ok (.putfield 42, 3) := by decide +kernel
theorem dX2_parse_20 : decode cX2_parse 20 = .ok (.aload_n 0, 1) := by decide +kernel
theorem dX2_parse_21 : decode cX2_parse 21 = .ok (.getfield 30, 3) := by decide +kernel
theorem dX2_parse_24 : decode cX2_parse 24 = .ok (.ifCond .le 7, 3) := by decide +kernel
theorem dX2_parse_27 : decode cX2_parse 27 = .ok (.iconst 1, 1) := by decide +kernel
theorem dX2_parse_28 : decode cX2_parse 28 = .ok (.goto 4, 3) := by decide +kernel
theorem dX2_parse_31 : decode cX2_parse 31 = .ok (.iconst 0, 1) := by decide +kernel
theorem dX2_parse_32 : decode cX2_parse 32 = .ok (.istore_n 1, 1) := by decide +kernel
theorem dX2_parse_33 : decode cX2_parse 33 = .ok (.iconst 0, 1) := by decide +kernel
theorem dX2_parse_34 : decode cX2_parse 34 = .ok (.istore_n 2, 1) := by decide +kernel
theorem dX2_parse_35 : decode cX2_parse 35 = .ok (.iload_n 2, 1) := by decide +kernel
theorem dX2_parse_36 : decode cX2_parse 36 = .ok (.sipush 150, 3) := by decide +kernel
theorem dX2_parse_39 : decode cX2_parse 39 = .ok (.if_icmp .gt 66, 3) := by decide +kernel
theorem dX2_parse_42 : decode cX2_parse 42 = .ok (.iload_n 1, 1) := by decide +kernel
theorem dX2_parse_43 : decode cX2_parse 43 = .ok (.ifCond .eq 62, 3) := by decide +kernel
theorem dX2_parse_46 : decode cX2_parse 46 = .ok (.aload_n 0, 1) := by decide +kernel
theorem dX2_parse_47 : decode cX2_parse 47 = .ok (.invokevirtual 45, 3) := by decide +kernel
theorem dX2_parse_50 : decode cX2_parse 50 = .ok (.aload_n 0, 1) := by decide +kernel
theorem dX2_parse_51 : decode cX2_parse 51 = .ok (.getfield 26, 3) := by decide +kernel
theorem dX2_parse_54 : decode cX2_parse 54 = .ok (.iconst (-1), 1) := by decide +kernel
theorem dX2_parse_55 : decode cX2_parse 55 = .ok (.if_icmp .ne 18, 3) := by decide +kernel
theorem dX2_parse_58 : decode cX2_parse 58 = .ok (.aload_n 0, 1) := by decide +kernel
theorem dX2_parse_59 : decode cX2_parse 59 = .ok (.getfield 42, 3) := by decide +kernel
theorem dX2_parse_62 : decode cX2_parse 62 = .ok (.aload_n 0, 1) := by decide +kernel
theorem dX2_parse_63 : decode cX2_parse 63 = .ok (.getfield 30, 3) := by decide +kernel
theorem dX2_parse_66 : decode cX2_parse 66 = .ok (.if_icmp .ge 7, 3) := by decide +kernel
theorem dX2_parse_69 : decode cX2_parse 69 = .ok (.iconst 1, 1) := by decide +kernel
theorem dX2_parse_70 : decode cX2_parse 70 = .ok (.goto 4, 3) := by decide +kernel
theorem dX2_parse_73 : decode cX2_parse 73 = .ok (.iconst 0, 1) := by decide +kernel
theorem dX2_parse_74 : decode cX2_parse 74 = .ok (.istore_n 1, 1) := by decide +kernel
theorem dX2_parse_75 : decode cX2_parse 75 = .ok (.iload_n 1, 1) := by decide +kernel
theorem dX2_parse_76 : decode cX2_parse 76 = .ok (.ifCond .eq 23, 3) := by decide +kernel
theorem dX2_parse_79 : decode cX2_parse 79 = .ok (.aload_n 0, 1) := by decide +kernel
theorem dX2_parse_80 : decode cX2_parse 80 = .ok (.bipush 59, 2) := by decide +kernel
theorem dX2_parse_82 : decode cX2_parse 82 = .ok (.invokevirtual 48, 3) := by decide +kernel
theorem dX2_parse_85 : decode cX2_parse 85 = .ok (.aload_n 0, 1) := by decide +kernel
theorem dX2_parse_86 : decode cX2_parse 86 = .ok (.getfield 26, 3) := by decide +kernel
theorem dX2_parse_89 : decode cX2_parse 89 = .ok (.iconst (-1), 1) := by decide +kernel
theorem dX2_parse_90 : decode cX2_parse 90 = .ok (.if_icmp .ne 7, 3) := by decide +kernel
theorem dX2_parse_93 : decode cX2_parse 93 = .ok (.iconst 1, 1) := by decide +kernel
theorem dX2_parse_94 : decode cX2_parse 94 = .ok (.goto 4, 3) := by decide +kernel
theorem dX2_parse_97 : decode cX2_parse 97 = .ok (.iconst 0, 1) := by decide +kernel
theorem dX2_parse_98 : decode cX2_parse 98 = .ok (.istore_n 1, 1) := by decide +kernel
theorem dX2_parse_99 : decode cX2_parse 99 = .ok (.iinc 2 1, 3) := by decide +kernel
theorem dX2_parse_102 : decode cX2_parse 102 = .ok (.goto (-67), 3) := by decide +kernel
theorem dX2_parse_105 : decode cX2_parse 105 = .ok (.aload_n 0, 1) := by decide +kernel
theorem dX2_parse_106 : decode cX2_parse 106 = .ok (.getfield 26, 3) := by decide +kernel
theorem dX2_parse_109 : decode cX2_parse 109 = .ok (.iconst (-1), 1) := by decide +kernel
theorem dX2_parse_110 : decode cX2_parse 110 = .ok (.if_icmp .eq 13, 3) := by decide +kernel
theorem dX2_parse_113 : decode cX2_parse 113 = .ok (.aload_n 0, 1) := by decide +kernel
theorem dX2_parse_114 : decode cX2_parse 114 = .ok (.iconst 0, 1) := by decide +kernel
theorem dX2_parse_115 : decode cX2_parse 115 = .ok (.putfield 39, 3) := by decide +kernel
theorem dX2_parse_118 : decode cX2_parse 118 = .ok (.aload_n 0, 1) := by decide +kernel
theorem dX2_parse_119 : decode cX2_parse 119 = .ok (.iconst 0, 1) := by decide +kernel
theorem dX2_parse_120 : decode cX2_parse 120 = .ok (.putfield 36, 3) := by decide +kernel
theorem dX2_parse_123 : decode cX2_parse 123 = .ok (.return_, 1) := by decide +kernel
theorem dX2_takePart_0 : decode cX2_takePart 0 = .ok (.aload_n 0, 1) := by decide +kernel
theorem dX2_takePart_1 : decode cX2_takePart 1 = .ok (.invokevirtual 52, 3) := by decide +kernel
theorem dX2_takePart_4 : decode cX2_takePart 4 = .ok (.istore_n 1, 1) := by decide +kernel
theorem dX2_takePart_5 : decode cX2_takePart 5 = .ok (.iload_n 1, 1) := by decide +kernel
theorem dX2_takePart_6 : decode cX2_takePart 6 = .ok (.bipush 115, 2) := by decide +kernel
theorem dX2_takePart_8 : decode cX2_takePart 8 = .ok (.if_icmp .ne 18, 3) := by decide +kernel
theorem dX2_takePart_11 : decode cX2_takePart 11 = .ok (.aload_n 0, 1) := by decide +kernel
theorem dX2_takePart_12 : decode cX2_takePart 12 = .ok (.getfield 39, 3) := by decide +kernel
theorem dX2_takePart_15 : decode cX2_takePart 15 = .ok (.iconst 5, 1) := by decide +kernel
theorem dX2_takePart_16 : decode cX2_takePart 16 = .ok (.if_icmp .ge 10, 3) := by decide +kernel
theorem dX2_takePart_19 : decode cX2_takePart 19 = .ok (.aload_n 0, 1) := by decide +kernel
theorem dX2_takePart_20 : decode cX2_takePart 20 = .ok (.invokevirtual 56, 3) := by decide +kernel
theorem dX2_takePart_23 : decode cX2_takePart 23 = .ok (.goto 33, 3) := by decide +kernel
theorem dX2_takePart_26 : decode cX2_takePart 26 = .ok (.iload_n 1, 1) := by decide +kernel
theorem dX2_takePart_27 : decode cX2_takePart 27 = .ok (.bipush 98, 2) := by decide +kernel
theorem dX2_takePart_29 : decode cX2_takePart 29 = .ok (.if_icmp .ne 19, 3) := by decide +kernel
theorem dX2_takePart_32 : decode cX2_takePart 32 = .ok (.aload_n 0, 1) := by decide +kernel
theorem dX2_takePart_33 : decode cX2_takePart 33 = .ok (.getfield 36, 3) := by decide +kernel
theorem dX2_takePart_36 : decode cX2_takePart 36 = .ok (.bipush 6, 2) := by decide +kernel
theorem dX2_takePart_38 : decode cX2_takePart 38 = .ok (.if_icmp .ge 10, 3) := by decide +kernel
theorem dX2_takePart_41 : decode cX2_takePart 41 = .ok (.aload_n 0, 1) := by decide +kernel
theorem dX2_takePart_42 : decode cX2_takePart 42 = .ok (.invokevirtual 59, 3) := by decide +kernel
theorem dX2_takePart_45 : decode cX2_takePart 45 = .ok (.goto 11, 3) := by decide +kernel
theorem dX2_takePart_48 : decode cX2_takePart 48 = .ok (.aload_n 0, 1) := by decide +kernel
theorem dX2_takePart_49 : decode cX2_takePart 49 = .ok (.aload_n 0, 1) := by decide +kernel
theorem dX2_takePart_50 : decode cX2_takePart 50 = .ok (.getfield 42, 3) := by decide +kernel
theorem dX2_takePart_53 : decode cX2_takePart 53 = .ok (.invokevirtual 62, 3) := by decide +kernel
theorem dX2_takePart_56 : decode cX2_takePart 56 = .ok (.return_, 1) := by decide +kernel

theorem dX0_init_0 : decode cX0_init 0 = .ok (.aload_n 0, 1) := by decide +kernel
theorem dX0_init_1 : decode cX0_init 1 = .ok (.invokespecial 3, 3) := by decide +kernel
theorem dX0_init_4 : decode cX0_init 4 = .ok (.aload_n 0, 1) := by decide +kernel
theorem dX0_init_5 : decode cX0_init 5 = .ok (.bipush 6, 2) := by decide +kernel
theorem dX0_init_7 : decode cX0_init 7 = .ok (.newarray .int, 2) := by decide +kernel
theorem dX0_init_9 : decode cX0_init 9 = .ok (.putfield 9, 3) := by decide +kernel
theorem dX0_init_12 : decode cX0_init 12 = .ok (.return_, 1) := by decide +kernel
theorem dX0_find_0 : decode cX0_find 0 = .ok (.aload_n 0, 1) := by decide +kernel
theorem dX0_find_1 : decode cX0_find 1 = .ok (.iconst (-1), 1) := by decide +kernel
theorem dX0_find_2 : decode cX0_find 2 = .ok (.putfield 15, 3) := by decide +kernel
theorem dX0_find_5 : decode cX0_find 5 = .ok (.aload_n 0, 1) := by decide +kernel
theorem dX0_find_6 : decode cX0_find 6 = .ok (.aload_n 1, 1) := by decide +kernel
theorem dX0_find_7 : decode cX0_find 7 = .ok (.iload_n 2, 1) := by decide +kernel
theorem dX0_find_8 : decode cX0_find 8 = .ok (.iload_n 3, 1) := by decide +kernel
theorem dX0_find_9 : decode cX0_find 9 = .ok (.iload 4, 2) := by decide +kernel
theorem dX0_find_11 : decode cX0_find 11 = .ok (.invokevirtual 19, 3) := by decide +kernel
theorem dX0_find_14 : decode cX0_find 14 = .ok (.return_, 1) := by decide +kernel
theorem dX0_meet_0 : decode cX0_meet 0 = .ok (.aload_n 1, 1) := by decide +kernel
theorem dX0_meet_1 : decode cX0_meet 1 = .ok (.aload_n 0, 1) := by decide +kernel
theorem dX0_meet_2 : decode cX0_meet 2 = .ok (.iload_n 2, 1) := by decide +kernel
theorem dX0_meet_3 : decode cX0_meet 3 = .ok (.invokevirtual 23, 3) := by decide +kernel
theorem dX0_meet_6 : decode cX0_meet 6 = .ok (.invokevirtual 27, 3) := by decide +kernel
theorem dX0_meet_9 : decode cX0_meet 9 = .ok (.istore 4, 2) := by decide +kernel
theorem dX0_meet_11 : decode cX0_meet 11 = .ok (.iload 4, 2) := by decide +kernel
theorem dX0_meet_13 : decode cX0_meet 13 = .ok (.aload_n 0, 1) := by decide +kernel
theorem dX0_meet_14 : decode cX0_meet 14 = .ok (.getfield 15, 3) := by decide +kernel
theorem dX0_meet_17 : decode cX0_meet 17 = .ok (.if_icmp .gt 20, 3) := by decide +kernel
theorem dX0_meet_20 : decode cX0_meet 20 = .ok (.iload 4, 2) := by decide +kernel
theorem dX0_meet_22 : decode cX0_meet 22 = .ok (.aload_n 0, 1) := by decide +kernel
theorem dX0_meet_23 : decode cX0_meet 23 = .ok (.getfield 15, 3) := by decide +kernel
theorem dX0_meet_26 : decode cX0_meet 26 = .ok (.if_icmp .ne 41, 3) := by decide +kernel
theorem dX0_meet_29 : decode cX0_meet 29 = .ok (.iload_n 3, 1) := by decide +kernel
theorem dX0_meet_30 : decode cX0_meet 30 = .ok (.aload_n 0, 1) := by decide +kernel
theorem dX0_meet_31 : decode cX0_meet 31 = .ok (.getfield 32, 3) := by decide +kernel
theorem dX0_meet_34 : decode cX0_meet 34 = .ok (.if_icmp .ge 33, 3) := by decide +kernel
theorem dX0_meet_37 : decode cX0_meet 37 = .ok (.aload_n 0, 1) := by decide +kernel
theorem dX0_meet_38 : decode cX0_meet 38 = .ok (.iload 4, 2) := by decide +kernel
theorem dX0_meet_40 : decode cX0_meet 40 = .ok (.putfield 15, 3) := by decide +kernel
theorem dX0_meet_43 : decode cX0_meet 43 = .ok (.aload_n 0, 1) := by decide +kernel
theorem dX0_meet_44 : decode cX0_meet 44 = .ok (.iload_n 3, 1) := by decide +kernel
theorem dX0_meet_45 : decode cX0_meet 45 = .ok (.putfield 32, 3) := by decide +kernel
theorem dX0_meet_48 : decode cX0_meet 48 = .ok (.aload_n 0, 1) := by decide +kernel
theorem dX0_meet_49 : decode cX0_meet 49 = .ok (.iload_n 2, 1) := by decide +kernel
theorem dX0_meet_50 : decode cX0_meet 50 = .ok (.putfield 35, 3) := by decide +kernel
theorem dX0_meet_53 : decode cX0_meet 53 = .ok (.aload_n 0, 1) := by decide +kernel
theorem dX0_meet_54 : decode cX0_meet 54 = .ok (.getfield 38, 3) := by decide +kernel
theorem dX0_meet_57 : decode cX0_meet 57 = .ok (.iconst 0, 1) := by decide +kernel
theorem dX0_meet_58 : decode cX0_meet 58 = .ok (.aload_n 0, 1) := by decide +kernel
theorem dX0_meet_59 : decode cX0_meet 59 = .ok (.getfield 9, 3) := by decide +kernel
theorem dX0_meet_62 : decode cX0_meet 62 = .ok (.iconst 0, 1) := by decide +kernel
theorem dX0_meet_63 : decode cX0_meet 63 = .ok (.iload_n 2, 1) := by decide +kernel
theorem dX0_meet_64 : decode cX0_meet 64 = .ok (.invokestatic 41, 3) := by decide +kernel
theorem dX0_meet_67 : decode cX0_meet 67 = .ok (.return_, 1) := by decide +kernel
theorem dX1_init_0 : decode cX1_init 0 = .ok (.aload_n 0, 1) := by decide +kernel
theorem dX1_init_1 : decode cX1_init 1 = .ok (.invokespecial 3, 3) := by decide +kernel
theorem dX1_init_4 : decode cX1_init 4 = .ok (.aload_n 0, 1) := by decide +kernel
theorem dX1_init_5 : decode cX1_init 5 = .ok (.bipush 6, 2) := by decide +kernel
theorem dX1_init_7 : decode cX1_init 7 = .ok (.newarray .int, 2) := by decide +kernel
theorem dX1_init_9 : decode cX1_init 9 = .ok (.putfield 9, 3) := by decide +kernel
theorem dX1_init_12 : decode cX1_init 12 = .ok (.aload_n 0, 1) := by decide +kernel
theorem dX1_init_13 : decode cX1_init 13 = .ok (.bipush 6, 2) := by decide +kernel
theorem dX1_init_15 : decode cX1_init 15 = .ok (.newarray .int, 2) := by decide +kernel
theorem dX1_init_17 : decode cX1_init 17 = .ok (.putfield 15, 3) := by decide +kernel
theorem dX1_init_20 : decode cX1_init 20 = .ok (.return_, 1) := by decide +kernel
theorem dX1_find_0 : decode cX1_find 0 = .ok (.aload_n 0, 1) := by decide +kernel
theorem dX1_find_1 : decode cX1_find 1 = .ok (.getfield 9, 3) := by decide +kernel
theorem dX1_find_4 : decode cX1_find 4 = .ok (.iconst (-1), 1) := by decide +kernel
theorem dX1_find_5 : decode cX1_find 5 = .ok (.invokestatic 18, 3) := by decide +kernel
theorem dX1_find_8 : decode cX1_find 8 = .ok (.aload_n 0, 1) := by decide +kernel
theorem dX1_find_9 : decode cX1_find 9 = .ok (.getfield 15, 3) := by decide +kernel
theorem dX1_find_12 : decode cX1_find 12 = .ok (.iconst (-1), 1) := by decide +kernel
theorem dX1_find_13 : decode cX1_find 13 = .ok (.invokestatic 18, 3) := by decide +kernel
theorem dX1_find_16 : decode cX1_find 16 = .ok (.aload_n 0, 1) := by decide +kernel
theorem dX1_find_17 : decode cX1_find 17 = .ok (.aload_n 1, 1) := by decide +kernel
theorem dX1_find_18 : decode cX1_find 18 = .ok (.iload_n 2, 1) := by decide +kernel
theorem dX1_find_19 : decode cX1_find 19 = .ok (.ldc 24, 2) := by decide +kernel
theorem dX1_find_21 : decode cX1_find 21 = .ok (.iconst 0, 1) := by decide +kernel
theorem dX1_find_22 : decode cX1_find 22 = .ok (.iconst 1, 1) := by decide +kernel
theorem dX1_find_23 : decode cX1_find 23 = .ok (.invokestatic 25, 3) := by decide +kernel
theorem dX1_find_26 : decode cX1_find 26 = .ok (.return_, 1) := by decide +kernel
theorem dX1_lendOn_0 : decode cX1_lendOn 0 = .ok (.aload_n 0, 1) := by decide +kernel
theorem dX1_lendOn_1 : decode cX1_lendOn 1 = .ok (.iload_n 2, 1) := by decide +kernel
theorem dX1_lendOn_2 : decode cX1_lendOn 2 = .ok (.iload_n 3, 1) := by decide +kernel
theorem dX1_lendOn_3 : decode cX1_lendOn 3 = .ok (.iload 5, 2) := by decide +kernel
theorem dX1_lendOn_5 : decode cX1_lendOn 5 = .ok (.invokevirtual 29, 3) := by decide +kernel
theorem dX1_lendOn_8 : decode cX1_lendOn 8 = .ok (.iload 5, 2) := by decide +kernel
theorem dX1_lendOn_10 : decode cX1_lendOn 10 = .ok (.bipush 6, 2) := by decide +kernel
theorem dX1_lendOn_12 : decode cX1_lendOn 12 = .ok (.if_icmp .lt 4, 3) := by decide +kernel
theorem dX1_lendOn_15 : decode cX1_lendOn 15 = .ok (.return_, 1) := by decide +kernel
theorem dX1_lendOn_16 : decode cX1_lendOn 16 = .ok (.iload 4, 2) := by decide +kernel
theorem dX1_lendOn_18 : decode cX1_lendOn 18 = .ok (.iconst 1, 1) := by decide +kernel
theorem dX1_lendOn_19 : decode cX1_lendOn 19 = .ok (.iload_n 2, 1) := by decide +kernel
theorem dX1_lendOn_20 : decode cX1_lendOn 20 = .ok (.ishl, 1) := by decide +kernel
theorem dX1_lendOn_21 : decode cX1_lendOn 21 = .ok (.ior, 1) := by decide +kernel
theorem dX1_lendOn_22 : decode cX1_lendOn 22 = .ok (.istore 6, 2) := by decide +kernel
theorem dX1_lendOn_24 : decode cX1_lendOn 24 = .ok (.iconst 0, 1) := by decide +kernel
theorem dX1_lendOn_25 : decode cX1_lendOn 25 = .ok (.istore 7, 2) := by decide +kernel
theorem dX1_lendOn_27 : decode cX1_lendOn 27 = .ok (.iload 7, 2) := by decide +kernel
theorem dX1_lendOn_29 : decode cX1_lendOn 29 = .ok (.aload_n 1, 1) := by decide +kernel
theorem dX1_lendOn_30 : decode cX1_lendOn 30 = .ok (.getfield 33, 3) := by decide +kernel
theorem dX1_lendOn_33 : decode cX1_lendOn 33 = .ok (.if_icmp .ge 67, 3) := by decide +kernel
theorem dX1_lendOn_36 : decode cX1_lendOn 36 = .ok (.iload 6, 2) := by decide +kernel
theorem dX1_lendOn_38 : decode cX1_lendOn 38 = .ok (.iload 7, 2) := by decide +kernel
theorem dX1_lendOn_40 : decode cX1_lendOn 40 = .ok (.ishr, 1) := by decide +kernel
theorem dX1_lendOn_41 : decode cX1_lendOn 41 = .ok (.iconst 1, 1) := by decide +kernel
theorem dX1_lendOn_42 : decode cX1_lendOn 42 = .ok (.iand, 1) := by decide +kernel
theorem dX1_lendOn_43 : decode cX1_lendOn 43 = .ok (.ifCond .ne 51, 3) := by decide +kernel
theorem dX1_lendOn_46 : decode cX1_lendOn 46 = .ok (.aload_n 1, 1) := by decide +kernel
theorem dX1_lendOn_47 : decode cX1_lendOn 47 = .ok (.getfield 39, 3) := by decide +kernel
theorem dX1_lendOn_50 : decode cX1_lendOn 50 = .ok (.iload_n 2, 1) := by decide +kernel
theorem dX1_lendOn_51 : decode cX1_lendOn 51 = .ok (.aaload, 1) := by decide +kernel
theorem dX1_lendOn_52 : decode cX1_lendOn 52 = .ok (.iload 7, 2) := by decide +kernel
theorem dX1_lendOn_54 : decode cX1_lendOn 54 = .ok (.iaload, 1) := by decide +kernel
theorem dX1_lendOn_55 : decode cX1_lendOn 55 = .ok (.iconst (-1), 1) := by decide +kernel
theorem dX1_lendOn_56 : decode cX1_lendOn 56 = .ok (.if_icmp .eq 38, 3) := by decide +kernel
theorem dX1_lendOn_59 : decode cX1_lendOn 59 = .ok (.iload_n 3, 1) := by decide +kernel
theorem dX1_lendOn_60 : decode cX1_lendOn 60 = .ok (.i2l, 1) := by decide +kernel
theorem dX1_lendOn_61 : decode cX1_lendOn 61 = .ok (.aload_n 1, 1) := by decide +kernel
theorem dX1_lendOn_62 : decode cX1_lendOn 62 = .ok (.getfield 39, 3) := by decide +kernel
theorem dX1_lendOn_65 : decode cX1_lendOn 65 = .ok (.iload_n 2, 1) := by decide +kernel
theorem dX1_lendOn_66 : decode cX1_lendOn 66 = .ok (.aaload, 1) := by decide +kernel
theorem dX1_lendOn_67 : decode cX1_lendOn 67 = .ok (.iload 7, 2) := by decide +kernel
theorem dX1_lendOn_69 : decode cX1_lendOn 69 = .ok (.iaload, 1) := by decide +kernel
theorem dX1_lendOn_70 : decode cX1_lendOn 70 = .ok (.i2l, 1) := by decide +kernel
theorem dX1_lendOn_71 : decode cX1_lendOn 71 = .ok (.lmul, 1) := by decide +kernel
theorem dX1_lendOn_72 : decode cX1_lendOn 72 = .ok (.ldc2_w 43, 3) := by decide +kernel
theorem dX1_lendOn_75 : decode cX1_lendOn 75 = .ok (.ldiv, 1) := by decide +kernel
theorem dX1_lendOn_76 : decode cX1_lendOn 76 = .ok (.l2i, 1) := by decide +kernel
theorem dX1_lendOn_77 : decode cX1_lendOn 77 = .ok (.istore 8, 2) := by decide +kernel
theorem dX1_lendOn_79 : decode cX1_lendOn 79 = .ok (.aload_n 0, 1) := by decide +kernel
theorem dX1_lendOn_80 : decode cX1_lendOn 80 = .ok (.aload_n 1, 1) := by decide +kernel
theorem dX1_lendOn_81 : decode cX1_lendOn 81 = .ok (.iload 7, 2) := by decide +kernel
theorem dX1_lendOn_83 : decode cX1_lendOn 83 = .ok (.iload 8, 2) := by decide +kernel
theorem dX1_lendOn_85 : decode cX1_lendOn 85 = .ok (.iload 6, 2) := by decide +kernel
theorem dX1_lendOn_87 : decode cX1_lendOn 87 = .ok (.iload 5, 2) := by decide +kernel
theorem dX1_lendOn_89 : decode cX1_lendOn 89 = .ok (.iconst 1, 1) := by decide +kernel
theorem dX1_lendOn_90 : decode cX1_lendOn 90 = .ok (.iadd, 1) := by decide +kernel
theorem dX1_lendOn_91 : decode cX1_lendOn 91 = .ok (.invokestatic 25, 3) := by decide +kernel
theorem dX1_lendOn_94 : decode cX1_lendOn 94 = .ok (.iinc 7 1, 3) := by decide +kernel
theorem dX1_lendOn_97 : decode cX1_lendOn 97 = .ok (.goto (-70), 3) := by decide +kernel
theorem dX1_lendOn_100 : decode cX1_lendOn 100 = .ok (.return_, 1) := by decide +kernel
theorem dX1_compare_0 : decode cX1_compare 0 = .ok (.iload_n 2, 1) := by decide +kernel
theorem dX1_compare_1 : decode cX1_compare 1 = .ok (.aload_n 0, 1) := by decide +kernel
theorem dX1_compare_2 : decode cX1_compare 2 = .ok (.getfield 9, 3) := by decide +kernel
theorem dX1_compare_5 : decode cX1_compare 5 = .ok (.iload_n 1, 1) := by decide +kernel
theorem dX1_compare_6 : decode cX1_compare 6 = .ok (.iaload, 1) := by decide +kernel
theorem dX1_compare_7 : decode cX1_compare 7 = .ok (.if_icmp .gt 23, 3) := by decide +kernel
theorem dX1_compare_10 : decode cX1_compare 10 = .ok (.iload_n 2, 1) := by decide +kernel
theorem dX1_compare_11 : decode cX1_compare 11 = .ok (.aload_n 0, 1) := by decide +kernel
theorem dX1_compare_12 : decode cX1_compare 12 = .ok (.getfield 9, 3) := by decide +kernel
theorem dX1_compare_15 : decode cX1_compare 15 = .ok (.iload_n 1, 1) := by decide +kernel
theorem dX1_compare_16 : decode cX1_compare 16 = .ok (.iaload, 1) := by decide +kernel
theorem dX1_compare_17 : decode cX1_compare 17 = .ok (.if_icmp .ne 27, 3) := by decide +kernel
theorem dX1_compare_20 : decode cX1_compare 20 = .ok (.iload_n 3, 1) := by decide +kernel
theorem dX1_compare_21 : decode cX1_compare 21 = .ok (.aload_n 0, 1) := by decide +kernel
theorem dX1_compare_22 : decode cX1_compare 22 = .ok (.getfield 15, 3) := by decide +kernel
theorem dX1_compare_25 : decode cX1_compare 25 = .ok (.iload_n 1, 1) := by decide +kernel
theorem dX1_compare_26 : decode cX1_compare 26 = .ok (.iaload, 1) := by decide +kernel
theorem dX1_compare_27 : decode cX1_compare 27 = .ok (.if_icmp .ge 17, 3) := by decide +kernel
theorem dX1_compare_30 : decode cX1_compare 30 = .ok (.aload_n 0, 1) := by decide +kernel
theorem dX1_compare_31 : decode cX1_compare 31 = .ok (.getfield 9, 3) := by decide +kernel
theorem dX1_compare_34 : decode cX1_compare 34 = .ok (.iload_n 1, 1) := by decide +kernel
theorem dX1_compare_35 : decode cX1_compare 35 = .ok (.iload_n 2, 1) := by decide +kernel
theorem dX1_compare_36 : decode cX1_compare 36 = .ok (.iastore, 1) := by decide +kernel
theorem dX1_compare_37 : decode cX1_compare 37 = .ok (.aload_n 0, 1) := by decide +kernel
theorem dX1_compare_38 : decode cX1_compare 38 = .ok (.getfield 15, 3) := by decide +kernel
theorem dX1_compare_41 : decode cX1_compare 41 = .ok (.iload_n 1, 1) := by decide +kernel
theorem dX1_compare_42 : decode cX1_compare 42 = .ok (.iload_n 3, 1) := by decide +kernel
theorem dX1_compare_43 : decode cX1_compare 43 = .ok (.iastore, 1) := by decide +kernel
theorem dX1_compare_44 : decode cX1_compare 44 = .ok (.return_, 1) := by decide +kernel
theorem dX2_init_0 : decode cX2_init 0 = .ok (.aload_n 0, 1) := by decide +kernel
theorem dX2_init_1 : decode cX2_init 1 = .ok (.invokespecial 3, 3) := by decide +kernel
theorem dX2_init_4 : decode cX2_init 4 = .ok (.aload_n 0, 1) := by decide +kernel
theorem dX2_init_5 : decode cX2_init 5 = .ok (.bipush 98, 2) := by decide +kernel
theorem dX2_init_7 : decode cX2_init 7 = .ok (.newarray .int, 2) := by decide +kernel
theorem dX2_init_9 : decode cX2_init 9 = .ok (.putfield 11, 3) := by decide +kernel
theorem dX2_init_12 : decode cX2_init 12 = .ok (.aload_n 0, 1) := by decide +kernel
theorem dX2_init_13 : decode cX2_init 13 = .ok (.bipush 98, 2) := by decide +kernel
theorem dX2_init_15 : decode cX2_init 15 = .ok (.newarray .int, 2) := by decide +kernel
theorem dX2_init_17 : decode cX2_init 17 = .ok (.putfield 15, 3) := by decide +kernel
theorem dX2_init_20 : decode cX2_init 20 = .ok (.return_, 1) := by decide +kernel
theorem dX2_place_0 : decode cX2_place 0 = .ok (.iload_n 0, 1) := by decide +kernel
theorem dX2_place_1 : decode cX2_place 1 = .ok (.bipush 7, 2) := by decide +kernel
theorem dX2_place_3 : decode cX2_place 3 = .ok (.imul, 1) := by decide +kernel
theorem dX2_place_4 : decode cX2_place 4 = .ok (.iload_n 1, 1) := by decide +kernel
theorem dX2_place_5 : decode cX2_place 5 = .ok (.iadd, 1) := by decide +kernel
theorem dX2_place_6 : decode cX2_place 6 = .ok (.iconst 2, 1) := by decide +kernel
theorem dX2_place_7 : decode cX2_place 7 = .ok (.imul, 1) := by decide +kernel
theorem dX2_place_8 : decode cX2_place 8 = .ok (.iload_n 2, 1) := by decide +kernel
theorem dX2_place_9 : decode cX2_place 9 = .ok (.iadd, 1) := by decide +kernel
theorem dX2_place_10 : decode cX2_place 10 = .ok (.ireturn, 1) := by decide +kernel
theorem dX2_solve_0 : decode cX2_solve 0 = .ok (.aload_n 0, 1) := by decide +kernel
theorem dX2_solve_1 : decode cX2_solve 1 = .ok (.getfield 11, 3) := by decide +kernel
theorem dX2_solve_4 : decode cX2_solve 4 = .ok (.iconst 0, 1) := by decide +kernel
theorem dX2_solve_5 : decode cX2_solve 5 = .ok (.invokestatic 18, 3) := by decide +kernel
theorem dX2_solve_8 : decode cX2_solve 8 = .ok (.aload_n 0, 1) := by decide +kernel
theorem dX2_solve_9 : decode cX2_solve 9 = .ok (.getfield 15, 3) := by decide +kernel
theorem dX2_solve_12 : decode cX2_solve 12 = .ok (.iconst 0, 1) := by decide +kernel
theorem dX2_solve_13 : decode cX2_solve 13 = .ok (.invokestatic 18, 3) := by decide +kernel
theorem dX2_solve_16 : decode cX2_solve 16 = .ok (.iconst 0, 1) := by decide +kernel
theorem dX2_solve_17 : decode cX2_solve 17 = .ok (.istore_n 3, 1) := by decide +kernel
theorem dX2_solve_18 : decode cX2_solve 18 = .ok (.iload_n 3, 1) := by decide +kernel
theorem dX2_solve_19 : decode cX2_solve 19 = .ok (.aload_n 1, 1) := by decide +kernel
theorem dX2_solve_20 : decode cX2_solve 20 = .ok (.getfield 24, 3) := by decide +kernel
theorem dX2_solve_23 : decode cX2_solve 23 = .ok (.if_icmp .ge 77, 3) := by decide +kernel
theorem dX2_solve_26 : decode cX2_solve 26 = .ok (.iconst 0, 1) := by decide +kernel
theorem dX2_solve_27 : decode cX2_solve 27 = .ok (.istore 4, 2) := by decide +kernel
theorem dX2_solve_29 : decode cX2_solve 29 = .ok (.iload 4, 2) := by decide +kernel
theorem dX2_solve_31 : decode cX2_solve 31 = .ok (.aload_n 1, 1) := by decide +kernel
theorem dX2_solve_32 : decode cX2_solve 32 = .ok (.getfield 24, 3) := by decide +kernel
theorem dX2_solve_35 : decode cX2_solve 35 = .ok (.if_icmp .ge 59, 3) := by decide +kernel
theorem dX2_solve_38 : decode cX2_solve 38 = .ok (.iload_n 3, 1) := by decide +kernel
theorem dX2_solve_39 : decode cX2_solve 39 = .ok (.iload 4, 2) := by decide +kernel
theorem dX2_solve_41 : decode cX2_solve 41 = .ok (.if_icmp .ne 7, 3) := by decide +kernel
theorem dX2_solve_44 : decode cX2_solve 44 = .ok (.iconst 2, 1) := by decide +kernel
theorem dX2_solve_45 : decode cX2_solve 45 = .ok (.goto 13, 3) := by decide +kernel
theorem dX2_solve_48 : decode cX2_solve 48 = .ok (.iload_n 3, 1) := by decide +kernel
theorem dX2_solve_49 : decode cX2_solve 49 = .ok (.iload_n 2, 1) := by decide +kernel
theorem dX2_solve_50 : decode cX2_solve 50 = .ok (.if_icmp .ne 7, 3) := by decide +kernel
theorem dX2_solve_53 : decode cX2_solve 53 = .ok (.iconst 1, 1) := by decide +kernel
theorem dX2_solve_54 : decode cX2_solve 54 = .ok (.goto 4, 3) := by decide +kernel
theorem dX2_solve_57 : decode cX2_solve 57 = .ok (.iconst 0, 1) := by decide +kernel
theorem dX2_solve_58 : decode cX2_solve 58 = .ok (.istore 5, 2) := by decide +kernel
theorem dX2_solve_60 : decode cX2_solve 60 = .ok (.aload_n 0, 1) := by decide +kernel
theorem dX2_solve_61 : decode cX2_solve 61 = .ok (.getfield 11, 3) := by decide +kernel
theorem dX2_solve_64 : decode cX2_solve 64 = .ok (.iload_n 3, 1) := by decide +kernel
theorem dX2_solve_65 : decode cX2_solve 65 = .ok (.iload 4, 2) := by decide +kernel
theorem dX2_solve_67 : decode cX2_solve 67 = .ok (.iconst 0, 1) := by decide +kernel
theorem dX2_solve_68 : decode cX2_solve 68 = .ok (.invokestatic 30, 3) := by decide +kernel
theorem dX2_solve_71 : decode cX2_solve 71 = .ok (.iload 5, 2) := by decide +kernel
theorem dX2_solve_73 : decode cX2_solve 73 = .ok (.iastore, 1) := by decide +kernel
theorem dX2_solve_74 : decode cX2_solve 74 = .ok (.aload_n 0, 1) := by decide +kernel
theorem dX2_solve_75 : decode cX2_solve 75 = .ok (.getfield 11, 3) := by decide +kernel
theorem dX2_solve_78 : decode cX2_solve 78 = .ok (.iload_n 3, 1) := by decide +kernel
theorem dX2_solve_79 : decode cX2_solve 79 = .ok (.iload 4, 2) := by decide +kernel
theorem dX2_solve_81 : decode cX2_solve 81 = .ok (.iconst 1, 1) := by decide +kernel
theorem dX2_solve_82 : decode cX2_solve 82 = .ok (.invokestatic 30, 3) := by decide +kernel
theorem dX2_solve_85 : decode cX2_solve 85 = .ok (.iload 5, 2) := by decide +kernel
theorem dX2_solve_87 : decode cX2_solve 87 = .ok (.iastore, 1) := by decide +kernel
theorem dX2_solve_88 : decode cX2_solve 88 = .ok (.iinc 4 1, 3) := by decide +kernel
theorem dX2_solve_91 : decode cX2_solve 91 = .ok (.goto (-62), 3) := by decide +kernel
theorem dX2_solve_94 : decode cX2_solve 94 = .ok (.iinc 3 1, 3) := by decide +kernel
theorem dX2_solve_97 : decode cX2_solve 97 = .ok (.goto (-79), 3) := by decide +kernel
theorem dX2_solve_100 : decode cX2_solve 100 = .ok (.iconst 1, 1) := by decide +kernel
theorem dX2_solve_101 : decode cX2_solve 101 = .ok (.istore_n 3, 1) := by decide +kernel
theorem dX2_solve_102 : decode cX2_solve 102 = .ok (.iconst 1, 1) := by decide +kernel
theorem dX2_solve_103 : decode cX2_solve 103 = .ok (.istore 4, 2) := by decide +kernel
theorem dX2_solve_105 : decode cX2_solve 105 = .ok (.iload 4, 2) := by decide +kernel
theorem dX2_solve_107 : decode cX2_solve 107 = .ok (.bipush 98, 2) := by decide +kernel
theorem dX2_solve_109 : decode cX2_solve 109 = .ok (.if_icmp .gt 21, 3) := by decide +kernel
theorem dX2_solve_112 : decode cX2_solve 112 = .ok (.iload_n 3, 1) := by decide +kernel
theorem dX2_solve_113 : decode cX2_solve 113 = .ok (.ifCond .eq 17, 3) := by decide +kernel
theorem dX2_solve_116 : decode cX2_solve 116 = .ok (.aload_n 0, 1) := by decide +kernel
theorem dX2_solve_117 : decode cX2_solve 117 = .ok (.aload_n 1, 1) := by decide +kernel
theorem dX2_solve_118 : decode cX2_solve 118 = .ok (.iload 4, 2) := by decide +kernel
theorem dX2_solve_120 : decode cX2_solve 120 = .ok (.invokevirtual 34, 3) := by decide +kernel
theorem dX2_solve_123 : decode cX2_solve 123 = .ok (.istore_n 3, 1) := by decide +kernel
theorem dX2_solve_124 : decode cX2_solve 124 = .ok (.iinc 4 1, 3) := by decide +kernel
theorem dX2_solve_127 : decode cX2_solve 127 = .ok (.goto (-22), 3) := by decide +kernel
theorem dX2_solve_130 : decode cX2_solve 130 = .ok (.return_, 1) := by decide +kernel
theorem dX2_decideAt_0 : decode cX2_decideAt 0 = .ok (.iconst 0, 1) := by decide +kernel
theorem dX2_decideAt_1 : decode cX2_decideAt 1 = .ok (.istore_n 3, 1) := by decide +kernel
theorem dX2_decideAt_2 : decode cX2_decideAt 2 = .ok (.iconst 0, 1) := by decide +kernel
theorem dX2_decideAt_3 : decode cX2_decideAt 3 = .ok (.istore 4, 2) := by decide +kernel
theorem dX2_decideAt_5 : decode cX2_decideAt 5 = .ok (.iload 4, 2) := by decide +kernel
theorem dX2_decideAt_7 : decode cX2_decideAt 7 = .ok (.aload_n 1, 1) := by decide +kernel
theorem dX2_decideAt_8 : decode cX2_decideAt 8 = .ok (.getfield 24, 3) := by decide +kernel
theorem dX2_decideAt_11 : decode cX2_decideAt 11 = .ok (.if_icmp .ge 55, 3) := by decide +kernel
theorem dX2_decideAt_14 : decode cX2_decideAt 14 = .ok (.iconst 0, 1) := by decide +kernel
theorem dX2_decideAt_15 : decode cX2_decideAt 15 = .ok (.istore 5, 2) := by decide +kernel
theorem dX2_decideAt_17 : decode cX2_decideAt 17 = .ok (.iload 5, 2) := by decide +kernel
theorem dX2_decideAt_19 : decode cX2_decideAt 19 = .ok (.aload_n 1, 1) := by decide +kernel
theorem dX2_decideAt_20 : decode cX2_decideAt 20 = .ok (.getfield 24, 3) := by decide +kernel
theorem dX2_decideAt_23 : decode cX2_decideAt 23 = .ok (.if_icmp .ge 37, 3) := by decide +kernel
theorem dX2_decideAt_26 : decode cX2_decideAt 26 = .ok (.iload_n 3, 1) := by decide +kernel
theorem dX2_decideAt_27 : decode cX2_decideAt 27 = .ok (.aload_n 0, 1) := by decide +kernel
theorem dX2_decideAt_28 : decode cX2_decideAt 28 = .ok (.aload_n 1, 1) := by decide +kernel
theorem dX2_decideAt_29 : decode cX2_decideAt 29 = .ok (.iload 4, 2) := by decide +kernel
theorem dX2_decideAt_31 : decode cX2_decideAt 31 = .ok (.iload 5, 2) := by decide +kernel
theorem dX2_decideAt_33 : decode cX2_decideAt 33 = .ok (.iconst 0, 1) := by decide +kernel
theorem dX2_decideAt_34 : decode cX2_decideAt 34 = .ok (.iload_n 2, 1) := by decide +kernel
theorem dX2_decideAt_35 : decode cX2_decideAt 35 = .ok (.invokevirtual 38, 3) := by decide +kernel
theorem dX2_decideAt_38 : decode cX2_decideAt 38 = .ok (.ior, 1) := by decide +kernel
theorem dX2_decideAt_39 : decode cX2_decideAt 39 = .ok (.istore_n 3, 1) := by decide +kernel
theorem dX2_decideAt_40 : decode cX2_decideAt 40 = .ok (.iload_n 3, 1) := by decide +kernel
theorem dX2_decideAt_41 : decode cX2_decideAt 41 = .ok (.aload_n 0, 1) := by decide +kernel
theorem dX2_decideAt_42 : decode cX2_decideAt 42 = .ok (.aload_n 1, 1) := by decide +kernel
theorem dX2_decideAt_43 : decode cX2_decideAt 43 = .ok (.iload 4, 2) := by decide +kernel
theorem dX2_decideAt_45 : decode cX2_decideAt 45 = .ok (.iload 5, 2) := by decide +kernel
theorem dX2_decideAt_47 : decode cX2_decideAt 47 = .ok (.iconst 1, 1) := by decide +kernel
theorem dX2_decideAt_48 : decode cX2_decideAt 48 = .ok (.iload_n 2, 1) := by decide +kernel
theorem dX2_decideAt_49 : decode cX2_decideAt 49 = .ok (.invokevirtual 38, 3) := by decide +kernel
theorem dX2_decideAt_52 : decode cX2_decideAt 52 = .ok (.ior, 1) := by decide +kernel
theorem dX2_decideAt_53 : decode cX2_decideAt 53 = .ok (.istore_n 3, 1) := by decide +kernel
theorem dX2_decideAt_54 : decode cX2_decideAt 54 = .ok (.iinc 5 1, 3) := by decide +kernel
theorem dX2_decideAt_57 : decode cX2_decideAt 57 = .ok (.goto (-40), 3) := by decide +kernel
theorem dX2_decideAt_60 : decode cX2_decideAt 60 = .ok (.iinc 4 1, 3) := by decide +kernel
theorem dX2_decideAt_63 : decode cX2_decideAt 63 = .ok (.goto (-58), 3) := by decide +kernel
theorem dX2_decideAt_66 : decode cX2_decideAt 66 = .ok (.iload_n 3, 1) := by decide +kernel
theorem dX2_decideAt_67 : decode cX2_decideAt 67 = .ok (.ireturn, 1) := by decide +kernel
theorem dX2_decide_0 : decode cX2_decide 0 = .ok (.iload_n 2, 1) := by decide +kernel
theorem dX2_decide_1 : decode cX2_decide 1 = .ok (.iload_n 3, 1) := by decide +kernel
theorem dX2_decide_2 : decode cX2_decide 2 = .ok (.iload 4, 2) := by decide +kernel
theorem dX2_decide_4 : decode cX2_decide 4 = .ok (.invokestatic 30, 3) := by decide +kernel
theorem dX2_decide_7 : decode cX2_decide 7 = .ok (.istore 6, 2) := by decide +kernel
theorem dX2_decide_9 : decode cX2_decide 9 = .ok (.aload_n 0, 1) := by decide +kernel
theorem dX2_decide_10 : decode cX2_decide 10 = .ok (.getfield 11, 3) := by decide +kernel
theorem dX2_decide_13 : decode cX2_decide 13 = .ok (.iload 6, 2) := by decide +kernel
theorem dX2_decide_15 : decode cX2_decide 15 = .ok (.iaload, 1) := by decide +kernel
theorem dX2_decide_16 : decode cX2_decide 16 = .ok (.ifCond .eq 5, 3) := by decide +kernel
theorem dX2_decide_19 : decode cX2_decide 19 = .ok (.iconst 0, 1) := by decide +kernel
theorem dX2_decide_20 : decode cX2_decide 20 = .ok (.ireturn, 1) := by decide +kernel
theorem dX2_decide_21 : decode cX2_decide 21 = .ok (.iload 4, 2) := by decide +kernel
theorem dX2_decide_23 : decode cX2_decide 23 = .ok (.ifCond .ne 7, 3) := by decide +kernel
theorem dX2_decide_26 : decode cX2_decide 26 = .ok (.iconst 1, 1) := by decide +kernel
theorem dX2_decide_27 : decode cX2_decide 27 = .ok (.goto 4, 3) := by decide +kernel
theorem dX2_decide_30 : decode cX2_decide 30 = .ok (.iconst 2, 1) := by decide +kernel
theorem dX2_decide_31 : decode cX2_decide 31 = .ok (.istore 7, 2) := by decide +kernel
theorem dX2_decide_33 : decode cX2_decide 33 = .ok (.iload 4, 2) := by decide +kernel
theorem dX2_decide_35 : decode cX2_decide 35 = .ok (.ifCond .ne 7, 3) := by decide +kernel
theorem dX2_decide_38 : decode cX2_decide 38 = .ok (.iload_n 2, 1) := by decide +kernel
theorem dX2_decide_39 : decode cX2_decide 39 = .ok (.goto 4, 3) := by decide +kernel
theorem dX2_decide_42 : decode cX2_decide 42 = .ok (.iload_n 3, 1) := by decide +kernel
theorem dX2_decide_43 : decode cX2_decide 43 = .ok (.istore 8, 2) := by decide +kernel
theorem dX2_decide_45 : decode cX2_decide 45 = .ok (.iconst 1, 1) := by decide +kernel
theorem dX2_decide_46 : decode cX2_decide 46 = .ok (.istore 9, 2) := by decide +kernel
theorem dX2_decide_48 : decode cX2_decide 48 = .ok (.iconst 0, 1) := by decide +kernel
theorem dX2_decide_49 : decode cX2_decide 49 = .ok (.istore 10, 2) := by decide +kernel
theorem dX2_decide_51 : decode cX2_decide 51 = .ok (.iconst 0, 1) := by decide +kernel
theorem dX2_decide_52 : decode cX2_decide 52 = .ok (.istore 11, 2) := by decide +kernel
theorem dX2_decide_54 : decode cX2_decide 54 = .ok (.iload 11, 2) := by decide +kernel
theorem dX2_decide_56 : decode cX2_decide 56 = .ok (.aload_n 1, 1) := by decide +kernel
theorem dX2_decide_57 : decode cX2_decide 57 = .ok (.getfield 24, 3) := by decide +kernel
theorem dX2_decide_60 : decode cX2_decide 60 = .ok (.if_icmp .ge 118, 3) := by decide +kernel
theorem dX2_decide_63 : decode cX2_decide 63 = .ok (.iload 11, 2) := by decide +kernel
theorem dX2_decide_65 : decode cX2_decide 65 = .ok (.iload 8, 2) := by decide +kernel
theorem dX2_decide_67 : decode cX2_decide 67 = .ok (.if_icmp .eq 17, 3) := by decide +kernel
theorem dX2_decide_70 : decode cX2_decide 70 = .ok (.aload_n 1, 1) := by decide +kernel
theorem dX2_decide_71 : decode cX2_decide 71 = .ok (.getfield 42, 3) := by decide +kernel
theorem dX2_decide_74 : decode cX2_decide 74 = .ok (.iload 8, 2) := by decide +kernel
theorem dX2_decide_76 : decode cX2_decide 76 = .ok (.aaload, 1) := by decide +kernel
theorem dX2_decide_77 : decode cX2_decide 77 = .ok (.iload 11, 2) := by decide +kernel
theorem dX2_decide_79 : decode cX2_decide 79 = .ok (.iaload, 1) := by decide +kernel
theorem dX2_decide_80 : decode cX2_decide 80 = .ok (.iconst (-1), 1) := by decide +kernel
theorem dX2_decide_81 : decode cX2_decide 81 = .ok (.if_icmp .eq 91, 3) := by decide +kernel
theorem dX2_decide_84 : decode cX2_decide 84 = .ok (.iload 4, 2) := by decide +kernel
theorem dX2_decide_86 : decode cX2_decide 86 = .ok (.ifCond .ne 13, 3) := by decide +kernel
theorem dX2_decide_89 : decode cX2_decide 89 = .ok (.iload 11, 2) := by decide +kernel
theorem dX2_decide_91 : decode cX2_decide 91 = .ok (.iload_n 3, 1) := by decide +kernel
theorem dX2_decide_92 : decode cX2_decide 92 = .ok (.iconst 1, 1) := by decide +kernel
theorem dX2_decide_93 : decode cX2_decide 93 = .ok (.invokestatic 30, 3) := by decide +kernel
theorem dX2_decide_96 : decode cX2_decide 96 = .ok (.goto 10, 3) := by decide +kernel
theorem dX2_decide_99 : decode cX2_decide 99 = .ok (.iload_n 2, 1) := by decide +kernel
theorem dX2_decide_100 : decode cX2_decide 100 = .ok (.iload 11, 2) := by decide +kernel
theorem dX2_decide_102 : decode cX2_decide 102 = .ok (.iconst 0, 1) := by decide +kernel
theorem dX2_decide_103 : decode cX2_decide 103 = .ok (.invokestatic 30, 3) := by decide +kernel
theorem dX2_decide_106 : decode cX2_decide 106 = .ok (.istore 12, 2) := by decide +kernel
theorem dX2_decide_108 : decode cX2_decide 108 = .ok (.aload_n 0, 1) := by decide +kernel
theorem dX2_decide_109 : decode cX2_decide 109 = .ok (.getfield 15, 3) := by decide +kernel
theorem dX2_decide_112 : decode cX2_decide 112 = .ok (.iload 12, 2) := by decide +kernel
theorem dX2_decide_114 : decode cX2_decide 114 = .ok (.iaload, 1) := by decide +kernel
theorem dX2_decide_115 : decode cX2_decide 115 = .ok (.iload 5, 2) := by decide +kernel
theorem dX2_decide_117 : decode cX2_decide 117 = .ok (.if_icmp .ge 13, 3) := by decide +kernel
theorem dX2_decide_120 : decode cX2_decide 120 = .ok (.aload_n 0, 1) := by decide +kernel
theorem dX2_decide_121 : decode cX2_decide 121 = .ok (.getfield 11, 3) := by decide +kernel
theorem dX2_decide_124 : decode cX2_decide 124 = .ok (.iload 12, 2) := by decide +kernel
theorem dX2_decide_126 : decode cX2_decide 126 = .ok (.iaload, 1) := by decide +kernel
theorem dX2_decide_127 : decode cX2_decide 127 = .ok (.goto 4, 3) := by decide +kernel
theorem dX2_decide_130 : decode cX2_decide 130 = .ok (.iconst 0, 1) := by decide +kernel
theorem dX2_decide_131 : decode cX2_decide 131 = .ok (.istore 13, 2) := by decide +kernel
theorem dX2_decide_133 : decode cX2_decide 133 = .ok (.iload 10, 2) := by decide +kernel
theorem dX2_decide_135 : decode cX2_decide 135 = .ok (.iload 13, 2) := by decide +kernel
theorem dX2_decide_137 : decode cX2_decide 137 = .ok (.iload 7, 2) := by decide +kernel
theorem dX2_decide_139 : decode cX2_decide 139 = .ok (.if_icmp .ne 7, 3) := by decide +kernel
theorem dX2_decide_142 : decode cX2_decide 142 = .ok (.iconst 1, 1) := by decide +kernel
theorem dX2_decide_143 : decode cX2_decide 143 = .ok (.goto 4, 3) := by decide +kernel
theorem dX2_decide_146 : decode cX2_decide 146 = .ok (.iconst 0, 1) := by decide +kernel
theorem dX2_decide_147 : decode cX2_decide 147 = .ok (.ior, 1) := by decide +kernel
theorem dX2_decide_148 : decode cX2_decide 148 = .ok (.istore 10, 2) := by decide +kernel
theorem dX2_decide_150 : decode cX2_decide 150 = .ok (.iload 9, 2) := by decide +kernel
theorem dX2_decide_152 : decode cX2_decide 152 = .ok (.iload 13, 2) := by decide +kernel
theorem dX2_decide_154 : decode cX2_decide 154 = .ok (.ifCond .eq 14, 3) := by decide +kernel
theorem dX2_decide_157 : decode cX2_decide 157 = .ok (.iload 13, 2) := by decide +kernel
theorem dX2_decide_159 : decode cX2_decide 159 = .ok (.iload 7, 2) := by decide +kernel
theorem dX2_decide_161 : decode cX2_decide 161 = .ok (.if_icmp .eq 7, 3) := by decide +kernel
theorem dX2_decide_164 : decode cX2_decide 164 = .ok (.iconst 1, 1) := by decide +kernel
theorem dX2_decide_165 : decode cX2_decide 165 = .ok (.goto 4, 3) := by decide +kernel
theorem dX2_decide_168 : decode cX2_decide 168 = .ok (.iconst 0, 1) := by decide +kernel
theorem dX2_decide_169 : decode cX2_decide 169 = .ok (.iand, 1) := by decide +kernel
theorem dX2_decide_170 : decode cX2_decide 170 = .ok (.istore 9, 2) := by decide +kernel
theorem dX2_decide_172 : decode cX2_decide 172 = .ok (.iinc 11 1, 3) := by decide +kernel
theorem dX2_decide_175 : decode cX2_decide 175 = .ok (.goto (-121), 3) := by decide +kernel
theorem dX2_decide_178 : decode cX2_decide 178 = .ok (.iload 10, 2) := by decide +kernel
theorem dX2_decide_180 : decode cX2_decide 180 = .ok (.ifCond .ne 10, 3) := by decide +kernel
theorem dX2_decide_183 : decode cX2_decide 183 = .ok (.iload 9, 2) := by decide +kernel
theorem dX2_decide_185 : decode cX2_decide 185 = .ok (.ifCond .ne 5, 3) := by decide +kernel
theorem dX2_decide_188 : decode cX2_decide 188 = .ok (.iconst 0, 1) := by decide +kernel
theorem dX2_decide_189 : decode cX2_decide 189 = .ok (.ireturn, 1) := by decide +kernel
theorem dX2_decide_190 : decode cX2_decide 190 = .ok (.aload_n 0, 1) := by decide +kernel
theorem dX2_decide_191 : decode cX2_decide 191 = .ok (.getfield 11, 3) := by decide +kernel
theorem dX2_decide_194 : decode cX2_decide 194 = .ok (.iload 6, 2) := by decide +kernel
theorem dX2_decide_196 : decode cX2_decide 196 = .ok (.iload 10, 2) := by decide +kernel
theorem dX2_decide_198 : decode cX2_decide 198 = .ok (.ifCond .eq 8, 3) := by decide +kernel
theorem dX2_decide_201 : decode cX2_decide 201 = .ok (.iload 7, 2) := by decide +kernel
theorem dX2_decide_203 : decode cX2_decide 203 = .ok (.goto 7, 3) := by decide +kernel
theorem dX2_decide_206 : decode cX2_decide 206 = .ok (.iconst 3, 1) := by decide +kernel
theorem dX2_decide_207 : decode cX2_decide 207 = .ok (.iload 7, 2) := by decide +kernel
theorem dX2_decide_209 : decode cX2_decide 209 = .ok (.isub, 1) := by decide +kernel
theorem dX2_decide_210 : decode cX2_decide 210 = .ok (.iastore, 1) := by decide +kernel
theorem dX2_decide_211 : decode cX2_decide 211 = .ok (.aload_n 0, 1) := by decide +kernel
theorem dX2_decide_212 : decode cX2_decide 212 = .ok (.getfield 15, 3) := by decide +kernel
theorem dX2_decide_215 : decode cX2_decide 215 = .ok (.iload 6, 2) := by decide +kernel
theorem dX2_decide_217 : decode cX2_decide 217 = .ok (.iload 5, 2) := by decide +kernel
theorem dX2_decide_219 : decode cX2_decide 219 = .ok (.iastore, 1) := by decide +kernel
theorem dX2_decide_220 : decode cX2_decide 220 = .ok (.iconst 1, 1) := by decide +kernel
theorem dX2_decide_221 : decode cX2_decide 221 = .ok (.ireturn, 1) := by decide +kernel
theorem dX3_init_0 : decode cX3_init 0 = .ok (.aload_n 0, 1) := by decide +kernel
theorem dX3_init_1 : decode cX3_init 1 = .ok (.invokespecial 3, 3) := by decide +kernel
theorem dX3_init_4 : decode cX3_init 4 = .ok (.aload_n 0, 1) := by decide +kernel
theorem dX3_init_5 : decode cX3_init 5 = .ok (.bipush 6, 2) := by decide +kernel
theorem dX3_init_7 : decode cX3_init 7 = .ok (.newarray .int, 2) := by decide +kernel
theorem dX3_init_9 : decode cX3_init 9 = .ok (.putfield 9, 3) := by decide +kernel
theorem dX3_init_12 : decode cX3_init 12 = .ok (.aload_n 0, 1) := by decide +kernel
theorem dX3_init_13 : decode cX3_init 13 = .ok (.bipush 6, 2) := by decide +kernel
theorem dX3_init_15 : decode cX3_init 15 = .ok (.newarray .int, 2) := by decide +kernel
theorem dX3_init_17 : decode cX3_init 17 = .ok (.putfield 15, 3) := by decide +kernel
theorem dX3_init_20 : decode cX3_init 20 = .ok (.return_, 1) := by decide +kernel
theorem dX3_add_0 : decode cX3_add 0 = .ok (.aload_n 0, 1) := by decide +kernel
theorem dX3_add_1 : decode cX3_add 1 = .ok (.getfield 18, 3) := by decide +kernel
theorem dX3_add_4 : decode cX3_add 4 = .ok (.bipush 6, 2) := by decide +kernel
theorem dX3_add_6 : decode cX3_add 6 = .ok (.if_icmp .lt 5, 3) := by decide +kernel
theorem dX3_add_9 : decode cX3_add 9 = .ok (.iconst 0, 1) := by decide +kernel
theorem dX3_add_10 : decode cX3_add 10 = .ok (.ireturn, 1) := by decide +kernel
theorem dX3_add_11 : decode cX3_add 11 = .ok (.aload_n 0, 1) := by decide +kernel
theorem dX3_add_12 : decode cX3_add 12 = .ok (.getfield 9, 3) := by decide +kernel
theorem dX3_add_15 : decode cX3_add 15 = .ok (.aload_n 0, 1) := by decide +kernel
theorem dX3_add_16 : decode cX3_add 16 = .ok (.getfield 18, 3) := by decide +kernel
theorem dX3_add_19 : decode cX3_add 19 = .ok (.iload_n 1, 1) := by decide +kernel
theorem dX3_add_20 : decode cX3_add 20 = .ok (.iastore, 1) := by decide +kernel
theorem dX3_add_21 : decode cX3_add 21 = .ok (.aload_n 0, 1) := by decide +kernel
theorem dX3_add_22 : decode cX3_add 22 = .ok (.getfield 15, 3) := by decide +kernel
theorem dX3_add_25 : decode cX3_add 25 = .ok (.aload_n 0, 1) := by decide +kernel
theorem dX3_add_26 : decode cX3_add 26 = .ok (.getfield 18, 3) := by decide +kernel
theorem dX3_add_29 : decode cX3_add 29 = .ok (.iload_n 2, 1) := by decide +kernel
theorem dX3_add_30 : decode cX3_add 30 = .ok (.iastore, 1) := by decide +kernel
theorem dX3_add_31 : decode cX3_add 31 = .ok (.aload_n 0, 1) := by decide +kernel
theorem dX3_add_32 : decode cX3_add 32 = .ok (.dup, 1) := by decide +kernel
theorem dX3_add_33 : decode cX3_add 33 = .ok (.getfield 18, 3) := by decide +kernel
theorem dX3_add_36 : decode cX3_add 36 = .ok (.iconst 1, 1) := by decide +kernel
theorem dX3_add_37 : decode cX3_add 37 = .ok (.iadd, 1) := by decide +kernel
theorem dX3_add_38 : decode cX3_add 38 = .ok (.putfield 18, 3) := by decide +kernel
theorem dX3_add_41 : decode cX3_add 41 = .ok (.iconst 1, 1) := by decide +kernel
theorem dX3_add_42 : decode cX3_add 42 = .ok (.ireturn, 1) := by decide +kernel
theorem dX3_find_0 : decode cX3_find 0 = .ok (.aload_n 0, 1) := by decide +kernel
theorem dX3_find_1 : decode cX3_find 1 = .ok (.iconst 0, 1) := by decide +kernel
theorem dX3_find_2 : decode cX3_find 2 = .ok (.putfield 22, 3) := by decide +kernel
theorem dX3_find_5 : decode cX3_find 5 = .ok (.aload_n 0, 1) := by decide +kernel
theorem dX3_find_6 : decode cX3_find 6 = .ok (.iconst 0, 1) := by decide +kernel
theorem dX3_find_7 : decode cX3_find 7 = .ok (.putfield 25, 3) := by decide +kernel
theorem dX3_find_10 : decode cX3_find 10 = .ok (.aload_n 0, 1) := by decide +kernel
theorem dX3_find_11 : decode cX3_find 11 = .ok (.iload_n 2, 1) := by decide +kernel
theorem dX3_find_12 : decode cX3_find 12 = .ok (.putfield 28, 3) := by decide +kernel
theorem dX3_find_15 : decode cX3_find 15 = .ok (.aload_n 1, 1) := by decide +kernel
theorem dX3_find_16 : decode cX3_find 16 = .ok (.getfield 31, 3) := by decide +kernel
theorem dX3_find_19 : decode cX3_find 19 = .ok (.ifCond .le 21, 3) := by decide +kernel
theorem dX3_find_22 : decode cX3_find 22 = .ok (.aload_n 0, 1) := by decide +kernel
theorem dX3_find_23 : decode cX3_find 23 = .ok (.aload_n 1, 1) := by decide +kernel
theorem dX3_find_24 : decode cX3_find 24 = .ok (.iconst 1, 1) := by decide +kernel
theorem dX3_find_25 : decode cX3_find 25 = .ok (.aload_n 1, 1) := by decide +kernel
theorem dX3_find_26 : decode cX3_find 26 = .ok (.getfield 34, 3) := by decide +kernel
theorem dX3_find_29 : decode cX3_find 29 = .ok (.ishl, 1) := by decide +kernel
theorem dX3_find_30 : decode cX3_find 30 = .ok (.iconst 1, 1) := by decide +kernel
theorem dX3_find_31 : decode cX3_find 31 = .ok (.isub, 1) := by decide +kernel
theorem dX3_find_32 : decode cX3_find 32 = .ok (.aload_n 1, 1) := by decide +kernel
theorem dX3_find_33 : decode cX3_find 33 = .ok (.getfield 37, 3) := by decide +kernel
theorem dX3_find_36 : decode cX3_find 36 = .ok (.iconst 0, 1) := by decide +kernel
theorem dX3_find_37 : decode cX3_find 37 = .ok (.invokevirtual 40, 3) := by decide +kernel
theorem dX3_find_40 : decode cX3_find 40 = .ok (.return_, 1) := by decide +kernel
theorem dX3_meet_0 : decode cX3_meet 0 = .ok (.aload_n 0, 1) := by decide +kernel
theorem dX3_meet_1 : decode cX3_meet 1 = .ok (.invokevirtual 44, 3) := by decide +kernel
theorem dX3_meet_4 : decode cX3_meet 4 = .ok (.ifCond .eq 30, 3) := by decide +kernel
theorem dX3_meet_7 : decode cX3_meet 7 = .ok (.aload_n 0, 1) := by decide +kernel
theorem dX3_meet_8 : decode cX3_meet 8 = .ok (.dup, 1) := by decide +kernel
theorem dX3_meet_9 : decode cX3_meet 9 = .ok (.getfield 22, 3) := by decide +kernel
theorem dX3_meet_12 : decode cX3_meet 12 = .ok (.iconst 1, 1) := by decide +kernel
theorem dX3_meet_13 : decode cX3_meet 13 = .ok (.iadd, 1) := by decide +kernel
theorem dX3_meet_14 : decode cX3_meet 14 = .ok (.putfield 22, 3) := by decide +kernel
theorem dX3_meet_17 : decode cX3_meet 17 = .ok (.aload_n 0, 1) := by decide +kernel
theorem dX3_meet_18 : decode cX3_meet 18 = .ok (.dup, 1) := by decide +kernel
theorem dX3_meet_19 : decode cX3_meet 19 = .ok (.getfield 25, 3) := by decide +kernel
theorem dX3_meet_22 : decode cX3_meet 22 = .ok (.iconst 1, 1) := by decide +kernel
theorem dX3_meet_23 : decode cX3_meet 23 = .ok (.aload_n 0, 1) := by decide +kernel
theorem dX3_meet_24 : decode cX3_meet 24 = .ok (.aload_n 1, 1) := by decide +kernel
theorem dX3_meet_25 : decode cX3_meet 25 = .ok (.iload_n 2, 1) := by decide +kernel
theorem dX3_meet_26 : decode cX3_meet 26 = .ok (.invokevirtual 48, 3) := by decide +kernel
theorem dX3_meet_29 : decode cX3_meet 29 = .ok (.ishl, 1) := by decide +kernel
theorem dX3_meet_30 : decode cX3_meet 30 = .ok (.ior, 1) := by decide +kernel
theorem dX3_meet_31 : decode cX3_meet 31 = .ok (.putfield 25, 3) := by decide +kernel
theorem dX3_meet_34 : decode cX3_meet 34 = .ok (.return_, 1) := by decide +kernel
theorem dX3_agrees_0 : decode cX3_agrees 0 = .ok (.iconst 0, 1) := by decide +kernel
theorem dX3_agrees_1 : decode cX3_agrees 1 = .ok (.istore_n 1, 1) := by decide +kernel
theorem dX3_agrees_2 : decode cX3_agrees 2 = .ok (.iload_n 1, 1) := by decide +kernel
theorem dX3_agrees_3 : decode cX3_agrees 3 = .ok (.aload_n 0, 1) := by decide +kernel
theorem dX3_agrees_4 : decode cX3_agrees 4 = .ok (.getfield 18, 3) := by decide +kernel
theorem dX3_agrees_7 : decode cX3_agrees 7 = .ok (.if_icmp .ge 31, 3) := by decide +kernel
theorem dX3_agrees_10 : decode cX3_agrees 10 = .ok (.aload_n 0, 1) := by decide +kernel
theorem dX3_agrees_11 : decode cX3_agrees 11 = .ok (.getfield 52, 3) := by decide +kernel
theorem dX3_agrees_14 : decode cX3_agrees 14 = .ok (.aload_n 0, 1) := by decide +kernel
theorem dX3_agrees_15 : decode cX3_agrees 15 = .ok (.getfield 9, 3) := by decide +kernel
theorem dX3_agrees_18 : decode cX3_agrees 18 = .ok (.iload_n 1, 1) := by decide +kernel
theorem dX3_agrees_19 : decode cX3_agrees 19 = .ok (.iaload, 1) := by decide +kernel
theorem dX3_agrees_20 : decode cX3_agrees 20 = .ok (.iaload, 1) := by decide +kernel
theorem dX3_agrees_21 : decode cX3_agrees 21 = .ok (.aload_n 0, 1) := by decide +kernel
theorem dX3_agrees_22 : decode cX3_agrees 22 = .ok (.getfield 15, 3) := by decide +kernel
theorem dX3_agrees_25 : decode cX3_agrees 25 = .ok (.iload_n 1, 1) := by decide +kernel
theorem dX3_agrees_26 : decode cX3_agrees 26 = .ok (.iaload, 1) := by decide +kernel
theorem dX3_agrees_27 : decode cX3_agrees 27 = .ok (.if_icmp .eq 5, 3) := by decide +kernel
theorem dX3_agrees_30 : decode cX3_agrees 30 = .ok (.iconst 0, 1) := by decide +kernel
theorem dX3_agrees_31 : decode cX3_agrees 31 = .ok (.ireturn, 1) := by decide +kernel
theorem dX3_agrees_32 : decode cX3_agrees 32 = .ok (.iinc 1 1, 3) := by decide +kernel
theorem dX3_agrees_35 : decode cX3_agrees 35 = .ok (.goto (-33), 3) := by decide +kernel
theorem dX3_agrees_38 : decode cX3_agrees 38 = .ok (.iconst 1, 1) := by decide +kernel
theorem dX3_agrees_39 : decode cX3_agrees 39 = .ok (.ireturn, 1) := by decide +kernel
theorem dX3_placeOf_0 : decode cX3_placeOf 0 = .ok (.aload_n 1, 1) := by decide +kernel
theorem dX3_placeOf_1 : decode cX3_placeOf 1 = .ok (.getfield 37, 3) := by decide +kernel
theorem dX3_placeOf_4 : decode cX3_placeOf 4 = .ok (.istore_n 3, 1) := by decide +kernel
theorem dX3_placeOf_5 : decode cX3_placeOf 5 = .ok (.iconst 0, 1) := by decide +kernel
theorem dX3_placeOf_6 : decode cX3_placeOf 6 = .ok (.istore 4, 2) := by decide +kernel
theorem dX3_placeOf_8 : decode cX3_placeOf 8 = .ok (.iconst 0, 1) := by decide +kernel
theorem dX3_placeOf_9 : decode cX3_placeOf 9 = .ok (.istore 5, 2) := by decide +kernel
theorem dX3_placeOf_11 : decode cX3_placeOf 11 = .ok (.iload 5, 2) := by decide +kernel
theorem dX3_placeOf_13 : decode cX3_placeOf 13 = .ok (.iload_n 2, 1) := by decide +kernel
theorem dX3_placeOf_14 : decode cX3_placeOf 14 = .ok (.if_icmp .ge 44, 3) := by decide +kernel
theorem dX3_placeOf_17 : decode cX3_placeOf 17 = .ok (.iload 4, 2) := by decide +kernel
theorem dX3_placeOf_19 : decode cX3_placeOf 19 = .ok (.aload_n 0, 1) := by decide +kernel
theorem dX3_placeOf_20 : decode cX3_placeOf 20 = .ok (.getfield 28, 3) := by decide +kernel
theorem dX3_placeOf_23 : decode cX3_placeOf 23 = .ok (.if_icmp .gt 35, 3) := by decide +kernel
theorem dX3_placeOf_26 : decode cX3_placeOf 26 = .ok (.aload_n 1, 1) := by decide +kernel
theorem dX3_placeOf_27 : decode cX3_placeOf 27 = .ok (.aload_n 0, 1) := by decide +kernel
theorem dX3_placeOf_28 : decode cX3_placeOf 28 = .ok (.getfield 55, 3) := by decide +kernel
theorem dX3_placeOf_31 : decode cX3_placeOf 31 = .ok (.iload 5, 2) := by decide +kernel
theorem dX3_placeOf_33 : decode cX3_placeOf 33 = .ok (.iaload, 1) := by decide +kernel
theorem dX3_placeOf_34 : decode cX3_placeOf 34 = .ok (.invokevirtual 58, 3) := by decide +kernel
theorem dX3_placeOf_37 : decode cX3_placeOf 37 = .ok (.istore_n 3, 1) := by decide +kernel
theorem dX3_placeOf_38 : decode cX3_placeOf 38 = .ok (.aload_n 0, 1) := by decide +kernel
theorem dX3_placeOf_39 : decode cX3_placeOf 39 = .ok (.getfield 52, 3) := by decide +kernel
theorem dX3_placeOf_42 : decode cX3_placeOf 42 = .ok (.aload_n 0, 1) := by decide +kernel
theorem dX3_placeOf_43 : decode cX3_placeOf 43 = .ok (.getfield 55, 3) := by decide +kernel
theorem dX3_placeOf_46 : decode cX3_placeOf 46 = .ok (.iload 5, 2) := by decide +kernel
theorem dX3_placeOf_48 : decode cX3_placeOf 48 = .ok (.iaload, 1) := by decide +kernel
theorem dX3_placeOf_49 : decode cX3_placeOf 49 = .ok (.iaload, 1) := by decide +kernel
theorem dX3_placeOf_50 : decode cX3_placeOf 50 = .ok (.istore 4, 2) := by decide +kernel
theorem dX3_placeOf_52 : decode cX3_placeOf 52 = .ok (.iinc 5 1, 3) := by decide +kernel
theorem dX3_placeOf_55 : decode cX3_placeOf 55 = .ok (.goto (-44), 3) := by decide +kernel
theorem dX3_placeOf_58 : decode cX3_placeOf 58 = .ok (.iload_n 3, 1) := by decide +kernel
theorem dX3_placeOf_59 : decode cX3_placeOf 59 = .ok (.ireturn, 1) := by decide +kernel
theorem dX4_init_0 : decode cX4_init 0 = .ok (.aload_n 0, 1) := by decide +kernel
theorem dX4_init_1 : decode cX4_init 1 = .ok (.invokespecial 3, 3) := by decide +kernel
theorem dX4_init_4 : decode cX4_init 4 = .ok (.aload_n 0, 1) := by decide +kernel
theorem dX4_init_5 : decode cX4_init 5 = .ok (.bipush 15, 2) := by decide +kernel
theorem dX4_init_7 : decode cX4_init 7 = .ok (.newarray .int, 2) := by decide +kernel
theorem dX4_init_9 : decode cX4_init 9 = .ok (.putfield 9, 3) := by decide +kernel
theorem dX4_init_12 : decode cX4_init 12 = .ok (.aload_n 0, 1) := by decide +kernel
theorem dX4_init_13 : decode cX4_init 13 = .ok (.bipush 15, 2) := by decide +kernel
theorem dX4_init_15 : decode cX4_init 15 = .ok (.newarray .int, 2) := by decide +kernel
theorem dX4_init_17 : decode cX4_init 17 = .ok (.putfield 15, 3) := by decide +kernel
theorem dX4_init_20 : decode cX4_init 20 = .ok (.return_, 1) := by decide +kernel
theorem dX4_add_0 : decode cX4_add 0 = .ok (.aload_n 0, 1) := by decide +kernel
theorem dX4_add_1 : decode cX4_add 1 = .ok (.getfield 18, 3) := by decide +kernel
theorem dX4_add_4 : decode cX4_add 4 = .ok (.bipush 15, 2) := by decide +kernel
theorem dX4_add_6 : decode cX4_add 6 = .ok (.if_icmp .lt 5, 3) := by decide +kernel
theorem dX4_add_9 : decode cX4_add 9 = .ok (.iconst 0, 1) := by decide +kernel
theorem dX4_add_10 : decode cX4_add 10 = .ok (.ireturn, 1) := by decide +kernel
theorem dX4_add_11 : decode cX4_add 11 = .ok (.aload_n 0, 1) := by decide +kernel
theorem dX4_add_12 : decode cX4_add 12 = .ok (.getfield 9, 3) := by decide +kernel
theorem dX4_add_15 : decode cX4_add 15 = .ok (.aload_n 0, 1) := by decide +kernel
theorem dX4_add_16 : decode cX4_add 16 = .ok (.getfield 18, 3) := by decide +kernel
theorem dX4_add_19 : decode cX4_add 19 = .ok (.iload_n 1, 1) := by decide +kernel
theorem dX4_add_20 : decode cX4_add 20 = .ok (.iastore, 1) := by decide +kernel
theorem dX4_add_21 : decode cX4_add 21 = .ok (.aload_n 0, 1) := by decide +kernel
theorem dX4_add_22 : decode cX4_add 22 = .ok (.getfield 15, 3) := by decide +kernel
theorem dX4_add_25 : decode cX4_add 25 = .ok (.aload_n 0, 1) := by decide +kernel
theorem dX4_add_26 : decode cX4_add 26 = .ok (.getfield 18, 3) := by decide +kernel
theorem dX4_add_29 : decode cX4_add 29 = .ok (.iload_n 2, 1) := by decide +kernel
theorem dX4_add_30 : decode cX4_add 30 = .ok (.iastore, 1) := by decide +kernel
theorem dX4_add_31 : decode cX4_add 31 = .ok (.aload_n 0, 1) := by decide +kernel
theorem dX4_add_32 : decode cX4_add 32 = .ok (.dup, 1) := by decide +kernel
theorem dX4_add_33 : decode cX4_add 33 = .ok (.getfield 18, 3) := by decide +kernel
theorem dX4_add_36 : decode cX4_add 36 = .ok (.iconst 1, 1) := by decide +kernel
theorem dX4_add_37 : decode cX4_add 37 = .ok (.iadd, 1) := by decide +kernel
theorem dX4_add_38 : decode cX4_add 38 = .ok (.putfield 18, 3) := by decide +kernel
theorem dX4_add_41 : decode cX4_add 41 = .ok (.iconst 1, 1) := by decide +kernel
theorem dX4_add_42 : decode cX4_add 42 = .ok (.ireturn, 1) := by decide +kernel
theorem dX4_firstWrong_0 : decode cX4_firstWrong 0 = .ok (.iconst 0, 1) := by decide +kernel
theorem dX4_firstWrong_1 : decode cX4_firstWrong 1 = .ok (.istore_n 2, 1) := by decide +kernel
theorem dX4_firstWrong_2 : decode cX4_firstWrong 2 = .ok (.iload_n 2, 1) := by decide +kernel
theorem dX4_firstWrong_3 : decode cX4_firstWrong 3 = .ok (.aload_n 0, 1) := by decide +kernel
theorem dX4_firstWrong_4 : decode cX4_firstWrong 4 = .ok (.getfield 18, 3) := by decide +kernel
theorem dX4_firstWrong_7 : decode cX4_firstWrong 7 = .ok (.if_icmp .ge 31, 3) := by decide +kernel
theorem dX4_firstWrong_10 : decode cX4_firstWrong 10 = .ok (.aload_n 1, 1) := by decide +kernel
theorem dX4_firstWrong_11 : decode cX4_firstWrong 11 = .ok (.getfield 22, 3) := by decide +kernel
theorem dX4_firstWrong_14 : decode cX4_firstWrong 14 = .ok (.aload_n 0, 1) := by decide +kernel
theorem dX4_firstWrong_15 : decode cX4_firstWrong 15 = .ok (.getfield 9, 3) := by decide +kernel
theorem dX4_firstWrong_18 : decode cX4_firstWrong 18 = .ok (.iload_n 2, 1) := by decide +kernel
theorem dX4_firstWrong_19 : decode cX4_firstWrong 19 = .ok (.iaload, 1) := by decide +kernel
theorem dX4_firstWrong_20 : decode cX4_firstWrong 20 = .ok (.iaload, 1) := by decide +kernel
theorem dX4_firstWrong_21 : decode cX4_firstWrong 21 = .ok (.aload_n 0, 1) := by decide +kernel
theorem dX4_firstWrong_22 : decode cX4_firstWrong 22 = .ok (.getfield 15, 3) := by decide +kernel
theorem dX4_firstWrong_25 : decode cX4_firstWrong 25 = .ok (.iload_n 2, 1) := by decide +kernel
theorem dX4_firstWrong_26 : decode cX4_firstWrong 26 = .ok (.iaload, 1) := by decide +kernel
theorem dX4_firstWrong_27 : decode cX4_firstWrong 27 = .ok (.if_icmp .eq 5, 3) := by decide +kernel
theorem dX4_firstWrong_30 : decode cX4_firstWrong 30 = .ok (.iload_n 2, 1) := by decide +kernel
theorem dX4_firstWrong_31 : decode cX4_firstWrong 31 = .ok (.ireturn, 1) := by decide +kernel
theorem dX4_firstWrong_32 : decode cX4_firstWrong 32 = .ok (.iinc 2 1, 3) := by decide +kernel
theorem dX4_firstWrong_35 : decode cX4_firstWrong 35 = .ok (.goto (-33), 3) := by decide +kernel
theorem dX4_firstWrong_38 : decode cX4_firstWrong 38 = .ok (.iconst (-1), 1) := by decide +kernel
theorem dX4_firstWrong_39 : decode cX4_firstWrong 39 = .ok (.ireturn, 1) := by decide +kernel
theorem dX5_init_0 : decode cX5_init 0 = .ok (.aload_n 0, 1) := by decide +kernel
theorem dX5_init_1 : decode cX5_init 1 = .ok (.invokespecial 3, 3) := by decide +kernel
theorem dX5_init_4 : decode cX5_init 4 = .ok (.aload_n 0, 1) := by decide +kernel
theorem dX5_init_5 : decode cX5_init 5 = .ok (.bipush 64, 2) := by decide +kernel
theorem dX5_init_7 : decode cX5_init 7 = .ok (.newarray .boolean, 2) := by decide +kernel
theorem dX5_init_9 : decode cX5_init 9 = .ok (.putfield 9, 3) := by decide +kernel
theorem dX5_init_12 : decode cX5_init 12 = .ok (.return_, 1) := by decide +kernel
theorem dX5_find_0 : decode cX5_find 0 = .ok (.iconst 0, 1) := by decide +kernel
theorem dX5_find_1 : decode cX5_find 1 = .ok (.istore 5, 2) := by decide +kernel
theorem dX5_find_3 : decode cX5_find 3 = .ok (.iload 5, 2) := by decide +kernel
theorem dX5_find_5 : decode cX5_find 5 = .ok (.aload_n 0, 1) := by decide +kernel
theorem dX5_find_6 : decode cX5_find 6 = .ok (.getfield 9, 3) := by decide +kernel
theorem dX5_find_9 : decode cX5_find 9 = .ok (.arraylength, 1) := by decide +kernel
theorem dX5_find_10 : decode cX5_find 10 = .ok (.if_icmp .ge 17, 3) := by decide +kernel
theorem dX5_find_13 : decode cX5_find 13 = .ok (.aload_n 0, 1) := by decide +kernel
theorem dX5_find_14 : decode cX5_find 14 = .ok (.getfield 9, 3) := by decide +kernel
theorem dX5_find_17 : decode cX5_find 17 = .ok (.iload 5, 2) := by decide +kernel
theorem dX5_find_19 : decode cX5_find 19 = .ok (.iconst 0, 1) := by decide +kernel
theorem dX5_find_20 : decode cX5_find 20 = .ok (.bastore, 1) := by decide +kernel
theorem dX5_find_21 : decode cX5_find 21 = .ok (.iinc 5 1, 3) := by decide +kernel
theorem dX5_find_24 : decode cX5_find 24 = .ok (.goto (-21), 3) := by decide +kernel
theorem dX5_find_27 : decode cX5_find 27 = .ok (.aload_n 0, 1) := by decide +kernel
theorem dX5_find_28 : decode cX5_find 28 = .ok (.aload_n 1, 1) := by decide +kernel
theorem dX5_find_29 : decode cX5_find 29 = .ok (.iload_n 2, 1) := by decide +kernel
theorem dX5_find_30 : decode cX5_find 30 = .ok (.iload_n 3, 1) := by decide +kernel
theorem dX5_find_31 : decode cX5_find 31 = .ok (.iload 4, 2) := by decide +kernel
theorem dX5_find_33 : decode cX5_find 33 = .ok (.invokevirtual 15, 3) := by decide +kernel
theorem dX5_find_36 : decode cX5_find 36 = .ok (.return_, 1) := by decide +kernel
theorem dX5_meet_0 : decode cX5_meet 0 = .ok (.aload_n 0, 1) := by decide +kernel
theorem dX5_meet_1 : decode cX5_meet 1 = .ok (.getfield 9, 3) := by decide +kernel
theorem dX5_meet_4 : decode cX5_meet 4 = .ok (.aload_n 0, 1) := by decide +kernel
theorem dX5_meet_5 : decode cX5_meet 5 = .ok (.iload_n 2, 1) := by decide +kernel
theorem dX5_meet_6 : decode cX5_meet 6 = .ok (.invokevirtual 19, 3) := by decide +kernel
theorem dX5_meet_9 : decode cX5_meet 9 = .ok (.iconst 1, 1) := by decide +kernel
theorem dX5_meet_10 : decode cX5_meet 10 = .ok (.bastore, 1) := by decide +kernel
theorem dX5_meet_11 : decode cX5_meet 11 = .ok (.return_, 1) := by decide +kernel
theorem dX6_init_0 : decode cX6_init 0 = .ok (.aload_n 0, 1) := by decide +kernel
theorem dX6_init_1 : decode cX6_init 1 = .ok (.invokespecial 3, 3) := by decide +kernel
theorem dX6_init_4 : decode cX6_init 4 = .ok (.aload_n 0, 1) := by decide +kernel
theorem dX6_init_5 : decode cX6_init 5 = .ok (.sipush 250, 3) := by decide +kernel
theorem dX6_init_8 : decode cX6_init 8 = .ok (.newarray .char, 2) := by decide +kernel
theorem dX6_init_10 : decode cX6_init 10 = .ok (.putfield 9, 3) := by decide +kernel
theorem dX6_init_13 : decode cX6_init 13 = .ok (.aload_n 0, 1) := by decide +kernel
theorem dX6_init_14 : decode cX6_init 14 = .ok (.bipush 7, 2) := by decide +kernel
theorem dX6_init_16 : decode cX6_init 16 = .ok (.newarray .int, 2) := by decide +kernel
theorem dX6_init_18 : decode cX6_init 18 = .ok (.putfield 15, 3) := by decide +kernel
theorem dX6_init_21 : decode cX6_init 21 = .ok (.aload_n 0, 1) := by decide +kernel
theorem dX6_init_22 : decode cX6_init 22 = .ok (.iconst 4, 1) := by decide +kernel
theorem dX6_init_23 : decode cX6_init 23 = .ok (.newarray .int, 2) := by decide +kernel
theorem dX6_init_25 : decode cX6_init 25 = .ok (.putfield 19, 3) := by decide +kernel
theorem dX6_init_28 : decode cX6_init 28 = .ok (.return_, 1) := by decide +kernel
theorem dX6_add_0 : decode cX6_add 0 = .ok (.aload_n 0, 1) := by decide +kernel
theorem dX6_add_1 : decode cX6_add 1 = .ok (.getfield 22, 3) := by decide +kernel
theorem dX6_add_4 : decode cX6_add 4 = .ok (.sipush 250, 3) := by decide +kernel
theorem dX6_add_7 : decode cX6_add 7 = .ok (.if_icmp .lt 5, 3) := by decide +kernel
theorem dX6_add_10 : decode cX6_add 10 = .ok (.iconst 0, 1) := by decide +kernel
theorem dX6_add_11 : decode cX6_add 11 = .ok (.ireturn, 1) := by decide +kernel
theorem dX6_add_12 : decode cX6_add 12 = .ok (.aload_n 0, 1) := by decide +kernel
theorem dX6_add_13 : decode cX6_add 13 = .ok (.getfield 9, 3) := by decide +kernel
theorem dX6_add_16 : decode cX6_add 16 = .ok (.aload_n 0, 1) := by decide +kernel
theorem dX6_add_17 : decode cX6_add 17 = .ok (.getfield 22, 3) := by decide +kernel
theorem dX6_add_20 : decode cX6_add 20 = .ok (.iload_n 1, 1) := by decide +kernel
theorem dX6_add_21 : decode cX6_add 21 = .ok (.castore, 1) := by decide +kernel
theorem dX6_add_22 : decode cX6_add 22 = .ok (.aload_n 0, 1) := by decide +kernel
theorem dX6_add_23 : decode cX6_add 23 = .ok (.dup, 1) := by decide +kernel
theorem dX6_add_24 : decode cX6_add 24 = .ok (.getfield 22, 3) := by decide +kernel
theorem dX6_add_27 : decode cX6_add 27 = .ok (.iconst 1, 1) := by decide +kernel
theorem dX6_add_28 : decode cX6_add 28 = .ok (.iadd, 1) := by decide +kernel
theorem dX6_add_29 : decode cX6_add 29 = .ok (.putfield 22, 3) := by decide +kernel
theorem dX6_add_32 : decode cX6_add 32 = .ok (.iconst 1, 1) := by decide +kernel
theorem dX6_add_33 : decode cX6_add 33 = .ok (.ireturn, 1) := by decide +kernel
theorem dX6_read_0 : decode cX6_read 0 = .ok (.aload_n 0, 1) := by decide +kernel
theorem dX6_read_1 : decode cX6_read 1 = .ok (.iconst 0, 1) := by decide +kernel
theorem dX6_read_2 : decode cX6_read 2 = .ok (.putfield 26, 3) := by decide +kernel
theorem dX6_read_5 : decode cX6_read 5 = .ok (.aload_n 0, 1) := by decide +kernel
theorem dX6_read_6 : decode cX6_read 6 = .ok (.iconst 0, 1) := by decide +kernel
theorem dX6_read_7 : decode cX6_read 7 = .ok (.putfield 29, 3) := by decide +kernel
theorem dX6_read_10 : decode cX6_read 10 = .ok (.aload_n 0, 1) := by decide +kernel
theorem dX6_read_11 : decode cX6_read 11 = .ok (.getfield 15, 3) := by decide +kernel
theorem dX6_read_14 : decode cX6_read 14 = .ok (.iconst 0, 1) := by decide +kernel
theorem dX6_read_15 : decode cX6_read 15 = .ok (.invokestatic 32, 3) := by decide +kernel
theorem dX6_read_18 : decode cX6_read 18 = .ok (.aload_n 1, 1) := by decide +kernel
theorem dX6_read_19 : decode cX6_read 19 = .ok (.invokevirtual 38, 3) := by decide +kernel
theorem dX6_read_22 : decode cX6_read 22 = .ok (.aload_n 0, 1) := by decide +kernel
theorem dX6_read_23 : decode cX6_read 23 = .ok (.invokevirtual 43, 3) := by decide +kernel
theorem dX6_read_26 : decode cX6_read 26 = .ok (.iconst 0, 1) := by decide +kernel
theorem dX6_read_27 : decode cX6_read 27 = .ok (.istore_n 2, 1) := by decide +kernel
theorem dX6_read_28 : decode cX6_read 28 = .ok (.iload_n 2, 1) := by decide +kernel
theorem dX6_read_29 : decode cX6_read 29 = .ok (.sipush 250, 3) := by decide +kernel
theorem dX6_read_32 : decode cX6_read 32 = .ok (.if_icmp .ge 32, 3) := by decide +kernel
theorem dX6_read_35 : decode cX6_read 35 = .ok (.aload_n 0, 1) := by decide +kernel
theorem dX6_read_36 : decode cX6_read 36 = .ok (.getfield 26, 3) := by decide +kernel
theorem dX6_read_39 : decode cX6_read 39 = .ok (.aload_n 0, 1) := by decide +kernel
theorem dX6_read_40 : decode cX6_read 40 = .ok (.getfield 22, 3) := by decide +kernel
theorem dX6_read_43 : decode cX6_read 43 = .ok (.if_icmp .ge 21, 3) := by decide +kernel
theorem dX6_read_46 : decode cX6_read 46 = .ok (.aload_n 0, 1) := by decide +kernel
theorem dX6_read_47 : decode cX6_read 47 = .ok (.getfield 29, 3) := by decide +kernel
theorem dX6_read_50 : decode cX6_read 50 = .ok (.ifCond .ne 14, 3) := by decide +kernel
theorem dX6_read_53 : decode cX6_read 53 = .ok (.aload_n 0, 1) := by decide +kernel
theorem dX6_read_54 : decode cX6_read 54 = .ok (.aload_n 1, 1) := by decide +kernel
theorem dX6_read_55 : decode cX6_read 55 = .ok (.invokevirtual 46, 3) := by decide +kernel
theorem dX6_read_58 : decode cX6_read 58 = .ok (.iinc 2 1, 3) := by decide +kernel
theorem dX6_read_61 : decode cX6_read 61 = .ok (.goto (-33), 3) := by decide +kernel
theorem dX6_read_64 : decode cX6_read 64 = .ok (.aload_n 0, 1) := by decide +kernel
theorem dX6_read_65 : decode cX6_read 65 = .ok (.getfield 29, 3) := by decide +kernel
theorem dX6_read_68 : decode cX6_read 68 = .ok (.ireturn, 1) := by decide +kernel
theorem dX6_skipBlanks_0 : decode cX6_skipBlanks 0 = .ok (.aload_n 0, 1) := by decide +kernel
theorem dX6_skipBlanks_1 : decode cX6_skipBlanks 1 = .ok (.getfield 26, 3) := by decide +kernel
theorem dX6_skipBlanks_4 : decode cX6_skipBlanks 4 = .ok (.aload_n 0, 1) := by decide +kernel
theorem dX6_skipBlanks_5 : decode cX6_skipBlanks 5 = .ok (.getfield 22, 3) := by decide +kernel
theorem dX6_skipBlanks_8 : decode cX6_skipBlanks 8 = .ok (.if_icmp .ge 30, 3) := by decide +kernel
theorem dX6_skipBlanks_11 : decode cX6_skipBlanks 11 = .ok (.aload_n 0, 1) := by decide +kernel
theorem dX6_skipBlanks_12 : decode cX6_skipBlanks 12 = .ok (.getfield 9, 3) := by decide +kernel
theorem dX6_skipBlanks_15 : decode cX6_skipBlanks 15 = .ok (.aload_n 0, 1) := by decide +kernel
theorem dX6_skipBlanks_16 : decode cX6_skipBlanks 16 = .ok (.getfield 26, 3) := by decide +kernel
theorem dX6_skipBlanks_19 : decode cX6_skipBlanks 19 = .ok (.caload, 1) := by decide +kernel
theorem dX6_skipBlanks_20 : decode cX6_skipBlanks 20 = .ok (.bipush 32, 2) := by decide +kernel
theorem dX6_skipBlanks_22 : decode cX6_skipBlanks 22 = .ok (.if_icmp .ne 16, 3) := by decide +kernel
theorem dX6_skipBlanks_25 : decode cX6_skipBlanks 25 = .ok (.aload_n 0, 1) := by decide +kernel
theorem dX6_skipBlanks_26 : decode cX6_skipBlanks 26 = .ok (.dup, 1) := by decide +kernel
theorem dX6_skipBlanks_27 : decode cX6_skipBlanks 27 = .ok (.getfield 26, 3) := by decide +kernel
theorem dX6_skipBlanks_30 : decode cX6_skipBlanks 30 = .ok (.iconst 1, 1) := by decide +kernel
theorem dX6_skipBlanks_31 : decode cX6_skipBlanks 31 = .ok (.iadd, 1) := by decide +kernel
theorem dX6_skipBlanks_32 : decode cX6_skipBlanks 32 = .ok (.putfield 26, 3) := by decide +kernel
theorem dX6_skipBlanks_35 : decode cX6_skipBlanks 35 = .ok (.goto (-35), 3) := by decide +kernel
theorem dX6_skipBlanks_38 : decode cX6_skipBlanks 38 = .ok (.return_, 1) := by decide +kernel
theorem dX6_readClause_0 : decode cX6_readClause 0 = .ok (.ldc 50, 2) := by decide +kernel
theorem dX6_readClause_2 : decode cX6_readClause 2 = .ok (.aload_n 0, 1) := by decide +kernel
theorem dX6_readClause_3 : decode cX6_readClause 3 = .ok (.getfield 9, 3) := by decide +kernel
theorem dX6_readClause_6 : decode cX6_readClause 6 = .ok (.aload_n 0, 1) := by decide +kernel
theorem dX6_readClause_7 : decode cX6_readClause 7 = .ok (.getfield 26, 3) := by decide +kernel
theorem dX6_readClause_10 : decode cX6_readClause 10 = .ok (.caload, 1) := by decide +kernel
theorem dX6_readClause_11 : decode cX6_readClause 11 = .ok (.invokevirtual 52, 3) := by decide +kernel
theorem dX6_readClause_14 : decode cX6_readClause 14 = .ok (.istore_n 2, 1) := by decide +kernel
theorem dX6_readClause_15 : decode cX6_readClause 15 = .ok (.iload_n 2, 1) := by decide +kernel
theorem dX6_readClause_16 : decode cX6_readClause 16 = .ok (.ifCond .lt 16, 3) := by decide +kernel
theorem dX6_readClause_19 : decode cX6_readClause 19 = .ok (.iload_n 2, 1) := by decide +kernel
theorem dX6_readClause_20 : decode cX6_readClause 20 = .ok (.ifCond .eq 18, 3) := by decide +kernel
theorem dX6_readClause_23 : decode cX6_readClause 23 = .ok (.aload_n 0, 1) := by decide +kernel
theorem dX6_readClause_24 : decode cX6_readClause 24 = .ok (.getfield 15, 3) := by decide +kernel
theorem dX6_readClause_27 : decode cX6_readClause 27 = .ok (.iconst 0, 1) := by decide +kernel
theorem dX6_readClause_28 : decode cX6_readClause 28 = .ok (.iaload, 1) := by decide +kernel
theorem dX6_readClause_29 : decode cX6_readClause 29 = .ok (.ifCond .ne 9, 3) := by decide +kernel
theorem dX6_readClause_32 : decode cX6_readClause 32 = .ok (.aload_n 0, 1) := by decide +kernel
theorem dX6_readClause_33 : decode cX6_readClause 33 = .ok (.iconst 1, 1) := by decide +kernel
theorem dX6_readClause_34 : decode cX6_readClause 34 = .ok (.putfield 29, 3) := by decide +kernel
theorem dX6_readClause_37 : decode cX6_readClause 37 = .ok (.return_, 1) := by decide +kernel
theorem dX6_readClause_38 : decode cX6_readClause 38 = .ok (.aload_n 0, 1) := by decide +kernel
theorem dX6_readClause_39 : decode cX6_readClause 39 = .ok (.getfield 15, 3) := by decide +kernel
theorem dX6_readClause_42 : decode cX6_readClause 42 = .ok (.iload_n 2, 1) := by decide +kernel
theorem dX6_readClause_43 : decode cX6_readClause 43 = .ok (.iaload, 1) := by decide +kernel
theorem dX6_readClause_44 : decode cX6_readClause 44 = .ok (.getstatic 58, 3) := by decide +kernel
theorem dX6_readClause_47 : decode cX6_readClause 47 = .ok (.iload_n 2, 1) := by decide +kernel
theorem dX6_readClause_48 : decode cX6_readClause 48 = .ok (.iaload, 1) := by decide +kernel
theorem dX6_readClause_49 : decode cX6_readClause 49 = .ok (.if_icmp .lt 9, 3) := by decide +kernel
theorem dX6_readClause_52 : decode cX6_readClause 52 = .ok (.aload_n 0, 1) := by decide +kernel
theorem dX6_readClause_53 : decode cX6_readClause 53 = .ok (.iconst 3, 1) := by decide +kernel
theorem dX6_readClause_54 : decode cX6_readClause 54 = .ok (.putfield 29, 3) := by decide +kernel
theorem dX6_readClause_57 : decode cX6_readClause 57 = .ok (.return_, 1) := by decide +kernel
theorem dX6_readClause_58 : decode cX6_readClause 58 = .ok (.aload_n 0, 1) := by decide +kernel
theorem dX6_readClause_59 : decode cX6_readClause 59 = .ok (.getfield 15, 3) := by decide +kernel
theorem dX6_readClause_62 : decode cX6_readClause 62 = .ok (.iload_n 2, 1) := by decide +kernel
theorem dX6_readClause_63 : decode cX6_readClause 63 = .ok (.dup2, 1) := by decide +kernel
theorem dX6_readClause_64 : decode cX6_readClause 64 = .ok (.iaload, 1) := by decide +kernel
theorem dX6_readClause_65 : decode cX6_readClause 65 = .ok (.iconst 1, 1) := by decide +kernel
theorem dX6_readClause_66 : decode cX6_readClause 66 = .ok (.iadd, 1) := by decide +kernel
theorem dX6_readClause_67 : decode cX6_readClause 67 = .ok (.iastore, 1) := by decide +kernel
theorem dX6_readClause_68 : decode cX6_readClause 68 = .ok (.aload_n 0, 1) := by decide +kernel
theorem dX6_readClause_69 : decode cX6_readClause 69 = .ok (.dup, 1) := by decide +kernel
theorem dX6_readClause_70 : decode cX6_readClause 70 = .ok (.getfield 26, 3) := by decide +kernel
theorem dX6_readClause_73 : decode cX6_readClause 73 = .ok (.iconst 1, 1) := by decide +kernel
theorem dX6_readClause_74 : decode cX6_readClause 74 = .ok (.iadd, 1) := by decide +kernel
theorem dX6_readClause_75 : decode cX6_readClause 75 = .ok (.putfield 26, 3) := by decide +kernel
theorem dX6_readClause_78 : decode cX6_readClause 78 = .ok (.iconst 0, 1) := by decide +kernel
theorem dX6_readClause_79 : decode cX6_readClause 79 = .ok (.istore_n 3, 1) := by decide +kernel
theorem dX6_readClause_80 : decode cX6_readClause 80 = .ok (.iload_n 3, 1) := by decide +kernel
theorem dX6_readClause_81 : decode cX6_readClause 81 = .ok (.getstatic 61, 3) := by decide +kernel
theorem dX6_readClause_84 : decode cX6_readClause 84 = .ok (.iload_n 2, 1) := by decide +kernel
theorem dX6_readClause_85 : decode cX6_readClause 85 = .ok (.iaload, 1) := by decide +kernel
theorem dX6_readClause_86 : decode cX6_readClause 86 = .ok (.if_icmp .ge 23, 3) := by decide +kernel
theorem dX6_readClause_89 : decode cX6_readClause 89 = .ok (.aload_n 0, 1) := by decide +kernel
theorem dX6_readClause_90 : decode cX6_readClause 90 = .ok (.getfield 29, 3) := by decide +kernel
theorem dX6_readClause_93 : decode cX6_readClause 93 = .ok (.ifCond .ne 16, 3) := by decide +kernel
theorem dX6_readClause_96 : decode cX6_readClause 96 = .ok (.aload_n 0, 1) := by decide +kernel
theorem dX6_readClause_97 : decode cX6_readClause 97 = .ok (.aload_n 1, 1) := by decide +kernel
theorem dX6_readClause_98 : decode cX6_readClause 98 = .ok (.iload_n 2, 1) := by decide +kernel
theorem dX6_readClause_99 : decode cX6_readClause 99 = .ok (.iload_n 3, 1) := by decide +kernel
theorem dX6_readClause_100 : decode cX6_readClause 100 = .ok (.invokevirtual 64, 3) := by decide +kernel
theorem dX6_readClause_103 : decode cX6_readClause 103 = .ok (.iinc 3 1, 3) := by decide +kernel
theorem dX6_readClause_106 : decode cX6_readClause 106 = .ok (.goto (-26), 3) := by decide +kernel
theorem dX6_readClause_109 : decode cX6_readClause 109 = .ok (.aload_n 0, 1) := by decide +kernel
theorem dX6_readClause_110 : decode cX6_readClause 110 = .ok (.getfield 29, 3) := by decide +kernel
theorem dX6_readClause_113 : decode cX6_readClause 113 = .ok (.ifCond .ne 9, 3) := by decide +kernel
theorem dX6_readClause_116 : decode cX6_readClause 116 = .ok (.aload_n 0, 1) := by decide +kernel
theorem dX6_readClause_117 : decode cX6_readClause 117 = .ok (.aload_n 1, 1) := by decide +kernel
theorem dX6_readClause_118 : decode cX6_readClause 118 = .ok (.iload_n 2, 1) := by decide +kernel
theorem dX6_readClause_119 : decode cX6_readClause 119 = .ok (.invokevirtual 68, 3) := by decide +kernel
theorem dX6_readClause_122 : decode cX6_readClause 122 = .ok (.return_, 1) := by decide +kernel
theorem dX6_readEnd_0 : decode cX6_readEnd 0 = .ok (.aload_n 0, 1) := by decide +kernel
theorem dX6_readEnd_1 : decode cX6_readEnd 1 = .ok (.invokevirtual 43, 3) := by decide +kernel
theorem dX6_readEnd_4 : decode cX6_readEnd 4 = .ok (.aload_n 0, 1) := by decide +kernel
theorem dX6_readEnd_5 : decode cX6_readEnd 5 = .ok (.getfield 26, 3) := by decide +kernel
theorem dX6_readEnd_8 : decode cX6_readEnd 8 = .ok (.aload_n 0, 1) := by decide +kernel
theorem dX6_readEnd_9 : decode cX6_readEnd 9 = .ok (.getfield 22, 3) := by decide +kernel
theorem dX6_readEnd_12 : decode cX6_readEnd 12 = .ok (.if_icmp .ge 17, 3) := by decide +kernel
theorem dX6_readEnd_15 : decode cX6_readEnd 15 = .ok (.aload_n 0, 1) := by decide +kernel
theorem dX6_readEnd_16 : decode cX6_readEnd 16 = .ok (.getfield 9, 3) := by decide +kernel
theorem dX6_readEnd_19 : decode cX6_readEnd 19 = .ok (.aload_n 0, 1) := by decide +kernel
theorem dX6_readEnd_20 : decode cX6_readEnd 20 = .ok (.getfield 26, 3) := by decide +kernel
theorem dX6_readEnd_23 : decode cX6_readEnd 23 = .ok (.caload, 1) := by decide +kernel
theorem dX6_readEnd_24 : decode cX6_readEnd 24 = .ok (.bipush 59, 2) := by decide +kernel
theorem dX6_readEnd_26 : decode cX6_readEnd 26 = .ok (.if_icmp .eq 9, 3) := by decide +kernel
theorem dX6_readEnd_29 : decode cX6_readEnd 29 = .ok (.aload_n 0, 1) := by decide +kernel
theorem dX6_readEnd_30 : decode cX6_readEnd 30 = .ok (.iconst 1, 1) := by decide +kernel
theorem dX6_readEnd_31 : decode cX6_readEnd 31 = .ok (.putfield 29, 3) := by decide +kernel
theorem dX6_readEnd_34 : decode cX6_readEnd 34 = .ok (.return_, 1) := by decide +kernel
theorem dX6_readEnd_35 : decode cX6_readEnd 35 = .ok (.aload_n 0, 1) := by decide +kernel
theorem dX6_readEnd_36 : decode cX6_readEnd 36 = .ok (.dup, 1) := by decide +kernel
theorem dX6_readEnd_37 : decode cX6_readEnd 37 = .ok (.getfield 26, 3) := by decide +kernel
theorem dX6_readEnd_40 : decode cX6_readEnd 40 = .ok (.iconst 1, 1) := by decide +kernel
theorem dX6_readEnd_41 : decode cX6_readEnd 41 = .ok (.iadd, 1) := by decide +kernel
theorem dX6_readEnd_42 : decode cX6_readEnd 42 = .ok (.putfield 26, 3) := by decide +kernel
theorem dX6_readEnd_45 : decode cX6_readEnd 45 = .ok (.aload_n 0, 1) := by decide +kernel
theorem dX6_readEnd_46 : decode cX6_readEnd 46 = .ok (.aload_n 1, 1) := by decide +kernel
theorem dX6_readEnd_47 : decode cX6_readEnd 47 = .ok (.iload_n 2, 1) := by decide +kernel
theorem dX6_readEnd_48 : decode cX6_readEnd 48 = .ok (.invokevirtual 72, 3) := by decide +kernel
theorem dX6_readEnd_51 : decode cX6_readEnd 51 = .ok (.aload_n 0, 1) := by decide +kernel
theorem dX6_readEnd_52 : decode cX6_readEnd 52 = .ok (.invokevirtual 43, 3) := by decide +kernel
theorem dX6_readEnd_55 : decode cX6_readEnd 55 = .ok (.return_, 1) := by decide +kernel
theorem dX6_isFigure_0 : decode cX6_isFigure 0 = .ok (.iload_n 0, 1) := by decide +kernel
theorem dX6_isFigure_1 : decode cX6_isFigure 1 = .ok (.bipush 48, 2) := by decide +kernel
theorem dX6_isFigure_3 : decode cX6_isFigure 3 = .ok (.if_icmp .lt 13, 3) := by decide +kernel
theorem dX6_isFigure_6 : decode cX6_isFigure 6 = .ok (.iload_n 0, 1) := by decide +kernel
theorem dX6_isFigure_7 : decode cX6_isFigure 7 = .ok (.bipush 57, 2) := by decide +kernel
theorem dX6_isFigure_9 : decode cX6_isFigure 9 = .ok (.if_icmp .gt 7, 3) := by decide +kernel
theorem dX6_isFigure_12 : decode cX6_isFigure 12 = .ok (.iconst 1, 1) := by decide +kernel
theorem dX6_isFigure_13 : decode cX6_isFigure 13 = .ok (.goto 4, 3) := by decide +kernel
theorem dX6_isFigure_16 : decode cX6_isFigure 16 = .ok (.iconst 0, 1) := by decide +kernel
theorem dX6_isFigure_17 : decode cX6_isFigure 17 = .ok (.ireturn, 1) := by decide +kernel
theorem dX6_readNumber_0 : decode cX6_readNumber 0 = .ok (.aload_n 0, 1) := by decide +kernel
theorem dX6_readNumber_1 : decode cX6_readNumber 1 = .ok (.invokevirtual 43, 3) := by decide +kernel
theorem dX6_readNumber_4 : decode cX6_readNumber 4 = .ok (.aload_n 0, 1) := by decide +kernel
theorem dX6_readNumber_5 : decode cX6_readNumber 5 = .ok (.getfield 26, 3) := by decide +kernel
theorem dX6_readNumber_8 : decode cX6_readNumber 8 = .ok (.istore 4, 2) := by decide +kernel
theorem dX6_readNumber_10 : decode cX6_readNumber 10 = .ok (.iconst 0, 1) := by decide +kernel
theorem dX6_readNumber_11 : decode cX6_readNumber 11 = .ok (.istore 5, 2) := by decide +kernel
theorem dX6_readNumber_13 : decode cX6_readNumber 13 = .ok (.aload_n 0, 1) := by decide +kernel
theorem dX6_readNumber_14 : decode cX6_readNumber 14 = .ok (.getfield 26, 3) := by decide +kernel
theorem dX6_readNumber_17 : decode cX6_readNumber 17 = .ok (.aload_n 0, 1) := by decide +kernel
theorem dX6_readNumber_18 : decode cX6_readNumber 18 = .ok (.getfield 22, 3) := by decide +kernel
theorem dX6_readNumber_21 : decode cX6_readNumber 21 = .ok (.if_icmp .ge 67, 3) := by decide +kernel
theorem dX6_readNumber_24 : decode cX6_readNumber 24 = .ok (.aload_n 0, 1) := by decide +kernel
theorem dX6_readNumber_25 : decode cX6_readNumber 25 = .ok (.getfield 9, 3) := by decide +kernel
theorem dX6_readNumber_28 : decode cX6_readNumber 28 = .ok (.aload_n 0, 1) := by decide +kernel
theorem dX6_readNumber_29 : decode cX6_readNumber 29 = .ok (.getfield 26, 3) := by decide +kernel
theorem dX6_readNumber_32 : decode cX6_readNumber 32 = .ok (.caload, 1) := by decide +kernel
theorem dX6_readNumber_33 : decode cX6_readNumber 33 = .ok (.invokestatic 75, 3) := by decide +kernel
theorem dX6_readNumber_36 : decode cX6_readNumber 36 = .ok (.ifCond .eq 52, 3) := by decide +kernel
theorem dX6_readNumber_39 : decode cX6_readNumber 39 = .ok (.aload_n 0, 1) := by decide +kernel
theorem dX6_readNumber_40 : decode cX6_readNumber 40 = .ok (.getfield 26, 3) := by decide +kernel
theorem dX6_readNumber_43 : decode cX6_readNumber 43 = .ok (.iload 4, 2) := by decide +kernel
theorem dX6_readNumber_45 : decode cX6_readNumber 45 = .ok (.isub, 1) := by decide +kernel
theorem dX6_readNumber_46 : decode cX6_readNumber 46 = .ok (.iconst 3, 1) := by decide +kernel
theorem dX6_readNumber_47 : decode cX6_readNumber 47 = .ok (.if_icmp .ge 24, 3) := by decide +kernel
theorem dX6_readNumber_50 : decode cX6_readNumber 50 = .ok (.iload 5, 2) := by decide +kernel
theorem dX6_readNumber_52 : decode cX6_readNumber 52 = .ok (.bipush 10, 2) := by decide +kernel
theorem dX6_readNumber_54 : decode cX6_readNumber 54 = .ok (.imul, 1) := by decide +kernel
theorem dX6_readNumber_55 : decode cX6_readNumber 55 = .ok (.aload_n 0, 1) := by decide +kernel
theorem dX6_readNumber_56 : decode cX6_readNumber 56 = .ok (.getfield 9, 3) := by decide +kernel
theorem dX6_readNumber_59 : decode cX6_readNumber 59 = .ok (.aload_n 0, 1) := by decide +kernel
theorem dX6_readNumber_60 : decode cX6_readNumber 60 = .ok (.getfield 26, 3) := by decide +kernel
theorem dX6_readNumber_63 : decode cX6_readNumber 63 = .ok (.caload, 1) := by decide +kernel
theorem dX6_readNumber_64 : decode cX6_readNumber 64 = .ok (.bipush 48, 2) := by decide +kernel
theorem dX6_readNumber_66 : decode cX6_readNumber 66 = .ok (.isub, 1) := by decide +kernel
theorem dX6_readNumber_67 : decode cX6_readNumber 67 = .ok (.iadd, 1) := by decide +kernel
theorem dX6_readNumber_68 : decode cX6_readNumber 68 = .ok (.goto 5, 3) := by decide +kernel
theorem dX6_readNumber_71 : decode cX6_readNumber 71 = .ok (.iload 5, 2) := by decide +kernel
theorem dX6_readNumber_73 : decode cX6_readNumber 73 = .ok (.istore 5, 2) := by decide +kernel
theorem dX6_readNumber_75 : decode cX6_readNumber 75 = .ok (.aload_n 0, 1) := by decide +kernel
theorem dX6_readNumber_76 : decode cX6_readNumber 76 = .ok (.dup, 1) := by decide +kernel
theorem dX6_readNumber_77 : decode cX6_readNumber 77 = .ok (.getfield 26, 3) := by decide +kernel
theorem dX6_readNumber_80 : decode cX6_readNumber 80 = .ok (.iconst 1, 1) := by decide +kernel
theorem dX6_readNumber_81 : decode cX6_readNumber 81 = .ok (.iadd, 1) := by decide +kernel
theorem dX6_readNumber_82 : decode cX6_readNumber 82 = .ok (.putfield 26, 3) := by decide +kernel
theorem dX6_readNumber_85 : decode cX6_readNumber 85 = .ok (.goto (-72), 3) := by decide +kernel
theorem dX6_readNumber_88 : decode cX6_readNumber 88 = .ok (.aload_n 0, 1) := by decide +kernel
theorem dX6_readNumber_89 : decode cX6_readNumber 89 = .ok (.getfield 26, 3) := by decide +kernel
theorem dX6_readNumber_92 : decode cX6_readNumber 92 = .ok (.iload 4, 2) := by decide +kernel
theorem dX6_readNumber_94 : decode cX6_readNumber 94 = .ok (.isub, 1) := by decide +kernel
theorem dX6_readNumber_95 : decode cX6_readNumber 95 = .ok (.istore 6, 2) := by decide +kernel
theorem dX6_readNumber_97 : decode cX6_readNumber 97 = .ok (.iload 6, 2) := by decide +kernel
theorem dX6_readNumber_99 : decode cX6_readNumber 99 = .ok (.ifCond .ne 11, 3) := by decide +kernel
theorem dX6_readNumber_102 : decode cX6_readNumber 102 = .ok (.aload_n 0, 1) := by decide +kernel
theorem dX6_readNumber_103 : decode cX6_readNumber 103 = .ok (.iconst 1, 1) := by decide +kernel
theorem dX6_readNumber_104 : decode cX6_readNumber 104 = .ok (.putfield 29, 3) := by decide +kernel
theorem dX6_readNumber_107 : decode cX6_readNumber 107 = .ok (.goto 56, 3) := by decide +kernel
theorem dX6_readNumber_110 : decode cX6_readNumber 110 = .ok (.iload 6, 2) := by decide +kernel
theorem dX6_readNumber_112 : decode cX6_readNumber 112 = .ok (.iconst 3, 1) := by decide +kernel
theorem dX6_readNumber_113 : decode cX6_readNumber 113 = .ok (.if_icmp .gt 25, 3) := by decide +kernel
theorem dX6_readNumber_116 : decode cX6_readNumber 116 = .ok (.iload 5, 2) := by decide +kernel
theorem dX6_readNumber_118 : decode cX6_readNumber 118 = .ok (.iload_n 2, 1) := by decide +kernel
theorem dX6_readNumber_119 : decode cX6_readNumber 119 = .ok (.iload_n 3, 1) := by decide +kernel
theorem dX6_readNumber_120 : decode cX6_readNumber 120 = .ok (.invokestatic 79, 3) := by decide +kernel
theorem dX6_readNumber_123 : decode cX6_readNumber 123 = .ok (.if_icmp .lt 15, 3) := by decide +kernel
theorem dX6_readNumber_126 : decode cX6_readNumber 126 = .ok (.iload 5, 2) := by decide +kernel
theorem dX6_readNumber_128 : decode cX6_readNumber 128 = .ok (.aload_n 0, 1) := by decide +kernel
theorem dX6_readNumber_129 : decode cX6_readNumber 129 = .ok (.aload_n 1, 1) := by decide +kernel
theorem dX6_readNumber_130 : decode cX6_readNumber 130 = .ok (.iload_n 2, 1) := by decide +kernel
theorem dX6_readNumber_131 : decode cX6_readNumber 131 = .ok (.iload_n 3, 1) := by decide +kernel
theorem dX6_readNumber_132 : decode cX6_readNumber 132 = .ok (.invokevirtual 83, 3) := by decide +kernel
theorem dX6_readNumber_135 : decode cX6_readNumber 135 = .ok (.if_icmp .le 11, 3) := by decide +kernel
theorem dX6_readNumber_138 : decode cX6_readNumber 138 = .ok (.aload_n 0, 1) := by decide +kernel
theorem dX6_readNumber_139 : decode cX6_readNumber 139 = .ok (.iconst 2, 1) := by decide +kernel
theorem dX6_readNumber_140 : decode cX6_readNumber 140 = .ok (.putfield 29, 3) := by decide +kernel
theorem dX6_readNumber_143 : decode cX6_readNumber 143 = .ok (.goto 20, 3) := by decide +kernel
theorem dX6_readNumber_146 : decode cX6_readNumber 146 = .ok (.aload_n 0, 1) := by decide +kernel
theorem dX6_readNumber_147 : decode cX6_readNumber 147 = .ok (.aload_n 1, 1) := by decide +kernel
theorem dX6_readNumber_148 : decode cX6_readNumber 148 = .ok (.iload_n 2, 1) := by decide +kernel
theorem dX6_readNumber_149 : decode cX6_readNumber 149 = .ok (.iload_n 3, 1) := by decide +kernel
theorem dX6_readNumber_150 : decode cX6_readNumber 150 = .ok (.iload 5, 2) := by decide +kernel
theorem dX6_readNumber_152 : decode cX6_readNumber 152 = .ok (.invokevirtual 87, 3) := by decide +kernel
theorem dX6_readNumber_155 : decode cX6_readNumber 155 = .ok (.ifCond .eq 8, 3) := by decide +kernel
theorem dX6_readNumber_158 : decode cX6_readNumber 158 = .ok (.aload_n 0, 1) := by decide +kernel
theorem dX6_readNumber_159 : decode cX6_readNumber 159 = .ok (.iconst 4, 1) := by decide +kernel
theorem dX6_readNumber_160 : decode cX6_readNumber 160 = .ok (.putfield 29, 3) := by decide +kernel
theorem dX6_readNumber_163 : decode cX6_readNumber 163 = .ok (.aload_n 0, 1) := by decide +kernel
theorem dX6_readNumber_164 : decode cX6_readNumber 164 = .ok (.getfield 19, 3) := by decide +kernel
theorem dX6_readNumber_167 : decode cX6_readNumber 167 = .ok (.iload_n 3, 1) := by decide +kernel
theorem dX6_readNumber_168 : decode cX6_readNumber 168 = .ok (.iload 5, 2) := by decide +kernel
theorem dX6_readNumber_170 : decode cX6_readNumber 170 = .ok (.iastore, 1) := by decide +kernel
theorem dX6_readNumber_171 : decode cX6_readNumber 171 = .ok (.aload_n 0, 1) := by decide +kernel
theorem dX6_readNumber_172 : decode cX6_readNumber 172 = .ok (.aload_n 0, 1) := by decide +kernel
theorem dX6_readNumber_173 : decode cX6_readNumber 173 = .ok (.getfield 29, 3) := by decide +kernel
theorem dX6_readNumber_176 : decode cX6_readNumber 176 = .ok (.ifCond .ne 10, 3) := by decide +kernel
theorem dX6_readNumber_179 : decode cX6_readNumber 179 = .ok (.aload_n 0, 1) := by decide +kernel
theorem dX6_readNumber_180 : decode cX6_readNumber 180 = .ok (.getfield 26, 3) := by decide +kernel
theorem dX6_readNumber_183 : decode cX6_readNumber 183 = .ok (.goto 5, 3) := by decide +kernel
theorem dX6_readNumber_186 : decode cX6_readNumber 186 = .ok (.iload 4, 2) := by decide +kernel
theorem dX6_readNumber_188 : decode cX6_readNumber 188 = .ok (.putfield 26, 3) := by decide +kernel
theorem dX6_readNumber_191 : decode cX6_readNumber 191 = .ok (.return_, 1) := by decide +kernel
theorem dX6_lowest_0 : decode cX6_lowest 0 = .ok (.iload_n 0, 1) := by decide +kernel
theorem dX6_lowest_1 : decode cX6_lowest 1 = .ok (.tableswitch 82 0 6 #[43, 53, 82, 64, 82, 82, 80], 43) := by decide +kernel
theorem dX6_lowest_44 : decode cX6_lowest 44 = .ok (.iload_n 1, 1) := by decide +kernel
theorem dX6_lowest_45 : decode cX6_lowest 45 = .ok (.ifCond .ne 7, 3) := by decide +kernel
theorem dX6_lowest_48 : decode cX6_lowest 48 = .ok (.iconst 1, 1) := by decide +kernel
theorem dX6_lowest_49 : decode cX6_lowest 49 = .ok (.goto 4, 3) := by decide +kernel
theorem dX6_lowest_52 : decode cX6_lowest 52 = .ok (.iconst 0, 1) := by decide +kernel
theorem dX6_lowest_53 : decode cX6_lowest 53 = .ok (.ireturn, 1) := by decide +kernel
theorem dX6_lowest_54 : decode cX6_lowest 54 = .ok (.iload_n 1, 1) := by decide +kernel
theorem dX6_lowest_55 : decode cX6_lowest 55 = .ok (.iconst 2, 1) := by decide +kernel
theorem dX6_lowest_56 : decode cX6_lowest 56 = .ok (.if_icmp .ne 7, 3) := by decide +kernel
theorem dX6_lowest_59 : decode cX6_lowest 59 = .ok (.iconst 1, 1) := by decide +kernel
theorem dX6_lowest_60 : decode cX6_lowest 60 = .ok (.goto 4, 3) := by decide +kernel
theorem dX6_lowest_63 : decode cX6_lowest 63 = .ok (.iconst 0, 1) := by decide +kernel
theorem dX6_lowest_64 : decode cX6_lowest 64 = .ok (.ireturn, 1) := by decide +kernel
theorem dX6_lowest_65 : decode cX6_lowest 65 = .ok (.iload_n 1, 1) := by decide +kernel
theorem dX6_lowest_66 : decode cX6_lowest 66 = .ok (.iconst 1, 1) := by decide +kernel
theorem dX6_lowest_67 : decode cX6_lowest 67 = .ok (.if_icmp .eq 8, 3) := by decide +kernel
theorem dX6_lowest_70 : decode cX6_lowest 70 = .ok (.iload_n 1, 1) := by decide +kernel
theorem dX6_lowest_71 : decode cX6_lowest 71 = .ok (.iconst 2, 1) := by decide +kernel
theorem dX6_lowest_72 : decode cX6_lowest 72 = .ok (.if_icmp .ne 7, 3) := by decide +kernel
theorem dX6_lowest_75 : decode cX6_lowest 75 = .ok (.iconst 1, 1) := by decide +kernel
theorem dX6_lowest_76 : decode cX6_lowest 76 = .ok (.goto 4, 3) := by decide +kernel
theorem dX6_lowest_79 : decode cX6_lowest 79 = .ok (.iconst 0, 1) := by decide +kernel
theorem dX6_lowest_80 : decode cX6_lowest 80 = .ok (.ireturn, 1) := by decide +kernel
theorem dX6_lowest_81 : decode cX6_lowest 81 = .ok (.iconst 1, 1) := by decide +kernel
theorem dX6_lowest_82 : decode cX6_lowest 82 = .ok (.ireturn, 1) := by decide +kernel
theorem dX6_lowest_83 : decode cX6_lowest 83 = .ok (.iconst 0, 1) := by decide +kernel
theorem dX6_lowest_84 : decode cX6_lowest 84 = .ok (.ireturn, 1) := by decide +kernel
theorem dX6_highest_0 : decode cX6_highest 0 = .ok (.iload_n 2, 1) := by decide +kernel
theorem dX6_highest_1 : decode cX6_highest 1 = .ok (.tableswitch 142 0 5 #[39, 57, 74, 90, 109, 125], 39) := by decide +kernel
theorem dX6_highest_40 : decode cX6_highest 40 = .ok (.iload_n 3, 1) := by decide +kernel
theorem dX6_highest_41 : decode cX6_highest 41 = .ok (.ifCond .ne 8, 3) := by decide +kernel
theorem dX6_highest_44 : decode cX6_highest 44 = .ok (.bipush 7, 2) := by decide +kernel
theorem dX6_highest_46 : decode cX6_highest 46 = .ok (.goto 11, 3) := by decide +kernel
theorem dX6_highest_49 : decode cX6_highest 49 = .ok (.aload_n 0, 1) := by decide +kernel
theorem dX6_highest_50 : decode cX6_highest 50 = .ok (.getfield 19, 3) := by decide +kernel
theorem dX6_highest_53 : decode cX6_highest 53 = .ok (.iconst 0, 1) := by decide +kernel
theorem dX6_highest_54 : decode cX6_highest 54 = .ok (.iaload, 1) := by decide +kernel
theorem dX6_highest_55 : decode cX6_highest 55 = .ok (.iconst 1, 1) := by decide +kernel
theorem dX6_highest_56 : decode cX6_highest 56 = .ok (.isub, 1) := by decide +kernel
theorem dX6_highest_57 : decode cX6_highest 57 = .ok (.ireturn, 1) := by decide +kernel
theorem dX6_highest_58 : decode cX6_highest 58 = .ok (.iload_n 3, 1) := by decide +kernel
theorem dX6_highest_59 : decode cX6_highest 59 = .ok (.iconst 2, 1) := by decide +kernel
theorem dX6_highest_60 : decode cX6_highest 60 = .ok (.if_icmp .ge 12, 3) := by decide +kernel
theorem dX6_highest_63 : decode cX6_highest 63 = .ok (.aload_n 1, 1) := by decide +kernel
theorem dX6_highest_64 : decode cX6_highest 64 = .ok (.getfield 91, 3) := by decide +kernel
theorem dX6_highest_67 : decode cX6_highest 67 = .ok (.iconst 1, 1) := by decide +kernel
theorem dX6_highest_68 : decode cX6_highest 68 = .ok (.isub, 1) := by decide +kernel
theorem dX6_highest_69 : decode cX6_highest 69 = .ok (.goto 5, 3) := by decide +kernel
theorem dX6_highest_72 : decode cX6_highest 72 = .ok (.bipush 30, 2) := by decide +kernel
theorem dX6_highest_74 : decode cX6_highest 74 = .ok (.ireturn, 1) := by decide +kernel
theorem dX6_highest_75 : decode cX6_highest 75 = .ok (.iload_n 3, 1) := by decide +kernel
theorem dX6_highest_76 : decode cX6_highest 76 = .ok (.ifCond .ne 12, 3) := by decide +kernel
theorem dX6_highest_79 : decode cX6_highest 79 = .ok (.aload_n 1, 1) := by decide +kernel
theorem dX6_highest_80 : decode cX6_highest 80 = .ok (.getfield 91, 3) := by decide +kernel
theorem dX6_highest_83 : decode cX6_highest 83 = .ok (.iconst 1, 1) := by decide +kernel
theorem dX6_highest_84 : decode cX6_highest 84 = .ok (.isub, 1) := by decide +kernel
theorem dX6_highest_85 : decode cX6_highest 85 = .ok (.goto 5, 3) := by decide +kernel
theorem dX6_highest_88 : decode cX6_highest 88 = .ok (.bipush 99, 2) := by decide +kernel
theorem dX6_highest_90 : decode cX6_highest 90 = .ok (.ireturn, 1) := by decide +kernel
theorem dX6_highest_91 : decode cX6_highest 91 = .ok (.iload_n 3, 1) := by decide +kernel
theorem dX6_highest_92 : decode cX6_highest 92 = .ok (.ifCond .ne 12, 3) := by decide +kernel
theorem dX6_highest_95 : decode cX6_highest 95 = .ok (.aload_n 1, 1) := by decide +kernel
theorem dX6_highest_96 : decode cX6_highest 96 = .ok (.getfield 94, 3) := by decide +kernel
theorem dX6_highest_99 : decode cX6_highest 99 = .ok (.iconst 1, 1) := by decide +kernel
theorem dX6_highest_100 : decode cX6_highest 100 = .ok (.isub, 1) := by decide +kernel
theorem dX6_highest_101 : decode cX6_highest 101 = .ok (.goto 8, 3) := by decide +kernel
theorem dX6_highest_104 : decode cX6_highest 104 = .ok (.getstatic 97, 3) := by decide +kernel
theorem dX6_highest_107 : decode cX6_highest 107 = .ok (.iload_n 3, 1) := by decide +kernel
theorem dX6_highest_108 : decode cX6_highest 108 = .ok (.iaload, 1) := by decide +kernel
theorem dX6_highest_109 : decode cX6_highest 109 = .ok (.ireturn, 1) := by decide +kernel
theorem dX6_highest_110 : decode cX6_highest 110 = .ok (.iload_n 3, 1) := by decide +kernel
theorem dX6_highest_111 : decode cX6_highest 111 = .ok (.ifCond .ne 12, 3) := by decide +kernel
theorem dX6_highest_114 : decode cX6_highest 114 = .ok (.aload_n 1, 1) := by decide +kernel
theorem dX6_highest_115 : decode cX6_highest 115 = .ok (.getfield 100, 3) := by decide +kernel
theorem dX6_highest_118 : decode cX6_highest 118 = .ok (.iconst 1, 1) := by decide +kernel
theorem dX6_highest_119 : decode cX6_highest 119 = .ok (.isub, 1) := by decide +kernel
theorem dX6_highest_120 : decode cX6_highest 120 = .ok (.goto 5, 3) := by decide +kernel
theorem dX6_highest_123 : decode cX6_highest 123 = .ok (.bipush 99, 2) := by decide +kernel
theorem dX6_highest_125 : decode cX6_highest 125 = .ok (.ireturn, 1) := by decide +kernel
theorem dX6_highest_126 : decode cX6_highest 126 = .ok (.iload_n 3, 1) := by decide +kernel
theorem dX6_highest_127 : decode cX6_highest 127 = .ok (.iconst 2, 1) := by decide +kernel
theorem dX6_highest_128 : decode cX6_highest 128 = .ok (.if_icmp .ge 12, 3) := by decide +kernel
theorem dX6_highest_131 : decode cX6_highest 131 = .ok (.aload_n 1, 1) := by decide +kernel
theorem dX6_highest_132 : decode cX6_highest 132 = .ok (.getfield 94, 3) := by decide +kernel
theorem dX6_highest_135 : decode cX6_highest 135 = .ok (.iconst 1, 1) := by decide +kernel
theorem dX6_highest_136 : decode cX6_highest 136 = .ok (.isub, 1) := by decide +kernel
theorem dX6_highest_137 : decode cX6_highest 137 = .ok (.goto 5, 3) := by decide +kernel
theorem dX6_highest_140 : decode cX6_highest 140 = .ok (.bipush 10, 2) := by decide +kernel
theorem dX6_highest_142 : decode cX6_highest 142 = .ok (.ireturn, 1) := by decide +kernel
theorem dX6_highest_143 : decode cX6_highest 143 = .ok (.iconst 1, 1) := by decide +kernel
theorem dX6_highest_144 : decode cX6_highest 144 = .ok (.aload_n 1, 1) := by decide +kernel
theorem dX6_highest_145 : decode cX6_highest 145 = .ok (.getfield 100, 3) := by decide +kernel
theorem dX6_highest_148 : decode cX6_highest 148 = .ok (.ishl, 1) := by decide +kernel
theorem dX6_highest_149 : decode cX6_highest 149 = .ok (.iconst 1, 1) := by decide +kernel
theorem dX6_highest_150 : decode cX6_highest 150 = .ok (.isub, 1) := by decide +kernel
theorem dX6_highest_151 : decode cX6_highest 151 = .ok (.ireturn, 1) := by decide +kernel
theorem dX6_again_0 : decode cX6_again 0 = .ok (.iload_n 2, 1) := by decide +kernel
theorem dX6_again_1 : decode cX6_again 1 = .ok (.iconst 4, 1) := by decide +kernel
theorem dX6_again_2 : decode cX6_again 2 = .ok (.if_icmp .ne 24, 3) := by decide +kernel
theorem dX6_again_5 : decode cX6_again 5 = .ok (.iload_n 3, 1) := by decide +kernel
theorem dX6_again_6 : decode cX6_again 6 = .ok (.ifCond .ne 20, 3) := by decide +kernel
theorem dX6_again_9 : decode cX6_again 9 = .ok (.aload_n 1, 1) := by decide +kernel
theorem dX6_again_10 : decode cX6_again 10 = .ok (.getfield 103, 3) := by decide +kernel
theorem dX6_again_13 : decode cX6_again 13 = .ok (.iload 4, 2) := by decide +kernel
theorem dX6_again_15 : decode cX6_again 15 = .ok (.iaload, 1) := by decide +kernel
theorem dX6_again_16 : decode cX6_again 16 = .ok (.iconst (-1), 1) := by decide +kernel
theorem dX6_again_17 : decode cX6_again 17 = .ok (.if_icmp .eq 7, 3) := by decide +kernel
theorem dX6_again_20 : decode cX6_again 20 = .ok (.iconst 1, 1) := by decide +kernel
theorem dX6_again_21 : decode cX6_again 21 = .ok (.goto 4, 3) := by decide +kernel
theorem dX6_again_24 : decode cX6_again 24 = .ok (.iconst 0, 1) := by decide +kernel
theorem dX6_again_25 : decode cX6_again 25 = .ok (.ireturn, 1) := by decide +kernel
theorem dX6_again_26 : decode cX6_again 26 = .ok (.iload_n 3, 1) := by decide +kernel
theorem dX6_again_27 : decode cX6_again 27 = .ok (.iconst 1, 1) := by decide +kernel
theorem dX6_again_28 : decode cX6_again 28 = .ok (.if_icmp .eq 5, 3) := by decide +kernel
theorem dX6_again_31 : decode cX6_again 31 = .ok (.iconst 0, 1) := by decide +kernel
theorem dX6_again_32 : decode cX6_again 32 = .ok (.ireturn, 1) := by decide +kernel
theorem dX6_again_33 : decode cX6_again 33 = .ok (.iload_n 2, 1) := by decide +kernel
theorem dX6_again_34 : decode cX6_again 34 = .ok (.iconst 1, 1) := by decide +kernel
theorem dX6_again_35 : decode cX6_again 35 = .ok (.if_icmp .ne 38, 3) := by decide +kernel
theorem dX6_again_38 : decode cX6_again 38 = .ok (.iload 4, 2) := by decide +kernel
theorem dX6_again_40 : decode cX6_again 40 = .ok (.aload_n 0, 1) := by decide +kernel
theorem dX6_again_41 : decode cX6_again 41 = .ok (.getfield 19, 3) := by decide +kernel
theorem dX6_again_44 : decode cX6_again 44 = .ok (.iconst 0, 1) := by decide +kernel
theorem dX6_again_45 : decode cX6_again 45 = .ok (.iaload, 1) := by decide +kernel
theorem dX6_again_46 : decode cX6_again 46 = .ok (.if_icmp .eq 21, 3) := by decide +kernel
theorem dX6_again_49 : decode cX6_again 49 = .ok (.aload_n 1, 1) := by decide +kernel
theorem dX6_again_50 : decode cX6_again 50 = .ok (.getfield 106, 3) := by decide +kernel
theorem dX6_again_53 : decode cX6_again 53 = .ok (.aload_n 0, 1) := by decide +kernel
theorem dX6_again_54 : decode cX6_again 54 = .ok (.getfield 19, 3) := by decide +kernel
theorem dX6_again_57 : decode cX6_again 57 = .ok (.iconst 0, 1) := by decide +kernel
theorem dX6_again_58 : decode cX6_again 58 = .ok (.iaload, 1) := by decide +kernel
theorem dX6_again_59 : decode cX6_again 59 = .ok (.aaload, 1) := by decide +kernel
theorem dX6_again_60 : decode cX6_again 60 = .ok (.iload 4, 2) := by decide +kernel
theorem dX6_again_62 : decode cX6_again 62 = .ok (.iaload, 1) := by decide +kernel
theorem dX6_again_63 : decode cX6_again 63 = .ok (.iconst (-1), 1) := by decide +kernel
theorem dX6_again_64 : decode cX6_again 64 = .ok (.if_icmp .eq 7, 3) := by decide +kernel
theorem dX6_again_67 : decode cX6_again 67 = .ok (.iconst 1, 1) := by decide +kernel
theorem dX6_again_68 : decode cX6_again 68 = .ok (.goto 4, 3) := by decide +kernel
theorem dX6_again_71 : decode cX6_again 71 = .ok (.iconst 0, 1) := by decide +kernel
theorem dX6_again_72 : decode cX6_again 72 = .ok (.ireturn, 1) := by decide +kernel
theorem dX6_again_73 : decode cX6_again 73 = .ok (.iload_n 2, 1) := by decide +kernel
theorem dX6_again_74 : decode cX6_again 74 = .ok (.iconst 5, 1) := by decide +kernel
theorem dX6_again_75 : decode cX6_again 75 = .ok (.if_icmp .ne 36, 3) := by decide +kernel
theorem dX6_again_78 : decode cX6_again 78 = .ok (.iload 4, 2) := by decide +kernel
theorem dX6_again_80 : decode cX6_again 80 = .ok (.aload_n 0, 1) := by decide +kernel
theorem dX6_again_81 : decode cX6_again 81 = .ok (.getfield 19, 3) := by decide +kernel
theorem dX6_again_84 : decode cX6_again 84 = .ok (.iconst 0, 1) := by decide +kernel
theorem dX6_again_85 : decode cX6_again 85 = .ok (.iaload, 1) := by decide +kernel
theorem dX6_again_86 : decode cX6_again 86 = .ok (.if_icmp .eq 21, 3) := by decide +kernel
theorem dX6_again_89 : decode cX6_again 89 = .ok (.aload_n 1, 1) := by decide +kernel
theorem dX6_again_90 : decode cX6_again 90 = .ok (.getfield 110, 3) := by decide +kernel
theorem dX6_again_93 : decode cX6_again 93 = .ok (.aload_n 0, 1) := by decide +kernel
theorem dX6_again_94 : decode cX6_again 94 = .ok (.getfield 19, 3) := by decide +kernel
theorem dX6_again_97 : decode cX6_again 97 = .ok (.iconst 0, 1) := by decide +kernel
theorem dX6_again_98 : decode cX6_again 98 = .ok (.iaload, 1) := by decide +kernel
theorem dX6_again_99 : decode cX6_again 99 = .ok (.aaload, 1) := by decide +kernel
theorem dX6_again_100 : decode cX6_again 100 = .ok (.iload 4, 2) := by decide +kernel
theorem dX6_again_102 : decode cX6_again 102 = .ok (.iaload, 1) := by decide +kernel
theorem dX6_again_103 : decode cX6_again 103 = .ok (.iconst (-1), 1) := by decide +kernel
theorem dX6_again_104 : decode cX6_again 104 = .ok (.if_icmp .eq 7, 3) := by decide +kernel
theorem dX6_again_107 : decode cX6_again 107 = .ok (.iconst 1, 1) := by decide +kernel
theorem dX6_again_108 : decode cX6_again 108 = .ok (.goto 4, 3) := by decide +kernel
theorem dX6_again_111 : decode cX6_again 111 = .ok (.iconst 0, 1) := by decide +kernel
theorem dX6_again_112 : decode cX6_again 112 = .ok (.ireturn, 1) := by decide +kernel
theorem dX6_take_0 : decode cX6_take 0 = .ok (.iload_n 2, 1) := by decide +kernel
theorem dX6_take_1 : decode cX6_take 1 = .ok (.tableswitch 211 0 5 #[39, 62, 113, 156, 164, 184], 39) := by decide +kernel
theorem dX6_take_40 : decode cX6_take 40 = .ok (.aload_n 1, 1) := by decide +kernel
theorem dX6_take_41 : decode cX6_take 41 = .ok (.aload_n 0, 1) := by decide +kernel
theorem dX6_take_42 : decode cX6_take 42 = .ok (.getfield 19, 3) := by decide +kernel
theorem dX6_take_45 : decode cX6_take 45 = .ok (.iconst 0, 1) := by decide +kernel
theorem dX6_take_46 : decode cX6_take 46 = .ok (.iaload, 1) := by decide +kernel
theorem dX6_take_47 : decode cX6_take 47 = .ok (.putfield 91, 3) := by decide +kernel
theorem dX6_take_50 : decode cX6_take 50 = .ok (.aload_n 1, 1) := by decide +kernel
theorem dX6_take_51 : decode cX6_take 51 = .ok (.aload_n 0, 1) := by decide +kernel
theorem dX6_take_52 : decode cX6_take 52 = .ok (.getfield 19, 3) := by decide +kernel
theorem dX6_take_55 : decode cX6_take 55 = .ok (.iconst 1, 1) := by decide +kernel
theorem dX6_take_56 : decode cX6_take 56 = .ok (.iaload, 1) := by decide +kernel
theorem dX6_take_57 : decode cX6_take 57 = .ok (.putfield 113, 3) := by decide +kernel
theorem dX6_take_60 : decode cX6_take 60 = .ok (.goto 177, 3) := by decide +kernel
theorem dX6_take_63 : decode cX6_take 63 = .ok (.aload_n 1, 1) := by decide +kernel
theorem dX6_take_64 : decode cX6_take 64 = .ok (.getfield 106, 3) := by decide +kernel
theorem dX6_take_67 : decode cX6_take 67 = .ok (.aload_n 0, 1) := by decide +kernel
theorem dX6_take_68 : decode cX6_take 68 = .ok (.getfield 19, 3) := by decide +kernel
theorem dX6_take_71 : decode cX6_take 71 = .ok (.iconst 0, 1) := by decide +kernel
theorem dX6_take_72 : decode cX6_take 72 = .ok (.iaload, 1) := by decide +kernel
theorem dX6_take_73 : decode cX6_take 73 = .ok (.aaload, 1) := by decide +kernel
theorem dX6_take_74 : decode cX6_take 74 = .ok (.aload_n 0, 1) := by decide +kernel
theorem dX6_take_75 : decode cX6_take 75 = .ok (.getfield 19, 3) := by decide +kernel
theorem dX6_take_78 : decode cX6_take 78 = .ok (.iconst 1, 1) := by decide +kernel
theorem dX6_take_79 : decode cX6_take 79 = .ok (.iaload, 1) := by decide +kernel
theorem dX6_take_80 : decode cX6_take 80 = .ok (.aload_n 0, 1) := by decide +kernel
theorem dX6_take_81 : decode cX6_take 81 = .ok (.getfield 19, 3) := by decide +kernel
theorem dX6_take_84 : decode cX6_take 84 = .ok (.iconst 2, 1) := by decide +kernel
theorem dX6_take_85 : decode cX6_take 85 = .ok (.iaload, 1) := by decide +kernel
theorem dX6_take_86 : decode cX6_take 86 = .ok (.iastore, 1) := by decide +kernel
theorem dX6_take_87 : decode cX6_take 87 = .ok (.aload_n 1, 1) := by decide +kernel
theorem dX6_take_88 : decode cX6_take 88 = .ok (.getfield 106, 3) := by decide +kernel
theorem dX6_take_91 : decode cX6_take 91 = .ok (.aload_n 0, 1) := by decide +kernel
theorem dX6_take_92 : decode cX6_take 92 = .ok (.getfield 19, 3) := by decide +kernel
theorem dX6_take_95 : decode cX6_take 95 = .ok (.iconst 1, 1) := by decide +kernel
theorem dX6_take_96 : decode cX6_take 96 = .ok (.iaload, 1) := by decide +kernel
theorem dX6_take_97 : decode cX6_take 97 = .ok (.aaload, 1) := by decide +kernel
theorem dX6_take_98 : decode cX6_take 98 = .ok (.aload_n 0, 1) := by decide +kernel
theorem dX6_take_99 : decode cX6_take 99 = .ok (.getfield 19, 3) := by decide +kernel
theorem dX6_take_102 : decode cX6_take 102 = .ok (.iconst 0, 1) := by decide +kernel
theorem dX6_take_103 : decode cX6_take 103 = .ok (.iaload, 1) := by decide +kernel
theorem dX6_take_104 : decode cX6_take 104 = .ok (.aload_n 0, 1) := by decide +kernel
theorem dX6_take_105 : decode cX6_take 105 = .ok (.getfield 19, 3) := by decide +kernel
theorem dX6_take_108 : decode cX6_take 108 = .ok (.iconst 2, 1) := by decide +kernel
theorem dX6_take_109 : decode cX6_take 109 = .ok (.iaload, 1) := by decide +kernel
theorem dX6_take_110 : decode cX6_take 110 = .ok (.iastore, 1) := by decide +kernel
theorem dX6_take_111 : decode cX6_take 111 = .ok (.goto 126, 3) := by decide +kernel
theorem dX6_take_114 : decode cX6_take 114 = .ok (.aload_n 1, 1) := by decide +kernel
theorem dX6_take_115 : decode cX6_take 115 = .ok (.getfield 116, 3) := by decide +kernel
theorem dX6_take_118 : decode cX6_take 118 = .ok (.aload_n 1, 1) := by decide +kernel
theorem dX6_take_119 : decode cX6_take 119 = .ok (.getfield 94, 3) := by decide +kernel
theorem dX6_take_122 : decode cX6_take 122 = .ok (.aload_n 0, 1) := by decide +kernel
theorem dX6_take_123 : decode cX6_take 123 = .ok (.getfield 19, 3) := by decide +kernel
theorem dX6_take_126 : decode cX6_take 126 = .ok (.iconst 0, 1) := by decide +kernel
theorem dX6_take_127 : decode cX6_take 127 = .ok (.iaload, 1) := by decide +kernel
theorem dX6_take_128 : decode cX6_take 128 = .ok (.iastore, 1) := by decide +kernel
theorem dX6_take_129 : decode cX6_take 129 = .ok (.aload_n 1, 1) := by decide +kernel
theorem dX6_take_130 : decode cX6_take 130 = .ok (.getfield 119, 3) := by decide +kernel
theorem dX6_take_133 : decode cX6_take 133 = .ok (.aload_n 1, 1) := by decide +kernel
theorem dX6_take_134 : decode cX6_take 134 = .ok (.getfield 94, 3) := by decide +kernel
theorem dX6_take_137 : decode cX6_take 137 = .ok (.aload_n 0, 1) := by decide +kernel
theorem dX6_take_138 : decode cX6_take 138 = .ok (.getfield 19, 3) := by decide +kernel
theorem dX6_take_141 : decode cX6_take 141 = .ok (.iconst 1, 1) := by decide +kernel
theorem dX6_take_142 : decode cX6_take 142 = .ok (.iaload, 1) := by decide +kernel
theorem dX6_take_143 : decode cX6_take 143 = .ok (.iastore, 1) := by decide +kernel
theorem dX6_take_144 : decode cX6_take 144 = .ok (.aload_n 1, 1) := by decide +kernel
theorem dX6_take_145 : decode cX6_take 145 = .ok (.dup, 1) := by decide +kernel
theorem dX6_take_146 : decode cX6_take 146 = .ok (.getfield 94, 3) := by decide +kernel
theorem dX6_take_149 : decode cX6_take 149 = .ok (.iconst 1, 1) := by decide +kernel
theorem dX6_take_150 : decode cX6_take 150 = .ok (.iadd, 1) := by decide +kernel
theorem dX6_take_151 : decode cX6_take 151 = .ok (.putfield 94, 3) := by decide +kernel
theorem dX6_take_154 : decode cX6_take 154 = .ok (.goto 83, 3) := by decide +kernel
theorem dX6_take_157 : decode cX6_take 157 = .ok (.aload_n 0, 1) := by decide +kernel
theorem dX6_take_158 : decode cX6_take 158 = .ok (.aload_n 1, 1) := by decide +kernel
theorem dX6_take_159 : decode cX6_take 159 = .ok (.invokevirtual 122, 3) := by decide +kernel
theorem dX6_take_162 : decode cX6_take 162 = .ok (.goto 75, 3) := by decide +kernel
theorem dX6_take_165 : decode cX6_take 165 = .ok (.aload_n 1, 1) := by decide +kernel
theorem dX6_take_166 : decode cX6_take 166 = .ok (.getfield 103, 3) := by decide +kernel
theorem dX6_take_169 : decode cX6_take 169 = .ok (.aload_n 0, 1) := by decide +kernel
theorem dX6_take_170 : decode cX6_take 170 = .ok (.getfield 19, 3) := by decide +kernel
theorem dX6_take_173 : decode cX6_take 173 = .ok (.iconst 0, 1) := by decide +kernel
theorem dX6_take_174 : decode cX6_take 174 = .ok (.iaload, 1) := by decide +kernel
theorem dX6_take_175 : decode cX6_take 175 = .ok (.aload_n 0, 1) := by decide +kernel
theorem dX6_take_176 : decode cX6_take 176 = .ok (.getfield 19, 3) := by decide +kernel
theorem dX6_take_179 : decode cX6_take 179 = .ok (.iconst 1, 1) := by decide +kernel
theorem dX6_take_180 : decode cX6_take 180 = .ok (.iaload, 1) := by decide +kernel
theorem dX6_take_181 : decode cX6_take 181 = .ok (.iastore, 1) := by decide +kernel
theorem dX6_take_182 : decode cX6_take 182 = .ok (.goto 55, 3) := by decide +kernel
theorem dX6_take_185 : decode cX6_take 185 = .ok (.aload_n 1, 1) := by decide +kernel
theorem dX6_take_186 : decode cX6_take 186 = .ok (.getfield 110, 3) := by decide +kernel
theorem dX6_take_189 : decode cX6_take 189 = .ok (.aload_n 0, 1) := by decide +kernel
theorem dX6_take_190 : decode cX6_take 190 = .ok (.getfield 19, 3) := by decide +kernel
theorem dX6_take_193 : decode cX6_take 193 = .ok (.iconst 0, 1) := by decide +kernel
theorem dX6_take_194 : decode cX6_take 194 = .ok (.iaload, 1) := by decide +kernel
theorem dX6_take_195 : decode cX6_take 195 = .ok (.aaload, 1) := by decide +kernel
theorem dX6_take_196 : decode cX6_take 196 = .ok (.aload_n 0, 1) := by decide +kernel
theorem dX6_take_197 : decode cX6_take 197 = .ok (.getfield 19, 3) := by decide +kernel
theorem dX6_take_200 : decode cX6_take 200 = .ok (.iconst 1, 1) := by decide +kernel
theorem dX6_take_201 : decode cX6_take 201 = .ok (.iaload, 1) := by decide +kernel
theorem dX6_take_202 : decode cX6_take 202 = .ok (.aload_n 0, 1) := by decide +kernel
theorem dX6_take_203 : decode cX6_take 203 = .ok (.getfield 19, 3) := by decide +kernel
theorem dX6_take_206 : decode cX6_take 206 = .ok (.iconst 2, 1) := by decide +kernel
theorem dX6_take_207 : decode cX6_take 207 = .ok (.iaload, 1) := by decide +kernel
theorem dX6_take_208 : decode cX6_take 208 = .ok (.iastore, 1) := by decide +kernel
theorem dX6_take_209 : decode cX6_take 209 = .ok (.goto 28, 3) := by decide +kernel
theorem dX6_take_212 : decode cX6_take 212 = .ok (.aload_n 1, 1) := by decide +kernel
theorem dX6_take_213 : decode cX6_take 213 = .ok (.getfield 125, 3) := by decide +kernel
theorem dX6_take_216 : decode cX6_take 216 = .ok (.aload_n 1, 1) := by decide +kernel
theorem dX6_take_217 : decode cX6_take 217 = .ok (.getfield 128, 3) := by decide +kernel
theorem dX6_take_220 : decode cX6_take 220 = .ok (.aload_n 0, 1) := by decide +kernel
theorem dX6_take_221 : decode cX6_take 221 = .ok (.getfield 19, 3) := by decide +kernel
theorem dX6_take_224 : decode cX6_take 224 = .ok (.iconst 0, 1) := by decide +kernel
theorem dX6_take_225 : decode cX6_take 225 = .ok (.iaload, 1) := by decide +kernel
theorem dX6_take_226 : decode cX6_take 226 = .ok (.iastore, 1) := by decide +kernel
theorem dX6_take_227 : decode cX6_take 227 = .ok (.aload_n 1, 1) := by decide +kernel
theorem dX6_take_228 : decode cX6_take 228 = .ok (.dup, 1) := by decide +kernel
theorem dX6_take_229 : decode cX6_take 229 = .ok (.getfield 128, 3) := by decide +kernel
theorem dX6_take_232 : decode cX6_take 232 = .ok (.iconst 1, 1) := by decide +kernel
theorem dX6_take_233 : decode cX6_take 233 = .ok (.iadd, 1) := by decide +kernel
theorem dX6_take_234 : decode cX6_take 234 = .ok (.putfield 128, 3) := by decide +kernel
theorem dX6_take_237 : decode cX6_take 237 = .ok (.return_, 1) := by decide +kernel
theorem dX6_takeDeed_0 : decode cX6_takeDeed 0 = .ok (.aload_n 1, 1) := by decide +kernel
theorem dX6_takeDeed_1 : decode cX6_takeDeed 1 = .ok (.getfield 100, 3) := by decide +kernel
theorem dX6_takeDeed_4 : decode cX6_takeDeed 4 = .ok (.istore_n 2, 1) := by decide +kernel
theorem dX6_takeDeed_5 : decode cX6_takeDeed 5 = .ok (.aload_n 1, 1) := by decide +kernel
theorem dX6_takeDeed_6 : decode cX6_takeDeed 6 = .ok (.getfield 131, 3) := by decide +kernel
theorem dX6_takeDeed_9 : decode cX6_takeDeed 9 = .ok (.iload_n 2, 1) := by decide +kernel
theorem dX6_takeDeed_10 : decode cX6_takeDeed 10 = .ok (.aload_n 0, 1) := by decide +kernel
theorem dX6_takeDeed_11 : decode cX6_takeDeed 11 = .ok (.getfield 19, 3) := by decide +kernel
theorem dX6_takeDeed_14 : decode cX6_takeDeed 14 = .ok (.iconst 0, 1) := by decide +kernel
theorem dX6_takeDeed_15 : decode cX6_takeDeed 15 = .ok (.iaload, 1) := by decide +kernel
theorem dX6_takeDeed_16 : decode cX6_takeDeed 16 = .ok (.iastore, 1) := by decide +kernel
theorem dX6_takeDeed_17 : decode cX6_takeDeed 17 = .ok (.aload_n 1, 1) := by decide +kernel
theorem dX6_takeDeed_18 : decode cX6_takeDeed 18 = .ok (.getfield 134, 3) := by decide +kernel
theorem dX6_takeDeed_21 : decode cX6_takeDeed 21 = .ok (.iload_n 2, 1) := by decide +kernel
theorem dX6_takeDeed_22 : decode cX6_takeDeed 22 = .ok (.aload_n 0, 1) := by decide +kernel
theorem dX6_takeDeed_23 : decode cX6_takeDeed 23 = .ok (.getfield 19, 3) := by decide +kernel
theorem dX6_takeDeed_26 : decode cX6_takeDeed 26 = .ok (.iconst 1, 1) := by decide +kernel
theorem dX6_takeDeed_27 : decode cX6_takeDeed 27 = .ok (.iaload, 1) := by decide +kernel
theorem dX6_takeDeed_28 : decode cX6_takeDeed 28 = .ok (.iastore, 1) := by decide +kernel
theorem dX6_takeDeed_29 : decode cX6_takeDeed 29 = .ok (.aload_n 1, 1) := by decide +kernel
theorem dX6_takeDeed_30 : decode cX6_takeDeed 30 = .ok (.getfield 137, 3) := by decide +kernel
theorem dX6_takeDeed_33 : decode cX6_takeDeed 33 = .ok (.iload_n 2, 1) := by decide +kernel
theorem dX6_takeDeed_34 : decode cX6_takeDeed 34 = .ok (.aload_n 0, 1) := by decide +kernel
theorem dX6_takeDeed_35 : decode cX6_takeDeed 35 = .ok (.getfield 19, 3) := by decide +kernel
theorem dX6_takeDeed_38 : decode cX6_takeDeed 38 = .ok (.iconst 2, 1) := by decide +kernel
theorem dX6_takeDeed_39 : decode cX6_takeDeed 39 = .ok (.iaload, 1) := by decide +kernel
theorem dX6_takeDeed_40 : decode cX6_takeDeed 40 = .ok (.iastore, 1) := by decide +kernel
theorem dX6_takeDeed_41 : decode cX6_takeDeed 41 = .ok (.aload_n 1, 1) := by decide +kernel
theorem dX6_takeDeed_42 : decode cX6_takeDeed 42 = .ok (.getfield 140, 3) := by decide +kernel
theorem dX6_takeDeed_45 : decode cX6_takeDeed 45 = .ok (.iload_n 2, 1) := by decide +kernel
theorem dX6_takeDeed_46 : decode cX6_takeDeed 46 = .ok (.aload_n 0, 1) := by decide +kernel
theorem dX6_takeDeed_47 : decode cX6_takeDeed 47 = .ok (.getfield 19, 3) := by decide +kernel
theorem dX6_takeDeed_50 : decode cX6_takeDeed 50 = .ok (.iconst 3, 1) := by decide +kernel
theorem dX6_takeDeed_51 : decode cX6_takeDeed 51 = .ok (.iaload, 1) := by decide +kernel
theorem dX6_takeDeed_52 : decode cX6_takeDeed 52 = .ok (.iastore, 1) := by decide +kernel
theorem dX6_takeDeed_53 : decode cX6_takeDeed 53 = .ok (.aload_n 1, 1) := by decide +kernel
theorem dX6_takeDeed_54 : decode cX6_takeDeed 54 = .ok (.dup, 1) := by decide +kernel
theorem dX6_takeDeed_55 : decode cX6_takeDeed 55 = .ok (.getfield 100, 3) := by decide +kernel
theorem dX6_takeDeed_58 : decode cX6_takeDeed 58 = .ok (.iconst 1, 1) := by decide +kernel
theorem dX6_takeDeed_59 : decode cX6_takeDeed 59 = .ok (.iadd, 1) := by decide +kernel
theorem dX6_takeDeed_60 : decode cX6_takeDeed 60 = .ok (.putfield 100, 3) := by decide +kernel
theorem dX6_takeDeed_63 : decode cX6_takeDeed 63 = .ok (.return_, 1) := by decide +kernel
theorem dX7_init_0 : decode cX7_init 0 = .ok (.aload_n 0, 1) := by decide +kernel
theorem dX7_init_1 : decode cX7_init 1 = .ok (.invokespecial 3, 3) := by decide +kernel
theorem dX7_init_4 : decode cX7_init 4 = .ok (.aload_n 0, 1) := by decide +kernel
theorem dX7_init_5 : decode cX7_init 5 = .ok (.bipush 6, 2) := by decide +kernel
theorem dX7_init_7 : decode cX7_init 7 = .ok (.newarray .int, 2) := by decide +kernel
theorem dX7_init_9 : decode cX7_init 9 = .ok (.putfield 9, 3) := by decide +kernel
theorem dX7_init_12 : decode cX7_init 12 = .ok (.aload_n 0, 1) := by decide +kernel
theorem dX7_init_13 : decode cX7_init 13 = .ok (.bipush 6, 2) := by decide +kernel
theorem dX7_init_15 : decode cX7_init 15 = .ok (.newarray .int, 2) := by decide +kernel
theorem dX7_init_17 : decode cX7_init 17 = .ok (.putfield 15, 3) := by decide +kernel
theorem dX7_init_20 : decode cX7_init 20 = .ok (.return_, 1) := by decide +kernel
theorem dX7_tryAll_0 : decode cX7_tryAll 0 = .ok (.aload_n 0, 1) := by decide +kernel
theorem dX7_tryAll_1 : decode cX7_tryAll 1 = .ok (.getfield 15, 3) := by decide +kernel
theorem dX7_tryAll_4 : decode cX7_tryAll 4 = .ok (.iconst (-1), 1) := by decide +kernel
theorem dX7_tryAll_5 : decode cX7_tryAll 5 = .ok (.invokestatic 18, 3) := by decide +kernel
theorem dX7_tryAll_8 : decode cX7_tryAll 8 = .ok (.aload_n 0, 1) := by decide +kernel
theorem dX7_tryAll_9 : decode cX7_tryAll 9 = .ok (.aload_n 1, 1) := by decide +kernel
theorem dX7_tryAll_10 : decode cX7_tryAll 10 = .ok (.iload_n 2, 1) := by decide +kernel
theorem dX7_tryAll_11 : decode cX7_tryAll 11 = .ok (.iload_n 3, 1) := by decide +kernel
theorem dX7_tryAll_12 : decode cX7_tryAll 12 = .ok (.iload 4, 2) := by decide +kernel
theorem dX7_tryAll_14 : decode cX7_tryAll 14 = .ok (.iconst 0, 1) := by decide +kernel
theorem dX7_tryAll_15 : decode cX7_tryAll 15 = .ok (.invokestatic 24, 3) := by decide +kernel
theorem dX7_tryAll_18 : decode cX7_tryAll 18 = .ok (.return_, 1) := by decide +kernel
theorem dX7_goOn_0 : decode cX7_goOn 0 = .ok (.aload_n 0, 1) := by decide +kernel
theorem dX7_goOn_1 : decode cX7_goOn 1 = .ok (.aload_n 1, 1) := by decide +kernel
theorem dX7_goOn_2 : decode cX7_goOn 2 = .ok (.iload 5, 2) := by decide +kernel
theorem dX7_goOn_4 : decode cX7_goOn 4 = .ok (.iload 4, 2) := by decide +kernel
theorem dX7_goOn_6 : decode cX7_goOn 6 = .ok (.invokevirtual 28, 3) := by decide +kernel
theorem dX7_goOn_9 : decode cX7_goOn 9 = .ok (.iload 5, 2) := by decide +kernel
theorem dX7_goOn_11 : decode cX7_goOn 11 = .ok (.bipush 6, 2) := by decide +kernel
theorem dX7_goOn_13 : decode cX7_goOn 13 = .ok (.if_icmp .lt 4, 3) := by decide +kernel
theorem dX7_goOn_16 : decode cX7_goOn 16 = .ok (.return_, 1) := by decide +kernel
theorem dX7_goOn_17 : decode cX7_goOn 17 = .ok (.iconst 0, 1) := by decide +kernel
theorem dX7_goOn_18 : decode cX7_goOn 18 = .ok (.istore 6, 2) := by decide +kernel
theorem dX7_goOn_20 : decode cX7_goOn 20 = .ok (.iload 6, 2) := by decide +kernel
theorem dX7_goOn_22 : decode cX7_goOn 22 = .ok (.aload_n 1, 1) := by decide +kernel
theorem dX7_goOn_23 : decode cX7_goOn 23 = .ok (.getfield 32, 3) := by decide +kernel
theorem dX7_goOn_26 : decode cX7_goOn 26 = .ok (.if_icmp .ge 90, 3) := by decide +kernel
theorem dX7_goOn_29 : decode cX7_goOn 29 = .ok (.iload_n 2, 1) := by decide +kernel
theorem dX7_goOn_30 : decode cX7_goOn 30 = .ok (.iload 6, 2) := by decide +kernel
theorem dX7_goOn_32 : decode cX7_goOn 32 = .ok (.ishr, 1) := by decide +kernel
theorem dX7_goOn_33 : decode cX7_goOn 33 = .ok (.iconst 1, 1) := by decide +kernel
theorem dX7_goOn_34 : decode cX7_goOn 34 = .ok (.iand, 1) := by decide +kernel
theorem dX7_goOn_35 : decode cX7_goOn 35 = .ok (.ifCond .ne 7, 3) := by decide +kernel
theorem dX7_goOn_38 : decode cX7_goOn 38 = .ok (.iconst (-1), 1) := by decide +kernel
theorem dX7_goOn_39 : decode cX7_goOn 39 = .ok (.goto 12, 3) := by decide +kernel
theorem dX7_goOn_42 : decode cX7_goOn 42 = .ok (.aload_n 1, 1) := by decide +kernel
theorem dX7_goOn_43 : decode cX7_goOn 43 = .ok (.iload 6, 2) := by decide +kernel
theorem dX7_goOn_45 : decode cX7_goOn 45 = .ok (.iload_n 3, 1) := by decide +kernel
theorem dX7_goOn_46 : decode cX7_goOn 46 = .ok (.iload 4, 2) := by decide +kernel
theorem dX7_goOn_48 : decode cX7_goOn 48 = .ok (.invokevirtual 38, 3) := by decide +kernel
theorem dX7_goOn_51 : decode cX7_goOn 51 = .ok (.istore 7, 2) := by decide +kernel
theorem dX7_goOn_53 : decode cX7_goOn 53 = .ok (.iload 7, 2) := by decide +kernel
theorem dX7_goOn_55 : decode cX7_goOn 55 = .ok (.iconst (-1), 1) := by decide +kernel
theorem dX7_goOn_56 : decode cX7_goOn 56 = .ok (.if_icmp .eq 54, 3) := by decide +kernel
theorem dX7_goOn_59 : decode cX7_goOn 59 = .ok (.aload_n 0, 1) := by decide +kernel
theorem dX7_goOn_60 : decode cX7_goOn 60 = .ok (.getfield 9, 3) := by decide +kernel
theorem dX7_goOn_63 : decode cX7_goOn 63 = .ok (.iload 5, 2) := by decide +kernel
theorem dX7_goOn_65 : decode cX7_goOn 65 = .ok (.iload 6, 2) := by decide +kernel
theorem dX7_goOn_67 : decode cX7_goOn 67 = .ok (.iastore, 1) := by decide +kernel
theorem dX7_goOn_68 : decode cX7_goOn 68 = .ok (.aload_n 0, 1) := by decide +kernel
theorem dX7_goOn_69 : decode cX7_goOn 69 = .ok (.getfield 15, 3) := by decide +kernel
theorem dX7_goOn_72 : decode cX7_goOn 72 = .ok (.iload 6, 2) := by decide +kernel
theorem dX7_goOn_74 : decode cX7_goOn 74 = .ok (.iload 7, 2) := by decide +kernel
theorem dX7_goOn_76 : decode cX7_goOn 76 = .ok (.iastore, 1) := by decide +kernel
theorem dX7_goOn_77 : decode cX7_goOn 77 = .ok (.aload_n 0, 1) := by decide +kernel
theorem dX7_goOn_78 : decode cX7_goOn 78 = .ok (.aload_n 1, 1) := by decide +kernel
theorem dX7_goOn_79 : decode cX7_goOn 79 = .ok (.iload_n 2, 1) := by decide +kernel
theorem dX7_goOn_80 : decode cX7_goOn 80 = .ok (.iconst 1, 1) := by decide +kernel
theorem dX7_goOn_81 : decode cX7_goOn 81 = .ok (.iload 6, 2) := by decide +kernel
theorem dX7_goOn_83 : decode cX7_goOn 83 = .ok (.ishl, 1) := by decide +kernel
theorem dX7_goOn_84 : decode cX7_goOn 84 = .ok (.iconst (-1), 1) := by decide +kernel
theorem dX7_goOn_85 : decode cX7_goOn 85 = .ok (.ixor, 1) := by decide +kernel
theorem dX7_goOn_86 : decode cX7_goOn 86 = .ok (.iand, 1) := by decide +kernel
theorem dX7_goOn_87 : decode cX7_goOn 87 = .ok (.aload_n 1, 1) := by decide +kernel
theorem dX7_goOn_88 : decode cX7_goOn 88 = .ok (.iload 6, 2) := by decide +kernel
theorem dX7_goOn_90 : decode cX7_goOn 90 = .ok (.invokevirtual 42, 3) := by decide +kernel
theorem dX7_goOn_93 : decode cX7_goOn 93 = .ok (.iload 7, 2) := by decide +kernel
theorem dX7_goOn_95 : decode cX7_goOn 95 = .ok (.iload 5, 2) := by decide +kernel
theorem dX7_goOn_97 : decode cX7_goOn 97 = .ok (.iconst 1, 1) := by decide +kernel
theorem dX7_goOn_98 : decode cX7_goOn 98 = .ok (.iadd, 1) := by decide +kernel
theorem dX7_goOn_99 : decode cX7_goOn 99 = .ok (.invokestatic 24, 3) := by decide +kernel
theorem dX7_goOn_102 : decode cX7_goOn 102 = .ok (.aload_n 0, 1) := by decide +kernel
theorem dX7_goOn_103 : decode cX7_goOn 103 = .ok (.getfield 15, 3) := by decide +kernel
theorem dX7_goOn_106 : decode cX7_goOn 106 = .ok (.iload 6, 2) := by decide +kernel
theorem dX7_goOn_108 : decode cX7_goOn 108 = .ok (.iconst (-1), 1) := by decide +kernel
theorem dX7_goOn_109 : decode cX7_goOn 109 = .ok (.iastore, 1) := by decide +kernel
theorem dX7_goOn_110 : decode cX7_goOn 110 = .ok (.iinc 6 1, 3) := by decide +kernel
theorem dX7_goOn_113 : decode cX7_goOn 113 = .ok (.goto (-93), 3) := by decide +kernel
theorem dX7_goOn_116 : decode cX7_goOn 116 = .ok (.return_, 1) := by decide +kernel
theorem dX7_setOfRow_0 : decode cX7_setOfRow 0 = .ok (.iconst 0, 1) := by decide +kernel
theorem dX7_setOfRow_1 : decode cX7_setOfRow 1 = .ok (.istore_n 2, 1) := by decide +kernel
theorem dX7_setOfRow_2 : decode cX7_setOfRow 2 = .ok (.iconst 0, 1) := by decide +kernel
theorem dX7_setOfRow_3 : decode cX7_setOfRow 3 = .ok (.istore_n 3, 1) := by decide +kernel
theorem dX7_setOfRow_4 : decode cX7_setOfRow 4 = .ok (.iload_n 3, 1) := by decide +kernel
theorem dX7_setOfRow_5 : decode cX7_setOfRow 5 = .ok (.iload_n 1, 1) := by decide +kernel
theorem dX7_setOfRow_6 : decode cX7_setOfRow 6 = .ok (.if_icmp .ge 20, 3) := by decide +kernel
theorem dX7_setOfRow_9 : decode cX7_setOfRow 9 = .ok (.iload_n 2, 1) := by decide +kernel
theorem dX7_setOfRow_10 : decode cX7_setOfRow 10 = .ok (.iconst 1, 1) := by decide +kernel
theorem dX7_setOfRow_11 : decode cX7_setOfRow 11 = .ok (.aload_n 0, 1) := by decide +kernel
theorem dX7_setOfRow_12 : decode cX7_setOfRow 12 = .ok (.getfield 9, 3) := by decide +kernel
theorem dX7_setOfRow_15 : decode cX7_setOfRow 15 = .ok (.iload_n 3, 1) := by decide +kernel
theorem dX7_setOfRow_16 : decode cX7_setOfRow 16 = .ok (.iaload, 1) := by decide +kernel
theorem dX7_setOfRow_17 : decode cX7_setOfRow 17 = .ok (.ishl, 1) := by decide +kernel
theorem dX7_setOfRow_18 : decode cX7_setOfRow 18 = .ok (.ior, 1) := by decide +kernel
theorem dX7_setOfRow_19 : decode cX7_setOfRow 19 = .ok (.istore_n 2, 1) := by decide +kernel
theorem dX7_setOfRow_20 : decode cX7_setOfRow 20 = .ok (.iinc 3 1, 3) := by decide +kernel
theorem dX7_setOfRow_23 : decode cX7_setOfRow 23 = .ok (.goto (-19), 3) := by decide +kernel
theorem dX7_setOfRow_26 : decode cX7_setOfRow 26 = .ok (.iload_n 2, 1) := by decide +kernel
theorem dX7_setOfRow_27 : decode cX7_setOfRow 27 = .ok (.ireturn, 1) := by decide +kernel
theorem dX8_init_0 : decode cX8_init 0 = .ok (.aload_n 0, 1) := by decide +kernel
theorem dX8_init_1 : decode cX8_init 1 = .ok (.invokespecial 3, 3) := by decide +kernel
theorem dX8_init_4 : decode cX8_init 4 = .ok (.aload_n 0, 1) := by decide +kernel
theorem dX8_init_5 : decode cX8_init 5 = .ok (.iconst (-1), 1) := by decide +kernel
theorem dX8_init_6 : decode cX8_init 6 = .ok (.putfield 9, 3) := by decide +kernel
theorem dX8_init_9 : decode cX8_init 9 = .ok (.aload_n 0, 1) := by decide +kernel
theorem dX8_init_10 : decode cX8_init 10 = .ok (.iconst (-1), 1) := by decide +kernel
theorem dX8_init_11 : decode cX8_init 11 = .ok (.putfield 15, 3) := by decide +kernel
theorem dX8_init_14 : decode cX8_init 14 = .ok (.aload_n 0, 1) := by decide +kernel
theorem dX8_init_15 : decode cX8_init 15 = .ok (.bipush 6, 2) := by decide +kernel
theorem dX8_init_17 : decode cX8_init 17 = .ok (.newarray .int, 2) := by decide +kernel
theorem dX8_init_19 : decode cX8_init 19 = .ok (.putfield 18, 3) := by decide +kernel
theorem dX8_init_22 : decode cX8_init 22 = .ok (.aload_n 0, 1) := by decide +kernel
theorem dX8_init_23 : decode cX8_init 23 = .ok (.getfield 18, 3) := by decide +kernel
theorem dX8_init_26 : decode cX8_init 26 = .ok (.iconst (-1), 1) := by decide +kernel
theorem dX8_init_27 : decode cX8_init 27 = .ok (.invokestatic 22, 3) := by decide +kernel
theorem dX8_init_30 : decode cX8_init 30 = .ok (.return_, 1) := by decide +kernel
theorem dX8_beginIn_0 : decode cX8_beginIn 0 = .ok (.aload_n 0, 1) := by decide +kernel
theorem dX8_beginIn_1 : decode cX8_beginIn 1 = .ok (.iconst 0, 1) := by decide +kernel
theorem dX8_beginIn_2 : decode cX8_beginIn 2 = .ok (.putfield 28, 3) := by decide +kernel
theorem dX8_beginIn_5 : decode cX8_beginIn 5 = .ok (.aload_n 0, 1) := by decide +kernel
theorem dX8_beginIn_6 : decode cX8_beginIn 6 = .ok (.aload_n 1, 1) := by decide +kernel
theorem dX8_beginIn_7 : decode cX8_beginIn 7 = .ok (.getfield 31, 3) := by decide +kernel
theorem dX8_beginIn_10 : decode cX8_beginIn 10 = .ok (.putfield 9, 3) := by decide +kernel
theorem dX8_beginIn_13 : decode cX8_beginIn 13 = .ok (.aload_n 0, 1) := by decide +kernel
theorem dX8_beginIn_14 : decode cX8_beginIn 14 = .ok (.iconst (-1), 1) := by decide +kernel
theorem dX8_beginIn_15 : decode cX8_beginIn 15 = .ok (.putfield 15, 3) := by decide +kernel
theorem dX8_beginIn_18 : decode cX8_beginIn 18 = .ok (.aload_n 0, 1) := by decide +kernel
theorem dX8_beginIn_19 : decode cX8_beginIn 19 = .ok (.getfield 18, 3) := by decide +kernel
theorem dX8_beginIn_22 : decode cX8_beginIn 22 = .ok (.iconst (-1), 1) := by decide +kernel
theorem dX8_beginIn_23 : decode cX8_beginIn 23 = .ok (.invokestatic 22, 3) := by decide +kernel
theorem dX8_beginIn_26 : decode cX8_beginIn 26 = .ok (.return_, 1) := by decide +kernel
theorem dX8_become_0 : decode cX8_become 0 = .ok (.aload_n 0, 1) := by decide +kernel
theorem dX8_become_1 : decode cX8_become 1 = .ok (.aload_n 1, 1) := by decide +kernel
theorem dX8_become_2 : decode cX8_become 2 = .ok (.getfield 28, 3) := by decide +kernel
theorem dX8_become_5 : decode cX8_become 5 = .ok (.putfield 28, 3) := by decide +kernel
theorem dX8_become_8 : decode cX8_become 8 = .ok (.aload_n 0, 1) := by decide +kernel
theorem dX8_become_9 : decode cX8_become 9 = .ok (.aload_n 1, 1) := by decide +kernel
theorem dX8_become_10 : decode cX8_become 10 = .ok (.getfield 9, 3) := by decide +kernel
theorem dX8_become_13 : decode cX8_become 13 = .ok (.putfield 9, 3) := by decide +kernel
theorem dX8_become_16 : decode cX8_become 16 = .ok (.aload_n 0, 1) := by decide +kernel
theorem dX8_become_17 : decode cX8_become 17 = .ok (.aload_n 1, 1) := by decide +kernel
theorem dX8_become_18 : decode cX8_become 18 = .ok (.getfield 15, 3) := by decide +kernel
theorem dX8_become_21 : decode cX8_become 21 = .ok (.putfield 15, 3) := by decide +kernel
theorem dX8_become_24 : decode cX8_become 24 = .ok (.aload_n 0, 1) := by decide +kernel
theorem dX8_become_25 : decode cX8_become 25 = .ok (.aload_n 1, 1) := by decide +kernel
theorem dX8_become_26 : decode cX8_become 26 = .ok (.getfield 36, 3) := by decide +kernel
theorem dX8_become_29 : decode cX8_become 29 = .ok (.putfield 36, 3) := by decide +kernel
theorem dX8_become_32 : decode cX8_become 32 = .ok (.aload_n 1, 1) := by decide +kernel
theorem dX8_become_33 : decode cX8_become 33 = .ok (.getfield 18, 3) := by decide +kernel
theorem dX8_become_36 : decode cX8_become 36 = .ok (.iconst 0, 1) := by decide +kernel
theorem dX8_become_37 : decode cX8_become 37 = .ok (.aload_n 0, 1) := by decide +kernel
theorem dX8_become_38 : decode cX8_become 38 = .ok (.getfield 18, 3) := by decide +kernel
theorem dX8_become_41 : decode cX8_become 41 = .ok (.iconst 0, 1) := by decide +kernel
theorem dX8_become_42 : decode cX8_become 42 = .ok (.bipush 6, 2) := by decide +kernel
theorem dX8_become_44 : decode cX8_become 44 = .ok (.invokestatic 39, 3) := by decide +kernel
theorem dX8_become_47 : decode cX8_become 47 = .ok (.return_, 1) := by decide +kernel
theorem dX8_standOf_0 : decode cX8_standOf 0 = .ok (.aload_n 0, 1) := by decide +kernel
theorem dX8_standOf_1 : decode cX8_standOf 1 = .ok (.getfield 18, 3) := by decide +kernel
theorem dX8_standOf_4 : decode cX8_standOf 4 = .ok (.iload_n 2, 1) := by decide +kernel
theorem dX8_standOf_5 : decode cX8_standOf 5 = .ok (.iaload, 1) := by decide +kernel
theorem dX8_standOf_6 : decode cX8_standOf 6 = .ok (.iconst (-1), 1) := by decide +kernel
theorem dX8_standOf_7 : decode cX8_standOf 7 = .ok (.if_icmp .eq 5, 3) := by decide +kernel
theorem dX8_standOf_10 : decode cX8_standOf 10 = .ok (.iconst 1, 1) := by decide +kernel
theorem dX8_standOf_11 : decode cX8_standOf 11 = .ok (.ireturn, 1) := by decide +kernel
theorem dX8_standOf_12 : decode cX8_standOf 12 = .ok (.aload_n 0, 1) := by decide +kernel
theorem dX8_standOf_13 : decode cX8_standOf 13 = .ok (.getfield 28, 3) := by decide +kernel
theorem dX8_standOf_16 : decode cX8_standOf 16 = .ok (.aload_n 1, 1) := by decide +kernel
theorem dX8_standOf_17 : decode cX8_standOf 17 = .ok (.getfield 45, 3) := by decide +kernel
theorem dX8_standOf_20 : decode cX8_standOf 20 = .ok (.iload_n 2, 1) := by decide +kernel
theorem dX8_standOf_21 : decode cX8_standOf 21 = .ok (.iaload, 1) := by decide +kernel
theorem dX8_standOf_22 : decode cX8_standOf 22 = .ok (.aload_n 1, 1) := by decide +kernel
theorem dX8_standOf_23 : decode cX8_standOf 23 = .ok (.getfield 48, 3) := by decide +kernel
theorem dX8_standOf_26 : decode cX8_standOf 26 = .ok (.iload_n 2, 1) := by decide +kernel
theorem dX8_standOf_27 : decode cX8_standOf 27 = .ok (.iaload, 1) := by decide +kernel
theorem dX8_standOf_28 : decode cX8_standOf 28 = .ok (.isub, 1) := by decide +kernel
theorem dX8_standOf_29 : decode cX8_standOf 29 = .ok (.if_icmp .le 7, 3) := by decide +kernel
theorem dX8_standOf_32 : decode cX8_standOf 32 = .ok (.iconst 2, 1) := by decide +kernel
theorem dX8_standOf_33 : decode cX8_standOf 33 = .ok (.goto 4, 3) := by decide +kernel
theorem dX8_standOf_36 : decode cX8_standOf 36 = .ok (.iconst 0, 1) := by decide +kernel
theorem dX8_standOf_37 : decode cX8_standOf 37 = .ok (.ireturn, 1) := by decide +kernel
theorem dX8_reaches_0 : decode cX8_reaches 0 = .ok (.aload_n 1, 1) := by decide +kernel
theorem dX8_reaches_1 : decode cX8_reaches 1 = .ok (.aload_n 0, 1) := by decide +kernel
theorem dX8_reaches_2 : decode cX8_reaches 2 = .ok (.getfield 9, 3) := by decide +kernel
theorem dX8_reaches_5 : decode cX8_reaches 5 = .ok (.aload_n 1, 1) := by decide +kernel
theorem dX8_reaches_6 : decode cX8_reaches 6 = .ok (.getfield 51, 3) := by decide +kernel
theorem dX8_reaches_9 : decode cX8_reaches 9 = .ok (.iload_n 2, 1) := by decide +kernel
theorem dX8_reaches_10 : decode cX8_reaches 10 = .ok (.iaload, 1) := by decide +kernel
theorem dX8_reaches_11 : decode cX8_reaches 11 = .ok (.invokevirtual 54, 3) := by decide +kernel
theorem dX8_reaches_14 : decode cX8_reaches 14 = .ok (.iconst (-1), 1) := by decide +kernel
theorem dX8_reaches_15 : decode cX8_reaches 15 = .ok (.if_icmp .eq 7, 3) := by decide +kernel
theorem dX8_reaches_18 : decode cX8_reaches 18 = .ok (.iconst 1, 1) := by decide +kernel
theorem dX8_reaches_19 : decode cX8_reaches 19 = .ok (.goto 4, 3) := by decide +kernel
theorem dX8_reaches_22 : decode cX8_reaches 22 = .ok (.iconst 0, 1) := by decide +kernel
theorem dX8_reaches_23 : decode cX8_reaches 23 = .ok (.ireturn, 1) := by decide +kernel
theorem dX8_hand_0 : decode cX8_hand 0 = .ok (.aload_n 0, 1) := by decide +kernel
theorem dX8_hand_1 : decode cX8_hand 1 = .ok (.dup, 1) := by decide +kernel
theorem dX8_hand_2 : decode cX8_hand 2 = .ok (.getfield 28, 3) := by decide +kernel
theorem dX8_hand_5 : decode cX8_hand 5 = .ok (.aload_n 1, 1) := by decide +kernel
theorem dX8_hand_6 : decode cX8_hand 6 = .ok (.aload_n 0, 1) := by decide +kernel
theorem dX8_hand_7 : decode cX8_hand 7 = .ok (.getfield 9, 3) := by decide +kernel
theorem dX8_hand_10 : decode cX8_hand 10 = .ok (.aload_n 1, 1) := by decide +kernel
theorem dX8_hand_11 : decode cX8_hand 11 = .ok (.getfield 51, 3) := by decide +kernel
theorem dX8_hand_14 : decode cX8_hand 14 = .ok (.iload_n 2, 1) := by decide +kernel
theorem dX8_hand_15 : decode cX8_hand 15 = .ok (.iaload, 1) := by decide +kernel
theorem dX8_hand_16 : decode cX8_hand 16 = .ok (.invokevirtual 54, 3) := by decide +kernel
theorem dX8_hand_19 : decode cX8_hand 19 = .ok (.iadd, 1) := by decide +kernel
theorem dX8_hand_20 : decode cX8_hand 20 = .ok (.putfield 28, 3) := by decide +kernel
theorem dX8_hand_23 : decode cX8_hand 23 = .ok (.aload_n 0, 1) := by decide +kernel
theorem dX8_hand_24 : decode cX8_hand 24 = .ok (.aload_n 1, 1) := by decide +kernel
theorem dX8_hand_25 : decode cX8_hand 25 = .ok (.getfield 51, 3) := by decide +kernel
theorem dX8_hand_28 : decode cX8_hand 28 = .ok (.iload_n 2, 1) := by decide +kernel
theorem dX8_hand_29 : decode cX8_hand 29 = .ok (.iaload, 1) := by decide +kernel
theorem dX8_hand_30 : decode cX8_hand 30 = .ok (.putfield 9, 3) := by decide +kernel
theorem dX8_hand_33 : decode cX8_hand 33 = .ok (.aload_n 0, 1) := by decide +kernel
theorem dX8_hand_34 : decode cX8_hand 34 = .ok (.iload_n 2, 1) := by decide +kernel
theorem dX8_hand_35 : decode cX8_hand 35 = .ok (.putfield 15, 3) := by decide +kernel
theorem dX8_hand_38 : decode cX8_hand 38 = .ok (.return_, 1) := by decide +kernel
theorem dX8_finish_0 : decode cX8_finish 0 = .ok (.aload_n 0, 1) := by decide +kernel
theorem dX8_finish_1 : decode cX8_finish 1 = .ok (.dup, 1) := by decide +kernel
theorem dX8_finish_2 : decode cX8_finish 2 = .ok (.getfield 28, 3) := by decide +kernel
theorem dX8_finish_5 : decode cX8_finish 5 = .ok (.aload_n 1, 1) := by decide +kernel
theorem dX8_finish_6 : decode cX8_finish 6 = .ok (.getfield 48, 3) := by decide +kernel
theorem dX8_finish_9 : decode cX8_finish 9 = .ok (.iload_n 2, 1) := by decide +kernel
theorem dX8_finish_10 : decode cX8_finish 10 = .ok (.iaload, 1) := by decide +kernel
theorem dX8_finish_11 : decode cX8_finish 11 = .ok (.iadd, 1) := by decide +kernel
theorem dX8_finish_12 : decode cX8_finish 12 = .ok (.putfield 28, 3) := by decide +kernel
theorem dX8_finish_15 : decode cX8_finish 15 = .ok (.aload_n 0, 1) := by decide +kernel
theorem dX8_finish_16 : decode cX8_finish 16 = .ok (.getfield 18, 3) := by decide +kernel
theorem dX8_finish_19 : decode cX8_finish 19 = .ok (.iload_n 2, 1) := by decide +kernel
theorem dX8_finish_20 : decode cX8_finish 20 = .ok (.aload_n 0, 1) := by decide +kernel
theorem dX8_finish_21 : decode cX8_finish 21 = .ok (.getfield 28, 3) := by decide +kernel
theorem dX8_finish_24 : decode cX8_finish 24 = .ok (.iastore, 1) := by decide +kernel
theorem dX8_finish_25 : decode cX8_finish 25 = .ok (.return_, 1) := by decide +kernel
theorem dX8_draw_0 : decode cX8_draw 0 = .ok (.aload_n 0, 1) := by decide +kernel
theorem dX8_draw_1 : decode cX8_draw 1 = .ok (.aload_n 0, 1) := by decide +kernel
theorem dX8_draw_2 : decode cX8_draw 2 = .ok (.getfield 36, 3) := by decide +kernel
theorem dX8_draw_5 : decode cX8_draw 5 = .ok (.i2l, 1) := by decide +kernel
theorem dX8_draw_6 : decode cX8_draw 6 = .ok (.ldc2_w 58, 3) := by decide +kernel
theorem dX8_draw_9 : decode cX8_draw 9 = .ok (.lmul, 1) := by decide +kernel
theorem dX8_draw_10 : decode cX8_draw 10 = .ok (.ldc2_w 60, 3) := by decide +kernel
theorem dX8_draw_13 : decode cX8_draw 13 = .ok (.ladd, 1) := by decide +kernel
theorem dX8_draw_14 : decode cX8_draw 14 = .ok (.ldc2_w 62, 3) := by decide +kernel
theorem dX8_draw_17 : decode cX8_draw 17 = .ok (.land, 1) := by decide +kernel
theorem dX8_draw_18 : decode cX8_draw 18 = .ok (.l2i, 1) := by decide +kernel
theorem dX8_draw_19 : decode cX8_draw 19 = .ok (.putfield 36, 3) := by decide +kernel
theorem dX8_draw_22 : decode cX8_draw 22 = .ok (.iload_n 1, 1) := by decide +kernel
theorem dX8_draw_23 : decode cX8_draw 23 = .ok (.ifCond .le 15, 3) := by decide +kernel
theorem dX8_draw_26 : decode cX8_draw 26 = .ok (.aload_n 0, 1) := by decide +kernel
theorem dX8_draw_27 : decode cX8_draw 27 = .ok (.getfield 36, 3) := by decide +kernel
theorem dX8_draw_30 : decode cX8_draw 30 = .ok (.ldc 64, 2) := by decide +kernel
theorem dX8_draw_32 : decode cX8_draw 32 = .ok (.idiv, 1) := by decide +kernel
theorem dX8_draw_33 : decode cX8_draw 33 = .ok (.iload_n 1, 1) := by decide +kernel
theorem dX8_draw_34 : decode cX8_draw 34 = .ok (.irem, 1) := by decide +kernel
theorem dX8_draw_35 : decode cX8_draw 35 = .ok (.goto 4, 3) := by decide +kernel
theorem dX8_draw_38 : decode cX8_draw 38 = .ok (.iconst 0, 1) := by decide +kernel
theorem dX8_draw_39 : decode cX8_draw 39 = .ok (.ireturn, 1) := by decide +kernel
theorem dX9_init_0 : decode cX9_init 0 = .ok (.aload_n 0, 1) := by decide +kernel
theorem dX9_init_1 : decode cX9_init 1 = .ok (.invokespecial 3, 3) := by decide +kernel
theorem dX9_init_4 : decode cX9_init 4 = .ok (.aload_n 0, 1) := by decide +kernel
theorem dX9_init_5 : decode cX9_init 5 = .ok (.iconst (-1), 1) := by decide +kernel
theorem dX9_init_6 : decode cX9_init 6 = .ok (.putfield 9, 3) := by decide +kernel
theorem dX9_init_9 : decode cX9_init 9 = .ok (.aload_n 0, 1) := by decide +kernel
theorem dX9_init_10 : decode cX9_init 10 = .ok (.bipush 7, 2) := by decide +kernel
theorem dX9_init_12 : decode cX9_init 12 = .ok (.bipush 7, 2) := by decide +kernel
theorem dX9_init_14 : decode cX9_init 14 = .ok (.multianewarray 15 2, 4) := by decide +kernel
theorem dX9_init_18 : decode cX9_init 18 = .ok (.putfield 17, 3) := by decide +kernel
theorem dX9_init_21 : decode cX9_init 21 = .ok (.aload_n 0, 1) := by decide +kernel
theorem dX9_init_22 : decode cX9_init 22 = .ok (.bipush 7, 2) := by decide +kernel
theorem dX9_init_24 : decode cX9_init 24 = .ok (.bipush 7, 2) := by decide +kernel
theorem dX9_init_26 : decode cX9_init 26 = .ok (.multianewarray 15 2, 4) := by decide +kernel
theorem dX9_init_30 : decode cX9_init 30 = .ok (.putfield 20, 3) := by decide +kernel
theorem dX9_init_33 : decode cX9_init 33 = .ok (.aload_n 0, 1) := by decide +kernel
theorem dX9_init_34 : decode cX9_init 34 = .ok (.bipush 6, 2) := by decide +kernel
theorem dX9_init_36 : decode cX9_init 36 = .ok (.newarray .int, 2) := by decide +kernel
theorem dX9_init_38 : decode cX9_init 38 = .ok (.putfield 23, 3) := by decide +kernel
theorem dX9_init_41 : decode cX9_init 41 = .ok (.aload_n 0, 1) := by decide +kernel
theorem dX9_init_42 : decode cX9_init 42 = .ok (.bipush 6, 2) := by decide +kernel
theorem dX9_init_44 : decode cX9_init 44 = .ok (.newarray .int, 2) := by decide +kernel
theorem dX9_init_46 : decode cX9_init 46 = .ok (.putfield 27, 3) := by decide +kernel
theorem dX9_init_49 : decode cX9_init 49 = .ok (.aload_n 0, 1) := by decide +kernel
theorem dX9_init_50 : decode cX9_init 50 = .ok (.bipush 6, 2) := by decide +kernel
theorem dX9_init_52 : decode cX9_init 52 = .ok (.newarray .int, 2) := by decide +kernel
theorem dX9_init_54 : decode cX9_init 54 = .ok (.putfield 30, 3) := by decide +kernel
theorem dX9_init_57 : decode cX9_init 57 = .ok (.aload_n 0, 1) := by decide +kernel
theorem dX9_init_58 : decode cX9_init 58 = .ok (.bipush 6, 2) := by decide +kernel
theorem dX9_init_60 : decode cX9_init 60 = .ok (.newarray .int, 2) := by decide +kernel
theorem dX9_init_62 : decode cX9_init 62 = .ok (.putfield 33, 3) := by decide +kernel
theorem dX9_init_65 : decode cX9_init 65 = .ok (.aload_n 0, 1) := by decide +kernel
theorem dX9_init_66 : decode cX9_init 66 = .ok (.bipush 6, 2) := by decide +kernel
theorem dX9_init_68 : decode cX9_init 68 = .ok (.newarray .int, 2) := by decide +kernel
theorem dX9_init_70 : decode cX9_init 70 = .ok (.putfield 36, 3) := by decide +kernel
theorem dX9_init_73 : decode cX9_init 73 = .ok (.aload_n 0, 1) := by decide +kernel
theorem dX9_init_74 : decode cX9_init 74 = .ok (.bipush 6, 2) := by decide +kernel
theorem dX9_init_76 : decode cX9_init 76 = .ok (.newarray .int, 2) := by decide +kernel
theorem dX9_init_78 : decode cX9_init 78 = .ok (.putfield 39, 3) := by decide +kernel
theorem dX9_init_81 : decode cX9_init 81 = .ok (.aload_n 0, 1) := by decide +kernel
theorem dX9_init_82 : decode cX9_init 82 = .ok (.bipush 6, 2) := by decide +kernel
theorem dX9_init_84 : decode cX9_init 84 = .ok (.newarray .int, 2) := by decide +kernel
theorem dX9_init_86 : decode cX9_init 86 = .ok (.putfield 42, 3) := by decide +kernel
theorem dX9_init_89 : decode cX9_init 89 = .ok (.aload_n 0, 1) := by decide +kernel
theorem dX9_init_90 : decode cX9_init 90 = .ok (.bipush 6, 2) := by decide +kernel
theorem dX9_init_92 : decode cX9_init 92 = .ok (.bipush 6, 2) := by decide +kernel
theorem dX9_init_94 : decode cX9_init 94 = .ok (.multianewarray 15 2, 4) := by decide +kernel
theorem dX9_init_98 : decode cX9_init 98 = .ok (.putfield 45, 3) := by decide +kernel
theorem dX9_init_101 : decode cX9_init 101 = .ok (.aload_n 0, 1) := by decide +kernel
theorem dX9_init_102 : decode cX9_init 102 = .ok (.iconst 4, 1) := by decide +kernel
theorem dX9_init_103 : decode cX9_init 103 = .ok (.newarray .int, 2) := by decide +kernel
theorem dX9_init_105 : decode cX9_init 105 = .ok (.putfield 48, 3) := by decide +kernel
theorem dX9_init_108 : decode cX9_init 108 = .ok (.aload_n 0, 1) := by decide +kernel
theorem dX9_init_109 : decode cX9_init 109 = .ok (.invokevirtual 51, 3) := by decide +kernel
theorem dX9_init_112 : decode cX9_init 112 = .ok (.return_, 1) := by decide +kernel
theorem dX9_clear_0 : decode cX9_clear 0 = .ok (.aload_n 0, 1) := by decide +kernel
theorem dX9_clear_1 : decode cX9_clear 1 = .ok (.iconst 0, 1) := by decide +kernel
theorem dX9_clear_2 : decode cX9_clear 2 = .ok (.putfield 54, 3) := by decide +kernel
theorem dX9_clear_5 : decode cX9_clear 5 = .ok (.aload_n 0, 1) := by decide +kernel
theorem dX9_clear_6 : decode cX9_clear 6 = .ok (.iconst (-1), 1) := by decide +kernel
theorem dX9_clear_7 : decode cX9_clear 7 = .ok (.putfield 9, 3) := by decide +kernel
theorem dX9_clear_10 : decode cX9_clear 10 = .ok (.aload_n 0, 1) := by decide +kernel
theorem dX9_clear_11 : decode cX9_clear 11 = .ok (.iconst 0, 1) := by decide +kernel
theorem dX9_clear_12 : decode cX9_clear 12 = .ok (.putfield 57, 3) := by decide +kernel
theorem dX9_clear_15 : decode cX9_clear 15 = .ok (.aload_n 0, 1) := by decide +kernel
theorem dX9_clear_16 : decode cX9_clear 16 = .ok (.iconst 0, 1) := by decide +kernel
theorem dX9_clear_17 : decode cX9_clear 17 = .ok (.putfield 60, 3) := by decide +kernel
theorem dX9_clear_20 : decode cX9_clear 20 = .ok (.aload_n 0, 1) := by decide +kernel
theorem dX9_clear_21 : decode cX9_clear 21 = .ok (.iconst 0, 1) := by decide +kernel
theorem dX9_clear_22 : decode cX9_clear 22 = .ok (.putfield 63, 3) := by decide +kernel
theorem dX9_clear_25 : decode cX9_clear 25 = .ok (.iconst 0, 1) := by decide +kernel
theorem dX9_clear_26 : decode cX9_clear 26 = .ok (.istore_n 1, 1) := by decide +kernel
theorem dX9_clear_27 : decode cX9_clear 27 = .ok (.iload_n 1, 1) := by decide +kernel
theorem dX9_clear_28 : decode cX9_clear 28 = .ok (.bipush 7, 2) := by decide +kernel
theorem dX9_clear_30 : decode cX9_clear 30 = .ok (.if_icmp .ge 19, 3) := by decide +kernel
theorem dX9_clear_33 : decode cX9_clear 33 = .ok (.aload_n 0, 1) := by decide +kernel
theorem dX9_clear_34 : decode cX9_clear 34 = .ok (.getfield 17, 3) := by decide +kernel
theorem dX9_clear_37 : decode cX9_clear 37 = .ok (.iload_n 1, 1) := by decide +kernel
theorem dX9_clear_38 : decode cX9_clear 38 = .ok (.aaload, 1) := by decide +kernel
theorem dX9_clear_39 : decode cX9_clear 39 = .ok (.iconst (-1), 1) := by decide +kernel
theorem dX9_clear_40 : decode cX9_clear 40 = .ok (.invokestatic 66, 3) := by decide +kernel
theorem dX9_clear_43 : decode cX9_clear 43 = .ok (.iinc 1 1, 3) := by decide +kernel
theorem dX9_clear_46 : decode cX9_clear 46 = .ok (.goto (-19), 3) := by decide +kernel
theorem dX9_clear_49 : decode cX9_clear 49 = .ok (.iconst 0, 1) := by decide +kernel
theorem dX9_clear_50 : decode cX9_clear 50 = .ok (.istore_n 1, 1) := by decide +kernel
theorem dX9_clear_51 : decode cX9_clear 51 = .ok (.iload_n 1, 1) := by decide +kernel
theorem dX9_clear_52 : decode cX9_clear 52 = .ok (.bipush 6, 2) := by decide +kernel
theorem dX9_clear_54 : decode cX9_clear 54 = .ok (.if_icmp .ge 19, 3) := by decide +kernel
theorem dX9_clear_57 : decode cX9_clear 57 = .ok (.aload_n 0, 1) := by decide +kernel
theorem dX9_clear_58 : decode cX9_clear 58 = .ok (.getfield 45, 3) := by decide +kernel
theorem dX9_clear_61 : decode cX9_clear 61 = .ok (.iload_n 1, 1) := by decide +kernel
theorem dX9_clear_62 : decode cX9_clear 62 = .ok (.aaload, 1) := by decide +kernel
theorem dX9_clear_63 : decode cX9_clear 63 = .ok (.iconst (-1), 1) := by decide +kernel
theorem dX9_clear_64 : decode cX9_clear 64 = .ok (.invokestatic 66, 3) := by decide +kernel
theorem dX9_clear_67 : decode cX9_clear 67 = .ok (.iinc 1 1, 3) := by decide +kernel
theorem dX9_clear_70 : decode cX9_clear 70 = .ok (.goto (-19), 3) := by decide +kernel
theorem dX9_clear_73 : decode cX9_clear 73 = .ok (.aload_n 0, 1) := by decide +kernel
theorem dX9_clear_74 : decode cX9_clear 74 = .ok (.getfield 42, 3) := by decide +kernel
theorem dX9_clear_77 : decode cX9_clear 77 = .ok (.iconst (-1), 1) := by decide +kernel
theorem dX9_clear_78 : decode cX9_clear 78 = .ok (.invokestatic 66, 3) := by decide +kernel
theorem dX9_clear_81 : decode cX9_clear 81 = .ok (.return_, 1) := by decide +kernel
theorem dX9_isSquare_0 : decode cX9_isSquare 0 = .ok (.iload_n 1, 1) := by decide +kernel
theorem dX9_isSquare_1 : decode cX9_isSquare 1 = .ok (.ifCond .lt 15, 3) := by decide +kernel
theorem dX9_isSquare_4 : decode cX9_isSquare 4 = .ok (.iload_n 1, 1) := by decide +kernel
theorem dX9_isSquare_5 : decode cX9_isSquare 5 = .ok (.aload_n 0, 1) := by decide +kernel
theorem dX9_isSquare_6 : decode cX9_isSquare 6 = .ok (.getfield 54, 3) := by decide +kernel
theorem dX9_isSquare_9 : decode cX9_isSquare 9 = .ok (.if_icmp .ge 7, 3) := by decide +kernel
theorem dX9_isSquare_12 : decode cX9_isSquare 12 = .ok (.iconst 1, 1) := by decide +kernel
theorem dX9_isSquare_13 : decode cX9_isSquare 13 = .ok (.goto 4, 3) := by decide +kernel
theorem dX9_isSquare_16 : decode cX9_isSquare 16 = .ok (.iconst 0, 1) := by decide +kernel
theorem dX9_isSquare_17 : decode cX9_isSquare 17 = .ok (.ireturn, 1) := by decide +kernel
theorem dX9_isPerson_0 : decode cX9_isPerson 0 = .ok (.iload_n 1, 1) := by decide +kernel
theorem dX9_isPerson_1 : decode cX9_isPerson 1 = .ok (.ifCond .lt 15, 3) := by decide +kernel
theorem dX9_isPerson_4 : decode cX9_isPerson 4 = .ok (.iload_n 1, 1) := by decide +kernel
theorem dX9_isPerson_5 : decode cX9_isPerson 5 = .ok (.aload_n 0, 1) := by decide +kernel
theorem dX9_isPerson_6 : decode cX9_isPerson 6 = .ok (.getfield 57, 3) := by decide +kernel
theorem dX9_isPerson_9 : decode cX9_isPerson 9 = .ok (.if_icmp .ge 7, 3) := by decide +kernel
theorem dX9_isPerson_12 : decode cX9_isPerson 12 = .ok (.iconst 1, 1) := by decide +kernel
theorem dX9_isPerson_13 : decode cX9_isPerson 13 = .ok (.goto 4, 3) := by decide +kernel
theorem dX9_isPerson_16 : decode cX9_isPerson 16 = .ok (.iconst 0, 1) := by decide +kernel
theorem dX9_isPerson_17 : decode cX9_isPerson 17 = .ok (.ireturn, 1) := by decide +kernel
theorem dX9_areTwoPeople_0 : decode cX9_areTwoPeople 0 = .ok (.aload_n 0, 1) := by decide +kernel
theorem dX9_areTwoPeople_1 : decode cX9_areTwoPeople 1 = .ok (.iload_n 1, 1) := by decide +kernel
theorem dX9_areTwoPeople_2 : decode cX9_areTwoPeople 2 = .ok (.invokevirtual 72, 3) := by decide +kernel
theorem dX9_areTwoPeople_5 : decode cX9_areTwoPeople 5 = .ok (.ifCond .eq 20, 3) := by decide +kernel
theorem dX9_areTwoPeople_8 : decode cX9_areTwoPeople 8 = .ok (.aload_n 0, 1) := by decide +kernel
theorem dX9_areTwoPeople_9 : decode cX9_areTwoPeople 9 = .ok (.iload_n 2, 1) := by decide +kernel
theorem dX9_areTwoPeople_10 : decode cX9_areTwoPeople 10 = .ok (.invokevirtual 72, 3) := by decide +kernel
theorem dX9_areTwoPeople_13 : decode cX9_areTwoPeople 13 = .ok (.ifCond .eq 12, 3) := by decide +kernel
theorem dX9_areTwoPeople_16 : decode cX9_areTwoPeople 16 = .ok (.iload_n 1, 1) := by decide +kernel
theorem dX9_areTwoPeople_17 : decode cX9_areTwoPeople 17 = .ok (.iload_n 2, 1) := by decide +kernel
theorem dX9_areTwoPeople_18 : decode cX9_areTwoPeople 18 = .ok (.if_icmp .eq 7, 3) := by decide +kernel
theorem dX9_areTwoPeople_21 : decode cX9_areTwoPeople 21 = .ok (.iconst 1, 1) := by decide +kernel
theorem dX9_areTwoPeople_22 : decode cX9_areTwoPeople 22 = .ok (.goto 4, 3) := by decide +kernel
theorem dX9_areTwoPeople_25 : decode cX9_areTwoPeople 25 = .ok (.iconst 0, 1) := by decide +kernel
theorem dX9_areTwoPeople_26 : decode cX9_areTwoPeople 26 = .ok (.ireturn, 1) := by decide +kernel
theorem dX9_isDeed_0 : decode cX9_isDeed 0 = .ok (.iload_n 1, 1) := by decide +kernel
theorem dX9_isDeed_1 : decode cX9_isDeed 1 = .ok (.ifCond .lt 15, 3) := by decide +kernel
theorem dX9_isDeed_4 : decode cX9_isDeed 4 = .ok (.iload_n 1, 1) := by decide +kernel
theorem dX9_isDeed_5 : decode cX9_isDeed 5 = .ok (.aload_n 0, 1) := by decide +kernel
theorem dX9_isDeed_6 : decode cX9_isDeed 6 = .ok (.getfield 60, 3) := by decide +kernel
theorem dX9_isDeed_9 : decode cX9_isDeed 9 = .ok (.if_icmp .ge 7, 3) := by decide +kernel
theorem dX9_isDeed_12 : decode cX9_isDeed 12 = .ok (.iconst 1, 1) := by decide +kernel
theorem dX9_isDeed_13 : decode cX9_isDeed 13 = .ok (.goto 4, 3) := by decide +kernel
theorem dX9_isDeed_16 : decode cX9_isDeed 16 = .ok (.iconst 0, 1) := by decide +kernel
theorem dX9_isDeed_17 : decode cX9_isDeed 17 = .ok (.ireturn, 1) := by decide +kernel
theorem dX9_isWord_0 : decode cX9_isWord 0 = .ok (.iload_n 1, 1) := by decide +kernel
theorem dX9_isWord_1 : decode cX9_isWord 1 = .ok (.ifCond .lt 15, 3) := by decide +kernel
theorem dX9_isWord_4 : decode cX9_isWord 4 = .ok (.iload_n 1, 1) := by decide +kernel
theorem dX9_isWord_5 : decode cX9_isWord 5 = .ok (.aload_n 0, 1) := by decide +kernel
theorem dX9_isWord_6 : decode cX9_isWord 6 = .ok (.getfield 63, 3) := by decide +kernel
theorem dX9_isWord_9 : decode cX9_isWord 9 = .ok (.if_icmp .ge 7, 3) := by decide +kernel
theorem dX9_isWord_12 : decode cX9_isWord 12 = .ok (.iconst 1, 1) := by decide +kernel
theorem dX9_isWord_13 : decode cX9_isWord 13 = .ok (.goto 4, 3) := by decide +kernel
theorem dX9_isWord_16 : decode cX9_isWord 16 = .ok (.iconst 0, 1) := by decide +kernel
theorem dX9_isWord_17 : decode cX9_isWord 17 = .ok (.ireturn, 1) := by decide +kernel
theorem dX9_measure_0 : decode cX9_measure 0 = .ok (.iconst 0, 1) := by decide +kernel
theorem dX9_measure_1 : decode cX9_measure 1 = .ok (.istore_n 1, 1) := by decide +kernel
theorem dX9_measure_2 : decode cX9_measure 2 = .ok (.iload_n 1, 1) := by decide +kernel
theorem dX9_measure_3 : decode cX9_measure 3 = .ok (.aload_n 0, 1) := by decide +kernel
theorem dX9_measure_4 : decode cX9_measure 4 = .ok (.getfield 54, 3) := by decide +kernel
theorem dX9_measure_7 : decode cX9_measure 7 = .ok (.if_icmp .ge 50, 3) := by decide +kernel
theorem dX9_measure_10 : decode cX9_measure 10 = .ok (.iconst 0, 1) := by decide +kernel
theorem dX9_measure_11 : decode cX9_measure 11 = .ok (.istore_n 2, 1) := by decide +kernel
theorem dX9_measure_12 : decode cX9_measure 12 = .ok (.iload_n 2, 1) := by decide +kernel
theorem dX9_measure_13 : decode cX9_measure 13 = .ok (.aload_n 0, 1) := by decide +kernel
theorem dX9_measure_14 : decode cX9_measure 14 = .ok (.getfield 54, 3) := by decide +kernel
theorem dX9_measure_17 : decode cX9_measure 17 = .ok (.if_icmp .ge 34, 3) := by decide +kernel
theorem dX9_measure_20 : decode cX9_measure 20 = .ok (.aload_n 0, 1) := by decide +kernel
theorem dX9_measure_21 : decode cX9_measure 21 = .ok (.getfield 20, 3) := by decide +kernel
theorem dX9_measure_24 : decode cX9_measure 24 = .ok (.iload_n 1, 1) := by decide +kernel
theorem dX9_measure_25 : decode cX9_measure 25 = .ok (.aaload, 1) := by decide +kernel
theorem dX9_measure_26 : decode cX9_measure 26 = .ok (.iload_n 2, 1) := by decide +kernel
theorem dX9_measure_27 : decode cX9_measure 27 = .ok (.iload_n 1, 1) := by decide +kernel
theorem dX9_measure_28 : decode cX9_measure 28 = .ok (.iload_n 2, 1) := by decide +kernel
theorem dX9_measure_29 : decode cX9_measure 29 = .ok (.if_icmp .ne 7, 3) := by decide +kernel
theorem dX9_measure_32 : decode cX9_measure 32 = .ok (.iconst 0, 1) := by decide +kernel
theorem dX9_measure_33 : decode cX9_measure 33 = .ok (.goto 11, 3) := by decide +kernel
theorem dX9_measure_36 : decode cX9_measure 36 = .ok (.aload_n 0, 1) := by decide +kernel
theorem dX9_measure_37 : decode cX9_measure 37 = .ok (.getfield 17, 3) := by decide +kernel
theorem dX9_measure_40 : decode cX9_measure 40 = .ok (.iload_n 1, 1) := by decide +kernel
theorem dX9_measure_41 : decode cX9_measure 41 = .ok (.aaload, 1) := by decide +kernel
theorem dX9_measure_42 : decode cX9_measure 42 = .ok (.iload_n 2, 1) := by decide +kernel
theorem dX9_measure_43 : decode cX9_measure 43 = .ok (.iaload, 1) := by decide +kernel
theorem dX9_measure_44 : decode cX9_measure 44 = .ok (.iastore, 1) := by decide +kernel
theorem dX9_measure_45 : decode cX9_measure 45 = .ok (.iinc 2 1, 3) := by decide +kernel
theorem dX9_measure_48 : decode cX9_measure 48 = .ok (.goto (-36), 3) := by decide +kernel
theorem dX9_measure_51 : decode cX9_measure 51 = .ok (.iinc 1 1, 3) := by decide +kernel
theorem dX9_measure_54 : decode cX9_measure 54 = .ok (.goto (-52), 3) := by decide +kernel
theorem dX9_measure_57 : decode cX9_measure 57 = .ok (.iconst 0, 1) := by decide +kernel
theorem dX9_measure_58 : decode cX9_measure 58 = .ok (.istore_n 1, 1) := by decide +kernel
theorem dX9_measure_59 : decode cX9_measure 59 = .ok (.iload_n 1, 1) := by decide +kernel
theorem dX9_measure_60 : decode cX9_measure 60 = .ok (.aload_n 0, 1) := by decide +kernel
theorem dX9_measure_61 : decode cX9_measure 61 = .ok (.getfield 54, 3) := by decide +kernel
theorem dX9_measure_64 : decode cX9_measure 64 = .ok (.if_icmp .ge 48, 3) := by decide +kernel
theorem dX9_measure_67 : decode cX9_measure 67 = .ok (.iconst 0, 1) := by decide +kernel
theorem dX9_measure_68 : decode cX9_measure 68 = .ok (.istore_n 2, 1) := by decide +kernel
theorem dX9_measure_69 : decode cX9_measure 69 = .ok (.iload_n 2, 1) := by decide +kernel
theorem dX9_measure_70 : decode cX9_measure 70 = .ok (.aload_n 0, 1) := by decide +kernel
theorem dX9_measure_71 : decode cX9_measure 71 = .ok (.getfield 54, 3) := by decide +kernel
theorem dX9_measure_74 : decode cX9_measure 74 = .ok (.if_icmp .ge 32, 3) := by decide +kernel
theorem dX9_measure_77 : decode cX9_measure 77 = .ok (.iconst 0, 1) := by decide +kernel
theorem dX9_measure_78 : decode cX9_measure 78 = .ok (.istore_n 3, 1) := by decide +kernel
theorem dX9_measure_79 : decode cX9_measure 79 = .ok (.iload_n 3, 1) := by decide +kernel
theorem dX9_measure_80 : decode cX9_measure 80 = .ok (.aload_n 0, 1) := by decide +kernel
theorem dX9_measure_81 : decode cX9_measure 81 = .ok (.getfield 54, 3) := by decide +kernel
theorem dX9_measure_84 : decode cX9_measure 84 = .ok (.if_icmp .ge 16, 3) := by decide +kernel
theorem dX9_measure_87 : decode cX9_measure 87 = .ok (.aload_n 0, 1) := by decide +kernel
theorem dX9_measure_88 : decode cX9_measure 88 = .ok (.iload_n 2, 1) := by decide +kernel
theorem dX9_measure_89 : decode cX9_measure 89 = .ok (.iload_n 1, 1) := by decide +kernel
theorem dX9_measure_90 : decode cX9_measure 90 = .ok (.iload_n 3, 1) := by decide +kernel
theorem dX9_measure_91 : decode cX9_measure 91 = .ok (.invokevirtual 76, 3) := by decide +kernel
theorem dX9_measure_94 : decode cX9_measure 94 = .ok (.iinc 3 1, 3) := by decide +kernel
theorem dX9_measure_97 : decode cX9_measure 97 = .ok (.goto (-18), 3) := by decide +kernel
theorem dX9_measure_100 : decode cX9_measure 100 = .ok (.iinc 2 1, 3) := by decide +kernel
theorem dX9_measure_103 : decode cX9_measure 103 = .ok (.goto (-34), 3) := by decide +kernel
theorem dX9_measure_106 : decode cX9_measure 106 = .ok (.iinc 1 1, 3) := by decide +kernel
theorem dX9_measure_109 : decode cX9_measure 109 = .ok (.goto (-50), 3) := by decide +kernel
theorem dX9_measure_112 : decode cX9_measure 112 = .ok (.return_, 1) := by decide +kernel
theorem dX9_shorten_0 : decode cX9_shorten 0 = .ok (.aload_n 0, 1) := by decide +kernel
theorem dX9_shorten_1 : decode cX9_shorten 1 = .ok (.getfield 20, 3) := by decide +kernel
theorem dX9_shorten_4 : decode cX9_shorten 4 = .ok (.iload_n 1, 1) := by decide +kernel
theorem dX9_shorten_5 : decode cX9_shorten 5 = .ok (.aaload, 1) := by decide +kernel
theorem dX9_shorten_6 : decode cX9_shorten 6 = .ok (.iload_n 2, 1) := by decide +kernel
theorem dX9_shorten_7 : decode cX9_shorten 7 = .ok (.iaload, 1) := by decide +kernel
theorem dX9_shorten_8 : decode cX9_shorten 8 = .ok (.iconst (-1), 1) := by decide +kernel
theorem dX9_shorten_9 : decode cX9_shorten 9 = .ok (.if_icmp .eq 15, 3) := by decide +kernel
theorem dX9_shorten_12 : decode cX9_shorten 12 = .ok (.aload_n 0, 1) := by decide +kernel
theorem dX9_shorten_13 : decode cX9_shorten 13 = .ok (.getfield 20, 3) := by decide +kernel
theorem dX9_shorten_16 : decode cX9_shorten 16 = .ok (.iload_n 2, 1) := by decide +kernel
theorem dX9_shorten_17 : decode cX9_shorten 17 = .ok (.aaload, 1) := by decide +kernel
theorem dX9_shorten_18 : decode cX9_shorten 18 = .ok (.iload_n 3, 1) := by decide +kernel
theorem dX9_shorten_19 : decode cX9_shorten 19 = .ok (.iaload, 1) := by decide +kernel
theorem dX9_shorten_20 : decode cX9_shorten 20 = .ok (.iconst (-1), 1) := by decide +kernel
theorem dX9_shorten_21 : decode cX9_shorten 21 = .ok (.if_icmp .ne 4, 3) := by decide +kernel
theorem dX9_shorten_24 : decode cX9_shorten 24 = .ok (.return_, 1) := by decide +kernel
theorem dX9_shorten_25 : decode cX9_shorten 25 = .ok (.aload_n 0, 1) := by decide +kernel
theorem dX9_shorten_26 : decode cX9_shorten 26 = .ok (.getfield 20, 3) := by decide +kernel
theorem dX9_shorten_29 : decode cX9_shorten 29 = .ok (.iload_n 1, 1) := by decide +kernel
theorem dX9_shorten_30 : decode cX9_shorten 30 = .ok (.aaload, 1) := by decide +kernel
theorem dX9_shorten_31 : decode cX9_shorten 31 = .ok (.iload_n 2, 1) := by decide +kernel
theorem dX9_shorten_32 : decode cX9_shorten 32 = .ok (.iaload, 1) := by decide +kernel
theorem dX9_shorten_33 : decode cX9_shorten 33 = .ok (.aload_n 0, 1) := by decide +kernel
theorem dX9_shorten_34 : decode cX9_shorten 34 = .ok (.getfield 20, 3) := by decide +kernel
theorem dX9_shorten_37 : decode cX9_shorten 37 = .ok (.iload_n 2, 1) := by decide +kernel
theorem dX9_shorten_38 : decode cX9_shorten 38 = .ok (.aaload, 1) := by decide +kernel
theorem dX9_shorten_39 : decode cX9_shorten 39 = .ok (.iload_n 3, 1) := by decide +kernel
theorem dX9_shorten_40 : decode cX9_shorten 40 = .ok (.iaload, 1) := by decide +kernel
theorem dX9_shorten_41 : decode cX9_shorten 41 = .ok (.iadd, 1) := by decide +kernel
theorem dX9_shorten_42 : decode cX9_shorten 42 = .ok (.istore 4, 2) := by decide +kernel
theorem dX9_shorten_44 : decode cX9_shorten 44 = .ok (.aload_n 0, 1) := by decide +kernel
theorem dX9_shorten_45 : decode cX9_shorten 45 = .ok (.getfield 20, 3) := by decide +kernel
theorem dX9_shorten_48 : decode cX9_shorten 48 = .ok (.iload_n 1, 1) := by decide +kernel
theorem dX9_shorten_49 : decode cX9_shorten 49 = .ok (.aaload, 1) := by decide +kernel
theorem dX9_shorten_50 : decode cX9_shorten 50 = .ok (.iload_n 3, 1) := by decide +kernel
theorem dX9_shorten_51 : decode cX9_shorten 51 = .ok (.iaload, 1) := by decide +kernel
theorem dX9_shorten_52 : decode cX9_shorten 52 = .ok (.iconst (-1), 1) := by decide +kernel
theorem dX9_shorten_53 : decode cX9_shorten 53 = .ok (.if_icmp .eq 16, 3) := by decide +kernel
theorem dX9_shorten_56 : decode cX9_shorten 56 = .ok (.iload 4, 2) := by decide +kernel
theorem dX9_shorten_58 : decode cX9_shorten 58 = .ok (.aload_n 0, 1) := by decide +kernel
theorem dX9_shorten_59 : decode cX9_shorten 59 = .ok (.getfield 20, 3) := by decide +kernel
theorem dX9_shorten_62 : decode cX9_shorten 62 = .ok (.iload_n 1, 1) := by decide +kernel
theorem dX9_shorten_63 : decode cX9_shorten 63 = .ok (.aaload, 1) := by decide +kernel
theorem dX9_shorten_64 : decode cX9_shorten 64 = .ok (.iload_n 3, 1) := by decide +kernel
theorem dX9_shorten_65 : decode cX9_shorten 65 = .ok (.iaload, 1) := by decide +kernel
theorem dX9_shorten_66 : decode cX9_shorten 66 = .ok (.if_icmp .ge 13, 3) := by decide +kernel
theorem dX9_shorten_69 : decode cX9_shorten 69 = .ok (.aload_n 0, 1) := by decide +kernel
theorem dX9_shorten_70 : decode cX9_shorten 70 = .ok (.getfield 20, 3) := by decide +kernel
theorem dX9_shorten_73 : decode cX9_shorten 73 = .ok (.iload_n 1, 1) := by decide +kernel
theorem dX9_shorten_74 : decode cX9_shorten 74 = .ok (.aaload, 1) := by decide +kernel
theorem dX9_shorten_75 : decode cX9_shorten 75 = .ok (.iload_n 3, 1) := by decide +kernel
theorem dX9_shorten_76 : decode cX9_shorten 76 = .ok (.iload 4, 2) := by decide +kernel
theorem dX9_shorten_78 : decode cX9_shorten 78 = .ok (.iastore, 1) := by decide +kernel
theorem dX9_shorten_79 : decode cX9_shorten 79 = .ok (.return_, 1) := by decide +kernel
theorem dX9_between_0 : decode cX9_between 0 = .ok (.aload_n 0, 1) := by decide +kernel
theorem dX9_between_1 : decode cX9_between 1 = .ok (.iload_n 1, 1) := by decide +kernel
theorem dX9_between_2 : decode cX9_between 2 = .ok (.invokevirtual 80, 3) := by decide +kernel
theorem dX9_between_5 : decode cX9_between 5 = .ok (.ifCond .eq 22, 3) := by decide +kernel
theorem dX9_between_8 : decode cX9_between 8 = .ok (.aload_n 0, 1) := by decide +kernel
theorem dX9_between_9 : decode cX9_between 9 = .ok (.iload_n 2, 1) := by decide +kernel
theorem dX9_between_10 : decode cX9_between 10 = .ok (.invokevirtual 80, 3) := by decide +kernel
theorem dX9_between_13 : decode cX9_between 13 = .ok (.ifCond .eq 14, 3) := by decide +kernel
theorem dX9_between_16 : decode cX9_between 16 = .ok (.aload_n 0, 1) := by decide +kernel
theorem dX9_between_17 : decode cX9_between 17 = .ok (.getfield 20, 3) := by decide +kernel
theorem dX9_between_20 : decode cX9_between 20 = .ok (.iload_n 1, 1) := by decide +kernel
theorem dX9_between_21 : decode cX9_between 21 = .ok (.aaload, 1) := by decide +kernel
theorem dX9_between_22 : decode cX9_between 22 = .ok (.iload_n 2, 1) := by decide +kernel
theorem dX9_between_23 : decode cX9_between 23 = .ok (.iaload, 1) := by decide +kernel
theorem dX9_between_24 : decode cX9_between 24 = .ok (.goto 4, 3) := by decide +kernel
theorem dX9_between_27 : decode cX9_between 27 = .ok (.iconst (-1), 1) := by decide +kernel
theorem dX9_between_28 : decode cX9_between 28 = .ok (.ireturn, 1) := by decide +kernel
theorem dX9_squareOf_0 : decode cX9_squareOf 0 = .ok (.aload_n 0, 1) := by decide +kernel
theorem dX9_squareOf_1 : decode cX9_squareOf 1 = .ok (.iload_n 1, 1) := by decide +kernel
theorem dX9_squareOf_2 : decode cX9_squareOf 2 = .ok (.invokevirtual 83, 3) := by decide +kernel
theorem dX9_squareOf_5 : decode cX9_squareOf 5 = .ok (.ifCond .eq 30, 3) := by decide +kernel
theorem dX9_squareOf_8 : decode cX9_squareOf 8 = .ok (.aload_n 0, 1) := by decide +kernel
theorem dX9_squareOf_9 : decode cX9_squareOf 9 = .ok (.aload_n 0, 1) := by decide +kernel
theorem dX9_squareOf_10 : decode cX9_squareOf 10 = .ok (.getfield 30, 3) := by decide +kernel
theorem dX9_squareOf_13 : decode cX9_squareOf 13 = .ok (.iload_n 1, 1) := by decide +kernel
theorem dX9_squareOf_14 : decode cX9_squareOf 14 = .ok (.iaload, 1) := by decide +kernel
theorem dX9_squareOf_15 : decode cX9_squareOf 15 = .ok (.invokevirtual 72, 3) := by decide +kernel
theorem dX9_squareOf_18 : decode cX9_squareOf 18 = .ok (.ifCond .eq 17, 3) := by decide +kernel
theorem dX9_squareOf_21 : decode cX9_squareOf 21 = .ok (.aload_n 0, 1) := by decide +kernel
theorem dX9_squareOf_22 : decode cX9_squareOf 22 = .ok (.getfield 23, 3) := by decide +kernel
theorem dX9_squareOf_25 : decode cX9_squareOf 25 = .ok (.aload_n 0, 1) := by decide +kernel
theorem dX9_squareOf_26 : decode cX9_squareOf 26 = .ok (.getfield 30, 3) := by decide +kernel
theorem dX9_squareOf_29 : decode cX9_squareOf 29 = .ok (.iload_n 1, 1) := by decide +kernel
theorem dX9_squareOf_30 : decode cX9_squareOf 30 = .ok (.iaload, 1) := by decide +kernel
theorem dX9_squareOf_31 : decode cX9_squareOf 31 = .ok (.iaload, 1) := by decide +kernel
theorem dX9_squareOf_32 : decode cX9_squareOf 32 = .ok (.goto 4, 3) := by decide +kernel
theorem dX9_squareOf_35 : decode cX9_squareOf 35 = .ok (.iconst (-1), 1) := by decide +kernel
theorem dX9_squareOf_36 : decode cX9_squareOf 36 = .ok (.ireturn, 1) := by decide +kernel
theorem dX9_worthOf_0 : decode cX9_worthOf 0 = .ok (.iconst 0, 1) := by decide +kernel
theorem dX9_worthOf_1 : decode cX9_worthOf 1 = .ok (.istore_n 2, 1) := by decide +kernel
theorem dX9_worthOf_2 : decode cX9_worthOf 2 = .ok (.iconst 0, 1) := by decide +kernel
theorem dX9_worthOf_3 : decode cX9_worthOf 3 = .ok (.istore_n 3, 1) := by decide +kernel
theorem dX9_worthOf_4 : decode cX9_worthOf 4 = .ok (.iload_n 3, 1) := by decide +kernel
theorem dX9_worthOf_5 : decode cX9_worthOf 5 = .ok (.aload_n 0, 1) := by decide +kernel
theorem dX9_worthOf_6 : decode cX9_worthOf 6 = .ok (.getfield 60, 3) := by decide +kernel
theorem dX9_worthOf_9 : decode cX9_worthOf 9 = .ok (.if_icmp .ge 26, 3) := by decide +kernel
theorem dX9_worthOf_12 : decode cX9_worthOf 12 = .ok (.iload_n 1, 1) := by decide +kernel
theorem dX9_worthOf_13 : decode cX9_worthOf 13 = .ok (.iload_n 3, 1) := by decide +kernel
theorem dX9_worthOf_14 : decode cX9_worthOf 14 = .ok (.ishr, 1) := by decide +kernel
theorem dX9_worthOf_15 : decode cX9_worthOf 15 = .ok (.iconst 1, 1) := by decide +kernel
theorem dX9_worthOf_16 : decode cX9_worthOf 16 = .ok (.iand, 1) := by decide +kernel
theorem dX9_worthOf_17 : decode cX9_worthOf 17 = .ok (.ifCond .eq 12, 3) := by decide +kernel
theorem dX9_worthOf_20 : decode cX9_worthOf 20 = .ok (.iload_n 2, 1) := by decide +kernel
theorem dX9_worthOf_21 : decode cX9_worthOf 21 = .ok (.aload_n 0, 1) := by decide +kernel
theorem dX9_worthOf_22 : decode cX9_worthOf 22 = .ok (.getfield 39, 3) := by decide +kernel
theorem dX9_worthOf_25 : decode cX9_worthOf 25 = .ok (.iload_n 3, 1) := by decide +kernel
theorem dX9_worthOf_26 : decode cX9_worthOf 26 = .ok (.iaload, 1) := by decide +kernel
theorem dX9_worthOf_27 : decode cX9_worthOf 27 = .ok (.iadd, 1) := by decide +kernel
theorem dX9_worthOf_28 : decode cX9_worthOf 28 = .ok (.istore_n 2, 1) := by decide +kernel
theorem dX9_worthOf_29 : decode cX9_worthOf 29 = .ok (.iinc 3 1, 3) := by decide +kernel
theorem dX9_worthOf_32 : decode cX9_worthOf 32 = .ok (.goto (-28), 3) := by decide +kernel
theorem dX9_worthOf_35 : decode cX9_worthOf 35 = .ok (.iload_n 2, 1) := by decide +kernel
theorem dX9_worthOf_36 : decode cX9_worthOf 36 = .ok (.ireturn, 1) := by decide +kernel
theorem dX9_costOf_0 : decode cX9_costOf 0 = .ok (.iconst 0, 1) := by decide +kernel
theorem dX9_costOf_1 : decode cX9_costOf 1 = .ok (.istore_n 2, 1) := by decide +kernel
theorem dX9_costOf_2 : decode cX9_costOf 2 = .ok (.iconst 0, 1) := by decide +kernel
theorem dX9_costOf_3 : decode cX9_costOf 3 = .ok (.istore_n 3, 1) := by decide +kernel
theorem dX9_costOf_4 : decode cX9_costOf 4 = .ok (.iload_n 3, 1) := by decide +kernel
theorem dX9_costOf_5 : decode cX9_costOf 5 = .ok (.aload_n 0, 1) := by decide +kernel
theorem dX9_costOf_6 : decode cX9_costOf 6 = .ok (.getfield 60, 3) := by decide +kernel
theorem dX9_costOf_9 : decode cX9_costOf 9 = .ok (.if_icmp .ge 38, 3) := by decide +kernel
theorem dX9_costOf_12 : decode cX9_costOf 12 = .ok (.iload_n 1, 1) := by decide +kernel
theorem dX9_costOf_13 : decode cX9_costOf 13 = .ok (.iload_n 3, 1) := by decide +kernel
theorem dX9_costOf_14 : decode cX9_costOf 14 = .ok (.ishr, 1) := by decide +kernel
theorem dX9_costOf_15 : decode cX9_costOf 15 = .ok (.iconst 1, 1) := by decide +kernel
theorem dX9_costOf_16 : decode cX9_costOf 16 = .ok (.iand, 1) := by decide +kernel
theorem dX9_costOf_17 : decode cX9_costOf 17 = .ok (.ifCond .eq 24, 3) := by decide +kernel
theorem dX9_costOf_20 : decode cX9_costOf 20 = .ok (.aload_n 0, 1) := by decide +kernel
theorem dX9_costOf_21 : decode cX9_costOf 21 = .ok (.getfield 42, 3) := by decide +kernel
theorem dX9_costOf_24 : decode cX9_costOf 24 = .ok (.iload_n 3, 1) := by decide +kernel
theorem dX9_costOf_25 : decode cX9_costOf 25 = .ok (.iaload, 1) := by decide +kernel
theorem dX9_costOf_26 : decode cX9_costOf 26 = .ok (.iconst (-1), 1) := by decide +kernel
theorem dX9_costOf_27 : decode cX9_costOf 27 = .ok (.if_icmp .ne 5, 3) := by decide +kernel
theorem dX9_costOf_30 : decode cX9_costOf 30 = .ok (.iconst (-1), 1) := by decide +kernel
theorem dX9_costOf_31 : decode cX9_costOf 31 = .ok (.ireturn, 1) := by decide +kernel
theorem dX9_costOf_32 : decode cX9_costOf 32 = .ok (.iload_n 2, 1) := by decide +kernel
theorem dX9_costOf_33 : decode cX9_costOf 33 = .ok (.aload_n 0, 1) := by decide +kernel
theorem dX9_costOf_34 : decode cX9_costOf 34 = .ok (.getfield 42, 3) := by decide +kernel
theorem dX9_costOf_37 : decode cX9_costOf 37 = .ok (.iload_n 3, 1) := by decide +kernel
theorem dX9_costOf_38 : decode cX9_costOf 38 = .ok (.iaload, 1) := by decide +kernel
theorem dX9_costOf_39 : decode cX9_costOf 39 = .ok (.iadd, 1) := by decide +kernel
theorem dX9_costOf_40 : decode cX9_costOf 40 = .ok (.istore_n 2, 1) := by decide +kernel
theorem dX9_costOf_41 : decode cX9_costOf 41 = .ok (.iinc 3 1, 3) := by decide +kernel
theorem dX9_costOf_44 : decode cX9_costOf 44 = .ok (.goto (-40), 3) := by decide +kernel
theorem dX9_costOf_47 : decode cX9_costOf 47 = .ok (.iload_n 2, 1) := by decide +kernel
theorem dX9_costOf_48 : decode cX9_costOf 48 = .ok (.ireturn, 1) := by decide +kernel
theorem dX9_deedsOf_0 : decode cX9_deedsOf 0 = .ok (.iconst 0, 1) := by decide +kernel
theorem dX9_deedsOf_1 : decode cX9_deedsOf 1 = .ok (.istore_n 2, 1) := by decide +kernel
theorem dX9_deedsOf_2 : decode cX9_deedsOf 2 = .ok (.iconst 0, 1) := by decide +kernel
theorem dX9_deedsOf_3 : decode cX9_deedsOf 3 = .ok (.istore_n 3, 1) := by decide +kernel
theorem dX9_deedsOf_4 : decode cX9_deedsOf 4 = .ok (.iload_n 3, 1) := by decide +kernel
theorem dX9_deedsOf_5 : decode cX9_deedsOf 5 = .ok (.aload_n 0, 1) := by decide +kernel
theorem dX9_deedsOf_6 : decode cX9_deedsOf 6 = .ok (.getfield 60, 3) := by decide +kernel
theorem dX9_deedsOf_9 : decode cX9_deedsOf 9 = .ok (.if_icmp .ge 25, 3) := by decide +kernel
theorem dX9_deedsOf_12 : decode cX9_deedsOf 12 = .ok (.aload_n 0, 1) := by decide +kernel
theorem dX9_deedsOf_13 : decode cX9_deedsOf 13 = .ok (.getfield 30, 3) := by decide +kernel
theorem dX9_deedsOf_16 : decode cX9_deedsOf 16 = .ok (.iload_n 3, 1) := by decide +kernel
theorem dX9_deedsOf_17 : decode cX9_deedsOf 17 = .ok (.iaload, 1) := by decide +kernel
theorem dX9_deedsOf_18 : decode cX9_deedsOf 18 = .ok (.iload_n 1, 1) := by decide +kernel
theorem dX9_deedsOf_19 : decode cX9_deedsOf 19 = .ok (.if_icmp .ne 9, 3) := by decide +kernel
theorem dX9_deedsOf_22 : decode cX9_deedsOf 22 = .ok (.iload_n 2, 1) := by decide +kernel
theorem dX9_deedsOf_23 : decode cX9_deedsOf 23 = .ok (.iconst 1, 1) := by decide +kernel
theorem dX9_deedsOf_24 : decode cX9_deedsOf 24 = .ok (.iload_n 3, 1) := by decide +kernel
theorem dX9_deedsOf_25 : decode cX9_deedsOf 25 = .ok (.ishl, 1) := by decide +kernel
theorem dX9_deedsOf_26 : decode cX9_deedsOf 26 = .ok (.ior, 1) := by decide +kernel
theorem dX9_deedsOf_27 : decode cX9_deedsOf 27 = .ok (.istore_n 2, 1) := by decide +kernel
theorem dX9_deedsOf_28 : decode cX9_deedsOf 28 = .ok (.iinc 3 1, 3) := by decide +kernel
theorem dX9_deedsOf_31 : decode cX9_deedsOf 31 = .ok (.goto (-27), 3) := by decide +kernel
theorem dX9_deedsOf_34 : decode cX9_deedsOf 34 = .ok (.iload_n 2, 1) := by decide +kernel
theorem dX9_deedsOf_35 : decode cX9_deedsOf 35 = .ok (.ireturn, 1) := by decide +kernel
theorem dX9_endOf_0 : decode cX9_endOf 0 = .ok (.aload_n 0, 1) := by decide +kernel
theorem dX9_endOf_1 : decode cX9_endOf 1 = .ok (.iload_n 2, 1) := by decide +kernel
theorem dX9_endOf_2 : decode cX9_endOf 2 = .ok (.aload_n 0, 1) := by decide +kernel
theorem dX9_endOf_3 : decode cX9_endOf 3 = .ok (.iload_n 1, 1) := by decide +kernel
theorem dX9_endOf_4 : decode cX9_endOf 4 = .ok (.invokevirtual 86, 3) := by decide +kernel
theorem dX9_endOf_7 : decode cX9_endOf 7 = .ok (.invokevirtual 90, 3) := by decide +kernel
theorem dX9_endOf_10 : decode cX9_endOf 10 = .ok (.istore 4, 2) := by decide +kernel
theorem dX9_endOf_12 : decode cX9_endOf 12 = .ok (.iload 4, 2) := by decide +kernel
theorem dX9_endOf_14 : decode cX9_endOf 14 = .ok (.iconst (-1), 1) := by decide +kernel
theorem dX9_endOf_15 : decode cX9_endOf 15 = .ok (.if_icmp .eq 11, 3) := by decide +kernel
theorem dX9_endOf_18 : decode cX9_endOf 18 = .ok (.aload_n 0, 1) := by decide +kernel
theorem dX9_endOf_19 : decode cX9_endOf 19 = .ok (.iload_n 1, 1) := by decide +kernel
theorem dX9_endOf_20 : decode cX9_endOf 20 = .ok (.invokevirtual 83, 3) := by decide +kernel
theorem dX9_endOf_23 : decode cX9_endOf 23 = .ok (.ifCond .ne 5, 3) := by decide +kernel
theorem dX9_endOf_26 : decode cX9_endOf 26 = .ok (.iconst (-1), 1) := by decide +kernel
theorem dX9_endOf_27 : decode cX9_endOf 27 = .ok (.ireturn, 1) := by decide +kernel
theorem dX9_endOf_28 : decode cX9_endOf 28 = .ok (.iload_n 3, 1) := by decide +kernel
theorem dX9_endOf_29 : decode cX9_endOf 29 = .ok (.iload 4, 2) := by decide +kernel
theorem dX9_endOf_31 : decode cX9_endOf 31 = .ok (.iadd, 1) := by decide +kernel
theorem dX9_endOf_32 : decode cX9_endOf 32 = .ok (.aload_n 0, 1) := by decide +kernel
theorem dX9_endOf_33 : decode cX9_endOf 33 = .ok (.getfield 33, 3) := by decide +kernel
theorem dX9_endOf_36 : decode cX9_endOf 36 = .ok (.iload_n 1, 1) := by decide +kernel
theorem dX9_endOf_37 : decode cX9_endOf 37 = .ok (.iaload, 1) := by decide +kernel
theorem dX9_endOf_38 : decode cX9_endOf 38 = .ok (.iadd, 1) := by decide +kernel
theorem dX9_endOf_39 : decode cX9_endOf 39 = .ok (.istore 5, 2) := by decide +kernel
theorem dX9_endOf_41 : decode cX9_endOf 41 = .ok (.iload 5, 2) := by decide +kernel
theorem dX9_endOf_43 : decode cX9_endOf 43 = .ok (.aload_n 0, 1) := by decide +kernel
theorem dX9_endOf_44 : decode cX9_endOf 44 = .ok (.getfield 36, 3) := by decide +kernel
theorem dX9_endOf_47 : decode cX9_endOf 47 = .ok (.iload_n 1, 1) := by decide +kernel
theorem dX9_endOf_48 : decode cX9_endOf 48 = .ok (.iaload, 1) := by decide +kernel
theorem dX9_endOf_49 : decode cX9_endOf 49 = .ok (.if_icmp .le 7, 3) := by decide +kernel
theorem dX9_endOf_52 : decode cX9_endOf 52 = .ok (.iconst (-1), 1) := by decide +kernel
theorem dX9_endOf_53 : decode cX9_endOf 53 = .ok (.goto 5, 3) := by decide +kernel
theorem dX9_endOf_56 : decode cX9_endOf 56 = .ok (.iload 5, 2) := by decide +kernel
theorem dX9_endOf_58 : decode cX9_endOf 58 = .ok (.ireturn, 1) := by decide +kernel
theorem dX10_init_0 : decode cX10_init 0 = .ok (.aload_n 0, 1) := by decide +kernel
theorem dX10_init_1 : decode cX10_init 1 = .ok (.invokespecial 1, 3) := by decide +kernel
theorem dX10_init_4 : decode cX10_init 4 = .ok (.aload_n 0, 1) := by decide +kernel
theorem dX10_init_5 : decode cX10_init 5 = .ok (.new 7, 3) := by decide +kernel
theorem dX10_init_8 : decode cX10_init 8 = .ok (.dup, 1) := by decide +kernel
theorem dX10_init_9 : decode cX10_init 9 = .ok (.invokespecial 9, 3) := by decide +kernel
theorem dX10_init_12 : decode cX10_init 12 = .ok (.putfield 10, 3) := by decide +kernel
theorem dX10_init_15 : decode cX10_init 15 = .ok (.aload_n 0, 1) := by decide +kernel
theorem dX10_init_16 : decode cX10_init 16 = .ok (.iconst (-1), 1) := by decide +kernel
theorem dX10_init_17 : decode cX10_init 17 = .ok (.putfield 16, 3) := by decide +kernel
theorem dX10_init_20 : decode cX10_init 20 = .ok (.aload_n 0, 1) := by decide +kernel
theorem dX10_init_21 : decode cX10_init 21 = .ok (.new 20, 3) := by decide +kernel
theorem dX10_init_24 : decode cX10_init 24 = .ok (.dup, 1) := by decide +kernel
theorem dX10_init_25 : decode cX10_init 25 = .ok (.invokespecial 22, 3) := by decide +kernel
theorem dX10_init_28 : decode cX10_init 28 = .ok (.putfield 23, 3) := by decide +kernel
theorem dX10_init_31 : decode cX10_init 31 = .ok (.aload_n 0, 1) := by decide +kernel
theorem dX10_init_32 : decode cX10_init 32 = .ok (.new 20, 3) := by decide +kernel

theorem dX11_readReword_62 : decode cX11_readReword 62 = .ok (.getfield 54, 3) := by decide +kernel
theorem dX11_readReword_65 : decode cX11_readReword 65 = .ok (.iconst 5, 1) := by decide +kernel
theorem dX11_readReword_66 : decode cX11_readReword 66 = .ok (.iload_n 1, 1) := by decide +kernel
theorem dX11_readReword_67 : decode cX11_readReword 67 = .ok (.imul, 1) := by decide +kernel
theorem dX11_readReword_68 : decode cX11_readReword 68 = .ok (.iconst 4, 1) := by decide +kernel
theorem dX11_readReword_69 : decode cX11_readReword 69 = .ok (.iadd, 1) := by decide +kernel
theorem dX11_readReword_70 : decode cX11_readReword 70 = .ok (.aload_n 0, 1) := by decide +kernel
theorem dX11_readReword_71 : decode cX11_readReword 71 = .ok (.invokevirtual 156, 3) := by decide +kernel
theorem dX11_readReword_74 : decode cX11_readReword 74 = .ok (.iastore, 1) := by decide +kernel
theorem dX11_readReword_75 : decode cX11_readReword 75 = .ok (.aload_n 0, 1) := by decide +kernel
theorem dX11_readReword_76 : decode cX11_readReword 76 = .ok (.bipush 59, 2) := by decide +kernel
theorem dX11_readReword_78 : decode cX11_readReword 78 = .ok (.invokevirtual 160, 3) := by decide +kernel
theorem dX11_readReword_81 : decode cX11_readReword 81 = .ok (.ireturn, 1) := by decide +kernel
theorem dX11_readTrust_0 : decode cX11_readTrust 0 = .ok (.aload_n 0, 1) := by decide +kernel
theorem dX11_readTrust_1 : decode cX11_readTrust 1 = .ok (.getfield 169, 3) := by decide +kernel
theorem dX11_readTrust_4 : decode cX11_readTrust 4 = .ok (.bipush 12, 2) := by decide +kernel
theorem dX11_readTrust_6 : decode cX11_readTrust 6 = .ok (.if_icmp .ne 9, 3) := by decide +kernel
theorem dX11_readTrust_9 : decode cX11_readTrust 9 = .ok (.aload_n 0, 1) := by decide +kernel
theorem dX11_readTrust_10 : decode cX11_readTrust 10 = .ok (.iconst 3, 1) := by decide +kernel
theorem dX11_readTrust_11 : decode cX11_readTrust 11 = .ok (.invokevirtual 139, 3) := by decide +kernel
theorem dX11_readTrust_14 : decode cX11_readTrust 14 = .ok (.ireturn, 1) := by decide +kernel
theorem dX11_readTrust_15 : decode cX11_readTrust 15 = .ok (.aload_n 0, 1) := by decide +kernel
theorem dX11_readTrust_16 : decode cX11_readTrust 16 = .ok (.invokevirtual 143, 3) := by decide +kernel
theorem dX11_readTrust_19 : decode cX11_readTrust 19 = .ok (.aload_n 0, 1) := by decide +kernel
theorem dX11_readTrust_20 : decode cX11_readTrust 20 = .ok (.iconst 0, 1) := by decide +kernel
theorem dX11_readTrust_21 : decode cX11_readTrust 21 = .ok (.aload_n 0, 1) := by decide +kernel
theorem dX11_readTrust_22 : decode cX11_readTrust 22 = .ok (.getfield 163, 3) := by decide +kernel
theorem dX11_readTrust_25 : decode cX11_readTrust 25 = .ok (.iconst 1, 1) := by decide +kernel
theorem dX11_readTrust_26 : decode cX11_readTrust 26 = .ok (.isub, 1) := by decide +kernel
theorem dX11_readTrust_27 : decode cX11_readTrust 27 = .ok (.invokevirtual 152, 3) := by decide +kernel
theorem dX11_readTrust_30 : decode cX11_readTrust 30 = .ok (.ifCond .ne 5, 3) := by decide +kernel
theorem dX11_readTrust_33 : decode cX11_readTrust 33 = .ok (.iconst 0, 1) := by decide +kernel
theorem dX11_readTrust_34 : decode cX11_readTrust 34 = .ok (.ireturn, 1) := by decide +kernel
theorem dX11_readTrust_35 : decode cX11_readTrust 35 = .ok (.aload_n 0, 1) := by decide +kernel
theorem dX11_readTrust_36 : decode cX11_readTrust 36 = .ok (.invokevirtual 156, 3) := by decide +kernel
theorem dX11_readTrust_39 : decode cX11_readTrust 39 = .ok (.istore_n 1, 1) := by decide +kernel
theorem dX11_readTrust_40 : decode cX11_readTrust 40 = .ok (.aload_n 0, 1) := by decide +kernel
theorem dX11_readTrust_41 : decode cX11_readTrust 41 = .ok (.iconst 0, 1) := by decide +kernel
theorem dX11_readTrust_42 : decode cX11_readTrust 42 = .ok (.aload_n 0, 1) := by decide +kernel
theorem dX11_readTrust_43 : decode cX11_readTrust 43 = .ok (.getfield 163, 3) := by decide +kernel
theorem dX11_readTrust_46 : decode cX11_readTrust 46 = .ok (.iconst 1, 1) := by decide +kernel
theorem dX11_readTrust_47 : decode cX11_readTrust 47 = .ok (.isub, 1) := by decide +kernel
theorem dX11_readTrust_48 : decode cX11_readTrust 48 = .ok (.invokevirtual 152, 3) := by decide +kernel
theorem dX11_readTrust_51 : decode cX11_readTrust 51 = .ok (.ifCond .eq 36, 3) := by decide +kernel
theorem dX11_readTrust_54 : decode cX11_readTrust 54 = .ok (.iload_n 1, 1) := by decide +kernel
theorem dX11_readTrust_55 : decode cX11_readTrust 55 = .ok (.aload_n 0, 1) := by decide +kernel
theorem dX11_readTrust_56 : decode cX11_readTrust 56 = .ok (.getfield 128, 3) := by decide +kernel
theorem dX11_readTrust_59 : decode cX11_readTrust 59 = .ok (.if_icmp .eq 20, 3) := by decide +kernel
theorem dX11_readTrust_62 : decode cX11_readTrust 62 = .ok (.aload_n 0, 1) := by decide +kernel
theorem dX11_readTrust_63 : decode cX11_readTrust 63 = .ok (.getfield 57, 3) := by decide +kernel
theorem dX11_readTrust_66 : decode cX11_readTrust 66 = .ok (.bipush 6, 2) := by decide +kernel
theorem dX11_readTrust_68 : decode cX11_readTrust 68 = .ok (.iload_n 1, 1) := by decide +kernel
theorem dX11_readTrust_69 : decode cX11_readTrust 69 = .ok (.imul, 1) := by decide +kernel
theorem dX11_readTrust_70 : decode cX11_readTrust 70 = .ok (.aload_n 0, 1) := by decide +kernel
theorem dX11_readTrust_71 : decode cX11_readTrust 71 = .ok (.getfield 128, 3) := by decide +kernel
theorem dX11_readTrust_74 : decode cX11_readTrust 74 = .ok (.iadd, 1) := by decide +kernel
theorem dX11_readTrust_75 : decode cX11_readTrust 75 = .ok (.iaload, 1) := by decide +kernel
theorem dX11_readTrust_76 : decode cX11_readTrust 76 = .ok (.ifCond .lt 13, 3) := by decide +kernel
theorem dX11_readTrust_79 : decode cX11_readTrust 79 = .ok (.aload_n 0, 1) := by decide +kernel
theorem dX11_readTrust_80 : decode cX11_readTrust 80 = .ok (.iconst 4, 1) := by decide +kernel
theorem dX11_readTrust_81 : decode cX11_readTrust 81 = .ok (.invokevirtual 139, 3) := by decide +kernel
theorem dX11_readTrust_84 : decode cX11_readTrust 84 = .ok (.ifCond .ne 5, 3) := by decide +kernel
theorem dX11_readTrust_87 : decode cX11_readTrust 87 = .ok (.iconst 0, 1) := by decide +kernel
theorem dX11_readTrust_88 : decode cX11_readTrust 88 = .ok (.ireturn, 1) := by decide +kernel
theorem dX11_readTrust_89 : decode cX11_readTrust 89 = .ok (.aload_n 0, 1) := by decide +kernel
theorem dX11_readTrust_90 : decode cX11_readTrust 90 = .ok (.invokevirtual 156, 3) := by decide +kernel
theorem dX11_readTrust_93 : decode cX11_readTrust 93 = .ok (.istore_n 2, 1) := by decide +kernel
theorem dX11_readTrust_94 : decode cX11_readTrust 94 = .ok (.aload_n 0, 1) := by decide +kernel
theorem dX11_readTrust_95 : decode cX11_readTrust 95 = .ok (.iconst 0, 1) := by decide +kernel
theorem dX11_readTrust_96 : decode cX11_readTrust 96 = .ok (.bipush 10, 2) := by decide +kernel
theorem dX11_readTrust_98 : decode cX11_readTrust 98 = .ok (.invokevirtual 152, 3) := by decide +kernel
theorem dX11_readTrust_101 : decode cX11_readTrust 101 = .ok (.ifCond .ne 5, 3) := by decide +kernel
theorem dX11_readTrust_104 : decode cX11_readTrust 104 = .ok (.iconst 0, 1) := by decide +kernel
theorem dX11_readTrust_105 : decode cX11_readTrust 105 = .ok (.ireturn, 1) := by decide +kernel
theorem dX11_readTrust_106 : decode cX11_readTrust 106 = .ok (.aload_n 0, 1) := by decide +kernel
theorem dX11_readTrust_107 : decode cX11_readTrust 107 = .ok (.getfield 57, 3) := by decide +kernel
theorem dX11_readTrust_110 : decode cX11_readTrust 110 = .ok (.bipush 6, 2) := by decide +kernel
theorem dX11_readTrust_112 : decode cX11_readTrust 112 = .ok (.iload_n 1, 1) := by decide +kernel
theorem dX11_readTrust_113 : decode cX11_readTrust 113 = .ok (.imul, 1) := by decide +kernel
theorem dX11_readTrust_114 : decode cX11_readTrust 114 = .ok (.iload_n 2, 1) := by decide +kernel
theorem dX11_readTrust_115 : decode cX11_readTrust 115 = .ok (.iadd, 1) := by decide +kernel
theorem dX11_readTrust_116 : decode cX11_readTrust 116 = .ok (.aload_n 0, 1) := by decide +kernel
theorem dX11_readTrust_117 : decode cX11_readTrust 117 = .ok (.invokevirtual 156, 3) := by decide +kernel
theorem dX11_readTrust_120 : decode cX11_readTrust 120 = .ok (.iastore, 1) := by decide +kernel
theorem dX11_readTrust_121 : decode cX11_readTrust 121 = .ok (.aload_n 0, 1) := by decide +kernel
theorem dX11_readTrust_122 : decode cX11_readTrust 122 = .ok (.dup, 1) := by decide +kernel
theorem dX11_readTrust_123 : decode cX11_readTrust 123 = .ok (.getfield 169, 3) := by decide +kernel
theorem dX11_readTrust_126 : decode cX11_readTrust 126 = .ok (.iconst 1, 1) := by decide +kernel
theorem dX11_readTrust_127 : decode cX11_readTrust 127 = .ok (.iadd, 1) := by decide +kernel
theorem dX11_readTrust_128 : decode cX11_readTrust 128 = .ok (.putfield 169, 3) := by decide +kernel
theorem dX11_readTrust_131 : decode cX11_readTrust 131 = .ok (.aload_n 0, 1) := by decide +kernel
theorem dX11_readTrust_132 : decode cX11_readTrust 132 = .ok (.bipush 59, 2) := by decide +kernel
theorem dX11_readTrust_134 : decode cX11_readTrust 134 = .ok (.invokevirtual 160, 3) := by decide +kernel
theorem dX11_readTrust_137 : decode cX11_readTrust 137 = .ok (.ireturn, 1) := by decide +kernel
theorem dX11_readOther_0 : decode cX11_readOther 0 = .ok (.aload_n 0, 1) := by decide +kernel
theorem dX11_readOther_1 : decode cX11_readOther 1 = .ok (.getfield 172, 3) := by decide +kernel
theorem dX11_readOther_4 : decode cX11_readOther 4 = .ok (.iconst 4, 1) := by decide +kernel
theorem dX11_readOther_5 : decode cX11_readOther 5 = .ok (.if_icmp .ne 9, 3) := by decide +kernel
theorem dX11_readOther_8 : decode cX11_readOther 8 = .ok (.aload_n 0, 1) := by decide +kernel
theorem dX11_readOther_9 : decode cX11_readOther 9 = .ok (.iconst 3, 1) := by decide +kernel
theorem dX11_readOther_10 : decode cX11_readOther 10 = .ok (.invokevirtual 139, 3) := by decide +kernel
theorem dX11_readOther_13 : decode cX11_readOther 13 = .ok (.ireturn, 1) := by decide +kernel
theorem dX11_readOther_14 : decode cX11_readOther 14 = .ok (.aload_n 0, 1) := by decide +kernel
theorem dX11_readOther_15 : decode cX11_readOther 15 = .ok (.invokevirtual 143, 3) := by decide +kernel
theorem dX11_readOther_18 : decode cX11_readOther 18 = .ok (.aload_n 0, 1) := by decide +kernel
theorem dX11_readOther_19 : decode cX11_readOther 19 = .ok (.iconst 1, 1) := by decide +kernel
theorem dX11_readOther_20 : decode cX11_readOther 20 = .ok (.bipush 63, 2) := by decide +kernel
theorem dX11_readOther_22 : decode cX11_readOther 22 = .ok (.invokevirtual 152, 3) := by decide +kernel
theorem dX11_readOther_25 : decode cX11_readOther 25 = .ok (.ifCond .eq 23, 3) := by decide +kernel
theorem dX11_readOther_28 : decode cX11_readOther 28 = .ok (.aload_n 0, 1) := by decide +kernel
theorem dX11_readOther_29 : decode cX11_readOther 29 = .ok (.getfield 128, 3) := by decide +kernel
theorem dX11_readOther_32 : decode cX11_readOther 32 = .ok (.aload_n 0, 1) := by decide +kernel
theorem dX11_readOther_33 : decode cX11_readOther 33 = .ok (.getfield 166, 3) := by decide +kernel
theorem dX11_readOther_36 : decode cX11_readOther 36 = .ok (.ishr, 1) := by decide +kernel
theorem dX11_readOther_37 : decode cX11_readOther 37 = .ok (.ifCond .eq 13, 3) := by decide +kernel
theorem dX11_readOther_40 : decode cX11_readOther 40 = .ok (.aload_n 0, 1) := by decide +kernel
theorem dX11_readOther_41 : decode cX11_readOther 41 = .ok (.iconst 2, 1) := by decide +kernel
theorem dX11_readOther_42 : decode cX11_readOther 42 = .ok (.invokevirtual 139, 3) := by decide +kernel
theorem dX11_readOther_45 : decode cX11_readOther 45 = .ok (.ifCond .ne 5, 3) := by decide +kernel
theorem dX11_readOther_48 : decode cX11_readOther 48 = .ok (.iconst 0, 1) := by decide +kernel
theorem dX11_readOther_49 : decode cX11_readOther 49 = .ok (.ireturn, 1) := by decide +kernel
theorem dX11_readOther_50 : decode cX11_readOther 50 = .ok (.aload_n 0, 1) := by decide +kernel
theorem dX11_readOther_51 : decode cX11_readOther 51 = .ok (.getfield 60, 3) := by decide +kernel
theorem dX11_readOther_54 : decode cX11_readOther 54 = .ok (.aload_n 0, 1) := by decide +kernel
theorem dX11_readOther_55 : decode cX11_readOther 55 = .ok (.getfield 172, 3) := by decide +kernel
theorem dX11_readOther_58 : decode cX11_readOther 58 = .ok (.aload_n 0, 1) := by decide +kernel
theorem dX11_readOther_59 : decode cX11_readOther 59 = .ok (.invokevirtual 156, 3) := by decide +kernel
theorem dX11_readOther_62 : decode cX11_readOther 62 = .ok (.iastore, 1) := by decide +kernel
theorem dX11_readOther_63 : decode cX11_readOther 63 = .ok (.aload_n 0, 1) := by decide +kernel
theorem dX11_readOther_64 : decode cX11_readOther 64 = .ok (.dup, 1) := by decide +kernel
theorem dX11_readOther_65 : decode cX11_readOther 65 = .ok (.getfield 172, 3) := by decide +kernel
theorem dX11_readOther_68 : decode cX11_readOther 68 = .ok (.iconst 1, 1) := by decide +kernel
theorem dX11_readOther_69 : decode cX11_readOther 69 = .ok (.iadd, 1) := by decide +kernel
theorem dX11_readOther_70 : decode cX11_readOther 70 = .ok (.putfield 172, 3) := by decide +kernel
theorem dX11_readOther_73 : decode cX11_readOther 73 = .ok (.aload_n 0, 1) := by decide +kernel
theorem dX11_readOther_74 : decode cX11_readOther 74 = .ok (.bipush 59, 2) := by decide +kernel
theorem dX11_readOther_76 : decode cX11_readOther 76 = .ok (.invokevirtual 160, 3) := by decide +kernel
theorem dX11_readOther_79 : decode cX11_readOther 79 = .ok (.ireturn, 1) := by decide +kernel
theorem dX11_readTown_0 : decode cX11_readTown 0 = .ok (.aload_n 0, 1) := by decide +kernel
theorem dX11_readTown_1 : decode cX11_readTown 1 = .ok (.iconst 0, 1) := by decide +kernel
theorem dX11_readTown_2 : decode cX11_readTown 2 = .ok (.putfield 119, 3) := by decide +kernel
theorem dX11_readTown_5 : decode cX11_readTown 5 = .ok (.aload_n 0, 1) := by decide +kernel
theorem dX11_readTown_6 : decode cX11_readTown 6 = .ok (.iconst 0, 1) := by decide +kernel
theorem dX11_readTown_7 : decode cX11_readTown 7 = .ok (.putfield 149, 3) := by decide +kernel
theorem dX11_readTown_10 : decode cX11_readTown 10 = .ok (.aload_n 0, 1) := by decide +kernel
theorem dX11_readTown_11 : decode cX11_readTown 11 = .ok (.iconst 0, 1) := by decide +kernel
theorem dX11_readTown_12 : decode cX11_readTown 12 = .ok (.putfield 175, 3) := by decide +kernel
theorem dX11_readTown_15 : decode cX11_readTown 15 = .ok (.aload_n 0, 1) := by decide +kernel
theorem dX11_readTown_16 : decode cX11_readTown 16 = .ok (.iconst 0, 1) := by decide +kernel
theorem dX11_readTown_17 : decode cX11_readTown 17 = .ok (.putfield 146, 3) := by decide +kernel
theorem dX11_readTown_20 : decode cX11_readTown 20 = .ok (.aload_n 0, 1) := by decide +kernel
theorem dX11_readTown_21 : decode cX11_readTown 21 = .ok (.iconst 0, 1) := by decide +kernel
theorem dX11_readTown_22 : decode cX11_readTown 22 = .ok (.putfield 163, 3) := by decide +kernel
theorem dX11_readTown_25 : decode cX11_readTown 25 = .ok (.aload_n 0, 1) := by decide +kernel
theorem dX11_readTown_26 : decode cX11_readTown 26 = .ok (.iconst 0, 1) := by decide +kernel
theorem dX11_readTown_27 : decode cX11_readTown 27 = .ok (.putfield 166, 3) := by decide +kernel
theorem dX11_readTown_30 : decode cX11_readTown 30 = .ok (.aload_n 0, 1) := by decide +kernel
theorem dX11_readTown_31 : decode cX11_readTown 31 = .ok (.iconst 0, 1) := by decide +kernel
theorem dX11_readTown_32 : decode cX11_readTown 32 = .ok (.putfield 169, 3) := by decide +kernel
theorem dX11_readTown_35 : decode cX11_readTown 35 = .ok (.aload_n 0, 1) := by decide +kernel
theorem dX11_readTown_36 : decode cX11_readTown 36 = .ok (.iconst 0, 1) := by decide +kernel
theorem dX11_readTown_37 : decode cX11_readTown 37 = .ok (.putfield 172, 3) := by decide +kernel
theorem dX11_readTown_40 : decode cX11_readTown 40 = .ok (.iconst 0, 1) := by decide +kernel
theorem dX11_readTown_41 : decode cX11_readTown 41 = .ok (.istore_n 1, 1) := by decide +kernel
theorem dX11_readTown_42 : decode cX11_readTown 42 = .ok (.iload_n 1, 1) := by decide +kernel
theorem dX11_readTown_43 : decode cX11_readTown 43 = .ok (.bipush 49, 2) := by decide +kernel
theorem dX11_readTown_45 : decode cX11_readTown 45 = .ok (.if_icmp .ge 16, 3) := by decide +kernel
theorem dX11_readTown_48 : decode cX11_readTown 48 = .ok (.aload_n 0, 1) := by decide +kernel
theorem dX11_readTown_49 : decode cX11_readTown 49 = .ok (.getfield 48, 3) := by decide +kernel
theorem dX11_readTown_52 : decode cX11_readTown 52 = .ok (.iload_n 1, 1) := by decide +kernel
theorem dX11_readTown_53 : decode cX11_readTown 53 = .ok (.iconst 0, 1) := by decide +kernel
theorem dX11_readTown_54 : decode cX11_readTown 54 = .ok (.iastore, 1) := by decide +kernel
theorem dX11_readTown_55 : decode cX11_readTown 55 = .ok (.iinc 1 1, 3) := by decide +kernel
theorem dX11_readTown_58 : decode cX11_readTown 58 = .ok (.goto (-16), 3) := by decide +kernel
theorem dX11_readTown_61 : decode cX11_readTown 61 = .ok (.iconst 0, 1) := by decide +kernel
theorem dX11_readTown_62 : decode cX11_readTown 62 = .ok (.istore_n 1, 1) := by decide +kernel
theorem dX11_readTown_63 : decode cX11_readTown 63 = .ok (.iload_n 1, 1) := by decide +kernel
theorem dX11_readTown_64 : decode cX11_readTown 64 = .ok (.bipush 36, 2) := by decide +kernel
theorem dX11_readTown_66 : decode cX11_readTown 66 = .ok (.if_icmp .ge 16, 3) := by decide +kernel
theorem dX11_readTown_69 : decode cX11_readTown 69 = .ok (.aload_n 0, 1) := by decide +kernel
theorem dX11_readTown_70 : decode cX11_readTown 70 = .ok (.getfield 57, 3) := by decide +kernel
theorem dX11_readTown_73 : decode cX11_readTown 73 = .ok (.iload_n 1, 1) := by decide +kernel
theorem dX11_readTown_74 : decode cX11_readTown 74 = .ok (.iconst (-1), 1) := by decide +kernel
theorem dX11_readTown_75 : decode cX11_readTown 75 = .ok (.iastore, 1) := by decide +kernel
theorem dX11_readTown_76 : decode cX11_readTown 76 = .ok (.iinc 1 1, 3) := by decide +kernel
theorem dX11_readTown_79 : decode cX11_readTown 79 = .ok (.goto (-16), 3) := by decide +kernel
theorem dX11_readTown_82 : decode cX11_readTown 82 = .ok (.aload_n 0, 1) := by decide +kernel
theorem dX11_readTown_83 : decode cX11_readTown 83 = .ok (.invokevirtual 143, 3) := by decide +kernel
theorem dX11_readTown_86 : decode cX11_readTown 86 = .ok (.aload_n 0, 1) := by decide +kernel
theorem dX11_readTown_87 : decode cX11_readTown 87 = .ok (.getfield 125, 3) := by decide +kernel
theorem dX11_readTown_90 : decode cX11_readTown 90 = .ok (.iconst 3, 1) := by decide +kernel
theorem dX11_readTown_91 : decode cX11_readTown 91 = .ok (.if_icmp .ne 5, 3) := by decide +kernel
theorem dX11_readTown_94 : decode cX11_readTown 94 = .ok (.iconst 1, 1) := by decide +kernel
theorem dX11_readTown_95 : decode cX11_readTown 95 = .ok (.ireturn, 1) := by decide +kernel
theorem dX11_readTown_96 : decode cX11_readTown 96 = .ok (.aload_n 0, 1) := by decide +kernel
theorem dX11_readTown_97 : decode cX11_readTown 97 = .ok (.bipush 116, 2) := by decide +kernel
theorem dX11_readTown_99 : decode cX11_readTown 99 = .ok (.invokevirtual 160, 3) := by decide +kernel
theorem dX11_readTown_102 : decode cX11_readTown 102 = .ok (.ifCond .eq 13, 3) := by decide +kernel
theorem dX11_readTown_105 : decode cX11_readTown 105 = .ok (.aload_n 0, 1) := by decide +kernel
theorem dX11_readTown_106 : decode cX11_readTown 106 = .ok (.iconst 1, 1) := by decide +kernel
theorem dX11_readTown_107 : decode cX11_readTown 107 = .ok (.bipush 7, 2) := by decide +kernel
theorem dX11_readTown_109 : decode cX11_readTown 109 = .ok (.invokevirtual 152, 3) := by decide +kernel
theorem dX11_readTown_112 : decode cX11_readTown 112 = .ok (.ifCond .ne 5, 3) := by decide +kernel
theorem dX11_readTown_115 : decode cX11_readTown 115 = .ok (.iconst 0, 1) := by decide +kernel
theorem dX11_readTown_116 : decode cX11_readTown 116 = .ok (.ireturn, 1) := by decide +kernel
theorem dX11_readTown_117 : decode cX11_readTown 117 = .ok (.aload_n 0, 1) := by decide +kernel
theorem dX11_readTown_118 : decode cX11_readTown 118 = .ok (.aload_n 0, 1) := by decide +kernel
theorem dX11_readTown_119 : decode cX11_readTown 119 = .ok (.invokevirtual 156, 3) := by decide +kernel
theorem dX11_readTown_122 : decode cX11_readTown 122 = .ok (.putfield 149, 3) := by decide +kernel
theorem dX11_readTown_125 : decode cX11_readTown 125 = .ok (.aload_n 0, 1) := by decide +kernel
theorem dX11_readTown_126 : decode cX11_readTown 126 = .ok (.iconst 0, 1) := by decide +kernel
theorem dX11_readTown_127 : decode cX11_readTown 127 = .ok (.aload_n 0, 1) := by decide +kernel
theorem dX11_readTown_128 : decode cX11_readTown 128 = .ok (.getfield 149, 3) := by decide +kernel
theorem dX11_readTown_131 : decode cX11_readTown 131 = .ok (.iconst 1, 1) := by decide +kernel
theorem dX11_readTown_132 : decode cX11_readTown 132 = .ok (.isub, 1) := by decide +kernel
theorem dX11_readTown_133 : decode cX11_readTown 133 = .ok (.invokevirtual 152, 3) := by decide +kernel
theorem dX11_readTown_136 : decode cX11_readTown 136 = .ok (.ifCond .ne 5, 3) := by decide +kernel
theorem dX11_readTown_139 : decode cX11_readTown 139 = .ok (.iconst 0, 1) := by decide +kernel
theorem dX11_readTown_140 : decode cX11_readTown 140 = .ok (.ireturn, 1) := by decide +kernel
theorem dX11_readTown_141 : decode cX11_readTown 141 = .ok (.aload_n 0, 1) := by decide +kernel
theorem dX11_readTown_142 : decode cX11_readTown 142 = .ok (.aload_n 0, 1) := by decide +kernel
theorem dX11_readTown_143 : decode cX11_readTown 143 = .ok (.invokevirtual 156, 3) := by decide +kernel
theorem dX11_readTown_146 : decode cX11_readTown 146 = .ok (.putfield 175, 3) := by decide +kernel
theorem dX11_readTown_149 : decode cX11_readTown 149 = .ok (.aload_n 0, 1) := by decide +kernel
theorem dX11_readTown_150 : decode cX11_readTown 150 = .ok (.bipush 59, 2) := by decide +kernel
theorem dX11_readTown_152 : decode cX11_readTown 152 = .ok (.invokevirtual 160, 3) := by decide +kernel
theorem dX11_readTown_155 : decode cX11_readTown 155 = .ok (.ifCond .ne 5, 3) := by decide +kernel
theorem dX11_readTown_158 : decode cX11_readTown 158 = .ok (.iconst 0, 1) := by decide +kernel
theorem dX11_readTown_159 : decode cX11_readTown 159 = .ok (.ireturn, 1) := by decide +kernel
theorem dX11_readTown_160 : decode cX11_readTown 160 = .ok (.iconst 1, 1) := by decide +kernel
theorem dX11_readTown_161 : decode cX11_readTown 161 = .ok (.istore_n 1, 1) := by decide +kernel
theorem dX11_readTown_162 : decode cX11_readTown 162 = .ok (.iload_n 1, 1) := by decide +kernel
theorem dX11_readTown_163 : decode cX11_readTown 163 = .ok (.ifCond .eq 125, 3) := by decide +kernel
theorem dX11_readTown_166 : decode cX11_readTown 166 = .ok (.aload_n 0, 1) := by decide +kernel
theorem dX11_readTown_167 : decode cX11_readTown 167 = .ok (.getfield 125, 3) := by decide +kernel
theorem dX11_readTown_170 : decode cX11_readTown 170 = .ok (.iconst 3, 1) := by decide +kernel
theorem dX11_readTown_171 : decode cX11_readTown 171 = .ok (.if_icmp .eq 117, 3) := by decide +kernel
theorem dX11_readTown_174 : decode cX11_readTown 174 = .ok (.aload_n 0, 1) := by decide +kernel
theorem dX11_readTown_175 : decode cX11_readTown 175 = .ok (.getfield 125, 3) := by decide +kernel
theorem dX11_readTown_178 : decode cX11_readTown 178 = .ok (.iconst 1, 1) := by decide +kernel
theorem dX11_readTown_179 : decode cX11_readTown 179 = .ok (.if_icmp .ne 10, 3) := by decide +kernel
theorem dX11_readTown_182 : decode cX11_readTown 182 = .ok (.aload_n 0, 1) := by decide +kernel
theorem dX11_readTown_183 : decode cX11_readTown 183 = .ok (.getfield 128, 3) := by decide +kernel
theorem dX11_readTown_186 : decode cX11_readTown 186 = .ok (.goto 4, 3) := by decide +kernel
theorem dX11_readTown_189 : decode cX11_readTown 189 = .ok (.iconst 0, 1) := by decide +kernel
theorem dX11_readTown_190 : decode cX11_readTown 190 = .ok (.istore_n 2, 1) := by decide +kernel
theorem dX11_readTown_191 : decode cX11_readTown 191 = .ok (.iload_n 2, 1) := by decide +kernel
theorem dX11_readTown_192 : decode cX11_readTown 192 = .ok (.bipush 119, 2) := by decide +kernel
theorem dX11_readTown_194 : decode cX11_readTown 194 = .ok (.if_icmp .ne 10, 3) := by decide +kernel
theorem dX11_readTown_197 : decode cX11_readTown 197 = .ok (.aload_n 0, 1) := by decide +kernel
theorem dX11_readTown_198 : decode cX11_readTown 198 = .ok (.invokevirtual 178, 3) := by decide +kernel
theorem dX11_readTown_201 : decode cX11_readTown 201 = .ok (.goto 83, 3) := by decide +kernel
theorem dX11_readTown_204 : decode cX11_readTown 204 = .ok (.iload_n 2, 1) := by decide +kernel
theorem dX11_readTown_205 : decode cX11_readTown 205 = .ok (.bipush 112, 2) := by decide +kernel
theorem dX11_readTown_207 : decode cX11_readTown 207 = .ok (.if_icmp .ne 10, 3) := by decide +kernel
theorem dX11_readTown_210 : decode cX11_readTown 210 = .ok (.aload_n 0, 1) := by decide +kernel
theorem dX11_readTown_211 : decode cX11_readTown 211 = .ok (.invokevirtual 182, 3) := by decide +kernel
theorem dX11_readTown_214 : decode cX11_readTown 214 = .ok (.goto 70, 3) := by decide +kernel
theorem dX11_readTown_217 : decode cX11_readTown 217 = .ok (.iload_n 2, 1) := by decide +kernel
theorem dX11_readTown_218 : decode cX11_readTown 218 = .ok (.bipush 100, 2) := by decide +kernel
theorem dX11_readTown_220 : decode cX11_readTown 220 = .ok (.if_icmp .ne 10, 3) := by decide +kernel
theorem dX11_readTown_223 : decode cX11_readTown 223 = .ok (.aload_n 0, 1) := by decide +kernel
theorem dX11_readTown_224 : decode cX11_readTown 224 = .ok (.invokevirtual 185, 3) := by decide +kernel
theorem dX11_readTown_227 : decode cX11_readTown 227 = .ok (.goto 57, 3) := by decide +kernel
theorem dX11_readTown_230 : decode cX11_readTown 230 = .ok (.iload_n 2, 1) := by decide +kernel
theorem dX11_readTown_231 : decode cX11_readTown 231 = .ok (.bipush 114, 2) := by decide +kernel
theorem dX11_readTown_233 : decode cX11_readTown 233 = .ok (.if_icmp .ne 10, 3) := by decide +kernel
theorem dX11_readTown_236 : decode cX11_readTown 236 = .ok (.aload_n 0, 1) := by decide +kernel
theorem dX11_readTown_237 : decode cX11_readTown 237 = .ok (.invokevirtual 188, 3) := by decide +kernel
theorem dX11_readTown_240 : decode cX11_readTown 240 = .ok (.goto 44, 3) := by decide +kernel
theorem dX11_readTown_243 : decode cX11_readTown 243 = .ok (.iload_n 2, 1) := by decide +kernel
theorem dX11_readTown_244 : decode cX11_readTown 244 = .ok (.bipush 113, 2) := by decide +kernel
theorem dX11_readTown_246 : decode cX11_readTown 246 = .ok (.if_icmp .ne 10, 3) := by decide +kernel
theorem dX11_readTown_249 : decode cX11_readTown 249 = .ok (.aload_n 0, 1) := by decide +kernel
theorem dX11_readTown_250 : decode cX11_readTown 250 = .ok (.invokevirtual 191, 3) := by decide +kernel
theorem dX11_readTown_253 : decode cX11_readTown 253 = .ok (.goto 31, 3) := by decide +kernel
theorem dX11_readTown_256 : decode cX11_readTown 256 = .ok (.iload_n 2, 1) := by decide +kernel
theorem dX11_readTown_257 : decode cX11_readTown 257 = .ok (.bipush 111, 2) := by decide +kernel
theorem dX11_readTown_259 : decode cX11_readTown 259 = .ok (.if_icmp .ne 10, 3) := by decide +kernel
theorem dX11_readTown_262 : decode cX11_readTown 262 = .ok (.aload_n 0, 1) := by decide +kernel
theorem dX11_readTown_263 : decode cX11_readTown 263 = .ok (.invokevirtual 194, 3) := by decide +kernel
theorem dX11_readTown_266 : decode cX11_readTown 266 = .ok (.goto 18, 3) := by decide +kernel
theorem dX11_readTown_269 : decode cX11_readTown 269 = .ok (.aload_n 0, 1) := by decide +kernel
theorem dX11_readTown_270 : decode cX11_readTown 270 = .ok (.iload_n 2, 1) := by decide +kernel
theorem dX11_readTown_271 : decode cX11_readTown 271 = .ok (.bipush 116, 2) := by decide +kernel
theorem dX11_readTown_273 : decode cX11_readTown 273 = .ok (.if_icmp .ne 7, 3) := by decide +kernel
theorem dX11_readTown_276 : decode cX11_readTown 276 = .ok (.iconst 3, 1) := by decide +kernel
theorem dX11_readTown_277 : decode cX11_readTown 277 = .ok (.goto 4, 3) := by decide +kernel
theorem dX11_readTown_280 : decode cX11_readTown 280 = .ok (.iconst 1, 1) := by decide +kernel
theorem dX11_readTown_281 : decode cX11_readTown 281 = .ok (.invokevirtual 139, 3) := by decide +kernel
theorem dX11_readTown_284 : decode cX11_readTown 284 = .ok (.istore_n 1, 1) := by decide +kernel
theorem dX11_readTown_285 : decode cX11_readTown 285 = .ok (.goto (-123), 3) := by decide +kernel
theorem dX11_readTown_288 : decode cX11_readTown 288 = .ok (.iload_n 1, 1) := by decide +kernel
theorem dX11_readTown_289 : decode cX11_readTown 289 = .ok (.ireturn, 1) := by decide +kernel
theorem dX11_findFars_0 : decode cX11_findFars 0 = .ok (.iconst 0, 1) := by decide +kernel
theorem dX11_findFars_1 : decode cX11_findFars 1 = .ok (.istore_n 1, 1) := by decide +kernel
theorem dX11_findFars_2 : decode cX11_findFars 2 = .ok (.iload_n 1, 1) := by decide +kernel
theorem dX11_findFars_3 : decode cX11_findFars 3 = .ok (.bipush 49, 2) := by decide +kernel
theorem dX11_findFars_5 : decode cX11_findFars 5 = .ok (.if_icmp .ge 70, 3) := by decide +kernel
theorem dX11_findFars_8 : decode cX11_findFars 8 = .ok (.aload_n 0, 1) := by decide +kernel
theorem dX11_findFars_9 : decode cX11_findFars 9 = .ok (.getfield 20, 3) := by decide +kernel
theorem dX11_findFars_12 : decode cX11_findFars 12 = .ok (.iload_n 1, 1) := by decide +kernel
theorem dX11_findFars_13 : decode cX11_findFars 13 = .ok (.aload_n 0, 1) := by decide +kernel
theorem dX11_findFars_14 : decode cX11_findFars 14 = .ok (.getfield 48, 3) := by decide +kernel
theorem dX11_findFars_17 : decode cX11_findFars 17 = .ok (.iload_n 1, 1) := by decide +kernel
theorem dX11_findFars_18 : decode cX11_findFars 18 = .ok (.iaload, 1) := by decide +kernel
theorem dX11_findFars_19 : decode cX11_findFars 19 = .ok (.ifCond .le 7, 3) := by decide +kernel
theorem dX11_findFars_22 : decode cX11_findFars 22 = .ok (.iconst 1, 1) := by decide +kernel
theorem dX11_findFars_23 : decode cX11_findFars 23 = .ok (.goto 4, 3) := by decide +kernel
theorem dX11_findFars_26 : decode cX11_findFars 26 = .ok (.iconst 0, 1) := by decide +kernel
theorem dX11_findFars_27 : decode cX11_findFars 27 = .ok (.bastore, 1) := by decide +kernel
theorem dX11_findFars_28 : decode cX11_findFars 28 = .ok (.aload_n 0, 1) := by decide +kernel
theorem dX11_findFars_29 : decode cX11_findFars 29 = .ok (.getfield 17, 3) := by decide +kernel
theorem dX11_findFars_32 : decode cX11_findFars 32 = .ok (.iload_n 1, 1) := by decide +kernel
theorem dX11_findFars_33 : decode cX11_findFars 33 = .ok (.iload_n 1, 1) := by decide +kernel
theorem dX11_findFars_34 : decode cX11_findFars 34 = .ok (.bipush 7, 2) := by decide +kernel
theorem dX11_findFars_36 : decode cX11_findFars 36 = .ok (.idiv, 1) := by decide +kernel
theorem dX11_findFars_37 : decode cX11_findFars 37 = .ok (.iload_n 1, 1) := by decide +kernel
theorem dX11_findFars_38 : decode cX11_findFars 38 = .ok (.bipush 7, 2) := by decide +kernel
theorem dX11_findFars_40 : decode cX11_findFars 40 = .ok (.irem, 1) := by decide +kernel
theorem dX11_findFars_41 : decode cX11_findFars 41 = .ok (.if_icmp .ne 7, 3) := by decide +kernel
theorem dX11_findFars_44 : decode cX11_findFars 44 = .ok (.iconst 0, 1) := by decide +kernel
theorem dX11_findFars_45 : decode cX11_findFars 45 = .ok (.goto 23, 3) := by decide +kernel
theorem dX11_findFars_48 : decode cX11_findFars 48 = .ok (.aload_n 0, 1) := by decide +kernel
theorem dX11_findFars_49 : decode cX11_findFars 49 = .ok (.getfield 48, 3) := by decide +kernel
theorem dX11_findFars_52 : decode cX11_findFars 52 = .ok (.iload_n 1, 1) := by decide +kernel
theorem dX11_findFars_53 : decode cX11_findFars 53 = .ok (.iaload, 1) := by decide +kernel
theorem dX11_findFars_54 : decode cX11_findFars 54 = .ok (.ifCond .le 12, 3) := by decide +kernel
theorem dX11_findFars_57 : decode cX11_findFars 57 = .ok (.aload_n 0, 1) := by decide +kernel
theorem dX11_findFars_58 : decode cX11_findFars 58 = .ok (.getfield 48, 3) := by decide +kernel
theorem dX11_findFars_61 : decode cX11_findFars 61 = .ok (.iload_n 1, 1) := by decide +kernel
theorem dX11_findFars_62 : decode cX11_findFars 62 = .ok (.iaload, 1) := by decide +kernel
theorem dX11_findFars_63 : decode cX11_findFars 63 = .ok (.goto 5, 3) := by decide +kernel
theorem dX11_findFars_66 : decode cX11_findFars 66 = .ok (.ldc 135, 2) := by decide +kernel
theorem dX11_findFars_68 : decode cX11_findFars 68 = .ok (.iastore, 1) := by decide +kernel
theorem dX11_findFars_69 : decode cX11_findFars 69 = .ok (.iinc 1 1, 3) := by decide +kernel
theorem dX11_findFars_72 : decode cX11_findFars 72 = .ok (.goto (-70), 3) := by decide +kernel
theorem dX11_findFars_75 : decode cX11_findFars 75 = .ok (.iconst 0, 1) := by decide +kernel
theorem dX11_findFars_76 : decode cX11_findFars 76 = .ok (.istore_n 1, 1) := by decide +kernel
theorem dX11_findFars_77 : decode cX11_findFars 77 = .ok (.iload_n 1, 1) := by decide +kernel
theorem dX11_findFars_78 : decode cX11_findFars 78 = .ok (.bipush 7, 2) := by decide +kernel
theorem dX11_findFars_80 : decode cX11_findFars 80 = .ok (.if_icmp .ge 79, 3) := by decide +kernel
theorem dX11_findFars_83 : decode cX11_findFars 83 = .ok (.iconst 0, 1) := by decide +kernel
theorem dX11_findFars_84 : decode cX11_findFars 84 = .ok (.istore_n 2, 1) := by decide +kernel
theorem dX11_findFars_85 : decode cX11_findFars 85 = .ok (.iload_n 2, 1) := by decide +kernel
theorem dX11_findFars_86 : decode cX11_findFars 86 = .ok (.bipush 49, 2) := by decide +kernel
theorem dX11_findFars_88 : decode cX11_findFars 88 = .ok (.if_icmp .ge 65, 3) := by decide +kernel
theorem dX11_findFars_91 : decode cX11_findFars 91 = .ok (.aload_n 0, 1) := by decide +kernel
theorem dX11_findFars_92 : decode cX11_findFars 92 = .ok (.getfield 17, 3) := by decide +kernel
theorem dX11_findFars_95 : decode cX11_findFars 95 = .ok (.iload_n 2, 1) := by decide +kernel
theorem dX11_findFars_96 : decode cX11_findFars 96 = .ok (.bipush 7, 2) := by decide +kernel
theorem dX11_findFars_98 : decode cX11_findFars 98 = .ok (.idiv, 1) := by decide +kernel
theorem dX11_findFars_99 : decode cX11_findFars 99 = .ok (.bipush 7, 2) := by decide +kernel
theorem dX11_findFars_101 : decode cX11_findFars 101 = .ok (.imul, 1) := by decide +kernel
theorem dX11_findFars_102 : decode cX11_findFars 102 = .ok (.iload_n 1, 1) := by decide +kernel
theorem dX11_findFars_103 : decode cX11_findFars 103 = .ok (.iadd, 1) := by decide +kernel
theorem dX11_findFars_104 : decode cX11_findFars 104 = .ok (.iaload, 1) := by decide +kernel
theorem dX11_findFars_105 : decode cX11_findFars 105 = .ok (.aload_n 0, 1) := by decide +kernel
theorem dX11_findFars_106 : decode cX11_findFars 106 = .ok (.getfield 17, 3) := by decide +kernel
theorem dX11_findFars_109 : decode cX11_findFars 109 = .ok (.bipush 7, 2) := by decide +kernel
theorem dX11_findFars_111 : decode cX11_findFars 111 = .ok (.iload_n 1, 1) := by decide +kernel
theorem dX11_findFars_112 : decode cX11_findFars 112 = .ok (.imul, 1) := by decide +kernel
theorem dX11_findFars_113 : decode cX11_findFars 113 = .ok (.iload_n 2, 1) := by decide +kernel
theorem dX11_findFars_114 : decode cX11_findFars 114 = .ok (.bipush 7, 2) := by decide +kernel
theorem dX11_findFars_116 : decode cX11_findFars 116 = .ok (.irem, 1) := by decide +kernel
theorem dX11_findFars_117 : decode cX11_findFars 117 = .ok (.iadd, 1) := by decide +kernel
theorem dX11_findFars_118 : decode cX11_findFars 118 = .ok (.iaload, 1) := by decide +kernel
theorem dX11_findFars_119 : decode cX11_findFars 119 = .ok (.iadd, 1) := by decide +kernel
theorem dX11_findFars_120 : decode cX11_findFars 120 = .ok (.istore_n 3, 1) := by decide +kernel
theorem dX11_findFars_121 : decode cX11_findFars 121 = .ok (.aload_n 0, 1) := by decide +kernel
theorem dX11_findFars_122 : decode cX11_findFars 122 = .ok (.getfield 17, 3) := by decide +kernel
theorem dX11_findFars_125 : decode cX11_findFars 125 = .ok (.iload_n 2, 1) := by decide +kernel
theorem dX11_findFars_126 : decode cX11_findFars 126 = .ok (.iload_n 3, 1) := by decide +kernel
theorem dX11_findFars_127 : decode cX11_findFars 127 = .ok (.aload_n 0, 1) := by decide +kernel
theorem dX11_findFars_128 : decode cX11_findFars 128 = .ok (.getfield 17, 3) := by decide +kernel
theorem dX11_findFars_131 : decode cX11_findFars 131 = .ok (.iload_n 2, 1) := by decide +kernel
theorem dX11_findFars_132 : decode cX11_findFars 132 = .ok (.iaload, 1) := by decide +kernel
theorem dX11_findFars_133 : decode cX11_findFars 133 = .ok (.if_icmp .ge 7, 3) := by decide +kernel
theorem dX11_findFars_136 : decode cX11_findFars 136 = .ok (.iload_n 3, 1) := by decide +kernel
theorem dX11_findFars_137 : decode cX11_findFars 137 = .ok (.goto 9, 3) := by decide +kernel
theorem dX11_findFars_140 : decode cX11_findFars 140 = .ok (.aload_n 0, 1) := by decide +kernel
theorem dX11_findFars_141 : decode cX11_findFars 141 = .ok (.getfield 17, 3) := by decide +kernel
theorem dX11_findFars_144 : decode cX11_findFars 144 = .ok (.iload_n 2, 1) := by decide +kernel
theorem dX11_findFars_145 : decode cX11_findFars 145 = .ok (.iaload, 1) := by decide +kernel
theorem dX11_findFars_146 : decode cX11_findFars 146 = .ok (.iastore, 1) := by decide +kernel
theorem dX11_findFars_147 : decode cX11_findFars 147 = .ok (.iinc 2 1, 3) := by decide +kernel
theorem dX11_findFars_150 : decode cX11_findFars 150 = .ok (.goto (-65), 3) := by decide +kernel
theorem dX11_findFars_153 : decode cX11_findFars 153 = .ok (.iinc 1 1, 3) := by decide +kernel
theorem dX11_findFars_156 : decode cX11_findFars 156 = .ok (.goto (-79), 3) := by decide +kernel
theorem dX11_findFars_159 : decode cX11_findFars 159 = .ok (.return_, 1) := by decide +kernel
theorem dX11_town_0 : decode cX11_town 0 = .ok (.aload_n 0, 1) := by decide +kernel
theorem dX11_town_1 : decode cX11_town 1 = .ok (.invokevirtual 197, 3) := by decide +kernel
theorem dX11_town_4 : decode cX11_town 4 = .ok (.istore_n 1, 1) := by decide +kernel
theorem dX11_town_5 : decode cX11_town 5 = .ok (.aload_n 0, 1) := by decide +kernel
theorem dX11_town_6 : decode cX11_town 6 = .ok (.iconst 0, 1) := by decide +kernel
theorem dX11_town_7 : decode cX11_town 7 = .ok (.putfield 115, 3) := by decide +kernel
theorem dX11_town_10 : decode cX11_town 10 = .ok (.aload_n 0, 1) := by decide +kernel
theorem dX11_town_11 : decode cX11_town 11 = .ok (.iload_n 1, 1) := by decide +kernel
theorem dX11_town_12 : decode cX11_town 12 = .ok (.ifCond .eq 7, 3) := by decide +kernel
theorem dX11_town_15 : decode cX11_town 15 = .ok (.iconst (-1), 1) := by decide +kernel
theorem dX11_town_16 : decode cX11_town 16 = .ok (.goto 7, 3) := by decide +kernel
theorem dX11_town_19 : decode cX11_town 19 = .ok (.aload_n 0, 1) := by decide +kernel
theorem dX11_town_20 : decode cX11_town 20 = .ok (.getfield 122, 3) := by decide +kernel
theorem dX11_town_23 : decode cX11_town 23 = .ok (.putfield 13, 3) := by decide +kernel
theorem dX11_town_26 : decode cX11_town 26 = .ok (.iload_n 1, 1) := by decide +kernel
theorem dX11_town_27 : decode cX11_town 27 = .ok (.ifCond .ne 11, 3) := by decide +kernel
theorem dX11_town_30 : decode cX11_town 30 = .ok (.bipush (-10), 2) := by decide +kernel
theorem dX11_town_32 : decode cX11_town 32 = .ok (.aload_n 0, 1) := by decide +kernel
theorem dX11_town_33 : decode cX11_town 33 = .ok (.getfield 136, 3) := by decide +kernel
theorem dX11_town_36 : decode cX11_town 36 = .ok (.isub, 1) := by decide +kernel
theorem dX11_town_37 : decode cX11_town 37 = .ok (.ireturn, 1) := by decide +kernel
theorem dX11_town_38 : decode cX11_town 38 = .ok (.aload_n 0, 1) := by decide +kernel
theorem dX11_town_39 : decode cX11_town 39 = .ok (.aload_n 0, 1) := by decide +kernel
theorem dX11_town_40 : decode cX11_town 40 = .ok (.getfield 149, 3) := by decide +kernel
theorem dX11_town_43 : decode cX11_town 43 = .ok (.putfield 99, 3) := by decide +kernel
theorem dX11_town_46 : decode cX11_town 46 = .ok (.aload_n 0, 1) := by decide +kernel
theorem dX11_town_47 : decode cX11_town 47 = .ok (.aload_n 0, 1) := by decide +kernel
theorem dX11_town_48 : decode cX11_town 48 = .ok (.getfield 175, 3) := by decide +kernel
theorem dX11_town_51 : decode cX11_town 51 = .ok (.putfield 200, 3) := by decide +kernel
theorem dX11_town_54 : decode cX11_town 54 = .ok (.aload_n 0, 1) := by decide +kernel
theorem dX11_town_55 : decode cX11_town 55 = .ok (.aload_n 0, 1) := by decide +kernel
theorem dX11_town_56 : decode cX11_town 56 = .ok (.getfield 163, 3) := by decide +kernel
theorem dX11_town_59 : decode cX11_town 59 = .ok (.putfield 106, 3) := by decide +kernel
theorem dX11_town_62 : decode cX11_town 62 = .ok (.aload_n 0, 1) := by decide +kernel
theorem dX11_town_63 : decode cX11_town 63 = .ok (.aload_n 0, 1) := by decide +kernel
theorem dX11_town_64 : decode cX11_town 64 = .ok (.getfield 166, 3) := by decide +kernel
theorem dX11_town_67 : decode cX11_town 67 = .ok (.putfield 109, 3) := by decide +kernel
theorem dX11_town_70 : decode cX11_town 70 = .ok (.aload_n 0, 1) := by decide +kernel
theorem dX11_town_71 : decode cX11_town 71 = .ok (.aload_n 0, 1) := by decide +kernel
theorem dX11_town_72 : decode cX11_town 72 = .ok (.getfield 172, 3) := by decide +kernel
theorem dX11_town_75 : decode cX11_town 75 = .ok (.putfield 203, 3) := by decide +kernel
theorem dX11_town_78 : decode cX11_town 78 = .ok (.aload_n 0, 1) := by decide +kernel
theorem dX11_town_79 : decode cX11_town 79 = .ok (.invokevirtual 206, 3) := by decide +kernel
theorem dX11_town_82 : decode cX11_town 82 = .ok (.iconst 0, 1) := by decide +kernel
theorem dX11_town_83 : decode cX11_town 83 = .ok (.istore_n 2, 1) := by decide +kernel
theorem dX11_town_84 : decode cX11_town 84 = .ok (.iload_n 2, 1) := by decide +kernel
theorem dX11_town_85 : decode cX11_town 85 = .ok (.bipush 6, 2) := by decide +kernel
theorem dX11_town_87 : decode cX11_town 87 = .ok (.if_icmp .ge 39, 3) := by decide +kernel
theorem dX11_town_90 : decode cX11_town 90 = .ok (.aload_n 0, 1) := by decide +kernel
theorem dX11_town_91 : decode cX11_town 91 = .ok (.getfield 24, 3) := by decide +kernel
theorem dX11_town_94 : decode cX11_town 94 = .ok (.iload_n 2, 1) := by decide +kernel
theorem dX11_town_95 : decode cX11_town 95 = .ok (.aload_n 0, 1) := by decide +kernel
theorem dX11_town_96 : decode cX11_town 96 = .ok (.getfield 51, 3) := by decide +kernel
theorem dX11_town_99 : decode cX11_town 99 = .ok (.iconst 2, 1) := by decide +kernel
theorem dX11_town_100 : decode cX11_town 100 = .ok (.iload_n 2, 1) := by decide +kernel
theorem dX11_town_101 : decode cX11_town 101 = .ok (.imul, 1) := by decide +kernel
theorem dX11_town_102 : decode cX11_town 102 = .ok (.iaload, 1) := by decide +kernel
theorem dX11_town_103 : decode cX11_town 103 = .ok (.iastore, 1) := by decide +kernel
theorem dX11_town_104 : decode cX11_town 104 = .ok (.aload_n 0, 1) := by decide +kernel
theorem dX11_town_105 : decode cX11_town 105 = .ok (.getfield 27, 3) := by decide +kernel
theorem dX11_town_108 : decode cX11_town 108 = .ok (.iload_n 2, 1) := by decide +kernel
theorem dX11_town_109 : decode cX11_town 109 = .ok (.aload_n 0, 1) := by decide +kernel
theorem dX11_town_110 : decode cX11_town 110 = .ok (.getfield 51, 3) := by decide +kernel
theorem dX11_town_113 : decode cX11_town 113 = .ok (.iconst 2, 1) := by decide +kernel
theorem dX11_town_114 : decode cX11_town 114 = .ok (.iload_n 2, 1) := by decide +kernel
theorem dX11_town_115 : decode cX11_town 115 = .ok (.imul, 1) := by decide +kernel
theorem dX11_town_116 : decode cX11_town 116 = .ok (.iconst 1, 1) := by decide +kernel
theorem dX11_town_117 : decode cX11_town 117 = .ok (.iadd, 1) := by decide +kernel
theorem dX11_town_118 : decode cX11_town 118 = .ok (.iaload, 1) := by decide +kernel
theorem dX11_town_119 : decode cX11_town 119 = .ok (.iastore, 1) := by decide +kernel
theorem dX11_town_120 : decode cX11_town 120 = .ok (.iinc 2 1, 3) := by decide +kernel
theorem dX11_town_123 : decode cX11_town 123 = .ok (.goto (-39), 3) := by decide +kernel
theorem dX11_town_126 : decode cX11_town 126 = .ok (.iconst 0, 1) := by decide +kernel
theorem dX11_town_127 : decode cX11_town 127 = .ok (.istore_n 2, 1) := by decide +kernel
theorem dX11_town_128 : decode cX11_town 128 = .ok (.iload_n 2, 1) := by decide +kernel
theorem dX11_town_129 : decode cX11_town 129 = .ok (.bipush 30, 2) := by decide +kernel
theorem dX11_town_131 : decode cX11_town 131 = .ok (.if_icmp .ge 21, 3) := by decide +kernel
theorem dX11_town_134 : decode cX11_town 134 = .ok (.aload_n 0, 1) := by decide +kernel
theorem dX11_town_135 : decode cX11_town 135 = .ok (.getfield 30, 3) := by decide +kernel
theorem dX11_town_138 : decode cX11_town 138 = .ok (.iload_n 2, 1) := by decide +kernel
theorem dX11_town_139 : decode cX11_town 139 = .ok (.aload_n 0, 1) := by decide +kernel
theorem dX11_town_140 : decode cX11_town 140 = .ok (.getfield 54, 3) := by decide +kernel
theorem dX11_town_143 : decode cX11_town 143 = .ok (.iload_n 2, 1) := by decide +kernel
theorem dX11_town_144 : decode cX11_town 144 = .ok (.iaload, 1) := by decide +kernel
theorem dX11_town_145 : decode cX11_town 145 = .ok (.iastore, 1) := by decide +kernel
theorem dX11_town_146 : decode cX11_town 146 = .ok (.iinc 2 1, 3) := by decide +kernel
theorem dX11_town_149 : decode cX11_town 149 = .ok (.goto (-21), 3) := by decide +kernel
theorem dX11_town_152 : decode cX11_town 152 = .ok (.iconst 0, 1) := by decide +kernel
theorem dX11_town_153 : decode cX11_town 153 = .ok (.istore_n 2, 1) := by decide +kernel
theorem dX11_town_154 : decode cX11_town 154 = .ok (.iload_n 2, 1) := by decide +kernel
theorem dX11_town_155 : decode cX11_town 155 = .ok (.bipush 36, 2) := by decide +kernel
theorem dX11_town_157 : decode cX11_town 157 = .ok (.if_icmp .ge 21, 3) := by decide +kernel
theorem dX11_town_160 : decode cX11_town 160 = .ok (.aload_n 0, 1) := by decide +kernel
theorem dX11_town_161 : decode cX11_town 161 = .ok (.getfield 33, 3) := by decide +kernel
theorem dX11_town_164 : decode cX11_town 164 = .ok (.iload_n 2, 1) := by decide +kernel
theorem dX11_town_165 : decode cX11_town 165 = .ok (.aload_n 0, 1) := by decide +kernel
theorem dX11_town_166 : decode cX11_town 166 = .ok (.getfield 57, 3) := by decide +kernel
theorem dX11_town_169 : decode cX11_town 169 = .ok (.iload_n 2, 1) := by decide +kernel
theorem dX11_town_170 : decode cX11_town 170 = .ok (.iaload, 1) := by decide +kernel
theorem dX11_town_171 : decode cX11_town 171 = .ok (.iastore, 1) := by decide +kernel
theorem dX11_town_172 : decode cX11_town 172 = .ok (.iinc 2 1, 3) := by decide +kernel
theorem dX11_town_175 : decode cX11_town 175 = .ok (.goto (-21), 3) := by decide +kernel
theorem dX11_town_178 : decode cX11_town 178 = .ok (.iconst 0, 1) := by decide +kernel
theorem dX11_town_179 : decode cX11_town 179 = .ok (.istore_n 2, 1) := by decide +kernel
theorem dX11_town_180 : decode cX11_town 180 = .ok (.iload_n 2, 1) := by decide +kernel
theorem dX11_town_181 : decode cX11_town 181 = .ok (.iconst 4, 1) := by decide +kernel
theorem dX11_town_182 : decode cX11_town 182 = .ok (.if_icmp .ge 21, 3) := by decide +kernel
theorem dX11_town_185 : decode cX11_town 185 = .ok (.aload_n 0, 1) := by decide +kernel
theorem dX11_town_186 : decode cX11_town 186 = .ok (.getfield 36, 3) := by decide +kernel
theorem dX11_town_189 : decode cX11_town 189 = .ok (.iload_n 2, 1) := by decide +kernel
theorem dX11_town_190 : decode cX11_town 190 = .ok (.aload_n 0, 1) := by decide +kernel
theorem dX11_town_191 : decode cX11_town 191 = .ok (.getfield 60, 3) := by decide +kernel
theorem dX11_town_194 : decode cX11_town 194 = .ok (.iload_n 2, 1) := by decide +kernel
theorem dX11_town_195 : decode cX11_town 195 = .ok (.iaload, 1) := by decide +kernel
theorem dX11_town_196 : decode cX11_town 196 = .ok (.iastore, 1) := by decide +kernel
theorem dX11_town_197 : decode cX11_town 197 = .ok (.iinc 2 1, 3) := by decide +kernel
theorem dX11_town_200 : decode cX11_town 200 = .ok (.goto (-20), 3) := by decide +kernel
theorem dX11_town_203 : decode cX11_town 203 = .ok (.aload_n 0, 1) := by decide +kernel
theorem dX11_town_204 : decode cX11_town 204 = .ok (.getfield 39, 3) := by decide +kernel
theorem dX11_town_207 : decode cX11_town 207 = .ok (.iconst 0, 1) := by decide +kernel
theorem dX11_town_208 : decode cX11_town 208 = .ok (.iconst 0, 1) := by decide +kernel
theorem dX11_town_209 : decode cX11_town 209 = .ok (.iastore, 1) := by decide +kernel
theorem dX11_town_210 : decode cX11_town 210 = .ok (.aload_n 0, 1) := by decide +kernel
theorem dX11_town_211 : decode cX11_town 211 = .ok (.getfield 39, 3) := by decide +kernel
theorem dX11_town_214 : decode cX11_town 214 = .ok (.iconst 1, 1) := by decide +kernel
theorem dX11_town_215 : decode cX11_town 215 = .ok (.aload_n 0, 1) := by decide +kernel
theorem dX11_town_216 : decode cX11_town 216 = .ok (.getfield 200, 3) := by decide +kernel
theorem dX11_town_219 : decode cX11_town 219 = .ok (.iastore, 1) := by decide +kernel
theorem dX11_town_220 : decode cX11_town 220 = .ok (.aload_n 0, 1) := by decide +kernel
theorem dX11_town_221 : decode cX11_town 221 = .ok (.getfield 39, 3) := by decide +kernel
theorem dX11_town_224 : decode cX11_town 224 = .ok (.iconst 2, 1) := by decide +kernel
theorem dX11_town_225 : decode cX11_town 225 = .ok (.iconst (-1), 1) := by decide +kernel
theorem dX11_town_226 : decode cX11_town 226 = .ok (.iastore, 1) := by decide +kernel
theorem dX11_town_227 : decode cX11_town 227 = .ok (.iconst 0, 1) := by decide +kernel
theorem dX11_town_228 : decode cX11_town 228 = .ok (.istore_n 2, 1) := by decide +kernel
theorem dX11_town_229 : decode cX11_town 229 = .ok (.iload_n 2, 1) := by decide +kernel
theorem dX11_town_230 : decode cX11_town 230 = .ok (.bipush 6, 2) := by decide +kernel
theorem dX11_town_232 : decode cX11_town 232 = .ok (.if_icmp .ge 18, 3) := by decide +kernel
theorem dX11_town_235 : decode cX11_town 235 = .ok (.aload_n 0, 1) := by decide +kernel
theorem dX11_town_236 : decode cX11_town 236 = .ok (.getfield 39, 3) := by decide +kernel
theorem dX11_town_239 : decode cX11_town 239 = .ok (.iconst 4, 1) := by decide +kernel
theorem dX11_town_240 : decode cX11_town 240 = .ok (.iload_n 2, 1) := by decide +kernel
theorem dX11_town_241 : decode cX11_town 241 = .ok (.iadd, 1) := by decide +kernel
theorem dX11_town_242 : decode cX11_town 242 = .ok (.iconst (-1), 1) := by decide +kernel
theorem dX11_town_243 : decode cX11_town 243 = .ok (.iastore, 1) := by decide +kernel
theorem dX11_town_244 : decode cX11_town 244 = .ok (.iinc 2 1, 3) := by decide +kernel
theorem dX11_town_247 : decode cX11_town 247 = .ok (.goto (-18), 3) := by decide +kernel
theorem dX11_town_250 : decode cX11_town 250 = .ok (.aload_n 0, 1) := by decide +kernel
theorem dX11_town_251 : decode cX11_town 251 = .ok (.iconst 0, 1) := by decide +kernel
theorem dX11_town_252 : decode cX11_town 252 = .ok (.putfield 209, 3) := by decide +kernel
theorem dX11_town_255 : decode cX11_town 255 = .ok (.aload_n 0, 1) := by decide +kernel
theorem dX11_town_256 : decode cX11_town 256 = .ok (.iconst 0, 1) := by decide +kernel
theorem dX11_town_257 : decode cX11_town 257 = .ok (.putfield 212, 3) := by decide +kernel
theorem dX11_town_260 : decode cX11_town 260 = .ok (.aload_n 0, 1) := by decide +kernel
theorem dX11_town_261 : decode cX11_town 261 = .ok (.getfield 93, 3) := by decide +kernel
theorem dX11_town_264 : decode cX11_town 264 = .ok (.iconst 0, 1) := by decide +kernel
theorem dX11_town_265 : decode cX11_town 265 = .ok (.iconst 0, 1) := by decide +kernel
theorem dX11_town_266 : decode cX11_town 266 = .ok (.bastore, 1) := by decide +kernel
theorem dX11_town_267 : decode cX11_town 267 = .ok (.aload_n 0, 1) := by decide +kernel
theorem dX11_town_268 : decode cX11_town 268 = .ok (.getfield 93, 3) := by decide +kernel
theorem dX11_town_271 : decode cX11_town 271 = .ok (.iconst 1, 1) := by decide +kernel
theorem dX11_town_272 : decode cX11_town 272 = .ok (.iconst 0, 1) := by decide +kernel
theorem dX11_town_273 : decode cX11_town 273 = .ok (.bastore, 1) := by decide +kernel
theorem dX11_town_274 : decode cX11_town 274 = .ok (.aload_n 0, 1) := by decide +kernel
theorem dX11_town_275 : decode cX11_town 275 = .ok (.getfield 109, 3) := by decide +kernel
theorem dX11_town_278 : decode cX11_town 278 = .ok (.ireturn, 1) := by decide +kernel
theorem dX11_fault_0 : decode cX11_fault 0 = .ok (.aload_n 0, 1) := by decide +kernel
theorem dX11_fault_1 : decode cX11_fault 1 = .ok (.getfield 13, 3) := by decide +kernel
theorem dX11_fault_4 : decode cX11_fault 4 = .ok (.ireturn, 1) := by decide +kernel
theorem dX11_howOf_0 : decode cX11_howOf 0 = .ok (.aload_n 0, 1) := by decide +kernel
theorem dX11_howOf_1 : decode cX11_howOf 1 = .ok (.getfield 39, 3) := by decide +kernel
theorem dX11_howOf_4 : decode cX11_howOf 4 = .ok (.iconst 4, 1) := by decide +kernel
theorem dX11_howOf_5 : decode cX11_howOf 5 = .ok (.iload_n 1, 1) := by decide +kernel
theorem dX11_howOf_6 : decode cX11_howOf 6 = .ok (.iadd, 1) := by decide +kernel
theorem dX11_howOf_7 : decode cX11_howOf 7 = .ok (.iaload, 1) := by decide +kernel
theorem dX11_howOf_8 : decode cX11_howOf 8 = .ok (.ifCond .lt 7, 3) := by decide +kernel
theorem dX11_howOf_11 : decode cX11_howOf 11 = .ok (.iconst 1, 1) := by decide +kernel
theorem dX11_howOf_12 : decode cX11_howOf 12 = .ok (.goto 38, 3) := by decide +kernel
theorem dX11_howOf_15 : decode cX11_howOf 15 = .ok (.aload_n 0, 1) := by decide +kernel
theorem dX11_howOf_16 : decode cX11_howOf 16 = .ok (.getfield 39, 3) := by decide +kernel
theorem dX11_howOf_19 : decode cX11_howOf 19 = .ok (.iconst 0, 1) := by decide +kernel
theorem dX11_howOf_20 : decode cX11_howOf 20 = .ok (.iaload, 1) := by decide +kernel
theorem dX11_howOf_21 : decode cX11_howOf 21 = .ok (.aload_n 0, 1) := by decide +kernel
theorem dX11_howOf_22 : decode cX11_howOf 22 = .ok (.getfield 30, 3) := by decide +kernel
theorem dX11_howOf_25 : decode cX11_howOf 25 = .ok (.iconst 5, 1) := by decide +kernel
theorem dX11_howOf_26 : decode cX11_howOf 26 = .ok (.iload_n 1, 1) := by decide +kernel
theorem dX11_howOf_27 : decode cX11_howOf 27 = .ok (.imul, 1) := by decide +kernel
theorem dX11_howOf_28 : decode cX11_howOf 28 = .ok (.iconst 2, 1) := by decide +kernel
theorem dX11_howOf_29 : decode cX11_howOf 29 = .ok (.iadd, 1) := by decide +kernel
theorem dX11_howOf_30 : decode cX11_howOf 30 = .ok (.iaload, 1) := by decide +kernel
theorem dX11_howOf_31 : decode cX11_howOf 31 = .ok (.aload_n 0, 1) := by decide +kernel
theorem dX11_howOf_32 : decode cX11_howOf 32 = .ok (.getfield 30, 3) := by decide +kernel
theorem dX11_howOf_35 : decode cX11_howOf 35 = .ok (.iconst 5, 1) := by decide +kernel
theorem dX11_howOf_36 : decode cX11_howOf 36 = .ok (.iload_n 1, 1) := by decide +kernel
theorem dX11_howOf_37 : decode cX11_howOf 37 = .ok (.imul, 1) := by decide +kernel
theorem dX11_howOf_38 : decode cX11_howOf 38 = .ok (.iconst 1, 1) := by decide +kernel
theorem dX11_howOf_39 : decode cX11_howOf 39 = .ok (.iadd, 1) := by decide +kernel
theorem dX11_howOf_40 : decode cX11_howOf 40 = .ok (.iaload, 1) := by decide +kernel
theorem dX11_howOf_41 : decode cX11_howOf 41 = .ok (.isub, 1) := by decide +kernel
theorem dX11_howOf_42 : decode cX11_howOf 42 = .ok (.if_icmp .le 7, 3) := by decide +kernel
theorem dX11_howOf_45 : decode cX11_howOf 45 = .ok (.iconst 2, 1) := by decide +kernel
theorem dX11_howOf_46 : decode cX11_howOf 46 = .ok (.goto 4, 3) := by decide +kernel
theorem dX11_howOf_49 : decode cX11_howOf 49 = .ok (.iconst 0, 1) := by decide +kernel
theorem dX11_howOf_50 : decode cX11_howOf 50 = .ok (.ireturn, 1) := by decide +kernel
theorem dX11_deedsThatAre_0 : decode cX11_deedsThatAre 0 = .ok (.iconst 0, 1) := by decide +kernel
theorem dX11_deedsThatAre_1 : decode cX11_deedsThatAre 1 = .ok (.istore_n 2, 1) := by decide +kernel
theorem dX11_deedsThatAre_2 : decode cX11_deedsThatAre 2 = .ok (.iconst 0, 1) := by decide +kernel
theorem dX11_deedsThatAre_3 : decode cX11_deedsThatAre 3 = .ok (.istore_n 3, 1) := by decide +kernel
theorem dX11_deedsThatAre_4 : decode cX11_deedsThatAre 4 = .ok (.iload_n 3, 1) := by decide +kernel
theorem dX11_deedsThatAre_5 : decode cX11_deedsThatAre 5 = .ok (.aload_n 0, 1) := by decide +kernel
theorem dX11_deedsThatAre_6 : decode cX11_deedsThatAre 6 = .ok (.getfield 109, 3) := by decide +kernel
theorem dX11_deedsThatAre_9 : decode cX11_deedsThatAre 9 = .ok (.if_icmp .ge 28, 3) := by decide +kernel
theorem dX11_deedsThatAre_12 : decode cX11_deedsThatAre 12 = .ok (.iload_n 2, 1) := by decide +kernel
theorem dX11_deedsThatAre_13 : decode cX11_deedsThatAre 13 = .ok (.aload_n 0, 1) := by decide +kernel
theorem dX11_deedsThatAre_14 : decode cX11_deedsThatAre 14 = .ok (.iload_n 3, 1) := by decide +kernel
theorem dX11_deedsThatAre_15 : decode cX11_deedsThatAre 15 = .ok (.invokevirtual 215, 3) := by decide +kernel
theorem dX11_deedsThatAre_18 : decode cX11_deedsThatAre 18 = .ok (.iload_n 1, 1) := by decide +kernel
theorem dX11_deedsThatAre_19 : decode cX11_deedsThatAre 19 = .ok (.if_icmp .ne 9, 3) := by decide +kernel
theorem dX11_deedsThatAre_22 : decode cX11_deedsThatAre 22 = .ok (.iconst 1, 1) := by decide +kernel
theorem dX11_deedsThatAre_23 : decode cX11_deedsThatAre 23 = .ok (.iload_n 3, 1) := by decide +kernel
theorem dX11_deedsThatAre_24 : decode cX11_deedsThatAre 24 = .ok (.ishl, 1) := by decide +kernel
theorem dX11_deedsThatAre_25 : decode cX11_deedsThatAre 25 = .ok (.goto 4, 3) := by decide +kernel
theorem dX11_deedsThatAre_28 : decode cX11_deedsThatAre 28 = .ok (.iconst 0, 1) := by decide +kernel
theorem dX11_deedsThatAre_29 : decode cX11_deedsThatAre 29 = .ok (.ior, 1) := by decide +kernel
theorem dX11_deedsThatAre_30 : decode cX11_deedsThatAre 30 = .ok (.istore_n 2, 1) := by decide +kernel
theorem dX11_deedsThatAre_31 : decode cX11_deedsThatAre 31 = .ok (.iinc 3 1, 3) := by decide +kernel
theorem dX11_deedsThatAre_34 : decode cX11_deedsThatAre 34 = .ok (.goto (-30), 3) := by decide +kernel
theorem dX11_deedsThatAre_37 : decode cX11_deedsThatAre 37 = .ok (.iload_n 2, 1) := by decide +kernel
theorem dX11_deedsThatAre_38 : decode cX11_deedsThatAre 38 = .ok (.ireturn, 1) := by decide +kernel
theorem dX11_worthOf_0 : decode cX11_worthOf 0 = .ok (.iconst 0, 1) := by decide +kernel
theorem dX11_worthOf_1 : decode cX11_worthOf 1 = .ok (.istore_n 2, 1) := by decide +kernel
theorem dX11_worthOf_2 : decode cX11_worthOf 2 = .ok (.iconst 0, 1) := by decide +kernel
theorem dX11_worthOf_3 : decode cX11_worthOf 3 = .ok (.istore_n 3, 1) := by decide +kernel
theorem dX11_worthOf_4 : decode cX11_worthOf 4 = .ok (.iload_n 3, 1) := by decide +kernel
theorem dX11_worthOf_5 : decode cX11_worthOf 5 = .ok (.aload_n 0, 1) := by decide +kernel
theorem dX11_worthOf_6 : decode cX11_worthOf 6 = .ok (.getfield 109, 3) := by decide +kernel
theorem dX11_worthOf_9 : decode cX11_worthOf 9 = .ok (.if_icmp .ge 34, 3) := by decide +kernel
theorem dX11_worthOf_12 : decode cX11_worthOf 12 = .ok (.iload_n 2, 1) := by decide +kernel
theorem dX11_worthOf_13 : decode cX11_worthOf 13 = .ok (.iload_n 1, 1) := by decide +kernel
theorem dX11_worthOf_14 : decode cX11_worthOf 14 = .ok (.iload_n 3, 1) := by decide +kernel
theorem dX11_worthOf_15 : decode cX11_worthOf 15 = .ok (.invokestatic 219, 3) := by decide +kernel
theorem dX11_worthOf_18 : decode cX11_worthOf 18 = .ok (.ifCond .eq 16, 3) := by decide +kernel
theorem dX11_worthOf_21 : decode cX11_worthOf 21 = .ok (.aload_n 0, 1) := by decide +kernel
theorem dX11_worthOf_22 : decode cX11_worthOf 22 = .ok (.getfield 30, 3) := by decide +kernel
theorem dX11_worthOf_25 : decode cX11_worthOf 25 = .ok (.iconst 5, 1) := by decide +kernel
theorem dX11_worthOf_26 : decode cX11_worthOf 26 = .ok (.iload_n 3, 1) := by decide +kernel
theorem dX11_worthOf_27 : decode cX11_worthOf 27 = .ok (.imul, 1) := by decide +kernel
theorem dX11_worthOf_28 : decode cX11_worthOf 28 = .ok (.iconst 3, 1) := by decide +kernel
theorem dX11_worthOf_29 : decode cX11_worthOf 29 = .ok (.iadd, 1) := by decide +kernel
theorem dX11_worthOf_30 : decode cX11_worthOf 30 = .ok (.iaload, 1) := by decide +kernel
theorem dX11_worthOf_31 : decode cX11_worthOf 31 = .ok (.goto 4, 3) := by decide +kernel
theorem dX11_worthOf_34 : decode cX11_worthOf 34 = .ok (.iconst 0, 1) := by decide +kernel
theorem dX11_worthOf_35 : decode cX11_worthOf 35 = .ok (.iadd, 1) := by decide +kernel
theorem dX11_worthOf_36 : decode cX11_worthOf 36 = .ok (.istore_n 2, 1) := by decide +kernel
theorem dX11_worthOf_37 : decode cX11_worthOf 37 = .ok (.iinc 3 1, 3) := by decide +kernel
theorem dX11_worthOf_40 : decode cX11_worthOf 40 = .ok (.goto (-36), 3) := by decide +kernel
theorem dX11_worthOf_43 : decode cX11_worthOf 43 = .ok (.iload_n 2, 1) := by decide +kernel
theorem dX11_worthOf_44 : decode cX11_worthOf 44 = .ok (.ireturn, 1) := by decide +kernel
theorem dX11_told_0 : decode cX11_told 0 = .ok (.iload_n 1, 1) := by decide +kernel
theorem dX11_told_1 : decode cX11_told 1 = .ok (.tableswitch 156 0 12 #[67, 72, 77, 82, 87, 92, 99, 117, 124, 130, 136, 146, 151], 67) := by decide +kernel
theorem dX11_told_68 : decode cX11_told 68 = .ok (.aload_n 0, 1) := by decide +kernel
theorem dX11_told_69 : decode cX11_told 69 = .ok (.getfield 99, 3) := by decide +kernel
theorem dX11_told_72 : decode cX11_told 72 = .ok (.ireturn, 1) := by decide +kernel
theorem dX11_told_73 : decode cX11_told 73 = .ok (.aload_n 0, 1) := by decide +kernel
theorem dX11_told_74 : decode cX11_told 74 = .ok (.getfield 106, 3) := by decide +kernel
theorem dX11_told_77 : decode cX11_told 77 = .ok (.ireturn, 1) := by decide +kernel
theorem dX11_told_78 : decode cX11_told 78 = .ok (.aload_n 0, 1) := by decide +kernel
theorem dX11_told_79 : decode cX11_told 79 = .ok (.getfield 109, 3) := by decide +kernel
theorem dX11_told_82 : decode cX11_told 82 = .ok (.ireturn, 1) := by decide +kernel
theorem dX11_told_83 : decode cX11_told 83 = .ok (.aload_n 0, 1) := by decide +kernel
theorem dX11_told_84 : decode cX11_told 84 = .ok (.getfield 203, 3) := by decide +kernel
theorem dX11_told_87 : decode cX11_told 87 = .ok (.ireturn, 1) := by decide +kernel
theorem dX11_told_88 : decode cX11_told 88 = .ok (.aload_n 0, 1) := by decide +kernel
theorem dX11_told_89 : decode cX11_told 89 = .ok (.getfield 115, 3) := by decide +kernel
theorem dX11_told_92 : decode cX11_told 92 = .ok (.ireturn, 1) := by decide +kernel
theorem dX11_told_93 : decode cX11_told 93 = .ok (.aload_n 0, 1) := by decide +kernel
theorem dX11_told_94 : decode cX11_told 94 = .ok (.getfield 39, 3) := by decide +kernel
theorem dX11_told_97 : decode cX11_told 97 = .ok (.iconst 0, 1) := by decide +kernel
theorem dX11_told_98 : decode cX11_told 98 = .ok (.iaload, 1) := by decide +kernel
theorem dX11_told_99 : decode cX11_told 99 = .ok (.ireturn, 1) := by decide +kernel
theorem dX11_told_100 : decode cX11_told 100 = .ok (.aload_n 0, 1) := by decide +kernel
theorem dX11_told_101 : decode cX11_told 101 = .ok (.getfield 99, 3) := by decide +kernel
theorem dX11_told_104 : decode cX11_told 104 = .ok (.ifCond .ne 7, 3) := by decide +kernel
theorem dX11_told_107 : decode cX11_told 107 = .ok (.iconst (-1), 1) := by decide +kernel
theorem dX11_told_108 : decode cX11_told 108 = .ok (.goto 9, 3) := by decide +kernel
theorem dX11_told_111 : decode cX11_told 111 = .ok (.aload_n 0, 1) := by decide +kernel
theorem dX11_told_112 : decode cX11_told 112 = .ok (.getfield 39, 3) := by decide +kernel
theorem dX11_told_115 : decode cX11_told 115 = .ok (.iconst 1, 1) := by decide +kernel
theorem dX11_told_116 : decode cX11_told 116 = .ok (.iaload, 1) := by decide +kernel
theorem dX11_told_117 : decode cX11_told 117 = .ok (.ireturn, 1) := by decide +kernel
theorem dX11_told_118 : decode cX11_told 118 = .ok (.aload_n 0, 1) := by decide +kernel
theorem dX11_told_119 : decode cX11_told 119 = .ok (.getfield 39, 3) := by decide +kernel
theorem dX11_told_122 : decode cX11_told 122 = .ok (.iconst 2, 1) := by decide +kernel
theorem dX11_told_123 : decode cX11_told 123 = .ok (.iaload, 1) := by decide +kernel
theorem dX11_told_124 : decode cX11_told 124 = .ok (.ireturn, 1) := by decide +kernel
theorem dX11_told_125 : decode cX11_told 125 = .ok (.aload_n 0, 1) := by decide +kernel
theorem dX11_told_126 : decode cX11_told 126 = .ok (.iconst 1, 1) := by decide +kernel
theorem dX11_told_127 : decode cX11_told 127 = .ok (.invokevirtual 222, 3) := by decide +kernel
theorem dX11_told_130 : decode cX11_told 130 = .ok (.ireturn, 1) := by decide +kernel
theorem dX11_told_131 : decode cX11_told 131 = .ok (.aload_n 0, 1) := by decide +kernel
theorem dX11_told_132 : decode cX11_told 132 = .ok (.iconst 2, 1) := by decide +kernel
theorem dX11_told_133 : decode cX11_told 133 = .ok (.invokevirtual 222, 3) := by decide +kernel
theorem dX11_told_136 : decode cX11_told 136 = .ok (.ireturn, 1) := by decide +kernel
theorem dX11_told_137 : decode cX11_told 137 = .ok (.aload_n 0, 1) := by decide +kernel
theorem dX11_told_138 : decode cX11_told 138 = .ok (.aload_n 0, 1) := by decide +kernel
theorem dX11_told_139 : decode cX11_told 139 = .ok (.iconst 1, 1) := by decide +kernel
theorem dX11_told_140 : decode cX11_told 140 = .ok (.invokevirtual 222, 3) := by decide +kernel
theorem dX11_told_143 : decode cX11_told 143 = .ok (.invokevirtual 225, 3) := by decide +kernel
theorem dX11_told_146 : decode cX11_told 146 = .ok (.ireturn, 1) := by decide +kernel
theorem dX11_told_147 : decode cX11_told 147 = .ok (.aload_n 0, 1) := by decide +kernel
theorem dX11_told_148 : decode cX11_told 148 = .ok (.getfield 209, 3) := by decide +kernel
theorem dX11_told_151 : decode cX11_told 151 = .ok (.ireturn, 1) := by decide +kernel
theorem dX11_told_152 : decode cX11_told 152 = .ok (.aload_n 0, 1) := by decide +kernel
theorem dX11_told_153 : decode cX11_told 153 = .ok (.getfield 212, 3) := by decide +kernel
theorem dX11_told_156 : decode cX11_told 156 = .ok (.ireturn, 1) := by decide +kernel
theorem dX11_told_157 : decode cX11_told 157 = .ok (.ldc 114, 2) := by decide +kernel
theorem dX11_told_159 : decode cX11_told 159 = .ok (.ireturn, 1) := by decide +kernel
theorem dX11_farOf_0 : decode cX11_farOf 0 = .ok (.aload_n 0, 1) := by decide +kernel
theorem dX11_farOf_1 : decode cX11_farOf 1 = .ok (.getfield 17, 3) := by decide +kernel
theorem dX11_farOf_4 : decode cX11_farOf 4 = .ok (.bipush 7, 2) := by decide +kernel
theorem dX11_farOf_6 : decode cX11_farOf 6 = .ok (.iload_n 1, 1) := by decide +kernel
theorem dX11_farOf_7 : decode cX11_farOf 7 = .ok (.imul, 1) := by decide +kernel
theorem dX11_farOf_8 : decode cX11_farOf 8 = .ok (.iload_n 2, 1) := by decide +kernel
theorem dX11_farOf_9 : decode cX11_farOf 9 = .ok (.iadd, 1) := by decide +kernel
theorem dX11_farOf_10 : decode cX11_farOf 10 = .ok (.iaload, 1) := by decide +kernel
theorem dX11_farOf_11 : decode cX11_farOf 11 = .ok (.istore_n 3, 1) := by decide +kernel
theorem dX11_farOf_12 : decode cX11_farOf 12 = .ok (.iload_n 3, 1) := by decide +kernel
theorem dX11_farOf_13 : decode cX11_farOf 13 = .ok (.ldc 135, 2) := by decide +kernel
theorem dX11_farOf_15 : decode cX11_farOf 15 = .ok (.if_icmp .lt 7, 3) := by decide +kernel
theorem dX11_farOf_18 : decode cX11_farOf 18 = .ok (.iconst (-1), 1) := by decide +kernel
theorem dX11_farOf_19 : decode cX11_farOf 19 = .ok (.goto 4, 3) := by decide +kernel
theorem dX11_farOf_22 : decode cX11_farOf 22 = .ok (.iload_n 3, 1) := by decide +kernel
theorem dX11_farOf_23 : decode cX11_farOf 23 = .ok (.ireturn, 1) := by decide +kernel
theorem dX11_far_0 : decode cX11_far 0 = .ok (.aload_n 0, 1) := by decide +kernel
theorem dX11_far_1 : decode cX11_far 1 = .ok (.iload_n 1, 1) := by decide +kernel
theorem dX11_far_2 : decode cX11_far 2 = .ok (.invokevirtual 228, 3) := by decide +kernel
theorem dX11_far_5 : decode cX11_far 5 = .ok (.ifCond .eq 20, 3) := by decide +kernel
theorem dX11_far_8 : decode cX11_far 8 = .ok (.aload_n 0, 1) := by decide +kernel
theorem dX11_far_9 : decode cX11_far 9 = .ok (.iload_n 2, 1) := by decide +kernel
theorem dX11_far_10 : decode cX11_far 10 = .ok (.invokevirtual 228, 3) := by decide +kernel
theorem dX11_far_13 : decode cX11_far 13 = .ok (.ifCond .eq 12, 3) := by decide +kernel
theorem dX11_far_16 : decode cX11_far 16 = .ok (.aload_n 0, 1) := by decide +kernel
theorem dX11_far_17 : decode cX11_far 17 = .ok (.iload_n 1, 1) := by decide +kernel
theorem dX11_far_18 : decode cX11_far 18 = .ok (.iload_n 2, 1) := by decide +kernel
theorem dX11_far_19 : decode cX11_far 19 = .ok (.invokevirtual 231, 3) := by decide +kernel
theorem dX11_far_22 : decode cX11_far 22 = .ok (.goto 5, 3) := by decide +kernel
theorem dX11_far_25 : decode cX11_far 25 = .ok (.ldc 235, 2) := by decide +kernel
theorem dX11_far_27 : decode cX11_far 27 = .ok (.ireturn, 1) := by decide +kernel
theorem dX11_person_0 : decode cX11_person 0 = .ok (.aload_n 0, 1) := by decide +kernel
theorem dX11_person_1 : decode cX11_person 1 = .ok (.iload_n 1, 1) := by decide +kernel
theorem dX11_person_2 : decode cX11_person 2 = .ok (.invokevirtual 236, 3) := by decide +kernel
theorem dX11_person_5 : decode cX11_person 5 = .ok (.ifCond .ne 6, 3) := by decide +kernel
theorem dX11_person_8 : decode cX11_person 8 = .ok (.ldc 235, 2) := by decide +kernel
theorem dX11_person_10 : decode cX11_person 10 = .ok (.ireturn, 1) := by decide +kernel
theorem dX11_person_11 : decode cX11_person 11 = .ok (.iload_n 2, 1) := by decide +kernel
theorem dX11_person_12 : decode cX11_person 12 = .ok (.ifCond .ne 12, 3) := by decide +kernel
theorem dX11_person_15 : decode cX11_person 15 = .ok (.aload_n 0, 1) := by decide +kernel
theorem dX11_person_16 : decode cX11_person 16 = .ok (.getfield 24, 3) := by decide +kernel
theorem dX11_person_19 : decode cX11_person 19 = .ok (.iload_n 1, 1) := by decide +kernel
theorem dX11_person_20 : decode cX11_person 20 = .ok (.iaload, 1) := by decide +kernel
theorem dX11_person_21 : decode cX11_person 21 = .ok (.goto 19, 3) := by decide +kernel
theorem dX11_person_24 : decode cX11_person 24 = .ok (.iload_n 2, 1) := by decide +kernel
theorem dX11_person_25 : decode cX11_person 25 = .ok (.iconst 1, 1) := by decide +kernel
theorem dX11_person_26 : decode cX11_person 26 = .ok (.if_icmp .ne 12, 3) := by decide +kernel
theorem dX11_person_29 : decode cX11_person 29 = .ok (.aload_n 0, 1) := by decide +kernel
theorem dX11_person_30 : decode cX11_person 30 = .ok (.getfield 27, 3) := by decide +kernel
theorem dX11_person_33 : decode cX11_person 33 = .ok (.iload_n 1, 1) := by decide +kernel
theorem dX11_person_34 : decode cX11_person 34 = .ok (.iaload, 1) := by decide +kernel
theorem dX11_person_35 : decode cX11_person 35 = .ok (.goto 5, 3) := by decide +kernel
theorem dX11_person_38 : decode cX11_person 38 = .ok (.ldc 114, 2) := by decide +kernel
theorem dX11_person_40 : decode cX11_person 40 = .ok (.ireturn, 1) := by decide +kernel
theorem dX11_deed_0 : decode cX11_deed 0 = .ok (.aload_n 0, 1) := by decide +kernel
theorem dX11_deed_1 : decode cX11_deed 1 = .ok (.iload_n 1, 1) := by decide +kernel
theorem dX11_deed_2 : decode cX11_deed 2 = .ok (.invokevirtual 239, 3) := by decide +kernel
theorem dX11_deed_5 : decode cX11_deed 5 = .ok (.ifCond .ne 6, 3) := by decide +kernel
theorem dX11_deed_8 : decode cX11_deed 8 = .ok (.ldc 235, 2) := by decide +kernel
theorem dX11_deed_10 : decode cX11_deed 10 = .ok (.ireturn, 1) := by decide +kernel
theorem dX11_deed_11 : decode cX11_deed 11 = .ok (.iload_n 2, 1) := by decide +kernel
theorem dX11_deed_12 : decode cX11_deed 12 = .ok (.i2l, 1) := by decide +kernel
theorem dX11_deed_13 : decode cX11_deed 13 = .ok (.lconst 0, 1) := by decide +kernel
theorem dX11_deed_14 : decode cX11_deed 14 = .ok (.ldc2_w 242, 3) := by decide +kernel
theorem dX11_deed_17 : decode cX11_deed 17 = .ok (.invokestatic 102, 3) := by decide +kernel
theorem dX11_deed_20 : decode cX11_deed 20 = .ok (.ifCond .ne 6, 3) := by decide +kernel
theorem dX11_deed_23 : decode cX11_deed 23 = .ok (.ldc 114, 2) := by decide +kernel
theorem dX11_deed_25 : decode cX11_deed 25 = .ok (.ireturn, 1) := by decide +kernel
theorem dX11_deed_26 : decode cX11_deed 26 = .ok (.iload_n 2, 1) := by decide +kernel
theorem dX11_deed_27 : decode cX11_deed 27 = .ok (.iconst 5, 1) := by decide +kernel
theorem dX11_deed_28 : decode cX11_deed 28 = .ok (.if_icmp .ge 16, 3) := by decide +kernel
theorem dX11_deed_31 : decode cX11_deed 31 = .ok (.aload_n 0, 1) := by decide +kernel
theorem dX11_deed_32 : decode cX11_deed 32 = .ok (.getfield 30, 3) := by decide +kernel
theorem dX11_deed_35 : decode cX11_deed 35 = .ok (.iconst 5, 1) := by decide +kernel
theorem dX11_deed_36 : decode cX11_deed 36 = .ok (.iload_n 1, 1) := by decide +kernel
theorem dX11_deed_37 : decode cX11_deed 37 = .ok (.imul, 1) := by decide +kernel
theorem dX11_deed_38 : decode cX11_deed 38 = .ok (.iload_n 2, 1) := by decide +kernel
theorem dX11_deed_39 : decode cX11_deed 39 = .ok (.iadd, 1) := by decide +kernel
theorem dX11_deed_40 : decode cX11_deed 40 = .ok (.iaload, 1) := by decide +kernel
theorem dX11_deed_41 : decode cX11_deed 41 = .ok (.goto 24, 3) := by decide +kernel
theorem dX11_deed_44 : decode cX11_deed 44 = .ok (.iload_n 2, 1) := by decide +kernel
theorem dX11_deed_45 : decode cX11_deed 45 = .ok (.iconst 5, 1) := by decide +kernel
theorem dX11_deed_46 : decode cX11_deed 46 = .ok (.if_icmp .ne 11, 3) := by decide +kernel
theorem dX11_deed_49 : decode cX11_deed 49 = .ok (.aload_n 0, 1) := by decide +kernel
theorem dX11_deed_50 : decode cX11_deed 50 = .ok (.iload_n 1, 1) := by decide +kernel
theorem dX11_deed_51 : decode cX11_deed 51 = .ok (.invokevirtual 215, 3) := by decide +kernel
theorem dX11_deed_54 : decode cX11_deed 54 = .ok (.goto 11, 3) := by decide +kernel
theorem dX11_deed_57 : decode cX11_deed 57 = .ok (.aload_n 0, 1) := by decide +kernel
theorem dX11_deed_58 : decode cX11_deed 58 = .ok (.getfield 39, 3) := by decide +kernel
theorem dX11_deed_61 : decode cX11_deed 61 = .ok (.iconst 4, 1) := by decide +kernel
theorem dX11_deed_62 : decode cX11_deed 62 = .ok (.iload_n 1, 1) := by decide +kernel
theorem dX11_deed_63 : decode cX11_deed 63 = .ok (.iadd, 1) := by decide +kernel
theorem dX11_deed_64 : decode cX11_deed 64 = .ok (.iaload, 1) := by decide +kernel
theorem dX11_deed_65 : decode cX11_deed 65 = .ok (.ireturn, 1) := by decide +kernel
theorem dX11_areTwo_0 : decode cX11_areTwo 0 = .ok (.aload_n 0, 1) := by decide +kernel
theorem dX11_areTwo_1 : decode cX11_areTwo 1 = .ok (.iload_n 1, 1) := by decide +kernel
theorem dX11_areTwo_2 : decode cX11_areTwo 2 = .ok (.invokevirtual 236, 3) := by decide +kernel
theorem dX11_areTwo_5 : decode cX11_areTwo 5 = .ok (.ifCond .eq 20, 3) := by decide +kernel
theorem dX11_areTwo_8 : decode cX11_areTwo 8 = .ok (.aload_n 0, 1) := by decide +kernel
theorem dX11_areTwo_9 : decode cX11_areTwo 9 = .ok (.iload_n 2, 1) := by decide +kernel
theorem dX11_areTwo_10 : decode cX11_areTwo 10 = .ok (.invokevirtual 236, 3) := by decide +kernel
theorem dX11_areTwo_13 : decode cX11_areTwo 13 = .ok (.ifCond .eq 12, 3) := by decide +kernel
theorem dX11_areTwo_16 : decode cX11_areTwo 16 = .ok (.iload_n 1, 1) := by decide +kernel
theorem dX11_areTwo_17 : decode cX11_areTwo 17 = .ok (.iload_n 2, 1) := by decide +kernel
theorem dX11_areTwo_18 : decode cX11_areTwo 18 = .ok (.if_icmp .eq 7, 3) := by decide +kernel
theorem dX11_areTwo_21 : decode cX11_areTwo 21 = .ok (.iconst 1, 1) := by decide +kernel
theorem dX11_areTwo_22 : decode cX11_areTwo 22 = .ok (.goto 4, 3) := by decide +kernel
theorem dX11_areTwo_25 : decode cX11_areTwo 25 = .ok (.iconst 0, 1) := by decide +kernel
theorem dX11_areTwo_26 : decode cX11_areTwo 26 = .ok (.ireturn, 1) := by decide +kernel
theorem dX11_trust_0 : decode cX11_trust 0 = .ok (.aload_n 0, 1) := by decide +kernel
theorem dX11_trust_1 : decode cX11_trust 1 = .ok (.iload_n 1, 1) := by decide +kernel
theorem dX11_trust_2 : decode cX11_trust 2 = .ok (.iload_n 2, 1) := by decide +kernel
theorem dX11_trust_3 : decode cX11_trust 3 = .ok (.invokevirtual 244, 3) := by decide +kernel
theorem dX11_trust_6 : decode cX11_trust 6 = .ok (.ifCond .eq 17, 3) := by decide +kernel
theorem dX11_trust_9 : decode cX11_trust 9 = .ok (.aload_n 0, 1) := by decide +kernel
theorem dX11_trust_10 : decode cX11_trust 10 = .ok (.getfield 33, 3) := by decide +kernel
theorem dX11_trust_13 : decode cX11_trust 13 = .ok (.bipush 6, 2) := by decide +kernel
theorem dX11_trust_15 : decode cX11_trust 15 = .ok (.iload_n 1, 1) := by decide +kernel
theorem dX11_trust_16 : decode cX11_trust 16 = .ok (.imul, 1) := by decide +kernel
theorem dX11_trust_17 : decode cX11_trust 17 = .ok (.iload_n 2, 1) := by decide +kernel
theorem dX11_trust_18 : decode cX11_trust 18 = .ok (.iadd, 1) := by decide +kernel
theorem dX11_trust_19 : decode cX11_trust 19 = .ok (.iaload, 1) := by decide +kernel
theorem dX11_trust_20 : decode cX11_trust 20 = .ok (.goto 5, 3) := by decide +kernel
theorem dX11_trust_23 : decode cX11_trust 23 = .ok (.ldc 235, 2) := by decide +kernel
theorem dX11_trust_25 : decode cX11_trust 25 = .ok (.ireturn, 1) := by decide +kernel
theorem dX11_lets_0 : decode cX11_lets 0 = .ok (.iload_n 1, 1) := by decide +kernel
theorem dX11_lets_1 : decode cX11_lets 1 = .ok (.i2l, 1) := by decide +kernel
theorem dX11_lets_2 : decode cX11_lets 2 = .ok (.lconst 0, 1) := by decide +kernel
theorem dX11_lets_3 : decode cX11_lets 3 = .ok (.aload_n 0, 1) := by decide +kernel
theorem dX11_lets_4 : decode cX11_lets 4 = .ok (.getfield 203, 3) := by decide +kernel
theorem dX11_lets_7 : decode cX11_lets 7 = .ok (.iconst 1, 1) := by decide +kernel
theorem dX11_lets_8 : decode cX11_lets 8 = .ok (.isub, 1) := by decide +kernel
theorem dX11_lets_9 : decode cX11_lets 9 = .ok (.i2l, 1) := by decide +kernel
theorem dX11_lets_10 : decode cX11_lets 10 = .ok (.invokestatic 102, 3) := by decide +kernel
theorem dX11_lets_13 : decode cX11_lets 13 = .ok (.ifCond .eq 12, 3) := by decide +kernel
theorem dX11_lets_16 : decode cX11_lets 16 = .ok (.aload_n 0, 1) := by decide +kernel
theorem dX11_lets_17 : decode cX11_lets 17 = .ok (.getfield 36, 3) := by decide +kernel
theorem dX11_lets_20 : decode cX11_lets 20 = .ok (.iload_n 1, 1) := by decide +kernel
theorem dX11_lets_21 : decode cX11_lets 21 = .ok (.iaload, 1) := by decide +kernel
theorem dX11_lets_22 : decode cX11_lets 22 = .ok (.goto 5, 3) := by decide +kernel
theorem dX11_lets_25 : decode cX11_lets 25 = .ok (.ldc 235, 2) := by decide +kernel
theorem dX11_lets_27 : decode cX11_lets 27 = .ok (.ireturn, 1) := by decide +kernel
theorem dX11_placeOf_0 : decode cX11_placeOf 0 = .ok (.aload_n 0, 1) := by decide +kernel
theorem dX11_placeOf_1 : decode cX11_placeOf 1 = .ok (.getfield 24, 3) := by decide +kernel
theorem dX11_placeOf_4 : decode cX11_placeOf 4 = .ok (.aload_n 0, 1) := by decide +kernel
theorem dX11_placeOf_5 : decode cX11_placeOf 5 = .ok (.getfield 30, 3) := by decide +kernel
theorem dX11_placeOf_8 : decode cX11_placeOf 8 = .ok (.iconst 5, 1) := by decide +kernel
theorem dX11_placeOf_9 : decode cX11_placeOf 9 = .ok (.iload_n 1, 1) := by decide +kernel
theorem dX11_placeOf_10 : decode cX11_placeOf 10 = .ok (.imul, 1) := by decide +kernel
theorem dX11_placeOf_11 : decode cX11_placeOf 11 = .ok (.iaload, 1) := by decide +kernel
theorem dX11_placeOf_12 : decode cX11_placeOf 12 = .ok (.iaload, 1) := by decide +kernel
theorem dX11_placeOf_13 : decode cX11_placeOf 13 = .ok (.ireturn, 1) := by decide +kernel
theorem dX11_lend_0 : decode cX11_lend 0 = .ok (.aload_n 0, 1) := by decide +kernel
theorem dX11_lend_1 : decode cX11_lend 1 = .ok (.iload_n 1, 1) := by decide +kernel
theorem dX11_lend_2 : decode cX11_lend 2 = .ok (.invokevirtual 236, 3) := by decide +kernel
theorem dX11_lend_5 : decode cX11_lend 5 = .ok (.ifCond .ne 6, 3) := by decide +kernel
theorem dX11_lend_8 : decode cX11_lend 8 = .ok (.ldc 235, 2) := by decide +kernel
theorem dX11_lend_10 : decode cX11_lend 10 = .ok (.ireturn, 1) := by decide +kernel
theorem dX11_lend_11 : decode cX11_lend 11 = .ok (.aload_n 0, 1) := by decide +kernel
theorem dX11_lend_12 : decode cX11_lend 12 = .ok (.aload_n 0, 1) := by decide +kernel
theorem dX11_lend_13 : decode cX11_lend 13 = .ok (.getfield 39, 3) := by decide +kernel
theorem dX11_lend_16 : decode cX11_lend 16 = .ok (.iconst 1, 1) := by decide +kernel
theorem dX11_lend_17 : decode cX11_lend 17 = .ok (.iaload, 1) := by decide +kernel
theorem dX11_lend_18 : decode cX11_lend 18 = .ok (.aload_n 0, 1) := by decide +kernel
theorem dX11_lend_19 : decode cX11_lend 19 = .ok (.getfield 24, 3) := by decide +kernel
theorem dX11_lend_22 : decode cX11_lend 22 = .ok (.iload_n 1, 1) := by decide +kernel
theorem dX11_lend_23 : decode cX11_lend 23 = .ok (.iaload, 1) := by decide +kernel
theorem dX11_lend_24 : decode cX11_lend 24 = .ok (.invokevirtual 231, 3) := by decide +kernel
theorem dX11_lend_27 : decode cX11_lend 27 = .ok (.istore_n 2, 1) := by decide +kernel
theorem dX11_lend_28 : decode cX11_lend 28 = .ok (.iload_n 2, 1) := by decide +kernel
theorem dX11_lend_29 : decode cX11_lend 29 = .ok (.ifCond .ge 6, 3) := by decide +kernel
theorem dX11_lend_32 : decode cX11_lend 32 = .ok (.ldc 247, 2) := by decide +kernel
theorem dX11_lend_34 : decode cX11_lend 34 = .ok (.ireturn, 1) := by decide +kernel
theorem dX11_lend_35 : decode cX11_lend 35 = .ok (.aload_n 0, 1) := by decide +kernel
theorem dX11_lend_36 : decode cX11_lend 36 = .ok (.getfield 39, 3) := by decide +kernel
theorem dX11_lend_39 : decode cX11_lend 39 = .ok (.iconst 0, 1) := by decide +kernel
theorem dX11_lend_40 : decode cX11_lend 40 = .ok (.iaload, 1) := by decide +kernel
theorem dX11_lend_41 : decode cX11_lend 41 = .ok (.ldc 248, 2) := by decide +kernel
theorem dX11_lend_43 : decode cX11_lend 43 = .ok (.if_icmp .le 6, 3) := by decide +kernel
theorem dX11_lend_46 : decode cX11_lend 46 = .ok (.ldc 118, 2) := by decide +kernel
theorem dX11_lend_48 : decode cX11_lend 48 = .ok (.ireturn, 1) := by decide +kernel
theorem dX11_lend_49 : decode cX11_lend 49 = .ok (.aload_n 0, 1) := by decide +kernel
theorem dX11_lend_50 : decode cX11_lend 50 = .ok (.iload_n 1, 1) := by decide +kernel
theorem dX11_lend_51 : decode cX11_lend 51 = .ok (.iload_n 2, 1) := by decide +kernel
theorem dX11_lend_52 : decode cX11_lend 52 = .ok (.invokevirtual 249, 3) := by decide +kernel
theorem dX11_lend_55 : decode cX11_lend 55 = .ok (.aload_n 0, 1) := by decide +kernel
theorem dX11_lend_56 : decode cX11_lend 56 = .ok (.getfield 39, 3) := by decide +kernel
theorem dX11_lend_59 : decode cX11_lend 59 = .ok (.iconst 0, 1) := by decide +kernel
theorem dX11_lend_60 : decode cX11_lend 60 = .ok (.iaload, 1) := by decide +kernel
theorem dX11_lend_61 : decode cX11_lend 61 = .ok (.ireturn, 1) := by decide +kernel
theorem dX11_walkTo_0 : decode cX11_walkTo 0 = .ok (.aload_n 0, 1) := by decide +kernel
theorem dX11_walkTo_1 : decode cX11_walkTo 1 = .ok (.getfield 39, 3) := by decide +kernel
theorem dX11_walkTo_4 : decode cX11_walkTo 4 = .ok (.iconst 0, 1) := by decide +kernel
theorem dX11_walkTo_5 : decode cX11_walkTo 5 = .ok (.dup2, 1) := by decide +kernel
theorem dX11_walkTo_6 : decode cX11_walkTo 6 = .ok (.iaload, 1) := by decide +kernel
theorem dX11_walkTo_7 : decode cX11_walkTo 7 = .ok (.iload_n 2, 1) := by decide +kernel
theorem dX11_walkTo_8 : decode cX11_walkTo 8 = .ok (.iadd, 1) := by decide +kernel
theorem dX11_walkTo_9 : decode cX11_walkTo 9 = .ok (.iastore, 1) := by decide +kernel
theorem dX11_walkTo_10 : decode cX11_walkTo 10 = .ok (.aload_n 0, 1) := by decide +kernel
theorem dX11_walkTo_11 : decode cX11_walkTo 11 = .ok (.getfield 39, 3) := by decide +kernel
theorem dX11_walkTo_14 : decode cX11_walkTo 14 = .ok (.iconst 1, 1) := by decide +kernel
theorem dX11_walkTo_15 : decode cX11_walkTo 15 = .ok (.aload_n 0, 1) := by decide +kernel
theorem dX11_walkTo_16 : decode cX11_walkTo 16 = .ok (.getfield 24, 3) := by decide +kernel
theorem dX11_walkTo_19 : decode cX11_walkTo 19 = .ok (.iload_n 1, 1) := by decide +kernel
theorem dX11_walkTo_20 : decode cX11_walkTo 20 = .ok (.iaload, 1) := by decide +kernel
theorem dX11_walkTo_21 : decode cX11_walkTo 21 = .ok (.iastore, 1) := by decide +kernel
theorem dX11_walkTo_22 : decode cX11_walkTo 22 = .ok (.aload_n 0, 1) := by decide +kernel
theorem dX11_walkTo_23 : decode cX11_walkTo 23 = .ok (.getfield 39, 3) := by decide +kernel
theorem dX11_walkTo_26 : decode cX11_walkTo 26 = .ok (.iconst 2, 1) := by decide +kernel
theorem dX11_walkTo_27 : decode cX11_walkTo 27 = .ok (.iload_n 1, 1) := by decide +kernel
theorem dX11_walkTo_28 : decode cX11_walkTo 28 = .ok (.iastore, 1) := by decide +kernel
theorem dX11_walkTo_29 : decode cX11_walkTo 29 = .ok (.return_, 1) := by decide +kernel
theorem dX11_doNow_0 : decode cX11_doNow 0 = .ok (.aload_n 0, 1) := by decide +kernel
theorem dX11_doNow_1 : decode cX11_doNow 1 = .ok (.getfield 39, 3) := by decide +kernel
theorem dX11_doNow_4 : decode cX11_doNow 4 = .ok (.iconst 0, 1) := by decide +kernel
theorem dX11_doNow_5 : decode cX11_doNow 5 = .ok (.dup2, 1) := by decide +kernel
theorem dX11_doNow_6 : decode cX11_doNow 6 = .ok (.iaload, 1) := by decide +kernel
theorem dX11_doNow_7 : decode cX11_doNow 7 = .ok (.aload_n 0, 1) := by decide +kernel
theorem dX11_doNow_8 : decode cX11_doNow 8 = .ok (.getfield 30, 3) := by decide +kernel
theorem dX11_doNow_11 : decode cX11_doNow 11 = .ok (.iconst 5, 1) := by decide +kernel
theorem dX11_doNow_12 : decode cX11_doNow 12 = .ok (.iload_n 1, 1) := by decide +kernel
theorem dX11_doNow_13 : decode cX11_doNow 13 = .ok (.imul, 1) := by decide +kernel
theorem dX11_doNow_14 : decode cX11_doNow 14 = .ok (.iconst 1, 1) := by decide +kernel
theorem dX11_doNow_15 : decode cX11_doNow 15 = .ok (.iadd, 1) := by decide +kernel
theorem dX11_doNow_16 : decode cX11_doNow 16 = .ok (.iaload, 1) := by decide +kernel
theorem dX11_doNow_17 : decode cX11_doNow 17 = .ok (.iadd, 1) := by decide +kernel
theorem dX11_doNow_18 : decode cX11_doNow 18 = .ok (.iastore, 1) := by decide +kernel
theorem dX11_doNow_19 : decode cX11_doNow 19 = .ok (.aload_n 0, 1) := by decide +kernel
theorem dX11_doNow_20 : decode cX11_doNow 20 = .ok (.getfield 39, 3) := by decide +kernel
theorem dX11_doNow_23 : decode cX11_doNow 23 = .ok (.iconst 4, 1) := by decide +kernel
theorem dX11_doNow_24 : decode cX11_doNow 24 = .ok (.iload_n 1, 1) := by decide +kernel
theorem dX11_doNow_25 : decode cX11_doNow 25 = .ok (.iadd, 1) := by decide +kernel
theorem dX11_doNow_26 : decode cX11_doNow 26 = .ok (.aload_n 0, 1) := by decide +kernel
theorem dX11_doNow_27 : decode cX11_doNow 27 = .ok (.getfield 39, 3) := by decide +kernel
theorem dX11_doNow_30 : decode cX11_doNow 30 = .ok (.iconst 0, 1) := by decide +kernel
theorem dX11_doNow_31 : decode cX11_doNow 31 = .ok (.iaload, 1) := by decide +kernel
theorem dX11_doNow_32 : decode cX11_doNow 32 = .ok (.iastore, 1) := by decide +kernel
theorem dX11_doNow_33 : decode cX11_doNow 33 = .ok (.return_, 1) := by decide +kernel
theorem dX11_act_0 : decode cX11_act 0 = .ok (.aload_n 0, 1) := by decide +kernel
theorem dX11_act_1 : decode cX11_act 1 = .ok (.iload_n 1, 1) := by decide +kernel
theorem dX11_act_2 : decode cX11_act 2 = .ok (.invokevirtual 239, 3) := by decide +kernel
theorem dX11_act_5 : decode cX11_act 5 = .ok (.ifCond .ne 6, 3) := by decide +kernel
theorem dX11_act_8 : decode cX11_act 8 = .ok (.ldc 235, 2) := by decide +kernel
theorem dX11_act_10 : decode cX11_act 10 = .ok (.ireturn, 1) := by decide +kernel
theorem dX11_act_11 : decode cX11_act 11 = .ok (.aload_n 0, 1) := by decide +kernel
theorem dX11_act_12 : decode cX11_act 12 = .ok (.iload_n 1, 1) := by decide +kernel
theorem dX11_act_13 : decode cX11_act 13 = .ok (.invokevirtual 215, 3) := by decide +kernel
theorem dX11_act_16 : decode cX11_act 16 = .ok (.ifCond .ne 20, 3) := by decide +kernel
theorem dX11_act_19 : decode cX11_act 19 = .ok (.aload_n 0, 1) := by decide +kernel
theorem dX11_act_20 : decode cX11_act 20 = .ok (.getfield 39, 3) := by decide +kernel
theorem dX11_act_23 : decode cX11_act 23 = .ok (.iconst 2, 1) := by decide +kernel
theorem dX11_act_24 : decode cX11_act 24 = .ok (.iaload, 1) := by decide +kernel
theorem dX11_act_25 : decode cX11_act 25 = .ok (.aload_n 0, 1) := by decide +kernel
theorem dX11_act_26 : decode cX11_act 26 = .ok (.getfield 30, 3) := by decide +kernel
theorem dX11_act_29 : decode cX11_act 29 = .ok (.iconst 5, 1) := by decide +kernel
theorem dX11_act_30 : decode cX11_act 30 = .ok (.iload_n 1, 1) := by decide +kernel
theorem dX11_act_31 : decode cX11_act 31 = .ok (.imul, 1) := by decide +kernel
theorem dX11_act_32 : decode cX11_act 32 = .ok (.iaload, 1) := by decide +kernel
theorem dX11_act_33 : decode cX11_act 33 = .ok (.if_icmp .eq 6, 3) := by decide +kernel
theorem dX11_act_36 : decode cX11_act 36 = .ok (.ldc 247, 2) := by decide +kernel
theorem dX11_act_38 : decode cX11_act 38 = .ok (.ireturn, 1) := by decide +kernel
theorem dX11_act_39 : decode cX11_act 39 = .ok (.aload_n 0, 1) := by decide +kernel
theorem dX11_act_40 : decode cX11_act 40 = .ok (.iload_n 1, 1) := by decide +kernel
theorem dX11_act_41 : decode cX11_act 41 = .ok (.invokevirtual 253, 3) := by decide +kernel
theorem dX11_act_44 : decode cX11_act 44 = .ok (.aload_n 0, 1) := by decide +kernel
theorem dX11_act_45 : decode cX11_act 45 = .ok (.getfield 39, 3) := by decide +kernel
theorem dX11_act_48 : decode cX11_act 48 = .ok (.iconst 0, 1) := by decide +kernel
theorem dX11_act_49 : decode cX11_act 49 = .ok (.iaload, 1) := by decide +kernel
theorem dX11_act_50 : decode cX11_act 50 = .ok (.ireturn, 1) := by decide +kernel
theorem dX11_drop_0 : decode cX11_drop 0 = .ok (.aload_n 0, 1) := by decide +kernel
theorem dX11_drop_1 : decode cX11_drop 1 = .ok (.getfield 39, 3) := by decide +kernel
theorem dX11_drop_4 : decode cX11_drop 4 = .ok (.iconst 2, 1) := by decide +kernel
theorem dX11_drop_5 : decode cX11_drop 5 = .ok (.iaload, 1) := by decide +kernel
theorem dX11_drop_6 : decode cX11_drop 6 = .ok (.istore_n 1, 1) := by decide +kernel
theorem dX11_drop_7 : decode cX11_drop 7 = .ok (.aload_n 0, 1) := by decide +kernel
theorem dX11_drop_8 : decode cX11_drop 8 = .ok (.getfield 39, 3) := by decide +kernel
theorem dX11_drop_11 : decode cX11_drop 11 = .ok (.iconst 2, 1) := by decide +kernel
theorem dX11_drop_12 : decode cX11_drop 12 = .ok (.iconst (-1), 1) := by decide +kernel
theorem dX11_drop_13 : decode cX11_drop 13 = .ok (.iastore, 1) := by decide +kernel
theorem dX11_drop_14 : decode cX11_drop 14 = .ok (.iload_n 1, 1) := by decide +kernel
theorem dX11_drop_15 : decode cX11_drop 15 = .ok (.ireturn, 1) := by decide +kernel
theorem dX11_pass_0 : decode cX11_pass 0 = .ok (.iload_n 1, 1) := by decide +kernel
theorem dX11_pass_1 : decode cX11_pass 1 = .ok (.i2l, 1) := by decide +kernel
theorem dX11_pass_2 : decode cX11_pass 2 = .ok (.lconst 1, 1) := by decide +kernel
theorem dX11_pass_3 : decode cX11_pass 3 = .ok (.ldc2_w 257, 3) := by decide +kernel
theorem dX11_pass_6 : decode cX11_pass 6 = .ok (.invokestatic 102, 3) := by decide +kernel
theorem dX11_pass_9 : decode cX11_pass 9 = .ok (.ifCond .ne 6, 3) := by decide +kernel
theorem dX11_pass_12 : decode cX11_pass 12 = .ok (.ldc 114, 2) := by decide +kernel
theorem dX11_pass_14 : decode cX11_pass 14 = .ok (.ireturn, 1) := by decide +kernel
theorem dX11_pass_15 : decode cX11_pass 15 = .ok (.aload_n 0, 1) := by decide +kernel
theorem dX11_pass_16 : decode cX11_pass 16 = .ok (.getfield 39, 3) := by decide +kernel
theorem dX11_pass_19 : decode cX11_pass 19 = .ok (.iconst 0, 1) := by decide +kernel
theorem dX11_pass_20 : decode cX11_pass 20 = .ok (.iaload, 1) := by decide +kernel
theorem dX11_pass_21 : decode cX11_pass 21 = .ok (.ldc 248, 2) := by decide +kernel
theorem dX11_pass_23 : decode cX11_pass 23 = .ok (.if_icmp .le 6, 3) := by decide +kernel
theorem dX11_pass_26 : decode cX11_pass 26 = .ok (.ldc 118, 2) := by decide +kernel
theorem dX11_pass_28 : decode cX11_pass 28 = .ok (.ireturn, 1) := by decide +kernel
theorem dX11_pass_29 : decode cX11_pass 29 = .ok (.aload_n 0, 1) := by decide +kernel
theorem dX11_pass_30 : decode cX11_pass 30 = .ok (.getfield 39, 3) := by decide +kernel
theorem dX11_pass_33 : decode cX11_pass 33 = .ok (.iconst 0, 1) := by decide +kernel
theorem dX11_pass_34 : decode cX11_pass 34 = .ok (.dup2, 1) := by decide +kernel
theorem dX11_pass_35 : decode cX11_pass 35 = .ok (.iaload, 1) := by decide +kernel
theorem dX11_pass_36 : decode cX11_pass 36 = .ok (.iload_n 1, 1) := by decide +kernel
theorem dX11_pass_37 : decode cX11_pass 37 = .ok (.iadd, 1) := by decide +kernel
theorem dX11_pass_38 : decode cX11_pass 38 = .ok (.iastore, 1) := by decide +kernel
theorem dX11_pass_39 : decode cX11_pass 39 = .ok (.aload_n 0, 1) := by decide +kernel
theorem dX11_pass_40 : decode cX11_pass 40 = .ok (.getfield 39, 3) := by decide +kernel
theorem dX11_pass_43 : decode cX11_pass 43 = .ok (.iconst 0, 1) := by decide +kernel
theorem dX11_pass_44 : decode cX11_pass 44 = .ok (.iaload, 1) := by decide +kernel
theorem dX11_pass_45 : decode cX11_pass 45 = .ok (.ireturn, 1) := by decide +kernel
theorem dX11_draw_0 : decode cX11_draw 0 = .ok (.aload_n 0, 1) := by decide +kernel
theorem dX11_draw_1 : decode cX11_draw 1 = .ok (.getfield 39, 3) := by decide +kernel
theorem dX11_draw_4 : decode cX11_draw 4 = .ok (.iconst 3, 1) := by decide +kernel
theorem dX11_draw_5 : decode cX11_draw 5 = .ok (.aload_n 0, 1) := by decide +kernel
theorem dX11_draw_6 : decode cX11_draw 6 = .ok (.getfield 39, 3) := by decide +kernel
theorem dX11_draw_9 : decode cX11_draw 9 = .ok (.iconst 3, 1) := by decide +kernel
theorem dX11_draw_10 : decode cX11_draw 10 = .ok (.iaload, 1) := by decide +kernel
theorem dX11_draw_11 : decode cX11_draw 11 = .ok (.i2l, 1) := by decide +kernel
theorem dX11_draw_12 : decode cX11_draw 12 = .ok (.ldc2_w 259, 3) := by decide +kernel
theorem dX11_draw_15 : decode cX11_draw 15 = .ok (.lmul, 1) := by decide +kernel
theorem dX11_draw_16 : decode cX11_draw 16 = .ok (.ldc2_w 261, 3) := by decide +kernel
theorem dX11_draw_19 : decode cX11_draw 19 = .ok (.ladd, 1) := by decide +kernel
theorem dX11_draw_20 : decode cX11_draw 20 = .ok (.ldc2_w 263, 3) := by decide +kernel
theorem dX11_draw_23 : decode cX11_draw 23 = .ok (.land, 1) := by decide +kernel
theorem dX11_draw_24 : decode cX11_draw 24 = .ok (.l2i, 1) := by decide +kernel
theorem dX11_draw_25 : decode cX11_draw 25 = .ok (.iastore, 1) := by decide +kernel
theorem dX11_draw_26 : decode cX11_draw 26 = .ok (.aload_n 0, 1) := by decide +kernel
theorem dX11_draw_27 : decode cX11_draw 27 = .ok (.getfield 39, 3) := by decide +kernel
theorem dX11_draw_30 : decode cX11_draw 30 = .ok (.iconst 3, 1) := by decide +kernel
theorem dX11_draw_31 : decode cX11_draw 31 = .ok (.iaload, 1) := by decide +kernel
theorem dX11_draw_32 : decode cX11_draw 32 = .ok (.ldc_w 265, 3) := by decide +kernel
theorem dX11_draw_35 : decode cX11_draw 35 = .ok (.idiv, 1) := by decide +kernel
theorem dX11_draw_36 : decode cX11_draw 36 = .ok (.iload_n 1, 1) := by decide +kernel
theorem dX11_draw_37 : decode cX11_draw 37 = .ok (.irem, 1) := by decide +kernel
theorem dX11_draw_38 : decode cX11_draw 38 = .ok (.ireturn, 1) := by decide +kernel
theorem dX11_drift_0 : decode cX11_drift 0 = .ok (.iload_n 1, 1) := by decide +kernel
theorem dX11_drift_1 : decode cX11_drift 1 = .ok (.i2l, 1) := by decide +kernel
theorem dX11_drift_2 : decode cX11_drift 2 = .ok (.lconst 1, 1) := by decide +kernel
theorem dX11_drift_3 : decode cX11_drift 3 = .ok (.ldc2_w 266, 3) := by decide +kernel
theorem dX11_drift_6 : decode cX11_drift 6 = .ok (.invokestatic 102, 3) := by decide +kernel
theorem dX11_drift_9 : decode cX11_drift 9 = .ok (.ifCond .ne 6, 3) := by decide +kernel
theorem dX11_drift_12 : decode cX11_drift 12 = .ok (.ldc 114, 2) := by decide +kernel
theorem dX11_drift_14 : decode cX11_drift 14 = .ok (.ireturn, 1) := by decide +kernel
theorem dX11_drift_15 : decode cX11_drift 15 = .ok (.aload_n 0, 1) := by decide +kernel
theorem dX11_drift_16 : decode cX11_drift 16 = .ok (.getfield 106, 3) := by decide +kernel
theorem dX11_drift_19 : decode cX11_drift 19 = .ok (.ifCond .ne 6, 3) := by decide +kernel
theorem dX11_drift_22 : decode cX11_drift 22 = .ok (.ldc 247, 2) := by decide +kernel
theorem dX11_drift_24 : decode cX11_drift 24 = .ok (.ireturn, 1) := by decide +kernel
theorem dX11_drift_25 : decode cX11_drift 25 = .ok (.aload_n 0, 1) := by decide +kernel
theorem dX11_drift_26 : decode cX11_drift 26 = .ok (.getfield 39, 3) := by decide +kernel
theorem dX11_drift_29 : decode cX11_drift 29 = .ok (.iconst 0, 1) := by decide +kernel
theorem dX11_drift_30 : decode cX11_drift 30 = .ok (.iaload, 1) := by decide +kernel
theorem dX11_drift_31 : decode cX11_drift 31 = .ok (.ldc 248, 2) := by decide +kernel
theorem dX11_drift_33 : decode cX11_drift 33 = .ok (.if_icmp .le 6, 3) := by decide +kernel
theorem dX11_drift_36 : decode cX11_drift 36 = .ok (.ldc 118, 2) := by decide +kernel
theorem dX11_drift_38 : decode cX11_drift 38 = .ok (.ireturn, 1) := by decide +kernel
theorem dX11_drift_39 : decode cX11_drift 39 = .ok (.iconst 0, 1) := by decide +kernel
theorem dX11_drift_40 : decode cX11_drift 40 = .ok (.istore_n 2, 1) := by decide +kernel
theorem dX11_drift_41 : decode cX11_drift 41 = .ok (.iload_n 2, 1) := by decide +kernel
theorem dX11_drift_42 : decode cX11_drift 42 = .ok (.iload_n 1, 1) := by decide +kernel
theorem dX11_drift_43 : decode cX11_drift 43 = .ok (.if_icmp .ge 135, 3) := by decide +kernel
theorem dX11_drift_46 : decode cX11_drift 46 = .ok (.aload_n 0, 1) := by decide +kernel
theorem dX11_drift_47 : decode cX11_drift 47 = .ok (.aload_n 0, 1) := by decide +kernel
theorem dX11_drift_48 : decode cX11_drift 48 = .ok (.getfield 106, 3) := by decide +kernel
theorem dX11_drift_51 : decode cX11_drift 51 = .ok (.invokevirtual 268, 3) := by decide +kernel
theorem dX11_drift_54 : decode cX11_drift 54 = .ok (.istore_n 3, 1) := by decide +kernel
theorem dX11_drift_55 : decode cX11_drift 55 = .ok (.aload_n 0, 1) := by decide +kernel
theorem dX11_drift_56 : decode cX11_drift 56 = .ok (.aload_n 0, 1) := by decide +kernel
theorem dX11_drift_57 : decode cX11_drift 57 = .ok (.getfield 39, 3) := by decide +kernel
theorem dX11_drift_60 : decode cX11_drift 60 = .ok (.iconst 1, 1) := by decide +kernel
theorem dX11_drift_61 : decode cX11_drift 61 = .ok (.iaload, 1) := by decide +kernel
theorem dX11_drift_62 : decode cX11_drift 62 = .ok (.aload_n 0, 1) := by decide +kernel
theorem dX11_drift_63 : decode cX11_drift 63 = .ok (.getfield 24, 3) := by decide +kernel
theorem dX11_drift_66 : decode cX11_drift 66 = .ok (.iload_n 3, 1) := by decide +kernel
theorem dX11_drift_67 : decode cX11_drift 67 = .ok (.iaload, 1) := by decide +kernel
theorem dX11_drift_68 : decode cX11_drift 68 = .ok (.invokevirtual 231, 3) := by decide +kernel
theorem dX11_drift_71 : decode cX11_drift 71 = .ok (.istore 4, 2) := by decide +kernel
theorem dX11_drift_73 : decode cX11_drift 73 = .ok (.iload 4, 2) := by decide +kernel
theorem dX11_drift_75 : decode cX11_drift 75 = .ok (.ifCond .lt 10, 3) := by decide +kernel
theorem dX11_drift_78 : decode cX11_drift 78 = .ok (.aload_n 0, 1) := by decide +kernel
theorem dX11_drift_79 : decode cX11_drift 79 = .ok (.iload_n 3, 1) := by decide +kernel
theorem dX11_drift_80 : decode cX11_drift 80 = .ok (.iload 4, 2) := by decide +kernel
theorem dX11_drift_82 : decode cX11_drift 82 = .ok (.invokevirtual 249, 3) := by decide +kernel
theorem dX11_drift_85 : decode cX11_drift 85 = .ok (.iconst (-1), 1) := by decide +kernel
theorem dX11_drift_86 : decode cX11_drift 86 = .ok (.istore 5, 2) := by decide +kernel
theorem dX11_drift_88 : decode cX11_drift 88 = .ok (.aload_n 0, 1) := by decide +kernel
theorem dX11_drift_89 : decode cX11_drift 89 = .ok (.getfield 109, 3) := by decide +kernel
theorem dX11_drift_92 : decode cX11_drift 92 = .ok (.iconst 1, 1) := by decide +kernel
theorem dX11_drift_93 : decode cX11_drift 93 = .ok (.isub, 1) := by decide +kernel
theorem dX11_drift_94 : decode cX11_drift 94 = .ok (.istore 6, 2) := by decide +kernel
theorem dX11_drift_96 : decode cX11_drift 96 = .ok (.iload 6, 2) := by decide +kernel
theorem dX11_drift_98 : decode cX11_drift 98 = .ok (.ifCond .lt 50, 3) := by decide +kernel
theorem dX11_drift_101 : decode cX11_drift 101 = .ok (.aload_n 0, 1) := by decide +kernel
theorem dX11_drift_102 : decode cX11_drift 102 = .ok (.getfield 39, 3) := by decide +kernel
theorem dX11_drift_105 : decode cX11_drift 105 = .ok (.iconst 2, 1) := by decide +kernel
theorem dX11_drift_106 : decode cX11_drift 106 = .ok (.iaload, 1) := by decide +kernel
theorem dX11_drift_107 : decode cX11_drift 107 = .ok (.iload_n 3, 1) := by decide +kernel
theorem dX11_drift_108 : decode cX11_drift 108 = .ok (.if_icmp .ne 30, 3) := by decide +kernel
theorem dX11_drift_111 : decode cX11_drift 111 = .ok (.aload_n 0, 1) := by decide +kernel
theorem dX11_drift_112 : decode cX11_drift 112 = .ok (.getfield 30, 3) := by decide +kernel
theorem dX11_drift_115 : decode cX11_drift 115 = .ok (.iconst 5, 1) := by decide +kernel
theorem dX11_drift_116 : decode cX11_drift 116 = .ok (.iload 6, 2) := by decide +kernel
theorem dX11_drift_118 : decode cX11_drift 118 = .ok (.imul, 1) := by decide +kernel
theorem dX11_drift_119 : decode cX11_drift 119 = .ok (.iaload, 1) := by decide +kernel
theorem dX11_drift_120 : decode cX11_drift 120 = .ok (.iload_n 3, 1) := by decide +kernel
theorem dX11_drift_121 : decode cX11_drift 121 = .ok (.if_icmp .ne 17, 3) := by decide +kernel
theorem dX11_drift_124 : decode cX11_drift 124 = .ok (.aload_n 0, 1) := by decide +kernel
theorem dX11_drift_125 : decode cX11_drift 125 = .ok (.iload 6, 2) := by decide +kernel
theorem dX11_drift_127 : decode cX11_drift 127 = .ok (.invokevirtual 215, 3) := by decide +kernel
theorem dX11_drift_130 : decode cX11_drift 130 = .ok (.ifCond .ne 8, 3) := by decide +kernel
theorem dX11_drift_133 : decode cX11_drift 133 = .ok (.iload 6, 2) := by decide +kernel
theorem dX11_drift_135 : decode cX11_drift 135 = .ok (.goto 5, 3) := by decide +kernel
theorem dX11_drift_138 : decode cX11_drift 138 = .ok (.iload 5, 2) := by decide +kernel
theorem dX11_drift_140 : decode cX11_drift 140 = .ok (.istore 5, 2) := by decide +kernel
theorem dX11_drift_142 : decode cX11_drift 142 = .ok (.iinc 6 (-1), 3) := by decide +kernel
theorem dX11_drift_145 : decode cX11_drift 145 = .ok (.goto (-49), 3) := by decide +kernel
theorem dX11_drift_148 : decode cX11_drift 148 = .ok (.iload 5, 2) := by decide +kernel
theorem dX11_drift_150 : decode cX11_drift 150 = .ok (.ifCond .lt 12, 3) := by decide +kernel
theorem dX11_drift_153 : decode cX11_drift 153 = .ok (.aload_n 0, 1) := by decide +kernel
theorem dX11_drift_154 : decode cX11_drift 154 = .ok (.iload 5, 2) := by decide +kernel
theorem dX11_drift_156 : decode cX11_drift 156 = .ok (.invokevirtual 253, 3) := by decide +kernel
theorem dX11_drift_159 : decode cX11_drift 159 = .ok (.goto 13, 3) := by decide +kernel
theorem dX11_drift_162 : decode cX11_drift 162 = .ok (.aload_n 0, 1) := by decide +kernel
theorem dX11_drift_163 : decode cX11_drift 163 = .ok (.getfield 39, 3) := by decide +kernel
theorem dX11_drift_166 : decode cX11_drift 166 = .ok (.iconst 0, 1) := by decide +kernel
theorem dX11_drift_167 : decode cX11_drift 167 = .ok (.dup2, 1) := by decide +kernel
theorem dX11_drift_168 : decode cX11_drift 168 = .ok (.iaload, 1) := by decide +kernel
theorem dX11_drift_169 : decode cX11_drift 169 = .ok (.iconst 1, 1) := by decide +kernel
theorem dX11_drift_170 : decode cX11_drift 170 = .ok (.iadd, 1) := by decide +kernel
theorem dX11_drift_171 : decode cX11_drift 171 = .ok (.iastore, 1) := by decide +kernel
theorem dX11_drift_172 : decode cX11_drift 172 = .ok (.iinc 2 1, 3) := by decide +kernel
theorem dX11_drift_175 : decode cX11_drift 175 = .ok (.goto (-134), 3) := by decide +kernel
theorem dX11_drift_178 : decode cX11_drift 178 = .ok (.aload_n 0, 1) := by decide +kernel
theorem dX11_drift_179 : decode cX11_drift 179 = .ok (.getfield 39, 3) := by decide +kernel
theorem dX11_drift_182 : decode cX11_drift 182 = .ok (.iconst 0, 1) := by decide +kernel
theorem dX11_drift_183 : decode cX11_drift 183 = .ok (.iaload, 1) := by decide +kernel
theorem dX11_drift_184 : decode cX11_drift 184 = .ok (.ireturn, 1) := by decide +kernel
theorem dX11_endBehind_0 : decode cX11_endBehind 0 = .ok (.aload_n 0, 1) := by decide +kernel
theorem dX11_endBehind_1 : decode cX11_endBehind 1 = .ok (.getfield 17, 3) := by decide +kernel
theorem dX11_endBehind_4 : decode cX11_endBehind 4 = .ok (.bipush 7, 2) := by decide +kernel
theorem dX11_endBehind_6 : decode cX11_endBehind 6 = .ok (.iload_n 2, 1) := by decide +kernel
theorem dX11_endBehind_7 : decode cX11_endBehind 7 = .ok (.imul, 1) := by decide +kernel
theorem dX11_endBehind_8 : decode cX11_endBehind 8 = .ok (.aload_n 0, 1) := by decide +kernel
theorem dX11_endBehind_9 : decode cX11_endBehind 9 = .ok (.iload_n 3, 1) := by decide +kernel
theorem dX11_endBehind_10 : decode cX11_endBehind 10 = .ok (.invokevirtual 271, 3) := by decide +kernel
theorem dX11_endBehind_13 : decode cX11_endBehind 13 = .ok (.iadd, 1) := by decide +kernel
theorem dX11_endBehind_14 : decode cX11_endBehind 14 = .ok (.iaload, 1) := by decide +kernel
theorem dX11_endBehind_15 : decode cX11_endBehind 15 = .ok (.istore 4, 2) := by decide +kernel
theorem dX11_endBehind_17 : decode cX11_endBehind 17 = .ok (.iload_n 1, 1) := by decide +kernel
theorem dX11_endBehind_18 : decode cX11_endBehind 18 = .ok (.ldc 135, 2) := by decide +kernel
theorem dX11_endBehind_20 : decode cX11_endBehind 20 = .ok (.if_icmp .ge 10, 3) := by decide +kernel
theorem dX11_endBehind_23 : decode cX11_endBehind 23 = .ok (.iload 4, 2) := by decide +kernel
theorem dX11_endBehind_25 : decode cX11_endBehind 25 = .ok (.ldc 135, 2) := by decide +kernel
theorem dX11_endBehind_27 : decode cX11_endBehind 27 = .ok (.if_icmp .lt 8, 3) := by decide +kernel
theorem dX11_endBehind_30 : decode cX11_endBehind 30 = .ok (.ldc 135, 2) := by decide +kernel
theorem dX11_endBehind_32 : decode cX11_endBehind 32 = .ok (.goto 18, 3) := by decide +kernel
theorem dX11_endBehind_35 : decode cX11_endBehind 35 = .ok (.iload_n 1, 1) := by decide +kernel
theorem dX11_endBehind_36 : decode cX11_endBehind 36 = .ok (.iload 4, 2) := by decide +kernel
theorem dX11_endBehind_38 : decode cX11_endBehind 38 = .ok (.iadd, 1) := by decide +kernel
theorem dX11_endBehind_39 : decode cX11_endBehind 39 = .ok (.aload_n 0, 1) := by decide +kernel
theorem dX11_endBehind_40 : decode cX11_endBehind 40 = .ok (.getfield 30, 3) := by decide +kernel
theorem dX11_endBehind_43 : decode cX11_endBehind 43 = .ok (.iconst 5, 1) := by decide +kernel
theorem dX11_endBehind_44 : decode cX11_endBehind 44 = .ok (.iload_n 3, 1) := by decide +kernel
theorem dX11_endBehind_45 : decode cX11_endBehind 45 = .ok (.imul, 1) := by decide +kernel
theorem dX11_endBehind_46 : decode cX11_endBehind 46 = .ok (.iconst 1, 1) := by decide +kernel
theorem dX11_endBehind_47 : decode cX11_endBehind 47 = .ok (.iadd, 1) := by decide +kernel
theorem dX11_endBehind_48 : decode cX11_endBehind 48 = .ok (.iaload, 1) := by decide +kernel
theorem dX11_endBehind_49 : decode cX11_endBehind 49 = .ok (.iadd, 1) := by decide +kernel
theorem dX11_endBehind_50 : decode cX11_endBehind 50 = .ok (.istore 5, 2) := by decide +kernel
theorem dX11_endBehind_52 : decode cX11_endBehind 52 = .ok (.iload 5, 2) := by decide +kernel
theorem dX11_endBehind_54 : decode cX11_endBehind 54 = .ok (.aload_n 0, 1) := by decide +kernel
theorem dX11_endBehind_55 : decode cX11_endBehind 55 = .ok (.getfield 30, 3) := by decide +kernel
theorem dX11_endBehind_58 : decode cX11_endBehind 58 = .ok (.iconst 5, 1) := by decide +kernel
theorem dX11_endBehind_59 : decode cX11_endBehind 59 = .ok (.iload_n 3, 1) := by decide +kernel
theorem dX11_endBehind_60 : decode cX11_endBehind 60 = .ok (.imul, 1) := by decide +kernel
theorem dX11_endBehind_61 : decode cX11_endBehind 61 = .ok (.iconst 2, 1) := by decide +kernel
theorem dX11_endBehind_62 : decode cX11_endBehind 62 = .ok (.iadd, 1) := by decide +kernel
theorem dX11_endBehind_63 : decode cX11_endBehind 63 = .ok (.iaload, 1) := by decide +kernel
theorem dX11_endBehind_64 : decode cX11_endBehind 64 = .ok (.if_icmp .le 8, 3) := by decide +kernel
theorem dX11_endBehind_67 : decode cX11_endBehind 67 = .ok (.ldc 135, 2) := by decide +kernel
theorem dX11_endBehind_69 : decode cX11_endBehind 69 = .ok (.goto 5, 3) := by decide +kernel
theorem dX11_endBehind_72 : decode cX11_endBehind 72 = .ok (.iload 5, 2) := by decide +kernel
theorem dX11_endBehind_74 : decode cX11_endBehind 74 = .ok (.ireturn, 1) := by decide +kernel
theorem dX11_findEnds_0 : decode cX11_findEnds 0 = .ok (.iconst 1, 1) := by decide +kernel
theorem dX11_findEnds_1 : decode cX11_findEnds 1 = .ok (.istore 4, 2) := by decide +kernel
theorem dX11_findEnds_3 : decode cX11_findEnds 3 = .ok (.iload 4, 2) := by decide +kernel
theorem dX11_findEnds_5 : decode cX11_findEnds 5 = .ok (.bipush 64, 2) := by decide +kernel
theorem dX11_findEnds_7 : decode cX11_findEnds 7 = .ok (.if_icmp .ge 181, 3) := by decide +kernel
theorem dX11_findEnds_10 : decode cX11_findEnds 10 = .ok (.iconst 0, 1) := by decide +kernel
theorem dX11_findEnds_11 : decode cX11_findEnds 11 = .ok (.istore 5, 2) := by decide +kernel
theorem dX11_findEnds_13 : decode cX11_findEnds 13 = .ok (.iload 5, 2) := by decide +kernel
theorem dX11_findEnds_15 : decode cX11_findEnds 15 = .ok (.bipush 6, 2) := by decide +kernel
theorem dX11_findEnds_17 : decode cX11_findEnds 17 = .ok (.if_icmp .ge 165, 3) := by decide +kernel
theorem dX11_findEnds_20 : decode cX11_findEnds 20 = .ok (.aload_n 0, 1) := by decide +kernel
theorem dX11_findEnds_21 : decode cX11_findEnds 21 = .ok (.getfield 63, 3) := by decide +kernel
theorem dX11_findEnds_24 : decode cX11_findEnds 24 = .ok (.bipush 6, 2) := by decide +kernel
theorem dX11_findEnds_26 : decode cX11_findEnds 26 = .ok (.iload 4, 2) := by decide +kernel
theorem dX11_findEnds_28 : decode cX11_findEnds 28 = .ok (.imul, 1) := by decide +kernel
theorem dX11_findEnds_29 : decode cX11_findEnds 29 = .ok (.iload 5, 2) := by decide +kernel
theorem dX11_findEnds_31 : decode cX11_findEnds 31 = .ok (.iadd, 1) := by decide +kernel
theorem dX11_findEnds_32 : decode cX11_findEnds 32 = .ok (.ldc 135, 2) := by decide +kernel
theorem dX11_findEnds_34 : decode cX11_findEnds 34 = .ok (.iastore, 1) := by decide +kernel
theorem dX11_findEnds_35 : decode cX11_findEnds 35 = .ok (.iload 4, 2) := by decide +kernel
theorem dX11_findEnds_37 : decode cX11_findEnds 37 = .ok (.iload 5, 2) := by decide +kernel
theorem dX11_findEnds_39 : decode cX11_findEnds 39 = .ok (.invokestatic 219, 3) := by decide +kernel
theorem dX11_findEnds_42 : decode cX11_findEnds 42 = .ok (.ifCond .eq 134, 3) := by decide +kernel
theorem dX11_findEnds_45 : decode cX11_findEnds 45 = .ok (.iload 4, 2) := by decide +kernel
theorem dX11_findEnds_47 : decode cX11_findEnds 47 = .ok (.iload_n 3, 1) := by decide +kernel
theorem dX11_findEnds_48 : decode cX11_findEnds 48 = .ok (.iconst (-1), 1) := by decide +kernel
theorem dX11_findEnds_49 : decode cX11_findEnds 49 = .ok (.ixor, 1) := by decide +kernel
theorem dX11_findEnds_50 : decode cX11_findEnds 50 = .ok (.iand, 1) := by decide +kernel
theorem dX11_findEnds_51 : decode cX11_findEnds 51 = .ok (.ifCond .ne 125, 3) := by decide +kernel
theorem dX11_findEnds_54 : decode cX11_findEnds 54 = .ok (.iload 4, 2) := by decide +kernel
theorem dX11_findEnds_56 : decode cX11_findEnds 56 = .ok (.iconst 1, 1) := by decide +kernel
theorem dX11_findEnds_57 : decode cX11_findEnds 57 = .ok (.iload 5, 2) := by decide +kernel
theorem dX11_findEnds_59 : decode cX11_findEnds 59 = .ok (.ishl, 1) := by decide +kernel
theorem dX11_findEnds_60 : decode cX11_findEnds 60 = .ok (.iconst (-1), 1) := by decide +kernel
theorem dX11_findEnds_61 : decode cX11_findEnds 61 = .ok (.ixor, 1) := by decide +kernel
theorem dX11_findEnds_62 : decode cX11_findEnds 62 = .ok (.iand, 1) := by decide +kernel
theorem dX11_findEnds_63 : decode cX11_findEnds 63 = .ok (.istore 6, 2) := by decide +kernel
theorem dX11_findEnds_65 : decode cX11_findEnds 65 = .ok (.iload 6, 2) := by decide +kernel
theorem dX11_findEnds_67 : decode cX11_findEnds 67 = .ok (.ifCond .ne 14, 3) := by decide +kernel
theorem dX11_findEnds_70 : decode cX11_findEnds 70 = .ok (.aload_n 0, 1) := by decide +kernel
theorem dX11_findEnds_71 : decode cX11_findEnds 71 = .ok (.iload_n 1, 1) := by decide +kernel
theorem dX11_findEnds_72 : decode cX11_findEnds 72 = .ok (.iload_n 2, 1) := by decide +kernel
theorem dX11_findEnds_73 : decode cX11_findEnds 73 = .ok (.iload 5, 2) := by decide +kernel
theorem dX11_findEnds_75 : decode cX11_findEnds 75 = .ok (.invokevirtual 274, 3) := by decide +kernel
theorem dX11_findEnds_78 : decode cX11_findEnds 78 = .ok (.goto 5, 3) := by decide +kernel
theorem dX11_findEnds_81 : decode cX11_findEnds 81 = .ok (.ldc 135, 2) := by decide +kernel
theorem dX11_findEnds_83 : decode cX11_findEnds 83 = .ok (.istore 7, 2) := by decide +kernel
theorem dX11_findEnds_85 : decode cX11_findEnds 85 = .ok (.iconst 0, 1) := by decide +kernel
theorem dX11_findEnds_86 : decode cX11_findEnds 86 = .ok (.istore 8, 2) := by decide +kernel
theorem dX11_findEnds_88 : decode cX11_findEnds 88 = .ok (.iload 8, 2) := by decide +kernel
theorem dX11_findEnds_90 : decode cX11_findEnds 90 = .ok (.aload_n 0, 1) := by decide +kernel
theorem dX11_findEnds_91 : decode cX11_findEnds 91 = .ok (.getfield 109, 3) := by decide +kernel
theorem dX11_findEnds_94 : decode cX11_findEnds 94 = .ok (.if_icmp .ge 67, 3) := by decide +kernel
theorem dX11_findEnds_97 : decode cX11_findEnds 97 = .ok (.iload 6, 2) := by decide +kernel
theorem dX11_findEnds_99 : decode cX11_findEnds 99 = .ok (.iload 8, 2) := by decide +kernel
theorem dX11_findEnds_101 : decode cX11_findEnds 101 = .ok (.invokestatic 219, 3) := by decide +kernel
theorem dX11_findEnds_104 : decode cX11_findEnds 104 = .ok (.ifCond .eq 31, 3) := by decide +kernel
theorem dX11_findEnds_107 : decode cX11_findEnds 107 = .ok (.aload_n 0, 1) := by decide +kernel
theorem dX11_findEnds_108 : decode cX11_findEnds 108 = .ok (.aload_n 0, 1) := by decide +kernel
theorem dX11_findEnds_109 : decode cX11_findEnds 109 = .ok (.getfield 63, 3) := by decide +kernel
theorem dX11_findEnds_112 : decode cX11_findEnds 112 = .ok (.bipush 6, 2) := by decide +kernel
theorem dX11_findEnds_114 : decode cX11_findEnds 114 = .ok (.iload 6, 2) := by decide +kernel
theorem dX11_findEnds_116 : decode cX11_findEnds 116 = .ok (.imul, 1) := by decide +kernel
theorem dX11_findEnds_117 : decode cX11_findEnds 117 = .ok (.iload 8, 2) := by decide +kernel
theorem dX11_findEnds_119 : decode cX11_findEnds 119 = .ok (.iadd, 1) := by decide +kernel
theorem dX11_findEnds_120 : decode cX11_findEnds 120 = .ok (.iaload, 1) := by decide +kernel
theorem dX11_findEnds_121 : decode cX11_findEnds 121 = .ok (.aload_n 0, 1) := by decide +kernel
theorem dX11_findEnds_122 : decode cX11_findEnds 122 = .ok (.iload 8, 2) := by decide +kernel
theorem dX11_findEnds_124 : decode cX11_findEnds 124 = .ok (.invokevirtual 271, 3) := by decide +kernel
theorem dX11_findEnds_127 : decode cX11_findEnds 127 = .ok (.iload 5, 2) := by decide +kernel
theorem dX11_findEnds_129 : decode cX11_findEnds 129 = .ok (.invokevirtual 274, 3) := by decide +kernel
theorem dX11_findEnds_132 : decode cX11_findEnds 132 = .ok (.goto 5, 3) := by decide +kernel
theorem dX11_findEnds_135 : decode cX11_findEnds 135 = .ok (.ldc 135, 2) := by decide +kernel
theorem dX11_findEnds_137 : decode cX11_findEnds 137 = .ok (.istore 9, 2) := by decide +kernel
theorem dX11_findEnds_139 : decode cX11_findEnds 139 = .ok (.iload 9, 2) := by decide +kernel
theorem dX11_findEnds_141 : decode cX11_findEnds 141 = .ok (.iload 7, 2) := by decide +kernel
theorem dX11_findEnds_143 : decode cX11_findEnds 143 = .ok (.if_icmp .ge 8, 3) := by decide +kernel
theorem dX11_findEnds_146 : decode cX11_findEnds 146 = .ok (.iload 9, 2) := by decide +kernel
theorem dX11_findEnds_148 : decode cX11_findEnds 148 = .ok (.goto 5, 3) := by decide +kernel
theorem dX11_findEnds_151 : decode cX11_findEnds 151 = .ok (.iload 7, 2) := by decide +kernel
theorem dX11_findEnds_153 : decode cX11_findEnds 153 = .ok (.istore 7, 2) := by decide +kernel
theorem dX11_findEnds_155 : decode cX11_findEnds 155 = .ok (.iinc 8 1, 3) := by decide +kernel
theorem dX11_findEnds_158 : decode cX11_findEnds 158 = .ok (.goto (-70), 3) := by decide +kernel
theorem dX11_findEnds_161 : decode cX11_findEnds 161 = .ok (.aload_n 0, 1) := by decide +kernel
theorem dX11_findEnds_162 : decode cX11_findEnds 162 = .ok (.getfield 63, 3) := by decide +kernel
theorem dX11_findEnds_165 : decode cX11_findEnds 165 = .ok (.bipush 6, 2) := by decide +kernel
theorem dX11_findEnds_167 : decode cX11_findEnds 167 = .ok (.iload 4, 2) := by decide +kernel
theorem dX11_findEnds_169 : decode cX11_findEnds 169 = .ok (.imul, 1) := by decide +kernel
theorem dX11_findEnds_170 : decode cX11_findEnds 170 = .ok (.iload 5, 2) := by decide +kernel
theorem dX11_findEnds_172 : decode cX11_findEnds 172 = .ok (.iadd, 1) := by decide +kernel
theorem dX11_findEnds_173 : decode cX11_findEnds 173 = .ok (.iload 7, 2) := by decide +kernel
theorem dX11_findEnds_175 : decode cX11_findEnds 175 = .ok (.iastore, 1) := by decide +kernel
theorem dX11_findEnds_176 : decode cX11_findEnds 176 = .ok (.iinc 5 1, 3) := by decide +kernel
theorem dX11_findEnds_179 : decode cX11_findEnds 179 = .ok (.goto (-166), 3) := by decide +kernel
theorem dX11_findEnds_182 : decode cX11_findEnds 182 = .ok (.iinc 4 1, 3) := by decide +kernel
theorem dX11_findEnds_185 : decode cX11_findEnds 185 = .ok (.goto (-182), 3) := by decide +kernel
theorem dX11_findEnds_188 : decode cX11_findEnds 188 = .ok (.return_, 1) := by decide +kernel
theorem dX11_endOf_0 : decode cX11_endOf 0 = .ok (.iload_n 1, 1) := by decide +kernel
theorem dX11_endOf_1 : decode cX11_endOf 1 = .ok (.ifCond .ne 7, 3) := by decide +kernel
theorem dX11_endOf_4 : decode cX11_endOf 4 = .ok (.iload_n 2, 1) := by decide +kernel
theorem dX11_endOf_5 : decode cX11_endOf 5 = .ok (.goto 5, 3) := by decide +kernel
theorem dX11_endOf_8 : decode cX11_endOf 8 = .ok (.ldc 135, 2) := by decide +kernel
theorem dX11_endOf_10 : decode cX11_endOf 10 = .ok (.istore_n 3, 1) := by decide +kernel
theorem dX11_endOf_11 : decode cX11_endOf 11 = .ok (.iconst 0, 1) := by decide +kernel
theorem dX11_endOf_12 : decode cX11_endOf 12 = .ok (.istore 4, 2) := by decide +kernel
theorem dX11_endOf_14 : decode cX11_endOf 14 = .ok (.iload 4, 2) := by decide +kernel
theorem dX11_endOf_16 : decode cX11_endOf 16 = .ok (.aload_n 0, 1) := by decide +kernel
theorem dX11_endOf_17 : decode cX11_endOf 17 = .ok (.getfield 109, 3) := by decide +kernel
theorem dX11_endOf_20 : decode cX11_endOf 20 = .ok (.if_icmp .ge 51, 3) := by decide +kernel
theorem dX11_endOf_23 : decode cX11_endOf 23 = .ok (.iload_n 1, 1) := by decide +kernel
theorem dX11_endOf_24 : decode cX11_endOf 24 = .ok (.iload 4, 2) := by decide +kernel
theorem dX11_endOf_26 : decode cX11_endOf 26 = .ok (.invokestatic 219, 3) := by decide +kernel
theorem dX11_endOf_29 : decode cX11_endOf 29 = .ok (.ifCond .eq 34, 3) := by decide +kernel
theorem dX11_endOf_32 : decode cX11_endOf 32 = .ok (.aload_n 0, 1) := by decide +kernel
theorem dX11_endOf_33 : decode cX11_endOf 33 = .ok (.getfield 63, 3) := by decide +kernel
theorem dX11_endOf_36 : decode cX11_endOf 36 = .ok (.bipush 6, 2) := by decide +kernel
theorem dX11_endOf_38 : decode cX11_endOf 38 = .ok (.iload_n 1, 1) := by decide +kernel
theorem dX11_endOf_39 : decode cX11_endOf 39 = .ok (.imul, 1) := by decide +kernel
theorem dX11_endOf_40 : decode cX11_endOf 40 = .ok (.iload 4, 2) := by decide +kernel
theorem dX11_endOf_42 : decode cX11_endOf 42 = .ok (.iadd, 1) := by decide +kernel
theorem dX11_endOf_43 : decode cX11_endOf 43 = .ok (.iaload, 1) := by decide +kernel
theorem dX11_endOf_44 : decode cX11_endOf 44 = .ok (.iload_n 3, 1) := by decide +kernel
theorem dX11_endOf_45 : decode cX11_endOf 45 = .ok (.if_icmp .ge 18, 3) := by decide +kernel
theorem dX11_endOf_48 : decode cX11_endOf 48 = .ok (.aload_n 0, 1) := by decide +kernel
theorem dX11_endOf_49 : decode cX11_endOf 49 = .ok (.getfield 63, 3) := by decide +kernel
theorem dX11_endOf_52 : decode cX11_endOf 52 = .ok (.bipush 6, 2) := by decide +kernel
theorem dX11_endOf_54 : decode cX11_endOf 54 = .ok (.iload_n 1, 1) := by decide +kernel
theorem dX11_endOf_55 : decode cX11_endOf 55 = .ok (.imul, 1) := by decide +kernel
theorem dX11_endOf_56 : decode cX11_endOf 56 = .ok (.iload 4, 2) := by decide +kernel
theorem dX11_endOf_58 : decode cX11_endOf 58 = .ok (.iadd, 1) := by decide +kernel
theorem dX11_endOf_59 : decode cX11_endOf 59 = .ok (.iaload, 1) := by decide +kernel
theorem dX11_endOf_60 : decode cX11_endOf 60 = .ok (.goto 4, 3) := by decide +kernel
theorem dX11_endOf_63 : decode cX11_endOf 63 = .ok (.iload_n 3, 1) := by decide +kernel
theorem dX11_endOf_64 : decode cX11_endOf 64 = .ok (.istore_n 3, 1) := by decide +kernel
theorem dX11_endOf_65 : decode cX11_endOf 65 = .ok (.iinc 4 1, 3) := by decide +kernel
theorem dX11_endOf_68 : decode cX11_endOf 68 = .ok (.goto (-54), 3) := by decide +kernel
theorem dX11_endOf_71 : decode cX11_endOf 71 = .ok (.iload_n 3, 1) := by decide +kernel
theorem dX11_endOf_72 : decode cX11_endOf 72 = .ok (.ireturn, 1) := by decide +kernel
theorem dX11_isRow_0 : decode cX11_isRow 0 = .ok (.aload_n 0, 1) := by decide +kernel
theorem dX11_isRow_1 : decode cX11_isRow 1 = .ok (.getfield 39, 3) := by decide +kernel
theorem dX11_isRow_4 : decode cX11_isRow 4 = .ok (.iconst 0, 1) := by decide +kernel
theorem dX11_isRow_5 : decode cX11_isRow 5 = .ok (.iaload, 1) := by decide +kernel
theorem dX11_isRow_6 : decode cX11_isRow 6 = .ok (.istore 4, 2) := by decide +kernel
theorem dX11_isRow_8 : decode cX11_isRow 8 = .ok (.aload_n 0, 1) := by decide +kernel
theorem dX11_isRow_9 : decode cX11_isRow 9 = .ok (.getfield 39, 3) := by decide +kernel
theorem dX11_isRow_12 : decode cX11_isRow 12 = .ok (.iconst 1, 1) := by decide +kernel
theorem dX11_isRow_13 : decode cX11_isRow 13 = .ok (.iaload, 1) := by decide +kernel
theorem dX11_isRow_14 : decode cX11_isRow 14 = .ok (.istore 5, 2) := by decide +kernel
theorem dX11_isRow_16 : decode cX11_isRow 16 = .ok (.iload_n 2, 1) := by decide +kernel
theorem dX11_isRow_17 : decode cX11_isRow 17 = .ok (.istore 6, 2) := by decide +kernel
theorem dX11_isRow_19 : decode cX11_isRow 19 = .ok (.iconst 0, 1) := by decide +kernel
theorem dX11_isRow_20 : decode cX11_isRow 20 = .ok (.istore 7, 2) := by decide +kernel
theorem dX11_isRow_22 : decode cX11_isRow 22 = .ok (.iload 7, 2) := by decide +kernel
theorem dX11_isRow_24 : decode cX11_isRow 24 = .ok (.iload_n 1, 1) := by decide +kernel
theorem dX11_isRow_25 : decode cX11_isRow 25 = .ok (.if_icmp .ge 75, 3) := by decide +kernel
theorem dX11_isRow_28 : decode cX11_isRow 28 = .ok (.iload 6, 2) := by decide +kernel
theorem dX11_isRow_30 : decode cX11_isRow 30 = .ok (.aload_n 0, 1) := by decide +kernel
theorem dX11_isRow_31 : decode cX11_isRow 31 = .ok (.getfield 66, 3) := by decide +kernel
theorem dX11_isRow_34 : decode cX11_isRow 34 = .ok (.iload 7, 2) := by decide +kernel
theorem dX11_isRow_36 : decode cX11_isRow 36 = .ok (.iaload, 1) := by decide +kernel
theorem dX11_isRow_37 : decode cX11_isRow 37 = .ok (.invokestatic 219, 3) := by decide +kernel
theorem dX11_isRow_40 : decode cX11_isRow 40 = .ok (.ifCond .eq 21, 3) := by decide +kernel
theorem dX11_isRow_43 : decode cX11_isRow 43 = .ok (.aload_n 0, 1) := by decide +kernel
theorem dX11_isRow_44 : decode cX11_isRow 44 = .ok (.iload 4, 2) := by decide +kernel
theorem dX11_isRow_46 : decode cX11_isRow 46 = .ok (.iload 5, 2) := by decide +kernel
theorem dX11_isRow_48 : decode cX11_isRow 48 = .ok (.aload_n 0, 1) := by decide +kernel
theorem dX11_isRow_49 : decode cX11_isRow 49 = .ok (.getfield 66, 3) := by decide +kernel
theorem dX11_isRow_52 : decode cX11_isRow 52 = .ok (.iload 7, 2) := by decide +kernel
theorem dX11_isRow_54 : decode cX11_isRow 54 = .ok (.iaload, 1) := by decide +kernel
theorem dX11_isRow_55 : decode cX11_isRow 55 = .ok (.invokevirtual 274, 3) := by decide +kernel
theorem dX11_isRow_58 : decode cX11_isRow 58 = .ok (.goto 5, 3) := by decide +kernel
theorem dX11_isRow_61 : decode cX11_isRow 61 = .ok (.ldc 135, 2) := by decide +kernel
theorem dX11_isRow_63 : decode cX11_isRow 63 = .ok (.istore 4, 2) := by decide +kernel
theorem dX11_isRow_65 : decode cX11_isRow 65 = .ok (.iload 6, 2) := by decide +kernel
theorem dX11_isRow_67 : decode cX11_isRow 67 = .ok (.iconst 1, 1) := by decide +kernel
theorem dX11_isRow_68 : decode cX11_isRow 68 = .ok (.aload_n 0, 1) := by decide +kernel
theorem dX11_isRow_69 : decode cX11_isRow 69 = .ok (.getfield 66, 3) := by decide +kernel
theorem dX11_isRow_72 : decode cX11_isRow 72 = .ok (.iload 7, 2) := by decide +kernel
theorem dX11_isRow_74 : decode cX11_isRow 74 = .ok (.iaload, 1) := by decide +kernel
theorem dX11_isRow_75 : decode cX11_isRow 75 = .ok (.ishl, 1) := by decide +kernel
theorem dX11_isRow_76 : decode cX11_isRow 76 = .ok (.iconst (-1), 1) := by decide +kernel
theorem dX11_isRow_77 : decode cX11_isRow 77 = .ok (.ixor, 1) := by decide +kernel
theorem dX11_isRow_78 : decode cX11_isRow 78 = .ok (.iand, 1) := by decide +kernel
theorem dX11_isRow_79 : decode cX11_isRow 79 = .ok (.istore 6, 2) := by decide +kernel
theorem dX11_isRow_81 : decode cX11_isRow 81 = .ok (.aload_n 0, 1) := by decide +kernel
theorem dX11_isRow_82 : decode cX11_isRow 82 = .ok (.aload_n 0, 1) := by decide +kernel
theorem dX11_isRow_83 : decode cX11_isRow 83 = .ok (.getfield 66, 3) := by decide +kernel
theorem dX11_isRow_86 : decode cX11_isRow 86 = .ok (.iload 7, 2) := by decide +kernel
theorem dX11_isRow_88 : decode cX11_isRow 88 = .ok (.iaload, 1) := by decide +kernel
theorem dX11_isRow_89 : decode cX11_isRow 89 = .ok (.invokevirtual 271, 3) := by decide +kernel
theorem dX11_isRow_92 : decode cX11_isRow 92 = .ok (.istore 5, 2) := by decide +kernel
theorem dX11_isRow_94 : decode cX11_isRow 94 = .ok (.iinc 7 1, 3) := by decide +kernel
theorem dX11_isRow_97 : decode cX11_isRow 97 = .ok (.goto (-75), 3) := by decide +kernel
theorem dX11_isRow_100 : decode cX11_isRow 100 = .ok (.iload 4, 2) := by decide +kernel
theorem dX11_isRow_102 : decode cX11_isRow 102 = .ok (.iload_n 3, 1) := by decide +kernel
theorem dX11_isRow_103 : decode cX11_isRow 103 = .ok (.if_icmp .ne 7, 3) := by decide +kernel
theorem dX11_isRow_106 : decode cX11_isRow 106 = .ok (.iconst 1, 1) := by decide +kernel
theorem dX11_isRow_107 : decode cX11_isRow 107 = .ok (.goto 4, 3) := by decide +kernel
theorem dX11_isRow_110 : decode cX11_isRow 110 = .ok (.iconst 0, 1) := by decide +kernel
theorem dX11_isRow_111 : decode cX11_isRow 111 = .ok (.ireturn, 1) := by decide +kernel
theorem dX11_firstRow_0 : decode cX11_firstRow 0 = .ok (.iconst (-1), 1) := by decide +kernel
theorem dX11_firstRow_1 : decode cX11_firstRow 1 = .ok (.istore 4, 2) := by decide +kernel
theorem dX11_firstRow_3 : decode cX11_firstRow 3 = .ok (.iconst 0, 1) := by decide +kernel
theorem dX11_firstRow_4 : decode cX11_firstRow 4 = .ok (.istore 5, 2) := by decide +kernel
theorem dX11_firstRow_6 : decode cX11_firstRow 6 = .ok (.iconst 0, 1) := by decide +kernel
theorem dX11_firstRow_7 : decode cX11_firstRow 7 = .ok (.istore 6, 2) := by decide +kernel
theorem dX11_firstRow_9 : decode cX11_firstRow 9 = .ok (.iload 6, 2) := by decide +kernel
theorem dX11_firstRow_11 : decode cX11_firstRow 11 = .ok (.aload_n 0, 1) := by decide +kernel
theorem dX11_firstRow_12 : decode cX11_firstRow 12 = .ok (.getfield 109, 3) := by decide +kernel
theorem dX11_firstRow_15 : decode cX11_firstRow 15 = .ok (.if_icmp .gt 151, 3) := by decide +kernel
theorem dX11_firstRow_18 : decode cX11_firstRow 18 = .ok (.iconst 1, 1) := by decide +kernel
theorem dX11_firstRow_19 : decode cX11_firstRow 19 = .ok (.istore 7, 2) := by decide +kernel
theorem dX11_firstRow_21 : decode cX11_firstRow 21 = .ok (.iconst 0, 1) := by decide +kernel
theorem dX11_firstRow_22 : decode cX11_firstRow 22 = .ok (.istore 8, 2) := by decide +kernel
theorem dX11_firstRow_24 : decode cX11_firstRow 24 = .ok (.iload 8, 2) := by decide +kernel
theorem dX11_firstRow_26 : decode cX11_firstRow 26 = .ok (.iload 6, 2) := by decide +kernel
theorem dX11_firstRow_28 : decode cX11_firstRow 28 = .ok (.if_icmp .ge 16, 3) := by decide +kernel
theorem dX11_firstRow_31 : decode cX11_firstRow 31 = .ok (.iload 7, 2) := by decide +kernel
theorem dX11_firstRow_33 : decode cX11_firstRow 33 = .ok (.bipush 6, 2) := by decide +kernel
theorem dX11_firstRow_35 : decode cX11_firstRow 35 = .ok (.imul, 1) := by decide +kernel
theorem dX11_firstRow_36 : decode cX11_firstRow 36 = .ok (.istore 7, 2) := by decide +kernel
theorem dX11_firstRow_38 : decode cX11_firstRow 38 = .ok (.iinc 8 1, 3) := by decide +kernel
theorem dX11_firstRow_41 : decode cX11_firstRow 41 = .ok (.goto (-17), 3) := by decide +kernel
theorem dX11_firstRow_44 : decode cX11_firstRow 44 = .ok (.iconst 0, 1) := by decide +kernel
theorem dX11_firstRow_45 : decode cX11_firstRow 45 = .ok (.istore 8, 2) := by decide +kernel
theorem dX11_firstRow_47 : decode cX11_firstRow 47 = .ok (.iload 8, 2) := by decide +kernel
theorem dX11_firstRow_49 : decode cX11_firstRow 49 = .ok (.iload 7, 2) := by decide +kernel
theorem dX11_firstRow_51 : decode cX11_firstRow 51 = .ok (.if_icmp .ge 109, 3) := by decide +kernel
theorem dX11_firstRow_54 : decode cX11_firstRow 54 = .ok (.aload_n 0, 1) := by decide +kernel
theorem dX11_firstRow_55 : decode cX11_firstRow 55 = .ok (.iload 8, 2) := by decide +kernel
theorem dX11_firstRow_57 : decode cX11_firstRow 57 = .ok (.iload 6, 2) := by decide +kernel
theorem dX11_firstRow_59 : decode cX11_firstRow 59 = .ok (.invokevirtual 278, 3) := by decide +kernel
theorem dX11_firstRow_62 : decode cX11_firstRow 62 = .ok (.istore 9, 2) := by decide +kernel
theorem dX11_firstRow_64 : decode cX11_firstRow 64 = .ok (.iload 9, 2) := by decide +kernel
theorem dX11_firstRow_66 : decode cX11_firstRow 66 = .ok (.ifCond .lt 88, 3) := by decide +kernel
theorem dX11_firstRow_69 : decode cX11_firstRow 69 = .ok (.iload 9, 2) := by decide +kernel
theorem dX11_firstRow_71 : decode cX11_firstRow 71 = .ok (.iload_n 3, 1) := by decide +kernel
theorem dX11_firstRow_72 : decode cX11_firstRow 72 = .ok (.iconst (-1), 1) := by decide +kernel
theorem dX11_firstRow_73 : decode cX11_firstRow 73 = .ok (.ixor, 1) := by decide +kernel
theorem dX11_firstRow_74 : decode cX11_firstRow 74 = .ok (.iand, 1) := by decide +kernel
theorem dX11_firstRow_75 : decode cX11_firstRow 75 = .ok (.ifCond .ne 79, 3) := by decide +kernel
theorem dX11_firstRow_78 : decode cX11_firstRow 78 = .ok (.aload_n 0, 1) := by decide +kernel
theorem dX11_firstRow_79 : decode cX11_firstRow 79 = .ok (.iload 9, 2) := by decide +kernel
theorem dX11_firstRow_81 : decode cX11_firstRow 81 = .ok (.invokevirtual 225, 3) := by decide +kernel
theorem dX11_firstRow_84 : decode cX11_firstRow 84 = .ok (.iload_n 1, 1) := by decide +kernel
theorem dX11_firstRow_85 : decode cX11_firstRow 85 = .ok (.if_icmp .ne 69, 3) := by decide +kernel
theorem dX11_firstRow_88 : decode cX11_firstRow 88 = .ok (.aload_n 0, 1) := by decide +kernel
theorem dX11_firstRow_89 : decode cX11_firstRow 89 = .ok (.iload 6, 2) := by decide +kernel
theorem dX11_firstRow_91 : decode cX11_firstRow 91 = .ok (.iload 9, 2) := by decide +kernel
theorem dX11_firstRow_93 : decode cX11_firstRow 93 = .ok (.iload_n 2, 1) := by decide +kernel
theorem dX11_firstRow_94 : decode cX11_firstRow 94 = .ok (.invokevirtual 281, 3) := by decide +kernel
theorem dX11_firstRow_97 : decode cX11_firstRow 97 = .ok (.ifCond .eq 57, 3) := by decide +kernel
theorem dX11_firstRow_100 : decode cX11_firstRow 100 = .ok (.iload 4, 2) := by decide +kernel
theorem dX11_firstRow_102 : decode cX11_firstRow 102 = .ok (.ifCond .lt 14, 3) := by decide +kernel
theorem dX11_firstRow_105 : decode cX11_firstRow 105 = .ok (.aload_n 0, 1) := by decide +kernel
theorem dX11_firstRow_106 : decode cX11_firstRow 106 = .ok (.iload 6, 2) := by decide +kernel
theorem dX11_firstRow_108 : decode cX11_firstRow 108 = .ok (.iload 5, 2) := by decide +kernel
theorem dX11_firstRow_110 : decode cX11_firstRow 110 = .ok (.invokevirtual 285, 3) := by decide +kernel
theorem dX11_firstRow_113 : decode cX11_firstRow 113 = .ok (.ifCond .eq 41, 3) := by decide +kernel
theorem dX11_firstRow_116 : decode cX11_firstRow 116 = .ok (.iload 8, 2) := by decide +kernel
theorem dX11_firstRow_118 : decode cX11_firstRow 118 = .ok (.istore 4, 2) := by decide +kernel
theorem dX11_firstRow_120 : decode cX11_firstRow 120 = .ok (.iload 6, 2) := by decide +kernel
theorem dX11_firstRow_122 : decode cX11_firstRow 122 = .ok (.istore 5, 2) := by decide +kernel
theorem dX11_firstRow_124 : decode cX11_firstRow 124 = .ok (.iconst 0, 1) := by decide +kernel
theorem dX11_firstRow_125 : decode cX11_firstRow 125 = .ok (.istore 10, 2) := by decide +kernel
theorem dX11_firstRow_127 : decode cX11_firstRow 127 = .ok (.iload 10, 2) := by decide +kernel
theorem dX11_firstRow_129 : decode cX11_firstRow 129 = .ok (.iload 6, 2) := by decide +kernel
theorem dX11_firstRow_131 : decode cX11_firstRow 131 = .ok (.if_icmp .ge 23, 3) := by decide +kernel
theorem dX11_firstRow_134 : decode cX11_firstRow 134 = .ok (.aload_n 0, 1) := by decide +kernel
theorem dX11_firstRow_135 : decode cX11_firstRow 135 = .ok (.getfield 69, 3) := by decide +kernel
theorem dX11_firstRow_138 : decode cX11_firstRow 138 = .ok (.iload 10, 2) := by decide +kernel
theorem dX11_firstRow_140 : decode cX11_firstRow 140 = .ok (.aload_n 0, 1) := by decide +kernel
theorem dX11_firstRow_141 : decode cX11_firstRow 141 = .ok (.getfield 66, 3) := by decide +kernel
theorem dX11_firstRow_144 : decode cX11_firstRow 144 = .ok (.iload 10, 2) := by decide +kernel
theorem dX11_firstRow_146 : decode cX11_firstRow 146 = .ok (.iaload, 1) := by decide +kernel
theorem dX11_firstRow_147 : decode cX11_firstRow 147 = .ok (.iastore, 1) := by decide +kernel
theorem dX11_firstRow_148 : decode cX11_firstRow 148 = .ok (.iinc 10 1, 3) := by decide +kernel
theorem dX11_firstRow_151 : decode cX11_firstRow 151 = .ok (.goto (-24), 3) := by decide +kernel
theorem dX11_firstRow_154 : decode cX11_firstRow 154 = .ok (.iinc 8 1, 3) := by decide +kernel
theorem dX11_firstRow_157 : decode cX11_firstRow 157 = .ok (.goto (-110), 3) := by decide +kernel
theorem dX11_firstRow_160 : decode cX11_firstRow 160 = .ok (.iinc 6 1, 3) := by decide +kernel
theorem dX11_firstRow_163 : decode cX11_firstRow 163 = .ok (.goto (-154), 3) := by decide +kernel
theorem dX11_firstRow_166 : decode cX11_firstRow 166 = .ok (.iload 5, 2) := by decide +kernel
theorem dX11_firstRow_168 : decode cX11_firstRow 168 = .ok (.ireturn, 1) := by decide +kernel
theorem dX11_digits_0 : decode cX11_digits 0 = .ok (.iconst 0, 1) := by decide +kernel
theorem dX11_digits_1 : decode cX11_digits 1 = .ok (.istore_n 3, 1) := by decide +kernel
theorem dX11_digits_2 : decode cX11_digits 2 = .ok (.iload_n 1, 1) := by decide +kernel
theorem dX11_digits_3 : decode cX11_digits 3 = .ok (.istore 4, 2) := by decide +kernel
theorem dX11_digits_5 : decode cX11_digits 5 = .ok (.iconst 1, 1) := by decide +kernel
theorem dX11_digits_6 : decode cX11_digits 6 = .ok (.istore 5, 2) := by decide +kernel
theorem dX11_digits_8 : decode cX11_digits 8 = .ok (.iload_n 2, 1) := by decide +kernel
theorem dX11_digits_9 : decode cX11_digits 9 = .ok (.iconst 1, 1) := by decide +kernel
theorem dX11_digits_10 : decode cX11_digits 10 = .ok (.isub, 1) := by decide +kernel
theorem dX11_digits_11 : decode cX11_digits 11 = .ok (.istore 6, 2) := by decide +kernel
theorem dX11_digits_13 : decode cX11_digits 13 = .ok (.iload 6, 2) := by decide +kernel
theorem dX11_digits_15 : decode cX11_digits 15 = .ok (.ifCond .lt 80, 3) := by decide +kernel
theorem dX11_digits_18 : decode cX11_digits 18 = .ok (.aload_n 0, 1) := by decide +kernel
theorem dX11_digits_19 : decode cX11_digits 19 = .ok (.getfield 66, 3) := by decide +kernel
theorem dX11_digits_22 : decode cX11_digits 22 = .ok (.iload 6, 2) := by decide +kernel
theorem dX11_digits_24 : decode cX11_digits 24 = .ok (.iload 4, 2) := by decide +kernel
theorem dX11_digits_26 : decode cX11_digits 26 = .ok (.bipush 6, 2) := by decide +kernel
theorem dX11_digits_28 : decode cX11_digits 28 = .ok (.irem, 1) := by decide +kernel
theorem dX11_digits_29 : decode cX11_digits 29 = .ok (.iastore, 1) := by decide +kernel
theorem dX11_digits_30 : decode cX11_digits 30 = .ok (.iload 4, 2) := by decide +kernel
theorem dX11_digits_32 : decode cX11_digits 32 = .ok (.bipush 6, 2) := by decide +kernel
theorem dX11_digits_34 : decode cX11_digits 34 = .ok (.idiv, 1) := by decide +kernel
theorem dX11_digits_35 : decode cX11_digits 35 = .ok (.istore 4, 2) := by decide +kernel
theorem dX11_digits_37 : decode cX11_digits 37 = .ok (.iload 5, 2) := by decide +kernel
theorem dX11_digits_39 : decode cX11_digits 39 = .ok (.ifCond .eq 35, 3) := by decide +kernel
theorem dX11_digits_42 : decode cX11_digits 42 = .ok (.aload_n 0, 1) := by decide +kernel
theorem dX11_digits_43 : decode cX11_digits 43 = .ok (.getfield 66, 3) := by decide +kernel
theorem dX11_digits_46 : decode cX11_digits 46 = .ok (.iload 6, 2) := by decide +kernel
theorem dX11_digits_48 : decode cX11_digits 48 = .ok (.iaload, 1) := by decide +kernel
theorem dX11_digits_49 : decode cX11_digits 49 = .ok (.aload_n 0, 1) := by decide +kernel
theorem dX11_digits_50 : decode cX11_digits 50 = .ok (.getfield 109, 3) := by decide +kernel
theorem dX11_digits_53 : decode cX11_digits 53 = .ok (.if_icmp .ge 21, 3) := by decide +kernel
theorem dX11_digits_56 : decode cX11_digits 56 = .ok (.iload_n 3, 1) := by decide +kernel
theorem dX11_digits_57 : decode cX11_digits 57 = .ok (.aload_n 0, 1) := by decide +kernel
theorem dX11_digits_58 : decode cX11_digits 58 = .ok (.getfield 66, 3) := by decide +kernel
theorem dX11_digits_61 : decode cX11_digits 61 = .ok (.iload 6, 2) := by decide +kernel
theorem dX11_digits_63 : decode cX11_digits 63 = .ok (.iaload, 1) := by decide +kernel
theorem dX11_digits_64 : decode cX11_digits 64 = .ok (.invokestatic 219, 3) := by decide +kernel
theorem dX11_digits_67 : decode cX11_digits 67 = .ok (.ifCond .ne 7, 3) := by decide +kernel
theorem dX11_digits_70 : decode cX11_digits 70 = .ok (.iconst 1, 1) := by decide +kernel
theorem dX11_digits_71 : decode cX11_digits 71 = .ok (.goto 4, 3) := by decide +kernel
theorem dX11_digits_74 : decode cX11_digits 74 = .ok (.iconst 0, 1) := by decide +kernel
theorem dX11_digits_75 : decode cX11_digits 75 = .ok (.istore 5, 2) := by decide +kernel
theorem dX11_digits_77 : decode cX11_digits 77 = .ok (.iload_n 3, 1) := by decide +kernel
theorem dX11_digits_78 : decode cX11_digits 78 = .ok (.iconst 1, 1) := by decide +kernel
theorem dX11_digits_79 : decode cX11_digits 79 = .ok (.aload_n 0, 1) := by decide +kernel
theorem dX11_digits_80 : decode cX11_digits 80 = .ok (.getfield 66, 3) := by decide +kernel
theorem dX11_digits_83 : decode cX11_digits 83 = .ok (.iload 6, 2) := by decide +kernel
theorem dX11_digits_85 : decode cX11_digits 85 = .ok (.iaload, 1) := by decide +kernel
theorem dX11_digits_86 : decode cX11_digits 86 = .ok (.ishl, 1) := by decide +kernel
theorem dX11_digits_87 : decode cX11_digits 87 = .ok (.ior, 1) := by decide +kernel
theorem dX11_digits_88 : decode cX11_digits 88 = .ok (.istore_n 3, 1) := by decide +kernel
theorem dX11_digits_89 : decode cX11_digits 89 = .ok (.iinc 6 (-1), 3) := by decide +kernel
theorem dX11_digits_92 : decode cX11_digits 92 = .ok (.goto (-79), 3) := by decide +kernel
theorem dX11_digits_95 : decode cX11_digits 95 = .ok (.iload 5, 2) := by decide +kernel
theorem dX11_digits_97 : decode cX11_digits 97 = .ok (.ifCond .eq 7, 3) := by decide +kernel
theorem dX11_digits_100 : decode cX11_digits 100 = .ok (.iload_n 3, 1) := by decide +kernel
theorem dX11_digits_101 : decode cX11_digits 101 = .ok (.goto 4, 3) := by decide +kernel
theorem dX11_digits_104 : decode cX11_digits 104 = .ok (.iconst (-1), 1) := by decide +kernel
theorem dX11_digits_105 : decode cX11_digits 105 = .ok (.ireturn, 1) := by decide +kernel
theorem dX11_isAhead_0 : decode cX11_isAhead 0 = .ok (.iconst 0, 1) := by decide +kernel
theorem dX11_isAhead_1 : decode cX11_isAhead 1 = .ok (.istore_n 3, 1) := by decide +kernel
theorem dX11_isAhead_2 : decode cX11_isAhead 2 = .ok (.iload_n 3, 1) := by decide +kernel
theorem dX11_isAhead_3 : decode cX11_isAhead 3 = .ok (.iload_n 1, 1) := by decide +kernel
theorem dX11_isAhead_4 : decode cX11_isAhead 4 = .ok (.if_icmp .ge 50, 3) := by decide +kernel
theorem dX11_isAhead_7 : decode cX11_isAhead 7 = .ok (.iload_n 3, 1) := by decide +kernel
theorem dX11_isAhead_8 : decode cX11_isAhead 8 = .ok (.iload_n 2, 1) := by decide +kernel
theorem dX11_isAhead_9 : decode cX11_isAhead 9 = .ok (.if_icmp .ge 45, 3) := by decide +kernel
theorem dX11_isAhead_12 : decode cX11_isAhead 12 = .ok (.aload_n 0, 1) := by decide +kernel
theorem dX11_isAhead_13 : decode cX11_isAhead 13 = .ok (.getfield 66, 3) := by decide +kernel
theorem dX11_isAhead_16 : decode cX11_isAhead 16 = .ok (.iload_n 3, 1) := by decide +kernel
theorem dX11_isAhead_17 : decode cX11_isAhead 17 = .ok (.iaload, 1) := by decide +kernel
theorem dX11_isAhead_18 : decode cX11_isAhead 18 = .ok (.aload_n 0, 1) := by decide +kernel
theorem dX11_isAhead_19 : decode cX11_isAhead 19 = .ok (.getfield 69, 3) := by decide +kernel
theorem dX11_isAhead_22 : decode cX11_isAhead 22 = .ok (.iload_n 3, 1) := by decide +kernel
theorem dX11_isAhead_23 : decode cX11_isAhead 23 = .ok (.iaload, 1) := by decide +kernel
theorem dX11_isAhead_24 : decode cX11_isAhead 24 = .ok (.if_icmp .eq 24, 3) := by decide +kernel
theorem dX11_isAhead_27 : decode cX11_isAhead 27 = .ok (.aload_n 0, 1) := by decide +kernel
theorem dX11_isAhead_28 : decode cX11_isAhead 28 = .ok (.getfield 66, 3) := by decide +kernel
theorem dX11_isAhead_31 : decode cX11_isAhead 31 = .ok (.iload_n 3, 1) := by decide +kernel
theorem dX11_isAhead_32 : decode cX11_isAhead 32 = .ok (.iaload, 1) := by decide +kernel
theorem dX11_isAhead_33 : decode cX11_isAhead 33 = .ok (.aload_n 0, 1) := by decide +kernel
theorem dX11_isAhead_34 : decode cX11_isAhead 34 = .ok (.getfield 69, 3) := by decide +kernel
theorem dX11_isAhead_37 : decode cX11_isAhead 37 = .ok (.iload_n 3, 1) := by decide +kernel
theorem dX11_isAhead_38 : decode cX11_isAhead 38 = .ok (.iaload, 1) := by decide +kernel
theorem dX11_isAhead_39 : decode cX11_isAhead 39 = .ok (.if_icmp .ge 7, 3) := by decide +kernel
theorem dX11_isAhead_42 : decode cX11_isAhead 42 = .ok (.iconst 1, 1) := by decide +kernel
theorem dX11_isAhead_43 : decode cX11_isAhead 43 = .ok (.goto 4, 3) := by decide +kernel
theorem dX11_isAhead_46 : decode cX11_isAhead 46 = .ok (.iconst 0, 1) := by decide +kernel
theorem dX11_isAhead_47 : decode cX11_isAhead 47 = .ok (.ireturn, 1) := by decide +kernel
theorem dX11_isAhead_48 : decode cX11_isAhead 48 = .ok (.iinc 3 1, 3) := by decide +kernel
theorem dX11_isAhead_51 : decode cX11_isAhead 51 = .ok (.goto (-49), 3) := by decide +kernel
theorem dX11_isAhead_54 : decode cX11_isAhead 54 = .ok (.iload_n 1, 1) := by decide +kernel
theorem dX11_isAhead_55 : decode cX11_isAhead 55 = .ok (.iload_n 2, 1) := by decide +kernel
theorem dX11_isAhead_56 : decode cX11_isAhead 56 = .ok (.if_icmp .ge 7, 3) := by decide +kernel
theorem dX11_isAhead_59 : decode cX11_isAhead 59 = .ok (.iconst 1, 1) := by decide +kernel
theorem dX11_isAhead_60 : decode cX11_isAhead 60 = .ok (.goto 4, 3) := by decide +kernel
theorem dX11_isAhead_63 : decode cX11_isAhead 63 = .ok (.iconst 0, 1) := by decide +kernel
theorem dX11_isAhead_64 : decode cX11_isAhead 64 = .ok (.ireturn, 1) := by decide +kernel
theorem dX11_round_0 : decode cX11_round 0 = .ok (.aload_n 0, 1) := by decide +kernel
theorem dX11_round_1 : decode cX11_round 1 = .ok (.iconst 0, 1) := by decide +kernel
theorem dX11_round_2 : decode cX11_round 2 = .ok (.invokevirtual 222, 3) := by decide +kernel
theorem dX11_round_5 : decode cX11_round 5 = .ok (.istore_n 2, 1) := by decide +kernel
theorem dX11_round_6 : decode cX11_round 6 = .ok (.aload_n 0, 1) := by decide +kernel
theorem dX11_round_7 : decode cX11_round 7 = .ok (.aload_n 0, 1) := by decide +kernel
theorem dX11_round_8 : decode cX11_round 8 = .ok (.getfield 39, 3) := by decide +kernel
theorem dX11_round_11 : decode cX11_round 11 = .ok (.iconst 0, 1) := by decide +kernel
theorem dX11_round_12 : decode cX11_round 12 = .ok (.iaload, 1) := by decide +kernel
theorem dX11_round_13 : decode cX11_round 13 = .ok (.aload_n 0, 1) := by decide +kernel
theorem dX11_round_14 : decode cX11_round 14 = .ok (.getfield 39, 3) := by decide +kernel
theorem dX11_round_17 : decode cX11_round 17 = .ok (.iconst 1, 1) := by decide +kernel
theorem dX11_round_18 : decode cX11_round 18 = .ok (.iaload, 1) := by decide +kernel
theorem dX11_round_19 : decode cX11_round 19 = .ok (.iload_n 2, 1) := by decide +kernel
theorem dX11_round_20 : decode cX11_round 20 = .ok (.invokevirtual 288, 3) := by decide +kernel
theorem dX11_round_23 : decode cX11_round 23 = .ok (.iconst 0, 1) := by decide +kernel
theorem dX11_round_24 : decode cX11_round 24 = .ok (.istore_n 3, 1) := by decide +kernel
theorem dX11_round_25 : decode cX11_round 25 = .ok (.aload_n 0, 1) := by decide +kernel
theorem dX11_round_26 : decode cX11_round 26 = .ok (.getfield 39, 3) := by decide +kernel
theorem dX11_round_29 : decode cX11_round 29 = .ok (.iconst 0, 1) := by decide +kernel
theorem dX11_round_30 : decode cX11_round 30 = .ok (.iaload, 1) := by decide +kernel
theorem dX11_round_31 : decode cX11_round 31 = .ok (.istore 4, 2) := by decide +kernel
theorem dX11_round_33 : decode cX11_round 33 = .ok (.iconst 1, 1) := by decide +kernel
theorem dX11_round_34 : decode cX11_round 34 = .ok (.istore 5, 2) := by decide +kernel
theorem dX11_round_36 : decode cX11_round 36 = .ok (.iload 5, 2) := by decide +kernel
theorem dX11_round_38 : decode cX11_round 38 = .ok (.bipush 64, 2) := by decide +kernel
theorem dX11_round_40 : decode cX11_round 40 = .ok (.if_icmp .ge 82, 3) := by decide +kernel
theorem dX11_round_43 : decode cX11_round 43 = .ok (.iload 5, 2) := by decide +kernel
theorem dX11_round_45 : decode cX11_round 45 = .ok (.iload_n 2, 1) := by decide +kernel
theorem dX11_round_46 : decode cX11_round 46 = .ok (.iconst (-1), 1) := by decide +kernel
theorem dX11_round_47 : decode cX11_round 47 = .ok (.ixor, 1) := by decide +kernel
theorem dX11_round_48 : decode cX11_round 48 = .ok (.iand, 1) := by decide +kernel
theorem dX11_round_49 : decode cX11_round 49 = .ok (.ifCond .ne 18, 3) := by decide +kernel
theorem dX11_round_52 : decode cX11_round 52 = .ok (.aload_n 0, 1) := by decide +kernel
theorem dX11_round_53 : decode cX11_round 53 = .ok (.iload 5, 2) := by decide +kernel
theorem dX11_round_55 : decode cX11_round 55 = .ok (.aload_n 0, 1) := by decide +kernel
theorem dX11_round_56 : decode cX11_round 56 = .ok (.getfield 39, 3) := by decide +kernel
theorem dX11_round_59 : decode cX11_round 59 = .ok (.iconst 0, 1) := by decide +kernel
theorem dX11_round_60 : decode cX11_round 60 = .ok (.iaload, 1) := by decide +kernel
theorem dX11_round_61 : decode cX11_round 61 = .ok (.invokevirtual 292, 3) := by decide +kernel
theorem dX11_round_64 : decode cX11_round 64 = .ok (.goto 5, 3) := by decide +kernel
theorem dX11_round_67 : decode cX11_round 67 = .ok (.ldc 135, 2) := by decide +kernel
theorem dX11_round_69 : decode cX11_round 69 = .ok (.istore 6, 2) := by decide +kernel
theorem dX11_round_71 : decode cX11_round 71 = .ok (.iload 6, 2) := by decide +kernel
theorem dX11_round_73 : decode cX11_round 73 = .ok (.ldc 135, 2) := by decide +kernel
theorem dX11_round_75 : decode cX11_round 75 = .ok (.if_icmp .ge 41, 3) := by decide +kernel
theorem dX11_round_78 : decode cX11_round 78 = .ok (.aload_n 0, 1) := by decide +kernel
theorem dX11_round_79 : decode cX11_round 79 = .ok (.iload 5, 2) := by decide +kernel
theorem dX11_round_81 : decode cX11_round 81 = .ok (.invokevirtual 225, 3) := by decide +kernel
theorem dX11_round_84 : decode cX11_round 84 = .ok (.iload_n 3, 1) := by decide +kernel
theorem dX11_round_85 : decode cX11_round 85 = .ok (.if_icmp .gt 20, 3) := by decide +kernel
theorem dX11_round_88 : decode cX11_round 88 = .ok (.aload_n 0, 1) := by decide +kernel
theorem dX11_round_89 : decode cX11_round 89 = .ok (.iload 5, 2) := by decide +kernel
theorem dX11_round_91 : decode cX11_round 91 = .ok (.invokevirtual 225, 3) := by decide +kernel
theorem dX11_round_94 : decode cX11_round 94 = .ok (.iload_n 3, 1) := by decide +kernel
theorem dX11_round_95 : decode cX11_round 95 = .ok (.if_icmp .ne 21, 3) := by decide +kernel
theorem dX11_round_98 : decode cX11_round 98 = .ok (.iload 6, 2) := by decide +kernel
theorem dX11_round_100 : decode cX11_round 100 = .ok (.iload 4, 2) := by decide +kernel
theorem dX11_round_102 : decode cX11_round 102 = .ok (.if_icmp .ge 14, 3) := by decide +kernel
theorem dX11_round_105 : decode cX11_round 105 = .ok (.aload_n 0, 1) := by decide +kernel
theorem dX11_round_106 : decode cX11_round 106 = .ok (.iload 5, 2) := by decide +kernel
theorem dX11_round_108 : decode cX11_round 108 = .ok (.invokevirtual 225, 3) := by decide +kernel
theorem dX11_round_111 : decode cX11_round 111 = .ok (.istore_n 3, 1) := by decide +kernel
theorem dX11_round_112 : decode cX11_round 112 = .ok (.iload 6, 2) := by decide +kernel
theorem dX11_round_114 : decode cX11_round 114 = .ok (.istore 4, 2) := by decide +kernel
theorem dX11_round_116 : decode cX11_round 116 = .ok (.iinc 5 1, 3) := by decide +kernel
theorem dX11_round_119 : decode cX11_round 119 = .ok (.goto (-83), 3) := by decide +kernel
theorem dX11_round_122 : decode cX11_round 122 = .ok (.iload_n 1, 1) := by decide +kernel
theorem dX11_round_123 : decode cX11_round 123 = .ok (.iconst (-1), 1) := by decide +kernel
theorem dX11_round_124 : decode cX11_round 124 = .ok (.if_icmp .eq 9, 3) := by decide +kernel
theorem dX11_round_127 : decode cX11_round 127 = .ok (.iload_n 1, 1) := by decide +kernel
theorem dX11_round_128 : decode cX11_round 128 = .ok (.bipush (-2), 2) := by decide +kernel
theorem dX11_round_130 : decode cX11_round 130 = .ok (.if_icmp .ne 15, 3) := by decide +kernel
theorem dX11_round_133 : decode cX11_round 133 = .ok (.iload_n 1, 1) := by decide +kernel
theorem dX11_round_134 : decode cX11_round 134 = .ok (.iconst (-1), 1) := by decide +kernel
theorem dX11_round_135 : decode cX11_round 135 = .ok (.if_icmp .ne 7, 3) := by decide +kernel
theorem dX11_round_138 : decode cX11_round 138 = .ok (.iload_n 3, 1) := by decide +kernel
theorem dX11_round_139 : decode cX11_round 139 = .ok (.goto 5, 3) := by decide +kernel
theorem dX11_round_142 : decode cX11_round 142 = .ok (.iload 4, 2) := by decide +kernel
theorem dX11_round_144 : decode cX11_round 144 = .ok (.ireturn, 1) := by decide +kernel
theorem dX11_round_145 : decode cX11_round 145 = .ok (.aload_n 0, 1) := by decide +kernel
theorem dX11_round_146 : decode cX11_round 146 = .ok (.iload_n 3, 1) := by decide +kernel
theorem dX11_round_147 : decode cX11_round 147 = .ok (.iload 4, 2) := by decide +kernel
theorem dX11_round_149 : decode cX11_round 149 = .ok (.iload_n 2, 1) := by decide +kernel
theorem dX11_round_150 : decode cX11_round 150 = .ok (.invokevirtual 295, 3) := by decide +kernel
theorem dX11_round_153 : decode cX11_round 153 = .ok (.istore 5, 2) := by decide +kernel
theorem dX11_round_155 : decode cX11_round 155 = .ok (.iload_n 1, 1) := by decide +kernel
theorem dX11_round_156 : decode cX11_round 156 = .ok (.i2l, 1) := by decide +kernel
theorem dX11_round_157 : decode cX11_round 157 = .ok (.lconst 0, 1) := by decide +kernel
theorem dX11_round_158 : decode cX11_round 158 = .ok (.iload 5, 2) := by decide +kernel
theorem dX11_round_160 : decode cX11_round 160 = .ok (.iconst 1, 1) := by decide +kernel
theorem dX11_round_161 : decode cX11_round 161 = .ok (.isub, 1) := by decide +kernel
theorem dX11_round_162 : decode cX11_round 162 = .ok (.i2l, 1) := by decide +kernel
theorem dX11_round_163 : decode cX11_round 163 = .ok (.invokestatic 102, 3) := by decide +kernel
theorem dX11_round_166 : decode cX11_round 166 = .ok (.ifCond .eq 12, 3) := by decide +kernel
theorem dX11_round_169 : decode cX11_round 169 = .ok (.aload_n 0, 1) := by decide +kernel
theorem dX11_round_170 : decode cX11_round 170 = .ok (.getfield 69, 3) := by decide +kernel
theorem dX11_round_173 : decode cX11_round 173 = .ok (.iload_n 1, 1) := by decide +kernel
theorem dX11_round_174 : decode cX11_round 174 = .ok (.iaload, 1) := by decide +kernel
theorem dX11_round_175 : decode cX11_round 175 = .ok (.goto 4, 3) := by decide +kernel
theorem dX11_round_178 : decode cX11_round 178 = .ok (.iconst (-1), 1) := by decide +kernel
theorem dX11_round_179 : decode cX11_round 179 = .ok (.ireturn, 1) := by decide +kernel
theorem dX11_two_0 : decode cX11_two 0 = .ok (.aload_n 0, 1) := by decide +kernel
theorem dX11_two_1 : decode cX11_two 1 = .ok (.iload_n 1, 1) := by decide +kernel
theorem dX11_two_2 : decode cX11_two 2 = .ok (.invokevirtual 228, 3) := by decide +kernel
theorem dX11_two_5 : decode cX11_two 5 = .ok (.ifCond .ne 6, 3) := by decide +kernel
theorem dX11_two_8 : decode cX11_two 8 = .ok (.ldc 235, 2) := by decide +kernel
theorem dX11_two_10 : decode cX11_two 10 = .ok (.ireturn, 1) := by decide +kernel
theorem dX11_two_11 : decode cX11_two 11 = .ok (.aload_n 0, 1) := by decide +kernel
theorem dX11_two_12 : decode cX11_two 12 = .ok (.iconst 0, 1) := by decide +kernel
theorem dX11_two_13 : decode cX11_two 13 = .ok (.invokevirtual 222, 3) := by decide +kernel
theorem dX11_two_16 : decode cX11_two 16 = .ok (.istore_n 2, 1) := by decide +kernel
theorem dX11_two_17 : decode cX11_two 17 = .ok (.aload_n 0, 1) := by decide +kernel
theorem dX11_two_18 : decode cX11_two 18 = .ok (.aload_n 0, 1) := by decide +kernel
theorem dX11_two_19 : decode cX11_two 19 = .ok (.getfield 39, 3) := by decide +kernel
theorem dX11_two_22 : decode cX11_two 22 = .ok (.iconst 0, 1) := by decide +kernel
theorem dX11_two_23 : decode cX11_two 23 = .ok (.iaload, 1) := by decide +kernel
theorem dX11_two_24 : decode cX11_two 24 = .ok (.iload_n 1, 1) := by decide +kernel
theorem dX11_two_25 : decode cX11_two 25 = .ok (.iload_n 2, 1) := by decide +kernel
theorem dX11_two_26 : decode cX11_two 26 = .ok (.invokevirtual 288, 3) := by decide +kernel
theorem dX11_two_29 : decode cX11_two 29 = .ok (.iconst 0, 1) := by decide +kernel
theorem dX11_two_30 : decode cX11_two 30 = .ok (.istore_n 3, 1) := by decide +kernel
theorem dX11_two_31 : decode cX11_two 31 = .ok (.iload_n 3, 1) := by decide +kernel
theorem dX11_two_32 : decode cX11_two 32 = .ok (.bipush 64, 2) := by decide +kernel
theorem dX11_two_34 : decode cX11_two 34 = .ok (.if_icmp .ge 39, 3) := by decide +kernel
theorem dX11_two_37 : decode cX11_two 37 = .ok (.aload_n 0, 1) := by decide +kernel
theorem dX11_two_38 : decode cX11_two 38 = .ok (.getfield 72, 3) := by decide +kernel
theorem dX11_two_41 : decode cX11_two 41 = .ok (.iload_n 3, 1) := by decide +kernel
theorem dX11_two_42 : decode cX11_two 42 = .ok (.iload_n 3, 1) := by decide +kernel
theorem dX11_two_43 : decode cX11_two 43 = .ok (.iload_n 2, 1) := by decide +kernel
theorem dX11_two_44 : decode cX11_two 44 = .ok (.iconst (-1), 1) := by decide +kernel
theorem dX11_two_45 : decode cX11_two 45 = .ok (.ixor, 1) := by decide +kernel
theorem dX11_two_46 : decode cX11_two 46 = .ok (.iand, 1) := by decide +kernel
theorem dX11_two_47 : decode cX11_two 47 = .ok (.ifCond .ne 18, 3) := by decide +kernel
theorem dX11_two_50 : decode cX11_two 50 = .ok (.aload_n 0, 1) := by decide +kernel
theorem dX11_two_51 : decode cX11_two 51 = .ok (.iload_n 3, 1) := by decide +kernel
theorem dX11_two_52 : decode cX11_two 52 = .ok (.iconst 0, 1) := by decide +kernel
theorem dX11_two_53 : decode cX11_two 53 = .ok (.invokevirtual 292, 3) := by decide +kernel
theorem dX11_two_56 : decode cX11_two 56 = .ok (.ldc 135, 2) := by decide +kernel
theorem dX11_two_58 : decode cX11_two 58 = .ok (.if_icmp .ge 7, 3) := by decide +kernel
theorem dX11_two_61 : decode cX11_two 61 = .ok (.iconst 1, 1) := by decide +kernel
theorem dX11_two_62 : decode cX11_two 62 = .ok (.goto 4, 3) := by decide +kernel
theorem dX11_two_65 : decode cX11_two 65 = .ok (.iconst 0, 1) := by decide +kernel
theorem dX11_two_66 : decode cX11_two 66 = .ok (.bastore, 1) := by decide +kernel
theorem dX11_two_67 : decode cX11_two 67 = .ok (.iinc 3 1, 3) := by decide +kernel
theorem dX11_two_70 : decode cX11_two 70 = .ok (.goto (-39), 3) := by decide +kernel
theorem dX11_two_73 : decode cX11_two 73 = .ok (.aload_n 0, 1) := by decide +kernel
theorem dX11_two_74 : decode cX11_two 74 = .ok (.aload_n 0, 1) := by decide +kernel
theorem dX11_two_75 : decode cX11_two 75 = .ok (.getfield 39, 3) := by decide +kernel
theorem dX11_two_78 : decode cX11_two 78 = .ok (.iconst 0, 1) := by decide +kernel
theorem dX11_two_79 : decode cX11_two 79 = .ok (.iaload, 1) := by decide +kernel
theorem dX11_two_80 : decode cX11_two 80 = .ok (.aload_n 0, 1) := by decide +kernel
theorem dX11_two_81 : decode cX11_two 81 = .ok (.getfield 39, 3) := by decide +kernel
theorem dX11_two_84 : decode cX11_two 84 = .ok (.iconst 1, 1) := by decide +kernel
theorem dX11_two_85 : decode cX11_two 85 = .ok (.iaload, 1) := by decide +kernel
theorem dX11_two_86 : decode cX11_two 86 = .ok (.iload_n 2, 1) := by decide +kernel
theorem dX11_two_87 : decode cX11_two 87 = .ok (.invokevirtual 288, 3) := by decide +kernel
theorem dX11_two_90 : decode cX11_two 90 = .ok (.iconst 0, 1) := by decide +kernel
theorem dX11_two_91 : decode cX11_two 91 = .ok (.istore_n 3, 1) := by decide +kernel
theorem dX11_two_92 : decode cX11_two 92 = .ok (.iconst 0, 1) := by decide +kernel
theorem dX11_two_93 : decode cX11_two 93 = .ok (.istore 4, 2) := by decide +kernel
theorem dX11_two_95 : decode cX11_two 95 = .ok (.iload 4, 2) := by decide +kernel
theorem dX11_two_97 : decode cX11_two 97 = .ok (.bipush 64, 2) := by decide +kernel
theorem dX11_two_99 : decode cX11_two 99 = .ok (.if_icmp .ge 104, 3) := by decide +kernel
theorem dX11_two_102 : decode cX11_two 102 = .ok (.iload 4, 2) := by decide +kernel
theorem dX11_two_104 : decode cX11_two 104 = .ok (.iload_n 2, 1) := by decide +kernel
theorem dX11_two_105 : decode cX11_two 105 = .ok (.iconst (-1), 1) := by decide +kernel
theorem dX11_two_106 : decode cX11_two 106 = .ok (.ixor, 1) := by decide +kernel
theorem dX11_two_107 : decode cX11_two 107 = .ok (.iand, 1) := by decide +kernel
theorem dX11_two_108 : decode cX11_two 108 = .ok (.ifCond .ne 19, 3) := by decide +kernel
theorem dX11_two_111 : decode cX11_two 111 = .ok (.aload_n 0, 1) := by decide +kernel
theorem dX11_two_112 : decode cX11_two 112 = .ok (.iload 4, 2) := by decide +kernel
theorem dX11_two_114 : decode cX11_two 114 = .ok (.iconst 0, 1) := by decide +kernel
theorem dX11_two_115 : decode cX11_two 115 = .ok (.invokevirtual 292, 3) := by decide +kernel
theorem dX11_two_118 : decode cX11_two 118 = .ok (.ldc 135, 2) := by decide +kernel
theorem dX11_two_120 : decode cX11_two 120 = .ok (.if_icmp .ge 7, 3) := by decide +kernel
theorem dX11_two_123 : decode cX11_two 123 = .ok (.iconst 1, 1) := by decide +kernel
theorem dX11_two_124 : decode cX11_two 124 = .ok (.goto 4, 3) := by decide +kernel
theorem dX11_two_127 : decode cX11_two 127 = .ok (.iconst 0, 1) := by decide +kernel
theorem dX11_two_128 : decode cX11_two 128 = .ok (.istore 5, 2) := by decide +kernel
theorem dX11_two_130 : decode cX11_two 130 = .ok (.iconst 0, 1) := by decide +kernel
theorem dX11_two_131 : decode cX11_two 131 = .ok (.istore 6, 2) := by decide +kernel
theorem dX11_two_133 : decode cX11_two 133 = .ok (.iload 6, 2) := by decide +kernel
theorem dX11_two_135 : decode cX11_two 135 = .ok (.bipush 64, 2) := by decide +kernel
theorem dX11_two_137 : decode cX11_two 137 = .ok (.if_icmp .ge 60, 3) := by decide +kernel
theorem dX11_two_140 : decode cX11_two 140 = .ok (.iload 5, 2) := by decide +kernel
theorem dX11_two_142 : decode cX11_two 142 = .ok (.ifCond .eq 55, 3) := by decide +kernel
theorem dX11_two_145 : decode cX11_two 145 = .ok (.aload_n 0, 1) := by decide +kernel
theorem dX11_two_146 : decode cX11_two 146 = .ok (.getfield 72, 3) := by decide +kernel
theorem dX11_two_149 : decode cX11_two 149 = .ok (.iload 6, 2) := by decide +kernel
theorem dX11_two_151 : decode cX11_two 151 = .ok (.baload, 1) := by decide +kernel
theorem dX11_two_152 : decode cX11_two 152 = .ok (.ifCond .eq 23, 3) := by decide +kernel
theorem dX11_two_155 : decode cX11_two 155 = .ok (.iload 4, 2) := by decide +kernel
theorem dX11_two_157 : decode cX11_two 157 = .ok (.iload 6, 2) := by decide +kernel
theorem dX11_two_159 : decode cX11_two 159 = .ok (.iand, 1) := by decide +kernel
theorem dX11_two_160 : decode cX11_two 160 = .ok (.ifCond .ne 15, 3) := by decide +kernel
theorem dX11_two_163 : decode cX11_two 163 = .ok (.aload_n 0, 1) := by decide +kernel
theorem dX11_two_164 : decode cX11_two 164 = .ok (.iload 4, 2) := by decide +kernel
theorem dX11_two_166 : decode cX11_two 166 = .ok (.iload 6, 2) := by decide +kernel
theorem dX11_two_168 : decode cX11_two 168 = .ok (.ior, 1) := by decide +kernel
theorem dX11_two_169 : decode cX11_two 169 = .ok (.invokevirtual 225, 3) := by decide +kernel
theorem dX11_two_172 : decode cX11_two 172 = .ok (.goto 4, 3) := by decide +kernel
theorem dX11_two_175 : decode cX11_two 175 = .ok (.iconst 0, 1) := by decide +kernel
theorem dX11_two_176 : decode cX11_two 176 = .ok (.istore 7, 2) := by decide +kernel
theorem dX11_two_178 : decode cX11_two 178 = .ok (.iload 7, 2) := by decide +kernel
theorem dX11_two_180 : decode cX11_two 180 = .ok (.iload_n 3, 1) := by decide +kernel
theorem dX11_two_181 : decode cX11_two 181 = .ok (.if_icmp .le 8, 3) := by decide +kernel
theorem dX11_two_184 : decode cX11_two 184 = .ok (.iload 7, 2) := by decide +kernel
theorem dX11_two_186 : decode cX11_two 186 = .ok (.goto 4, 3) := by decide +kernel
theorem dX11_two_189 : decode cX11_two 189 = .ok (.iload_n 3, 1) := by decide +kernel
theorem dX11_two_190 : decode cX11_two 190 = .ok (.istore_n 3, 1) := by decide +kernel
theorem dX11_two_191 : decode cX11_two 191 = .ok (.iinc 6 1, 3) := by decide +kernel
theorem dX11_two_194 : decode cX11_two 194 = .ok (.goto (-61), 3) := by decide +kernel
theorem dX11_two_197 : decode cX11_two 197 = .ok (.iinc 4 1, 3) := by decide +kernel
theorem dX11_two_200 : decode cX11_two 200 = .ok (.goto (-105), 3) := by decide +kernel
theorem dX11_two_203 : decode cX11_two 203 = .ok (.iload_n 3, 1) := by decide +kernel
theorem dX11_two_204 : decode cX11_two 204 = .ok (.ireturn, 1) := by decide +kernel
theorem dX11_costOf_0 : decode cX11_costOf 0 = .ok (.iconst 0, 1) := by decide +kernel
theorem dX11_costOf_1 : decode cX11_costOf 1 = .ok (.istore_n 2, 1) := by decide +kernel
theorem dX11_costOf_2 : decode cX11_costOf 2 = .ok (.iconst 0, 1) := by decide +kernel
theorem dX11_costOf_3 : decode cX11_costOf 3 = .ok (.istore_n 3, 1) := by decide +kernel
theorem dX11_costOf_4 : decode cX11_costOf 4 = .ok (.iload_n 3, 1) := by decide +kernel
theorem dX11_costOf_5 : decode cX11_costOf 5 = .ok (.aload_n 0, 1) := by decide +kernel
theorem dX11_costOf_6 : decode cX11_costOf 6 = .ok (.getfield 109, 3) := by decide +kernel
theorem dX11_costOf_9 : decode cX11_costOf 9 = .ok (.if_icmp .ge 48, 3) := by decide +kernel
theorem dX11_costOf_12 : decode cX11_costOf 12 = .ok (.aload_n 0, 1) := by decide +kernel
theorem dX11_costOf_13 : decode cX11_costOf 13 = .ok (.getfield 30, 3) := by decide +kernel
theorem dX11_costOf_16 : decode cX11_costOf 16 = .ok (.iconst 5, 1) := by decide +kernel
theorem dX11_costOf_17 : decode cX11_costOf 17 = .ok (.iload_n 3, 1) := by decide +kernel
theorem dX11_costOf_18 : decode cX11_costOf 18 = .ok (.imul, 1) := by decide +kernel
theorem dX11_costOf_19 : decode cX11_costOf 19 = .ok (.iconst 4, 1) := by decide +kernel
theorem dX11_costOf_20 : decode cX11_costOf 20 = .ok (.iadd, 1) := by decide +kernel
theorem dX11_costOf_21 : decode cX11_costOf 21 = .ok (.iaload, 1) := by decide +kernel
theorem dX11_costOf_22 : decode cX11_costOf 22 = .ok (.istore 4, 2) := by decide +kernel
theorem dX11_costOf_24 : decode cX11_costOf 24 = .ok (.iload_n 2, 1) := by decide +kernel
theorem dX11_costOf_25 : decode cX11_costOf 25 = .ok (.iload_n 1, 1) := by decide +kernel
theorem dX11_costOf_26 : decode cX11_costOf 26 = .ok (.iload_n 3, 1) := by decide +kernel
theorem dX11_costOf_27 : decode cX11_costOf 27 = .ok (.invokestatic 219, 3) := by decide +kernel
theorem dX11_costOf_30 : decode cX11_costOf 30 = .ok (.ifCond .ne 7, 3) := by decide +kernel
theorem dX11_costOf_33 : decode cX11_costOf 33 = .ok (.iconst 0, 1) := by decide +kernel
theorem dX11_costOf_34 : decode cX11_costOf 34 = .ok (.goto 15, 3) := by decide +kernel
theorem dX11_costOf_37 : decode cX11_costOf 37 = .ok (.iload 4, 2) := by decide +kernel
theorem dX11_costOf_39 : decode cX11_costOf 39 = .ok (.ifCond .ge 8, 3) := by decide +kernel
theorem dX11_costOf_42 : decode cX11_costOf 42 = .ok (.ldc 135, 2) := by decide +kernel
theorem dX11_costOf_44 : decode cX11_costOf 44 = .ok (.goto 5, 3) := by decide +kernel
theorem dX11_costOf_47 : decode cX11_costOf 47 = .ok (.iload 4, 2) := by decide +kernel
theorem dX11_costOf_49 : decode cX11_costOf 49 = .ok (.iadd, 1) := by decide +kernel
theorem dX11_costOf_50 : decode cX11_costOf 50 = .ok (.istore_n 2, 1) := by decide +kernel
theorem dX11_costOf_51 : decode cX11_costOf 51 = .ok (.iinc 3 1, 3) := by decide +kernel
theorem dX11_costOf_54 : decode cX11_costOf 54 = .ok (.goto (-50), 3) := by decide +kernel
theorem dX11_costOf_57 : decode cX11_costOf 57 = .ok (.iload_n 2, 1) := by decide +kernel
theorem dX11_costOf_58 : decode cX11_costOf 58 = .ok (.ireturn, 1) := by decide +kernel
theorem dX11_reword_0 : decode cX11_reword 0 = .ok (.iload_n 1, 1) := by decide +kernel
theorem dX11_reword_1 : decode cX11_reword 1 = .ok (.i2l, 1) := by decide +kernel
theorem dX11_reword_2 : decode cX11_reword 2 = .ok (.lconst 0, 1) := by decide +kernel
theorem dX11_reword_3 : decode cX11_reword 3 = .ok (.lconst 1, 1) := by decide +kernel
theorem dX11_reword_4 : decode cX11_reword 4 = .ok (.invokestatic 102, 3) := by decide +kernel
theorem dX11_reword_7 : decode cX11_reword 7 = .ok (.ifCond .ne 6, 3) := by decide +kernel
theorem dX11_reword_10 : decode cX11_reword 10 = .ok (.ldc 114, 2) := by decide +kernel
theorem dX11_reword_12 : decode cX11_reword 12 = .ok (.ireturn, 1) := by decide +kernel
theorem dX11_reword_13 : decode cX11_reword 13 = .ok (.aload_n 0, 1) := by decide +kernel
theorem dX11_reword_14 : decode cX11_reword 14 = .ok (.iconst 0, 1) := by decide +kernel
theorem dX11_reword_15 : decode cX11_reword 15 = .ok (.invokevirtual 222, 3) := by decide +kernel
theorem dX11_reword_18 : decode cX11_reword 18 = .ok (.istore_n 2, 1) := by decide +kernel
theorem dX11_reword_19 : decode cX11_reword 19 = .ok (.aload_n 0, 1) := by decide +kernel
theorem dX11_reword_20 : decode cX11_reword 20 = .ok (.aload_n 0, 1) := by decide +kernel
theorem dX11_reword_21 : decode cX11_reword 21 = .ok (.getfield 39, 3) := by decide +kernel
theorem dX11_reword_24 : decode cX11_reword 24 = .ok (.iconst 0, 1) := by decide +kernel
theorem dX11_reword_25 : decode cX11_reword 25 = .ok (.iaload, 1) := by decide +kernel
theorem dX11_reword_26 : decode cX11_reword 26 = .ok (.aload_n 0, 1) := by decide +kernel
theorem dX11_reword_27 : decode cX11_reword 27 = .ok (.getfield 39, 3) := by decide +kernel
theorem dX11_reword_30 : decode cX11_reword 30 = .ok (.iconst 1, 1) := by decide +kernel
theorem dX11_reword_31 : decode cX11_reword 31 = .ok (.iaload, 1) := by decide +kernel
theorem dX11_reword_32 : decode cX11_reword 32 = .ok (.iload_n 2, 1) := by decide +kernel
theorem dX11_reword_33 : decode cX11_reword 33 = .ok (.invokevirtual 288, 3) := by decide +kernel
theorem dX11_reword_36 : decode cX11_reword 36 = .ok (.iconst (-1), 1) := by decide +kernel
theorem dX11_reword_37 : decode cX11_reword 37 = .ok (.istore_n 3, 1) := by decide +kernel
theorem dX11_reword_38 : decode cX11_reword 38 = .ok (.ldc 135, 2) := by decide +kernel
theorem dX11_reword_40 : decode cX11_reword 40 = .ok (.istore 4, 2) := by decide +kernel
theorem dX11_reword_42 : decode cX11_reword 42 = .ok (.iconst 0, 1) := by decide +kernel
theorem dX11_reword_43 : decode cX11_reword 43 = .ok (.istore 5, 2) := by decide +kernel
theorem dX11_reword_45 : decode cX11_reword 45 = .ok (.iload 5, 2) := by decide +kernel
theorem dX11_reword_47 : decode cX11_reword 47 = .ok (.bipush 64, 2) := by decide +kernel
theorem dX11_reword_49 : decode cX11_reword 49 = .ok (.if_icmp .ge 56, 3) := by decide +kernel
theorem dX11_reword_52 : decode cX11_reword 52 = .ok (.iload 5, 2) := by decide +kernel
theorem dX11_reword_54 : decode cX11_reword 54 = .ok (.iload_n 2, 1) := by decide +kernel
theorem dX11_reword_55 : decode cX11_reword 55 = .ok (.iconst (-1), 1) := by decide +kernel
theorem dX11_reword_56 : decode cX11_reword 56 = .ok (.ixor, 1) := by decide +kernel
theorem dX11_reword_57 : decode cX11_reword 57 = .ok (.iand, 1) := by decide +kernel
theorem dX11_reword_58 : decode cX11_reword 58 = .ok (.ifCond .ne 41, 3) := by decide +kernel
theorem dX11_reword_61 : decode cX11_reword 61 = .ok (.aload_n 0, 1) := by decide +kernel
theorem dX11_reword_62 : decode cX11_reword 62 = .ok (.iload_n 2, 1) := by decide +kernel
theorem dX11_reword_63 : decode cX11_reword 63 = .ok (.iload 5, 2) := by decide +kernel
theorem dX11_reword_65 : decode cX11_reword 65 = .ok (.iconst (-1), 1) := by decide +kernel
theorem dX11_reword_66 : decode cX11_reword 66 = .ok (.ixor, 1) := by decide +kernel
theorem dX11_reword_67 : decode cX11_reword 67 = .ok (.iand, 1) := by decide +kernel
theorem dX11_reword_68 : decode cX11_reword 68 = .ok (.iconst 0, 1) := by decide +kernel
theorem dX11_reword_69 : decode cX11_reword 69 = .ok (.invokevirtual 292, 3) := by decide +kernel
theorem dX11_reword_72 : decode cX11_reword 72 = .ok (.ldc 135, 2) := by decide +kernel
theorem dX11_reword_74 : decode cX11_reword 74 = .ok (.if_icmp .ge 25, 3) := by decide +kernel
theorem dX11_reword_77 : decode cX11_reword 77 = .ok (.aload_n 0, 1) := by decide +kernel
theorem dX11_reword_78 : decode cX11_reword 78 = .ok (.iload 5, 2) := by decide +kernel
theorem dX11_reword_80 : decode cX11_reword 80 = .ok (.invokevirtual 298, 3) := by decide +kernel
theorem dX11_reword_83 : decode cX11_reword 83 = .ok (.iload 4, 2) := by decide +kernel
theorem dX11_reword_85 : decode cX11_reword 85 = .ok (.if_icmp .ge 14, 3) := by decide +kernel
theorem dX11_reword_88 : decode cX11_reword 88 = .ok (.iload 5, 2) := by decide +kernel
theorem dX11_reword_90 : decode cX11_reword 90 = .ok (.istore_n 3, 1) := by decide +kernel
theorem dX11_reword_91 : decode cX11_reword 91 = .ok (.aload_n 0, 1) := by decide +kernel
theorem dX11_reword_92 : decode cX11_reword 92 = .ok (.iload 5, 2) := by decide +kernel
theorem dX11_reword_94 : decode cX11_reword 94 = .ok (.invokevirtual 298, 3) := by decide +kernel
theorem dX11_reword_97 : decode cX11_reword 97 = .ok (.istore 4, 2) := by decide +kernel
theorem dX11_reword_99 : decode cX11_reword 99 = .ok (.iinc 5 1, 3) := by decide +kernel
theorem dX11_reword_102 : decode cX11_reword 102 = .ok (.goto (-57), 3) := by decide +kernel
theorem dX11_reword_105 : decode cX11_reword 105 = .ok (.iload_n 3, 1) := by decide +kernel
theorem dX11_reword_106 : decode cX11_reword 106 = .ok (.ifCond .ge 7, 3) := by decide +kernel
theorem dX11_reword_109 : decode cX11_reword 109 = .ok (.iconst (-1), 1) := by decide +kernel
theorem dX11_reword_110 : decode cX11_reword 110 = .ok (.goto 13, 3) := by decide +kernel
theorem dX11_reword_113 : decode cX11_reword 113 = .ok (.iload_n 1, 1) := by decide +kernel
theorem dX11_reword_114 : decode cX11_reword 114 = .ok (.ifCond .ne 7, 3) := by decide +kernel
theorem dX11_reword_117 : decode cX11_reword 117 = .ok (.iload_n 3, 1) := by decide +kernel
theorem dX11_reword_118 : decode cX11_reword 118 = .ok (.goto 5, 3) := by decide +kernel
theorem dX11_reword_121 : decode cX11_reword 121 = .ok (.iload 4, 2) := by decide +kernel
theorem dX11_reword_123 : decode cX11_reword 123 = .ok (.ireturn, 1) := by decide +kernel
theorem dX11_chain_0 : decode cX11_chain 0 = .ok (.aload_n 0, 1) := by decide +kernel
theorem dX11_chain_1 : decode cX11_chain 1 = .ok (.iload_n 1, 1) := by decide +kernel
theorem dX11_chain_2 : decode cX11_chain 2 = .ok (.iload_n 2, 1) := by decide +kernel
theorem dX11_chain_3 : decode cX11_chain 3 = .ok (.invokevirtual 244, 3) := by decide +kernel
theorem dX11_chain_6 : decode cX11_chain 6 = .ok (.ifCond .ne 6, 3) := by decide +kernel
theorem dX11_chain_9 : decode cX11_chain 9 = .ok (.ldc 235, 2) := by decide +kernel
theorem dX11_chain_11 : decode cX11_chain 11 = .ok (.ireturn, 1) := by decide +kernel
theorem dX11_chain_12 : decode cX11_chain 12 = .ok (.iload_n 3, 1) := by decide +kernel
theorem dX11_chain_13 : decode cX11_chain 13 = .ok (.i2l, 1) := by decide +kernel
theorem dX11_chain_14 : decode cX11_chain 14 = .ok (.lconst 0, 1) := by decide +kernel
theorem dX11_chain_15 : decode cX11_chain 15 = .ok (.lconst 1, 1) := by decide +kernel
theorem dX11_chain_16 : decode cX11_chain 16 = .ok (.invokestatic 102, 3) := by decide +kernel
theorem dX11_chain_19 : decode cX11_chain 19 = .ok (.ifCond .ne 6, 3) := by decide +kernel
theorem dX11_chain_22 : decode cX11_chain 22 = .ok (.ldc 114, 2) := by decide +kernel
theorem dX11_chain_24 : decode cX11_chain 24 = .ok (.ireturn, 1) := by decide +kernel
theorem dX11_chain_25 : decode cX11_chain 25 = .ok (.iconst (-1), 1) := by decide +kernel
theorem dX11_chain_26 : decode cX11_chain 26 = .ok (.istore 4, 2) := by decide +kernel
theorem dX11_chain_28 : decode cX11_chain 28 = .ok (.iconst (-1), 1) := by decide +kernel
theorem dX11_chain_29 : decode cX11_chain 29 = .ok (.istore 5, 2) := by decide +kernel
theorem dX11_chain_31 : decode cX11_chain 31 = .ok (.iconst 1, 1) := by decide +kernel
theorem dX11_chain_32 : decode cX11_chain 32 = .ok (.istore 6, 2) := by decide +kernel
theorem dX11_chain_34 : decode cX11_chain 34 = .ok (.iconst 0, 1) := by decide +kernel
theorem dX11_chain_35 : decode cX11_chain 35 = .ok (.istore 7, 2) := by decide +kernel
theorem dX11_chain_37 : decode cX11_chain 37 = .ok (.iload 7, 2) := by decide +kernel
theorem dX11_chain_39 : decode cX11_chain 39 = .ok (.iconst 2, 1) := by decide +kernel
theorem dX11_chain_40 : decode cX11_chain 40 = .ok (.iadd, 1) := by decide +kernel
theorem dX11_chain_41 : decode cX11_chain 41 = .ok (.aload_n 0, 1) := by decide +kernel
theorem dX11_chain_42 : decode cX11_chain 42 = .ok (.getfield 106, 3) := by decide +kernel
theorem dX11_chain_45 : decode cX11_chain 45 = .ok (.if_icmp .gt 61, 3) := by decide +kernel
theorem dX11_chain_48 : decode cX11_chain 48 = .ok (.iconst 0, 1) := by decide +kernel
theorem dX11_chain_49 : decode cX11_chain 49 = .ok (.istore 8, 2) := by decide +kernel
theorem dX11_chain_51 : decode cX11_chain 51 = .ok (.iload 8, 2) := by decide +kernel
theorem dX11_chain_53 : decode cX11_chain 53 = .ok (.iload 6, 2) := by decide +kernel
theorem dX11_chain_55 : decode cX11_chain 55 = .ok (.if_icmp .ge 38, 3) := by decide +kernel
theorem dX11_chain_58 : decode cX11_chain 58 = .ok (.aload_n 0, 1) := by decide +kernel
theorem dX11_chain_59 : decode cX11_chain 59 = .ok (.iload_n 1, 1) := by decide +kernel
theorem dX11_chain_60 : decode cX11_chain 60 = .ok (.iload_n 2, 1) := by decide +kernel
theorem dX11_chain_61 : decode cX11_chain 61 = .ok (.iload 8, 2) := by decide +kernel
theorem dX11_chain_63 : decode cX11_chain 63 = .ok (.iload 7, 2) := by decide +kernel
theorem dX11_chain_65 : decode cX11_chain 65 = .ok (.invokevirtual 301, 3) := by decide +kernel
theorem dX11_chain_68 : decode cX11_chain 68 = .ok (.istore 9, 2) := by decide +kernel
theorem dX11_chain_70 : decode cX11_chain 70 = .ok (.iload 9, 2) := by decide +kernel
theorem dX11_chain_72 : decode cX11_chain 72 = .ok (.iload 4, 2) := by decide +kernel
theorem dX11_chain_74 : decode cX11_chain 74 = .ok (.if_icmp .le 13, 3) := by decide +kernel
theorem dX11_chain_77 : decode cX11_chain 77 = .ok (.iload 9, 2) := by decide +kernel
theorem dX11_chain_79 : decode cX11_chain 79 = .ok (.istore 4, 2) := by decide +kernel
theorem dX11_chain_81 : decode cX11_chain 81 = .ok (.iload 7, 2) := by decide +kernel
theorem dX11_chain_83 : decode cX11_chain 83 = .ok (.iconst 2, 1) := by decide +kernel
theorem dX11_chain_84 : decode cX11_chain 84 = .ok (.iadd, 1) := by decide +kernel
theorem dX11_chain_85 : decode cX11_chain 85 = .ok (.istore 5, 2) := by decide +kernel
theorem dX11_chain_87 : decode cX11_chain 87 = .ok (.iinc 8 1, 3) := by decide +kernel
theorem dX11_chain_90 : decode cX11_chain 90 = .ok (.goto (-39), 3) := by decide +kernel
theorem dX11_chain_93 : decode cX11_chain 93 = .ok (.iload 6, 2) := by decide +kernel
theorem dX11_chain_95 : decode cX11_chain 95 = .ok (.bipush 6, 2) := by decide +kernel
theorem dX11_chain_97 : decode cX11_chain 97 = .ok (.imul, 1) := by decide +kernel
theorem dX11_chain_98 : decode cX11_chain 98 = .ok (.istore 6, 2) := by decide +kernel
theorem dX11_chain_100 : decode cX11_chain 100 = .ok (.iinc 7 1, 3) := by decide +kernel
theorem dX11_chain_103 : decode cX11_chain 103 = .ok (.goto (-66), 3) := by decide +kernel
theorem dX11_chain_106 : decode cX11_chain 106 = .ok (.iload_n 3, 1) := by decide +kernel
theorem dX11_chain_107 : decode cX11_chain 107 = .ok (.ifCond .ne 8, 3) := by decide +kernel
theorem dX11_chain_110 : decode cX11_chain 110 = .ok (.iload 4, 2) := by decide +kernel
theorem dX11_chain_112 : decode cX11_chain 112 = .ok (.goto 5, 3) := by decide +kernel
theorem dX11_chain_115 : decode cX11_chain 115 = .ok (.iload 5, 2) := by decide +kernel
theorem dX11_chain_117 : decode cX11_chain 117 = .ok (.ireturn, 1) := by decide +kernel
theorem dX11_oddsOf_0 : decode cX11_oddsOf 0 = .ok (.iconst 1, 1) := by decide +kernel
theorem dX11_oddsOf_1 : decode cX11_oddsOf 1 = .ok (.iload_n 1, 1) := by decide +kernel
theorem dX11_oddsOf_2 : decode cX11_oddsOf 2 = .ok (.ishl, 1) := by decide +kernel
theorem dX11_oddsOf_3 : decode cX11_oddsOf 3 = .ok (.iconst 1, 1) := by decide +kernel
theorem dX11_oddsOf_4 : decode cX11_oddsOf 4 = .ok (.iload_n 2, 1) := by decide +kernel
theorem dX11_oddsOf_5 : decode cX11_oddsOf 5 = .ok (.ishl, 1) := by decide +kernel
theorem dX11_oddsOf_6 : decode cX11_oddsOf 6 = .ok (.ior, 1) := by decide +kernel
theorem dX11_oddsOf_7 : decode cX11_oddsOf 7 = .ok (.istore 5, 2) := by decide +kernel
theorem dX11_oddsOf_9 : decode cX11_oddsOf 9 = .ok (.iload_n 1, 1) := by decide +kernel
theorem dX11_oddsOf_10 : decode cX11_oddsOf 10 = .ok (.istore 6, 2) := by decide +kernel
theorem dX11_oddsOf_12 : decode cX11_oddsOf 12 = .ok (.iload_n 3, 1) := by decide +kernel
theorem dX11_oddsOf_13 : decode cX11_oddsOf 13 = .ok (.istore 7, 2) := by decide +kernel
theorem dX11_oddsOf_15 : decode cX11_oddsOf 15 = .ok (.ldc2_w 305, 3) := by decide +kernel
theorem dX11_oddsOf_18 : decode cX11_oddsOf 18 = .ok (.lstore 8, 2) := by decide +kernel
theorem dX11_oddsOf_20 : decode cX11_oddsOf 20 = .ok (.iconst 0, 1) := by decide +kernel
theorem dX11_oddsOf_21 : decode cX11_oddsOf 21 = .ok (.istore 10, 2) := by decide +kernel
theorem dX11_oddsOf_23 : decode cX11_oddsOf 23 = .ok (.iload 10, 2) := by decide +kernel
theorem dX11_oddsOf_25 : decode cX11_oddsOf 25 = .ok (.iload 4, 2) := by decide +kernel
theorem dX11_oddsOf_27 : decode cX11_oddsOf 27 = .ok (.if_icmp .gt 114, 3) := by decide +kernel
theorem dX11_oddsOf_30 : decode cX11_oddsOf 30 = .ok (.iload 10, 2) := by decide +kernel
theorem dX11_oddsOf_32 : decode cX11_oddsOf 32 = .ok (.iload 4, 2) := by decide +kernel
theorem dX11_oddsOf_34 : decode cX11_oddsOf 34 = .ok (.if_icmp .ne 7, 3) := by decide +kernel
theorem dX11_oddsOf_37 : decode cX11_oddsOf 37 = .ok (.iload_n 2, 1) := by decide +kernel
theorem dX11_oddsOf_38 : decode cX11_oddsOf 38 = .ok (.goto 8, 3) := by decide +kernel
theorem dX11_oddsOf_41 : decode cX11_oddsOf 41 = .ok (.iload 7, 2) := by decide +kernel
theorem dX11_oddsOf_43 : decode cX11_oddsOf 43 = .ok (.bipush 6, 2) := by decide +kernel
theorem dX11_oddsOf_45 : decode cX11_oddsOf 45 = .ok (.irem, 1) := by decide +kernel
theorem dX11_oddsOf_46 : decode cX11_oddsOf 46 = .ok (.istore 11, 2) := by decide +kernel
theorem dX11_oddsOf_48 : decode cX11_oddsOf 48 = .ok (.iload 7, 2) := by decide +kernel
theorem dX11_oddsOf_50 : decode cX11_oddsOf 50 = .ok (.bipush 6, 2) := by decide +kernel
theorem dX11_oddsOf_52 : decode cX11_oddsOf 52 = .ok (.idiv, 1) := by decide +kernel
theorem dX11_oddsOf_53 : decode cX11_oddsOf 53 = .ok (.istore 7, 2) := by decide +kernel
theorem dX11_oddsOf_55 : decode cX11_oddsOf 55 = .ok (.iload 10, 2) := by decide +kernel
theorem dX11_oddsOf_57 : decode cX11_oddsOf 57 = .ok (.iload 4, 2) := by decide +kernel
theorem dX11_oddsOf_59 : decode cX11_oddsOf 59 = .ok (.if_icmp .ge 22, 3) := by decide +kernel
theorem dX11_oddsOf_62 : decode cX11_oddsOf 62 = .ok (.iload 11, 2) := by decide +kernel
theorem dX11_oddsOf_64 : decode cX11_oddsOf 64 = .ok (.aload_n 0, 1) := by decide +kernel
theorem dX11_oddsOf_65 : decode cX11_oddsOf 65 = .ok (.getfield 106, 3) := by decide +kernel
theorem dX11_oddsOf_68 : decode cX11_oddsOf 68 = .ok (.if_icmp .ge 29, 3) := by decide +kernel
theorem dX11_oddsOf_71 : decode cX11_oddsOf 71 = .ok (.iload 5, 2) := by decide +kernel

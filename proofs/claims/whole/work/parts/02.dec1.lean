theorem dX10_init_35 : decode cX10_init 35 = .ok (.dup, 1) := by decide +kernel
theorem dX10_init_36 : decode cX10_init 36 = .ok (.invokespecial 22, 3) := by decide +kernel
theorem dX10_init_39 : decode cX10_init 39 = .ok (.putfield 27, 3) := by decide +kernel
theorem dX10_init_42 : decode cX10_init 42 = .ok (.aload_n 0, 1) := by decide +kernel
theorem dX10_init_43 : decode cX10_init 43 = .ok (.new 30, 3) := by decide +kernel
theorem dX10_init_46 : decode cX10_init 46 = .ok (.dup, 1) := by decide +kernel
theorem dX10_init_47 : decode cX10_init 47 = .ok (.invokespecial 32, 3) := by decide +kernel
theorem dX10_init_50 : decode cX10_init 50 = .ok (.putfield 33, 3) := by decide +kernel
theorem dX10_init_53 : decode cX10_init 53 = .ok (.aload_n 0, 1) := by decide +kernel
theorem dX10_init_54 : decode cX10_init 54 = .ok (.new 30, 3) := by decide +kernel
theorem dX10_init_57 : decode cX10_init 57 = .ok (.dup, 1) := by decide +kernel
theorem dX10_init_58 : decode cX10_init 58 = .ok (.invokespecial 32, 3) := by decide +kernel
theorem dX10_init_61 : decode cX10_init 61 = .ok (.putfield 37, 3) := by decide +kernel
theorem dX10_init_64 : decode cX10_init 64 = .ok (.aload_n 0, 1) := by decide +kernel
theorem dX10_init_65 : decode cX10_init 65 = .ok (.new 30, 3) := by decide +kernel
theorem dX10_init_68 : decode cX10_init 68 = .ok (.dup, 1) := by decide +kernel
theorem dX10_init_69 : decode cX10_init 69 = .ok (.invokespecial 32, 3) := by decide +kernel
theorem dX10_init_72 : decode cX10_init 72 = .ok (.putfield 40, 3) := by decide +kernel
theorem dX10_init_75 : decode cX10_init 75 = .ok (.aload_n 0, 1) := by decide +kernel
theorem dX10_init_76 : decode cX10_init 76 = .ok (.new 43, 3) := by decide +kernel
theorem dX10_init_79 : decode cX10_init 79 = .ok (.dup, 1) := by decide +kernel
theorem dX10_init_80 : decode cX10_init 80 = .ok (.invokespecial 45, 3) := by decide +kernel
theorem dX10_init_83 : decode cX10_init 83 = .ok (.putfield 46, 3) := by decide +kernel
theorem dX10_init_86 : decode cX10_init 86 = .ok (.aload_n 0, 1) := by decide +kernel
theorem dX10_init_87 : decode cX10_init 87 = .ok (.new 50, 3) := by decide +kernel
theorem dX10_init_90 : decode cX10_init 90 = .ok (.dup, 1) := by decide +kernel
theorem dX10_init_91 : decode cX10_init 91 = .ok (.invokespecial 52, 3) := by decide +kernel
theorem dX10_init_94 : decode cX10_init 94 = .ok (.putfield 53, 3) := by decide +kernel
theorem dX10_init_97 : decode cX10_init 97 = .ok (.aload_n 0, 1) := by decide +kernel
theorem dX10_init_98 : decode cX10_init 98 = .ok (.new 57, 3) := by decide +kernel
theorem dX10_init_101 : decode cX10_init 101 = .ok (.dup, 1) := by decide +kernel
theorem dX10_init_102 : decode cX10_init 102 = .ok (.invokespecial 59, 3) := by decide +kernel
theorem dX10_init_105 : decode cX10_init 105 = .ok (.putfield 60, 3) := by decide +kernel
theorem dX10_init_108 : decode cX10_init 108 = .ok (.aload_n 0, 1) := by decide +kernel
theorem dX10_init_109 : decode cX10_init 109 = .ok (.new 57, 3) := by decide +kernel
theorem dX10_init_112 : decode cX10_init 112 = .ok (.dup, 1) := by decide +kernel
theorem dX10_init_113 : decode cX10_init 113 = .ok (.invokespecial 59, 3) := by decide +kernel
theorem dX10_init_116 : decode cX10_init 116 = .ok (.putfield 64, 3) := by decide +kernel
theorem dX10_init_119 : decode cX10_init 119 = .ok (.aload_n 0, 1) := by decide +kernel
theorem dX10_init_120 : decode cX10_init 120 = .ok (.new 67, 3) := by decide +kernel
theorem dX10_init_123 : decode cX10_init 123 = .ok (.dup, 1) := by decide +kernel
theorem dX10_init_124 : decode cX10_init 124 = .ok (.invokespecial 69, 3) := by decide +kernel
theorem dX10_init_127 : decode cX10_init 127 = .ok (.putfield 70, 3) := by decide +kernel
theorem dX10_init_130 : decode cX10_init 130 = .ok (.aload_n 0, 1) := by decide +kernel
theorem dX10_init_131 : decode cX10_init 131 = .ok (.new 74, 3) := by decide +kernel
theorem dX10_init_134 : decode cX10_init 134 = .ok (.dup, 1) := by decide +kernel
theorem dX10_init_135 : decode cX10_init 135 = .ok (.invokespecial 76, 3) := by decide +kernel
theorem dX10_init_138 : decode cX10_init 138 = .ok (.putfield 77, 3) := by decide +kernel
theorem dX10_init_141 : decode cX10_init 141 = .ok (.aload_n 0, 1) := by decide +kernel
theorem dX10_init_142 : decode cX10_init 142 = .ok (.new 81, 3) := by decide +kernel
theorem dX10_init_145 : decode cX10_init 145 = .ok (.dup, 1) := by decide +kernel
theorem dX10_init_146 : decode cX10_init 146 = .ok (.invokespecial 83, 3) := by decide +kernel
theorem dX10_init_149 : decode cX10_init 149 = .ok (.putfield 84, 3) := by decide +kernel
theorem dX10_init_152 : decode cX10_init 152 = .ok (.aload_n 0, 1) := by decide +kernel
theorem dX10_init_153 : decode cX10_init 153 = .ok (.bipush 6, 2) := by decide +kernel
theorem dX10_init_155 : decode cX10_init 155 = .ok (.newarray .int, 2) := by decide +kernel
theorem dX10_init_157 : decode cX10_init 157 = .ok (.putfield 88, 3) := by decide +kernel
theorem dX10_init_160 : decode cX10_init 160 = .ok (.aload_n 0, 1) := by decide +kernel
theorem dX10_init_161 : decode cX10_init 161 = .ok (.bipush 6, 2) := by decide +kernel
theorem dX10_init_163 : decode cX10_init 163 = .ok (.newarray .int, 2) := by decide +kernel
theorem dX10_init_165 : decode cX10_init 165 = .ok (.putfield 92, 3) := by decide +kernel
theorem dX10_init_168 : decode cX10_init 168 = .ok (.return_, 1) := by decide +kernel
theorem dX10_feed_0 : decode cX10_feed 0 = .ok (.iload_n 1, 1) := by decide +kernel
theorem dX10_feed_1 : decode cX10_feed 1 = .ok (.ifCond .lt 10, 3) := by decide +kernel
theorem dX10_feed_4 : decode cX10_feed 4 = .ok (.iload_n 1, 1) := by decide +kernel
theorem dX10_feed_5 : decode cX10_feed 5 = .ok (.sipush 255, 3) := by decide +kernel
theorem dX10_feed_8 : decode cX10_feed 8 = .ok (.if_icmp .le 6, 3) := by decide +kernel
theorem dX10_feed_11 : decode cX10_feed 11 = .ok (.ldc 95, 2) := by decide +kernel
theorem dX10_feed_13 : decode cX10_feed 13 = .ok (.ireturn, 1) := by decide +kernel
theorem dX10_feed_14 : decode cX10_feed 14 = .ok (.aload_n 0, 1) := by decide +kernel
theorem dX10_feed_15 : decode cX10_feed 15 = .ok (.getfield 10, 3) := by decide +kernel
theorem dX10_feed_18 : decode cX10_feed 18 = .ok (.iload_n 1, 1) := by decide +kernel
theorem dX10_feed_19 : decode cX10_feed 19 = .ok (.i2c, 1) := by decide +kernel
theorem dX10_feed_20 : decode cX10_feed 20 = .ok (.invokevirtual 96, 3) := by decide +kernel
theorem dX10_feed_23 : decode cX10_feed 23 = .ok (.ifCond .eq 13, 3) := by decide +kernel
theorem dX10_feed_26 : decode cX10_feed 26 = .ok (.aload_n 0, 1) := by decide +kernel
theorem dX10_feed_27 : decode cX10_feed 27 = .ok (.getfield 10, 3) := by decide +kernel
theorem dX10_feed_30 : decode cX10_feed 30 = .ok (.getfield 100, 3) := by decide +kernel
theorem dX10_feed_33 : decode cX10_feed 33 = .ok (.goto 5, 3) := by decide +kernel
theorem dX10_feed_36 : decode cX10_feed 36 = .ok (.ldc 103, 2) := by decide +kernel
theorem dX10_feed_38 : decode cX10_feed 38 = .ok (.ireturn, 1) := by decide +kernel
theorem dX10_town_0 : decode cX10_town 0 = .ok (.aload_n 0, 1) := by decide +kernel
theorem dX10_town_1 : decode cX10_town 1 = .ok (.getfield 10, 3) := by decide +kernel
theorem dX10_town_4 : decode cX10_town 4 = .ok (.aload_n 0, 1) := by decide +kernel
theorem dX10_town_5 : decode cX10_town 5 = .ok (.getfield 27, 3) := by decide +kernel
theorem dX10_town_8 : decode cX10_town 8 = .ok (.invokevirtual 104, 3) := by decide +kernel
theorem dX10_town_11 : decode cX10_town 11 = .ok (.istore_n 1, 1) := by decide +kernel
theorem dX10_town_12 : decode cX10_town 12 = .ok (.aload_n 0, 1) := by decide +kernel
theorem dX10_town_13 : decode cX10_town 13 = .ok (.getfield 10, 3) := by decide +kernel
theorem dX10_town_16 : decode cX10_town 16 = .ok (.iconst 0, 1) := by decide +kernel
theorem dX10_town_17 : decode cX10_town 17 = .ok (.putfield 100, 3) := by decide +kernel
theorem dX10_town_20 : decode cX10_town 20 = .ok (.iload_n 1, 1) := by decide +kernel
theorem dX10_town_21 : decode cX10_town 21 = .ok (.ifCond .eq 19, 3) := by decide +kernel
theorem dX10_town_24 : decode cX10_town 24 = .ok (.aload_n 0, 1) := by decide +kernel
theorem dX10_town_25 : decode cX10_town 25 = .ok (.aload_n 0, 1) := by decide +kernel
theorem dX10_town_26 : decode cX10_town 26 = .ok (.getfield 10, 3) := by decide +kernel
theorem dX10_town_29 : decode cX10_town 29 = .ok (.getfield 108, 3) := by decide +kernel
theorem dX10_town_32 : decode cX10_town 32 = .ok (.putfield 16, 3) := by decide +kernel
theorem dX10_town_35 : decode cX10_town 35 = .ok (.bipush (-10), 2) := by decide +kernel
theorem dX10_town_37 : decode cX10_town 37 = .ok (.iload_n 1, 1) := by decide +kernel
theorem dX10_town_38 : decode cX10_town 38 = .ok (.isub, 1) := by decide +kernel
theorem dX10_town_39 : decode cX10_town 39 = .ok (.ireturn, 1) := by decide +kernel
theorem dX10_town_40 : decode cX10_town 40 = .ok (.aload_n 0, 1) := by decide +kernel
theorem dX10_town_41 : decode cX10_town 41 = .ok (.iconst (-1), 1) := by decide +kernel
theorem dX10_town_42 : decode cX10_town 42 = .ok (.putfield 16, 3) := by decide +kernel
theorem dX10_town_45 : decode cX10_town 45 = .ok (.aload_n 0, 1) := by decide +kernel
theorem dX10_town_46 : decode cX10_town 46 = .ok (.getfield 23, 3) := by decide +kernel
theorem dX10_town_49 : decode cX10_town 49 = .ok (.astore_n 2, 1) := by decide +kernel
theorem dX10_town_50 : decode cX10_town 50 = .ok (.aload_n 0, 1) := by decide +kernel
theorem dX10_town_51 : decode cX10_town 51 = .ok (.aload_n 0, 1) := by decide +kernel
theorem dX10_town_52 : decode cX10_town 52 = .ok (.getfield 27, 3) := by decide +kernel
theorem dX10_town_55 : decode cX10_town 55 = .ok (.putfield 23, 3) := by decide +kernel
theorem dX10_town_58 : decode cX10_town 58 = .ok (.aload_n 0, 1) := by decide +kernel
theorem dX10_town_59 : decode cX10_town 59 = .ok (.aload_n 2, 1) := by decide +kernel
theorem dX10_town_60 : decode cX10_town 60 = .ok (.putfield 27, 3) := by decide +kernel
theorem dX10_town_63 : decode cX10_town 63 = .ok (.aload_n 0, 1) := by decide +kernel
theorem dX10_town_64 : decode cX10_town 64 = .ok (.getfield 23, 3) := by decide +kernel
theorem dX10_town_67 : decode cX10_town 67 = .ok (.invokevirtual 111, 3) := by decide +kernel
theorem dX10_town_70 : decode cX10_town 70 = .ok (.aload_n 0, 1) := by decide +kernel
theorem dX10_town_71 : decode cX10_town 71 = .ok (.getfield 33, 3) := by decide +kernel
theorem dX10_town_74 : decode cX10_town 74 = .ok (.aload_n 0, 1) := by decide +kernel
theorem dX10_town_75 : decode cX10_town 75 = .ok (.getfield 23, 3) := by decide +kernel
theorem dX10_town_78 : decode cX10_town 78 = .ok (.invokevirtual 114, 3) := by decide +kernel
theorem dX10_town_81 : decode cX10_town 81 = .ok (.aload_n 0, 1) := by decide +kernel
theorem dX10_town_82 : decode cX10_town 82 = .ok (.getfield 37, 3) := by decide +kernel
theorem dX10_town_85 : decode cX10_town 85 = .ok (.iconst 0, 1) := by decide +kernel
theorem dX10_town_86 : decode cX10_town 86 = .ok (.putfield 118, 3) := by decide +kernel
theorem dX10_town_89 : decode cX10_town 89 = .ok (.aload_n 0, 1) := by decide +kernel
theorem dX10_town_90 : decode cX10_town 90 = .ok (.getfield 40, 3) := by decide +kernel
theorem dX10_town_93 : decode cX10_town 93 = .ok (.iconst 0, 1) := by decide +kernel
theorem dX10_town_94 : decode cX10_town 94 = .ok (.putfield 118, 3) := by decide +kernel
theorem dX10_town_97 : decode cX10_town 97 = .ok (.aload_n 0, 1) := by decide +kernel
theorem dX10_town_98 : decode cX10_town 98 = .ok (.getfield 70, 3) := by decide +kernel
theorem dX10_town_101 : decode cX10_town 101 = .ok (.iconst 0, 1) := by decide +kernel
theorem dX10_town_102 : decode cX10_town 102 = .ok (.putfield 122, 3) := by decide +kernel
theorem dX10_town_105 : decode cX10_town 105 = .ok (.aload_n 0, 1) := by decide +kernel
theorem dX10_town_106 : decode cX10_town 106 = .ok (.getfield 46, 3) := by decide +kernel
theorem dX10_town_109 : decode cX10_town 109 = .ok (.iconst 0, 1) := by decide +kernel
theorem dX10_town_110 : decode cX10_town 110 = .ok (.putfield 125, 3) := by decide +kernel
theorem dX10_town_113 : decode cX10_town 113 = .ok (.aload_n 0, 1) := by decide +kernel
theorem dX10_town_114 : decode cX10_town 114 = .ok (.getfield 23, 3) := by decide +kernel
theorem dX10_town_117 : decode cX10_town 117 = .ok (.getfield 128, 3) := by decide +kernel
theorem dX10_town_120 : decode cX10_town 120 = .ok (.ireturn, 1) := by decide +kernel
theorem dX10_fault_0 : decode cX10_fault 0 = .ok (.aload_n 0, 1) := by decide +kernel
theorem dX10_fault_1 : decode cX10_fault 1 = .ok (.getfield 16, 3) := by decide +kernel
theorem dX10_fault_4 : decode cX10_fault 4 = .ok (.ireturn, 1) := by decide +kernel
theorem dX10_told_0 : decode cX10_told 0 = .ok (.iload_n 1, 1) := by decide +kernel
theorem dX10_told_1 : decode cX10_told 1 = .ok (.tableswitch 172 0 12 #[67, 75, 83, 91, 99, 107, 115, 123, 131, 137, 143, 156, 164], 67) := by decide +kernel
theorem dX10_told_68 : decode cX10_told 68 = .ok (.aload_n 0, 1) := by decide +kernel
theorem dX10_told_69 : decode cX10_told 69 = .ok (.getfield 23, 3) := by decide +kernel
theorem dX10_told_72 : decode cX10_told 72 = .ok (.getfield 131, 3) := by decide +kernel
theorem dX10_told_75 : decode cX10_told 75 = .ok (.ireturn, 1) := by decide +kernel
theorem dX10_told_76 : decode cX10_told 76 = .ok (.aload_n 0, 1) := by decide +kernel
theorem dX10_told_77 : decode cX10_told 77 = .ok (.getfield 23, 3) := by decide +kernel
theorem dX10_told_80 : decode cX10_told 80 = .ok (.getfield 134, 3) := by decide +kernel
theorem dX10_told_83 : decode cX10_told 83 = .ok (.ireturn, 1) := by decide +kernel
theorem dX10_told_84 : decode cX10_told 84 = .ok (.aload_n 0, 1) := by decide +kernel
theorem dX10_told_85 : decode cX10_told 85 = .ok (.getfield 23, 3) := by decide +kernel
theorem dX10_told_88 : decode cX10_told 88 = .ok (.getfield 128, 3) := by decide +kernel
theorem dX10_told_91 : decode cX10_told 91 = .ok (.ireturn, 1) := by decide +kernel
theorem dX10_told_92 : decode cX10_told 92 = .ok (.aload_n 0, 1) := by decide +kernel
theorem dX10_told_93 : decode cX10_told 93 = .ok (.getfield 23, 3) := by decide +kernel
theorem dX10_told_96 : decode cX10_told 96 = .ok (.getfield 137, 3) := by decide +kernel
theorem dX10_told_99 : decode cX10_told 99 = .ok (.ireturn, 1) := by decide +kernel
theorem dX10_told_100 : decode cX10_told 100 = .ok (.aload_n 0, 1) := by decide +kernel
theorem dX10_told_101 : decode cX10_told 101 = .ok (.getfield 10, 3) := by decide +kernel
theorem dX10_told_104 : decode cX10_told 104 = .ok (.getfield 100, 3) := by decide +kernel
theorem dX10_told_107 : decode cX10_told 107 = .ok (.ireturn, 1) := by decide +kernel
theorem dX10_told_108 : decode cX10_told 108 = .ok (.aload_n 0, 1) := by decide +kernel
theorem dX10_told_109 : decode cX10_told 109 = .ok (.getfield 33, 3) := by decide +kernel
theorem dX10_told_112 : decode cX10_told 112 = .ok (.getfield 140, 3) := by decide +kernel
theorem dX10_told_115 : decode cX10_told 115 = .ok (.ireturn, 1) := by decide +kernel
theorem dX10_told_116 : decode cX10_told 116 = .ok (.aload_n 0, 1) := by decide +kernel
theorem dX10_told_117 : decode cX10_told 117 = .ok (.getfield 33, 3) := by decide +kernel
theorem dX10_told_120 : decode cX10_told 120 = .ok (.getfield 143, 3) := by decide +kernel
theorem dX10_told_123 : decode cX10_told 123 = .ok (.ireturn, 1) := by decide +kernel
theorem dX10_told_124 : decode cX10_told 124 = .ok (.aload_n 0, 1) := by decide +kernel
theorem dX10_told_125 : decode cX10_told 125 = .ok (.getfield 33, 3) := by decide +kernel
theorem dX10_told_128 : decode cX10_told 128 = .ok (.getfield 146, 3) := by decide +kernel
theorem dX10_told_131 : decode cX10_told 131 = .ok (.ireturn, 1) := by decide +kernel
theorem dX10_told_132 : decode cX10_told 132 = .ok (.aload_n 0, 1) := by decide +kernel
theorem dX10_told_133 : decode cX10_told 133 = .ok (.iconst 1, 1) := by decide +kernel
theorem dX10_told_134 : decode cX10_told 134 = .ok (.invokevirtual 149, 3) := by decide +kernel
theorem dX10_told_137 : decode cX10_told 137 = .ok (.ireturn, 1) := by decide +kernel
theorem dX10_told_138 : decode cX10_told 138 = .ok (.aload_n 0, 1) := by decide +kernel
theorem dX10_told_139 : decode cX10_told 139 = .ok (.iconst 2, 1) := by decide +kernel
theorem dX10_told_140 : decode cX10_told 140 = .ok (.invokevirtual 149, 3) := by decide +kernel
theorem dX10_told_143 : decode cX10_told 143 = .ok (.ireturn, 1) := by decide +kernel
theorem dX10_told_144 : decode cX10_told 144 = .ok (.aload_n 0, 1) := by decide +kernel
theorem dX10_told_145 : decode cX10_told 145 = .ok (.getfield 23, 3) := by decide +kernel
theorem dX10_told_148 : decode cX10_told 148 = .ok (.aload_n 0, 1) := by decide +kernel
theorem dX10_told_149 : decode cX10_told 149 = .ok (.iconst 1, 1) := by decide +kernel
theorem dX10_told_150 : decode cX10_told 150 = .ok (.invokevirtual 149, 3) := by decide +kernel
theorem dX10_told_153 : decode cX10_told 153 = .ok (.invokevirtual 153, 3) := by decide +kernel
theorem dX10_told_156 : decode cX10_told 156 = .ok (.ireturn, 1) := by decide +kernel
theorem dX10_told_157 : decode cX10_told 157 = .ok (.aload_n 0, 1) := by decide +kernel
theorem dX10_told_158 : decode cX10_told 158 = .ok (.getfield 70, 3) := by decide +kernel
theorem dX10_told_161 : decode cX10_told 161 = .ok (.getfield 122, 3) := by decide +kernel
theorem dX10_told_164 : decode cX10_told 164 = .ok (.ireturn, 1) := by decide +kernel
theorem dX10_told_165 : decode cX10_told 165 = .ok (.aload_n 0, 1) := by decide +kernel
theorem dX10_told_166 : decode cX10_told 166 = .ok (.getfield 46, 3) := by decide +kernel
theorem dX10_told_169 : decode cX10_told 169 = .ok (.getfield 125, 3) := by decide +kernel
theorem dX10_told_172 : decode cX10_told 172 = .ok (.ireturn, 1) := by decide +kernel
theorem dX10_told_173 : decode cX10_told 173 = .ok (.ldc 95, 2) := by decide +kernel
theorem dX10_told_175 : decode cX10_told 175 = .ok (.ireturn, 1) := by decide +kernel
theorem dX10_far_0 : decode cX10_far 0 = .ok (.aload_n 0, 1) := by decide +kernel
theorem dX10_far_1 : decode cX10_far 1 = .ok (.getfield 23, 3) := by decide +kernel
theorem dX10_far_4 : decode cX10_far 4 = .ok (.iload_n 1, 1) := by decide +kernel
theorem dX10_far_5 : decode cX10_far 5 = .ok (.invokevirtual 156, 3) := by decide +kernel
theorem dX10_far_8 : decode cX10_far 8 = .ok (.ifCond .eq 14, 3) := by decide +kernel
theorem dX10_far_11 : decode cX10_far 11 = .ok (.aload_n 0, 1) := by decide +kernel
theorem dX10_far_12 : decode cX10_far 12 = .ok (.getfield 23, 3) := by decide +kernel
theorem dX10_far_15 : decode cX10_far 15 = .ok (.iload_n 2, 1) := by decide +kernel
theorem dX10_far_16 : decode cX10_far 16 = .ok (.invokevirtual 156, 3) := by decide +kernel
theorem dX10_far_19 : decode cX10_far 19 = .ok (.ifCond .ne 6, 3) := by decide +kernel
theorem dX10_far_22 : decode cX10_far 22 = .ok (.ldc 160, 2) := by decide +kernel
theorem dX10_far_24 : decode cX10_far 24 = .ok (.ireturn, 1) := by decide +kernel
theorem dX10_far_25 : decode cX10_far 25 = .ok (.aload_n 0, 1) := by decide +kernel
theorem dX10_far_26 : decode cX10_far 26 = .ok (.getfield 23, 3) := by decide +kernel
theorem dX10_far_29 : decode cX10_far 29 = .ok (.iload_n 1, 1) := by decide +kernel
theorem dX10_far_30 : decode cX10_far 30 = .ok (.iload_n 2, 1) := by decide +kernel
theorem dX10_far_31 : decode cX10_far 31 = .ok (.invokevirtual 161, 3) := by decide +kernel
theorem dX10_far_34 : decode cX10_far 34 = .ok (.ireturn, 1) := by decide +kernel
theorem dX10_person_0 : decode cX10_person 0 = .ok (.aload_n 0, 1) := by decide +kernel
theorem dX10_person_1 : decode cX10_person 1 = .ok (.getfield 23, 3) := by decide +kernel
theorem dX10_person_4 : decode cX10_person 4 = .ok (.iload_n 1, 1) := by decide +kernel
theorem dX10_person_5 : decode cX10_person 5 = .ok (.invokevirtual 165, 3) := by decide +kernel
theorem dX10_person_8 : decode cX10_person 8 = .ok (.ifCond .ne 6, 3) := by decide +kernel
theorem dX10_person_11 : decode cX10_person 11 = .ok (.ldc 160, 2) := by decide +kernel
theorem dX10_person_13 : decode cX10_person 13 = .ok (.ireturn, 1) := by decide +kernel
theorem dX10_person_14 : decode cX10_person 14 = .ok (.iload_n 2, 1) := by decide +kernel
theorem dX10_person_15 : decode cX10_person 15 = .ok (.lookupswitch 45 #[(0, 25), (1, 35)], 25) := by decide +kernel
theorem dX10_person_40 : decode cX10_person 40 = .ok (.aload_n 0, 1) := by decide +kernel
theorem dX10_person_41 : decode cX10_person 41 = .ok (.getfield 23, 3) := by decide +kernel
theorem dX10_person_44 : decode cX10_person 44 = .ok (.getfield 168, 3) := by decide +kernel
theorem dX10_person_47 : decode cX10_person 47 = .ok (.iload_n 1, 1) := by decide +kernel
theorem dX10_person_48 : decode cX10_person 48 = .ok (.iaload, 1) := by decide +kernel
theorem dX10_person_49 : decode cX10_person 49 = .ok (.ireturn, 1) := by decide +kernel
theorem dX10_person_50 : decode cX10_person 50 = .ok (.aload_n 0, 1) := by decide +kernel
theorem dX10_person_51 : decode cX10_person 51 = .ok (.getfield 23, 3) := by decide +kernel
theorem dX10_person_54 : decode cX10_person 54 = .ok (.getfield 171, 3) := by decide +kernel
theorem dX10_person_57 : decode cX10_person 57 = .ok (.iload_n 1, 1) := by decide +kernel
theorem dX10_person_58 : decode cX10_person 58 = .ok (.iaload, 1) := by decide +kernel
theorem dX10_person_59 : decode cX10_person 59 = .ok (.ireturn, 1) := by decide +kernel
theorem dX10_person_60 : decode cX10_person 60 = .ok (.ldc 95, 2) := by decide +kernel
theorem dX10_person_62 : decode cX10_person 62 = .ok (.ireturn, 1) := by decide +kernel
theorem dX10_deed_0 : decode cX10_deed 0 = .ok (.aload_n 0, 1) := by decide +kernel
theorem dX10_deed_1 : decode cX10_deed 1 = .ok (.getfield 23, 3) := by decide +kernel
theorem dX10_deed_4 : decode cX10_deed 4 = .ok (.iload_n 1, 1) := by decide +kernel
theorem dX10_deed_5 : decode cX10_deed 5 = .ok (.invokevirtual 174, 3) := by decide +kernel
theorem dX10_deed_8 : decode cX10_deed 8 = .ok (.ifCond .ne 6, 3) := by decide +kernel
theorem dX10_deed_11 : decode cX10_deed 11 = .ok (.ldc 160, 2) := by decide +kernel
theorem dX10_deed_13 : decode cX10_deed 13 = .ok (.ireturn, 1) := by decide +kernel
theorem dX10_deed_14 : decode cX10_deed 14 = .ok (.iload_n 2, 1) := by decide +kernel
theorem dX10_deed_15 : decode cX10_deed 15 = .ok (.tableswitch 114 0 6 #[41, 51, 61, 71, 81, 91, 104], 41) := by decide +kernel
theorem dX10_deed_56 : decode cX10_deed 56 = .ok (.aload_n 0, 1) := by decide +kernel
theorem dX10_deed_57 : decode cX10_deed 57 = .ok (.getfield 23, 3) := by decide +kernel
theorem dX10_deed_60 : decode cX10_deed 60 = .ok (.getfield 177, 3) := by decide +kernel
theorem dX10_deed_63 : decode cX10_deed 63 = .ok (.iload_n 1, 1) := by decide +kernel
theorem dX10_deed_64 : decode cX10_deed 64 = .ok (.iaload, 1) := by decide +kernel
theorem dX10_deed_65 : decode cX10_deed 65 = .ok (.ireturn, 1) := by decide +kernel
theorem dX10_deed_66 : decode cX10_deed 66 = .ok (.aload_n 0, 1) := by decide +kernel
theorem dX10_deed_67 : decode cX10_deed 67 = .ok (.getfield 23, 3) := by decide +kernel
theorem dX10_deed_70 : decode cX10_deed 70 = .ok (.getfield 180, 3) := by decide +kernel
theorem dX10_deed_73 : decode cX10_deed 73 = .ok (.iload_n 1, 1) := by decide +kernel
theorem dX10_deed_74 : decode cX10_deed 74 = .ok (.iaload, 1) := by decide +kernel
theorem dX10_deed_75 : decode cX10_deed 75 = .ok (.ireturn, 1) := by decide +kernel
theorem dX10_deed_76 : decode cX10_deed 76 = .ok (.aload_n 0, 1) := by decide +kernel
theorem dX10_deed_77 : decode cX10_deed 77 = .ok (.getfield 23, 3) := by decide +kernel
theorem dX10_deed_80 : decode cX10_deed 80 = .ok (.getfield 183, 3) := by decide +kernel
theorem dX10_deed_83 : decode cX10_deed 83 = .ok (.iload_n 1, 1) := by decide +kernel
theorem dX10_deed_84 : decode cX10_deed 84 = .ok (.iaload, 1) := by decide +kernel
theorem dX10_deed_85 : decode cX10_deed 85 = .ok (.ireturn, 1) := by decide +kernel
theorem dX10_deed_86 : decode cX10_deed 86 = .ok (.aload_n 0, 1) := by decide +kernel
theorem dX10_deed_87 : decode cX10_deed 87 = .ok (.getfield 23, 3) := by decide +kernel
theorem dX10_deed_90 : decode cX10_deed 90 = .ok (.getfield 186, 3) := by decide +kernel
theorem dX10_deed_93 : decode cX10_deed 93 = .ok (.iload_n 1, 1) := by decide +kernel
theorem dX10_deed_94 : decode cX10_deed 94 = .ok (.iaload, 1) := by decide +kernel
theorem dX10_deed_95 : decode cX10_deed 95 = .ok (.ireturn, 1) := by decide +kernel
theorem dX10_deed_96 : decode cX10_deed 96 = .ok (.aload_n 0, 1) := by decide +kernel
theorem dX10_deed_97 : decode cX10_deed 97 = .ok (.getfield 23, 3) := by decide +kernel
theorem dX10_deed_100 : decode cX10_deed 100 = .ok (.getfield 189, 3) := by decide +kernel
theorem dX10_deed_103 : decode cX10_deed 103 = .ok (.iload_n 1, 1) := by decide +kernel
theorem dX10_deed_104 : decode cX10_deed 104 = .ok (.iaload, 1) := by decide +kernel
theorem dX10_deed_105 : decode cX10_deed 105 = .ok (.ireturn, 1) := by decide +kernel
theorem dX10_deed_106 : decode cX10_deed 106 = .ok (.aload_n 0, 1) := by decide +kernel
theorem dX10_deed_107 : decode cX10_deed 107 = .ok (.getfield 33, 3) := by decide +kernel
theorem dX10_deed_110 : decode cX10_deed 110 = .ok (.aload_n 0, 1) := by decide +kernel
theorem dX10_deed_111 : decode cX10_deed 111 = .ok (.getfield 23, 3) := by decide +kernel
theorem dX10_deed_114 : decode cX10_deed 114 = .ok (.iload_n 1, 1) := by decide +kernel
theorem dX10_deed_115 : decode cX10_deed 115 = .ok (.invokevirtual 192, 3) := by decide +kernel
theorem dX10_deed_118 : decode cX10_deed 118 = .ok (.ireturn, 1) := by decide +kernel
theorem dX10_deed_119 : decode cX10_deed 119 = .ok (.aload_n 0, 1) := by decide +kernel
theorem dX10_deed_120 : decode cX10_deed 120 = .ok (.getfield 33, 3) := by decide +kernel
theorem dX10_deed_123 : decode cX10_deed 123 = .ok (.getfield 196, 3) := by decide +kernel
theorem dX10_deed_126 : decode cX10_deed 126 = .ok (.iload_n 1, 1) := by decide +kernel
theorem dX10_deed_127 : decode cX10_deed 127 = .ok (.iaload, 1) := by decide +kernel
theorem dX10_deed_128 : decode cX10_deed 128 = .ok (.ireturn, 1) := by decide +kernel
theorem dX10_deed_129 : decode cX10_deed 129 = .ok (.ldc 95, 2) := by decide +kernel
theorem dX10_deed_131 : decode cX10_deed 131 = .ok (.ireturn, 1) := by decide +kernel
theorem dX10_trust_0 : decode cX10_trust 0 = .ok (.aload_n 0, 1) := by decide +kernel
theorem dX10_trust_1 : decode cX10_trust 1 = .ok (.getfield 23, 3) := by decide +kernel
theorem dX10_trust_4 : decode cX10_trust 4 = .ok (.iload_n 1, 1) := by decide +kernel
theorem dX10_trust_5 : decode cX10_trust 5 = .ok (.iload_n 2, 1) := by decide +kernel
theorem dX10_trust_6 : decode cX10_trust 6 = .ok (.invokevirtual 199, 3) := by decide +kernel
theorem dX10_trust_9 : decode cX10_trust 9 = .ok (.ifCond .ne 6, 3) := by decide +kernel
theorem dX10_trust_12 : decode cX10_trust 12 = .ok (.ldc 160, 2) := by decide +kernel
theorem dX10_trust_14 : decode cX10_trust 14 = .ok (.ireturn, 1) := by decide +kernel
theorem dX10_trust_15 : decode cX10_trust 15 = .ok (.aload_n 0, 1) := by decide +kernel
theorem dX10_trust_16 : decode cX10_trust 16 = .ok (.getfield 23, 3) := by decide +kernel
theorem dX10_trust_19 : decode cX10_trust 19 = .ok (.getfield 203, 3) := by decide +kernel
theorem dX10_trust_22 : decode cX10_trust 22 = .ok (.iload_n 1, 1) := by decide +kernel
theorem dX10_trust_23 : decode cX10_trust 23 = .ok (.aaload, 1) := by decide +kernel
theorem dX10_trust_24 : decode cX10_trust 24 = .ok (.iload_n 2, 1) := by decide +kernel
theorem dX10_trust_25 : decode cX10_trust 25 = .ok (.iaload, 1) := by decide +kernel
theorem dX10_trust_26 : decode cX10_trust 26 = .ok (.ireturn, 1) := by decide +kernel
theorem dX10_lets_0 : decode cX10_lets 0 = .ok (.aload_n 0, 1) := by decide +kernel
theorem dX10_lets_1 : decode cX10_lets 1 = .ok (.getfield 23, 3) := by decide +kernel
theorem dX10_lets_4 : decode cX10_lets 4 = .ok (.iload_n 1, 1) := by decide +kernel
theorem dX10_lets_5 : decode cX10_lets 5 = .ok (.invokevirtual 207, 3) := by decide +kernel
theorem dX10_lets_8 : decode cX10_lets 8 = .ok (.ifCond .ne 6, 3) := by decide +kernel
theorem dX10_lets_11 : decode cX10_lets 11 = .ok (.ldc 160, 2) := by decide +kernel
theorem dX10_lets_13 : decode cX10_lets 13 = .ok (.ireturn, 1) := by decide +kernel
theorem dX10_lets_14 : decode cX10_lets 14 = .ok (.aload_n 0, 1) := by decide +kernel
theorem dX10_lets_15 : decode cX10_lets 15 = .ok (.getfield 23, 3) := by decide +kernel
theorem dX10_lets_18 : decode cX10_lets 18 = .ok (.getfield 210, 3) := by decide +kernel
theorem dX10_lets_21 : decode cX10_lets 21 = .ok (.iload_n 1, 1) := by decide +kernel
theorem dX10_lets_22 : decode cX10_lets 22 = .ok (.iaload, 1) := by decide +kernel
theorem dX10_lets_23 : decode cX10_lets 23 = .ok (.ireturn, 1) := by decide +kernel
theorem dX10_lend_0 : decode cX10_lend 0 = .ok (.aload_n 0, 1) := by decide +kernel
theorem dX10_lend_1 : decode cX10_lend 1 = .ok (.getfield 23, 3) := by decide +kernel
theorem dX10_lend_4 : decode cX10_lend 4 = .ok (.iload_n 1, 1) := by decide +kernel
theorem dX10_lend_5 : decode cX10_lend 5 = .ok (.invokevirtual 165, 3) := by decide +kernel
theorem dX10_lend_8 : decode cX10_lend 8 = .ok (.ifCond .ne 6, 3) := by decide +kernel
theorem dX10_lend_11 : decode cX10_lend 11 = .ok (.ldc 160, 2) := by decide +kernel
theorem dX10_lend_13 : decode cX10_lend 13 = .ok (.ireturn, 1) := by decide +kernel
theorem dX10_lend_14 : decode cX10_lend 14 = .ok (.aload_n 0, 1) := by decide +kernel
theorem dX10_lend_15 : decode cX10_lend 15 = .ok (.getfield 33, 3) := by decide +kernel
theorem dX10_lend_18 : decode cX10_lend 18 = .ok (.aload_n 0, 1) := by decide +kernel
theorem dX10_lend_19 : decode cX10_lend 19 = .ok (.getfield 23, 3) := by decide +kernel
theorem dX10_lend_22 : decode cX10_lend 22 = .ok (.iload_n 1, 1) := by decide +kernel
theorem dX10_lend_23 : decode cX10_lend 23 = .ok (.invokevirtual 213, 3) := by decide +kernel
theorem dX10_lend_26 : decode cX10_lend 26 = .ok (.ifCond .ne 6, 3) := by decide +kernel
theorem dX10_lend_29 : decode cX10_lend 29 = .ok (.ldc 217, 2) := by decide +kernel
theorem dX10_lend_31 : decode cX10_lend 31 = .ok (.ireturn, 1) := by decide +kernel
theorem dX10_lend_32 : decode cX10_lend 32 = .ok (.aload_n 0, 1) := by decide +kernel
theorem dX10_lend_33 : decode cX10_lend 33 = .ok (.getfield 33, 3) := by decide +kernel
theorem dX10_lend_36 : decode cX10_lend 36 = .ok (.getfield 140, 3) := by decide +kernel
theorem dX10_lend_39 : decode cX10_lend 39 = .ok (.ldc 218, 2) := by decide +kernel
theorem dX10_lend_41 : decode cX10_lend 41 = .ok (.if_icmp .le 6, 3) := by decide +kernel
theorem dX10_lend_44 : decode cX10_lend 44 = .ok (.ldc 103, 2) := by decide +kernel
theorem dX10_lend_46 : decode cX10_lend 46 = .ok (.ireturn, 1) := by decide +kernel
theorem dX10_lend_47 : decode cX10_lend 47 = .ok (.aload_n 0, 1) := by decide +kernel
theorem dX10_lend_48 : decode cX10_lend 48 = .ok (.getfield 33, 3) := by decide +kernel
theorem dX10_lend_51 : decode cX10_lend 51 = .ok (.aload_n 0, 1) := by decide +kernel
theorem dX10_lend_52 : decode cX10_lend 52 = .ok (.getfield 23, 3) := by decide +kernel
theorem dX10_lend_55 : decode cX10_lend 55 = .ok (.iload_n 1, 1) := by decide +kernel
theorem dX10_lend_56 : decode cX10_lend 56 = .ok (.invokevirtual 219, 3) := by decide +kernel
theorem dX10_lend_59 : decode cX10_lend 59 = .ok (.aload_n 0, 1) := by decide +kernel
theorem dX10_lend_60 : decode cX10_lend 60 = .ok (.getfield 33, 3) := by decide +kernel
theorem dX10_lend_63 : decode cX10_lend 63 = .ok (.getfield 140, 3) := by decide +kernel
theorem dX10_lend_66 : decode cX10_lend 66 = .ok (.ireturn, 1) := by decide +kernel
theorem dX10_act_0 : decode cX10_act 0 = .ok (.aload_n 0, 1) := by decide +kernel
theorem dX10_act_1 : decode cX10_act 1 = .ok (.getfield 23, 3) := by decide +kernel
theorem dX10_act_4 : decode cX10_act 4 = .ok (.iload_n 1, 1) := by decide +kernel
theorem dX10_act_5 : decode cX10_act 5 = .ok (.invokevirtual 174, 3) := by decide +kernel
theorem dX10_act_8 : decode cX10_act 8 = .ok (.ifCond .ne 6, 3) := by decide +kernel
theorem dX10_act_11 : decode cX10_act 11 = .ok (.ldc 160, 2) := by decide +kernel
theorem dX10_act_13 : decode cX10_act 13 = .ok (.ireturn, 1) := by decide +kernel
theorem dX10_act_14 : decode cX10_act 14 = .ok (.aload_n 0, 1) := by decide +kernel
theorem dX10_act_15 : decode cX10_act 15 = .ok (.getfield 33, 3) := by decide +kernel
theorem dX10_act_18 : decode cX10_act 18 = .ok (.aload_n 0, 1) := by decide +kernel
theorem dX10_act_19 : decode cX10_act 19 = .ok (.getfield 23, 3) := by decide +kernel
theorem dX10_act_22 : decode cX10_act 22 = .ok (.iload_n 1, 1) := by decide +kernel
theorem dX10_act_23 : decode cX10_act 23 = .ok (.invokevirtual 192, 3) := by decide +kernel
theorem dX10_act_26 : decode cX10_act 26 = .ok (.ifCond .ne 22, 3) := by decide +kernel
theorem dX10_act_29 : decode cX10_act 29 = .ok (.aload_n 0, 1) := by decide +kernel
theorem dX10_act_30 : decode cX10_act 30 = .ok (.getfield 33, 3) := by decide +kernel
theorem dX10_act_33 : decode cX10_act 33 = .ok (.getfield 146, 3) := by decide +kernel
theorem dX10_act_36 : decode cX10_act 36 = .ok (.aload_n 0, 1) := by decide +kernel
theorem dX10_act_37 : decode cX10_act 37 = .ok (.getfield 23, 3) := by decide +kernel
theorem dX10_act_40 : decode cX10_act 40 = .ok (.getfield 177, 3) := by decide +kernel
theorem dX10_act_43 : decode cX10_act 43 = .ok (.iload_n 1, 1) := by decide +kernel
theorem dX10_act_44 : decode cX10_act 44 = .ok (.iaload, 1) := by decide +kernel
theorem dX10_act_45 : decode cX10_act 45 = .ok (.if_icmp .eq 6, 3) := by decide +kernel
theorem dX10_act_48 : decode cX10_act 48 = .ok (.ldc 217, 2) := by decide +kernel
theorem dX10_act_50 : decode cX10_act 50 = .ok (.ireturn, 1) := by decide +kernel
theorem dX10_act_51 : decode cX10_act 51 = .ok (.aload_n 0, 1) := by decide +kernel
theorem dX10_act_52 : decode cX10_act 52 = .ok (.getfield 33, 3) := by decide +kernel
theorem dX10_act_55 : decode cX10_act 55 = .ok (.aload_n 0, 1) := by decide +kernel
theorem dX10_act_56 : decode cX10_act 56 = .ok (.getfield 23, 3) := by decide +kernel
theorem dX10_act_59 : decode cX10_act 59 = .ok (.iload_n 1, 1) := by decide +kernel
theorem dX10_act_60 : decode cX10_act 60 = .ok (.invokevirtual 223, 3) := by decide +kernel
theorem dX10_act_63 : decode cX10_act 63 = .ok (.aload_n 0, 1) := by decide +kernel
theorem dX10_act_64 : decode cX10_act 64 = .ok (.getfield 33, 3) := by decide +kernel
theorem dX10_act_67 : decode cX10_act 67 = .ok (.getfield 140, 3) := by decide +kernel
theorem dX10_act_70 : decode cX10_act 70 = .ok (.ireturn, 1) := by decide +kernel
theorem dX10_drop_0 : decode cX10_drop 0 = .ok (.aload_n 0, 1) := by decide +kernel
theorem dX10_drop_1 : decode cX10_drop 1 = .ok (.getfield 33, 3) := by decide +kernel
theorem dX10_drop_4 : decode cX10_drop 4 = .ok (.getfield 146, 3) := by decide +kernel
theorem dX10_drop_7 : decode cX10_drop 7 = .ok (.istore_n 1, 1) := by decide +kernel
theorem dX10_drop_8 : decode cX10_drop 8 = .ok (.aload_n 0, 1) := by decide +kernel
theorem dX10_drop_9 : decode cX10_drop 9 = .ok (.getfield 33, 3) := by decide +kernel
theorem dX10_drop_12 : decode cX10_drop 12 = .ok (.iconst (-1), 1) := by decide +kernel
theorem dX10_drop_13 : decode cX10_drop 13 = .ok (.putfield 146, 3) := by decide +kernel
theorem dX10_drop_16 : decode cX10_drop 16 = .ok (.iload_n 1, 1) := by decide +kernel
theorem dX10_drop_17 : decode cX10_drop 17 = .ok (.ireturn, 1) := by decide +kernel
theorem dX10_pass_0 : decode cX10_pass 0 = .ok (.iload_n 1, 1) := by decide +kernel
theorem dX10_pass_1 : decode cX10_pass 1 = .ok (.iconst 1, 1) := by decide +kernel
theorem dX10_pass_2 : decode cX10_pass 2 = .ok (.if_icmp .lt 10, 3) := by decide +kernel
theorem dX10_pass_5 : decode cX10_pass 5 = .ok (.iload_n 1, 1) := by decide +kernel
theorem dX10_pass_6 : decode cX10_pass 6 = .ok (.sipush 999, 3) := by decide +kernel
theorem dX10_pass_9 : decode cX10_pass 9 = .ok (.if_icmp .le 6, 3) := by decide +kernel
theorem dX10_pass_12 : decode cX10_pass 12 = .ok (.ldc 95, 2) := by decide +kernel
theorem dX10_pass_14 : decode cX10_pass 14 = .ok (.ireturn, 1) := by decide +kernel
theorem dX10_pass_15 : decode cX10_pass 15 = .ok (.aload_n 0, 1) := by decide +kernel
theorem dX10_pass_16 : decode cX10_pass 16 = .ok (.getfield 33, 3) := by decide +kernel
theorem dX10_pass_19 : decode cX10_pass 19 = .ok (.getfield 140, 3) := by decide +kernel
theorem dX10_pass_22 : decode cX10_pass 22 = .ok (.ldc 218, 2) := by decide +kernel
theorem dX10_pass_24 : decode cX10_pass 24 = .ok (.if_icmp .le 6, 3) := by decide +kernel
theorem dX10_pass_27 : decode cX10_pass 27 = .ok (.ldc 103, 2) := by decide +kernel
theorem dX10_pass_29 : decode cX10_pass 29 = .ok (.ireturn, 1) := by decide +kernel
theorem dX10_pass_30 : decode cX10_pass 30 = .ok (.aload_n 0, 1) := by decide +kernel
theorem dX10_pass_31 : decode cX10_pass 31 = .ok (.getfield 33, 3) := by decide +kernel
theorem dX10_pass_34 : decode cX10_pass 34 = .ok (.dup, 1) := by decide +kernel
theorem dX10_pass_35 : decode cX10_pass 35 = .ok (.getfield 140, 3) := by decide +kernel
theorem dX10_pass_38 : decode cX10_pass 38 = .ok (.iload_n 1, 1) := by decide +kernel
theorem dX10_pass_39 : decode cX10_pass 39 = .ok (.iadd, 1) := by decide +kernel
theorem dX10_pass_40 : decode cX10_pass 40 = .ok (.putfield 140, 3) := by decide +kernel
theorem dX10_pass_43 : decode cX10_pass 43 = .ok (.aload_n 0, 1) := by decide +kernel
theorem dX10_pass_44 : decode cX10_pass 44 = .ok (.getfield 33, 3) := by decide +kernel
theorem dX10_pass_47 : decode cX10_pass 47 = .ok (.getfield 140, 3) := by decide +kernel
theorem dX10_pass_50 : decode cX10_pass 50 = .ok (.ireturn, 1) := by decide +kernel
theorem dX10_drift_0 : decode cX10_drift 0 = .ok (.iload_n 1, 1) := by decide +kernel
theorem dX10_drift_1 : decode cX10_drift 1 = .ok (.iconst 1, 1) := by decide +kernel
theorem dX10_drift_2 : decode cX10_drift 2 = .ok (.if_icmp .lt 9, 3) := by decide +kernel
theorem dX10_drift_5 : decode cX10_drift 5 = .ok (.iload_n 1, 1) := by decide +kernel
theorem dX10_drift_6 : decode cX10_drift 6 = .ok (.bipush 30, 2) := by decide +kernel
theorem dX10_drift_8 : decode cX10_drift 8 = .ok (.if_icmp .le 6, 3) := by decide +kernel
theorem dX10_drift_11 : decode cX10_drift 11 = .ok (.ldc 95, 2) := by decide +kernel
theorem dX10_drift_13 : decode cX10_drift 13 = .ok (.ireturn, 1) := by decide +kernel
theorem dX10_drift_14 : decode cX10_drift 14 = .ok (.aload_n 0, 1) := by decide +kernel
theorem dX10_drift_15 : decode cX10_drift 15 = .ok (.getfield 23, 3) := by decide +kernel
theorem dX10_drift_18 : decode cX10_drift 18 = .ok (.getfield 134, 3) := by decide +kernel
theorem dX10_drift_21 : decode cX10_drift 21 = .ok (.ifCond .ne 6, 3) := by decide +kernel
theorem dX10_drift_24 : decode cX10_drift 24 = .ok (.ldc 217, 2) := by decide +kernel
theorem dX10_drift_26 : decode cX10_drift 26 = .ok (.ireturn, 1) := by decide +kernel
theorem dX10_drift_27 : decode cX10_drift 27 = .ok (.aload_n 0, 1) := by decide +kernel
theorem dX10_drift_28 : decode cX10_drift 28 = .ok (.getfield 33, 3) := by decide +kernel
theorem dX10_drift_31 : decode cX10_drift 31 = .ok (.getfield 140, 3) := by decide +kernel
theorem dX10_drift_34 : decode cX10_drift 34 = .ok (.ldc 218, 2) := by decide +kernel
theorem dX10_drift_36 : decode cX10_drift 36 = .ok (.if_icmp .le 6, 3) := by decide +kernel
theorem dX10_drift_39 : decode cX10_drift 39 = .ok (.ldc 103, 2) := by decide +kernel
theorem dX10_drift_41 : decode cX10_drift 41 = .ok (.ireturn, 1) := by decide +kernel
theorem dX10_drift_42 : decode cX10_drift 42 = .ok (.iconst 0, 1) := by decide +kernel
theorem dX10_drift_43 : decode cX10_drift 43 = .ok (.istore_n 2, 1) := by decide +kernel
theorem dX10_drift_44 : decode cX10_drift 44 = .ok (.iload_n 2, 1) := by decide +kernel
theorem dX10_drift_45 : decode cX10_drift 45 = .ok (.iload_n 1, 1) := by decide +kernel
theorem dX10_drift_46 : decode cX10_drift 46 = .ok (.if_icmp .ge 13, 3) := by decide +kernel
theorem dX10_drift_49 : decode cX10_drift 49 = .ok (.aload_n 0, 1) := by decide +kernel
theorem dX10_drift_50 : decode cX10_drift 50 = .ok (.invokevirtual 226, 3) := by decide +kernel
theorem dX10_drift_53 : decode cX10_drift 53 = .ok (.iinc 2 1, 3) := by decide +kernel
theorem dX10_drift_56 : decode cX10_drift 56 = .ok (.goto (-12), 3) := by decide +kernel
theorem dX10_drift_59 : decode cX10_drift 59 = .ok (.aload_n 0, 1) := by decide +kernel
theorem dX10_drift_60 : decode cX10_drift 60 = .ok (.getfield 33, 3) := by decide +kernel
theorem dX10_drift_63 : decode cX10_drift 63 = .ok (.getfield 140, 3) := by decide +kernel
theorem dX10_drift_66 : decode cX10_drift 66 = .ok (.ireturn, 1) := by decide +kernel
theorem dX10_round_0 : decode cX10_round 0 = .ok (.aload_n 0, 1) := by decide +kernel
theorem dX10_round_1 : decode cX10_round 1 = .ok (.getfield 53, 3) := by decide +kernel
theorem dX10_round_4 : decode cX10_round 4 = .ok (.aload_n 0, 1) := by decide +kernel
theorem dX10_round_5 : decode cX10_round 5 = .ok (.getfield 23, 3) := by decide +kernel
theorem dX10_round_8 : decode cX10_round 8 = .ok (.aload_n 0, 1) := by decide +kernel
theorem dX10_round_9 : decode cX10_round 9 = .ok (.iconst 0, 1) := by decide +kernel
theorem dX10_round_10 : decode cX10_round 10 = .ok (.invokevirtual 149, 3) := by decide +kernel
theorem dX10_round_13 : decode cX10_round 13 = .ok (.aload_n 0, 1) := by decide +kernel
theorem dX10_round_14 : decode cX10_round 14 = .ok (.getfield 33, 3) := by decide +kernel
theorem dX10_round_17 : decode cX10_round 17 = .ok (.getfield 143, 3) := by decide +kernel
theorem dX10_round_20 : decode cX10_round 20 = .ok (.aload_n 0, 1) := by decide +kernel
theorem dX10_round_21 : decode cX10_round 21 = .ok (.getfield 33, 3) := by decide +kernel
theorem dX10_round_24 : decode cX10_round 24 = .ok (.getfield 140, 3) := by decide +kernel
theorem dX10_round_27 : decode cX10_round 27 = .ok (.invokevirtual 229, 3) := by decide +kernel
theorem dX10_round_30 : decode cX10_round 30 = .ok (.iload_n 1, 1) := by decide +kernel
theorem dX10_round_31 : decode cX10_round 31 = .ok (.iconst (-1), 1) := by decide +kernel
theorem dX10_round_32 : decode cX10_round 32 = .ok (.if_icmp .ne 11, 3) := by decide +kernel
theorem dX10_round_35 : decode cX10_round 35 = .ok (.aload_n 0, 1) := by decide +kernel
theorem dX10_round_36 : decode cX10_round 36 = .ok (.getfield 53, 3) := by decide +kernel
theorem dX10_round_39 : decode cX10_round 39 = .ok (.getfield 233, 3) := by decide +kernel
theorem dX10_round_42 : decode cX10_round 42 = .ok (.ireturn, 1) := by decide +kernel
theorem dX10_round_43 : decode cX10_round 43 = .ok (.iload_n 1, 1) := by decide +kernel
theorem dX10_round_44 : decode cX10_round 44 = .ok (.bipush (-2), 2) := by decide +kernel
theorem dX10_round_46 : decode cX10_round 46 = .ok (.if_icmp .ne 11, 3) := by decide +kernel
theorem dX10_round_49 : decode cX10_round 49 = .ok (.aload_n 0, 1) := by decide +kernel
theorem dX10_round_50 : decode cX10_round 50 = .ok (.getfield 53, 3) := by decide +kernel
theorem dX10_round_53 : decode cX10_round 53 = .ok (.getfield 235, 3) := by decide +kernel
theorem dX10_round_56 : decode cX10_round 56 = .ok (.ireturn, 1) := by decide +kernel
theorem dX10_round_57 : decode cX10_round 57 = .ok (.iload_n 1, 1) := by decide +kernel
theorem dX10_round_58 : decode cX10_round 58 = .ok (.ifCond .lt 26, 3) := by decide +kernel
theorem dX10_round_61 : decode cX10_round 61 = .ok (.iload_n 1, 1) := by decide +kernel
theorem dX10_round_62 : decode cX10_round 62 = .ok (.aload_n 0, 1) := by decide +kernel
theorem dX10_round_63 : decode cX10_round 63 = .ok (.getfield 53, 3) := by decide +kernel
theorem dX10_round_66 : decode cX10_round 66 = .ok (.getfield 238, 3) := by decide +kernel
theorem dX10_round_69 : decode cX10_round 69 = .ok (.if_icmp .ge 15, 3) := by decide +kernel
theorem dX10_round_72 : decode cX10_round 72 = .ok (.aload_n 0, 1) := by decide +kernel
theorem dX10_round_73 : decode cX10_round 73 = .ok (.getfield 53, 3) := by decide +kernel
theorem dX10_round_76 : decode cX10_round 76 = .ok (.getfield 241, 3) := by decide +kernel
theorem dX10_round_79 : decode cX10_round 79 = .ok (.iload_n 1, 1) := by decide +kernel
theorem dX10_round_80 : decode cX10_round 80 = .ok (.iaload, 1) := by decide +kernel
theorem dX10_round_81 : decode cX10_round 81 = .ok (.goto 4, 3) := by decide +kernel
theorem dX10_round_84 : decode cX10_round 84 = .ok (.iconst (-1), 1) := by decide +kernel
theorem dX10_round_85 : decode cX10_round 85 = .ok (.ireturn, 1) := by decide +kernel
theorem dX10_two_0 : decode cX10_two 0 = .ok (.aload_n 0, 1) := by decide +kernel
theorem dX10_two_1 : decode cX10_two 1 = .ok (.getfield 23, 3) := by decide +kernel
theorem dX10_two_4 : decode cX10_two 4 = .ok (.iload_n 1, 1) := by decide +kernel
theorem dX10_two_5 : decode cX10_two 5 = .ok (.invokevirtual 156, 3) := by decide +kernel
theorem dX10_two_8 : decode cX10_two 8 = .ok (.ifCond .ne 6, 3) := by decide +kernel
theorem dX10_two_11 : decode cX10_two 11 = .ok (.ldc 160, 2) := by decide +kernel
theorem dX10_two_13 : decode cX10_two 13 = .ok (.ireturn, 1) := by decide +kernel
theorem dX10_two_14 : decode cX10_two 14 = .ok (.aload_n 0, 1) := by decide +kernel
theorem dX10_two_15 : decode cX10_two 15 = .ok (.iconst 0, 1) := by decide +kernel
theorem dX10_two_16 : decode cX10_two 16 = .ok (.invokevirtual 149, 3) := by decide +kernel
theorem dX10_two_19 : decode cX10_two 19 = .ok (.istore_n 2, 1) := by decide +kernel
theorem dX10_two_20 : decode cX10_two 20 = .ok (.aload_n 0, 1) := by decide +kernel
theorem dX10_two_21 : decode cX10_two 21 = .ok (.getfield 60, 3) := by decide +kernel
theorem dX10_two_24 : decode cX10_two 24 = .ok (.aload_n 0, 1) := by decide +kernel
theorem dX10_two_25 : decode cX10_two 25 = .ok (.getfield 23, 3) := by decide +kernel
theorem dX10_two_28 : decode cX10_two 28 = .ok (.iload_n 2, 1) := by decide +kernel
theorem dX10_two_29 : decode cX10_two 29 = .ok (.aload_n 0, 1) := by decide +kernel
theorem dX10_two_30 : decode cX10_two 30 = .ok (.getfield 33, 3) := by decide +kernel
theorem dX10_two_33 : decode cX10_two 33 = .ok (.getfield 143, 3) := by decide +kernel
theorem dX10_two_36 : decode cX10_two 36 = .ok (.aload_n 0, 1) := by decide +kernel
theorem dX10_two_37 : decode cX10_two 37 = .ok (.getfield 33, 3) := by decide +kernel
theorem dX10_two_40 : decode cX10_two 40 = .ok (.getfield 140, 3) := by decide +kernel
theorem dX10_two_43 : decode cX10_two 43 = .ok (.invokevirtual 244, 3) := by decide +kernel
theorem dX10_two_46 : decode cX10_two 46 = .ok (.aload_n 0, 1) := by decide +kernel
theorem dX10_two_47 : decode cX10_two 47 = .ok (.getfield 64, 3) := by decide +kernel
theorem dX10_two_50 : decode cX10_two 50 = .ok (.aload_n 0, 1) := by decide +kernel
theorem dX10_two_51 : decode cX10_two 51 = .ok (.getfield 23, 3) := by decide +kernel
theorem dX10_two_54 : decode cX10_two 54 = .ok (.iload_n 2, 1) := by decide +kernel
theorem dX10_two_55 : decode cX10_two 55 = .ok (.iload_n 1, 1) := by decide +kernel
theorem dX10_two_56 : decode cX10_two 56 = .ok (.aload_n 0, 1) := by decide +kernel
theorem dX10_two_57 : decode cX10_two 57 = .ok (.getfield 33, 3) := by decide +kernel
theorem dX10_two_60 : decode cX10_two 60 = .ok (.getfield 140, 3) := by decide +kernel
theorem dX10_two_63 : decode cX10_two 63 = .ok (.invokevirtual 244, 3) := by decide +kernel
theorem dX10_two_66 : decode cX10_two 66 = .ok (.iconst 0, 1) := by decide +kernel
theorem dX10_two_67 : decode cX10_two 67 = .ok (.istore_n 3, 1) := by decide +kernel
theorem dX10_two_68 : decode cX10_two 68 = .ok (.iconst 0, 1) := by decide +kernel
theorem dX10_two_69 : decode cX10_two 69 = .ok (.istore 4, 2) := by decide +kernel
theorem dX10_two_71 : decode cX10_two 71 = .ok (.iload 4, 2) := by decide +kernel
theorem dX10_two_73 : decode cX10_two 73 = .ok (.iload_n 2, 1) := by decide +kernel
theorem dX10_two_74 : decode cX10_two 74 = .ok (.if_icmp .gt 44, 3) := by decide +kernel
theorem dX10_two_77 : decode cX10_two 77 = .ok (.aload_n 0, 1) := by decide +kernel
theorem dX10_two_78 : decode cX10_two 78 = .ok (.getfield 60, 3) := by decide +kernel
theorem dX10_two_81 : decode cX10_two 81 = .ok (.getfield 245, 3) := by decide +kernel
theorem dX10_two_84 : decode cX10_two 84 = .ok (.iload 4, 2) := by decide +kernel
theorem dX10_two_86 : decode cX10_two 86 = .ok (.baload, 1) := by decide +kernel
theorem dX10_two_87 : decode cX10_two 87 = .ok (.ifCond .eq 25, 3) := by decide +kernel
theorem dX10_two_90 : decode cX10_two 90 = .ok (.iload_n 3, 1) := by decide +kernel
theorem dX10_two_91 : decode cX10_two 91 = .ok (.aload_n 0, 1) := by decide +kernel
theorem dX10_two_92 : decode cX10_two 92 = .ok (.getfield 23, 3) := by decide +kernel
theorem dX10_two_95 : decode cX10_two 95 = .ok (.iload 4, 2) := by decide +kernel
theorem dX10_two_97 : decode cX10_two 97 = .ok (.invokevirtual 153, 3) := by decide +kernel
theorem dX10_two_100 : decode cX10_two 100 = .ok (.aload_n 0, 1) := by decide +kernel
theorem dX10_two_101 : decode cX10_two 101 = .ok (.iload 4, 2) := by decide +kernel
theorem dX10_two_103 : decode cX10_two 103 = .ok (.iload_n 2, 1) := by decide +kernel
theorem dX10_two_104 : decode cX10_two 104 = .ok (.invokevirtual 249, 3) := by decide +kernel
theorem dX10_two_107 : decode cX10_two 107 = .ok (.iadd, 1) := by decide +kernel
theorem dX10_two_108 : decode cX10_two 108 = .ok (.invokestatic 252, 3) := by decide +kernel
theorem dX10_two_111 : decode cX10_two 111 = .ok (.istore_n 3, 1) := by decide +kernel
theorem dX10_two_112 : decode cX10_two 112 = .ok (.iinc 4 1, 3) := by decide +kernel
theorem dX10_two_115 : decode cX10_two 115 = .ok (.goto (-44), 3) := by decide +kernel
theorem dX10_two_118 : decode cX10_two 118 = .ok (.iload_n 3, 1) := by decide +kernel
theorem dX10_two_119 : decode cX10_two 119 = .ok (.ireturn, 1) := by decide +kernel
theorem dX10_reword_0 : decode cX10_reword 0 = .ok (.iload_n 1, 1) := by decide +kernel
theorem dX10_reword_1 : decode cX10_reword 1 = .ok (.ifCond .lt 8, 3) := by decide +kernel
theorem dX10_reword_4 : decode cX10_reword 4 = .ok (.iload_n 1, 1) := by decide +kernel
theorem dX10_reword_5 : decode cX10_reword 5 = .ok (.iconst 1, 1) := by decide +kernel
theorem dX10_reword_6 : decode cX10_reword 6 = .ok (.if_icmp .le 6, 3) := by decide +kernel
theorem dX10_reword_9 : decode cX10_reword 9 = .ok (.ldc 95, 2) := by decide +kernel
theorem dX10_reword_11 : decode cX10_reword 11 = .ok (.ireturn, 1) := by decide +kernel
theorem dX10_reword_12 : decode cX10_reword 12 = .ok (.aload_n 0, 1) := by decide +kernel
theorem dX10_reword_13 : decode cX10_reword 13 = .ok (.iconst 0, 1) := by decide +kernel
theorem dX10_reword_14 : decode cX10_reword 14 = .ok (.invokevirtual 149, 3) := by decide +kernel
theorem dX10_reword_17 : decode cX10_reword 17 = .ok (.istore_n 2, 1) := by decide +kernel
theorem dX10_reword_18 : decode cX10_reword 18 = .ok (.aload_n 0, 1) := by decide +kernel
theorem dX10_reword_19 : decode cX10_reword 19 = .ok (.getfield 60, 3) := by decide +kernel
theorem dX10_reword_22 : decode cX10_reword 22 = .ok (.aload_n 0, 1) := by decide +kernel
theorem dX10_reword_23 : decode cX10_reword 23 = .ok (.getfield 23, 3) := by decide +kernel
theorem dX10_reword_26 : decode cX10_reword 26 = .ok (.iload_n 2, 1) := by decide +kernel
theorem dX10_reword_27 : decode cX10_reword 27 = .ok (.aload_n 0, 1) := by decide +kernel
theorem dX10_reword_28 : decode cX10_reword 28 = .ok (.getfield 33, 3) := by decide +kernel
theorem dX10_reword_31 : decode cX10_reword 31 = .ok (.getfield 143, 3) := by decide +kernel
theorem dX10_reword_34 : decode cX10_reword 34 = .ok (.aload_n 0, 1) := by decide +kernel
theorem dX10_reword_35 : decode cX10_reword 35 = .ok (.getfield 33, 3) := by decide +kernel
theorem dX10_reword_38 : decode cX10_reword 38 = .ok (.getfield 140, 3) := by decide +kernel
theorem dX10_reword_41 : decode cX10_reword 41 = .ok (.invokevirtual 244, 3) := by decide +kernel
theorem dX10_reword_44 : decode cX10_reword 44 = .ok (.iconst (-1), 1) := by decide +kernel
theorem dX10_reword_45 : decode cX10_reword 45 = .ok (.istore_n 3, 1) := by decide +kernel
theorem dX10_reword_46 : decode cX10_reword 46 = .ok (.iconst (-1), 1) := by decide +kernel
theorem dX10_reword_47 : decode cX10_reword 47 = .ok (.istore 4, 2) := by decide +kernel
theorem dX10_reword_49 : decode cX10_reword 49 = .ok (.iconst 0, 1) := by decide +kernel
theorem dX10_reword_50 : decode cX10_reword 50 = .ok (.istore 5, 2) := by decide +kernel
theorem dX10_reword_52 : decode cX10_reword 52 = .ok (.iload 5, 2) := by decide +kernel
theorem dX10_reword_54 : decode cX10_reword 54 = .ok (.iload_n 2, 1) := by decide +kernel
theorem dX10_reword_55 : decode cX10_reword 55 = .ok (.if_icmp .gt 76, 3) := by decide +kernel
theorem dX10_reword_58 : decode cX10_reword 58 = .ok (.iload 5, 2) := by decide +kernel
theorem dX10_reword_60 : decode cX10_reword 60 = .ok (.iload_n 2, 1) := by decide +kernel
theorem dX10_reword_61 : decode cX10_reword 61 = .ok (.iconst (-1), 1) := by decide +kernel
theorem dX10_reword_62 : decode cX10_reword 62 = .ok (.ixor, 1) := by decide +kernel
theorem dX10_reword_63 : decode cX10_reword 63 = .ok (.iand, 1) := by decide +kernel
theorem dX10_reword_64 : decode cX10_reword 64 = .ok (.ifCond .ne 32, 3) := by decide +kernel
theorem dX10_reword_67 : decode cX10_reword 67 = .ok (.aload_n 0, 1) := by decide +kernel
theorem dX10_reword_68 : decode cX10_reword 68 = .ok (.getfield 60, 3) := by decide +kernel
theorem dX10_reword_71 : decode cX10_reword 71 = .ok (.getfield 245, 3) := by decide +kernel
theorem dX10_reword_74 : decode cX10_reword 74 = .ok (.iload_n 2, 1) := by decide +kernel
theorem dX10_reword_75 : decode cX10_reword 75 = .ok (.iload 5, 2) := by decide +kernel
theorem dX10_reword_77 : decode cX10_reword 77 = .ok (.iconst (-1), 1) := by decide +kernel
theorem dX10_reword_78 : decode cX10_reword 78 = .ok (.ixor, 1) := by decide +kernel
theorem dX10_reword_79 : decode cX10_reword 79 = .ok (.iand, 1) := by decide +kernel
theorem dX10_reword_80 : decode cX10_reword 80 = .ok (.baload, 1) := by decide +kernel
theorem dX10_reword_81 : decode cX10_reword 81 = .ok (.ifCond .eq 15, 3) := by decide +kernel
theorem dX10_reword_84 : decode cX10_reword 84 = .ok (.aload_n 0, 1) := by decide +kernel
theorem dX10_reword_85 : decode cX10_reword 85 = .ok (.getfield 23, 3) := by decide +kernel
theorem dX10_reword_88 : decode cX10_reword 88 = .ok (.iload 5, 2) := by decide +kernel
theorem dX10_reword_90 : decode cX10_reword 90 = .ok (.invokevirtual 257, 3) := by decide +kernel
theorem dX10_reword_93 : decode cX10_reword 93 = .ok (.goto 4, 3) := by decide +kernel
theorem dX10_reword_96 : decode cX10_reword 96 = .ok (.iconst (-1), 1) := by decide +kernel
theorem dX10_reword_97 : decode cX10_reword 97 = .ok (.istore 6, 2) := by decide +kernel
theorem dX10_reword_99 : decode cX10_reword 99 = .ok (.iload 6, 2) := by decide +kernel
theorem dX10_reword_101 : decode cX10_reword 101 = .ok (.iconst (-1), 1) := by decide +kernel
theorem dX10_reword_102 : decode cX10_reword 102 = .ok (.if_icmp .eq 23, 3) := by decide +kernel
theorem dX10_reword_105 : decode cX10_reword 105 = .ok (.iload 4, 2) := by decide +kernel
theorem dX10_reword_107 : decode cX10_reword 107 = .ok (.iconst (-1), 1) := by decide +kernel
theorem dX10_reword_108 : decode cX10_reword 108 = .ok (.if_icmp .eq 10, 3) := by decide +kernel
theorem dX10_reword_111 : decode cX10_reword 111 = .ok (.iload 6, 2) := by decide +kernel
theorem dX10_reword_113 : decode cX10_reword 113 = .ok (.iload 4, 2) := by decide +kernel
theorem dX10_reword_115 : decode cX10_reword 115 = .ok (.if_icmp .ge 10, 3) := by decide +kernel
theorem dX10_reword_118 : decode cX10_reword 118 = .ok (.iload 5, 2) := by decide +kernel
theorem dX10_reword_120 : decode cX10_reword 120 = .ok (.istore_n 3, 1) := by decide +kernel
theorem dX10_reword_121 : decode cX10_reword 121 = .ok (.iload 6, 2) := by decide +kernel
theorem dX10_reword_123 : decode cX10_reword 123 = .ok (.istore 4, 2) := by decide +kernel
theorem dX10_reword_125 : decode cX10_reword 125 = .ok (.iinc 5 1, 3) := by decide +kernel
theorem dX10_reword_128 : decode cX10_reword 128 = .ok (.goto (-76), 3) := by decide +kernel
theorem dX10_reword_131 : decode cX10_reword 131 = .ok (.iload_n 1, 1) := by decide +kernel
theorem dX10_reword_132 : decode cX10_reword 132 = .ok (.ifCond .ne 7, 3) := by decide +kernel
theorem dX10_reword_135 : decode cX10_reword 135 = .ok (.iload_n 3, 1) := by decide +kernel
theorem dX10_reword_136 : decode cX10_reword 136 = .ok (.goto 5, 3) := by decide +kernel
theorem dX10_reword_139 : decode cX10_reword 139 = .ok (.iload 4, 2) := by decide +kernel
theorem dX10_reword_141 : decode cX10_reword 141 = .ok (.ireturn, 1) := by decide +kernel
theorem dX10_chain_0 : decode cX10_chain 0 = .ok (.aload_n 0, 1) := by decide +kernel
theorem dX10_chain_1 : decode cX10_chain 1 = .ok (.getfield 23, 3) := by decide +kernel
theorem dX10_chain_4 : decode cX10_chain 4 = .ok (.iload_n 1, 1) := by decide +kernel
theorem dX10_chain_5 : decode cX10_chain 5 = .ok (.iload_n 2, 1) := by decide +kernel
theorem dX10_chain_6 : decode cX10_chain 6 = .ok (.invokevirtual 199, 3) := by decide +kernel
theorem dX10_chain_9 : decode cX10_chain 9 = .ok (.ifCond .ne 6, 3) := by decide +kernel
theorem dX10_chain_12 : decode cX10_chain 12 = .ok (.ldc 160, 2) := by decide +kernel
theorem dX10_chain_14 : decode cX10_chain 14 = .ok (.ireturn, 1) := by decide +kernel
theorem dX10_chain_15 : decode cX10_chain 15 = .ok (.iload_n 3, 1) := by decide +kernel
theorem dX10_chain_16 : decode cX10_chain 16 = .ok (.ifCond .lt 8, 3) := by decide +kernel
theorem dX10_chain_19 : decode cX10_chain 19 = .ok (.iload_n 3, 1) := by decide +kernel
theorem dX10_chain_20 : decode cX10_chain 20 = .ok (.iconst 1, 1) := by decide +kernel
theorem dX10_chain_21 : decode cX10_chain 21 = .ok (.if_icmp .le 6, 3) := by decide +kernel
theorem dX10_chain_24 : decode cX10_chain 24 = .ok (.ldc 95, 2) := by decide +kernel
theorem dX10_chain_26 : decode cX10_chain 26 = .ok (.ireturn, 1) := by decide +kernel
theorem dX10_chain_27 : decode cX10_chain 27 = .ok (.aload_n 0, 1) := by decide +kernel
theorem dX10_chain_28 : decode cX10_chain 28 = .ok (.getfield 77, 3) := by decide +kernel
theorem dX10_chain_31 : decode cX10_chain 31 = .ok (.aload_n 0, 1) := by decide +kernel
theorem dX10_chain_32 : decode cX10_chain 32 = .ok (.getfield 23, 3) := by decide +kernel
theorem dX10_chain_35 : decode cX10_chain 35 = .ok (.iload_n 1, 1) := by decide +kernel
theorem dX10_chain_36 : decode cX10_chain 36 = .ok (.invokevirtual 260, 3) := by decide +kernel
theorem dX10_chain_39 : decode cX10_chain 39 = .ok (.iload_n 3, 1) := by decide +kernel
theorem dX10_chain_40 : decode cX10_chain 40 = .ok (.ifCond .ne 15, 3) := by decide +kernel
theorem dX10_chain_43 : decode cX10_chain 43 = .ok (.aload_n 0, 1) := by decide +kernel
theorem dX10_chain_44 : decode cX10_chain 44 = .ok (.getfield 77, 3) := by decide +kernel
theorem dX10_chain_47 : decode cX10_chain 47 = .ok (.getfield 262, 3) := by decide +kernel
theorem dX10_chain_50 : decode cX10_chain 50 = .ok (.iload_n 2, 1) := by decide +kernel
theorem dX10_chain_51 : decode cX10_chain 51 = .ok (.iaload, 1) := by decide +kernel
theorem dX10_chain_52 : decode cX10_chain 52 = .ok (.goto 12, 3) := by decide +kernel
theorem dX10_chain_55 : decode cX10_chain 55 = .ok (.aload_n 0, 1) := by decide +kernel
theorem dX10_chain_56 : decode cX10_chain 56 = .ok (.getfield 77, 3) := by decide +kernel
theorem dX10_chain_59 : decode cX10_chain 59 = .ok (.getfield 265, 3) := by decide +kernel
theorem dX10_chain_62 : decode cX10_chain 62 = .ok (.iload_n 2, 1) := by decide +kernel
theorem dX10_chain_63 : decode cX10_chain 63 = .ok (.iaload, 1) := by decide +kernel
theorem dX10_chain_64 : decode cX10_chain 64 = .ok (.ireturn, 1) := by decide +kernel
theorem dX10_lost_0 : decode cX10_lost 0 = .ok (.aload_n 0, 1) := by decide +kernel
theorem dX10_lost_1 : decode cX10_lost 1 = .ok (.getfield 23, 3) := by decide +kernel
theorem dX10_lost_4 : decode cX10_lost 4 = .ok (.iload_n 1, 1) := by decide +kernel
theorem dX10_lost_5 : decode cX10_lost 5 = .ok (.invokevirtual 165, 3) := by decide +kernel
theorem dX10_lost_8 : decode cX10_lost 8 = .ok (.ifCond .ne 6, 3) := by decide +kernel
theorem dX10_lost_11 : decode cX10_lost 11 = .ok (.ldc 160, 2) := by decide +kernel
theorem dX10_lost_13 : decode cX10_lost 13 = .ok (.ireturn, 1) := by decide +kernel
theorem dX10_lost_14 : decode cX10_lost 14 = .ok (.aload_n 0, 1) := by decide +kernel
theorem dX10_lost_15 : decode cX10_lost 15 = .ok (.getfield 77, 3) := by decide +kernel
theorem dX10_lost_18 : decode cX10_lost 18 = .ok (.aload_n 0, 1) := by decide +kernel
theorem dX10_lost_19 : decode cX10_lost 19 = .ok (.getfield 23, 3) := by decide +kernel
theorem dX10_lost_22 : decode cX10_lost 22 = .ok (.iload_n 1, 1) := by decide +kernel
theorem dX10_lost_23 : decode cX10_lost 23 = .ok (.invokevirtual 260, 3) := by decide +kernel
theorem dX10_lost_26 : decode cX10_lost 26 = .ok (.iconst 0, 1) := by decide +kernel
theorem dX10_lost_27 : decode cX10_lost 27 = .ok (.istore_n 2, 1) := by decide +kernel
theorem dX10_lost_28 : decode cX10_lost 28 = .ok (.iconst 0, 1) := by decide +kernel
theorem dX10_lost_29 : decode cX10_lost 29 = .ok (.istore_n 3, 1) := by decide +kernel
theorem dX10_lost_30 : decode cX10_lost 30 = .ok (.iload_n 3, 1) := by decide +kernel
theorem dX10_lost_31 : decode cX10_lost 31 = .ok (.aload_n 0, 1) := by decide +kernel
theorem dX10_lost_32 : decode cX10_lost 32 = .ok (.getfield 23, 3) := by decide +kernel
theorem dX10_lost_35 : decode cX10_lost 35 = .ok (.getfield 134, 3) := by decide +kernel
theorem dX10_lost_38 : decode cX10_lost 38 = .ok (.if_icmp .ge 27, 3) := by decide +kernel
theorem dX10_lost_41 : decode cX10_lost 41 = .ok (.aload_n 0, 1) := by decide +kernel
theorem dX10_lost_42 : decode cX10_lost 42 = .ok (.getfield 77, 3) := by decide +kernel
theorem dX10_lost_45 : decode cX10_lost 45 = .ok (.getfield 262, 3) := by decide +kernel
theorem dX10_lost_48 : decode cX10_lost 48 = .ok (.iload_n 3, 1) := by decide +kernel
theorem dX10_lost_49 : decode cX10_lost 49 = .ok (.iaload, 1) := by decide +kernel
theorem dX10_lost_50 : decode cX10_lost 50 = .ok (.ifCond .gt 9, 3) := by decide +kernel
theorem dX10_lost_53 : decode cX10_lost 53 = .ok (.iload_n 2, 1) := by decide +kernel
theorem dX10_lost_54 : decode cX10_lost 54 = .ok (.iconst 1, 1) := by decide +kernel
theorem dX10_lost_55 : decode cX10_lost 55 = .ok (.iload_n 3, 1) := by decide +kernel
theorem dX10_lost_56 : decode cX10_lost 56 = .ok (.ishl, 1) := by decide +kernel
theorem dX10_lost_57 : decode cX10_lost 57 = .ok (.ior, 1) := by decide +kernel
theorem dX10_lost_58 : decode cX10_lost 58 = .ok (.istore_n 2, 1) := by decide +kernel
theorem dX10_lost_59 : decode cX10_lost 59 = .ok (.iinc 3 1, 3) := by decide +kernel
theorem dX10_lost_62 : decode cX10_lost 62 = .ok (.goto (-32), 3) := by decide +kernel
theorem dX10_lost_65 : decode cX10_lost 65 = .ok (.iload_n 2, 1) := by decide +kernel
theorem dX10_lost_66 : decode cX10_lost 66 = .ok (.ireturn, 1) := by decide +kernel
theorem dX10_sold_0 : decode cX10_sold 0 = .ok (.aload_n 0, 1) := by decide +kernel
theorem dX10_sold_1 : decode cX10_sold 1 = .ok (.getfield 23, 3) := by decide +kernel
theorem dX10_sold_4 : decode cX10_sold 4 = .ok (.iload_n 2, 1) := by decide +kernel
theorem dX10_sold_5 : decode cX10_sold 5 = .ok (.invokevirtual 165, 3) := by decide +kernel
theorem dX10_sold_8 : decode cX10_sold 8 = .ok (.ifCond .ne 6, 3) := by decide +kernel
theorem dX10_sold_11 : decode cX10_sold 11 = .ok (.ldc 160, 2) := by decide +kernel
theorem dX10_sold_13 : decode cX10_sold 13 = .ok (.ireturn, 1) := by decide +kernel
theorem dX10_sold_14 : decode cX10_sold 14 = .ok (.iload_n 1, 1) := by decide +kernel
theorem dX10_sold_15 : decode cX10_sold 15 = .ok (.iconst 1, 1) := by decide +kernel
theorem dX10_sold_16 : decode cX10_sold 16 = .ok (.if_icmp .lt 18, 3) := by decide +kernel
theorem dX10_sold_19 : decode cX10_sold 19 = .ok (.iload_n 1, 1) := by decide +kernel
theorem dX10_sold_20 : decode cX10_sold 20 = .ok (.bipush 9, 2) := by decide +kernel
theorem dX10_sold_22 : decode cX10_sold 22 = .ok (.if_icmp .gt 12, 3) := by decide +kernel
theorem dX10_sold_25 : decode cX10_sold 25 = .ok (.iload_n 3, 1) := by decide +kernel
theorem dX10_sold_26 : decode cX10_sold 26 = .ok (.ifCond .lt 8, 3) := by decide +kernel
theorem dX10_sold_29 : decode cX10_sold 29 = .ok (.iload_n 3, 1) := by decide +kernel
theorem dX10_sold_30 : decode cX10_sold 30 = .ok (.iconst 1, 1) := by decide +kernel
theorem dX10_sold_31 : decode cX10_sold 31 = .ok (.if_icmp .le 6, 3) := by decide +kernel
theorem dX10_sold_34 : decode cX10_sold 34 = .ok (.ldc 95, 2) := by decide +kernel
theorem dX10_sold_36 : decode cX10_sold 36 = .ok (.ireturn, 1) := by decide +kernel
theorem dX10_sold_37 : decode cX10_sold 37 = .ok (.aload_n 0, 1) := by decide +kernel
theorem dX10_sold_38 : decode cX10_sold 38 = .ok (.getfield 88, 3) := by decide +kernel
theorem dX10_sold_41 : decode cX10_sold 41 = .ok (.iconst 0, 1) := by decide +kernel
theorem dX10_sold_42 : decode cX10_sold 42 = .ok (.invokestatic 268, 3) := by decide +kernel
theorem dX10_sold_45 : decode cX10_sold 45 = .ok (.aload_n 0, 1) := by decide +kernel
theorem dX10_sold_46 : decode cX10_sold 46 = .ok (.getfield 92, 3) := by decide +kernel
theorem dX10_sold_49 : decode cX10_sold 49 = .ok (.iconst 0, 1) := by decide +kernel
theorem dX10_sold_50 : decode cX10_sold 50 = .ok (.invokestatic 268, 3) := by decide +kernel
theorem dX10_sold_53 : decode cX10_sold 53 = .ok (.iconst 0, 1) := by decide +kernel
theorem dX10_sold_54 : decode cX10_sold 54 = .ok (.istore 4, 2) := by decide +kernel
theorem dX10_sold_56 : decode cX10_sold 56 = .ok (.iload 4, 2) := by decide +kernel
theorem dX10_sold_58 : decode cX10_sold 58 = .ok (.iload_n 1, 1) := by decide +kernel
theorem dX10_sold_59 : decode cX10_sold 59 = .ok (.if_icmp .ge 13, 3) := by decide +kernel
theorem dX10_sold_62 : decode cX10_sold 62 = .ok (.aload_n 0, 1) := by decide +kernel
theorem dX10_sold_63 : decode cX10_sold 63 = .ok (.invokevirtual 274, 3) := by decide +kernel
theorem dX10_sold_66 : decode cX10_sold 66 = .ok (.iinc 4 1, 3) := by decide +kernel
theorem dX10_sold_69 : decode cX10_sold 69 = .ok (.goto (-13), 3) := by decide +kernel
theorem dX10_sold_72 : decode cX10_sold 72 = .ok (.iload_n 3, 1) := by decide +kernel
theorem dX10_sold_73 : decode cX10_sold 73 = .ok (.ifCond .ne 12, 3) := by decide +kernel
theorem dX10_sold_76 : decode cX10_sold 76 = .ok (.aload_n 0, 1) := by decide +kernel
theorem dX10_sold_77 : decode cX10_sold 77 = .ok (.getfield 88, 3) := by decide +kernel
theorem dX10_sold_80 : decode cX10_sold 80 = .ok (.iload_n 2, 1) := by decide +kernel
theorem dX10_sold_81 : decode cX10_sold 81 = .ok (.iaload, 1) := by decide +kernel
theorem dX10_sold_82 : decode cX10_sold 82 = .ok (.goto 9, 3) := by decide +kernel
theorem dX10_sold_85 : decode cX10_sold 85 = .ok (.aload_n 0, 1) := by decide +kernel
theorem dX10_sold_86 : decode cX10_sold 86 = .ok (.getfield 92, 3) := by decide +kernel
theorem dX10_sold_89 : decode cX10_sold 89 = .ok (.iload_n 2, 1) := by decide +kernel
theorem dX10_sold_90 : decode cX10_sold 90 = .ok (.iaload, 1) := by decide +kernel
theorem dX10_sold_91 : decode cX10_sold 91 = .ok (.ireturn, 1) := by decide +kernel
theorem dX10_thief_0 : decode cX10_thief 0 = .ok (.aload_n 0, 1) := by decide +kernel
theorem dX10_thief_1 : decode cX10_thief 1 = .ok (.getfield 23, 3) := by decide +kernel
theorem dX10_thief_4 : decode cX10_thief 4 = .ok (.iload_n 1, 1) := by decide +kernel
theorem dX10_thief_5 : decode cX10_thief 5 = .ok (.invokevirtual 156, 3) := by decide +kernel
theorem dX10_thief_8 : decode cX10_thief 8 = .ok (.ifCond .eq 25, 3) := by decide +kernel
theorem dX10_thief_11 : decode cX10_thief 11 = .ok (.aload_n 0, 1) := by decide +kernel
theorem dX10_thief_12 : decode cX10_thief 12 = .ok (.getfield 23, 3) := by decide +kernel
theorem dX10_thief_15 : decode cX10_thief 15 = .ok (.iload_n 2, 1) := by decide +kernel
theorem dX10_thief_16 : decode cX10_thief 16 = .ok (.invokevirtual 156, 3) := by decide +kernel
theorem dX10_thief_19 : decode cX10_thief 19 = .ok (.ifCond .eq 14, 3) := by decide +kernel
theorem dX10_thief_22 : decode cX10_thief 22 = .ok (.aload_n 0, 1) := by decide +kernel
theorem dX10_thief_23 : decode cX10_thief 23 = .ok (.getfield 23, 3) := by decide +kernel
theorem dX10_thief_26 : decode cX10_thief 26 = .ok (.iload_n 3, 1) := by decide +kernel
theorem dX10_thief_27 : decode cX10_thief 27 = .ok (.invokevirtual 156, 3) := by decide +kernel
theorem dX10_thief_30 : decode cX10_thief 30 = .ok (.ifCond .ne 6, 3) := by decide +kernel
theorem dX10_thief_33 : decode cX10_thief 33 = .ok (.ldc 160, 2) := by decide +kernel
theorem dX10_thief_35 : decode cX10_thief 35 = .ok (.ireturn, 1) := by decide +kernel
theorem dX10_thief_36 : decode cX10_thief 36 = .ok (.iload 4, 2) := by decide +kernel
theorem dX10_thief_38 : decode cX10_thief 38 = .ok (.ifCond .lt 9, 3) := by decide +kernel
theorem dX10_thief_41 : decode cX10_thief 41 = .ok (.iload 4, 2) := by decide +kernel
theorem dX10_thief_43 : decode cX10_thief 43 = .ok (.iconst 1, 1) := by decide +kernel
theorem dX10_thief_44 : decode cX10_thief 44 = .ok (.if_icmp .le 6, 3) := by decide +kernel
theorem dX10_thief_47 : decode cX10_thief 47 = .ok (.ldc 95, 2) := by decide +kernel
theorem dX10_thief_49 : decode cX10_thief 49 = .ok (.ireturn, 1) := by decide +kernel
theorem dX10_thief_50 : decode cX10_thief 50 = .ok (.aload_n 0, 1) := by decide +kernel
theorem dX10_thief_51 : decode cX10_thief 51 = .ok (.getfield 84, 3) := by decide +kernel
theorem dX10_thief_54 : decode cX10_thief 54 = .ok (.aload_n 0, 1) := by decide +kernel
theorem dX10_thief_55 : decode cX10_thief 55 = .ok (.getfield 23, 3) := by decide +kernel
theorem dX10_thief_58 : decode cX10_thief 58 = .ok (.iload_n 3, 1) := by decide +kernel
theorem dX10_thief_59 : decode cX10_thief 59 = .ok (.invokevirtual 277, 3) := by decide +kernel
theorem dX10_thief_62 : decode cX10_thief 62 = .ok (.iload_n 1, 1) := by decide +kernel
theorem dX10_thief_63 : decode cX10_thief 63 = .ok (.iload_n 2, 1) := by decide +kernel
theorem dX10_thief_64 : decode cX10_thief 64 = .ok (.iconst 0, 1) := by decide +kernel
theorem dX10_thief_65 : decode cX10_thief 65 = .ok (.invokestatic 280, 3) := by decide +kernel
theorem dX10_thief_68 : decode cX10_thief 68 = .ok (.istore 5, 2) := by decide +kernel
theorem dX10_thief_70 : decode cX10_thief 70 = .ok (.iload 4, 2) := by decide +kernel
theorem dX10_thief_72 : decode cX10_thief 72 = .ok (.ifCond .ne 14, 3) := by decide +kernel
theorem dX10_thief_75 : decode cX10_thief 75 = .ok (.aload_n 0, 1) := by decide +kernel
theorem dX10_thief_76 : decode cX10_thief 76 = .ok (.getfield 84, 3) := by decide +kernel
theorem dX10_thief_79 : decode cX10_thief 79 = .ok (.getfield 284, 3) := by decide +kernel
theorem dX10_thief_82 : decode cX10_thief 82 = .ok (.iload 5, 2) := by decide +kernel
theorem dX10_thief_84 : decode cX10_thief 84 = .ok (.iaload, 1) := by decide +kernel
theorem dX10_thief_85 : decode cX10_thief 85 = .ok (.ireturn, 1) := by decide +kernel
theorem dX10_thief_86 : decode cX10_thief 86 = .ok (.aload_n 0, 1) := by decide +kernel
theorem dX10_thief_87 : decode cX10_thief 87 = .ok (.getfield 84, 3) := by decide +kernel
theorem dX10_thief_90 : decode cX10_thief 90 = .ok (.getfield 284, 3) := by decide +kernel
theorem dX10_thief_93 : decode cX10_thief 93 = .ok (.iload 5, 2) := by decide +kernel
theorem dX10_thief_95 : decode cX10_thief 95 = .ok (.iaload, 1) := by decide +kernel
theorem dX10_thief_96 : decode cX10_thief 96 = .ok (.ifCond .ne 7, 3) := by decide +kernel
theorem dX10_thief_99 : decode cX10_thief 99 = .ok (.iconst (-1), 1) := by decide +kernel
theorem dX10_thief_100 : decode cX10_thief 100 = .ok (.goto 17, 3) := by decide +kernel
theorem dX10_thief_103 : decode cX10_thief 103 = .ok (.aload_n 0, 1) := by decide +kernel
theorem dX10_thief_104 : decode cX10_thief 104 = .ok (.getfield 84, 3) := by decide +kernel
theorem dX10_thief_107 : decode cX10_thief 107 = .ok (.getfield 287, 3) := by decide +kernel
theorem dX10_thief_110 : decode cX10_thief 110 = .ok (.iload 5, 2) := by decide +kernel
theorem dX10_thief_112 : decode cX10_thief 112 = .ok (.iaload, 1) := by decide +kernel
theorem dX10_thief_113 : decode cX10_thief 113 = .ok (.iconst 1, 1) := by decide +kernel
theorem dX10_thief_114 : decode cX10_thief 114 = .ok (.iadd, 1) := by decide +kernel
theorem dX10_thief_115 : decode cX10_thief 115 = .ok (.iconst 2, 1) := by decide +kernel
theorem dX10_thief_116 : decode cX10_thief 116 = .ok (.idiv, 1) := by decide +kernel
theorem dX10_thief_117 : decode cX10_thief 117 = .ok (.ireturn, 1) := by decide +kernel
theorem dX10_vote_0 : decode cX10_vote 0 = .ok (.iload_n 1, 1) := by decide +kernel
theorem dX10_vote_1 : decode cX10_vote 1 = .ok (.iconst (-1), 1) := by decide +kernel
theorem dX10_vote_2 : decode cX10_vote 2 = .ok (.if_icmp .eq 17, 3) := by decide +kernel
theorem dX10_vote_5 : decode cX10_vote 5 = .ok (.aload_n 0, 1) := by decide +kernel
theorem dX10_vote_6 : decode cX10_vote 6 = .ok (.getfield 23, 3) := by decide +kernel
theorem dX10_vote_9 : decode cX10_vote 9 = .ok (.iload_n 1, 1) := by decide +kernel
theorem dX10_vote_10 : decode cX10_vote 10 = .ok (.invokevirtual 207, 3) := by decide +kernel
theorem dX10_vote_13 : decode cX10_vote 13 = .ok (.ifCond .ne 6, 3) := by decide +kernel
theorem dX10_vote_16 : decode cX10_vote 16 = .ok (.ldc 160, 2) := by decide +kernel
theorem dX10_vote_18 : decode cX10_vote 18 = .ok (.ireturn, 1) := by decide +kernel
theorem dX10_vote_19 : decode cX10_vote 19 = .ok (.aload_n 0, 1) := by decide +kernel
theorem dX10_vote_20 : decode cX10_vote 20 = .ok (.getfield 88, 3) := by decide +kernel
theorem dX10_vote_23 : decode cX10_vote 23 = .ok (.iconst 0, 1) := by decide +kernel
theorem dX10_vote_24 : decode cX10_vote 24 = .ok (.invokestatic 268, 3) := by decide +kernel
theorem dX10_vote_27 : decode cX10_vote 27 = .ok (.aload_n 0, 1) := by decide +kernel
theorem dX10_vote_28 : decode cX10_vote 28 = .ok (.iconst 0, 1) := by decide +kernel
theorem dX10_vote_29 : decode cX10_vote 29 = .ok (.invokevirtual 149, 3) := by decide +kernel
theorem dX10_vote_32 : decode cX10_vote 32 = .ok (.istore_n 2, 1) := by decide +kernel
theorem dX10_vote_33 : decode cX10_vote 33 = .ok (.iconst 0, 1) := by decide +kernel
theorem dX10_vote_34 : decode cX10_vote 34 = .ok (.istore_n 3, 1) := by decide +kernel
theorem dX10_vote_35 : decode cX10_vote 35 = .ok (.iload_n 3, 1) := by decide +kernel
theorem dX10_vote_36 : decode cX10_vote 36 = .ok (.aload_n 0, 1) := by decide +kernel
theorem dX10_vote_37 : decode cX10_vote 37 = .ok (.getfield 23, 3) := by decide +kernel
theorem dX10_vote_40 : decode cX10_vote 40 = .ok (.getfield 134, 3) := by decide +kernel
theorem dX10_vote_43 : decode cX10_vote 43 = .ok (.if_icmp .ge 69, 3) := by decide +kernel
theorem dX10_vote_46 : decode cX10_vote 46 = .ok (.iload_n 2, 1) := by decide +kernel
theorem dX10_vote_47 : decode cX10_vote 47 = .ok (.aload_n 0, 1) := by decide +kernel
theorem dX10_vote_48 : decode cX10_vote 48 = .ok (.getfield 23, 3) := by decide +kernel
theorem dX10_vote_51 : decode cX10_vote 51 = .ok (.iload_n 3, 1) := by decide +kernel
theorem dX10_vote_52 : decode cX10_vote 52 = .ok (.invokevirtual 290, 3) := by decide +kernel
theorem dX10_vote_55 : decode cX10_vote 55 = .ok (.iand, 1) := by decide +kernel
theorem dX10_vote_56 : decode cX10_vote 56 = .ok (.istore 4, 2) := by decide +kernel
theorem dX10_vote_58 : decode cX10_vote 58 = .ok (.aload_n 0, 1) := by decide +kernel
theorem dX10_vote_59 : decode cX10_vote 59 = .ok (.iload 4, 2) := by decide +kernel
theorem dX10_vote_61 : decode cX10_vote 61 = .ok (.invokevirtual 293, 3) := by decide +kernel
theorem dX10_vote_64 : decode cX10_vote 64 = .ok (.istore 5, 2) := by decide +kernel
theorem dX10_vote_66 : decode cX10_vote 66 = .ok (.iload 5, 2) := by decide +kernel
theorem dX10_vote_68 : decode cX10_vote 68 = .ok (.iconst (-1), 1) := by decide +kernel
theorem dX10_vote_69 : decode cX10_vote 69 = .ok (.if_icmp .eq 37, 3) := by decide +kernel
theorem dX10_vote_72 : decode cX10_vote 72 = .ok (.aload_n 0, 1) := by decide +kernel
theorem dX10_vote_73 : decode cX10_vote 73 = .ok (.getfield 23, 3) := by decide +kernel
theorem dX10_vote_76 : decode cX10_vote 76 = .ok (.iload 4, 2) := by decide +kernel
theorem dX10_vote_78 : decode cX10_vote 78 = .ok (.aload_n 0, 1) := by decide +kernel
theorem dX10_vote_79 : decode cX10_vote 79 = .ok (.getfield 23, 3) := by decide +kernel
theorem dX10_vote_82 : decode cX10_vote 82 = .ok (.getfield 210, 3) := by decide +kernel
theorem dX10_vote_85 : decode cX10_vote 85 = .ok (.iload 5, 2) := by decide +kernel
theorem dX10_vote_87 : decode cX10_vote 87 = .ok (.iaload, 1) := by decide +kernel
theorem dX10_vote_88 : decode cX10_vote 88 = .ok (.iand, 1) := by decide +kernel
theorem dX10_vote_89 : decode cX10_vote 89 = .ok (.invokevirtual 153, 3) := by decide +kernel
theorem dX10_vote_92 : decode cX10_vote 92 = .ok (.ifCond .le 14, 3) := by decide +kernel
theorem dX10_vote_95 : decode cX10_vote 95 = .ok (.aload_n 0, 1) := by decide +kernel
theorem dX10_vote_96 : decode cX10_vote 96 = .ok (.getfield 88, 3) := by decide +kernel
theorem dX10_vote_99 : decode cX10_vote 99 = .ok (.iload 5, 2) := by decide +kernel
theorem dX10_vote_101 : decode cX10_vote 101 = .ok (.dup2, 1) := by decide +kernel
theorem dX10_vote_102 : decode cX10_vote 102 = .ok (.iaload, 1) := by decide +kernel
theorem dX10_vote_103 : decode cX10_vote 103 = .ok (.iconst 1, 1) := by decide +kernel
theorem dX10_vote_104 : decode cX10_vote 104 = .ok (.iadd, 1) := by decide +kernel
theorem dX10_vote_105 : decode cX10_vote 105 = .ok (.iastore, 1) := by decide +kernel
theorem dX10_vote_106 : decode cX10_vote 106 = .ok (.iinc 3 1, 3) := by decide +kernel
theorem dX10_vote_109 : decode cX10_vote 109 = .ok (.goto (-74), 3) := by decide +kernel
theorem dX10_vote_112 : decode cX10_vote 112 = .ok (.iload_n 1, 1) := by decide +kernel
theorem dX10_vote_113 : decode cX10_vote 113 = .ok (.iconst (-1), 1) := by decide +kernel
theorem dX10_vote_114 : decode cX10_vote 114 = .ok (.if_icmp .ne 10, 3) := by decide +kernel
theorem dX10_vote_117 : decode cX10_vote 117 = .ok (.aload_n 0, 1) := by decide +kernel
theorem dX10_vote_118 : decode cX10_vote 118 = .ok (.invokevirtual 296, 3) := by decide +kernel
theorem dX10_vote_121 : decode cX10_vote 121 = .ok (.goto 9, 3) := by decide +kernel
theorem dX10_vote_124 : decode cX10_vote 124 = .ok (.aload_n 0, 1) := by decide +kernel
theorem dX10_vote_125 : decode cX10_vote 125 = .ok (.getfield 88, 3) := by decide +kernel
theorem dX10_vote_128 : decode cX10_vote 128 = .ok (.iload_n 1, 1) := by decide +kernel
theorem dX10_vote_129 : decode cX10_vote 129 = .ok (.iaload, 1) := by decide +kernel
theorem dX10_vote_130 : decode cX10_vote 130 = .ok (.ireturn, 1) := by decide +kernel
theorem dX10_bestWord_0 : decode cX10_bestWord 0 = .ok (.aload_n 0, 1) := by decide +kernel
theorem dX10_bestWord_1 : decode cX10_bestWord 1 = .ok (.aload_n 0, 1) := by decide +kernel
theorem dX10_bestWord_2 : decode cX10_bestWord 2 = .ok (.iconst 0, 1) := by decide +kernel
theorem dX10_bestWord_3 : decode cX10_bestWord 3 = .ok (.invokevirtual 149, 3) := by decide +kernel
theorem dX10_bestWord_6 : decode cX10_bestWord 6 = .ok (.invokevirtual 293, 3) := by decide +kernel
theorem dX10_bestWord_9 : decode cX10_bestWord 9 = .ok (.ireturn, 1) := by decide +kernel
theorem dX10_tell_0 : decode cX10_tell 0 = .ok (.aload_n 0, 1) := by decide +kernel
theorem dX10_tell_1 : decode cX10_tell 1 = .ok (.getfield 23, 3) := by decide +kernel
theorem dX10_tell_4 : decode cX10_tell 4 = .ok (.iload_n 1, 1) := by decide +kernel
theorem dX10_tell_5 : decode cX10_tell 5 = .ok (.invokevirtual 174, 3) := by decide +kernel
theorem dX10_tell_8 : decode cX10_tell 8 = .ok (.ifCond .ne 6, 3) := by decide +kernel
theorem dX10_tell_11 : decode cX10_tell 11 = .ok (.ldc 160, 2) := by decide +kernel
theorem dX10_tell_13 : decode cX10_tell 13 = .ok (.ireturn, 1) := by decide +kernel
theorem dX10_tell_14 : decode cX10_tell 14 = .ok (.iload_n 2, 1) := by decide +kernel
theorem dX10_tell_15 : decode cX10_tell 15 = .ok (.iconst 1, 1) := by decide +kernel
theorem dX10_tell_16 : decode cX10_tell 16 = .ok (.if_icmp .lt 10, 3) := by decide +kernel
theorem dX10_tell_19 : decode cX10_tell 19 = .ok (.iload_n 2, 1) := by decide +kernel
theorem dX10_tell_20 : decode cX10_tell 20 = .ok (.sipush 999, 3) := by decide +kernel
theorem dX10_tell_23 : decode cX10_tell 23 = .ok (.if_icmp .le 6, 3) := by decide +kernel
theorem dX10_tell_26 : decode cX10_tell 26 = .ok (.ldc 95, 2) := by decide +kernel
theorem dX10_tell_28 : decode cX10_tell 28 = .ok (.ireturn, 1) := by decide +kernel
theorem dX10_tell_29 : decode cX10_tell 29 = .ok (.aload_n 0, 1) := by decide +kernel
theorem dX10_tell_30 : decode cX10_tell 30 = .ok (.getfield 70, 3) := by decide +kernel
theorem dX10_tell_33 : decode cX10_tell 33 = .ok (.iload_n 1, 1) := by decide +kernel
theorem dX10_tell_34 : decode cX10_tell 34 = .ok (.iload_n 2, 1) := by decide +kernel
theorem dX10_tell_35 : decode cX10_tell 35 = .ok (.invokevirtual 300, 3) := by decide +kernel
theorem dX10_tell_38 : decode cX10_tell 38 = .ok (.ifCond .eq 13, 3) := by decide +kernel
theorem dX10_tell_41 : decode cX10_tell 41 = .ok (.aload_n 0, 1) := by decide +kernel
theorem dX10_tell_42 : decode cX10_tell 42 = .ok (.getfield 70, 3) := by decide +kernel
theorem dX10_tell_45 : decode cX10_tell 45 = .ok (.getfield 122, 3) := by decide +kernel
theorem dX10_tell_48 : decode cX10_tell 48 = .ok (.goto 5, 3) := by decide +kernel
theorem dX10_tell_51 : decode cX10_tell 51 = .ok (.ldc 103, 2) := by decide +kernel
theorem dX10_tell_53 : decode cX10_tell 53 = .ok (.ireturn, 1) := by decide +kernel
theorem dX10_days_0 : decode cX10_days 0 = .ok (.aload_n 0, 1) := by decide +kernel
theorem dX10_days_1 : decode cX10_days 1 = .ok (.getfield 70, 3) := by decide +kernel
theorem dX10_days_4 : decode cX10_days 4 = .ok (.aload_n 0, 1) := by decide +kernel
theorem dX10_days_5 : decode cX10_days 5 = .ok (.getfield 23, 3) := by decide +kernel
theorem dX10_days_8 : decode cX10_days 8 = .ok (.iconst 0, 1) := by decide +kernel
theorem dX10_days_9 : decode cX10_days 9 = .ok (.invokevirtual 302, 3) := by decide +kernel
theorem dX10_days_12 : decode cX10_days 12 = .ok (.aload_n 0, 1) := by decide +kernel
theorem dX10_days_13 : decode cX10_days 13 = .ok (.getfield 70, 3) := by decide +kernel
theorem dX10_days_16 : decode cX10_days 16 = .ok (.getfield 303, 3) := by decide +kernel
theorem dX10_days_19 : decode cX10_days 19 = .ok (.ireturn, 1) := by decide +kernel
theorem dX10_where_0 : decode cX10_where 0 = .ok (.iload_n 1, 1) := by decide +kernel
theorem dX10_where_1 : decode cX10_where 1 = .ok (.ifCond .lt 10, 3) := by decide +kernel
theorem dX10_where_4 : decode cX10_where 4 = .ok (.iload_n 1, 1) := by decide +kernel
theorem dX10_where_5 : decode cX10_where 5 = .ok (.sipush 999, 3) := by decide +kernel
theorem dX10_where_8 : decode cX10_where 8 = .ok (.if_icmp .le 6, 3) := by decide +kernel
theorem dX10_where_11 : decode cX10_where 11 = .ok (.ldc 95, 2) := by decide +kernel
theorem dX10_where_13 : decode cX10_where 13 = .ok (.ireturn, 1) := by decide +kernel
theorem dX10_where_14 : decode cX10_where 14 = .ok (.aload_n 0, 1) := by decide +kernel
theorem dX10_where_15 : decode cX10_where 15 = .ok (.getfield 70, 3) := by decide +kernel
theorem dX10_where_18 : decode cX10_where 18 = .ok (.aload_n 0, 1) := by decide +kernel
theorem dX10_where_19 : decode cX10_where 19 = .ok (.getfield 23, 3) := by decide +kernel
theorem dX10_where_22 : decode cX10_where 22 = .ok (.iload_n 1, 1) := by decide +kernel
theorem dX10_where_23 : decode cX10_where 23 = .ok (.invokevirtual 302, 3) := by decide +kernel
theorem dX10_where_26 : decode cX10_where 26 = .ok (.aload_n 0, 1) := by decide +kernel
theorem dX10_where_27 : decode cX10_where 27 = .ok (.getfield 70, 3) := by decide +kernel
theorem dX10_where_30 : decode cX10_where 30 = .ok (.getfield 306, 3) := by decide +kernel
theorem dX10_where_33 : decode cX10_where 33 = .ok (.ireturn, 1) := by decide +kernel
theorem dX10_write_0 : decode cX10_write 0 = .ok (.aload_n 0, 1) := by decide +kernel
theorem dX10_write_1 : decode cX10_write 1 = .ok (.getfield 23, 3) := by decide +kernel
theorem dX10_write_4 : decode cX10_write 4 = .ok (.iload_n 1, 1) := by decide +kernel
theorem dX10_write_5 : decode cX10_write 5 = .ok (.invokevirtual 174, 3) := by decide +kernel
theorem dX10_write_8 : decode cX10_write 8 = .ok (.ifCond .ne 6, 3) := by decide +kernel
theorem dX10_write_11 : decode cX10_write 11 = .ok (.ldc 160, 2) := by decide +kernel
theorem dX10_write_13 : decode cX10_write 13 = .ok (.ireturn, 1) := by decide +kernel
theorem dX10_write_14 : decode cX10_write 14 = .ok (.iload_n 2, 1) := by decide +kernel
theorem dX10_write_15 : decode cX10_write 15 = .ok (.ifCond .lt 10, 3) := by decide +kernel
theorem dX10_write_18 : decode cX10_write 18 = .ok (.iload_n 2, 1) := by decide +kernel
theorem dX10_write_19 : decode cX10_write 19 = .ok (.ldc_w 307, 3) := by decide +kernel
theorem dX10_write_22 : decode cX10_write 22 = .ok (.if_icmp .le 6, 3) := by decide +kernel
theorem dX10_write_25 : decode cX10_write 25 = .ok (.ldc 95, 2) := by decide +kernel
theorem dX10_write_27 : decode cX10_write 27 = .ok (.ireturn, 1) := by decide +kernel
theorem dX10_write_28 : decode cX10_write 28 = .ok (.aload_n 0, 1) := by decide +kernel
theorem dX10_write_29 : decode cX10_write 29 = .ok (.getfield 46, 3) := by decide +kernel
theorem dX10_write_32 : decode cX10_write 32 = .ok (.iload_n 1, 1) := by decide +kernel
theorem dX10_write_33 : decode cX10_write 33 = .ok (.iload_n 2, 1) := by decide +kernel
theorem dX10_write_34 : decode cX10_write 34 = .ok (.invokevirtual 308, 3) := by decide +kernel
theorem dX10_write_37 : decode cX10_write 37 = .ok (.ifCond .eq 13, 3) := by decide +kernel
theorem dX10_write_40 : decode cX10_write 40 = .ok (.aload_n 0, 1) := by decide +kernel
theorem dX10_write_41 : decode cX10_write 41 = .ok (.getfield 46, 3) := by decide +kernel
theorem dX10_write_44 : decode cX10_write 44 = .ok (.getfield 125, 3) := by decide +kernel
theorem dX10_write_47 : decode cX10_write 47 = .ok (.goto 5, 3) := by decide +kernel
theorem dX10_write_50 : decode cX10_write 50 = .ok (.ldc 103, 2) := by decide +kernel
theorem dX10_write_52 : decode cX10_write 52 = .ok (.ireturn, 1) := by decide +kernel
theorem dX10_judge_0 : decode cX10_judge 0 = .ok (.aload_n 0, 1) := by decide +kernel
theorem dX10_judge_1 : decode cX10_judge 1 = .ok (.getfield 46, 3) := by decide +kernel
theorem dX10_judge_4 : decode cX10_judge 4 = .ok (.aload_n 0, 1) := by decide +kernel
theorem dX10_judge_5 : decode cX10_judge 5 = .ok (.getfield 33, 3) := by decide +kernel
theorem dX10_judge_8 : decode cX10_judge 8 = .ok (.invokevirtual 309, 3) := by decide +kernel
theorem dX10_judge_11 : decode cX10_judge 11 = .ok (.ireturn, 1) := by decide +kernel
theorem dX10_tear_0 : decode cX10_tear 0 = .ok (.aload_n 0, 1) := by decide +kernel
theorem dX10_tear_1 : decode cX10_tear 1 = .ok (.getfield 70, 3) := by decide +kernel
theorem dX10_tear_4 : decode cX10_tear 4 = .ok (.getfield 122, 3) := by decide +kernel
theorem dX10_tear_7 : decode cX10_tear 7 = .ok (.aload_n 0, 1) := by decide +kernel
theorem dX10_tear_8 : decode cX10_tear 8 = .ok (.getfield 46, 3) := by decide +kernel
theorem dX10_tear_11 : decode cX10_tear 11 = .ok (.getfield 125, 3) := by decide +kernel
theorem dX10_tear_14 : decode cX10_tear 14 = .ok (.iadd, 1) := by decide +kernel
theorem dX10_tear_15 : decode cX10_tear 15 = .ok (.istore_n 1, 1) := by decide +kernel
theorem dX10_tear_16 : decode cX10_tear 16 = .ok (.aload_n 0, 1) := by decide +kernel
theorem dX10_tear_17 : decode cX10_tear 17 = .ok (.getfield 70, 3) := by decide +kernel
theorem dX10_tear_20 : decode cX10_tear 20 = .ok (.iconst 0, 1) := by decide +kernel
theorem dX10_tear_21 : decode cX10_tear 21 = .ok (.putfield 122, 3) := by decide +kernel
theorem dX10_tear_24 : decode cX10_tear 24 = .ok (.aload_n 0, 1) := by decide +kernel
theorem dX10_tear_25 : decode cX10_tear 25 = .ok (.getfield 46, 3) := by decide +kernel
theorem dX10_tear_28 : decode cX10_tear 28 = .ok (.iconst 0, 1) := by decide +kernel
theorem dX10_tear_29 : decode cX10_tear 29 = .ok (.putfield 125, 3) := by decide +kernel
theorem dX10_tear_32 : decode cX10_tear 32 = .ok (.iload_n 1, 1) := by decide +kernel
theorem dX10_tear_33 : decode cX10_tear 33 = .ok (.ireturn, 1) := by decide +kernel
theorem dX10_seed_0 : decode cX10_seed 0 = .ok (.iload_n 1, 1) := by decide +kernel
theorem dX10_seed_1 : decode cX10_seed 1 = .ok (.ifCond .ge 6, 3) := by decide +kernel
theorem dX10_seed_4 : decode cX10_seed 4 = .ok (.ldc 95, 2) := by decide +kernel
theorem dX10_seed_6 : decode cX10_seed 6 = .ok (.ireturn, 1) := by decide +kernel
theorem dX10_seed_7 : decode cX10_seed 7 = .ok (.aload_n 0, 1) := by decide +kernel
theorem dX10_seed_8 : decode cX10_seed 8 = .ok (.getfield 33, 3) := by decide +kernel
theorem dX10_seed_11 : decode cX10_seed 11 = .ok (.getfield 313, 3) := by decide +kernel
theorem dX10_seed_14 : decode cX10_seed 14 = .ok (.istore_n 2, 1) := by decide +kernel
theorem dX10_seed_15 : decode cX10_seed 15 = .ok (.aload_n 0, 1) := by decide +kernel
theorem dX10_seed_16 : decode cX10_seed 16 = .ok (.getfield 33, 3) := by decide +kernel
theorem dX10_seed_19 : decode cX10_seed 19 = .ok (.iload_n 1, 1) := by decide +kernel
theorem dX10_seed_20 : decode cX10_seed 20 = .ok (.putfield 313, 3) := by decide +kernel
theorem dX10_seed_23 : decode cX10_seed 23 = .ok (.iload_n 2, 1) := by decide +kernel
theorem dX10_seed_24 : decode cX10_seed 24 = .ok (.ireturn, 1) := by decide +kernel
theorem dX10_keep_0 : decode cX10_keep 0 = .ok (.iload_n 1, 1) := by decide +kernel
theorem dX10_keep_1 : decode cX10_keep 1 = .ok (.ifCond .lt 8, 3) := by decide +kernel
theorem dX10_keep_4 : decode cX10_keep 4 = .ok (.iload_n 1, 1) := by decide +kernel
theorem dX10_keep_5 : decode cX10_keep 5 = .ok (.iconst 1, 1) := by decide +kernel
theorem dX10_keep_6 : decode cX10_keep 6 = .ok (.if_icmp .le 6, 3) := by decide +kernel
theorem dX10_keep_9 : decode cX10_keep 9 = .ok (.ldc 160, 2) := by decide +kernel
theorem dX10_keep_11 : decode cX10_keep 11 = .ok (.ireturn, 1) := by decide +kernel
theorem dX10_keep_12 : decode cX10_keep 12 = .ok (.iload_n 1, 1) := by decide +kernel
theorem dX10_keep_13 : decode cX10_keep 13 = .ok (.ifCond .ne 10, 3) := by decide +kernel
theorem dX10_keep_16 : decode cX10_keep 16 = .ok (.aload_n 0, 1) := by decide +kernel
theorem dX10_keep_17 : decode cX10_keep 17 = .ok (.getfield 37, 3) := by decide +kernel
theorem dX10_keep_20 : decode cX10_keep 20 = .ok (.goto 7, 3) := by decide +kernel
theorem dX10_keep_23 : decode cX10_keep 23 = .ok (.aload_n 0, 1) := by decide +kernel
theorem dX10_keep_24 : decode cX10_keep 24 = .ok (.getfield 40, 3) := by decide +kernel
theorem dX10_keep_27 : decode cX10_keep 27 = .ok (.astore_n 2, 1) := by decide +kernel
theorem dX10_keep_28 : decode cX10_keep 28 = .ok (.aload_n 2, 1) := by decide +kernel
theorem dX10_keep_29 : decode cX10_keep 29 = .ok (.aload_n 0, 1) := by decide +kernel
theorem dX10_keep_30 : decode cX10_keep 30 = .ok (.getfield 33, 3) := by decide +kernel
theorem dX10_keep_33 : decode cX10_keep 33 = .ok (.invokevirtual 316, 3) := by decide +kernel
theorem dX10_keep_36 : decode cX10_keep 36 = .ok (.aload_n 2, 1) := by decide +kernel
theorem dX10_keep_37 : decode cX10_keep 37 = .ok (.iconst 1, 1) := by decide +kernel
theorem dX10_keep_38 : decode cX10_keep 38 = .ok (.putfield 118, 3) := by decide +kernel
theorem dX10_keep_41 : decode cX10_keep 41 = .ok (.iconst 1, 1) := by decide +kernel
theorem dX10_keep_42 : decode cX10_keep 42 = .ok (.ireturn, 1) := by decide +kernel
theorem dX10_goBack_0 : decode cX10_goBack 0 = .ok (.iload_n 1, 1) := by decide +kernel
theorem dX10_goBack_1 : decode cX10_goBack 1 = .ok (.ifCond .lt 8, 3) := by decide +kernel
theorem dX10_goBack_4 : decode cX10_goBack 4 = .ok (.iload_n 1, 1) := by decide +kernel
theorem dX10_goBack_5 : decode cX10_goBack 5 = .ok (.iconst 1, 1) := by decide +kernel
theorem dX10_goBack_6 : decode cX10_goBack 6 = .ok (.if_icmp .le 6, 3) := by decide +kernel
theorem dX10_goBack_9 : decode cX10_goBack 9 = .ok (.ldc 160, 2) := by decide +kernel
theorem dX10_goBack_11 : decode cX10_goBack 11 = .ok (.ireturn, 1) := by decide +kernel
theorem dX10_goBack_12 : decode cX10_goBack 12 = .ok (.iload_n 1, 1) := by decide +kernel
theorem dX10_goBack_13 : decode cX10_goBack 13 = .ok (.ifCond .ne 10, 3) := by decide +kernel
theorem dX10_goBack_16 : decode cX10_goBack 16 = .ok (.aload_n 0, 1) := by decide +kernel
theorem dX10_goBack_17 : decode cX10_goBack 17 = .ok (.getfield 37, 3) := by decide +kernel
theorem dX10_goBack_20 : decode cX10_goBack 20 = .ok (.goto 7, 3) := by decide +kernel
theorem dX10_goBack_23 : decode cX10_goBack 23 = .ok (.aload_n 0, 1) := by decide +kernel
theorem dX10_goBack_24 : decode cX10_goBack 24 = .ok (.getfield 40, 3) := by decide +kernel
theorem dX10_goBack_27 : decode cX10_goBack 27 = .ok (.astore_n 2, 1) := by decide +kernel
theorem dX10_goBack_28 : decode cX10_goBack 28 = .ok (.aload_n 2, 1) := by decide +kernel
theorem dX10_goBack_29 : decode cX10_goBack 29 = .ok (.getfield 118, 3) := by decide +kernel
theorem dX10_goBack_32 : decode cX10_goBack 32 = .ok (.ifCond .ne 6, 3) := by decide +kernel
theorem dX10_goBack_35 : decode cX10_goBack 35 = .ok (.ldc 217, 2) := by decide +kernel
theorem dX10_goBack_37 : decode cX10_goBack 37 = .ok (.ireturn, 1) := by decide +kernel
theorem dX10_goBack_38 : decode cX10_goBack 38 = .ok (.aload_n 0, 1) := by decide +kernel
theorem dX10_goBack_39 : decode cX10_goBack 39 = .ok (.getfield 33, 3) := by decide +kernel
theorem dX10_goBack_42 : decode cX10_goBack 42 = .ok (.aload_n 2, 1) := by decide +kernel
theorem dX10_goBack_43 : decode cX10_goBack 43 = .ok (.invokevirtual 316, 3) := by decide +kernel
theorem dX10_goBack_46 : decode cX10_goBack 46 = .ok (.iconst 1, 1) := by decide +kernel
theorem dX10_goBack_47 : decode cX10_goBack 47 = .ok (.ireturn, 1) := by decide +kernel
theorem dX10_deedsThatAre_0 : decode cX10_deedsThatAre 0 = .ok (.iconst 0, 1) := by decide +kernel
theorem dX10_deedsThatAre_1 : decode cX10_deedsThatAre 1 = .ok (.istore_n 2, 1) := by decide +kernel
theorem dX10_deedsThatAre_2 : decode cX10_deedsThatAre 2 = .ok (.iconst 0, 1) := by decide +kernel
theorem dX10_deedsThatAre_3 : decode cX10_deedsThatAre 3 = .ok (.istore_n 3, 1) := by decide +kernel
theorem dX10_deedsThatAre_4 : decode cX10_deedsThatAre 4 = .ok (.iload_n 3, 1) := by decide +kernel
theorem dX10_deedsThatAre_5 : decode cX10_deedsThatAre 5 = .ok (.aload_n 0, 1) := by decide +kernel
theorem dX10_deedsThatAre_6 : decode cX10_deedsThatAre 6 = .ok (.getfield 23, 3) := by decide +kernel
theorem dX10_deedsThatAre_9 : decode cX10_deedsThatAre 9 = .ok (.getfield 128, 3) := by decide +kernel
theorem dX10_deedsThatAre_12 : decode cX10_deedsThatAre 12 = .ok (.if_icmp .ge 31, 3) := by decide +kernel
theorem dX10_deedsThatAre_15 : decode cX10_deedsThatAre 15 = .ok (.aload_n 0, 1) := by decide +kernel
theorem dX10_deedsThatAre_16 : decode cX10_deedsThatAre 16 = .ok (.getfield 33, 3) := by decide +kernel
theorem dX10_deedsThatAre_19 : decode cX10_deedsThatAre 19 = .ok (.aload_n 0, 1) := by decide +kernel
theorem dX10_deedsThatAre_20 : decode cX10_deedsThatAre 20 = .ok (.getfield 23, 3) := by decide +kernel
theorem dX10_deedsThatAre_23 : decode cX10_deedsThatAre 23 = .ok (.iload_n 3, 1) := by decide +kernel
theorem dX10_deedsThatAre_24 : decode cX10_deedsThatAre 24 = .ok (.invokevirtual 192, 3) := by decide +kernel
theorem dX10_deedsThatAre_27 : decode cX10_deedsThatAre 27 = .ok (.iload_n 1, 1) := by decide +kernel
theorem dX10_deedsThatAre_28 : decode cX10_deedsThatAre 28 = .ok (.if_icmp .ne 9, 3) := by decide +kernel
theorem dX10_deedsThatAre_31 : decode cX10_deedsThatAre 31 = .ok (.iload_n 2, 1) := by decide +kernel
theorem dX10_deedsThatAre_32 : decode cX10_deedsThatAre 32 = .ok (.iconst 1, 1) := by decide +kernel
theorem dX10_deedsThatAre_33 : decode cX10_deedsThatAre 33 = .ok (.iload_n 3, 1) := by decide +kernel
theorem dX10_deedsThatAre_34 : decode cX10_deedsThatAre 34 = .ok (.ishl, 1) := by decide +kernel
theorem dX10_deedsThatAre_35 : decode cX10_deedsThatAre 35 = .ok (.ior, 1) := by decide +kernel
theorem dX10_deedsThatAre_36 : decode cX10_deedsThatAre 36 = .ok (.istore_n 2, 1) := by decide +kernel
theorem dX10_deedsThatAre_37 : decode cX10_deedsThatAre 37 = .ok (.iinc 3 1, 3) := by decide +kernel
theorem dX10_deedsThatAre_40 : decode cX10_deedsThatAre 40 = .ok (.goto (-36), 3) := by decide +kernel
theorem dX10_deedsThatAre_43 : decode cX10_deedsThatAre 43 = .ok (.iload_n 2, 1) := by decide +kernel
theorem dX10_deedsThatAre_44 : decode cX10_deedsThatAre 44 = .ok (.ireturn, 1) := by decide +kernel
theorem dX10_driftOnce_0 : decode cX10_driftOnce 0 = .ok (.aload_n 0, 1) := by decide +kernel
theorem dX10_driftOnce_1 : decode cX10_driftOnce 1 = .ok (.getfield 33, 3) := by decide +kernel
theorem dX10_driftOnce_4 : decode cX10_driftOnce 4 = .ok (.aload_n 0, 1) := by decide +kernel
theorem dX10_driftOnce_5 : decode cX10_driftOnce 5 = .ok (.getfield 23, 3) := by decide +kernel
theorem dX10_driftOnce_8 : decode cX10_driftOnce 8 = .ok (.getfield 134, 3) := by decide +kernel
theorem dX10_driftOnce_11 : decode cX10_driftOnce 11 = .ok (.invokevirtual 320, 3) := by decide +kernel
theorem dX10_driftOnce_14 : decode cX10_driftOnce 14 = .ok (.istore_n 1, 1) := by decide +kernel
theorem dX10_driftOnce_15 : decode cX10_driftOnce 15 = .ok (.aload_n 0, 1) := by decide +kernel
theorem dX10_driftOnce_16 : decode cX10_driftOnce 16 = .ok (.getfield 33, 3) := by decide +kernel
theorem dX10_driftOnce_19 : decode cX10_driftOnce 19 = .ok (.aload_n 0, 1) := by decide +kernel
theorem dX10_driftOnce_20 : decode cX10_driftOnce 20 = .ok (.getfield 23, 3) := by decide +kernel
theorem dX10_driftOnce_23 : decode cX10_driftOnce 23 = .ok (.iload_n 1, 1) := by decide +kernel
theorem dX10_driftOnce_24 : decode cX10_driftOnce 24 = .ok (.invokevirtual 213, 3) := by decide +kernel
theorem dX10_driftOnce_27 : decode cX10_driftOnce 27 = .ok (.ifCond .eq 15, 3) := by decide +kernel
theorem dX10_driftOnce_30 : decode cX10_driftOnce 30 = .ok (.aload_n 0, 1) := by decide +kernel
theorem dX10_driftOnce_31 : decode cX10_driftOnce 31 = .ok (.getfield 33, 3) := by decide +kernel
theorem dX10_driftOnce_34 : decode cX10_driftOnce 34 = .ok (.aload_n 0, 1) := by decide +kernel
theorem dX10_driftOnce_35 : decode cX10_driftOnce 35 = .ok (.getfield 23, 3) := by decide +kernel
theorem dX10_driftOnce_38 : decode cX10_driftOnce 38 = .ok (.iload_n 1, 1) := by decide +kernel
theorem dX10_driftOnce_39 : decode cX10_driftOnce 39 = .ok (.invokevirtual 219, 3) := by decide +kernel
theorem dX10_driftOnce_42 : decode cX10_driftOnce 42 = .ok (.aload_n 0, 1) := by decide +kernel
theorem dX10_driftOnce_43 : decode cX10_driftOnce 43 = .ok (.iload_n 1, 1) := by decide +kernel
theorem dX10_driftOnce_44 : decode cX10_driftOnce 44 = .ok (.invokevirtual 323, 3) := by decide +kernel
theorem dX10_driftOnce_47 : decode cX10_driftOnce 47 = .ok (.istore_n 2, 1) := by decide +kernel
theorem dX10_driftOnce_48 : decode cX10_driftOnce 48 = .ok (.iload_n 2, 1) := by decide +kernel
theorem dX10_driftOnce_49 : decode cX10_driftOnce 49 = .ok (.iconst (-1), 1) := by decide +kernel
theorem dX10_driftOnce_50 : decode cX10_driftOnce 50 = .ok (.if_icmp .eq 29, 3) := by decide +kernel
theorem dX10_driftOnce_53 : decode cX10_driftOnce 53 = .ok (.aload_n 0, 1) := by decide +kernel
theorem dX10_driftOnce_54 : decode cX10_driftOnce 54 = .ok (.getfield 33, 3) := by decide +kernel
theorem dX10_driftOnce_57 : decode cX10_driftOnce 57 = .ok (.getfield 146, 3) := by decide +kernel
theorem dX10_driftOnce_60 : decode cX10_driftOnce 60 = .ok (.iload_n 1, 1) := by decide +kernel
theorem dX10_driftOnce_61 : decode cX10_driftOnce 61 = .ok (.if_icmp .ne 18, 3) := by decide +kernel
theorem dX10_driftOnce_64 : decode cX10_driftOnce 64 = .ok (.aload_n 0, 1) := by decide +kernel
theorem dX10_driftOnce_65 : decode cX10_driftOnce 65 = .ok (.getfield 33, 3) := by decide +kernel
theorem dX10_driftOnce_68 : decode cX10_driftOnce 68 = .ok (.aload_n 0, 1) := by decide +kernel
theorem dX10_driftOnce_69 : decode cX10_driftOnce 69 = .ok (.getfield 23, 3) := by decide +kernel
theorem dX10_driftOnce_72 : decode cX10_driftOnce 72 = .ok (.iload_n 2, 1) := by decide +kernel
theorem dX10_driftOnce_73 : decode cX10_driftOnce 73 = .ok (.invokevirtual 223, 3) := by decide +kernel
theorem dX10_driftOnce_76 : decode cX10_driftOnce 76 = .ok (.goto 16, 3) := by decide +kernel
theorem dX10_driftOnce_79 : decode cX10_driftOnce 79 = .ok (.aload_n 0, 1) := by decide +kernel
theorem dX10_driftOnce_80 : decode cX10_driftOnce 80 = .ok (.getfield 33, 3) := by decide +kernel
theorem dX10_driftOnce_83 : decode cX10_driftOnce 83 = .ok (.dup, 1) := by decide +kernel
theorem dX10_driftOnce_84 : decode cX10_driftOnce 84 = .ok (.getfield 140, 3) := by decide +kernel
theorem dX10_driftOnce_87 : decode cX10_driftOnce 87 = .ok (.iconst 1, 1) := by decide +kernel
theorem dX10_driftOnce_88 : decode cX10_driftOnce 88 = .ok (.iadd, 1) := by decide +kernel
theorem dX10_driftOnce_89 : decode cX10_driftOnce 89 = .ok (.putfield 140, 3) := by decide +kernel
theorem dX10_driftOnce_92 : decode cX10_driftOnce 92 = .ok (.return_, 1) := by decide +kernel
theorem dX10_firstOpenOf_0 : decode cX10_firstOpenOf 0 = .ok (.iconst 0, 1) := by decide +kernel
theorem dX10_firstOpenOf_1 : decode cX10_firstOpenOf 1 = .ok (.istore_n 2, 1) := by decide +kernel
theorem dX10_firstOpenOf_2 : decode cX10_firstOpenOf 2 = .ok (.iload_n 2, 1) := by decide +kernel
theorem dX10_firstOpenOf_3 : decode cX10_firstOpenOf 3 = .ok (.aload_n 0, 1) := by decide +kernel
theorem dX10_firstOpenOf_4 : decode cX10_firstOpenOf 4 = .ok (.getfield 23, 3) := by decide +kernel
theorem dX10_firstOpenOf_7 : decode cX10_firstOpenOf 7 = .ok (.getfield 128, 3) := by decide +kernel
theorem dX10_firstOpenOf_10 : decode cX10_firstOpenOf 10 = .ok (.if_icmp .ge 39, 3) := by decide +kernel
theorem dX10_firstOpenOf_13 : decode cX10_firstOpenOf 13 = .ok (.aload_n 0, 1) := by decide +kernel
theorem dX10_firstOpenOf_14 : decode cX10_firstOpenOf 14 = .ok (.getfield 23, 3) := by decide +kernel
theorem dX10_firstOpenOf_17 : decode cX10_firstOpenOf 17 = .ok (.getfield 177, 3) := by decide +kernel
theorem dX10_firstOpenOf_20 : decode cX10_firstOpenOf 20 = .ok (.iload_n 2, 1) := by decide +kernel
theorem dX10_firstOpenOf_21 : decode cX10_firstOpenOf 21 = .ok (.iaload, 1) := by decide +kernel
theorem dX10_firstOpenOf_22 : decode cX10_firstOpenOf 22 = .ok (.iload_n 1, 1) := by decide +kernel
theorem dX10_firstOpenOf_23 : decode cX10_firstOpenOf 23 = .ok (.if_icmp .ne 20, 3) := by decide +kernel
theorem dX10_firstOpenOf_26 : decode cX10_firstOpenOf 26 = .ok (.aload_n 0, 1) := by decide +kernel
theorem dX10_firstOpenOf_27 : decode cX10_firstOpenOf 27 = .ok (.getfield 33, 3) := by decide +kernel
theorem dX10_firstOpenOf_30 : decode cX10_firstOpenOf 30 = .ok (.aload_n 0, 1) := by decide +kernel
theorem dX10_firstOpenOf_31 : decode cX10_firstOpenOf 31 = .ok (.getfield 23, 3) := by decide +kernel
theorem dX10_firstOpenOf_34 : decode cX10_firstOpenOf 34 = .ok (.iload_n 2, 1) := by decide +kernel
theorem dX10_firstOpenOf_35 : decode cX10_firstOpenOf 35 = .ok (.invokevirtual 192, 3) := by decide +kernel
theorem dX10_firstOpenOf_38 : decode cX10_firstOpenOf 38 = .ok (.ifCond .ne 5, 3) := by decide +kernel
theorem dX10_firstOpenOf_41 : decode cX10_firstOpenOf 41 = .ok (.iload_n 2, 1) := by decide +kernel
theorem dX10_firstOpenOf_42 : decode cX10_firstOpenOf 42 = .ok (.ireturn, 1) := by decide +kernel
theorem dX10_firstOpenOf_43 : decode cX10_firstOpenOf 43 = .ok (.iinc 2 1, 3) := by decide +kernel
theorem dX10_firstOpenOf_46 : decode cX10_firstOpenOf 46 = .ok (.goto (-44), 3) := by decide +kernel
theorem dX10_firstOpenOf_49 : decode cX10_firstOpenOf 49 = .ok (.iconst (-1), 1) := by decide +kernel
theorem dX10_firstOpenOf_50 : decode cX10_firstOpenOf 50 = .ok (.ireturn, 1) := by decide +kernel
theorem dX10_mostBeside_0 : decode cX10_mostBeside 0 = .ok (.iconst 0, 1) := by decide +kernel
theorem dX10_mostBeside_1 : decode cX10_mostBeside 1 = .ok (.istore_n 3, 1) := by decide +kernel
theorem dX10_mostBeside_2 : decode cX10_mostBeside 2 = .ok (.iconst 0, 1) := by decide +kernel
theorem dX10_mostBeside_3 : decode cX10_mostBeside 3 = .ok (.istore 4, 2) := by decide +kernel
theorem dX10_mostBeside_5 : decode cX10_mostBeside 5 = .ok (.iload 4, 2) := by decide +kernel
theorem dX10_mostBeside_7 : decode cX10_mostBeside 7 = .ok (.iload_n 2, 1) := by decide +kernel
theorem dX10_mostBeside_8 : decode cX10_mostBeside 8 = .ok (.if_icmp .gt 43, 3) := by decide +kernel
theorem dX10_mostBeside_11 : decode cX10_mostBeside 11 = .ok (.iload 4, 2) := by decide +kernel
theorem dX10_mostBeside_13 : decode cX10_mostBeside 13 = .ok (.iload_n 1, 1) := by decide +kernel
theorem dX10_mostBeside_14 : decode cX10_mostBeside 14 = .ok (.iand, 1) := by decide +kernel
theorem dX10_mostBeside_15 : decode cX10_mostBeside 15 = .ok (.ifCond .ne 30, 3) := by decide +kernel
theorem dX10_mostBeside_18 : decode cX10_mostBeside 18 = .ok (.aload_n 0, 1) := by decide +kernel
theorem dX10_mostBeside_19 : decode cX10_mostBeside 19 = .ok (.getfield 64, 3) := by decide +kernel
theorem dX10_mostBeside_22 : decode cX10_mostBeside 22 = .ok (.getfield 245, 3) := by decide +kernel
theorem dX10_mostBeside_25 : decode cX10_mostBeside 25 = .ok (.iload 4, 2) := by decide +kernel
theorem dX10_mostBeside_27 : decode cX10_mostBeside 27 = .ok (.baload, 1) := by decide +kernel
theorem dX10_mostBeside_28 : decode cX10_mostBeside 28 = .ok (.ifCond .eq 17, 3) := by decide +kernel
theorem dX10_mostBeside_31 : decode cX10_mostBeside 31 = .ok (.iload_n 3, 1) := by decide +kernel
theorem dX10_mostBeside_32 : decode cX10_mostBeside 32 = .ok (.aload_n 0, 1) := by decide +kernel
theorem dX10_mostBeside_33 : decode cX10_mostBeside 33 = .ok (.getfield 23, 3) := by decide +kernel
theorem dX10_mostBeside_36 : decode cX10_mostBeside 36 = .ok (.iload 4, 2) := by decide +kernel
theorem dX10_mostBeside_38 : decode cX10_mostBeside 38 = .ok (.invokevirtual 153, 3) := by decide +kernel
theorem dX10_mostBeside_41 : decode cX10_mostBeside 41 = .ok (.invokestatic 252, 3) := by decide +kernel
theorem dX10_mostBeside_44 : decode cX10_mostBeside 44 = .ok (.istore_n 3, 1) := by decide +kernel
theorem dX10_mostBeside_45 : decode cX10_mostBeside 45 = .ok (.iinc 4 1, 3) := by decide +kernel
theorem dX10_mostBeside_48 : decode cX10_mostBeside 48 = .ok (.goto (-43), 3) := by decide +kernel
theorem dX10_mostBeside_51 : decode cX10_mostBeside 51 = .ok (.iload_n 3, 1) := by decide +kernel
theorem dX10_mostBeside_52 : decode cX10_mostBeside 52 = .ok (.ireturn, 1) := by decide +kernel
theorem dX10_sellMinute_0 : decode cX10_sellMinute 0 = .ok (.aload_n 0, 1) := by decide +kernel
theorem dX10_sellMinute_1 : decode cX10_sellMinute 1 = .ok (.iconst (-1), 1) := by decide +kernel
theorem dX10_sellMinute_2 : decode cX10_sellMinute 2 = .ok (.invokevirtual 326, 3) := by decide +kernel
theorem dX10_sellMinute_5 : decode cX10_sellMinute 5 = .ok (.istore_n 1, 1) := by decide +kernel
theorem dX10_sellMinute_6 : decode cX10_sellMinute 6 = .ok (.iload_n 1, 1) := by decide +kernel
theorem dX10_sellMinute_7 : decode cX10_sellMinute 7 = .ok (.iconst (-1), 1) := by decide +kernel
theorem dX10_sellMinute_8 : decode cX10_sellMinute 8 = .ok (.if_icmp .ne 4, 3) := by decide +kernel
theorem dX10_sellMinute_11 : decode cX10_sellMinute 11 = .ok (.return_, 1) := by decide +kernel
theorem dX10_sellMinute_12 : decode cX10_sellMinute 12 = .ok (.aload_n 0, 1) := by decide +kernel
theorem dX10_sellMinute_13 : decode cX10_sellMinute 13 = .ok (.iload_n 1, 1) := by decide +kernel
theorem dX10_sellMinute_14 : decode cX10_sellMinute 14 = .ok (.invokevirtual 326, 3) := by decide +kernel
theorem dX10_sellMinute_17 : decode cX10_sellMinute 17 = .ok (.istore_n 2, 1) := by decide +kernel
theorem dX10_sellMinute_18 : decode cX10_sellMinute 18 = .ok (.aload_n 0, 1) := by decide +kernel
theorem dX10_sellMinute_19 : decode cX10_sellMinute 19 = .ok (.getfield 92, 3) := by decide +kernel
theorem dX10_sellMinute_22 : decode cX10_sellMinute 22 = .ok (.iload_n 1, 1) := by decide +kernel
theorem dX10_sellMinute_23 : decode cX10_sellMinute 23 = .ok (.dup2, 1) := by decide +kernel
theorem dX10_sellMinute_24 : decode cX10_sellMinute 24 = .ok (.iaload, 1) := by decide +kernel
theorem dX10_sellMinute_25 : decode cX10_sellMinute 25 = .ok (.iload_n 2, 1) := by decide +kernel
theorem dX10_sellMinute_26 : decode cX10_sellMinute 26 = .ok (.iconst (-1), 1) := by decide +kernel
theorem dX10_sellMinute_27 : decode cX10_sellMinute 27 = .ok (.if_icmp .ne 7, 3) := by decide +kernel
theorem dX10_sellMinute_30 : decode cX10_sellMinute 30 = .ok (.iconst 0, 1) := by decide +kernel
theorem dX10_sellMinute_31 : decode cX10_sellMinute 31 = .ok (.goto 8, 3) := by decide +kernel
theorem dX10_sellMinute_34 : decode cX10_sellMinute 34 = .ok (.aload_n 0, 1) := by decide +kernel
theorem dX10_sellMinute_35 : decode cX10_sellMinute 35 = .ok (.iload_n 2, 1) := by decide +kernel
theorem dX10_sellMinute_36 : decode cX10_sellMinute 36 = .ok (.invokevirtual 329, 3) := by decide +kernel
theorem dX10_sellMinute_39 : decode cX10_sellMinute 39 = .ok (.iadd, 1) := by decide +kernel
theorem dX10_sellMinute_40 : decode cX10_sellMinute 40 = .ok (.iastore, 1) := by decide +kernel
theorem dX10_sellMinute_41 : decode cX10_sellMinute 41 = .ok (.aload_n 0, 1) := by decide +kernel
theorem dX10_sellMinute_42 : decode cX10_sellMinute 42 = .ok (.getfield 88, 3) := by decide +kernel
theorem dX10_sellMinute_45 : decode cX10_sellMinute 45 = .ok (.iload_n 1, 1) := by decide +kernel
theorem dX10_sellMinute_46 : decode cX10_sellMinute 46 = .ok (.dup2, 1) := by decide +kernel
theorem dX10_sellMinute_47 : decode cX10_sellMinute 47 = .ok (.iaload, 1) := by decide +kernel
theorem dX10_sellMinute_48 : decode cX10_sellMinute 48 = .ok (.iconst 1, 1) := by decide +kernel
theorem dX10_sellMinute_49 : decode cX10_sellMinute 49 = .ok (.iadd, 1) := by decide +kernel
theorem dX10_sellMinute_50 : decode cX10_sellMinute 50 = .ok (.iastore, 1) := by decide +kernel
theorem dX10_sellMinute_51 : decode cX10_sellMinute 51 = .ok (.return_, 1) := by decide +kernel
theorem dX10_bidOf_0 : decode cX10_bidOf 0 = .ok (.iconst 0, 1) := by decide +kernel
theorem dX10_bidOf_1 : decode cX10_bidOf 1 = .ok (.aload_n 0, 1) := by decide +kernel
theorem dX10_bidOf_2 : decode cX10_bidOf 2 = .ok (.getfield 23, 3) := by decide +kernel
theorem dX10_bidOf_5 : decode cX10_bidOf 5 = .ok (.getfield 171, 3) := by decide +kernel
theorem dX10_bidOf_8 : decode cX10_bidOf 8 = .ok (.iload_n 1, 1) := by decide +kernel
theorem dX10_bidOf_9 : decode cX10_bidOf 9 = .ok (.iaload, 1) := by decide +kernel
theorem dX10_bidOf_10 : decode cX10_bidOf 10 = .ok (.aload_n 0, 1) := by decide +kernel
theorem dX10_bidOf_11 : decode cX10_bidOf 11 = .ok (.getfield 88, 3) := by decide +kernel
theorem dX10_bidOf_14 : decode cX10_bidOf 14 = .ok (.iload_n 1, 1) := by decide +kernel
theorem dX10_bidOf_15 : decode cX10_bidOf 15 = .ok (.iaload, 1) := by decide +kernel
theorem dX10_bidOf_16 : decode cX10_bidOf 16 = .ok (.isub, 1) := by decide +kernel
theorem dX10_bidOf_17 : decode cX10_bidOf 17 = .ok (.invokestatic 252, 3) := by decide +kernel
theorem dX10_bidOf_20 : decode cX10_bidOf 20 = .ok (.ireturn, 1) := by decide +kernel
theorem dX10_highestBidder_0 : decode cX10_highestBidder 0 = .ok (.iconst (-1), 1) := by decide +kernel
theorem dX10_highestBidder_1 : decode cX10_highestBidder 1 = .ok (.istore_n 2, 1) := by decide +kernel
theorem dX10_highestBidder_2 : decode cX10_highestBidder 2 = .ok (.iconst 0, 1) := by decide +kernel
theorem dX10_highestBidder_3 : decode cX10_highestBidder 3 = .ok (.istore_n 3, 1) := by decide +kernel
theorem dX10_highestBidder_4 : decode cX10_highestBidder 4 = .ok (.iload_n 3, 1) := by decide +kernel
theorem dX10_highestBidder_5 : decode cX10_highestBidder 5 = .ok (.aload_n 0, 1) := by decide +kernel
theorem dX10_highestBidder_6 : decode cX10_highestBidder 6 = .ok (.getfield 23, 3) := by decide +kernel
theorem dX10_highestBidder_9 : decode cX10_highestBidder 9 = .ok (.getfield 134, 3) := by decide +kernel
theorem dX10_highestBidder_12 : decode cX10_highestBidder 12 = .ok (.if_icmp .ge 34, 3) := by decide +kernel
theorem dX10_highestBidder_15 : decode cX10_highestBidder 15 = .ok (.iload_n 3, 1) := by decide +kernel
theorem dX10_highestBidder_16 : decode cX10_highestBidder 16 = .ok (.iload_n 1, 1) := by decide +kernel
theorem dX10_highestBidder_17 : decode cX10_highestBidder 17 = .ok (.if_icmp .eq 23, 3) := by decide +kernel
theorem dX10_highestBidder_20 : decode cX10_highestBidder 20 = .ok (.iload_n 2, 1) := by decide +kernel
theorem dX10_highestBidder_21 : decode cX10_highestBidder 21 = .ok (.iconst (-1), 1) := by decide +kernel
theorem dX10_highestBidder_22 : decode cX10_highestBidder 22 = .ok (.if_icmp .eq 16, 3) := by decide +kernel
theorem dX10_highestBidder_25 : decode cX10_highestBidder 25 = .ok (.aload_n 0, 1) := by decide +kernel
theorem dX10_highestBidder_26 : decode cX10_highestBidder 26 = .ok (.iload_n 3, 1) := by decide +kernel
theorem dX10_highestBidder_27 : decode cX10_highestBidder 27 = .ok (.invokevirtual 329, 3) := by decide +kernel
theorem dX10_highestBidder_30 : decode cX10_highestBidder 30 = .ok (.aload_n 0, 1) := by decide +kernel
theorem dX10_highestBidder_31 : decode cX10_highestBidder 31 = .ok (.iload_n 2, 1) := by decide +kernel
theorem dX10_highestBidder_32 : decode cX10_highestBidder 32 = .ok (.invokevirtual 329, 3) := by decide +kernel
theorem dX10_highestBidder_35 : decode cX10_highestBidder 35 = .ok (.if_icmp .le 5, 3) := by decide +kernel
theorem dX10_highestBidder_38 : decode cX10_highestBidder 38 = .ok (.iload_n 3, 1) := by decide +kernel
theorem dX10_highestBidder_39 : decode cX10_highestBidder 39 = .ok (.istore_n 2, 1) := by decide +kernel
theorem dX10_highestBidder_40 : decode cX10_highestBidder 40 = .ok (.iinc 3 1, 3) := by decide +kernel
theorem dX10_highestBidder_43 : decode cX10_highestBidder 43 = .ok (.goto (-39), 3) := by decide +kernel
theorem dX10_highestBidder_46 : decode cX10_highestBidder 46 = .ok (.iload_n 2, 1) := by decide +kernel
theorem dX10_highestBidder_47 : decode cX10_highestBidder 47 = .ok (.ireturn, 1) := by decide +kernel
theorem dX10_wordForMost_0 : decode cX10_wordForMost 0 = .ok (.iconst (-1), 1) := by decide +kernel
theorem dX10_wordForMost_1 : decode cX10_wordForMost 1 = .ok (.istore_n 2, 1) := by decide +kernel
theorem dX10_wordForMost_2 : decode cX10_wordForMost 2 = .ok (.iconst (-1), 1) := by decide +kernel
theorem dX10_wordForMost_3 : decode cX10_wordForMost 3 = .ok (.istore_n 3, 1) := by decide +kernel
theorem dX10_wordForMost_4 : decode cX10_wordForMost 4 = .ok (.iconst 0, 1) := by decide +kernel
theorem dX10_wordForMost_5 : decode cX10_wordForMost 5 = .ok (.istore 4, 2) := by decide +kernel
theorem dX10_wordForMost_7 : decode cX10_wordForMost 7 = .ok (.iload 4, 2) := by decide +kernel
theorem dX10_wordForMost_9 : decode cX10_wordForMost 9 = .ok (.aload_n 0, 1) := by decide +kernel
theorem dX10_wordForMost_10 : decode cX10_wordForMost 10 = .ok (.getfield 23, 3) := by decide +kernel
theorem dX10_wordForMost_13 : decode cX10_wordForMost 13 = .ok (.getfield 137, 3) := by decide +kernel
theorem dX10_wordForMost_16 : decode cX10_wordForMost 16 = .ok (.if_icmp .ge 42, 3) := by decide +kernel
theorem dX10_wordForMost_19 : decode cX10_wordForMost 19 = .ok (.aload_n 0, 1) := by decide +kernel
theorem dX10_wordForMost_20 : decode cX10_wordForMost 20 = .ok (.getfield 23, 3) := by decide +kernel
theorem dX10_wordForMost_23 : decode cX10_wordForMost 23 = .ok (.iload_n 1, 1) := by decide +kernel
theorem dX10_wordForMost_24 : decode cX10_wordForMost 24 = .ok (.aload_n 0, 1) := by decide +kernel
theorem dX10_wordForMost_25 : decode cX10_wordForMost 25 = .ok (.getfield 23, 3) := by decide +kernel
theorem dX10_wordForMost_28 : decode cX10_wordForMost 28 = .ok (.getfield 210, 3) := by decide +kernel
theorem dX10_wordForMost_31 : decode cX10_wordForMost 31 = .ok (.iload 4, 2) := by decide +kernel
theorem dX10_wordForMost_33 : decode cX10_wordForMost 33 = .ok (.iaload, 1) := by decide +kernel
theorem dX10_wordForMost_34 : decode cX10_wordForMost 34 = .ok (.iand, 1) := by decide +kernel
theorem dX10_wordForMost_35 : decode cX10_wordForMost 35 = .ok (.invokevirtual 153, 3) := by decide +kernel
theorem dX10_wordForMost_38 : decode cX10_wordForMost 38 = .ok (.istore 5, 2) := by decide +kernel
theorem dX10_wordForMost_40 : decode cX10_wordForMost 40 = .ok (.iload 5, 2) := by decide +kernel
theorem dX10_wordForMost_42 : decode cX10_wordForMost 42 = .ok (.iload_n 3, 1) := by decide +kernel
theorem dX10_wordForMost_43 : decode cX10_wordForMost 43 = .ok (.if_icmp .le 9, 3) := by decide +kernel
theorem dX10_wordForMost_46 : decode cX10_wordForMost 46 = .ok (.iload 4, 2) := by decide +kernel
theorem dX10_wordForMost_48 : decode cX10_wordForMost 48 = .ok (.istore_n 2, 1) := by decide +kernel
theorem dX10_wordForMost_49 : decode cX10_wordForMost 49 = .ok (.iload 5, 2) := by decide +kernel
theorem dX10_wordForMost_51 : decode cX10_wordForMost 51 = .ok (.istore_n 3, 1) := by decide +kernel
theorem dX10_wordForMost_52 : decode cX10_wordForMost 52 = .ok (.iinc 4 1, 3) := by decide +kernel
theorem dX10_wordForMost_55 : decode cX10_wordForMost 55 = .ok (.goto (-48), 3) := by decide +kernel
theorem dX10_wordForMost_58 : decode cX10_wordForMost 58 = .ok (.iload_n 2, 1) := by decide +kernel
theorem dX10_wordForMost_59 : decode cX10_wordForMost 59 = .ok (.ireturn, 1) := by decide +kernel
theorem dX10_mostVoted_0 : decode cX10_mostVoted 0 = .ok (.iconst (-1), 1) := by decide +kernel
theorem dX10_mostVoted_1 : decode cX10_mostVoted 1 = .ok (.istore_n 1, 1) := by decide +kernel
theorem dX10_mostVoted_2 : decode cX10_mostVoted 2 = .ok (.iconst 0, 1) := by decide +kernel
theorem dX10_mostVoted_3 : decode cX10_mostVoted 3 = .ok (.istore_n 2, 1) := by decide +kernel
theorem dX10_mostVoted_4 : decode cX10_mostVoted 4 = .ok (.iconst 0, 1) := by decide +kernel
theorem dX10_mostVoted_5 : decode cX10_mostVoted 5 = .ok (.istore_n 3, 1) := by decide +kernel
theorem dX10_mostVoted_6 : decode cX10_mostVoted 6 = .ok (.iload_n 3, 1) := by decide +kernel
theorem dX10_mostVoted_7 : decode cX10_mostVoted 7 = .ok (.aload_n 0, 1) := by decide +kernel
theorem dX10_mostVoted_8 : decode cX10_mostVoted 8 = .ok (.getfield 23, 3) := by decide +kernel
theorem dX10_mostVoted_11 : decode cX10_mostVoted 11 = .ok (.getfield 137, 3) := by decide +kernel
theorem dX10_mostVoted_14 : decode cX10_mostVoted 14 = .ok (.if_icmp .ge 28, 3) := by decide +kernel
theorem dX10_mostVoted_17 : decode cX10_mostVoted 17 = .ok (.aload_n 0, 1) := by decide +kernel
theorem dX10_mostVoted_18 : decode cX10_mostVoted 18 = .ok (.getfield 88, 3) := by decide +kernel
theorem dX10_mostVoted_21 : decode cX10_mostVoted 21 = .ok (.iload_n 3, 1) := by decide +kernel
theorem dX10_mostVoted_22 : decode cX10_mostVoted 22 = .ok (.iaload, 1) := by decide +kernel
theorem dX10_mostVoted_23 : decode cX10_mostVoted 23 = .ok (.iload_n 2, 1) := by decide +kernel
theorem dX10_mostVoted_24 : decode cX10_mostVoted 24 = .ok (.if_icmp .le 12, 3) := by decide +kernel
theorem dX10_mostVoted_27 : decode cX10_mostVoted 27 = .ok (.iload_n 3, 1) := by decide +kernel
theorem dX10_mostVoted_28 : decode cX10_mostVoted 28 = .ok (.istore_n 1, 1) := by decide +kernel
theorem dX10_mostVoted_29 : decode cX10_mostVoted 29 = .ok (.aload_n 0, 1) := by decide +kernel
theorem dX10_mostVoted_30 : decode cX10_mostVoted 30 = .ok (.getfield 88, 3) := by decide +kernel
theorem dX10_mostVoted_33 : decode cX10_mostVoted 33 = .ok (.iload_n 3, 1) := by decide +kernel
theorem dX10_mostVoted_34 : decode cX10_mostVoted 34 = .ok (.iaload, 1) := by decide +kernel
theorem dX10_mostVoted_35 : decode cX10_mostVoted 35 = .ok (.istore_n 2, 1) := by decide +kernel
theorem dX10_mostVoted_36 : decode cX10_mostVoted 36 = .ok (.iinc 3 1, 3) := by decide +kernel
theorem dX10_mostVoted_39 : decode cX10_mostVoted 39 = .ok (.goto (-33), 3) := by decide +kernel
theorem dX10_mostVoted_42 : decode cX10_mostVoted 42 = .ok (.iload_n 1, 1) := by decide +kernel
theorem dX10_mostVoted_43 : decode cX10_mostVoted 43 = .ok (.ireturn, 1) := by decide +kernel
theorem dX11_init_0 : decode cX11_init 0 = .ok (.aload_n 0, 1) := by decide +kernel
theorem dX11_init_1 : decode cX11_init 1 = .ok (.invokespecial 1, 3) := by decide +kernel
theorem dX11_init_4 : decode cX11_init 4 = .ok (.aload_n 0, 1) := by decide +kernel
theorem dX11_init_5 : decode cX11_init 5 = .ok (.sipush 250, 3) := by decide +kernel
theorem dX11_init_8 : decode cX11_init 8 = .ok (.newarray .int, 2) := by decide +kernel
theorem dX11_init_10 : decode cX11_init 10 = .ok (.putfield 7, 3) := by decide +kernel
theorem dX11_init_13 : decode cX11_init 13 = .ok (.aload_n 0, 1) := by decide +kernel
theorem dX11_init_14 : decode cX11_init 14 = .ok (.iconst (-1), 1) := by decide +kernel
theorem dX11_init_15 : decode cX11_init 15 = .ok (.putfield 13, 3) := by decide +kernel
theorem dX11_init_18 : decode cX11_init 18 = .ok (.aload_n 0, 1) := by decide +kernel
theorem dX11_init_19 : decode cX11_init 19 = .ok (.bipush 49, 2) := by decide +kernel
theorem dX11_init_21 : decode cX11_init 21 = .ok (.newarray .int, 2) := by decide +kernel
theorem dX11_init_23 : decode cX11_init 23 = .ok (.putfield 17, 3) := by decide +kernel
theorem dX11_init_26 : decode cX11_init 26 = .ok (.aload_n 0, 1) := by decide +kernel
theorem dX11_init_27 : decode cX11_init 27 = .ok (.bipush 49, 2) := by decide +kernel
theorem dX11_init_29 : decode cX11_init 29 = .ok (.newarray .boolean, 2) := by decide +kernel
theorem dX11_init_31 : decode cX11_init 31 = .ok (.putfield 20, 3) := by decide +kernel
theorem dX11_init_34 : decode cX11_init 34 = .ok (.aload_n 0, 1) := by decide +kernel
theorem dX11_init_35 : decode cX11_init 35 = .ok (.bipush 6, 2) := by decide +kernel
theorem dX11_init_37 : decode cX11_init 37 = .ok (.newarray .int, 2) := by decide +kernel
theorem dX11_init_39 : decode cX11_init 39 = .ok (.putfield 24, 3) := by decide +kernel
theorem dX11_init_42 : decode cX11_init 42 = .ok (.aload_n 0, 1) := by decide +kernel
theorem dX11_init_43 : decode cX11_init 43 = .ok (.bipush 6, 2) := by decide +kernel
theorem dX11_init_45 : decode cX11_init 45 = .ok (.newarray .int, 2) := by decide +kernel
theorem dX11_init_47 : decode cX11_init 47 = .ok (.putfield 27, 3) := by decide +kernel
theorem dX11_init_50 : decode cX11_init 50 = .ok (.aload_n 0, 1) := by decide +kernel
theorem dX11_init_51 : decode cX11_init 51 = .ok (.bipush 30, 2) := by decide +kernel
theorem dX11_init_53 : decode cX11_init 53 = .ok (.newarray .int, 2) := by decide +kernel
theorem dX11_init_55 : decode cX11_init 55 = .ok (.putfield 30, 3) := by decide +kernel
theorem dX11_init_58 : decode cX11_init 58 = .ok (.aload_n 0, 1) := by decide +kernel
theorem dX11_init_59 : decode cX11_init 59 = .ok (.bipush 36, 2) := by decide +kernel
theorem dX11_init_61 : decode cX11_init 61 = .ok (.newarray .int, 2) := by decide +kernel
theorem dX11_init_63 : decode cX11_init 63 = .ok (.putfield 33, 3) := by decide +kernel
theorem dX11_init_66 : decode cX11_init 66 = .ok (.aload_n 0, 1) := by decide +kernel
theorem dX11_init_67 : decode cX11_init 67 = .ok (.iconst 4, 1) := by decide +kernel
theorem dX11_init_68 : decode cX11_init 68 = .ok (.newarray .int, 2) := by decide +kernel
theorem dX11_init_70 : decode cX11_init 70 = .ok (.putfield 36, 3) := by decide +kernel
theorem dX11_init_73 : decode cX11_init 73 = .ok (.aload_n 0, 1) := by decide +kernel
theorem dX11_init_74 : decode cX11_init 74 = .ok (.bipush 10, 2) := by decide +kernel
theorem dX11_init_76 : decode cX11_init 76 = .ok (.newarray .int, 2) := by decide +kernel
theorem dX11_init_78 : decode cX11_init 78 = .ok (.putfield 39, 3) := by decide +kernel
theorem dX11_init_81 : decode cX11_init 81 = .ok (.aload_n 0, 1) := by decide +kernel
theorem dX11_init_82 : decode cX11_init 82 = .ok (.bipush 12, 2) := by decide +kernel
theorem dX11_init_84 : decode cX11_init 84 = .ok (.newarray .int, 2) := by decide +kernel
theorem dX11_init_86 : decode cX11_init 86 = .ok (.putfield 42, 3) := by decide +kernel
theorem dX11_init_89 : decode cX11_init 89 = .ok (.aload_n 0, 1) := by decide +kernel
theorem dX11_init_90 : decode cX11_init 90 = .ok (.bipush 30, 2) := by decide +kernel
theorem dX11_init_92 : decode cX11_init 92 = .ok (.newarray .int, 2) := by decide +kernel
theorem dX11_init_94 : decode cX11_init 94 = .ok (.putfield 45, 3) := by decide +kernel
theorem dX11_init_97 : decode cX11_init 97 = .ok (.aload_n 0, 1) := by decide +kernel
theorem dX11_init_98 : decode cX11_init 98 = .ok (.bipush 49, 2) := by decide +kernel
theorem dX11_init_100 : decode cX11_init 100 = .ok (.newarray .int, 2) := by decide +kernel
theorem dX11_init_102 : decode cX11_init 102 = .ok (.putfield 48, 3) := by decide +kernel
theorem dX11_init_105 : decode cX11_init 105 = .ok (.aload_n 0, 1) := by decide +kernel
theorem dX11_init_106 : decode cX11_init 106 = .ok (.bipush 12, 2) := by decide +kernel
theorem dX11_init_108 : decode cX11_init 108 = .ok (.newarray .int, 2) := by decide +kernel
theorem dX11_init_110 : decode cX11_init 110 = .ok (.putfield 51, 3) := by decide +kernel
theorem dX11_init_113 : decode cX11_init 113 = .ok (.aload_n 0, 1) := by decide +kernel
theorem dX11_init_114 : decode cX11_init 114 = .ok (.bipush 30, 2) := by decide +kernel
theorem dX11_init_116 : decode cX11_init 116 = .ok (.newarray .int, 2) := by decide +kernel
theorem dX11_init_118 : decode cX11_init 118 = .ok (.putfield 54, 3) := by decide +kernel
theorem dX11_init_121 : decode cX11_init 121 = .ok (.aload_n 0, 1) := by decide +kernel
theorem dX11_init_122 : decode cX11_init 122 = .ok (.bipush 36, 2) := by decide +kernel
theorem dX11_init_124 : decode cX11_init 124 = .ok (.newarray .int, 2) := by decide +kernel
theorem dX11_init_126 : decode cX11_init 126 = .ok (.putfield 57, 3) := by decide +kernel
theorem dX11_init_129 : decode cX11_init 129 = .ok (.aload_n 0, 1) := by decide +kernel
theorem dX11_init_130 : decode cX11_init 130 = .ok (.iconst 4, 1) := by decide +kernel
theorem dX11_init_131 : decode cX11_init 131 = .ok (.newarray .int, 2) := by decide +kernel
theorem dX11_init_133 : decode cX11_init 133 = .ok (.putfield 60, 3) := by decide +kernel
theorem dX11_init_136 : decode cX11_init 136 = .ok (.aload_n 0, 1) := by decide +kernel
theorem dX11_init_137 : decode cX11_init 137 = .ok (.sipush 384, 3) := by decide +kernel
theorem dX11_init_140 : decode cX11_init 140 = .ok (.newarray .int, 2) := by decide +kernel
theorem dX11_init_142 : decode cX11_init 142 = .ok (.putfield 63, 3) := by decide +kernel
theorem dX11_init_145 : decode cX11_init 145 = .ok (.aload_n 0, 1) := by decide +kernel
theorem dX11_init_146 : decode cX11_init 146 = .ok (.bipush 6, 2) := by decide +kernel
theorem dX11_init_148 : decode cX11_init 148 = .ok (.newarray .int, 2) := by decide +kernel
theorem dX11_init_150 : decode cX11_init 150 = .ok (.putfield 66, 3) := by decide +kernel
theorem dX11_init_153 : decode cX11_init 153 = .ok (.aload_n 0, 1) := by decide +kernel
theorem dX11_init_154 : decode cX11_init 154 = .ok (.bipush 6, 2) := by decide +kernel
theorem dX11_init_156 : decode cX11_init 156 = .ok (.newarray .int, 2) := by decide +kernel
theorem dX11_init_158 : decode cX11_init 158 = .ok (.putfield 69, 3) := by decide +kernel
theorem dX11_init_161 : decode cX11_init 161 = .ok (.aload_n 0, 1) := by decide +kernel
theorem dX11_init_162 : decode cX11_init 162 = .ok (.bipush 64, 2) := by decide +kernel
theorem dX11_init_164 : decode cX11_init 164 = .ok (.newarray .boolean, 2) := by decide +kernel
theorem dX11_init_166 : decode cX11_init 166 = .ok (.putfield 72, 3) := by decide +kernel
theorem dX11_init_169 : decode cX11_init 169 = .ok (.aload_n 0, 1) := by decide +kernel
theorem dX11_init_170 : decode cX11_init 170 = .ok (.bipush 6, 2) := by decide +kernel
theorem dX11_init_172 : decode cX11_init 172 = .ok (.newarray .int, 2) := by decide +kernel
theorem dX11_init_174 : decode cX11_init 174 = .ok (.putfield 75, 3) := by decide +kernel
theorem dX11_init_177 : decode cX11_init 177 = .ok (.aload_n 0, 1) := by decide +kernel
theorem dX11_init_178 : decode cX11_init 178 = .ok (.bipush 6, 2) := by decide +kernel
theorem dX11_init_180 : decode cX11_init 180 = .ok (.newarray .int, 2) := by decide +kernel
theorem dX11_init_182 : decode cX11_init 182 = .ok (.putfield 78, 3) := by decide +kernel
theorem dX11_init_185 : decode cX11_init 185 = .ok (.aload_n 0, 1) := by decide +kernel
theorem dX11_init_186 : decode cX11_init 186 = .ok (.bipush 49, 2) := by decide +kernel
theorem dX11_init_188 : decode cX11_init 188 = .ok (.newarray .int, 2) := by decide +kernel
theorem dX11_init_190 : decode cX11_init 190 = .ok (.putfield 81, 3) := by decide +kernel
theorem dX11_init_193 : decode cX11_init 193 = .ok (.aload_n 0, 1) := by decide +kernel
theorem dX11_init_194 : decode cX11_init 194 = .ok (.bipush 49, 2) := by decide +kernel
theorem dX11_init_196 : decode cX11_init 196 = .ok (.newarray .int, 2) := by decide +kernel
theorem dX11_init_198 : decode cX11_init 198 = .ok (.putfield 84, 3) := by decide +kernel
theorem dX11_init_201 : decode cX11_init 201 = .ok (.aload_n 0, 1) := by decide +kernel
theorem dX11_init_202 : decode cX11_init 202 = .ok (.bipush 6, 2) := by decide +kernel
theorem dX11_init_204 : decode cX11_init 204 = .ok (.newarray .int, 2) := by decide +kernel
theorem dX11_init_206 : decode cX11_init 206 = .ok (.putfield 87, 3) := by decide +kernel
theorem dX11_init_209 : decode cX11_init 209 = .ok (.aload_n 0, 1) := by decide +kernel
theorem dX11_init_210 : decode cX11_init 210 = .ok (.bipush 6, 2) := by decide +kernel
theorem dX11_init_212 : decode cX11_init 212 = .ok (.newarray .int, 2) := by decide +kernel
theorem dX11_init_214 : decode cX11_init 214 = .ok (.putfield 90, 3) := by decide +kernel
theorem dX11_init_217 : decode cX11_init 217 = .ok (.aload_n 0, 1) := by decide +kernel
theorem dX11_init_218 : decode cX11_init 218 = .ok (.iconst 2, 1) := by decide +kernel
theorem dX11_init_219 : decode cX11_init 219 = .ok (.newarray .boolean, 2) := by decide +kernel
theorem dX11_init_221 : decode cX11_init 221 = .ok (.putfield 93, 3) := by decide +kernel
theorem dX11_init_224 : decode cX11_init 224 = .ok (.aload_n 0, 1) := by decide +kernel
theorem dX11_init_225 : decode cX11_init 225 = .ok (.bipush 20, 2) := by decide +kernel
theorem dX11_init_227 : decode cX11_init 227 = .ok (.newarray .int, 2) := by decide +kernel
theorem dX11_init_229 : decode cX11_init 229 = .ok (.putfield 96, 3) := by decide +kernel
theorem dX11_init_232 : decode cX11_init 232 = .ok (.iconst 0, 1) := by decide +kernel
theorem dX11_init_233 : decode cX11_init 233 = .ok (.istore_n 1, 1) := by decide +kernel
theorem dX11_init_234 : decode cX11_init 234 = .ok (.iload_n 1, 1) := by decide +kernel
theorem dX11_init_235 : decode cX11_init 235 = .ok (.bipush 6, 2) := by decide +kernel
theorem dX11_init_237 : decode cX11_init 237 = .ok (.if_icmp .ge 18, 3) := by decide +kernel
theorem dX11_init_240 : decode cX11_init 240 = .ok (.aload_n 0, 1) := by decide +kernel
theorem dX11_init_241 : decode cX11_init 241 = .ok (.getfield 39, 3) := by decide +kernel
theorem dX11_init_244 : decode cX11_init 244 = .ok (.iconst 4, 1) := by decide +kernel
theorem dX11_init_245 : decode cX11_init 245 = .ok (.iload_n 1, 1) := by decide +kernel
theorem dX11_init_246 : decode cX11_init 246 = .ok (.iadd, 1) := by decide +kernel
theorem dX11_init_247 : decode cX11_init 247 = .ok (.iconst (-1), 1) := by decide +kernel
theorem dX11_init_248 : decode cX11_init 248 = .ok (.iastore, 1) := by decide +kernel
theorem dX11_init_249 : decode cX11_init 249 = .ok (.iinc 1 1, 3) := by decide +kernel
theorem dX11_init_252 : decode cX11_init 252 = .ok (.goto (-18), 3) := by decide +kernel
theorem dX11_init_255 : decode cX11_init 255 = .ok (.aload_n 0, 1) := by decide +kernel
theorem dX11_init_256 : decode cX11_init 256 = .ok (.getfield 39, 3) := by decide +kernel
theorem dX11_init_259 : decode cX11_init 259 = .ok (.iconst 2, 1) := by decide +kernel
theorem dX11_init_260 : decode cX11_init 260 = .ok (.iconst (-1), 1) := by decide +kernel
theorem dX11_init_261 : decode cX11_init 261 = .ok (.iastore, 1) := by decide +kernel
theorem dX11_init_262 : decode cX11_init 262 = .ok (.return_, 1) := by decide +kernel
theorem dX11_in_0 : decode cX11_in 0 = .ok (.lload_n 0, 1) := by decide +kernel
theorem dX11_in_1 : decode cX11_in 1 = .ok (.lload_n 2, 1) := by decide +kernel
theorem dX11_in_2 : decode cX11_in 2 = .ok (.lcmp, 1) := by decide +kernel
theorem dX11_in_3 : decode cX11_in 3 = .ok (.ifCond .lt 14, 3) := by decide +kernel
theorem dX11_in_6 : decode cX11_in 6 = .ok (.lload_n 0, 1) := by decide +kernel
theorem dX11_in_7 : decode cX11_in 7 = .ok (.lload 4, 2) := by decide +kernel
theorem dX11_in_9 : decode cX11_in 9 = .ok (.lcmp, 1) := by decide +kernel
theorem dX11_in_10 : decode cX11_in 10 = .ok (.ifCond .gt 7, 3) := by decide +kernel
theorem dX11_in_13 : decode cX11_in 13 = .ok (.iconst 1, 1) := by decide +kernel
theorem dX11_in_14 : decode cX11_in 14 = .ok (.goto 4, 3) := by decide +kernel
theorem dX11_in_17 : decode cX11_in 17 = .ok (.iconst 0, 1) := by decide +kernel
theorem dX11_in_18 : decode cX11_in 18 = .ok (.ireturn, 1) := by decide +kernel
theorem dX11_has_0 : decode cX11_has 0 = .ok (.iload_n 0, 1) := by decide +kernel
theorem dX11_has_1 : decode cX11_has 1 = .ok (.iload_n 1, 1) := by decide +kernel
theorem dX11_has_2 : decode cX11_has 2 = .ok (.ishr, 1) := by decide +kernel
theorem dX11_has_3 : decode cX11_has 3 = .ok (.iconst 1, 1) := by decide +kernel
theorem dX11_has_4 : decode cX11_has 4 = .ok (.iand, 1) := by decide +kernel
theorem dX11_has_5 : decode cX11_has 5 = .ok (.iconst 1, 1) := by decide +kernel
theorem dX11_has_6 : decode cX11_has 6 = .ok (.if_icmp .ne 7, 3) := by decide +kernel
theorem dX11_has_9 : decode cX11_has 9 = .ok (.iconst 1, 1) := by decide +kernel
theorem dX11_has_10 : decode cX11_has 10 = .ok (.goto 4, 3) := by decide +kernel
theorem dX11_has_13 : decode cX11_has 13 = .ok (.iconst 0, 1) := by decide +kernel
theorem dX11_has_14 : decode cX11_has 14 = .ok (.ireturn, 1) := by decide +kernel
theorem dX11_isSquare_0 : decode cX11_isSquare 0 = .ok (.iload_n 1, 1) := by decide +kernel
theorem dX11_isSquare_1 : decode cX11_isSquare 1 = .ok (.i2l, 1) := by decide +kernel
theorem dX11_isSquare_2 : decode cX11_isSquare 2 = .ok (.lconst 0, 1) := by decide +kernel
theorem dX11_isSquare_3 : decode cX11_isSquare 3 = .ok (.aload_n 0, 1) := by decide +kernel
theorem dX11_isSquare_4 : decode cX11_isSquare 4 = .ok (.getfield 99, 3) := by decide +kernel
theorem dX11_isSquare_7 : decode cX11_isSquare 7 = .ok (.iconst 1, 1) := by decide +kernel
theorem dX11_isSquare_8 : decode cX11_isSquare 8 = .ok (.isub, 1) := by decide +kernel
theorem dX11_isSquare_9 : decode cX11_isSquare 9 = .ok (.i2l, 1) := by decide +kernel
theorem dX11_isSquare_10 : decode cX11_isSquare 10 = .ok (.invokestatic 102, 3) := by decide +kernel
theorem dX11_isSquare_13 : decode cX11_isSquare 13 = .ok (.ireturn, 1) := by decide +kernel
theorem dX11_isPerson_0 : decode cX11_isPerson 0 = .ok (.iload_n 1, 1) := by decide +kernel
theorem dX11_isPerson_1 : decode cX11_isPerson 1 = .ok (.i2l, 1) := by decide +kernel
theorem dX11_isPerson_2 : decode cX11_isPerson 2 = .ok (.lconst 0, 1) := by decide +kernel
theorem dX11_isPerson_3 : decode cX11_isPerson 3 = .ok (.aload_n 0, 1) := by decide +kernel
theorem dX11_isPerson_4 : decode cX11_isPerson 4 = .ok (.getfield 106, 3) := by decide +kernel
theorem dX11_isPerson_7 : decode cX11_isPerson 7 = .ok (.iconst 1, 1) := by decide +kernel
theorem dX11_isPerson_8 : decode cX11_isPerson 8 = .ok (.isub, 1) := by decide +kernel
theorem dX11_isPerson_9 : decode cX11_isPerson 9 = .ok (.i2l, 1) := by decide +kernel
theorem dX11_isPerson_10 : decode cX11_isPerson 10 = .ok (.invokestatic 102, 3) := by decide +kernel
theorem dX11_isPerson_13 : decode cX11_isPerson 13 = .ok (.ireturn, 1) := by decide +kernel
theorem dX11_isDeed_0 : decode cX11_isDeed 0 = .ok (.iload_n 1, 1) := by decide +kernel
theorem dX11_isDeed_1 : decode cX11_isDeed 1 = .ok (.i2l, 1) := by decide +kernel
theorem dX11_isDeed_2 : decode cX11_isDeed 2 = .ok (.lconst 0, 1) := by decide +kernel
theorem dX11_isDeed_3 : decode cX11_isDeed 3 = .ok (.aload_n 0, 1) := by decide +kernel
theorem dX11_isDeed_4 : decode cX11_isDeed 4 = .ok (.getfield 109, 3) := by decide +kernel
theorem dX11_isDeed_7 : decode cX11_isDeed 7 = .ok (.iconst 1, 1) := by decide +kernel
theorem dX11_isDeed_8 : decode cX11_isDeed 8 = .ok (.isub, 1) := by decide +kernel
theorem dX11_isDeed_9 : decode cX11_isDeed 9 = .ok (.i2l, 1) := by decide +kernel
theorem dX11_isDeed_10 : decode cX11_isDeed 10 = .ok (.invokestatic 102, 3) := by decide +kernel
theorem dX11_isDeed_13 : decode cX11_isDeed 13 = .ok (.ireturn, 1) := by decide +kernel
theorem dX11_feed_0 : decode cX11_feed 0 = .ok (.iload_n 1, 1) := by decide +kernel
theorem dX11_feed_1 : decode cX11_feed 1 = .ok (.i2l, 1) := by decide +kernel
theorem dX11_feed_2 : decode cX11_feed 2 = .ok (.lconst 0, 1) := by decide +kernel
theorem dX11_feed_3 : decode cX11_feed 3 = .ok (.ldc2_w 112, 3) := by decide +kernel
theorem dX11_feed_6 : decode cX11_feed 6 = .ok (.invokestatic 102, 3) := by decide +kernel
theorem dX11_feed_9 : decode cX11_feed 9 = .ok (.ifCond .ne 6, 3) := by decide +kernel
theorem dX11_feed_12 : decode cX11_feed 12 = .ok (.ldc 114, 2) := by decide +kernel
theorem dX11_feed_14 : decode cX11_feed 14 = .ok (.ireturn, 1) := by decide +kernel
theorem dX11_feed_15 : decode cX11_feed 15 = .ok (.aload_n 0, 1) := by decide +kernel
theorem dX11_feed_16 : decode cX11_feed 16 = .ok (.getfield 115, 3) := by decide +kernel
theorem dX11_feed_19 : decode cX11_feed 19 = .ok (.sipush 250, 3) := by decide +kernel
theorem dX11_feed_22 : decode cX11_feed 22 = .ok (.if_icmp .ne 6, 3) := by decide +kernel
theorem dX11_feed_25 : decode cX11_feed 25 = .ok (.ldc 118, 2) := by decide +kernel
theorem dX11_feed_27 : decode cX11_feed 27 = .ok (.ireturn, 1) := by decide +kernel
theorem dX11_feed_28 : decode cX11_feed 28 = .ok (.aload_n 0, 1) := by decide +kernel
theorem dX11_feed_29 : decode cX11_feed 29 = .ok (.getfield 7, 3) := by decide +kernel
theorem dX11_feed_32 : decode cX11_feed 32 = .ok (.aload_n 0, 1) := by decide +kernel
theorem dX11_feed_33 : decode cX11_feed 33 = .ok (.getfield 115, 3) := by decide +kernel
theorem dX11_feed_36 : decode cX11_feed 36 = .ok (.iload_n 1, 1) := by decide +kernel
theorem dX11_feed_37 : decode cX11_feed 37 = .ok (.iastore, 1) := by decide +kernel
theorem dX11_feed_38 : decode cX11_feed 38 = .ok (.aload_n 0, 1) := by decide +kernel
theorem dX11_feed_39 : decode cX11_feed 39 = .ok (.dup, 1) := by decide +kernel
theorem dX11_feed_40 : decode cX11_feed 40 = .ok (.getfield 115, 3) := by decide +kernel
theorem dX11_feed_43 : decode cX11_feed 43 = .ok (.iconst 1, 1) := by decide +kernel
theorem dX11_feed_44 : decode cX11_feed 44 = .ok (.iadd, 1) := by decide +kernel
theorem dX11_feed_45 : decode cX11_feed 45 = .ok (.putfield 115, 3) := by decide +kernel
theorem dX11_feed_48 : decode cX11_feed 48 = .ok (.aload_n 0, 1) := by decide +kernel
theorem dX11_feed_49 : decode cX11_feed 49 = .ok (.getfield 115, 3) := by decide +kernel
theorem dX11_feed_52 : decode cX11_feed 52 = .ok (.ireturn, 1) := by decide +kernel
theorem dX11_nextToken_0 : decode cX11_nextToken 0 = .ok (.aload_n 0, 1) := by decide +kernel
theorem dX11_nextToken_1 : decode cX11_nextToken 1 = .ok (.getfield 119, 3) := by decide +kernel
theorem dX11_nextToken_4 : decode cX11_nextToken 4 = .ok (.aload_n 0, 1) := by decide +kernel
theorem dX11_nextToken_5 : decode cX11_nextToken 5 = .ok (.getfield 115, 3) := by decide +kernel
theorem dX11_nextToken_8 : decode cX11_nextToken 8 = .ok (.if_icmp .ge 30, 3) := by decide +kernel
theorem dX11_nextToken_11 : decode cX11_nextToken 11 = .ok (.aload_n 0, 1) := by decide +kernel
theorem dX11_nextToken_12 : decode cX11_nextToken 12 = .ok (.getfield 7, 3) := by decide +kernel
theorem dX11_nextToken_15 : decode cX11_nextToken 15 = .ok (.aload_n 0, 1) := by decide +kernel
theorem dX11_nextToken_16 : decode cX11_nextToken 16 = .ok (.getfield 119, 3) := by decide +kernel
theorem dX11_nextToken_19 : decode cX11_nextToken 19 = .ok (.iaload, 1) := by decide +kernel
theorem dX11_nextToken_20 : decode cX11_nextToken 20 = .ok (.bipush 32, 2) := by decide +kernel
theorem dX11_nextToken_22 : decode cX11_nextToken 22 = .ok (.if_icmp .ne 16, 3) := by decide +kernel
theorem dX11_nextToken_25 : decode cX11_nextToken 25 = .ok (.aload_n 0, 1) := by decide +kernel
theorem dX11_nextToken_26 : decode cX11_nextToken 26 = .ok (.dup, 1) := by decide +kernel
theorem dX11_nextToken_27 : decode cX11_nextToken 27 = .ok (.getfield 119, 3) := by decide +kernel
theorem dX11_nextToken_30 : decode cX11_nextToken 30 = .ok (.iconst 1, 1) := by decide +kernel
theorem dX11_nextToken_31 : decode cX11_nextToken 31 = .ok (.iadd, 1) := by decide +kernel
theorem dX11_nextToken_32 : decode cX11_nextToken 32 = .ok (.putfield 119, 3) := by decide +kernel
theorem dX11_nextToken_35 : decode cX11_nextToken 35 = .ok (.goto (-35), 3) := by decide +kernel
theorem dX11_nextToken_38 : decode cX11_nextToken 38 = .ok (.aload_n 0, 1) := by decide +kernel
theorem dX11_nextToken_39 : decode cX11_nextToken 39 = .ok (.aload_n 0, 1) := by decide +kernel
theorem dX11_nextToken_40 : decode cX11_nextToken 40 = .ok (.getfield 119, 3) := by decide +kernel
theorem dX11_nextToken_43 : decode cX11_nextToken 43 = .ok (.putfield 122, 3) := by decide +kernel
theorem dX11_nextToken_46 : decode cX11_nextToken 46 = .ok (.aload_n 0, 1) := by decide +kernel
theorem dX11_nextToken_47 : decode cX11_nextToken 47 = .ok (.aload_n 0, 1) := by decide +kernel
theorem dX11_nextToken_48 : decode cX11_nextToken 48 = .ok (.getfield 119, 3) := by decide +kernel
theorem dX11_nextToken_51 : decode cX11_nextToken 51 = .ok (.aload_n 0, 1) := by decide +kernel
theorem dX11_nextToken_52 : decode cX11_nextToken 52 = .ok (.getfield 115, 3) := by decide +kernel
theorem dX11_nextToken_55 : decode cX11_nextToken 55 = .ok (.if_icmp .ne 7, 3) := by decide +kernel
theorem dX11_nextToken_58 : decode cX11_nextToken 58 = .ok (.iconst 3, 1) := by decide +kernel
theorem dX11_nextToken_59 : decode cX11_nextToken 59 = .ok (.goto 4, 3) := by decide +kernel
theorem dX11_nextToken_62 : decode cX11_nextToken 62 = .ok (.iconst 0, 1) := by decide +kernel
theorem dX11_nextToken_63 : decode cX11_nextToken 63 = .ok (.putfield 125, 3) := by decide +kernel
theorem dX11_nextToken_66 : decode cX11_nextToken 66 = .ok (.aload_n 0, 1) := by decide +kernel
theorem dX11_nextToken_67 : decode cX11_nextToken 67 = .ok (.iconst 0, 1) := by decide +kernel
theorem dX11_nextToken_68 : decode cX11_nextToken 68 = .ok (.putfield 128, 3) := by decide +kernel
theorem dX11_nextToken_71 : decode cX11_nextToken 71 = .ok (.aload_n 0, 1) := by decide +kernel
theorem dX11_nextToken_72 : decode cX11_nextToken 72 = .ok (.getfield 119, 3) := by decide +kernel
theorem dX11_nextToken_75 : decode cX11_nextToken 75 = .ok (.aload_n 0, 1) := by decide +kernel
theorem dX11_nextToken_76 : decode cX11_nextToken 76 = .ok (.getfield 115, 3) := by decide +kernel
theorem dX11_nextToken_79 : decode cX11_nextToken 79 = .ok (.if_icmp .ge 84, 3) := by decide +kernel
theorem dX11_nextToken_82 : decode cX11_nextToken 82 = .ok (.aload_n 0, 1) := by decide +kernel
theorem dX11_nextToken_83 : decode cX11_nextToken 83 = .ok (.getfield 7, 3) := by decide +kernel
theorem dX11_nextToken_86 : decode cX11_nextToken 86 = .ok (.aload_n 0, 1) := by decide +kernel
theorem dX11_nextToken_87 : decode cX11_nextToken 87 = .ok (.getfield 119, 3) := by decide +kernel
theorem dX11_nextToken_90 : decode cX11_nextToken 90 = .ok (.iaload, 1) := by decide +kernel
theorem dX11_nextToken_91 : decode cX11_nextToken 91 = .ok (.i2l, 1) := by decide +kernel
theorem dX11_nextToken_92 : decode cX11_nextToken 92 = .ok (.ldc2_w 131, 3) := by decide +kernel
theorem dX11_nextToken_95 : decode cX11_nextToken 95 = .ok (.ldc2_w 133, 3) := by decide +kernel
theorem dX11_nextToken_98 : decode cX11_nextToken 98 = .ok (.invokestatic 102, 3) := by decide +kernel
theorem dX11_nextToken_101 : decode cX11_nextToken 101 = .ok (.ifCond .eq 62, 3) := by decide +kernel
theorem dX11_nextToken_104 : decode cX11_nextToken 104 = .ok (.aload_n 0, 1) := by decide +kernel
theorem dX11_nextToken_105 : decode cX11_nextToken 105 = .ok (.aload_n 0, 1) := by decide +kernel
theorem dX11_nextToken_106 : decode cX11_nextToken 106 = .ok (.getfield 128, 3) := by decide +kernel
theorem dX11_nextToken_109 : decode cX11_nextToken 109 = .ok (.sipush 9999, 3) := by decide +kernel
theorem dX11_nextToken_112 : decode cX11_nextToken 112 = .ok (.if_icmp .le 10, 3) := by decide +kernel
theorem dX11_nextToken_115 : decode cX11_nextToken 115 = .ok (.aload_n 0, 1) := by decide +kernel
theorem dX11_nextToken_116 : decode cX11_nextToken 116 = .ok (.getfield 128, 3) := by decide +kernel
theorem dX11_nextToken_119 : decode cX11_nextToken 119 = .ok (.goto 23, 3) := by decide +kernel
theorem dX11_nextToken_122 : decode cX11_nextToken 122 = .ok (.bipush 10, 2) := by decide +kernel
theorem dX11_nextToken_124 : decode cX11_nextToken 124 = .ok (.aload_n 0, 1) := by decide +kernel
theorem dX11_nextToken_125 : decode cX11_nextToken 125 = .ok (.getfield 128, 3) := by decide +kernel
theorem dX11_nextToken_128 : decode cX11_nextToken 128 = .ok (.imul, 1) := by decide +kernel
theorem dX11_nextToken_129 : decode cX11_nextToken 129 = .ok (.aload_n 0, 1) := by decide +kernel
theorem dX11_nextToken_130 : decode cX11_nextToken 130 = .ok (.getfield 7, 3) := by decide +kernel
theorem dX11_nextToken_133 : decode cX11_nextToken 133 = .ok (.aload_n 0, 1) := by decide +kernel
theorem dX11_nextToken_134 : decode cX11_nextToken 134 = .ok (.getfield 119, 3) := by decide +kernel
theorem dX11_nextToken_137 : decode cX11_nextToken 137 = .ok (.iaload, 1) := by decide +kernel
theorem dX11_nextToken_138 : decode cX11_nextToken 138 = .ok (.iadd, 1) := by decide +kernel
theorem dX11_nextToken_139 : decode cX11_nextToken 139 = .ok (.bipush 48, 2) := by decide +kernel
theorem dX11_nextToken_141 : decode cX11_nextToken 141 = .ok (.isub, 1) := by decide +kernel
theorem dX11_nextToken_142 : decode cX11_nextToken 142 = .ok (.putfield 128, 3) := by decide +kernel
theorem dX11_nextToken_145 : decode cX11_nextToken 145 = .ok (.aload_n 0, 1) := by decide +kernel
theorem dX11_nextToken_146 : decode cX11_nextToken 146 = .ok (.iconst 2, 1) := by decide +kernel
theorem dX11_nextToken_147 : decode cX11_nextToken 147 = .ok (.putfield 125, 3) := by decide +kernel
theorem dX11_nextToken_150 : decode cX11_nextToken 150 = .ok (.aload_n 0, 1) := by decide +kernel
theorem dX11_nextToken_151 : decode cX11_nextToken 151 = .ok (.dup, 1) := by decide +kernel
theorem dX11_nextToken_152 : decode cX11_nextToken 152 = .ok (.getfield 119, 3) := by decide +kernel
theorem dX11_nextToken_155 : decode cX11_nextToken 155 = .ok (.iconst 1, 1) := by decide +kernel
theorem dX11_nextToken_156 : decode cX11_nextToken 156 = .ok (.iadd, 1) := by decide +kernel
theorem dX11_nextToken_157 : decode cX11_nextToken 157 = .ok (.putfield 119, 3) := by decide +kernel
theorem dX11_nextToken_160 : decode cX11_nextToken 160 = .ok (.goto (-89), 3) := by decide +kernel
theorem dX11_nextToken_163 : decode cX11_nextToken 163 = .ok (.aload_n 0, 1) := by decide +kernel
theorem dX11_nextToken_164 : decode cX11_nextToken 164 = .ok (.getfield 125, 3) := by decide +kernel
theorem dX11_nextToken_167 : decode cX11_nextToken 167 = .ok (.iconst 2, 1) := by decide +kernel
theorem dX11_nextToken_168 : decode cX11_nextToken 168 = .ok (.if_icmp .ne 22, 3) := by decide +kernel
theorem dX11_nextToken_171 : decode cX11_nextToken 171 = .ok (.aload_n 0, 1) := by decide +kernel
theorem dX11_nextToken_172 : decode cX11_nextToken 172 = .ok (.getfield 119, 3) := by decide +kernel
theorem dX11_nextToken_175 : decode cX11_nextToken 175 = .ok (.aload_n 0, 1) := by decide +kernel
theorem dX11_nextToken_176 : decode cX11_nextToken 176 = .ok (.getfield 122, 3) := by decide +kernel
theorem dX11_nextToken_179 : decode cX11_nextToken 179 = .ok (.isub, 1) := by decide +kernel
theorem dX11_nextToken_180 : decode cX11_nextToken 180 = .ok (.iconst 3, 1) := by decide +kernel
theorem dX11_nextToken_181 : decode cX11_nextToken 181 = .ok (.if_icmp .le 9, 3) := by decide +kernel
theorem dX11_nextToken_184 : decode cX11_nextToken 184 = .ok (.aload_n 0, 1) := by decide +kernel
theorem dX11_nextToken_185 : decode cX11_nextToken 185 = .ok (.ldc 135, 2) := by decide +kernel
theorem dX11_nextToken_187 : decode cX11_nextToken 187 = .ok (.putfield 128, 3) := by decide +kernel
theorem dX11_nextToken_190 : decode cX11_nextToken 190 = .ok (.aload_n 0, 1) := by decide +kernel
theorem dX11_nextToken_191 : decode cX11_nextToken 191 = .ok (.getfield 125, 3) := by decide +kernel
theorem dX11_nextToken_194 : decode cX11_nextToken 194 = .ok (.ifCond .ne 31, 3) := by decide +kernel
theorem dX11_nextToken_197 : decode cX11_nextToken 197 = .ok (.aload_n 0, 1) := by decide +kernel
theorem dX11_nextToken_198 : decode cX11_nextToken 198 = .ok (.iconst 1, 1) := by decide +kernel
theorem dX11_nextToken_199 : decode cX11_nextToken 199 = .ok (.putfield 125, 3) := by decide +kernel
theorem dX11_nextToken_202 : decode cX11_nextToken 202 = .ok (.aload_n 0, 1) := by decide +kernel
theorem dX11_nextToken_203 : decode cX11_nextToken 203 = .ok (.aload_n 0, 1) := by decide +kernel
theorem dX11_nextToken_204 : decode cX11_nextToken 204 = .ok (.getfield 7, 3) := by decide +kernel
theorem dX11_nextToken_207 : decode cX11_nextToken 207 = .ok (.aload_n 0, 1) := by decide +kernel
theorem dX11_nextToken_208 : decode cX11_nextToken 208 = .ok (.getfield 119, 3) := by decide +kernel
theorem dX11_nextToken_211 : decode cX11_nextToken 211 = .ok (.iaload, 1) := by decide +kernel
theorem dX11_nextToken_212 : decode cX11_nextToken 212 = .ok (.putfield 128, 3) := by decide +kernel
theorem dX11_nextToken_215 : decode cX11_nextToken 215 = .ok (.aload_n 0, 1) := by decide +kernel
theorem dX11_nextToken_216 : decode cX11_nextToken 216 = .ok (.dup, 1) := by decide +kernel
theorem dX11_nextToken_217 : decode cX11_nextToken 217 = .ok (.getfield 119, 3) := by decide +kernel
theorem dX11_nextToken_220 : decode cX11_nextToken 220 = .ok (.iconst 1, 1) := by decide +kernel
theorem dX11_nextToken_221 : decode cX11_nextToken 221 = .ok (.iadd, 1) := by decide +kernel
theorem dX11_nextToken_222 : decode cX11_nextToken 222 = .ok (.putfield 119, 3) := by decide +kernel
theorem dX11_nextToken_225 : decode cX11_nextToken 225 = .ok (.return_, 1) := by decide +kernel
theorem dX11_faults_0 : decode cX11_faults 0 = .ok (.aload_n 0, 1) := by decide +kernel
theorem dX11_faults_1 : decode cX11_faults 1 = .ok (.iload_n 1, 1) := by decide +kernel
theorem dX11_faults_2 : decode cX11_faults 2 = .ok (.putfield 136, 3) := by decide +kernel
theorem dX11_faults_5 : decode cX11_faults 5 = .ok (.iconst 0, 1) := by decide +kernel
theorem dX11_faults_6 : decode cX11_faults 6 = .ok (.ireturn, 1) := by decide +kernel
theorem dX11_takes_0 : decode cX11_takes 0 = .ok (.aload_n 0, 1) := by decide +kernel
theorem dX11_takes_1 : decode cX11_takes 1 = .ok (.getfield 125, 3) := by decide +kernel
theorem dX11_takes_4 : decode cX11_takes 4 = .ok (.iconst 1, 1) := by decide +kernel
theorem dX11_takes_5 : decode cX11_takes 5 = .ok (.if_icmp .ne 11, 3) := by decide +kernel
theorem dX11_takes_8 : decode cX11_takes 8 = .ok (.aload_n 0, 1) := by decide +kernel
theorem dX11_takes_9 : decode cX11_takes 9 = .ok (.getfield 128, 3) := by decide +kernel
theorem dX11_takes_12 : decode cX11_takes 12 = .ok (.iload_n 1, 1) := by decide +kernel
theorem dX11_takes_13 : decode cX11_takes 13 = .ok (.if_icmp .eq 9, 3) := by decide +kernel
theorem dX11_takes_16 : decode cX11_takes 16 = .ok (.aload_n 0, 1) := by decide +kernel
theorem dX11_takes_17 : decode cX11_takes 17 = .ok (.iconst 1, 1) := by decide +kernel
theorem dX11_takes_18 : decode cX11_takes 18 = .ok (.invokevirtual 139, 3) := by decide +kernel
theorem dX11_takes_21 : decode cX11_takes 21 = .ok (.ireturn, 1) := by decide +kernel
theorem dX11_takes_22 : decode cX11_takes 22 = .ok (.aload_n 0, 1) := by decide +kernel
theorem dX11_takes_23 : decode cX11_takes 23 = .ok (.invokevirtual 143, 3) := by decide +kernel
theorem dX11_takes_26 : decode cX11_takes 26 = .ok (.iconst 1, 1) := by decide +kernel
theorem dX11_takes_27 : decode cX11_takes 27 = .ok (.ireturn, 1) := by decide +kernel
theorem dX11_isNumber_0 : decode cX11_isNumber 0 = .ok (.aload_n 0, 1) := by decide +kernel
theorem dX11_isNumber_1 : decode cX11_isNumber 1 = .ok (.getfield 125, 3) := by decide +kernel
theorem dX11_isNumber_4 : decode cX11_isNumber 4 = .ok (.iconst 2, 1) := by decide +kernel
theorem dX11_isNumber_5 : decode cX11_isNumber 5 = .ok (.if_icmp .ne 34, 3) := by decide +kernel
theorem dX11_isNumber_8 : decode cX11_isNumber 8 = .ok (.aload_n 0, 1) := by decide +kernel
theorem dX11_isNumber_9 : decode cX11_isNumber 9 = .ok (.getfield 128, 3) := by decide +kernel
theorem dX11_isNumber_12 : decode cX11_isNumber 12 = .ok (.i2l, 1) := by decide +kernel
theorem dX11_isNumber_13 : decode cX11_isNumber 13 = .ok (.iload_n 1, 1) := by decide +kernel
theorem dX11_isNumber_14 : decode cX11_isNumber 14 = .ok (.i2l, 1) := by decide +kernel
theorem dX11_isNumber_15 : decode cX11_isNumber 15 = .ok (.iload_n 2, 1) := by decide +kernel
theorem dX11_isNumber_16 : decode cX11_isNumber 16 = .ok (.i2l, 1) := by decide +kernel
theorem dX11_isNumber_17 : decode cX11_isNumber 17 = .ok (.invokestatic 102, 3) := by decide +kernel
theorem dX11_isNumber_20 : decode cX11_isNumber 20 = .ok (.ifCond .ne 11, 3) := by decide +kernel
theorem dX11_isNumber_23 : decode cX11_isNumber 23 = .ok (.aload_n 0, 1) := by decide +kernel
theorem dX11_isNumber_24 : decode cX11_isNumber 24 = .ok (.iconst 2, 1) := by decide +kernel
theorem dX11_isNumber_25 : decode cX11_isNumber 25 = .ok (.invokevirtual 139, 3) := by decide +kernel
theorem dX11_isNumber_28 : decode cX11_isNumber 28 = .ok (.ifCond .eq 7, 3) := by decide +kernel
theorem dX11_isNumber_31 : decode cX11_isNumber 31 = .ok (.iconst 1, 1) := by decide +kernel
theorem dX11_isNumber_32 : decode cX11_isNumber 32 = .ok (.goto 12, 3) := by decide +kernel
theorem dX11_isNumber_35 : decode cX11_isNumber 35 = .ok (.iconst 0, 1) := by decide +kernel
theorem dX11_isNumber_36 : decode cX11_isNumber 36 = .ok (.goto 8, 3) := by decide +kernel
theorem dX11_isNumber_39 : decode cX11_isNumber 39 = .ok (.aload_n 0, 1) := by decide +kernel
theorem dX11_isNumber_40 : decode cX11_isNumber 40 = .ok (.iconst 1, 1) := by decide +kernel
theorem dX11_isNumber_41 : decode cX11_isNumber 41 = .ok (.invokevirtual 139, 3) := by decide +kernel
theorem dX11_isNumber_44 : decode cX11_isNumber 44 = .ok (.ireturn, 1) := by decide +kernel
theorem dX11_taken_0 : decode cX11_taken 0 = .ok (.aload_n 0, 1) := by decide +kernel
theorem dX11_taken_1 : decode cX11_taken 1 = .ok (.getfield 128, 3) := by decide +kernel
theorem dX11_taken_4 : decode cX11_taken 4 = .ok (.istore_n 1, 1) := by decide +kernel
theorem dX11_taken_5 : decode cX11_taken 5 = .ok (.aload_n 0, 1) := by decide +kernel
theorem dX11_taken_6 : decode cX11_taken 6 = .ok (.invokevirtual 143, 3) := by decide +kernel
theorem dX11_taken_9 : decode cX11_taken 9 = .ok (.iload_n 1, 1) := by decide +kernel
theorem dX11_taken_10 : decode cX11_taken 10 = .ok (.ireturn, 1) := by decide +kernel
theorem dX11_readWay_0 : decode cX11_readWay 0 = .ok (.aload_n 0, 1) := by decide +kernel
theorem dX11_readWay_1 : decode cX11_readWay 1 = .ok (.getfield 146, 3) := by decide +kernel
theorem dX11_readWay_4 : decode cX11_readWay 4 = .ok (.bipush 10, 2) := by decide +kernel
theorem dX11_readWay_6 : decode cX11_readWay 6 = .ok (.if_icmp .ne 9, 3) := by decide +kernel
theorem dX11_readWay_9 : decode cX11_readWay 9 = .ok (.aload_n 0, 1) := by decide +kernel
theorem dX11_readWay_10 : decode cX11_readWay 10 = .ok (.iconst 3, 1) := by decide +kernel
theorem dX11_readWay_11 : decode cX11_readWay 11 = .ok (.invokevirtual 139, 3) := by decide +kernel
theorem dX11_readWay_14 : decode cX11_readWay 14 = .ok (.ireturn, 1) := by decide +kernel
theorem dX11_readWay_15 : decode cX11_readWay 15 = .ok (.aload_n 0, 1) := by decide +kernel
theorem dX11_readWay_16 : decode cX11_readWay 16 = .ok (.invokevirtual 143, 3) := by decide +kernel
theorem dX11_readWay_19 : decode cX11_readWay 19 = .ok (.aload_n 0, 1) := by decide +kernel
theorem dX11_readWay_20 : decode cX11_readWay 20 = .ok (.iconst 0, 1) := by decide +kernel
theorem dX11_readWay_21 : decode cX11_readWay 21 = .ok (.aload_n 0, 1) := by decide +kernel
theorem dX11_readWay_22 : decode cX11_readWay 22 = .ok (.getfield 149, 3) := by decide +kernel
theorem dX11_readWay_25 : decode cX11_readWay 25 = .ok (.iconst 1, 1) := by decide +kernel
theorem dX11_readWay_26 : decode cX11_readWay 26 = .ok (.isub, 1) := by decide +kernel
theorem dX11_readWay_27 : decode cX11_readWay 27 = .ok (.invokevirtual 152, 3) := by decide +kernel
theorem dX11_readWay_30 : decode cX11_readWay 30 = .ok (.ifCond .ne 5, 3) := by decide +kernel
theorem dX11_readWay_33 : decode cX11_readWay 33 = .ok (.iconst 0, 1) := by decide +kernel
theorem dX11_readWay_34 : decode cX11_readWay 34 = .ok (.ireturn, 1) := by decide +kernel
theorem dX11_readWay_35 : decode cX11_readWay 35 = .ok (.aload_n 0, 1) := by decide +kernel
theorem dX11_readWay_36 : decode cX11_readWay 36 = .ok (.invokevirtual 156, 3) := by decide +kernel
theorem dX11_readWay_39 : decode cX11_readWay 39 = .ok (.istore_n 1, 1) := by decide +kernel
theorem dX11_readWay_40 : decode cX11_readWay 40 = .ok (.aload_n 0, 1) := by decide +kernel
theorem dX11_readWay_41 : decode cX11_readWay 41 = .ok (.iconst 0, 1) := by decide +kernel
theorem dX11_readWay_42 : decode cX11_readWay 42 = .ok (.aload_n 0, 1) := by decide +kernel
theorem dX11_readWay_43 : decode cX11_readWay 43 = .ok (.getfield 149, 3) := by decide +kernel
theorem dX11_readWay_46 : decode cX11_readWay 46 = .ok (.iconst 1, 1) := by decide +kernel
theorem dX11_readWay_47 : decode cX11_readWay 47 = .ok (.isub, 1) := by decide +kernel
theorem dX11_readWay_48 : decode cX11_readWay 48 = .ok (.invokevirtual 152, 3) := by decide +kernel
theorem dX11_readWay_51 : decode cX11_readWay 51 = .ok (.ifCond .eq 36, 3) := by decide +kernel
theorem dX11_readWay_54 : decode cX11_readWay 54 = .ok (.iload_n 1, 1) := by decide +kernel
theorem dX11_readWay_55 : decode cX11_readWay 55 = .ok (.aload_n 0, 1) := by decide +kernel
theorem dX11_readWay_56 : decode cX11_readWay 56 = .ok (.getfield 128, 3) := by decide +kernel
theorem dX11_readWay_59 : decode cX11_readWay 59 = .ok (.if_icmp .eq 20, 3) := by decide +kernel
theorem dX11_readWay_62 : decode cX11_readWay 62 = .ok (.aload_n 0, 1) := by decide +kernel
theorem dX11_readWay_63 : decode cX11_readWay 63 = .ok (.getfield 48, 3) := by decide +kernel
theorem dX11_readWay_66 : decode cX11_readWay 66 = .ok (.bipush 7, 2) := by decide +kernel
theorem dX11_readWay_68 : decode cX11_readWay 68 = .ok (.iload_n 1, 1) := by decide +kernel
theorem dX11_readWay_69 : decode cX11_readWay 69 = .ok (.imul, 1) := by decide +kernel
theorem dX11_readWay_70 : decode cX11_readWay 70 = .ok (.aload_n 0, 1) := by decide +kernel
theorem dX11_readWay_71 : decode cX11_readWay 71 = .ok (.getfield 128, 3) := by decide +kernel
theorem dX11_readWay_74 : decode cX11_readWay 74 = .ok (.iadd, 1) := by decide +kernel
theorem dX11_readWay_75 : decode cX11_readWay 75 = .ok (.iaload, 1) := by decide +kernel
theorem dX11_readWay_76 : decode cX11_readWay 76 = .ok (.ifCond .le 13, 3) := by decide +kernel
theorem dX11_readWay_79 : decode cX11_readWay 79 = .ok (.aload_n 0, 1) := by decide +kernel
theorem dX11_readWay_80 : decode cX11_readWay 80 = .ok (.iconst 4, 1) := by decide +kernel
theorem dX11_readWay_81 : decode cX11_readWay 81 = .ok (.invokevirtual 139, 3) := by decide +kernel
theorem dX11_readWay_84 : decode cX11_readWay 84 = .ok (.ifCond .ne 5, 3) := by decide +kernel
theorem dX11_readWay_87 : decode cX11_readWay 87 = .ok (.iconst 0, 1) := by decide +kernel
theorem dX11_readWay_88 : decode cX11_readWay 88 = .ok (.ireturn, 1) := by decide +kernel
theorem dX11_readWay_89 : decode cX11_readWay 89 = .ok (.aload_n 0, 1) := by decide +kernel
theorem dX11_readWay_90 : decode cX11_readWay 90 = .ok (.invokevirtual 156, 3) := by decide +kernel
theorem dX11_readWay_93 : decode cX11_readWay 93 = .ok (.istore_n 2, 1) := by decide +kernel
theorem dX11_readWay_94 : decode cX11_readWay 94 = .ok (.aload_n 0, 1) := by decide +kernel
theorem dX11_readWay_95 : decode cX11_readWay 95 = .ok (.iconst 1, 1) := by decide +kernel
theorem dX11_readWay_96 : decode cX11_readWay 96 = .ok (.bipush 30, 2) := by decide +kernel
theorem dX11_readWay_98 : decode cX11_readWay 98 = .ok (.invokevirtual 152, 3) := by decide +kernel
theorem dX11_readWay_101 : decode cX11_readWay 101 = .ok (.ifCond .ne 5, 3) := by decide +kernel
theorem dX11_readWay_104 : decode cX11_readWay 104 = .ok (.iconst 0, 1) := by decide +kernel
theorem dX11_readWay_105 : decode cX11_readWay 105 = .ok (.ireturn, 1) := by decide +kernel
theorem dX11_readWay_106 : decode cX11_readWay 106 = .ok (.aload_n 0, 1) := by decide +kernel
theorem dX11_readWay_107 : decode cX11_readWay 107 = .ok (.getfield 48, 3) := by decide +kernel
theorem dX11_readWay_110 : decode cX11_readWay 110 = .ok (.bipush 7, 2) := by decide +kernel
theorem dX11_readWay_112 : decode cX11_readWay 112 = .ok (.iload_n 1, 1) := by decide +kernel
theorem dX11_readWay_113 : decode cX11_readWay 113 = .ok (.imul, 1) := by decide +kernel
theorem dX11_readWay_114 : decode cX11_readWay 114 = .ok (.iload_n 2, 1) := by decide +kernel
theorem dX11_readWay_115 : decode cX11_readWay 115 = .ok (.iadd, 1) := by decide +kernel
theorem dX11_readWay_116 : decode cX11_readWay 116 = .ok (.aload_n 0, 1) := by decide +kernel
theorem dX11_readWay_117 : decode cX11_readWay 117 = .ok (.getfield 128, 3) := by decide +kernel
theorem dX11_readWay_120 : decode cX11_readWay 120 = .ok (.iastore, 1) := by decide +kernel
theorem dX11_readWay_121 : decode cX11_readWay 121 = .ok (.aload_n 0, 1) := by decide +kernel
theorem dX11_readWay_122 : decode cX11_readWay 122 = .ok (.getfield 48, 3) := by decide +kernel
theorem dX11_readWay_125 : decode cX11_readWay 125 = .ok (.bipush 7, 2) := by decide +kernel
theorem dX11_readWay_127 : decode cX11_readWay 127 = .ok (.iload_n 2, 1) := by decide +kernel
theorem dX11_readWay_128 : decode cX11_readWay 128 = .ok (.imul, 1) := by decide +kernel
theorem dX11_readWay_129 : decode cX11_readWay 129 = .ok (.iload_n 1, 1) := by decide +kernel
theorem dX11_readWay_130 : decode cX11_readWay 130 = .ok (.iadd, 1) := by decide +kernel
theorem dX11_readWay_131 : decode cX11_readWay 131 = .ok (.aload_n 0, 1) := by decide +kernel
theorem dX11_readWay_132 : decode cX11_readWay 132 = .ok (.invokevirtual 156, 3) := by decide +kernel
theorem dX11_readWay_135 : decode cX11_readWay 135 = .ok (.iastore, 1) := by decide +kernel
theorem dX11_readWay_136 : decode cX11_readWay 136 = .ok (.aload_n 0, 1) := by decide +kernel
theorem dX11_readWay_137 : decode cX11_readWay 137 = .ok (.dup, 1) := by decide +kernel
theorem dX11_readWay_138 : decode cX11_readWay 138 = .ok (.getfield 146, 3) := by decide +kernel
theorem dX11_readWay_141 : decode cX11_readWay 141 = .ok (.iconst 1, 1) := by decide +kernel
theorem dX11_readWay_142 : decode cX11_readWay 142 = .ok (.iadd, 1) := by decide +kernel
theorem dX11_readWay_143 : decode cX11_readWay 143 = .ok (.putfield 146, 3) := by decide +kernel
theorem dX11_readWay_146 : decode cX11_readWay 146 = .ok (.aload_n 0, 1) := by decide +kernel
theorem dX11_readWay_147 : decode cX11_readWay 147 = .ok (.bipush 59, 2) := by decide +kernel
theorem dX11_readWay_149 : decode cX11_readWay 149 = .ok (.invokevirtual 160, 3) := by decide +kernel
theorem dX11_readWay_152 : decode cX11_readWay 152 = .ok (.ireturn, 1) := by decide +kernel
theorem dX11_readPerson_0 : decode cX11_readPerson 0 = .ok (.aload_n 0, 1) := by decide +kernel
theorem dX11_readPerson_1 : decode cX11_readPerson 1 = .ok (.getfield 163, 3) := by decide +kernel
theorem dX11_readPerson_4 : decode cX11_readPerson 4 = .ok (.bipush 6, 2) := by decide +kernel
theorem dX11_readPerson_6 : decode cX11_readPerson 6 = .ok (.if_icmp .ne 9, 3) := by decide +kernel
theorem dX11_readPerson_9 : decode cX11_readPerson 9 = .ok (.aload_n 0, 1) := by decide +kernel
theorem dX11_readPerson_10 : decode cX11_readPerson 10 = .ok (.iconst 3, 1) := by decide +kernel
theorem dX11_readPerson_11 : decode cX11_readPerson 11 = .ok (.invokevirtual 139, 3) := by decide +kernel
theorem dX11_readPerson_14 : decode cX11_readPerson 14 = .ok (.ireturn, 1) := by decide +kernel
theorem dX11_readPerson_15 : decode cX11_readPerson 15 = .ok (.aload_n 0, 1) := by decide +kernel
theorem dX11_readPerson_16 : decode cX11_readPerson 16 = .ok (.invokevirtual 143, 3) := by decide +kernel
theorem dX11_readPerson_19 : decode cX11_readPerson 19 = .ok (.aload_n 0, 1) := by decide +kernel
theorem dX11_readPerson_20 : decode cX11_readPerson 20 = .ok (.iconst 0, 1) := by decide +kernel
theorem dX11_readPerson_21 : decode cX11_readPerson 21 = .ok (.aload_n 0, 1) := by decide +kernel
theorem dX11_readPerson_22 : decode cX11_readPerson 22 = .ok (.getfield 149, 3) := by decide +kernel
theorem dX11_readPerson_25 : decode cX11_readPerson 25 = .ok (.iconst 1, 1) := by decide +kernel
theorem dX11_readPerson_26 : decode cX11_readPerson 26 = .ok (.isub, 1) := by decide +kernel
theorem dX11_readPerson_27 : decode cX11_readPerson 27 = .ok (.invokevirtual 152, 3) := by decide +kernel
theorem dX11_readPerson_30 : decode cX11_readPerson 30 = .ok (.ifCond .ne 5, 3) := by decide +kernel
theorem dX11_readPerson_33 : decode cX11_readPerson 33 = .ok (.iconst 0, 1) := by decide +kernel
theorem dX11_readPerson_34 : decode cX11_readPerson 34 = .ok (.ireturn, 1) := by decide +kernel
theorem dX11_readPerson_35 : decode cX11_readPerson 35 = .ok (.aload_n 0, 1) := by decide +kernel
theorem dX11_readPerson_36 : decode cX11_readPerson 36 = .ok (.getfield 51, 3) := by decide +kernel
theorem dX11_readPerson_39 : decode cX11_readPerson 39 = .ok (.iconst 2, 1) := by decide +kernel
theorem dX11_readPerson_40 : decode cX11_readPerson 40 = .ok (.aload_n 0, 1) := by decide +kernel
theorem dX11_readPerson_41 : decode cX11_readPerson 41 = .ok (.getfield 163, 3) := by decide +kernel
theorem dX11_readPerson_44 : decode cX11_readPerson 44 = .ok (.imul, 1) := by decide +kernel
theorem dX11_readPerson_45 : decode cX11_readPerson 45 = .ok (.aload_n 0, 1) := by decide +kernel
theorem dX11_readPerson_46 : decode cX11_readPerson 46 = .ok (.invokevirtual 156, 3) := by decide +kernel
theorem dX11_readPerson_49 : decode cX11_readPerson 49 = .ok (.iastore, 1) := by decide +kernel
theorem dX11_readPerson_50 : decode cX11_readPerson 50 = .ok (.aload_n 0, 1) := by decide +kernel
theorem dX11_readPerson_51 : decode cX11_readPerson 51 = .ok (.iconst 0, 1) := by decide +kernel
theorem dX11_readPerson_52 : decode cX11_readPerson 52 = .ok (.bipush 99, 2) := by decide +kernel
theorem dX11_readPerson_54 : decode cX11_readPerson 54 = .ok (.invokevirtual 152, 3) := by decide +kernel
theorem dX11_readPerson_57 : decode cX11_readPerson 57 = .ok (.ifCond .ne 5, 3) := by decide +kernel
theorem dX11_readPerson_60 : decode cX11_readPerson 60 = .ok (.iconst 0, 1) := by decide +kernel
theorem dX11_readPerson_61 : decode cX11_readPerson 61 = .ok (.ireturn, 1) := by decide +kernel
theorem dX11_readPerson_62 : decode cX11_readPerson 62 = .ok (.aload_n 0, 1) := by decide +kernel
theorem dX11_readPerson_63 : decode cX11_readPerson 63 = .ok (.getfield 51, 3) := by decide +kernel
theorem dX11_readPerson_66 : decode cX11_readPerson 66 = .ok (.iconst 2, 1) := by decide +kernel
theorem dX11_readPerson_67 : decode cX11_readPerson 67 = .ok (.aload_n 0, 1) := by decide +kernel
theorem dX11_readPerson_68 : decode cX11_readPerson 68 = .ok (.getfield 163, 3) := by decide +kernel
theorem dX11_readPerson_71 : decode cX11_readPerson 71 = .ok (.imul, 1) := by decide +kernel
theorem dX11_readPerson_72 : decode cX11_readPerson 72 = .ok (.iconst 1, 1) := by decide +kernel
theorem dX11_readPerson_73 : decode cX11_readPerson 73 = .ok (.iadd, 1) := by decide +kernel
theorem dX11_readPerson_74 : decode cX11_readPerson 74 = .ok (.aload_n 0, 1) := by decide +kernel
theorem dX11_readPerson_75 : decode cX11_readPerson 75 = .ok (.invokevirtual 156, 3) := by decide +kernel
theorem dX11_readPerson_78 : decode cX11_readPerson 78 = .ok (.iastore, 1) := by decide +kernel
theorem dX11_readPerson_79 : decode cX11_readPerson 79 = .ok (.aload_n 0, 1) := by decide +kernel
theorem dX11_readPerson_80 : decode cX11_readPerson 80 = .ok (.dup, 1) := by decide +kernel
theorem dX11_readPerson_81 : decode cX11_readPerson 81 = .ok (.getfield 163, 3) := by decide +kernel
theorem dX11_readPerson_84 : decode cX11_readPerson 84 = .ok (.iconst 1, 1) := by decide +kernel
theorem dX11_readPerson_85 : decode cX11_readPerson 85 = .ok (.iadd, 1) := by decide +kernel
theorem dX11_readPerson_86 : decode cX11_readPerson 86 = .ok (.putfield 163, 3) := by decide +kernel
theorem dX11_readPerson_89 : decode cX11_readPerson 89 = .ok (.aload_n 0, 1) := by decide +kernel
theorem dX11_readPerson_90 : decode cX11_readPerson 90 = .ok (.bipush 59, 2) := by decide +kernel
theorem dX11_readPerson_92 : decode cX11_readPerson 92 = .ok (.invokevirtual 160, 3) := by decide +kernel
theorem dX11_readPerson_95 : decode cX11_readPerson 95 = .ok (.ireturn, 1) := by decide +kernel
theorem dX11_readDeed_0 : decode cX11_readDeed 0 = .ok (.aload_n 0, 1) := by decide +kernel
theorem dX11_readDeed_1 : decode cX11_readDeed 1 = .ok (.getfield 166, 3) := by decide +kernel
theorem dX11_readDeed_4 : decode cX11_readDeed 4 = .ok (.bipush 6, 2) := by decide +kernel
theorem dX11_readDeed_6 : decode cX11_readDeed 6 = .ok (.if_icmp .ne 9, 3) := by decide +kernel
theorem dX11_readDeed_9 : decode cX11_readDeed 9 = .ok (.aload_n 0, 1) := by decide +kernel
theorem dX11_readDeed_10 : decode cX11_readDeed 10 = .ok (.iconst 3, 1) := by decide +kernel
theorem dX11_readDeed_11 : decode cX11_readDeed 11 = .ok (.invokevirtual 139, 3) := by decide +kernel
theorem dX11_readDeed_14 : decode cX11_readDeed 14 = .ok (.ireturn, 1) := by decide +kernel
theorem dX11_readDeed_15 : decode cX11_readDeed 15 = .ok (.aload_n 0, 1) := by decide +kernel
theorem dX11_readDeed_16 : decode cX11_readDeed 16 = .ok (.invokevirtual 143, 3) := by decide +kernel
theorem dX11_readDeed_19 : decode cX11_readDeed 19 = .ok (.iconst 0, 1) := by decide +kernel
theorem dX11_readDeed_20 : decode cX11_readDeed 20 = .ok (.istore_n 1, 1) := by decide +kernel
theorem dX11_readDeed_21 : decode cX11_readDeed 21 = .ok (.iload_n 1, 1) := by decide +kernel
theorem dX11_readDeed_22 : decode cX11_readDeed 22 = .ok (.iconst 4, 1) := by decide +kernel
theorem dX11_readDeed_23 : decode cX11_readDeed 23 = .ok (.if_icmp .ge 90, 3) := by decide +kernel
theorem dX11_readDeed_26 : decode cX11_readDeed 26 = .ok (.iload_n 1, 1) := by decide +kernel
theorem dX11_readDeed_27 : decode cX11_readDeed 27 = .ok (.iconst 1, 1) := by decide +kernel
theorem dX11_readDeed_28 : decode cX11_readDeed 28 = .ok (.if_icmp .eq 8, 3) := by decide +kernel
theorem dX11_readDeed_31 : decode cX11_readDeed 31 = .ok (.iload_n 1, 1) := by decide +kernel
theorem dX11_readDeed_32 : decode cX11_readDeed 32 = .ok (.iconst 2, 1) := by decide +kernel
theorem dX11_readDeed_33 : decode cX11_readDeed 33 = .ok (.if_icmp .ne 7, 3) := by decide +kernel
theorem dX11_readDeed_36 : decode cX11_readDeed 36 = .ok (.iconst 1, 1) := by decide +kernel
theorem dX11_readDeed_37 : decode cX11_readDeed 37 = .ok (.goto 4, 3) := by decide +kernel
theorem dX11_readDeed_40 : decode cX11_readDeed 40 = .ok (.iconst 0, 1) := by decide +kernel
theorem dX11_readDeed_41 : decode cX11_readDeed 41 = .ok (.istore_n 2, 1) := by decide +kernel
theorem dX11_readDeed_42 : decode cX11_readDeed 42 = .ok (.iload_n 1, 1) := by decide +kernel
theorem dX11_readDeed_43 : decode cX11_readDeed 43 = .ok (.ifCond .ne 12, 3) := by decide +kernel
theorem dX11_readDeed_46 : decode cX11_readDeed 46 = .ok (.aload_n 0, 1) := by decide +kernel
theorem dX11_readDeed_47 : decode cX11_readDeed 47 = .ok (.getfield 163, 3) := by decide +kernel
theorem dX11_readDeed_50 : decode cX11_readDeed 50 = .ok (.iconst 1, 1) := by decide +kernel
theorem dX11_readDeed_51 : decode cX11_readDeed 51 = .ok (.isub, 1) := by decide +kernel
theorem dX11_readDeed_52 : decode cX11_readDeed 52 = .ok (.goto 26, 3) := by decide +kernel
theorem dX11_readDeed_55 : decode cX11_readDeed 55 = .ok (.iload_n 1, 1) := by decide +kernel
theorem dX11_readDeed_56 : decode cX11_readDeed 56 = .ok (.iconst 1, 1) := by decide +kernel
theorem dX11_readDeed_57 : decode cX11_readDeed 57 = .ok (.if_icmp .ne 8, 3) := by decide +kernel
theorem dX11_readDeed_60 : decode cX11_readDeed 60 = .ok (.bipush 30, 2) := by decide +kernel
theorem dX11_readDeed_62 : decode cX11_readDeed 62 = .ok (.goto 16, 3) := by decide +kernel
theorem dX11_readDeed_65 : decode cX11_readDeed 65 = .ok (.iload_n 1, 1) := by decide +kernel
theorem dX11_readDeed_66 : decode cX11_readDeed 66 = .ok (.iconst 2, 1) := by decide +kernel
theorem dX11_readDeed_67 : decode cX11_readDeed 67 = .ok (.if_icmp .ne 9, 3) := by decide +kernel
theorem dX11_readDeed_70 : decode cX11_readDeed 70 = .ok (.sipush 999, 3) := by decide +kernel
theorem dX11_readDeed_73 : decode cX11_readDeed 73 = .ok (.goto 5, 3) := by decide +kernel
theorem dX11_readDeed_76 : decode cX11_readDeed 76 = .ok (.bipush 99, 2) := by decide +kernel
theorem dX11_readDeed_78 : decode cX11_readDeed 78 = .ok (.istore_n 3, 1) := by decide +kernel
theorem dX11_readDeed_79 : decode cX11_readDeed 79 = .ok (.aload_n 0, 1) := by decide +kernel
theorem dX11_readDeed_80 : decode cX11_readDeed 80 = .ok (.iload_n 2, 1) := by decide +kernel
theorem dX11_readDeed_81 : decode cX11_readDeed 81 = .ok (.iload_n 3, 1) := by decide +kernel
theorem dX11_readDeed_82 : decode cX11_readDeed 82 = .ok (.invokevirtual 152, 3) := by decide +kernel
theorem dX11_readDeed_85 : decode cX11_readDeed 85 = .ok (.ifCond .ne 5, 3) := by decide +kernel
theorem dX11_readDeed_88 : decode cX11_readDeed 88 = .ok (.iconst 0, 1) := by decide +kernel
theorem dX11_readDeed_89 : decode cX11_readDeed 89 = .ok (.ireturn, 1) := by decide +kernel
theorem dX11_readDeed_90 : decode cX11_readDeed 90 = .ok (.aload_n 0, 1) := by decide +kernel
theorem dX11_readDeed_91 : decode cX11_readDeed 91 = .ok (.getfield 54, 3) := by decide +kernel
theorem dX11_readDeed_94 : decode cX11_readDeed 94 = .ok (.iconst 5, 1) := by decide +kernel
theorem dX11_readDeed_95 : decode cX11_readDeed 95 = .ok (.aload_n 0, 1) := by decide +kernel
theorem dX11_readDeed_96 : decode cX11_readDeed 96 = .ok (.getfield 166, 3) := by decide +kernel
theorem dX11_readDeed_99 : decode cX11_readDeed 99 = .ok (.imul, 1) := by decide +kernel
theorem dX11_readDeed_100 : decode cX11_readDeed 100 = .ok (.iload_n 1, 1) := by decide +kernel
theorem dX11_readDeed_101 : decode cX11_readDeed 101 = .ok (.iadd, 1) := by decide +kernel
theorem dX11_readDeed_102 : decode cX11_readDeed 102 = .ok (.aload_n 0, 1) := by decide +kernel
theorem dX11_readDeed_103 : decode cX11_readDeed 103 = .ok (.invokevirtual 156, 3) := by decide +kernel
theorem dX11_readDeed_106 : decode cX11_readDeed 106 = .ok (.iastore, 1) := by decide +kernel
theorem dX11_readDeed_107 : decode cX11_readDeed 107 = .ok (.iinc 1 1, 3) := by decide +kernel
theorem dX11_readDeed_110 : decode cX11_readDeed 110 = .ok (.goto (-89), 3) := by decide +kernel
theorem dX11_readDeed_113 : decode cX11_readDeed 113 = .ok (.aload_n 0, 1) := by decide +kernel
theorem dX11_readDeed_114 : decode cX11_readDeed 114 = .ok (.getfield 54, 3) := by decide +kernel
theorem dX11_readDeed_117 : decode cX11_readDeed 117 = .ok (.iconst 5, 1) := by decide +kernel
theorem dX11_readDeed_118 : decode cX11_readDeed 118 = .ok (.aload_n 0, 1) := by decide +kernel
theorem dX11_readDeed_119 : decode cX11_readDeed 119 = .ok (.getfield 166, 3) := by decide +kernel
theorem dX11_readDeed_122 : decode cX11_readDeed 122 = .ok (.imul, 1) := by decide +kernel
theorem dX11_readDeed_123 : decode cX11_readDeed 123 = .ok (.iconst 4, 1) := by decide +kernel
theorem dX11_readDeed_124 : decode cX11_readDeed 124 = .ok (.iadd, 1) := by decide +kernel
theorem dX11_readDeed_125 : decode cX11_readDeed 125 = .ok (.iconst (-1), 1) := by decide +kernel
theorem dX11_readDeed_126 : decode cX11_readDeed 126 = .ok (.iastore, 1) := by decide +kernel
theorem dX11_readDeed_127 : decode cX11_readDeed 127 = .ok (.aload_n 0, 1) := by decide +kernel
theorem dX11_readDeed_128 : decode cX11_readDeed 128 = .ok (.dup, 1) := by decide +kernel
theorem dX11_readDeed_129 : decode cX11_readDeed 129 = .ok (.getfield 166, 3) := by decide +kernel
theorem dX11_readDeed_132 : decode cX11_readDeed 132 = .ok (.iconst 1, 1) := by decide +kernel
theorem dX11_readDeed_133 : decode cX11_readDeed 133 = .ok (.iadd, 1) := by decide +kernel
theorem dX11_readDeed_134 : decode cX11_readDeed 134 = .ok (.putfield 166, 3) := by decide +kernel
theorem dX11_readDeed_137 : decode cX11_readDeed 137 = .ok (.aload_n 0, 1) := by decide +kernel
theorem dX11_readDeed_138 : decode cX11_readDeed 138 = .ok (.bipush 59, 2) := by decide +kernel
theorem dX11_readDeed_140 : decode cX11_readDeed 140 = .ok (.invokevirtual 160, 3) := by decide +kernel
theorem dX11_readDeed_143 : decode cX11_readDeed 143 = .ok (.ireturn, 1) := by decide +kernel
theorem dX11_readReword_0 : decode cX11_readReword 0 = .ok (.aload_n 0, 1) := by decide +kernel
theorem dX11_readReword_1 : decode cX11_readReword 1 = .ok (.invokevirtual 143, 3) := by decide +kernel
theorem dX11_readReword_4 : decode cX11_readReword 4 = .ok (.aload_n 0, 1) := by decide +kernel
theorem dX11_readReword_5 : decode cX11_readReword 5 = .ok (.iconst 0, 1) := by decide +kernel
theorem dX11_readReword_6 : decode cX11_readReword 6 = .ok (.aload_n 0, 1) := by decide +kernel
theorem dX11_readReword_7 : decode cX11_readReword 7 = .ok (.getfield 166, 3) := by decide +kernel
theorem dX11_readReword_10 : decode cX11_readReword 10 = .ok (.iconst 1, 1) := by decide +kernel
theorem dX11_readReword_11 : decode cX11_readReword 11 = .ok (.isub, 1) := by decide +kernel
theorem dX11_readReword_12 : decode cX11_readReword 12 = .ok (.invokevirtual 152, 3) := by decide +kernel
theorem dX11_readReword_15 : decode cX11_readReword 15 = .ok (.ifCond .eq 27, 3) := by decide +kernel
theorem dX11_readReword_18 : decode cX11_readReword 18 = .ok (.aload_n 0, 1) := by decide +kernel
theorem dX11_readReword_19 : decode cX11_readReword 19 = .ok (.getfield 54, 3) := by decide +kernel
theorem dX11_readReword_22 : decode cX11_readReword 22 = .ok (.iconst 5, 1) := by decide +kernel
theorem dX11_readReword_23 : decode cX11_readReword 23 = .ok (.aload_n 0, 1) := by decide +kernel
theorem dX11_readReword_24 : decode cX11_readReword 24 = .ok (.getfield 128, 3) := by decide +kernel
theorem dX11_readReword_27 : decode cX11_readReword 27 = .ok (.imul, 1) := by decide +kernel
theorem dX11_readReword_28 : decode cX11_readReword 28 = .ok (.iconst 4, 1) := by decide +kernel
theorem dX11_readReword_29 : decode cX11_readReword 29 = .ok (.iadd, 1) := by decide +kernel
theorem dX11_readReword_30 : decode cX11_readReword 30 = .ok (.iaload, 1) := by decide +kernel
theorem dX11_readReword_31 : decode cX11_readReword 31 = .ok (.ifCond .lt 13, 3) := by decide +kernel
theorem dX11_readReword_34 : decode cX11_readReword 34 = .ok (.aload_n 0, 1) := by decide +kernel
theorem dX11_readReword_35 : decode cX11_readReword 35 = .ok (.iconst 4, 1) := by decide +kernel
theorem dX11_readReword_36 : decode cX11_readReword 36 = .ok (.invokevirtual 139, 3) := by decide +kernel
theorem dX11_readReword_39 : decode cX11_readReword 39 = .ok (.ifCond .ne 5, 3) := by decide +kernel
theorem dX11_readReword_42 : decode cX11_readReword 42 = .ok (.iconst 0, 1) := by decide +kernel
theorem dX11_readReword_43 : decode cX11_readReword 43 = .ok (.ireturn, 1) := by decide +kernel
theorem dX11_readReword_44 : decode cX11_readReword 44 = .ok (.aload_n 0, 1) := by decide +kernel
theorem dX11_readReword_45 : decode cX11_readReword 45 = .ok (.invokevirtual 156, 3) := by decide +kernel
theorem dX11_readReword_48 : decode cX11_readReword 48 = .ok (.istore_n 1, 1) := by decide +kernel
theorem dX11_readReword_49 : decode cX11_readReword 49 = .ok (.aload_n 0, 1) := by decide +kernel
theorem dX11_readReword_50 : decode cX11_readReword 50 = .ok (.iconst 0, 1) := by decide +kernel
theorem dX11_readReword_51 : decode cX11_readReword 51 = .ok (.bipush 99, 2) := by decide +kernel
theorem dX11_readReword_53 : decode cX11_readReword 53 = .ok (.invokevirtual 152, 3) := by decide +kernel
theorem dX11_readReword_56 : decode cX11_readReword 56 = .ok (.ifCond .ne 5, 3) := by decide +kernel
theorem dX11_readReword_59 : decode cX11_readReword 59 = .ok (.iconst 0, 1) := by decide +kernel
theorem dX11_readReword_60 : decode cX11_readReword 60 = .ok (.ireturn, 1) := by decide +kernel
theorem dX11_readReword_61 : decode cX11_readReword 61 = .ok (.aload_n 0, 1) := by decide +kernel

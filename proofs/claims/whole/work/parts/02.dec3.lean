theorem dX11_oddsOf_73 : decode cX11_oddsOf 73 = .ok (.iload 11, 2) := by decide +kernel
theorem dX11_oddsOf_75 : decode cX11_oddsOf 75 = .ok (.invokestatic 219, 3) := by decide +kernel
theorem dX11_oddsOf_78 : decode cX11_oddsOf 78 = .ok (.ifCond .ne 19, 3) := by decide +kernel
theorem dX11_oddsOf_81 : decode cX11_oddsOf 81 = .ok (.aload_n 0, 1) := by decide +kernel
theorem dX11_oddsOf_82 : decode cX11_oddsOf 82 = .ok (.getfield 33, 3) := by decide +kernel
theorem dX11_oddsOf_85 : decode cX11_oddsOf 85 = .ok (.bipush 6, 2) := by decide +kernel
theorem dX11_oddsOf_87 : decode cX11_oddsOf 87 = .ok (.iload 6, 2) := by decide +kernel
theorem dX11_oddsOf_89 : decode cX11_oddsOf 89 = .ok (.imul, 1) := by decide +kernel
theorem dX11_oddsOf_90 : decode cX11_oddsOf 90 = .ok (.iload 11, 2) := by decide +kernel
theorem dX11_oddsOf_92 : decode cX11_oddsOf 92 = .ok (.iadd, 1) := by decide +kernel
theorem dX11_oddsOf_93 : decode cX11_oddsOf 93 = .ok (.iaload, 1) := by decide +kernel
theorem dX11_oddsOf_94 : decode cX11_oddsOf 94 = .ok (.ifCond .ge 5, 3) := by decide +kernel
theorem dX11_oddsOf_97 : decode cX11_oddsOf 97 = .ok (.iconst (-1), 1) := by decide +kernel
theorem dX11_oddsOf_98 : decode cX11_oddsOf 98 = .ok (.ireturn, 1) := by decide +kernel
theorem dX11_oddsOf_99 : decode cX11_oddsOf 99 = .ok (.lload 8, 2) := by decide +kernel
theorem dX11_oddsOf_101 : decode cX11_oddsOf 101 = .ok (.aload_n 0, 1) := by decide +kernel
theorem dX11_oddsOf_102 : decode cX11_oddsOf 102 = .ok (.getfield 33, 3) := by decide +kernel
theorem dX11_oddsOf_105 : decode cX11_oddsOf 105 = .ok (.bipush 6, 2) := by decide +kernel
theorem dX11_oddsOf_107 : decode cX11_oddsOf 107 = .ok (.iload 6, 2) := by decide +kernel
theorem dX11_oddsOf_109 : decode cX11_oddsOf 109 = .ok (.imul, 1) := by decide +kernel
theorem dX11_oddsOf_110 : decode cX11_oddsOf 110 = .ok (.iload 11, 2) := by decide +kernel
theorem dX11_oddsOf_112 : decode cX11_oddsOf 112 = .ok (.iadd, 1) := by decide +kernel
theorem dX11_oddsOf_113 : decode cX11_oddsOf 113 = .ok (.iaload, 1) := by decide +kernel
theorem dX11_oddsOf_114 : decode cX11_oddsOf 114 = .ok (.i2l, 1) := by decide +kernel
theorem dX11_oddsOf_115 : decode cX11_oddsOf 115 = .ok (.lmul, 1) := by decide +kernel
theorem dX11_oddsOf_116 : decode cX11_oddsOf 116 = .ok (.ldc2_w 307, 3) := by decide +kernel
theorem dX11_oddsOf_119 : decode cX11_oddsOf 119 = .ok (.ldiv, 1) := by decide +kernel
theorem dX11_oddsOf_120 : decode cX11_oddsOf 120 = .ok (.lstore 8, 2) := by decide +kernel
theorem dX11_oddsOf_122 : decode cX11_oddsOf 122 = .ok (.iload 5, 2) := by decide +kernel
theorem dX11_oddsOf_124 : decode cX11_oddsOf 124 = .ok (.iconst 1, 1) := by decide +kernel
theorem dX11_oddsOf_125 : decode cX11_oddsOf 125 = .ok (.iload 11, 2) := by decide +kernel
theorem dX11_oddsOf_127 : decode cX11_oddsOf 127 = .ok (.ishl, 1) := by decide +kernel
theorem dX11_oddsOf_128 : decode cX11_oddsOf 128 = .ok (.ior, 1) := by decide +kernel
theorem dX11_oddsOf_129 : decode cX11_oddsOf 129 = .ok (.istore 5, 2) := by decide +kernel
theorem dX11_oddsOf_131 : decode cX11_oddsOf 131 = .ok (.iload 11, 2) := by decide +kernel
theorem dX11_oddsOf_133 : decode cX11_oddsOf 133 = .ok (.istore 6, 2) := by decide +kernel
theorem dX11_oddsOf_135 : decode cX11_oddsOf 135 = .ok (.iinc 10 1, 3) := by decide +kernel
theorem dX11_oddsOf_138 : decode cX11_oddsOf 138 = .ok (.goto (-115), 3) := by decide +kernel
theorem dX11_oddsOf_141 : decode cX11_oddsOf 141 = .ok (.lload 8, 2) := by decide +kernel
theorem dX11_oddsOf_143 : decode cX11_oddsOf 143 = .ok (.l2i, 1) := by decide +kernel
theorem dX11_oddsOf_144 : decode cX11_oddsOf 144 = .ok (.ireturn, 1) := by decide +kernel
theorem dX11_lost_0 : decode cX11_lost 0 = .ok (.aload_n 0, 1) := by decide +kernel
theorem dX11_lost_1 : decode cX11_lost 1 = .ok (.iload_n 1, 1) := by decide +kernel
theorem dX11_lost_2 : decode cX11_lost 2 = .ok (.invokevirtual 236, 3) := by decide +kernel
theorem dX11_lost_5 : decode cX11_lost 5 = .ok (.ifCond .ne 6, 3) := by decide +kernel
theorem dX11_lost_8 : decode cX11_lost 8 = .ok (.ldc 235, 2) := by decide +kernel
theorem dX11_lost_10 : decode cX11_lost 10 = .ok (.ireturn, 1) := by decide +kernel
theorem dX11_lost_11 : decode cX11_lost 11 = .ok (.iconst 1, 1) := by decide +kernel
theorem dX11_lost_12 : decode cX11_lost 12 = .ok (.iload_n 1, 1) := by decide +kernel
theorem dX11_lost_13 : decode cX11_lost 13 = .ok (.ishl, 1) := by decide +kernel
theorem dX11_lost_14 : decode cX11_lost 14 = .ok (.istore_n 2, 1) := by decide +kernel
theorem dX11_lost_15 : decode cX11_lost 15 = .ok (.iconst 0, 1) := by decide +kernel
theorem dX11_lost_16 : decode cX11_lost 16 = .ok (.istore_n 3, 1) := by decide +kernel
theorem dX11_lost_17 : decode cX11_lost 17 = .ok (.iload_n 3, 1) := by decide +kernel
theorem dX11_lost_18 : decode cX11_lost 18 = .ok (.bipush 6, 2) := by decide +kernel
theorem dX11_lost_20 : decode cX11_lost 20 = .ok (.if_icmp .ge 61, 3) := by decide +kernel
theorem dX11_lost_23 : decode cX11_lost 23 = .ok (.iconst 0, 1) := by decide +kernel
theorem dX11_lost_24 : decode cX11_lost 24 = .ok (.istore 4, 2) := by decide +kernel
theorem dX11_lost_26 : decode cX11_lost 26 = .ok (.iload 4, 2) := by decide +kernel
theorem dX11_lost_28 : decode cX11_lost 28 = .ok (.bipush 36, 2) := by decide +kernel
theorem dX11_lost_30 : decode cX11_lost 30 = .ok (.if_icmp .ge 45, 3) := by decide +kernel
theorem dX11_lost_33 : decode cX11_lost 33 = .ok (.iload_n 2, 1) := by decide +kernel
theorem dX11_lost_34 : decode cX11_lost 34 = .ok (.iload_n 2, 1) := by decide +kernel
theorem dX11_lost_35 : decode cX11_lost 35 = .ok (.iload 4, 2) := by decide +kernel
theorem dX11_lost_37 : decode cX11_lost 37 = .ok (.bipush 6, 2) := by decide +kernel
theorem dX11_lost_39 : decode cX11_lost 39 = .ok (.idiv, 1) := by decide +kernel
theorem dX11_lost_40 : decode cX11_lost 40 = .ok (.invokestatic 219, 3) := by decide +kernel
theorem dX11_lost_43 : decode cX11_lost 43 = .ok (.ifCond .eq 23, 3) := by decide +kernel
theorem dX11_lost_46 : decode cX11_lost 46 = .ok (.aload_n 0, 1) := by decide +kernel
theorem dX11_lost_47 : decode cX11_lost 47 = .ok (.getfield 33, 3) := by decide +kernel
theorem dX11_lost_50 : decode cX11_lost 50 = .ok (.iload 4, 2) := by decide +kernel
theorem dX11_lost_52 : decode cX11_lost 52 = .ok (.iaload, 1) := by decide +kernel
theorem dX11_lost_53 : decode cX11_lost 53 = .ok (.ifCond .le 13, 3) := by decide +kernel
theorem dX11_lost_56 : decode cX11_lost 56 = .ok (.iconst 1, 1) := by decide +kernel
theorem dX11_lost_57 : decode cX11_lost 57 = .ok (.iload 4, 2) := by decide +kernel
theorem dX11_lost_59 : decode cX11_lost 59 = .ok (.bipush 6, 2) := by decide +kernel
theorem dX11_lost_61 : decode cX11_lost 61 = .ok (.irem, 1) := by decide +kernel
theorem dX11_lost_62 : decode cX11_lost 62 = .ok (.ishl, 1) := by decide +kernel
theorem dX11_lost_63 : decode cX11_lost 63 = .ok (.goto 4, 3) := by decide +kernel
theorem dX11_lost_66 : decode cX11_lost 66 = .ok (.iconst 0, 1) := by decide +kernel
theorem dX11_lost_67 : decode cX11_lost 67 = .ok (.ior, 1) := by decide +kernel
theorem dX11_lost_68 : decode cX11_lost 68 = .ok (.istore_n 2, 1) := by decide +kernel
theorem dX11_lost_69 : decode cX11_lost 69 = .ok (.iinc 4 1, 3) := by decide +kernel
theorem dX11_lost_72 : decode cX11_lost 72 = .ok (.goto (-46), 3) := by decide +kernel
theorem dX11_lost_75 : decode cX11_lost 75 = .ok (.iinc 3 1, 3) := by decide +kernel
theorem dX11_lost_78 : decode cX11_lost 78 = .ok (.goto (-61), 3) := by decide +kernel
theorem dX11_lost_81 : decode cX11_lost 81 = .ok (.iconst 1, 1) := by decide +kernel
theorem dX11_lost_82 : decode cX11_lost 82 = .ok (.aload_n 0, 1) := by decide +kernel
theorem dX11_lost_83 : decode cX11_lost 83 = .ok (.getfield 106, 3) := by decide +kernel
theorem dX11_lost_86 : decode cX11_lost 86 = .ok (.ishl, 1) := by decide +kernel
theorem dX11_lost_87 : decode cX11_lost 87 = .ok (.iconst 1, 1) := by decide +kernel
theorem dX11_lost_88 : decode cX11_lost 88 = .ok (.isub, 1) := by decide +kernel
theorem dX11_lost_89 : decode cX11_lost 89 = .ok (.iload_n 2, 1) := by decide +kernel
theorem dX11_lost_90 : decode cX11_lost 90 = .ok (.iconst (-1), 1) := by decide +kernel
theorem dX11_lost_91 : decode cX11_lost 91 = .ok (.ixor, 1) := by decide +kernel
theorem dX11_lost_92 : decode cX11_lost 92 = .ok (.iand, 1) := by decide +kernel
theorem dX11_lost_93 : decode cX11_lost 93 = .ok (.ireturn, 1) := by decide +kernel
theorem dX11_bidOf_0 : decode cX11_bidOf 0 = .ok (.aload_n 0, 1) := by decide +kernel
theorem dX11_bidOf_1 : decode cX11_bidOf 1 = .ok (.getfield 27, 3) := by decide +kernel
theorem dX11_bidOf_4 : decode cX11_bidOf 4 = .ok (.iload_n 1, 1) := by decide +kernel
theorem dX11_bidOf_5 : decode cX11_bidOf 5 = .ok (.iaload, 1) := by decide +kernel
theorem dX11_bidOf_6 : decode cX11_bidOf 6 = .ok (.aload_n 0, 1) := by decide +kernel
theorem dX11_bidOf_7 : decode cX11_bidOf 7 = .ok (.getfield 75, 3) := by decide +kernel
theorem dX11_bidOf_10 : decode cX11_bidOf 10 = .ok (.iload_n 1, 1) := by decide +kernel
theorem dX11_bidOf_11 : decode cX11_bidOf 11 = .ok (.iaload, 1) := by decide +kernel
theorem dX11_bidOf_12 : decode cX11_bidOf 12 = .ok (.isub, 1) := by decide +kernel
theorem dX11_bidOf_13 : decode cX11_bidOf 13 = .ok (.istore_n 2, 1) := by decide +kernel
theorem dX11_bidOf_14 : decode cX11_bidOf 14 = .ok (.iload_n 2, 1) := by decide +kernel
theorem dX11_bidOf_15 : decode cX11_bidOf 15 = .ok (.ifCond .ge 7, 3) := by decide +kernel
theorem dX11_bidOf_18 : decode cX11_bidOf 18 = .ok (.iconst 0, 1) := by decide +kernel
theorem dX11_bidOf_19 : decode cX11_bidOf 19 = .ok (.goto 4, 3) := by decide +kernel
theorem dX11_bidOf_22 : decode cX11_bidOf 22 = .ok (.iload_n 2, 1) := by decide +kernel
theorem dX11_bidOf_23 : decode cX11_bidOf 23 = .ok (.ireturn, 1) := by decide +kernel
theorem dX11_sold_0 : decode cX11_sold 0 = .ok (.aload_n 0, 1) := by decide +kernel
theorem dX11_sold_1 : decode cX11_sold 1 = .ok (.iload_n 2, 1) := by decide +kernel
theorem dX11_sold_2 : decode cX11_sold 2 = .ok (.invokevirtual 236, 3) := by decide +kernel
theorem dX11_sold_5 : decode cX11_sold 5 = .ok (.ifCond .ne 6, 3) := by decide +kernel
theorem dX11_sold_8 : decode cX11_sold 8 = .ok (.ldc 235, 2) := by decide +kernel
theorem dX11_sold_10 : decode cX11_sold 10 = .ok (.ireturn, 1) := by decide +kernel
theorem dX11_sold_11 : decode cX11_sold 11 = .ok (.iload_n 1, 1) := by decide +kernel
theorem dX11_sold_12 : decode cX11_sold 12 = .ok (.i2l, 1) := by decide +kernel
theorem dX11_sold_13 : decode cX11_sold 13 = .ok (.lconst 1, 1) := by decide +kernel
theorem dX11_sold_14 : decode cX11_sold 14 = .ok (.ldc2_w 309, 3) := by decide +kernel
theorem dX11_sold_17 : decode cX11_sold 17 = .ok (.invokestatic 102, 3) := by decide +kernel
theorem dX11_sold_20 : decode cX11_sold 20 = .ok (.ifCond .eq 13, 3) := by decide +kernel
theorem dX11_sold_23 : decode cX11_sold 23 = .ok (.iload_n 3, 1) := by decide +kernel
theorem dX11_sold_24 : decode cX11_sold 24 = .ok (.i2l, 1) := by decide +kernel
theorem dX11_sold_25 : decode cX11_sold 25 = .ok (.lconst 0, 1) := by decide +kernel
theorem dX11_sold_26 : decode cX11_sold 26 = .ok (.lconst 1, 1) := by decide +kernel
theorem dX11_sold_27 : decode cX11_sold 27 = .ok (.invokestatic 102, 3) := by decide +kernel
theorem dX11_sold_30 : decode cX11_sold 30 = .ok (.ifCond .ne 6, 3) := by decide +kernel
theorem dX11_sold_33 : decode cX11_sold 33 = .ok (.ldc 114, 2) := by decide +kernel
theorem dX11_sold_35 : decode cX11_sold 35 = .ok (.ireturn, 1) := by decide +kernel
theorem dX11_sold_36 : decode cX11_sold 36 = .ok (.iconst 0, 1) := by decide +kernel
theorem dX11_sold_37 : decode cX11_sold 37 = .ok (.istore 4, 2) := by decide +kernel
theorem dX11_sold_39 : decode cX11_sold 39 = .ok (.iload 4, 2) := by decide +kernel
theorem dX11_sold_41 : decode cX11_sold 41 = .ok (.aload_n 0, 1) := by decide +kernel
theorem dX11_sold_42 : decode cX11_sold 42 = .ok (.getfield 106, 3) := by decide +kernel
theorem dX11_sold_45 : decode cX11_sold 45 = .ok (.if_icmp .ge 25, 3) := by decide +kernel
theorem dX11_sold_48 : decode cX11_sold 48 = .ok (.aload_n 0, 1) := by decide +kernel
theorem dX11_sold_49 : decode cX11_sold 49 = .ok (.getfield 75, 3) := by decide +kernel
theorem dX11_sold_52 : decode cX11_sold 52 = .ok (.iload 4, 2) := by decide +kernel
theorem dX11_sold_54 : decode cX11_sold 54 = .ok (.iconst 0, 1) := by decide +kernel
theorem dX11_sold_55 : decode cX11_sold 55 = .ok (.iastore, 1) := by decide +kernel
theorem dX11_sold_56 : decode cX11_sold 56 = .ok (.aload_n 0, 1) := by decide +kernel
theorem dX11_sold_57 : decode cX11_sold 57 = .ok (.getfield 78, 3) := by decide +kernel
theorem dX11_sold_60 : decode cX11_sold 60 = .ok (.iload 4, 2) := by decide +kernel
theorem dX11_sold_62 : decode cX11_sold 62 = .ok (.iconst 0, 1) := by decide +kernel
theorem dX11_sold_63 : decode cX11_sold 63 = .ok (.iastore, 1) := by decide +kernel
theorem dX11_sold_64 : decode cX11_sold 64 = .ok (.iinc 4 1, 3) := by decide +kernel
theorem dX11_sold_67 : decode cX11_sold 67 = .ok (.goto (-28), 3) := by decide +kernel
theorem dX11_sold_70 : decode cX11_sold 70 = .ok (.iconst 0, 1) := by decide +kernel
theorem dX11_sold_71 : decode cX11_sold 71 = .ok (.istore 4, 2) := by decide +kernel
theorem dX11_sold_73 : decode cX11_sold 73 = .ok (.iload 4, 2) := by decide +kernel
theorem dX11_sold_75 : decode cX11_sold 75 = .ok (.iload_n 1, 1) := by decide +kernel
theorem dX11_sold_76 : decode cX11_sold 76 = .ok (.if_icmp .ge 129, 3) := by decide +kernel
theorem dX11_sold_79 : decode cX11_sold 79 = .ok (.iconst 0, 1) := by decide +kernel
theorem dX11_sold_80 : decode cX11_sold 80 = .ok (.istore 5, 2) := by decide +kernel
theorem dX11_sold_82 : decode cX11_sold 82 = .ok (.iconst 1, 1) := by decide +kernel
theorem dX11_sold_83 : decode cX11_sold 83 = .ok (.istore 6, 2) := by decide +kernel
theorem dX11_sold_85 : decode cX11_sold 85 = .ok (.iload 6, 2) := by decide +kernel
theorem dX11_sold_87 : decode cX11_sold 87 = .ok (.aload_n 0, 1) := by decide +kernel
theorem dX11_sold_88 : decode cX11_sold 88 = .ok (.getfield 106, 3) := by decide +kernel
theorem dX11_sold_91 : decode cX11_sold 91 = .ok (.if_icmp .ge 33, 3) := by decide +kernel
theorem dX11_sold_94 : decode cX11_sold 94 = .ok (.aload_n 0, 1) := by decide +kernel
theorem dX11_sold_95 : decode cX11_sold 95 = .ok (.iload 6, 2) := by decide +kernel
theorem dX11_sold_97 : decode cX11_sold 97 = .ok (.invokevirtual 311, 3) := by decide +kernel
theorem dX11_sold_100 : decode cX11_sold 100 = .ok (.aload_n 0, 1) := by decide +kernel
theorem dX11_sold_101 : decode cX11_sold 101 = .ok (.iload 5, 2) := by decide +kernel
theorem dX11_sold_103 : decode cX11_sold 103 = .ok (.invokevirtual 311, 3) := by decide +kernel
theorem dX11_sold_106 : decode cX11_sold 106 = .ok (.if_icmp .le 8, 3) := by decide +kernel
theorem dX11_sold_109 : decode cX11_sold 109 = .ok (.iload 6, 2) := by decide +kernel
theorem dX11_sold_111 : decode cX11_sold 111 = .ok (.goto 5, 3) := by decide +kernel
theorem dX11_sold_114 : decode cX11_sold 114 = .ok (.iload 5, 2) := by decide +kernel
theorem dX11_sold_116 : decode cX11_sold 116 = .ok (.istore 5, 2) := by decide +kernel
theorem dX11_sold_118 : decode cX11_sold 118 = .ok (.iinc 6 1, 3) := by decide +kernel
theorem dX11_sold_121 : decode cX11_sold 121 = .ok (.goto (-36), 3) := by decide +kernel
theorem dX11_sold_124 : decode cX11_sold 124 = .ok (.iconst 0, 1) := by decide +kernel
theorem dX11_sold_125 : decode cX11_sold 125 = .ok (.istore 6, 2) := by decide +kernel
theorem dX11_sold_127 : decode cX11_sold 127 = .ok (.iconst 0, 1) := by decide +kernel
theorem dX11_sold_128 : decode cX11_sold 128 = .ok (.istore 7, 2) := by decide +kernel
theorem dX11_sold_130 : decode cX11_sold 130 = .ok (.iload 7, 2) := by decide +kernel
theorem dX11_sold_132 : decode cX11_sold 132 = .ok (.aload_n 0, 1) := by decide +kernel
theorem dX11_sold_133 : decode cX11_sold 133 = .ok (.getfield 106, 3) := by decide +kernel
theorem dX11_sold_136 : decode cX11_sold 136 = .ok (.if_icmp .ge 40, 3) := by decide +kernel
theorem dX11_sold_139 : decode cX11_sold 139 = .ok (.iload 7, 2) := by decide +kernel
theorem dX11_sold_141 : decode cX11_sold 141 = .ok (.iload 5, 2) := by decide +kernel
theorem dX11_sold_143 : decode cX11_sold 143 = .ok (.if_icmp .eq 23, 3) := by decide +kernel
theorem dX11_sold_146 : decode cX11_sold 146 = .ok (.aload_n 0, 1) := by decide +kernel
theorem dX11_sold_147 : decode cX11_sold 147 = .ok (.iload 7, 2) := by decide +kernel
theorem dX11_sold_149 : decode cX11_sold 149 = .ok (.invokevirtual 311, 3) := by decide +kernel
theorem dX11_sold_152 : decode cX11_sold 152 = .ok (.iload 6, 2) := by decide +kernel
theorem dX11_sold_154 : decode cX11_sold 154 = .ok (.if_icmp .le 12, 3) := by decide +kernel
theorem dX11_sold_157 : decode cX11_sold 157 = .ok (.aload_n 0, 1) := by decide +kernel
theorem dX11_sold_158 : decode cX11_sold 158 = .ok (.iload 7, 2) := by decide +kernel
theorem dX11_sold_160 : decode cX11_sold 160 = .ok (.invokevirtual 311, 3) := by decide +kernel
theorem dX11_sold_163 : decode cX11_sold 163 = .ok (.goto 5, 3) := by decide +kernel
theorem dX11_sold_166 : decode cX11_sold 166 = .ok (.iload 6, 2) := by decide +kernel
theorem dX11_sold_168 : decode cX11_sold 168 = .ok (.istore 6, 2) := by decide +kernel
theorem dX11_sold_170 : decode cX11_sold 170 = .ok (.iinc 7 1, 3) := by decide +kernel
theorem dX11_sold_173 : decode cX11_sold 173 = .ok (.goto (-43), 3) := by decide +kernel
theorem dX11_sold_176 : decode cX11_sold 176 = .ok (.aload_n 0, 1) := by decide +kernel
theorem dX11_sold_177 : decode cX11_sold 177 = .ok (.getfield 75, 3) := by decide +kernel
theorem dX11_sold_180 : decode cX11_sold 180 = .ok (.iload 5, 2) := by decide +kernel
theorem dX11_sold_182 : decode cX11_sold 182 = .ok (.dup2, 1) := by decide +kernel
theorem dX11_sold_183 : decode cX11_sold 183 = .ok (.iaload, 1) := by decide +kernel
theorem dX11_sold_184 : decode cX11_sold 184 = .ok (.iconst 1, 1) := by decide +kernel
theorem dX11_sold_185 : decode cX11_sold 185 = .ok (.iadd, 1) := by decide +kernel
theorem dX11_sold_186 : decode cX11_sold 186 = .ok (.iastore, 1) := by decide +kernel
theorem dX11_sold_187 : decode cX11_sold 187 = .ok (.aload_n 0, 1) := by decide +kernel
theorem dX11_sold_188 : decode cX11_sold 188 = .ok (.getfield 78, 3) := by decide +kernel
theorem dX11_sold_191 : decode cX11_sold 191 = .ok (.iload 5, 2) := by decide +kernel
theorem dX11_sold_193 : decode cX11_sold 193 = .ok (.dup2, 1) := by decide +kernel
theorem dX11_sold_194 : decode cX11_sold 194 = .ok (.iaload, 1) := by decide +kernel
theorem dX11_sold_195 : decode cX11_sold 195 = .ok (.iload 6, 2) := by decide +kernel
theorem dX11_sold_197 : decode cX11_sold 197 = .ok (.iadd, 1) := by decide +kernel
theorem dX11_sold_198 : decode cX11_sold 198 = .ok (.iastore, 1) := by decide +kernel
theorem dX11_sold_199 : decode cX11_sold 199 = .ok (.iinc 4 1, 3) := by decide +kernel
theorem dX11_sold_202 : decode cX11_sold 202 = .ok (.goto (-129), 3) := by decide +kernel
theorem dX11_sold_205 : decode cX11_sold 205 = .ok (.iload_n 3, 1) := by decide +kernel
theorem dX11_sold_206 : decode cX11_sold 206 = .ok (.ifCond .ne 12, 3) := by decide +kernel
theorem dX11_sold_209 : decode cX11_sold 209 = .ok (.aload_n 0, 1) := by decide +kernel
theorem dX11_sold_210 : decode cX11_sold 210 = .ok (.getfield 75, 3) := by decide +kernel
theorem dX11_sold_213 : decode cX11_sold 213 = .ok (.iload_n 2, 1) := by decide +kernel
theorem dX11_sold_214 : decode cX11_sold 214 = .ok (.iaload, 1) := by decide +kernel
theorem dX11_sold_215 : decode cX11_sold 215 = .ok (.goto 9, 3) := by decide +kernel
theorem dX11_sold_218 : decode cX11_sold 218 = .ok (.aload_n 0, 1) := by decide +kernel
theorem dX11_sold_219 : decode cX11_sold 219 = .ok (.getfield 78, 3) := by decide +kernel
theorem dX11_sold_222 : decode cX11_sold 222 = .ok (.iload_n 2, 1) := by decide +kernel
theorem dX11_sold_223 : decode cX11_sold 223 = .ok (.iaload, 1) := by decide +kernel
theorem dX11_sold_224 : decode cX11_sold 224 = .ok (.ireturn, 1) := by decide +kernel
theorem dX11_leads_0 : decode cX11_leads 0 = .ok (.iload_n 1, 1) := by decide +kernel
theorem dX11_leads_1 : decode cX11_leads 1 = .ok (.iload_n 2, 1) := by decide +kernel
theorem dX11_leads_2 : decode cX11_leads 2 = .ok (.if_icmp .eq 17, 3) := by decide +kernel
theorem dX11_leads_5 : decode cX11_leads 5 = .ok (.aload_n 0, 1) := by decide +kernel
theorem dX11_leads_6 : decode cX11_leads 6 = .ok (.getfield 20, 3) := by decide +kernel
theorem dX11_leads_9 : decode cX11_leads 9 = .ok (.bipush 7, 2) := by decide +kernel
theorem dX11_leads_11 : decode cX11_leads 11 = .ok (.iload_n 1, 1) := by decide +kernel
theorem dX11_leads_12 : decode cX11_leads 12 = .ok (.imul, 1) := by decide +kernel
theorem dX11_leads_13 : decode cX11_leads 13 = .ok (.iload_n 2, 1) := by decide +kernel
theorem dX11_leads_14 : decode cX11_leads 14 = .ok (.iadd, 1) := by decide +kernel
theorem dX11_leads_15 : decode cX11_leads 15 = .ok (.baload, 1) := by decide +kernel
theorem dX11_leads_16 : decode cX11_leads 16 = .ok (.ifCond .eq 7, 3) := by decide +kernel
theorem dX11_leads_19 : decode cX11_leads 19 = .ok (.iconst 1, 1) := by decide +kernel
theorem dX11_leads_20 : decode cX11_leads 20 = .ok (.goto 4, 3) := by decide +kernel
theorem dX11_leads_23 : decode cX11_leads 23 = .ok (.iconst 0, 1) := by decide +kernel
theorem dX11_leads_24 : decode cX11_leads 24 = .ok (.ireturn, 1) := by decide +kernel
theorem dX11_escapesFrom_0 : decode cX11_escapesFrom 0 = .ok (.ldc 135, 2) := by decide +kernel
theorem dX11_escapesFrom_2 : decode cX11_escapesFrom 2 = .ok (.istore 4, 2) := by decide +kernel
theorem dX11_escapesFrom_4 : decode cX11_escapesFrom 4 = .ok (.iconst 0, 1) := by decide +kernel
theorem dX11_escapesFrom_5 : decode cX11_escapesFrom 5 = .ok (.istore 5, 2) := by decide +kernel
theorem dX11_escapesFrom_7 : decode cX11_escapesFrom 7 = .ok (.iload 5, 2) := by decide +kernel
theorem dX11_escapesFrom_9 : decode cX11_escapesFrom 9 = .ok (.aload_n 0, 1) := by decide +kernel
theorem dX11_escapesFrom_10 : decode cX11_escapesFrom 10 = .ok (.getfield 99, 3) := by decide +kernel
theorem dX11_escapesFrom_13 : decode cX11_escapesFrom 13 = .ok (.if_icmp .ge 137, 3) := by decide +kernel
theorem dX11_escapesFrom_16 : decode cX11_escapesFrom 16 = .ok (.aload_n 0, 1) := by decide +kernel
theorem dX11_escapesFrom_17 : decode cX11_escapesFrom 17 = .ok (.iload_n 1, 1) := by decide +kernel
theorem dX11_escapesFrom_18 : decode cX11_escapesFrom 18 = .ok (.iload 5, 2) := by decide +kernel
theorem dX11_escapesFrom_20 : decode cX11_escapesFrom 20 = .ok (.invokevirtual 314, 3) := by decide +kernel
theorem dX11_escapesFrom_23 : decode cX11_escapesFrom 23 = .ok (.ifCond .eq 121, 3) := by decide +kernel
theorem dX11_escapesFrom_26 : decode cX11_escapesFrom 26 = .ok (.iload 5, 2) := by decide +kernel
theorem dX11_escapesFrom_28 : decode cX11_escapesFrom 28 = .ok (.iload_n 2, 1) := by decide +kernel
theorem dX11_escapesFrom_29 : decode cX11_escapesFrom 29 = .ok (.if_icmp .eq 115, 3) := by decide +kernel
theorem dX11_escapesFrom_32 : decode cX11_escapesFrom 32 = .ok (.iload 5, 2) := by decide +kernel
theorem dX11_escapesFrom_34 : decode cX11_escapesFrom 34 = .ok (.iload_n 3, 1) := by decide +kernel
theorem dX11_escapesFrom_35 : decode cX11_escapesFrom 35 = .ok (.if_icmp .ne 7, 3) := by decide +kernel
theorem dX11_escapesFrom_38 : decode cX11_escapesFrom 38 = .ok (.iconst 1, 1) := by decide +kernel
theorem dX11_escapesFrom_39 : decode cX11_escapesFrom 39 = .ok (.goto 4, 3) := by decide +kernel
theorem dX11_escapesFrom_42 : decode cX11_escapesFrom 42 = .ok (.iconst 0, 1) := by decide +kernel
theorem dX11_escapesFrom_43 : decode cX11_escapesFrom 43 = .ok (.istore 6, 2) := by decide +kernel
theorem dX11_escapesFrom_45 : decode cX11_escapesFrom 45 = .ok (.iconst 0, 1) := by decide +kernel
theorem dX11_escapesFrom_46 : decode cX11_escapesFrom 46 = .ok (.istore 7, 2) := by decide +kernel
theorem dX11_escapesFrom_48 : decode cX11_escapesFrom 48 = .ok (.iload 7, 2) := by decide +kernel
theorem dX11_escapesFrom_50 : decode cX11_escapesFrom 50 = .ok (.aload_n 0, 1) := by decide +kernel
theorem dX11_escapesFrom_51 : decode cX11_escapesFrom 51 = .ok (.getfield 99, 3) := by decide +kernel
theorem dX11_escapesFrom_54 : decode cX11_escapesFrom 54 = .ok (.if_icmp .ge 74, 3) := by decide +kernel
theorem dX11_escapesFrom_57 : decode cX11_escapesFrom 57 = .ok (.iload 5, 2) := by decide +kernel
theorem dX11_escapesFrom_59 : decode cX11_escapesFrom 59 = .ok (.iload_n 3, 1) := by decide +kernel
theorem dX11_escapesFrom_60 : decode cX11_escapesFrom 60 = .ok (.if_icmp .eq 68, 3) := by decide +kernel
theorem dX11_escapesFrom_63 : decode cX11_escapesFrom 63 = .ok (.aload_n 0, 1) := by decide +kernel
theorem dX11_escapesFrom_64 : decode cX11_escapesFrom 64 = .ok (.iload_n 2, 1) := by decide +kernel
theorem dX11_escapesFrom_65 : decode cX11_escapesFrom 65 = .ok (.iload 7, 2) := by decide +kernel
theorem dX11_escapesFrom_67 : decode cX11_escapesFrom 67 = .ok (.invokevirtual 314, 3) := by decide +kernel
theorem dX11_escapesFrom_70 : decode cX11_escapesFrom 70 = .ok (.ifCond .ne 7, 3) := by decide +kernel
theorem dX11_escapesFrom_73 : decode cX11_escapesFrom 73 = .ok (.iconst 0, 1) := by decide +kernel
theorem dX11_escapesFrom_74 : decode cX11_escapesFrom 74 = .ok (.goto 30, 3) := by decide +kernel
theorem dX11_escapesFrom_77 : decode cX11_escapesFrom 77 = .ok (.iload 7, 2) := by decide +kernel
theorem dX11_escapesFrom_79 : decode cX11_escapesFrom 79 = .ok (.iload 5, 2) := by decide +kernel
theorem dX11_escapesFrom_81 : decode cX11_escapesFrom 81 = .ok (.if_icmp .ne 8, 3) := by decide +kernel
theorem dX11_escapesFrom_84 : decode cX11_escapesFrom 84 = .ok (.ldc 135, 2) := by decide +kernel
theorem dX11_escapesFrom_86 : decode cX11_escapesFrom 86 = .ok (.goto 18, 3) := by decide +kernel
theorem dX11_escapesFrom_89 : decode cX11_escapesFrom 89 = .ok (.aload_n 0, 1) := by decide +kernel
theorem dX11_escapesFrom_90 : decode cX11_escapesFrom 90 = .ok (.getfield 81, 3) := by decide +kernel
theorem dX11_escapesFrom_93 : decode cX11_escapesFrom 93 = .ok (.bipush 7, 2) := by decide +kernel
theorem dX11_escapesFrom_95 : decode cX11_escapesFrom 95 = .ok (.iload 5, 2) := by decide +kernel
theorem dX11_escapesFrom_97 : decode cX11_escapesFrom 97 = .ok (.imul, 1) := by decide +kernel
theorem dX11_escapesFrom_98 : decode cX11_escapesFrom 98 = .ok (.iload 7, 2) := by decide +kernel
theorem dX11_escapesFrom_100 : decode cX11_escapesFrom 100 = .ok (.iadd, 1) := by decide +kernel
theorem dX11_escapesFrom_101 : decode cX11_escapesFrom 101 = .ok (.iaload, 1) := by decide +kernel
theorem dX11_escapesFrom_102 : decode cX11_escapesFrom 102 = .ok (.iconst 1, 1) := by decide +kernel
theorem dX11_escapesFrom_103 : decode cX11_escapesFrom 103 = .ok (.iadd, 1) := by decide +kernel
theorem dX11_escapesFrom_104 : decode cX11_escapesFrom 104 = .ok (.istore 8, 2) := by decide +kernel
theorem dX11_escapesFrom_106 : decode cX11_escapesFrom 106 = .ok (.iload 8, 2) := by decide +kernel
theorem dX11_escapesFrom_108 : decode cX11_escapesFrom 108 = .ok (.iload 6, 2) := by decide +kernel
theorem dX11_escapesFrom_110 : decode cX11_escapesFrom 110 = .ok (.if_icmp .le 8, 3) := by decide +kernel
theorem dX11_escapesFrom_113 : decode cX11_escapesFrom 113 = .ok (.iload 8, 2) := by decide +kernel
theorem dX11_escapesFrom_115 : decode cX11_escapesFrom 115 = .ok (.goto 5, 3) := by decide +kernel
theorem dX11_escapesFrom_118 : decode cX11_escapesFrom 118 = .ok (.iload 6, 2) := by decide +kernel
theorem dX11_escapesFrom_120 : decode cX11_escapesFrom 120 = .ok (.istore 6, 2) := by decide +kernel
theorem dX11_escapesFrom_122 : decode cX11_escapesFrom 122 = .ok (.iinc 7 1, 3) := by decide +kernel
theorem dX11_escapesFrom_125 : decode cX11_escapesFrom 125 = .ok (.goto (-77), 3) := by decide +kernel
theorem dX11_escapesFrom_128 : decode cX11_escapesFrom 128 = .ok (.iload 6, 2) := by decide +kernel
theorem dX11_escapesFrom_130 : decode cX11_escapesFrom 130 = .ok (.iload 4, 2) := by decide +kernel
theorem dX11_escapesFrom_132 : decode cX11_escapesFrom 132 = .ok (.if_icmp .ge 8, 3) := by decide +kernel
theorem dX11_escapesFrom_135 : decode cX11_escapesFrom 135 = .ok (.iload 6, 2) := by decide +kernel
theorem dX11_escapesFrom_137 : decode cX11_escapesFrom 137 = .ok (.goto 5, 3) := by decide +kernel
theorem dX11_escapesFrom_140 : decode cX11_escapesFrom 140 = .ok (.iload 4, 2) := by decide +kernel
theorem dX11_escapesFrom_142 : decode cX11_escapesFrom 142 = .ok (.istore 4, 2) := by decide +kernel
theorem dX11_escapesFrom_144 : decode cX11_escapesFrom 144 = .ok (.iinc 5 1, 3) := by decide +kernel
theorem dX11_escapesFrom_147 : decode cX11_escapesFrom 147 = .ok (.goto (-140), 3) := by decide +kernel
theorem dX11_escapesFrom_150 : decode cX11_escapesFrom 150 = .ok (.iload 4, 2) := by decide +kernel
theorem dX11_escapesFrom_152 : decode cX11_escapesFrom 152 = .ok (.ldc 135, 2) := by decide +kernel
theorem dX11_escapesFrom_154 : decode cX11_escapesFrom 154 = .ok (.if_icmp .le 8, 3) := by decide +kernel
theorem dX11_escapesFrom_157 : decode cX11_escapesFrom 157 = .ok (.ldc 135, 2) := by decide +kernel
theorem dX11_escapesFrom_159 : decode cX11_escapesFrom 159 = .ok (.goto 5, 3) := by decide +kernel
theorem dX11_escapesFrom_162 : decode cX11_escapesFrom 162 = .ok (.iload 4, 2) := by decide +kernel
theorem dX11_escapesFrom_164 : decode cX11_escapesFrom 164 = .ok (.ireturn, 1) := by decide +kernel
theorem dX11_catchesFrom_0 : decode cX11_catchesFrom 0 = .ok (.iconst 0, 1) := by decide +kernel
theorem dX11_catchesFrom_1 : decode cX11_catchesFrom 1 = .ok (.istore 4, 2) := by decide +kernel
theorem dX11_catchesFrom_3 : decode cX11_catchesFrom 3 = .ok (.iconst 0, 1) := by decide +kernel
theorem dX11_catchesFrom_4 : decode cX11_catchesFrom 4 = .ok (.istore 5, 2) := by decide +kernel
theorem dX11_catchesFrom_6 : decode cX11_catchesFrom 6 = .ok (.iload 5, 2) := by decide +kernel
theorem dX11_catchesFrom_8 : decode cX11_catchesFrom 8 = .ok (.aload_n 0, 1) := by decide +kernel
theorem dX11_catchesFrom_9 : decode cX11_catchesFrom 9 = .ok (.getfield 99, 3) := by decide +kernel
theorem dX11_catchesFrom_12 : decode cX11_catchesFrom 12 = .ok (.if_icmp .ge 138, 3) := by decide +kernel
theorem dX11_catchesFrom_15 : decode cX11_catchesFrom 15 = .ok (.aload_n 0, 1) := by decide +kernel
theorem dX11_catchesFrom_16 : decode cX11_catchesFrom 16 = .ok (.iload_n 1, 1) := by decide +kernel
theorem dX11_catchesFrom_17 : decode cX11_catchesFrom 17 = .ok (.iload 5, 2) := by decide +kernel
theorem dX11_catchesFrom_19 : decode cX11_catchesFrom 19 = .ok (.invokevirtual 314, 3) := by decide +kernel
theorem dX11_catchesFrom_22 : decode cX11_catchesFrom 22 = .ok (.ifCond .eq 122, 3) := by decide +kernel
theorem dX11_catchesFrom_25 : decode cX11_catchesFrom 25 = .ok (.iload 5, 2) := by decide +kernel
theorem dX11_catchesFrom_27 : decode cX11_catchesFrom 27 = .ok (.iload_n 2, 1) := by decide +kernel
theorem dX11_catchesFrom_28 : decode cX11_catchesFrom 28 = .ok (.if_icmp .ne 7, 3) := by decide +kernel
theorem dX11_catchesFrom_31 : decode cX11_catchesFrom 31 = .ok (.iconst 1, 1) := by decide +kernel
theorem dX11_catchesFrom_32 : decode cX11_catchesFrom 32 = .ok (.goto 5, 3) := by decide +kernel
theorem dX11_catchesFrom_35 : decode cX11_catchesFrom 35 = .ok (.ldc 135, 2) := by decide +kernel
theorem dX11_catchesFrom_37 : decode cX11_catchesFrom 37 = .ok (.istore 6, 2) := by decide +kernel
theorem dX11_catchesFrom_39 : decode cX11_catchesFrom 39 = .ok (.iconst 0, 1) := by decide +kernel
theorem dX11_catchesFrom_40 : decode cX11_catchesFrom 40 = .ok (.istore 7, 2) := by decide +kernel
theorem dX11_catchesFrom_42 : decode cX11_catchesFrom 42 = .ok (.iload 7, 2) := by decide +kernel
theorem dX11_catchesFrom_44 : decode cX11_catchesFrom 44 = .ok (.aload_n 0, 1) := by decide +kernel
theorem dX11_catchesFrom_45 : decode cX11_catchesFrom 45 = .ok (.getfield 99, 3) := by decide +kernel
theorem dX11_catchesFrom_48 : decode cX11_catchesFrom 48 = .ok (.if_icmp .ge 80, 3) := by decide +kernel
theorem dX11_catchesFrom_51 : decode cX11_catchesFrom 51 = .ok (.iload 5, 2) := by decide +kernel
theorem dX11_catchesFrom_53 : decode cX11_catchesFrom 53 = .ok (.iload_n 2, 1) := by decide +kernel
theorem dX11_catchesFrom_54 : decode cX11_catchesFrom 54 = .ok (.if_icmp .eq 74, 3) := by decide +kernel
theorem dX11_catchesFrom_57 : decode cX11_catchesFrom 57 = .ok (.iload 5, 2) := by decide +kernel
theorem dX11_catchesFrom_59 : decode cX11_catchesFrom 59 = .ok (.iload_n 3, 1) := by decide +kernel
theorem dX11_catchesFrom_60 : decode cX11_catchesFrom 60 = .ok (.if_icmp .eq 68, 3) := by decide +kernel
theorem dX11_catchesFrom_63 : decode cX11_catchesFrom 63 = .ok (.aload_n 0, 1) := by decide +kernel
theorem dX11_catchesFrom_64 : decode cX11_catchesFrom 64 = .ok (.iload_n 2, 1) := by decide +kernel
theorem dX11_catchesFrom_65 : decode cX11_catchesFrom 65 = .ok (.iload 7, 2) := by decide +kernel
theorem dX11_catchesFrom_67 : decode cX11_catchesFrom 67 = .ok (.invokevirtual 314, 3) := by decide +kernel
theorem dX11_catchesFrom_70 : decode cX11_catchesFrom 70 = .ok (.ifCond .ne 8, 3) := by decide +kernel
theorem dX11_catchesFrom_73 : decode cX11_catchesFrom 73 = .ok (.ldc 135, 2) := by decide +kernel
theorem dX11_catchesFrom_75 : decode cX11_catchesFrom 75 = .ok (.goto 29, 3) := by decide +kernel
theorem dX11_catchesFrom_78 : decode cX11_catchesFrom 78 = .ok (.iload 7, 2) := by decide +kernel
theorem dX11_catchesFrom_80 : decode cX11_catchesFrom 80 = .ok (.iload 5, 2) := by decide +kernel
theorem dX11_catchesFrom_82 : decode cX11_catchesFrom 82 = .ok (.if_icmp .ne 7, 3) := by decide +kernel
theorem dX11_catchesFrom_85 : decode cX11_catchesFrom 85 = .ok (.iconst 1, 1) := by decide +kernel
theorem dX11_catchesFrom_86 : decode cX11_catchesFrom 86 = .ok (.goto 18, 3) := by decide +kernel
theorem dX11_catchesFrom_89 : decode cX11_catchesFrom 89 = .ok (.aload_n 0, 1) := by decide +kernel
theorem dX11_catchesFrom_90 : decode cX11_catchesFrom 90 = .ok (.getfield 84, 3) := by decide +kernel
theorem dX11_catchesFrom_93 : decode cX11_catchesFrom 93 = .ok (.bipush 7, 2) := by decide +kernel
theorem dX11_catchesFrom_95 : decode cX11_catchesFrom 95 = .ok (.iload 5, 2) := by decide +kernel
theorem dX11_catchesFrom_97 : decode cX11_catchesFrom 97 = .ok (.imul, 1) := by decide +kernel
theorem dX11_catchesFrom_98 : decode cX11_catchesFrom 98 = .ok (.iload 7, 2) := by decide +kernel
theorem dX11_catchesFrom_100 : decode cX11_catchesFrom 100 = .ok (.iadd, 1) := by decide +kernel
theorem dX11_catchesFrom_101 : decode cX11_catchesFrom 101 = .ok (.iaload, 1) := by decide +kernel
theorem dX11_catchesFrom_102 : decode cX11_catchesFrom 102 = .ok (.iconst 1, 1) := by decide +kernel
theorem dX11_catchesFrom_103 : decode cX11_catchesFrom 103 = .ok (.iadd, 1) := by decide +kernel
theorem dX11_catchesFrom_104 : decode cX11_catchesFrom 104 = .ok (.istore 8, 2) := by decide +kernel
theorem dX11_catchesFrom_106 : decode cX11_catchesFrom 106 = .ok (.iload 8, 2) := by decide +kernel
theorem dX11_catchesFrom_108 : decode cX11_catchesFrom 108 = .ok (.iload 6, 2) := by decide +kernel
theorem dX11_catchesFrom_110 : decode cX11_catchesFrom 110 = .ok (.if_icmp .ge 8, 3) := by decide +kernel
theorem dX11_catchesFrom_113 : decode cX11_catchesFrom 113 = .ok (.iload 8, 2) := by decide +kernel
theorem dX11_catchesFrom_115 : decode cX11_catchesFrom 115 = .ok (.goto 5, 3) := by decide +kernel
theorem dX11_catchesFrom_118 : decode cX11_catchesFrom 118 = .ok (.iload 6, 2) := by decide +kernel
theorem dX11_catchesFrom_120 : decode cX11_catchesFrom 120 = .ok (.istore 6, 2) := by decide +kernel
theorem dX11_catchesFrom_122 : decode cX11_catchesFrom 122 = .ok (.iinc 7 1, 3) := by decide +kernel
theorem dX11_catchesFrom_125 : decode cX11_catchesFrom 125 = .ok (.goto (-83), 3) := by decide +kernel
theorem dX11_catchesFrom_128 : decode cX11_catchesFrom 128 = .ok (.iload 6, 2) := by decide +kernel
theorem dX11_catchesFrom_130 : decode cX11_catchesFrom 130 = .ok (.iload 4, 2) := by decide +kernel
theorem dX11_catchesFrom_132 : decode cX11_catchesFrom 132 = .ok (.if_icmp .le 8, 3) := by decide +kernel
theorem dX11_catchesFrom_135 : decode cX11_catchesFrom 135 = .ok (.iload 6, 2) := by decide +kernel
theorem dX11_catchesFrom_137 : decode cX11_catchesFrom 137 = .ok (.goto 5, 3) := by decide +kernel
theorem dX11_catchesFrom_140 : decode cX11_catchesFrom 140 = .ok (.iload 4, 2) := by decide +kernel
theorem dX11_catchesFrom_142 : decode cX11_catchesFrom 142 = .ok (.istore 4, 2) := by decide +kernel
theorem dX11_catchesFrom_144 : decode cX11_catchesFrom 144 = .ok (.iinc 5 1, 3) := by decide +kernel
theorem dX11_catchesFrom_147 : decode cX11_catchesFrom 147 = .ok (.goto (-141), 3) := by decide +kernel
theorem dX11_catchesFrom_150 : decode cX11_catchesFrom 150 = .ok (.iload 4, 2) := by decide +kernel
theorem dX11_catchesFrom_152 : decode cX11_catchesFrom 152 = .ok (.ldc 135, 2) := by decide +kernel
theorem dX11_catchesFrom_154 : decode cX11_catchesFrom 154 = .ok (.if_icmp .le 8, 3) := by decide +kernel
theorem dX11_catchesFrom_157 : decode cX11_catchesFrom 157 = .ok (.ldc 135, 2) := by decide +kernel
theorem dX11_catchesFrom_159 : decode cX11_catchesFrom 159 = .ok (.goto 5, 3) := by decide +kernel
theorem dX11_catchesFrom_162 : decode cX11_catchesFrom 162 = .ok (.iload 4, 2) := by decide +kernel
theorem dX11_catchesFrom_164 : decode cX11_catchesFrom 164 = .ok (.ireturn, 1) := by decide +kernel
theorem dX11_findThief_0 : decode cX11_findThief 0 = .ok (.iconst 0, 1) := by decide +kernel
theorem dX11_findThief_1 : decode cX11_findThief 1 = .ok (.istore_n 2, 1) := by decide +kernel
theorem dX11_findThief_2 : decode cX11_findThief 2 = .ok (.iload_n 2, 1) := by decide +kernel
theorem dX11_findThief_3 : decode cX11_findThief 3 = .ok (.bipush 49, 2) := by decide +kernel
theorem dX11_findThief_5 : decode cX11_findThief 5 = .ok (.if_icmp .ge 61, 3) := by decide +kernel
theorem dX11_findThief_8 : decode cX11_findThief 8 = .ok (.iload_n 2, 1) := by decide +kernel
theorem dX11_findThief_9 : decode cX11_findThief 9 = .ok (.bipush 7, 2) := by decide +kernel
theorem dX11_findThief_11 : decode cX11_findThief 11 = .ok (.idiv, 1) := by decide +kernel
theorem dX11_findThief_12 : decode cX11_findThief 12 = .ok (.istore_n 3, 1) := by decide +kernel
theorem dX11_findThief_13 : decode cX11_findThief 13 = .ok (.iload_n 2, 1) := by decide +kernel
theorem dX11_findThief_14 : decode cX11_findThief 14 = .ok (.bipush 7, 2) := by decide +kernel
theorem dX11_findThief_16 : decode cX11_findThief 16 = .ok (.irem, 1) := by decide +kernel
theorem dX11_findThief_17 : decode cX11_findThief 17 = .ok (.istore 4, 2) := by decide +kernel
theorem dX11_findThief_19 : decode cX11_findThief 19 = .ok (.aload_n 0, 1) := by decide +kernel
theorem dX11_findThief_20 : decode cX11_findThief 20 = .ok (.getfield 81, 3) := by decide +kernel
theorem dX11_findThief_23 : decode cX11_findThief 23 = .ok (.iload_n 2, 1) := by decide +kernel
theorem dX11_findThief_24 : decode cX11_findThief 24 = .ok (.iload_n 3, 1) := by decide +kernel
theorem dX11_findThief_25 : decode cX11_findThief 25 = .ok (.iload_n 1, 1) := by decide +kernel
theorem dX11_findThief_26 : decode cX11_findThief 26 = .ok (.if_icmp .ne 13, 3) := by decide +kernel
theorem dX11_findThief_29 : decode cX11_findThief 29 = .ok (.iload_n 3, 1) := by decide +kernel
theorem dX11_findThief_30 : decode cX11_findThief 30 = .ok (.iload 4, 2) := by decide +kernel
theorem dX11_findThief_32 : decode cX11_findThief 32 = .ok (.if_icmp .eq 7, 3) := by decide +kernel
theorem dX11_findThief_35 : decode cX11_findThief 35 = .ok (.iconst 0, 1) := by decide +kernel
theorem dX11_findThief_36 : decode cX11_findThief 36 = .ok (.goto 5, 3) := by decide +kernel
theorem dX11_findThief_39 : decode cX11_findThief 39 = .ok (.ldc 135, 2) := by decide +kernel
theorem dX11_findThief_41 : decode cX11_findThief 41 = .ok (.iastore, 1) := by decide +kernel
theorem dX11_findThief_42 : decode cX11_findThief 42 = .ok (.aload_n 0, 1) := by decide +kernel
theorem dX11_findThief_43 : decode cX11_findThief 43 = .ok (.getfield 84, 3) := by decide +kernel
theorem dX11_findThief_46 : decode cX11_findThief 46 = .ok (.iload_n 2, 1) := by decide +kernel
theorem dX11_findThief_47 : decode cX11_findThief 47 = .ok (.iload_n 3, 1) := by decide +kernel
theorem dX11_findThief_48 : decode cX11_findThief 48 = .ok (.iload 4, 2) := by decide +kernel
theorem dX11_findThief_50 : decode cX11_findThief 50 = .ok (.if_icmp .ne 7, 3) := by decide +kernel
theorem dX11_findThief_53 : decode cX11_findThief 53 = .ok (.iconst 0, 1) := by decide +kernel
theorem dX11_findThief_54 : decode cX11_findThief 54 = .ok (.goto 5, 3) := by decide +kernel
theorem dX11_findThief_57 : decode cX11_findThief 57 = .ok (.ldc 135, 2) := by decide +kernel
theorem dX11_findThief_59 : decode cX11_findThief 59 = .ok (.iastore, 1) := by decide +kernel
theorem dX11_findThief_60 : decode cX11_findThief 60 = .ok (.iinc 2 1, 3) := by decide +kernel
theorem dX11_findThief_63 : decode cX11_findThief 63 = .ok (.goto (-61), 3) := by decide +kernel
theorem dX11_findThief_66 : decode cX11_findThief 66 = .ok (.iconst 0, 1) := by decide +kernel
theorem dX11_findThief_67 : decode cX11_findThief 67 = .ok (.istore_n 2, 1) := by decide +kernel
theorem dX11_findThief_68 : decode cX11_findThief 68 = .ok (.iload_n 2, 1) := by decide +kernel
theorem dX11_findThief_69 : decode cX11_findThief 69 = .ok (.bipush 60, 2) := by decide +kernel
theorem dX11_findThief_71 : decode cX11_findThief 71 = .ok (.if_icmp .ge 96, 3) := by decide +kernel
theorem dX11_findThief_74 : decode cX11_findThief 74 = .ok (.iconst 0, 1) := by decide +kernel
theorem dX11_findThief_75 : decode cX11_findThief 75 = .ok (.istore_n 3, 1) := by decide +kernel
theorem dX11_findThief_76 : decode cX11_findThief 76 = .ok (.iload_n 3, 1) := by decide +kernel
theorem dX11_findThief_77 : decode cX11_findThief 77 = .ok (.bipush 49, 2) := by decide +kernel
theorem dX11_findThief_79 : decode cX11_findThief 79 = .ok (.if_icmp .ge 82, 3) := by decide +kernel
theorem dX11_findThief_82 : decode cX11_findThief 82 = .ok (.iload_n 3, 1) := by decide +kernel
theorem dX11_findThief_83 : decode cX11_findThief 83 = .ok (.bipush 7, 2) := by decide +kernel
theorem dX11_findThief_85 : decode cX11_findThief 85 = .ok (.idiv, 1) := by decide +kernel
theorem dX11_findThief_86 : decode cX11_findThief 86 = .ok (.istore 4, 2) := by decide +kernel
theorem dX11_findThief_88 : decode cX11_findThief 88 = .ok (.iload_n 3, 1) := by decide +kernel
theorem dX11_findThief_89 : decode cX11_findThief 89 = .ok (.bipush 7, 2) := by decide +kernel
theorem dX11_findThief_91 : decode cX11_findThief 91 = .ok (.irem, 1) := by decide +kernel
theorem dX11_findThief_92 : decode cX11_findThief 92 = .ok (.istore 5, 2) := by decide +kernel
theorem dX11_findThief_94 : decode cX11_findThief 94 = .ok (.iload 4, 2) := by decide +kernel
theorem dX11_findThief_96 : decode cX11_findThief 96 = .ok (.aload_n 0, 1) := by decide +kernel
theorem dX11_findThief_97 : decode cX11_findThief 97 = .ok (.getfield 99, 3) := by decide +kernel
theorem dX11_findThief_100 : decode cX11_findThief 100 = .ok (.if_icmp .ge 55, 3) := by decide +kernel
theorem dX11_findThief_103 : decode cX11_findThief 103 = .ok (.iload 5, 2) := by decide +kernel
theorem dX11_findThief_105 : decode cX11_findThief 105 = .ok (.aload_n 0, 1) := by decide +kernel
theorem dX11_findThief_106 : decode cX11_findThief 106 = .ok (.getfield 99, 3) := by decide +kernel
theorem dX11_findThief_109 : decode cX11_findThief 109 = .ok (.if_icmp .ge 46, 3) := by decide +kernel
theorem dX11_findThief_112 : decode cX11_findThief 112 = .ok (.iload 4, 2) := by decide +kernel
theorem dX11_findThief_114 : decode cX11_findThief 114 = .ok (.iload 5, 2) := by decide +kernel
theorem dX11_findThief_116 : decode cX11_findThief 116 = .ok (.if_icmp .eq 39, 3) := by decide +kernel
theorem dX11_findThief_119 : decode cX11_findThief 119 = .ok (.iload 4, 2) := by decide +kernel
theorem dX11_findThief_121 : decode cX11_findThief 121 = .ok (.iload_n 1, 1) := by decide +kernel
theorem dX11_findThief_122 : decode cX11_findThief 122 = .ok (.if_icmp .eq 33, 3) := by decide +kernel
theorem dX11_findThief_125 : decode cX11_findThief 125 = .ok (.aload_n 0, 1) := by decide +kernel
theorem dX11_findThief_126 : decode cX11_findThief 126 = .ok (.getfield 81, 3) := by decide +kernel
theorem dX11_findThief_129 : decode cX11_findThief 129 = .ok (.iload_n 3, 1) := by decide +kernel
theorem dX11_findThief_130 : decode cX11_findThief 130 = .ok (.aload_n 0, 1) := by decide +kernel
theorem dX11_findThief_131 : decode cX11_findThief 131 = .ok (.iload 4, 2) := by decide +kernel
theorem dX11_findThief_133 : decode cX11_findThief 133 = .ok (.iload 5, 2) := by decide +kernel
theorem dX11_findThief_135 : decode cX11_findThief 135 = .ok (.iload_n 1, 1) := by decide +kernel
theorem dX11_findThief_136 : decode cX11_findThief 136 = .ok (.invokevirtual 317, 3) := by decide +kernel
theorem dX11_findThief_139 : decode cX11_findThief 139 = .ok (.iastore, 1) := by decide +kernel
theorem dX11_findThief_140 : decode cX11_findThief 140 = .ok (.aload_n 0, 1) := by decide +kernel
theorem dX11_findThief_141 : decode cX11_findThief 141 = .ok (.getfield 84, 3) := by decide +kernel
theorem dX11_findThief_144 : decode cX11_findThief 144 = .ok (.iload_n 3, 1) := by decide +kernel
theorem dX11_findThief_145 : decode cX11_findThief 145 = .ok (.aload_n 0, 1) := by decide +kernel
theorem dX11_findThief_146 : decode cX11_findThief 146 = .ok (.iload 4, 2) := by decide +kernel
theorem dX11_findThief_148 : decode cX11_findThief 148 = .ok (.iload 5, 2) := by decide +kernel
theorem dX11_findThief_150 : decode cX11_findThief 150 = .ok (.iload_n 1, 1) := by decide +kernel
theorem dX11_findThief_151 : decode cX11_findThief 151 = .ok (.invokevirtual 320, 3) := by decide +kernel
theorem dX11_findThief_154 : decode cX11_findThief 154 = .ok (.iastore, 1) := by decide +kernel
theorem dX11_findThief_155 : decode cX11_findThief 155 = .ok (.iinc 3 1, 3) := by decide +kernel
theorem dX11_findThief_158 : decode cX11_findThief 158 = .ok (.goto (-82), 3) := by decide +kernel
theorem dX11_findThief_161 : decode cX11_findThief 161 = .ok (.iinc 2 1, 3) := by decide +kernel
theorem dX11_findThief_164 : decode cX11_findThief 164 = .ok (.goto (-96), 3) := by decide +kernel
theorem dX11_findThief_167 : decode cX11_findThief 167 = .ok (.return_, 1) := by decide +kernel
theorem dX11_thief_0 : decode cX11_thief 0 = .ok (.aload_n 0, 1) := by decide +kernel
theorem dX11_thief_1 : decode cX11_thief 1 = .ok (.iload_n 1, 1) := by decide +kernel
theorem dX11_thief_2 : decode cX11_thief 2 = .ok (.invokevirtual 228, 3) := by decide +kernel
theorem dX11_thief_5 : decode cX11_thief 5 = .ok (.ifCond .eq 19, 3) := by decide +kernel
theorem dX11_thief_8 : decode cX11_thief 8 = .ok (.aload_n 0, 1) := by decide +kernel
theorem dX11_thief_9 : decode cX11_thief 9 = .ok (.iload_n 2, 1) := by decide +kernel
theorem dX11_thief_10 : decode cX11_thief 10 = .ok (.invokevirtual 228, 3) := by decide +kernel
theorem dX11_thief_13 : decode cX11_thief 13 = .ok (.ifCond .eq 11, 3) := by decide +kernel
theorem dX11_thief_16 : decode cX11_thief 16 = .ok (.aload_n 0, 1) := by decide +kernel
theorem dX11_thief_17 : decode cX11_thief 17 = .ok (.iload_n 3, 1) := by decide +kernel
theorem dX11_thief_18 : decode cX11_thief 18 = .ok (.invokevirtual 228, 3) := by decide +kernel
theorem dX11_thief_21 : decode cX11_thief 21 = .ok (.ifCond .ne 6, 3) := by decide +kernel
theorem dX11_thief_24 : decode cX11_thief 24 = .ok (.ldc 235, 2) := by decide +kernel
theorem dX11_thief_26 : decode cX11_thief 26 = .ok (.ireturn, 1) := by decide +kernel
theorem dX11_thief_27 : decode cX11_thief 27 = .ok (.iload 4, 2) := by decide +kernel
theorem dX11_thief_29 : decode cX11_thief 29 = .ok (.i2l, 1) := by decide +kernel
theorem dX11_thief_30 : decode cX11_thief 30 = .ok (.lconst 0, 1) := by decide +kernel
theorem dX11_thief_31 : decode cX11_thief 31 = .ok (.lconst 1, 1) := by decide +kernel
theorem dX11_thief_32 : decode cX11_thief 32 = .ok (.invokestatic 102, 3) := by decide +kernel
theorem dX11_thief_35 : decode cX11_thief 35 = .ok (.ifCond .ne 6, 3) := by decide +kernel
theorem dX11_thief_38 : decode cX11_thief 38 = .ok (.ldc 114, 2) := by decide +kernel
theorem dX11_thief_40 : decode cX11_thief 40 = .ok (.ireturn, 1) := by decide +kernel
theorem dX11_thief_41 : decode cX11_thief 41 = .ok (.aload_n 0, 1) := by decide +kernel
theorem dX11_thief_42 : decode cX11_thief 42 = .ok (.iload_n 3, 1) := by decide +kernel
theorem dX11_thief_43 : decode cX11_thief 43 = .ok (.invokevirtual 323, 3) := by decide +kernel
theorem dX11_thief_46 : decode cX11_thief 46 = .ok (.bipush 7, 2) := by decide +kernel
theorem dX11_thief_48 : decode cX11_thief 48 = .ok (.iload_n 1, 1) := by decide +kernel
theorem dX11_thief_49 : decode cX11_thief 49 = .ok (.imul, 1) := by decide +kernel
theorem dX11_thief_50 : decode cX11_thief 50 = .ok (.iload_n 2, 1) := by decide +kernel
theorem dX11_thief_51 : decode cX11_thief 51 = .ok (.iadd, 1) := by decide +kernel
theorem dX11_thief_52 : decode cX11_thief 52 = .ok (.istore 5, 2) := by decide +kernel
theorem dX11_thief_54 : decode cX11_thief 54 = .ok (.aload_n 0, 1) := by decide +kernel
theorem dX11_thief_55 : decode cX11_thief 55 = .ok (.getfield 81, 3) := by decide +kernel
theorem dX11_thief_58 : decode cX11_thief 58 = .ok (.iload 5, 2) := by decide +kernel
theorem dX11_thief_60 : decode cX11_thief 60 = .ok (.iaload, 1) := by decide +kernel
theorem dX11_thief_61 : decode cX11_thief 61 = .ok (.ldc 135, 2) := by decide +kernel
theorem dX11_thief_63 : decode cX11_thief 63 = .ok (.if_icmp .ge 7, 3) := by decide +kernel
theorem dX11_thief_66 : decode cX11_thief 66 = .ok (.iconst 1, 1) := by decide +kernel
theorem dX11_thief_67 : decode cX11_thief 67 = .ok (.goto 20, 3) := by decide +kernel
theorem dX11_thief_70 : decode cX11_thief 70 = .ok (.aload_n 0, 1) := by decide +kernel
theorem dX11_thief_71 : decode cX11_thief 71 = .ok (.getfield 84, 3) := by decide +kernel
theorem dX11_thief_74 : decode cX11_thief 74 = .ok (.iload 5, 2) := by decide +kernel
theorem dX11_thief_76 : decode cX11_thief 76 = .ok (.iaload, 1) := by decide +kernel
theorem dX11_thief_77 : decode cX11_thief 77 = .ok (.ldc 135, 2) := by decide +kernel
theorem dX11_thief_79 : decode cX11_thief 79 = .ok (.if_icmp .ge 7, 3) := by decide +kernel
theorem dX11_thief_82 : decode cX11_thief 82 = .ok (.iconst 2, 1) := by decide +kernel
theorem dX11_thief_83 : decode cX11_thief 83 = .ok (.goto 4, 3) := by decide +kernel
theorem dX11_thief_86 : decode cX11_thief 86 = .ok (.iconst 0, 1) := by decide +kernel
theorem dX11_thief_87 : decode cX11_thief 87 = .ok (.istore 6, 2) := by decide +kernel
theorem dX11_thief_89 : decode cX11_thief 89 = .ok (.iload 4, 2) := by decide +kernel
theorem dX11_thief_91 : decode cX11_thief 91 = .ok (.ifCond .ne 8, 3) := by decide +kernel
theorem dX11_thief_94 : decode cX11_thief 94 = .ok (.iload 6, 2) := by decide +kernel
theorem dX11_thief_96 : decode cX11_thief 96 = .ok (.goto 36, 3) := by decide +kernel
theorem dX11_thief_99 : decode cX11_thief 99 = .ok (.iload 6, 2) := by decide +kernel
theorem dX11_thief_101 : decode cX11_thief 101 = .ok (.iconst 1, 1) := by decide +kernel
theorem dX11_thief_102 : decode cX11_thief 102 = .ok (.if_icmp .ne 13, 3) := by decide +kernel
theorem dX11_thief_105 : decode cX11_thief 105 = .ok (.aload_n 0, 1) := by decide +kernel
theorem dX11_thief_106 : decode cX11_thief 106 = .ok (.getfield 81, 3) := by decide +kernel
theorem dX11_thief_109 : decode cX11_thief 109 = .ok (.iload 5, 2) := by decide +kernel
theorem dX11_thief_111 : decode cX11_thief 111 = .ok (.iaload, 1) := by decide +kernel
theorem dX11_thief_112 : decode cX11_thief 112 = .ok (.goto 20, 3) := by decide +kernel
theorem dX11_thief_115 : decode cX11_thief 115 = .ok (.iload 6, 2) := by decide +kernel
theorem dX11_thief_117 : decode cX11_thief 117 = .ok (.iconst 2, 1) := by decide +kernel
theorem dX11_thief_118 : decode cX11_thief 118 = .ok (.if_icmp .ne 13, 3) := by decide +kernel
theorem dX11_thief_121 : decode cX11_thief 121 = .ok (.aload_n 0, 1) := by decide +kernel
theorem dX11_thief_122 : decode cX11_thief 122 = .ok (.getfield 84, 3) := by decide +kernel
theorem dX11_thief_125 : decode cX11_thief 125 = .ok (.iload 5, 2) := by decide +kernel
theorem dX11_thief_127 : decode cX11_thief 127 = .ok (.iaload, 1) := by decide +kernel
theorem dX11_thief_128 : decode cX11_thief 128 = .ok (.goto 4, 3) := by decide +kernel
theorem dX11_thief_131 : decode cX11_thief 131 = .ok (.iconst (-1), 1) := by decide +kernel
theorem dX11_thief_132 : decode cX11_thief 132 = .ok (.ireturn, 1) := by decide +kernel
theorem dX11_deedsOf_0 : decode cX11_deedsOf 0 = .ok (.iconst 0, 1) := by decide +kernel
theorem dX11_deedsOf_1 : decode cX11_deedsOf 1 = .ok (.istore_n 2, 1) := by decide +kernel
theorem dX11_deedsOf_2 : decode cX11_deedsOf 2 = .ok (.iconst 0, 1) := by decide +kernel
theorem dX11_deedsOf_3 : decode cX11_deedsOf 3 = .ok (.istore_n 3, 1) := by decide +kernel
theorem dX11_deedsOf_4 : decode cX11_deedsOf 4 = .ok (.iload_n 3, 1) := by decide +kernel
theorem dX11_deedsOf_5 : decode cX11_deedsOf 5 = .ok (.aload_n 0, 1) := by decide +kernel
theorem dX11_deedsOf_6 : decode cX11_deedsOf 6 = .ok (.getfield 109, 3) := by decide +kernel
theorem dX11_deedsOf_9 : decode cX11_deedsOf 9 = .ok (.if_icmp .ge 31, 3) := by decide +kernel
theorem dX11_deedsOf_12 : decode cX11_deedsOf 12 = .ok (.iload_n 2, 1) := by decide +kernel
theorem dX11_deedsOf_13 : decode cX11_deedsOf 13 = .ok (.aload_n 0, 1) := by decide +kernel
theorem dX11_deedsOf_14 : decode cX11_deedsOf 14 = .ok (.getfield 30, 3) := by decide +kernel
theorem dX11_deedsOf_17 : decode cX11_deedsOf 17 = .ok (.iconst 5, 1) := by decide +kernel
theorem dX11_deedsOf_18 : decode cX11_deedsOf 18 = .ok (.iload_n 3, 1) := by decide +kernel
theorem dX11_deedsOf_19 : decode cX11_deedsOf 19 = .ok (.imul, 1) := by decide +kernel
theorem dX11_deedsOf_20 : decode cX11_deedsOf 20 = .ok (.iaload, 1) := by decide +kernel
theorem dX11_deedsOf_21 : decode cX11_deedsOf 21 = .ok (.iload_n 1, 1) := by decide +kernel
theorem dX11_deedsOf_22 : decode cX11_deedsOf 22 = .ok (.if_icmp .ne 9, 3) := by decide +kernel
theorem dX11_deedsOf_25 : decode cX11_deedsOf 25 = .ok (.iconst 1, 1) := by decide +kernel
theorem dX11_deedsOf_26 : decode cX11_deedsOf 26 = .ok (.iload_n 3, 1) := by decide +kernel
theorem dX11_deedsOf_27 : decode cX11_deedsOf 27 = .ok (.ishl, 1) := by decide +kernel
theorem dX11_deedsOf_28 : decode cX11_deedsOf 28 = .ok (.goto 4, 3) := by decide +kernel
theorem dX11_deedsOf_31 : decode cX11_deedsOf 31 = .ok (.iconst 0, 1) := by decide +kernel
theorem dX11_deedsOf_32 : decode cX11_deedsOf 32 = .ok (.ior, 1) := by decide +kernel
theorem dX11_deedsOf_33 : decode cX11_deedsOf 33 = .ok (.istore_n 2, 1) := by decide +kernel
theorem dX11_deedsOf_34 : decode cX11_deedsOf 34 = .ok (.iinc 3 1, 3) := by decide +kernel
theorem dX11_deedsOf_37 : decode cX11_deedsOf 37 = .ok (.goto (-33), 3) := by decide +kernel
theorem dX11_deedsOf_40 : decode cX11_deedsOf 40 = .ok (.iload_n 2, 1) := by decide +kernel
theorem dX11_deedsOf_41 : decode cX11_deedsOf 41 = .ok (.ireturn, 1) := by decide +kernel
theorem dX11_voteOf_0 : decode cX11_voteOf 0 = .ok (.aload_n 0, 1) := by decide +kernel
theorem dX11_voteOf_1 : decode cX11_voteOf 1 = .ok (.iload_n 1, 1) := by decide +kernel
theorem dX11_voteOf_2 : decode cX11_voteOf 2 = .ok (.invokevirtual 326, 3) := by decide +kernel
theorem dX11_voteOf_5 : decode cX11_voteOf 5 = .ok (.aload_n 0, 1) := by decide +kernel
theorem dX11_voteOf_6 : decode cX11_voteOf 6 = .ok (.iconst 0, 1) := by decide +kernel
theorem dX11_voteOf_7 : decode cX11_voteOf 7 = .ok (.invokevirtual 222, 3) := by decide +kernel
theorem dX11_voteOf_10 : decode cX11_voteOf 10 = .ok (.iand, 1) := by decide +kernel
theorem dX11_voteOf_11 : decode cX11_voteOf 11 = .ok (.istore_n 2, 1) := by decide +kernel
theorem dX11_voteOf_12 : decode cX11_voteOf 12 = .ok (.iconst (-1), 1) := by decide +kernel
theorem dX11_voteOf_13 : decode cX11_voteOf 13 = .ok (.istore_n 3, 1) := by decide +kernel
theorem dX11_voteOf_14 : decode cX11_voteOf 14 = .ok (.iconst 0, 1) := by decide +kernel
theorem dX11_voteOf_15 : decode cX11_voteOf 15 = .ok (.istore 4, 2) := by decide +kernel
theorem dX11_voteOf_17 : decode cX11_voteOf 17 = .ok (.iconst 0, 1) := by decide +kernel
theorem dX11_voteOf_18 : decode cX11_voteOf 18 = .ok (.istore 5, 2) := by decide +kernel
theorem dX11_voteOf_20 : decode cX11_voteOf 20 = .ok (.iload 5, 2) := by decide +kernel
theorem dX11_voteOf_22 : decode cX11_voteOf 22 = .ok (.aload_n 0, 1) := by decide +kernel
theorem dX11_voteOf_23 : decode cX11_voteOf 23 = .ok (.getfield 203, 3) := by decide +kernel
theorem dX11_voteOf_26 : decode cX11_voteOf 26 = .ok (.if_icmp .ge 54, 3) := by decide +kernel
theorem dX11_voteOf_29 : decode cX11_voteOf 29 = .ok (.aload_n 0, 1) := by decide +kernel
theorem dX11_voteOf_30 : decode cX11_voteOf 30 = .ok (.iload_n 2, 1) := by decide +kernel
theorem dX11_voteOf_31 : decode cX11_voteOf 31 = .ok (.aload_n 0, 1) := by decide +kernel
theorem dX11_voteOf_32 : decode cX11_voteOf 32 = .ok (.getfield 36, 3) := by decide +kernel
theorem dX11_voteOf_35 : decode cX11_voteOf 35 = .ok (.iload 5, 2) := by decide +kernel
theorem dX11_voteOf_37 : decode cX11_voteOf 37 = .ok (.iaload, 1) := by decide +kernel
theorem dX11_voteOf_38 : decode cX11_voteOf 38 = .ok (.iand, 1) := by decide +kernel
theorem dX11_voteOf_39 : decode cX11_voteOf 39 = .ok (.invokevirtual 225, 3) := by decide +kernel
theorem dX11_voteOf_42 : decode cX11_voteOf 42 = .ok (.istore 6, 2) := by decide +kernel
theorem dX11_voteOf_44 : decode cX11_voteOf 44 = .ok (.iload 6, 2) := by decide +kernel
theorem dX11_voteOf_46 : decode cX11_voteOf 46 = .ok (.iload 4, 2) := by decide +kernel
theorem dX11_voteOf_48 : decode cX11_voteOf 48 = .ok (.if_icmp .le 8, 3) := by decide +kernel
theorem dX11_voteOf_51 : decode cX11_voteOf 51 = .ok (.iload 5, 2) := by decide +kernel
theorem dX11_voteOf_53 : decode cX11_voteOf 53 = .ok (.goto 4, 3) := by decide +kernel
theorem dX11_voteOf_56 : decode cX11_voteOf 56 = .ok (.iload_n 3, 1) := by decide +kernel
theorem dX11_voteOf_57 : decode cX11_voteOf 57 = .ok (.istore_n 3, 1) := by decide +kernel
theorem dX11_voteOf_58 : decode cX11_voteOf 58 = .ok (.iload 6, 2) := by decide +kernel
theorem dX11_voteOf_60 : decode cX11_voteOf 60 = .ok (.iload 4, 2) := by decide +kernel
theorem dX11_voteOf_62 : decode cX11_voteOf 62 = .ok (.if_icmp .le 8, 3) := by decide +kernel
theorem dX11_voteOf_65 : decode cX11_voteOf 65 = .ok (.iload 6, 2) := by decide +kernel
theorem dX11_voteOf_67 : decode cX11_voteOf 67 = .ok (.goto 5, 3) := by decide +kernel
theorem dX11_voteOf_70 : decode cX11_voteOf 70 = .ok (.iload 4, 2) := by decide +kernel
theorem dX11_voteOf_72 : decode cX11_voteOf 72 = .ok (.istore 4, 2) := by decide +kernel
theorem dX11_voteOf_74 : decode cX11_voteOf 74 = .ok (.iinc 5 1, 3) := by decide +kernel
theorem dX11_voteOf_77 : decode cX11_voteOf 77 = .ok (.goto (-57), 3) := by decide +kernel
theorem dX11_voteOf_80 : decode cX11_voteOf 80 = .ok (.iload_n 3, 1) := by decide +kernel
theorem dX11_voteOf_81 : decode cX11_voteOf 81 = .ok (.ireturn, 1) := by decide +kernel
theorem dX11_votesFor_0 : decode cX11_votesFor 0 = .ok (.iconst 0, 1) := by decide +kernel
theorem dX11_votesFor_1 : decode cX11_votesFor 1 = .ok (.istore_n 2, 1) := by decide +kernel
theorem dX11_votesFor_2 : decode cX11_votesFor 2 = .ok (.iconst 0, 1) := by decide +kernel
theorem dX11_votesFor_3 : decode cX11_votesFor 3 = .ok (.istore_n 3, 1) := by decide +kernel
theorem dX11_votesFor_4 : decode cX11_votesFor 4 = .ok (.iload_n 3, 1) := by decide +kernel
theorem dX11_votesFor_5 : decode cX11_votesFor 5 = .ok (.aload_n 0, 1) := by decide +kernel
theorem dX11_votesFor_6 : decode cX11_votesFor 6 = .ok (.getfield 106, 3) := by decide +kernel
theorem dX11_votesFor_9 : decode cX11_votesFor 9 = .ok (.if_icmp .ge 26, 3) := by decide +kernel
theorem dX11_votesFor_12 : decode cX11_votesFor 12 = .ok (.iload_n 2, 1) := by decide +kernel
theorem dX11_votesFor_13 : decode cX11_votesFor 13 = .ok (.aload_n 0, 1) := by decide +kernel
theorem dX11_votesFor_14 : decode cX11_votesFor 14 = .ok (.iload_n 3, 1) := by decide +kernel
theorem dX11_votesFor_15 : decode cX11_votesFor 15 = .ok (.invokevirtual 329, 3) := by decide +kernel
theorem dX11_votesFor_18 : decode cX11_votesFor 18 = .ok (.iload_n 1, 1) := by decide +kernel
theorem dX11_votesFor_19 : decode cX11_votesFor 19 = .ok (.if_icmp .ne 7, 3) := by decide +kernel
theorem dX11_votesFor_22 : decode cX11_votesFor 22 = .ok (.iconst 1, 1) := by decide +kernel
theorem dX11_votesFor_23 : decode cX11_votesFor 23 = .ok (.goto 4, 3) := by decide +kernel
theorem dX11_votesFor_26 : decode cX11_votesFor 26 = .ok (.iconst 0, 1) := by decide +kernel
theorem dX11_votesFor_27 : decode cX11_votesFor 27 = .ok (.iadd, 1) := by decide +kernel
theorem dX11_votesFor_28 : decode cX11_votesFor 28 = .ok (.istore_n 2, 1) := by decide +kernel
theorem dX11_votesFor_29 : decode cX11_votesFor 29 = .ok (.iinc 3 1, 3) := by decide +kernel
theorem dX11_votesFor_32 : decode cX11_votesFor 32 = .ok (.goto (-28), 3) := by decide +kernel
theorem dX11_votesFor_35 : decode cX11_votesFor 35 = .ok (.iload_n 2, 1) := by decide +kernel
theorem dX11_votesFor_36 : decode cX11_votesFor 36 = .ok (.ireturn, 1) := by decide +kernel
theorem dX11_vote_0 : decode cX11_vote 0 = .ok (.iload_n 1, 1) := by decide +kernel
theorem dX11_vote_1 : decode cX11_vote 1 = .ok (.i2l, 1) := by decide +kernel
theorem dX11_vote_2 : decode cX11_vote 2 = .ok (.ldc2_w 332, 3) := by decide +kernel
theorem dX11_vote_5 : decode cX11_vote 5 = .ok (.aload_n 0, 1) := by decide +kernel
theorem dX11_vote_6 : decode cX11_vote 6 = .ok (.getfield 203, 3) := by decide +kernel
theorem dX11_vote_9 : decode cX11_vote 9 = .ok (.iconst 1, 1) := by decide +kernel
theorem dX11_vote_10 : decode cX11_vote 10 = .ok (.isub, 1) := by decide +kernel
theorem dX11_vote_11 : decode cX11_vote 11 = .ok (.i2l, 1) := by decide +kernel
theorem dX11_vote_12 : decode cX11_vote 12 = .ok (.invokestatic 102, 3) := by decide +kernel
theorem dX11_vote_15 : decode cX11_vote 15 = .ok (.ifCond .ne 6, 3) := by decide +kernel
theorem dX11_vote_18 : decode cX11_vote 18 = .ok (.ldc 235, 2) := by decide +kernel
theorem dX11_vote_20 : decode cX11_vote 20 = .ok (.ireturn, 1) := by decide +kernel
theorem dX11_vote_21 : decode cX11_vote 21 = .ok (.iload_n 1, 1) := by decide +kernel
theorem dX11_vote_22 : decode cX11_vote 22 = .ok (.ifCond .lt 9, 3) := by decide +kernel
theorem dX11_vote_25 : decode cX11_vote 25 = .ok (.aload_n 0, 1) := by decide +kernel
theorem dX11_vote_26 : decode cX11_vote 26 = .ok (.iload_n 1, 1) := by decide +kernel
theorem dX11_vote_27 : decode cX11_vote 27 = .ok (.invokevirtual 334, 3) := by decide +kernel
theorem dX11_vote_30 : decode cX11_vote 30 = .ok (.ireturn, 1) := by decide +kernel
theorem dX11_vote_31 : decode cX11_vote 31 = .ok (.iconst (-1), 1) := by decide +kernel
theorem dX11_vote_32 : decode cX11_vote 32 = .ok (.istore_n 2, 1) := by decide +kernel
theorem dX11_vote_33 : decode cX11_vote 33 = .ok (.iconst 0, 1) := by decide +kernel
theorem dX11_vote_34 : decode cX11_vote 34 = .ok (.istore_n 3, 1) := by decide +kernel
theorem dX11_vote_35 : decode cX11_vote 35 = .ok (.iconst 0, 1) := by decide +kernel
theorem dX11_vote_36 : decode cX11_vote 36 = .ok (.istore 4, 2) := by decide +kernel
theorem dX11_vote_38 : decode cX11_vote 38 = .ok (.iload 4, 2) := by decide +kernel
theorem dX11_vote_40 : decode cX11_vote 40 = .ok (.aload_n 0, 1) := by decide +kernel
theorem dX11_vote_41 : decode cX11_vote 41 = .ok (.getfield 203, 3) := by decide +kernel
theorem dX11_vote_44 : decode cX11_vote 44 = .ok (.if_icmp .ge 43, 3) := by decide +kernel
theorem dX11_vote_47 : decode cX11_vote 47 = .ok (.aload_n 0, 1) := by decide +kernel
theorem dX11_vote_48 : decode cX11_vote 48 = .ok (.iload 4, 2) := by decide +kernel
theorem dX11_vote_50 : decode cX11_vote 50 = .ok (.invokevirtual 334, 3) := by decide +kernel
theorem dX11_vote_53 : decode cX11_vote 53 = .ok (.istore 5, 2) := by decide +kernel
theorem dX11_vote_55 : decode cX11_vote 55 = .ok (.iload 5, 2) := by decide +kernel
theorem dX11_vote_57 : decode cX11_vote 57 = .ok (.iload_n 3, 1) := by decide +kernel
theorem dX11_vote_58 : decode cX11_vote 58 = .ok (.if_icmp .le 8, 3) := by decide +kernel
theorem dX11_vote_61 : decode cX11_vote 61 = .ok (.iload 4, 2) := by decide +kernel
theorem dX11_vote_63 : decode cX11_vote 63 = .ok (.goto 4, 3) := by decide +kernel
theorem dX11_vote_66 : decode cX11_vote 66 = .ok (.iload_n 2, 1) := by decide +kernel
theorem dX11_vote_67 : decode cX11_vote 67 = .ok (.istore_n 2, 1) := by decide +kernel
theorem dX11_vote_68 : decode cX11_vote 68 = .ok (.iload 5, 2) := by decide +kernel
theorem dX11_vote_70 : decode cX11_vote 70 = .ok (.iload_n 3, 1) := by decide +kernel
theorem dX11_vote_71 : decode cX11_vote 71 = .ok (.if_icmp .le 8, 3) := by decide +kernel
theorem dX11_vote_74 : decode cX11_vote 74 = .ok (.iload 5, 2) := by decide +kernel
theorem dX11_vote_76 : decode cX11_vote 76 = .ok (.goto 4, 3) := by decide +kernel
theorem dX11_vote_79 : decode cX11_vote 79 = .ok (.iload_n 3, 1) := by decide +kernel
theorem dX11_vote_80 : decode cX11_vote 80 = .ok (.istore_n 3, 1) := by decide +kernel
theorem dX11_vote_81 : decode cX11_vote 81 = .ok (.iinc 4 1, 3) := by decide +kernel
theorem dX11_vote_84 : decode cX11_vote 84 = .ok (.goto (-46), 3) := by decide +kernel
theorem dX11_vote_87 : decode cX11_vote 87 = .ok (.iload_n 2, 1) := by decide +kernel
theorem dX11_vote_88 : decode cX11_vote 88 = .ok (.ireturn, 1) := by decide +kernel
theorem dX11_bestWord_0 : decode cX11_bestWord 0 = .ok (.iconst (-1), 1) := by decide +kernel
theorem dX11_bestWord_1 : decode cX11_bestWord 1 = .ok (.istore_n 1, 1) := by decide +kernel
theorem dX11_bestWord_2 : decode cX11_bestWord 2 = .ok (.iconst (-1), 1) := by decide +kernel
theorem dX11_bestWord_3 : decode cX11_bestWord 3 = .ok (.istore_n 2, 1) := by decide +kernel
theorem dX11_bestWord_4 : decode cX11_bestWord 4 = .ok (.iconst 0, 1) := by decide +kernel
theorem dX11_bestWord_5 : decode cX11_bestWord 5 = .ok (.istore_n 3, 1) := by decide +kernel
theorem dX11_bestWord_6 : decode cX11_bestWord 6 = .ok (.iload_n 3, 1) := by decide +kernel
theorem dX11_bestWord_7 : decode cX11_bestWord 7 = .ok (.aload_n 0, 1) := by decide +kernel
theorem dX11_bestWord_8 : decode cX11_bestWord 8 = .ok (.getfield 203, 3) := by decide +kernel
theorem dX11_bestWord_11 : decode cX11_bestWord 11 = .ok (.if_icmp .ge 52, 3) := by decide +kernel
theorem dX11_bestWord_14 : decode cX11_bestWord 14 = .ok (.aload_n 0, 1) := by decide +kernel
theorem dX11_bestWord_15 : decode cX11_bestWord 15 = .ok (.aload_n 0, 1) := by decide +kernel
theorem dX11_bestWord_16 : decode cX11_bestWord 16 = .ok (.getfield 36, 3) := by decide +kernel
theorem dX11_bestWord_19 : decode cX11_bestWord 19 = .ok (.iload_n 3, 1) := by decide +kernel
theorem dX11_bestWord_20 : decode cX11_bestWord 20 = .ok (.iaload, 1) := by decide +kernel
theorem dX11_bestWord_21 : decode cX11_bestWord 21 = .ok (.aload_n 0, 1) := by decide +kernel
theorem dX11_bestWord_22 : decode cX11_bestWord 22 = .ok (.iconst 0, 1) := by decide +kernel
theorem dX11_bestWord_23 : decode cX11_bestWord 23 = .ok (.invokevirtual 222, 3) := by decide +kernel
theorem dX11_bestWord_26 : decode cX11_bestWord 26 = .ok (.iand, 1) := by decide +kernel
theorem dX11_bestWord_27 : decode cX11_bestWord 27 = .ok (.invokevirtual 225, 3) := by decide +kernel
theorem dX11_bestWord_30 : decode cX11_bestWord 30 = .ok (.istore 4, 2) := by decide +kernel
theorem dX11_bestWord_32 : decode cX11_bestWord 32 = .ok (.iload 4, 2) := by decide +kernel
theorem dX11_bestWord_34 : decode cX11_bestWord 34 = .ok (.iload_n 2, 1) := by decide +kernel
theorem dX11_bestWord_35 : decode cX11_bestWord 35 = .ok (.if_icmp .le 7, 3) := by decide +kernel
theorem dX11_bestWord_38 : decode cX11_bestWord 38 = .ok (.iload_n 3, 1) := by decide +kernel
theorem dX11_bestWord_39 : decode cX11_bestWord 39 = .ok (.goto 4, 3) := by decide +kernel
theorem dX11_bestWord_42 : decode cX11_bestWord 42 = .ok (.iload_n 1, 1) := by decide +kernel
theorem dX11_bestWord_43 : decode cX11_bestWord 43 = .ok (.istore_n 1, 1) := by decide +kernel
theorem dX11_bestWord_44 : decode cX11_bestWord 44 = .ok (.iload 4, 2) := by decide +kernel
theorem dX11_bestWord_46 : decode cX11_bestWord 46 = .ok (.iload_n 2, 1) := by decide +kernel
theorem dX11_bestWord_47 : decode cX11_bestWord 47 = .ok (.if_icmp .le 8, 3) := by decide +kernel
theorem dX11_bestWord_50 : decode cX11_bestWord 50 = .ok (.iload 4, 2) := by decide +kernel
theorem dX11_bestWord_52 : decode cX11_bestWord 52 = .ok (.goto 4, 3) := by decide +kernel
theorem dX11_bestWord_55 : decode cX11_bestWord 55 = .ok (.iload_n 2, 1) := by decide +kernel
theorem dX11_bestWord_56 : decode cX11_bestWord 56 = .ok (.istore_n 2, 1) := by decide +kernel
theorem dX11_bestWord_57 : decode cX11_bestWord 57 = .ok (.iinc 3 1, 3) := by decide +kernel
theorem dX11_bestWord_60 : decode cX11_bestWord 60 = .ok (.goto (-54), 3) := by decide +kernel
theorem dX11_bestWord_63 : decode cX11_bestWord 63 = .ok (.iload_n 1, 1) := by decide +kernel
theorem dX11_bestWord_64 : decode cX11_bestWord 64 = .ok (.ireturn, 1) := by decide +kernel
theorem dX11_tell_0 : decode cX11_tell 0 = .ok (.aload_n 0, 1) := by decide +kernel
theorem dX11_tell_1 : decode cX11_tell 1 = .ok (.iload_n 1, 1) := by decide +kernel
theorem dX11_tell_2 : decode cX11_tell 2 = .ok (.invokevirtual 239, 3) := by decide +kernel
theorem dX11_tell_5 : decode cX11_tell 5 = .ok (.ifCond .ne 6, 3) := by decide +kernel
theorem dX11_tell_8 : decode cX11_tell 8 = .ok (.ldc 235, 2) := by decide +kernel
theorem dX11_tell_10 : decode cX11_tell 10 = .ok (.ireturn, 1) := by decide +kernel
theorem dX11_tell_11 : decode cX11_tell 11 = .ok (.iload_n 2, 1) := by decide +kernel
theorem dX11_tell_12 : decode cX11_tell 12 = .ok (.i2l, 1) := by decide +kernel
theorem dX11_tell_13 : decode cX11_tell 13 = .ok (.lconst 1, 1) := by decide +kernel
theorem dX11_tell_14 : decode cX11_tell 14 = .ok (.ldc2_w 257, 3) := by decide +kernel
theorem dX11_tell_17 : decode cX11_tell 17 = .ok (.invokestatic 102, 3) := by decide +kernel
theorem dX11_tell_20 : decode cX11_tell 20 = .ok (.ifCond .ne 6, 3) := by decide +kernel
theorem dX11_tell_23 : decode cX11_tell 23 = .ok (.ldc 114, 2) := by decide +kernel
theorem dX11_tell_25 : decode cX11_tell 25 = .ok (.ireturn, 1) := by decide +kernel
theorem dX11_tell_26 : decode cX11_tell 26 = .ok (.aload_n 0, 1) := by decide +kernel
theorem dX11_tell_27 : decode cX11_tell 27 = .ok (.getfield 209, 3) := by decide +kernel
theorem dX11_tell_30 : decode cX11_tell 30 = .ok (.bipush 6, 2) := by decide +kernel
theorem dX11_tell_32 : decode cX11_tell 32 = .ok (.if_icmp .ne 6, 3) := by decide +kernel
theorem dX11_tell_35 : decode cX11_tell 35 = .ok (.ldc 118, 2) := by decide +kernel
theorem dX11_tell_37 : decode cX11_tell 37 = .ok (.ireturn, 1) := by decide +kernel
theorem dX11_tell_38 : decode cX11_tell 38 = .ok (.aload_n 0, 1) := by decide +kernel
theorem dX11_tell_39 : decode cX11_tell 39 = .ok (.getfield 42, 3) := by decide +kernel
theorem dX11_tell_42 : decode cX11_tell 42 = .ok (.iconst 2, 1) := by decide +kernel
theorem dX11_tell_43 : decode cX11_tell 43 = .ok (.aload_n 0, 1) := by decide +kernel
theorem dX11_tell_44 : decode cX11_tell 44 = .ok (.getfield 209, 3) := by decide +kernel
theorem dX11_tell_47 : decode cX11_tell 47 = .ok (.imul, 1) := by decide +kernel
theorem dX11_tell_48 : decode cX11_tell 48 = .ok (.iload_n 1, 1) := by decide +kernel
theorem dX11_tell_49 : decode cX11_tell 49 = .ok (.iastore, 1) := by decide +kernel
theorem dX11_tell_50 : decode cX11_tell 50 = .ok (.aload_n 0, 1) := by decide +kernel
theorem dX11_tell_51 : decode cX11_tell 51 = .ok (.getfield 42, 3) := by decide +kernel
theorem dX11_tell_54 : decode cX11_tell 54 = .ok (.iconst 2, 1) := by decide +kernel
theorem dX11_tell_55 : decode cX11_tell 55 = .ok (.aload_n 0, 1) := by decide +kernel
theorem dX11_tell_56 : decode cX11_tell 56 = .ok (.getfield 209, 3) := by decide +kernel
theorem dX11_tell_59 : decode cX11_tell 59 = .ok (.imul, 1) := by decide +kernel
theorem dX11_tell_60 : decode cX11_tell 60 = .ok (.iconst 1, 1) := by decide +kernel
theorem dX11_tell_61 : decode cX11_tell 61 = .ok (.iadd, 1) := by decide +kernel
theorem dX11_tell_62 : decode cX11_tell 62 = .ok (.iload_n 2, 1) := by decide +kernel
theorem dX11_tell_63 : decode cX11_tell 63 = .ok (.iastore, 1) := by decide +kernel
theorem dX11_tell_64 : decode cX11_tell 64 = .ok (.aload_n 0, 1) := by decide +kernel
theorem dX11_tell_65 : decode cX11_tell 65 = .ok (.dup, 1) := by decide +kernel
theorem dX11_tell_66 : decode cX11_tell 66 = .ok (.getfield 209, 3) := by decide +kernel
theorem dX11_tell_69 : decode cX11_tell 69 = .ok (.iconst 1, 1) := by decide +kernel
theorem dX11_tell_70 : decode cX11_tell 70 = .ok (.iadd, 1) := by decide +kernel
theorem dX11_tell_71 : decode cX11_tell 71 = .ok (.putfield 209, 3) := by decide +kernel
theorem dX11_tell_74 : decode cX11_tell 74 = .ok (.aload_n 0, 1) := by decide +kernel
theorem dX11_tell_75 : decode cX11_tell 75 = .ok (.getfield 209, 3) := by decide +kernel
theorem dX11_tell_78 : decode cX11_tell 78 = .ok (.ireturn, 1) := by decide +kernel
theorem dX11_isDay_0 : decode cX11_isDay 0 = .ok (.iconst 0, 1) := by decide +kernel
theorem dX11_isDay_1 : decode cX11_isDay 1 = .ok (.istore_n 2, 1) := by decide +kernel
theorem dX11_isDay_2 : decode cX11_isDay 2 = .ok (.aload_n 0, 1) := by decide +kernel
theorem dX11_isDay_3 : decode cX11_isDay 3 = .ok (.getfield 200, 3) := by decide +kernel
theorem dX11_isDay_6 : decode cX11_isDay 6 = .ok (.istore_n 3, 1) := by decide +kernel
theorem dX11_isDay_7 : decode cX11_isDay 7 = .ok (.iconst 0, 1) := by decide +kernel
theorem dX11_isDay_8 : decode cX11_isDay 8 = .ok (.istore 4, 2) := by decide +kernel
theorem dX11_isDay_10 : decode cX11_isDay 10 = .ok (.iload 4, 2) := by decide +kernel
theorem dX11_isDay_12 : decode cX11_isDay 12 = .ok (.bipush 6, 2) := by decide +kernel
theorem dX11_isDay_14 : decode cX11_isDay 14 = .ok (.if_icmp .ge 17, 3) := by decide +kernel
theorem dX11_isDay_17 : decode cX11_isDay 17 = .ok (.aload_n 0, 1) := by decide +kernel
theorem dX11_isDay_18 : decode cX11_isDay 18 = .ok (.getfield 90, 3) := by decide +kernel
theorem dX11_isDay_21 : decode cX11_isDay 21 = .ok (.iload 4, 2) := by decide +kernel
theorem dX11_isDay_23 : decode cX11_isDay 23 = .ok (.iconst (-1), 1) := by decide +kernel
theorem dX11_isDay_24 : decode cX11_isDay 24 = .ok (.iastore, 1) := by decide +kernel
theorem dX11_isDay_25 : decode cX11_isDay 25 = .ok (.iinc 4 1, 3) := by decide +kernel
theorem dX11_isDay_28 : decode cX11_isDay 28 = .ok (.goto (-18), 3) := by decide +kernel
theorem dX11_isDay_31 : decode cX11_isDay 31 = .ok (.iconst 0, 1) := by decide +kernel
theorem dX11_isDay_32 : decode cX11_isDay 32 = .ok (.istore 4, 2) := by decide +kernel
theorem dX11_isDay_34 : decode cX11_isDay 34 = .ok (.iload 4, 2) := by decide +kernel
theorem dX11_isDay_36 : decode cX11_isDay 36 = .ok (.iload_n 1, 1) := by decide +kernel
theorem dX11_isDay_37 : decode cX11_isDay 37 = .ok (.if_icmp .ge 64, 3) := by decide +kernel
theorem dX11_isDay_40 : decode cX11_isDay 40 = .ok (.aload_n 0, 1) := by decide +kernel
theorem dX11_isDay_41 : decode cX11_isDay 41 = .ok (.getfield 87, 3) := by decide +kernel
theorem dX11_isDay_44 : decode cX11_isDay 44 = .ok (.iload 4, 2) := by decide +kernel
theorem dX11_isDay_46 : decode cX11_isDay 46 = .ok (.iload_n 2, 1) := by decide +kernel
theorem dX11_isDay_47 : decode cX11_isDay 47 = .ok (.iastore, 1) := by decide +kernel
theorem dX11_isDay_48 : decode cX11_isDay 48 = .ok (.aload_n 0, 1) := by decide +kernel
theorem dX11_isDay_49 : decode cX11_isDay 49 = .ok (.iload_n 2, 1) := by decide +kernel
theorem dX11_isDay_50 : decode cX11_isDay 50 = .ok (.iload_n 3, 1) := by decide +kernel
theorem dX11_isDay_51 : decode cX11_isDay 51 = .ok (.aload_n 0, 1) := by decide +kernel
theorem dX11_isDay_52 : decode cX11_isDay 52 = .ok (.getfield 66, 3) := by decide +kernel
theorem dX11_isDay_55 : decode cX11_isDay 55 = .ok (.iload 4, 2) := by decide +kernel
theorem dX11_isDay_57 : decode cX11_isDay 57 = .ok (.iaload, 1) := by decide +kernel
theorem dX11_isDay_58 : decode cX11_isDay 58 = .ok (.invokevirtual 274, 3) := by decide +kernel
theorem dX11_isDay_61 : decode cX11_isDay 61 = .ok (.istore_n 2, 1) := by decide +kernel
theorem dX11_isDay_62 : decode cX11_isDay 62 = .ok (.iload_n 2, 1) := by decide +kernel
theorem dX11_isDay_63 : decode cX11_isDay 63 = .ok (.ldc 135, 2) := by decide +kernel
theorem dX11_isDay_65 : decode cX11_isDay 65 = .ok (.if_icmp .lt 5, 3) := by decide +kernel
theorem dX11_isDay_68 : decode cX11_isDay 68 = .ok (.iconst 0, 1) := by decide +kernel
theorem dX11_isDay_69 : decode cX11_isDay 69 = .ok (.ireturn, 1) := by decide +kernel
theorem dX11_isDay_70 : decode cX11_isDay 70 = .ok (.aload_n 0, 1) := by decide +kernel
theorem dX11_isDay_71 : decode cX11_isDay 71 = .ok (.getfield 90, 3) := by decide +kernel
theorem dX11_isDay_74 : decode cX11_isDay 74 = .ok (.aload_n 0, 1) := by decide +kernel
theorem dX11_isDay_75 : decode cX11_isDay 75 = .ok (.getfield 66, 3) := by decide +kernel
theorem dX11_isDay_78 : decode cX11_isDay 78 = .ok (.iload 4, 2) := by decide +kernel
theorem dX11_isDay_80 : decode cX11_isDay 80 = .ok (.iaload, 1) := by decide +kernel
theorem dX11_isDay_81 : decode cX11_isDay 81 = .ok (.iload_n 2, 1) := by decide +kernel
theorem dX11_isDay_82 : decode cX11_isDay 82 = .ok (.iastore, 1) := by decide +kernel
theorem dX11_isDay_83 : decode cX11_isDay 83 = .ok (.aload_n 0, 1) := by decide +kernel
theorem dX11_isDay_84 : decode cX11_isDay 84 = .ok (.aload_n 0, 1) := by decide +kernel
theorem dX11_isDay_85 : decode cX11_isDay 85 = .ok (.getfield 66, 3) := by decide +kernel
theorem dX11_isDay_88 : decode cX11_isDay 88 = .ok (.iload 4, 2) := by decide +kernel
theorem dX11_isDay_90 : decode cX11_isDay 90 = .ok (.iaload, 1) := by decide +kernel
theorem dX11_isDay_91 : decode cX11_isDay 91 = .ok (.invokevirtual 271, 3) := by decide +kernel
theorem dX11_isDay_94 : decode cX11_isDay 94 = .ok (.istore_n 3, 1) := by decide +kernel
theorem dX11_isDay_95 : decode cX11_isDay 95 = .ok (.iinc 4 1, 3) := by decide +kernel
theorem dX11_isDay_98 : decode cX11_isDay 98 = .ok (.goto (-64), 3) := by decide +kernel
theorem dX11_isDay_101 : decode cX11_isDay 101 = .ok (.iconst 1, 1) := by decide +kernel
theorem dX11_isDay_102 : decode cX11_isDay 102 = .ok (.istore 4, 2) := by decide +kernel
theorem dX11_isDay_104 : decode cX11_isDay 104 = .ok (.iconst 0, 1) := by decide +kernel
theorem dX11_isDay_105 : decode cX11_isDay 105 = .ok (.istore 5, 2) := by decide +kernel
theorem dX11_isDay_107 : decode cX11_isDay 107 = .ok (.iload 5, 2) := by decide +kernel
theorem dX11_isDay_109 : decode cX11_isDay 109 = .ok (.aload_n 0, 1) := by decide +kernel
theorem dX11_isDay_110 : decode cX11_isDay 110 = .ok (.getfield 209, 3) := by decide +kernel
theorem dX11_isDay_113 : decode cX11_isDay 113 = .ok (.if_icmp .ge 49, 3) := by decide +kernel
theorem dX11_isDay_116 : decode cX11_isDay 116 = .ok (.iload 4, 2) := by decide +kernel
theorem dX11_isDay_118 : decode cX11_isDay 118 = .ok (.ifCond .eq 35, 3) := by decide +kernel
theorem dX11_isDay_121 : decode cX11_isDay 121 = .ok (.aload_n 0, 1) := by decide +kernel
theorem dX11_isDay_122 : decode cX11_isDay 122 = .ok (.getfield 90, 3) := by decide +kernel
theorem dX11_isDay_125 : decode cX11_isDay 125 = .ok (.aload_n 0, 1) := by decide +kernel
theorem dX11_isDay_126 : decode cX11_isDay 126 = .ok (.getfield 42, 3) := by decide +kernel
theorem dX11_isDay_129 : decode cX11_isDay 129 = .ok (.iconst 2, 1) := by decide +kernel
theorem dX11_isDay_130 : decode cX11_isDay 130 = .ok (.iload 5, 2) := by decide +kernel
theorem dX11_isDay_132 : decode cX11_isDay 132 = .ok (.imul, 1) := by decide +kernel
theorem dX11_isDay_133 : decode cX11_isDay 133 = .ok (.iaload, 1) := by decide +kernel
theorem dX11_isDay_134 : decode cX11_isDay 134 = .ok (.iaload, 1) := by decide +kernel
theorem dX11_isDay_135 : decode cX11_isDay 135 = .ok (.aload_n 0, 1) := by decide +kernel
theorem dX11_isDay_136 : decode cX11_isDay 136 = .ok (.getfield 42, 3) := by decide +kernel
theorem dX11_isDay_139 : decode cX11_isDay 139 = .ok (.iconst 2, 1) := by decide +kernel
theorem dX11_isDay_140 : decode cX11_isDay 140 = .ok (.iload 5, 2) := by decide +kernel
theorem dX11_isDay_142 : decode cX11_isDay 142 = .ok (.imul, 1) := by decide +kernel
theorem dX11_isDay_143 : decode cX11_isDay 143 = .ok (.iconst 1, 1) := by decide +kernel
theorem dX11_isDay_144 : decode cX11_isDay 144 = .ok (.iadd, 1) := by decide +kernel
theorem dX11_isDay_145 : decode cX11_isDay 145 = .ok (.iaload, 1) := by decide +kernel
theorem dX11_isDay_146 : decode cX11_isDay 146 = .ok (.if_icmp .ne 7, 3) := by decide +kernel
theorem dX11_isDay_149 : decode cX11_isDay 149 = .ok (.iconst 1, 1) := by decide +kernel
theorem dX11_isDay_150 : decode cX11_isDay 150 = .ok (.goto 4, 3) := by decide +kernel
theorem dX11_isDay_153 : decode cX11_isDay 153 = .ok (.iconst 0, 1) := by decide +kernel
theorem dX11_isDay_154 : decode cX11_isDay 154 = .ok (.istore 4, 2) := by decide +kernel
theorem dX11_isDay_156 : decode cX11_isDay 156 = .ok (.iinc 5 1, 3) := by decide +kernel
theorem dX11_isDay_159 : decode cX11_isDay 159 = .ok (.goto (-52), 3) := by decide +kernel
theorem dX11_isDay_162 : decode cX11_isDay 162 = .ok (.iload 4, 2) := by decide +kernel
theorem dX11_isDay_164 : decode cX11_isDay 164 = .ok (.ireturn, 1) := by decide +kernel
theorem dX11_findDays_0 : decode cX11_findDays 0 = .ok (.iconst 0, 1) := by decide +kernel
theorem dX11_findDays_1 : decode cX11_findDays 1 = .ok (.istore_n 2, 1) := by decide +kernel
theorem dX11_findDays_2 : decode cX11_findDays 2 = .ok (.aload_n 0, 1) := by decide +kernel
theorem dX11_findDays_3 : decode cX11_findDays 3 = .ok (.iconst 0, 1) := by decide +kernel
theorem dX11_findDays_4 : decode cX11_findDays 4 = .ok (.putfield 337, 3) := by decide +kernel
theorem dX11_findDays_7 : decode cX11_findDays 7 = .ok (.iconst 1, 1) := by decide +kernel
theorem dX11_findDays_8 : decode cX11_findDays 8 = .ok (.istore_n 3, 1) := by decide +kernel
theorem dX11_findDays_9 : decode cX11_findDays 9 = .ok (.iconst 0, 1) := by decide +kernel
theorem dX11_findDays_10 : decode cX11_findDays 10 = .ok (.istore 4, 2) := by decide +kernel
theorem dX11_findDays_12 : decode cX11_findDays 12 = .ok (.iload 4, 2) := by decide +kernel
theorem dX11_findDays_14 : decode cX11_findDays 14 = .ok (.aload_n 0, 1) := by decide +kernel
theorem dX11_findDays_15 : decode cX11_findDays 15 = .ok (.getfield 109, 3) := by decide +kernel
theorem dX11_findDays_18 : decode cX11_findDays 18 = .ok (.if_icmp .gt 116, 3) := by decide +kernel
theorem dX11_findDays_21 : decode cX11_findDays 21 = .ok (.iconst 0, 1) := by decide +kernel
theorem dX11_findDays_22 : decode cX11_findDays 22 = .ok (.istore 5, 2) := by decide +kernel
theorem dX11_findDays_24 : decode cX11_findDays 24 = .ok (.iload 5, 2) := by decide +kernel
theorem dX11_findDays_26 : decode cX11_findDays 26 = .ok (.iload_n 3, 1) := by decide +kernel
theorem dX11_findDays_27 : decode cX11_findDays 27 = .ok (.if_icmp .ge 96, 3) := by decide +kernel
theorem dX11_findDays_30 : decode cX11_findDays 30 = .ok (.aload_n 0, 1) := by decide +kernel
theorem dX11_findDays_31 : decode cX11_findDays 31 = .ok (.iload 5, 2) := by decide +kernel
theorem dX11_findDays_33 : decode cX11_findDays 33 = .ok (.iload 4, 2) := by decide +kernel
theorem dX11_findDays_35 : decode cX11_findDays 35 = .ok (.invokevirtual 278, 3) := by decide +kernel
theorem dX11_findDays_38 : decode cX11_findDays 38 = .ok (.ifCond .lt 79, 3) := by decide +kernel
theorem dX11_findDays_41 : decode cX11_findDays 41 = .ok (.aload_n 0, 1) := by decide +kernel
theorem dX11_findDays_42 : decode cX11_findDays 42 = .ok (.iload 4, 2) := by decide +kernel
theorem dX11_findDays_44 : decode cX11_findDays 44 = .ok (.invokevirtual 340, 3) := by decide +kernel
theorem dX11_findDays_47 : decode cX11_findDays 47 = .ok (.ifCond .eq 70, 3) := by decide +kernel
theorem dX11_findDays_50 : decode cX11_findDays 50 = .ok (.iinc 2 1, 3) := by decide +kernel
theorem dX11_findDays_53 : decode cX11_findDays 53 = .ok (.aload_n 0, 1) := by decide +kernel
theorem dX11_findDays_54 : decode cX11_findDays 54 = .ok (.getfield 200, 3) := by decide +kernel
theorem dX11_findDays_57 : decode cX11_findDays 57 = .ok (.istore 6, 2) := by decide +kernel
theorem dX11_findDays_59 : decode cX11_findDays 59 = .ok (.iconst 0, 1) := by decide +kernel
theorem dX11_findDays_60 : decode cX11_findDays 60 = .ok (.istore 7, 2) := by decide +kernel
theorem dX11_findDays_62 : decode cX11_findDays 62 = .ok (.iload 7, 2) := by decide +kernel
theorem dX11_findDays_64 : decode cX11_findDays 64 = .ok (.iload 4, 2) := by decide +kernel
theorem dX11_findDays_66 : decode cX11_findDays 66 = .ok (.if_icmp .ge 38, 3) := by decide +kernel
theorem dX11_findDays_69 : decode cX11_findDays 69 = .ok (.aload_n 0, 1) := by decide +kernel
theorem dX11_findDays_70 : decode cX11_findDays 70 = .ok (.getfield 87, 3) := by decide +kernel
theorem dX11_findDays_73 : decode cX11_findDays 73 = .ok (.iload 7, 2) := by decide +kernel
theorem dX11_findDays_75 : decode cX11_findDays 75 = .ok (.iaload, 1) := by decide +kernel
theorem dX11_findDays_76 : decode cX11_findDays 76 = .ok (.iload_n 1, 1) := by decide +kernel
theorem dX11_findDays_77 : decode cX11_findDays 77 = .ok (.if_icmp .gt 17, 3) := by decide +kernel
theorem dX11_findDays_80 : decode cX11_findDays 80 = .ok (.aload_n 0, 1) := by decide +kernel
theorem dX11_findDays_81 : decode cX11_findDays 81 = .ok (.aload_n 0, 1) := by decide +kernel
theorem dX11_findDays_82 : decode cX11_findDays 82 = .ok (.getfield 66, 3) := by decide +kernel
theorem dX11_findDays_85 : decode cX11_findDays 85 = .ok (.iload 7, 2) := by decide +kernel
theorem dX11_findDays_87 : decode cX11_findDays 87 = .ok (.iaload, 1) := by decide +kernel
theorem dX11_findDays_88 : decode cX11_findDays 88 = .ok (.invokevirtual 271, 3) := by decide +kernel
theorem dX11_findDays_91 : decode cX11_findDays 91 = .ok (.goto 5, 3) := by decide +kernel
theorem dX11_findDays_94 : decode cX11_findDays 94 = .ok (.iload 6, 2) := by decide +kernel
theorem dX11_findDays_96 : decode cX11_findDays 96 = .ok (.istore 6, 2) := by decide +kernel
theorem dX11_findDays_98 : decode cX11_findDays 98 = .ok (.iinc 7 1, 3) := by decide +kernel
theorem dX11_findDays_101 : decode cX11_findDays 101 = .ok (.goto (-39), 3) := by decide +kernel
theorem dX11_findDays_104 : decode cX11_findDays 104 = .ok (.aload_n 0, 1) := by decide +kernel
theorem dX11_findDays_105 : decode cX11_findDays 105 = .ok (.dup, 1) := by decide +kernel
theorem dX11_findDays_106 : decode cX11_findDays 106 = .ok (.getfield 337, 3) := by decide +kernel
theorem dX11_findDays_109 : decode cX11_findDays 109 = .ok (.iconst 1, 1) := by decide +kernel
theorem dX11_findDays_110 : decode cX11_findDays 110 = .ok (.iload 6, 2) := by decide +kernel
theorem dX11_findDays_112 : decode cX11_findDays 112 = .ok (.ishl, 1) := by decide +kernel
theorem dX11_findDays_113 : decode cX11_findDays 113 = .ok (.ior, 1) := by decide +kernel
theorem dX11_findDays_114 : decode cX11_findDays 114 = .ok (.putfield 337, 3) := by decide +kernel
theorem dX11_findDays_117 : decode cX11_findDays 117 = .ok (.iinc 5 1, 3) := by decide +kernel
theorem dX11_findDays_120 : decode cX11_findDays 120 = .ok (.goto (-96), 3) := by decide +kernel
theorem dX11_findDays_123 : decode cX11_findDays 123 = .ok (.iload_n 3, 1) := by decide +kernel
theorem dX11_findDays_124 : decode cX11_findDays 124 = .ok (.bipush 6, 2) := by decide +kernel
theorem dX11_findDays_126 : decode cX11_findDays 126 = .ok (.imul, 1) := by decide +kernel
theorem dX11_findDays_127 : decode cX11_findDays 127 = .ok (.istore_n 3, 1) := by decide +kernel
theorem dX11_findDays_128 : decode cX11_findDays 128 = .ok (.iinc 4 1, 3) := by decide +kernel
theorem dX11_findDays_131 : decode cX11_findDays 131 = .ok (.goto (-119), 3) := by decide +kernel
theorem dX11_findDays_134 : decode cX11_findDays 134 = .ok (.iload_n 2, 1) := by decide +kernel
theorem dX11_findDays_135 : decode cX11_findDays 135 = .ok (.ireturn, 1) := by decide +kernel
theorem dX11_days_0 : decode cX11_days 0 = .ok (.aload_n 0, 1) := by decide +kernel
theorem dX11_days_1 : decode cX11_days 1 = .ok (.getfield 99, 3) := by decide +kernel
theorem dX11_days_4 : decode cX11_days 4 = .ok (.ifCond .ne 7, 3) := by decide +kernel
theorem dX11_days_7 : decode cX11_days 7 = .ok (.iconst 0, 1) := by decide +kernel
theorem dX11_days_8 : decode cX11_days 8 = .ok (.goto 8, 3) := by decide +kernel
theorem dX11_days_11 : decode cX11_days 11 = .ok (.aload_n 0, 1) := by decide +kernel
theorem dX11_days_12 : decode cX11_days 12 = .ok (.iconst 0, 1) := by decide +kernel
theorem dX11_days_13 : decode cX11_days 13 = .ok (.invokevirtual 343, 3) := by decide +kernel
theorem dX11_days_16 : decode cX11_days 16 = .ok (.ireturn, 1) := by decide +kernel
theorem dX11_where_0 : decode cX11_where 0 = .ok (.iload_n 1, 1) := by decide +kernel
theorem dX11_where_1 : decode cX11_where 1 = .ok (.i2l, 1) := by decide +kernel
theorem dX11_where_2 : decode cX11_where 2 = .ok (.lconst 0, 1) := by decide +kernel
theorem dX11_where_3 : decode cX11_where 3 = .ok (.ldc2_w 257, 3) := by decide +kernel
theorem dX11_where_6 : decode cX11_where 6 = .ok (.invokestatic 102, 3) := by decide +kernel
theorem dX11_where_9 : decode cX11_where 9 = .ok (.ifCond .ne 6, 3) := by decide +kernel
theorem dX11_where_12 : decode cX11_where 12 = .ok (.ldc 114, 2) := by decide +kernel
theorem dX11_where_14 : decode cX11_where 14 = .ok (.ireturn, 1) := by decide +kernel
theorem dX11_where_15 : decode cX11_where 15 = .ok (.aload_n 0, 1) := by decide +kernel
theorem dX11_where_16 : decode cX11_where 16 = .ok (.iload_n 1, 1) := by decide +kernel
theorem dX11_where_17 : decode cX11_where 17 = .ok (.invokevirtual 343, 3) := by decide +kernel
theorem dX11_where_20 : decode cX11_where 20 = .ok (.pop, 1) := by decide +kernel
theorem dX11_where_21 : decode cX11_where 21 = .ok (.aload_n 0, 1) := by decide +kernel
theorem dX11_where_22 : decode cX11_where 22 = .ok (.getfield 99, 3) := by decide +kernel
theorem dX11_where_25 : decode cX11_where 25 = .ok (.ifCond .ne 7, 3) := by decide +kernel
theorem dX11_where_28 : decode cX11_where 28 = .ok (.iconst 0, 1) := by decide +kernel
theorem dX11_where_29 : decode cX11_where 29 = .ok (.goto 7, 3) := by decide +kernel
theorem dX11_where_32 : decode cX11_where 32 = .ok (.aload_n 0, 1) := by decide +kernel
theorem dX11_where_33 : decode cX11_where 33 = .ok (.getfield 337, 3) := by decide +kernel
theorem dX11_where_36 : decode cX11_where 36 = .ok (.ireturn, 1) := by decide +kernel
theorem dX11_write_0 : decode cX11_write 0 = .ok (.aload_n 0, 1) := by decide +kernel
theorem dX11_write_1 : decode cX11_write 1 = .ok (.iload_n 1, 1) := by decide +kernel
theorem dX11_write_2 : decode cX11_write 2 = .ok (.invokevirtual 239, 3) := by decide +kernel
theorem dX11_write_5 : decode cX11_write 5 = .ok (.ifCond .ne 6, 3) := by decide +kernel
theorem dX11_write_8 : decode cX11_write 8 = .ok (.ldc 235, 2) := by decide +kernel
theorem dX11_write_10 : decode cX11_write 10 = .ok (.ireturn, 1) := by decide +kernel
theorem dX11_write_11 : decode cX11_write 11 = .ok (.iload_n 2, 1) := by decide +kernel
theorem dX11_write_12 : decode cX11_write 12 = .ok (.i2l, 1) := by decide +kernel
theorem dX11_write_13 : decode cX11_write 13 = .ok (.lconst 0, 1) := by decide +kernel
theorem dX11_write_14 : decode cX11_write 14 = .ok (.ldc2_w 346, 3) := by decide +kernel
theorem dX11_write_17 : decode cX11_write 17 = .ok (.invokestatic 102, 3) := by decide +kernel
theorem dX11_write_20 : decode cX11_write 20 = .ok (.ifCond .ne 6, 3) := by decide +kernel
theorem dX11_write_23 : decode cX11_write 23 = .ok (.ldc 114, 2) := by decide +kernel
theorem dX11_write_25 : decode cX11_write 25 = .ok (.ireturn, 1) := by decide +kernel
theorem dX11_write_26 : decode cX11_write 26 = .ok (.aload_n 0, 1) := by decide +kernel
theorem dX11_write_27 : decode cX11_write 27 = .ok (.getfield 212, 3) := by decide +kernel
theorem dX11_write_30 : decode cX11_write 30 = .ok (.bipush 15, 2) := by decide +kernel
theorem dX11_write_32 : decode cX11_write 32 = .ok (.if_icmp .ne 6, 3) := by decide +kernel
theorem dX11_write_35 : decode cX11_write 35 = .ok (.ldc 118, 2) := by decide +kernel
theorem dX11_write_37 : decode cX11_write 37 = .ok (.ireturn, 1) := by decide +kernel
theorem dX11_write_38 : decode cX11_write 38 = .ok (.aload_n 0, 1) := by decide +kernel
theorem dX11_write_39 : decode cX11_write 39 = .ok (.getfield 45, 3) := by decide +kernel
theorem dX11_write_42 : decode cX11_write 42 = .ok (.iconst 2, 1) := by decide +kernel
theorem dX11_write_43 : decode cX11_write 43 = .ok (.aload_n 0, 1) := by decide +kernel
theorem dX11_write_44 : decode cX11_write 44 = .ok (.getfield 212, 3) := by decide +kernel
theorem dX11_write_47 : decode cX11_write 47 = .ok (.imul, 1) := by decide +kernel
theorem dX11_write_48 : decode cX11_write 48 = .ok (.iload_n 1, 1) := by decide +kernel
theorem dX11_write_49 : decode cX11_write 49 = .ok (.iastore, 1) := by decide +kernel
theorem dX11_write_50 : decode cX11_write 50 = .ok (.aload_n 0, 1) := by decide +kernel
theorem dX11_write_51 : decode cX11_write 51 = .ok (.getfield 45, 3) := by decide +kernel
theorem dX11_write_54 : decode cX11_write 54 = .ok (.iconst 2, 1) := by decide +kernel
theorem dX11_write_55 : decode cX11_write 55 = .ok (.aload_n 0, 1) := by decide +kernel
theorem dX11_write_56 : decode cX11_write 56 = .ok (.getfield 212, 3) := by decide +kernel
theorem dX11_write_59 : decode cX11_write 59 = .ok (.imul, 1) := by decide +kernel
theorem dX11_write_60 : decode cX11_write 60 = .ok (.iconst 1, 1) := by decide +kernel
theorem dX11_write_61 : decode cX11_write 61 = .ok (.iadd, 1) := by decide +kernel
theorem dX11_write_62 : decode cX11_write 62 = .ok (.iload_n 2, 1) := by decide +kernel
theorem dX11_write_63 : decode cX11_write 63 = .ok (.iastore, 1) := by decide +kernel
theorem dX11_write_64 : decode cX11_write 64 = .ok (.aload_n 0, 1) := by decide +kernel
theorem dX11_write_65 : decode cX11_write 65 = .ok (.dup, 1) := by decide +kernel
theorem dX11_write_66 : decode cX11_write 66 = .ok (.getfield 212, 3) := by decide +kernel
theorem dX11_write_69 : decode cX11_write 69 = .ok (.iconst 1, 1) := by decide +kernel
theorem dX11_write_70 : decode cX11_write 70 = .ok (.iadd, 1) := by decide +kernel
theorem dX11_write_71 : decode cX11_write 71 = .ok (.putfield 212, 3) := by decide +kernel
theorem dX11_write_74 : decode cX11_write 74 = .ok (.aload_n 0, 1) := by decide +kernel
theorem dX11_write_75 : decode cX11_write 75 = .ok (.getfield 212, 3) := by decide +kernel
theorem dX11_write_78 : decode cX11_write 78 = .ok (.ireturn, 1) := by decide +kernel
theorem dX11_judge_0 : decode cX11_judge 0 = .ok (.iconst 0, 1) := by decide +kernel
theorem dX11_judge_1 : decode cX11_judge 1 = .ok (.istore_n 1, 1) := by decide +kernel
theorem dX11_judge_2 : decode cX11_judge 2 = .ok (.iload_n 1, 1) := by decide +kernel
theorem dX11_judge_3 : decode cX11_judge 3 = .ok (.aload_n 0, 1) := by decide +kernel
theorem dX11_judge_4 : decode cX11_judge 4 = .ok (.getfield 212, 3) := by decide +kernel
theorem dX11_judge_7 : decode cX11_judge 7 = .ok (.if_icmp .ge 39, 3) := by decide +kernel
theorem dX11_judge_10 : decode cX11_judge 10 = .ok (.aload_n 0, 1) := by decide +kernel
theorem dX11_judge_11 : decode cX11_judge 11 = .ok (.getfield 39, 3) := by decide +kernel
theorem dX11_judge_14 : decode cX11_judge 14 = .ok (.iconst 4, 1) := by decide +kernel
theorem dX11_judge_15 : decode cX11_judge 15 = .ok (.aload_n 0, 1) := by decide +kernel
theorem dX11_judge_16 : decode cX11_judge 16 = .ok (.getfield 45, 3) := by decide +kernel
theorem dX11_judge_19 : decode cX11_judge 19 = .ok (.iconst 2, 1) := by decide +kernel
theorem dX11_judge_20 : decode cX11_judge 20 = .ok (.iload_n 1, 1) := by decide +kernel
theorem dX11_judge_21 : decode cX11_judge 21 = .ok (.imul, 1) := by decide +kernel
theorem dX11_judge_22 : decode cX11_judge 22 = .ok (.iaload, 1) := by decide +kernel
theorem dX11_judge_23 : decode cX11_judge 23 = .ok (.iadd, 1) := by decide +kernel
theorem dX11_judge_24 : decode cX11_judge 24 = .ok (.iaload, 1) := by decide +kernel
theorem dX11_judge_25 : decode cX11_judge 25 = .ok (.aload_n 0, 1) := by decide +kernel
theorem dX11_judge_26 : decode cX11_judge 26 = .ok (.getfield 45, 3) := by decide +kernel
theorem dX11_judge_29 : decode cX11_judge 29 = .ok (.iconst 2, 1) := by decide +kernel
theorem dX11_judge_30 : decode cX11_judge 30 = .ok (.iload_n 1, 1) := by decide +kernel
theorem dX11_judge_31 : decode cX11_judge 31 = .ok (.imul, 1) := by decide +kernel
theorem dX11_judge_32 : decode cX11_judge 32 = .ok (.iconst 1, 1) := by decide +kernel
theorem dX11_judge_33 : decode cX11_judge 33 = .ok (.iadd, 1) := by decide +kernel
theorem dX11_judge_34 : decode cX11_judge 34 = .ok (.iaload, 1) := by decide +kernel
theorem dX11_judge_35 : decode cX11_judge 35 = .ok (.if_icmp .eq 5, 3) := by decide +kernel
theorem dX11_judge_38 : decode cX11_judge 38 = .ok (.iload_n 1, 1) := by decide +kernel
theorem dX11_judge_39 : decode cX11_judge 39 = .ok (.ireturn, 1) := by decide +kernel
theorem dX11_judge_40 : decode cX11_judge 40 = .ok (.iinc 1 1, 3) := by decide +kernel
theorem dX11_judge_43 : decode cX11_judge 43 = .ok (.goto (-41), 3) := by decide +kernel
theorem dX11_judge_46 : decode cX11_judge 46 = .ok (.iconst (-1), 1) := by decide +kernel
theorem dX11_judge_47 : decode cX11_judge 47 = .ok (.ireturn, 1) := by decide +kernel
theorem dX11_tear_0 : decode cX11_tear 0 = .ok (.aload_n 0, 1) := by decide +kernel
theorem dX11_tear_1 : decode cX11_tear 1 = .ok (.getfield 209, 3) := by decide +kernel
theorem dX11_tear_4 : decode cX11_tear 4 = .ok (.aload_n 0, 1) := by decide +kernel
theorem dX11_tear_5 : decode cX11_tear 5 = .ok (.getfield 212, 3) := by decide +kernel
theorem dX11_tear_8 : decode cX11_tear 8 = .ok (.iadd, 1) := by decide +kernel
theorem dX11_tear_9 : decode cX11_tear 9 = .ok (.istore_n 1, 1) := by decide +kernel
theorem dX11_tear_10 : decode cX11_tear 10 = .ok (.aload_n 0, 1) := by decide +kernel
theorem dX11_tear_11 : decode cX11_tear 11 = .ok (.iconst 0, 1) := by decide +kernel
theorem dX11_tear_12 : decode cX11_tear 12 = .ok (.putfield 209, 3) := by decide +kernel
theorem dX11_tear_15 : decode cX11_tear 15 = .ok (.aload_n 0, 1) := by decide +kernel
theorem dX11_tear_16 : decode cX11_tear 16 = .ok (.iconst 0, 1) := by decide +kernel
theorem dX11_tear_17 : decode cX11_tear 17 = .ok (.putfield 212, 3) := by decide +kernel
theorem dX11_tear_20 : decode cX11_tear 20 = .ok (.iload_n 1, 1) := by decide +kernel
theorem dX11_tear_21 : decode cX11_tear 21 = .ok (.ireturn, 1) := by decide +kernel
theorem dX11_seed_0 : decode cX11_seed 0 = .ok (.iload_n 1, 1) := by decide +kernel
theorem dX11_seed_1 : decode cX11_seed 1 = .ok (.ifCond .ge 6, 3) := by decide +kernel
theorem dX11_seed_4 : decode cX11_seed 4 = .ok (.ldc 114, 2) := by decide +kernel
theorem dX11_seed_6 : decode cX11_seed 6 = .ok (.ireturn, 1) := by decide +kernel
theorem dX11_seed_7 : decode cX11_seed 7 = .ok (.aload_n 0, 1) := by decide +kernel
theorem dX11_seed_8 : decode cX11_seed 8 = .ok (.getfield 39, 3) := by decide +kernel
theorem dX11_seed_11 : decode cX11_seed 11 = .ok (.iconst 3, 1) := by decide +kernel
theorem dX11_seed_12 : decode cX11_seed 12 = .ok (.iaload, 1) := by decide +kernel
theorem dX11_seed_13 : decode cX11_seed 13 = .ok (.istore_n 2, 1) := by decide +kernel
theorem dX11_seed_14 : decode cX11_seed 14 = .ok (.aload_n 0, 1) := by decide +kernel
theorem dX11_seed_15 : decode cX11_seed 15 = .ok (.getfield 39, 3) := by decide +kernel
theorem dX11_seed_18 : decode cX11_seed 18 = .ok (.iconst 3, 1) := by decide +kernel
theorem dX11_seed_19 : decode cX11_seed 19 = .ok (.iload_n 1, 1) := by decide +kernel
theorem dX11_seed_20 : decode cX11_seed 20 = .ok (.iastore, 1) := by decide +kernel
theorem dX11_seed_21 : decode cX11_seed 21 = .ok (.iload_n 2, 1) := by decide +kernel
theorem dX11_seed_22 : decode cX11_seed 22 = .ok (.ireturn, 1) := by decide +kernel
theorem dX11_keep_0 : decode cX11_keep 0 = .ok (.iload_n 1, 1) := by decide +kernel
theorem dX11_keep_1 : decode cX11_keep 1 = .ok (.i2l, 1) := by decide +kernel
theorem dX11_keep_2 : decode cX11_keep 2 = .ok (.lconst 0, 1) := by decide +kernel
theorem dX11_keep_3 : decode cX11_keep 3 = .ok (.lconst 1, 1) := by decide +kernel
theorem dX11_keep_4 : decode cX11_keep 4 = .ok (.invokestatic 102, 3) := by decide +kernel
theorem dX11_keep_7 : decode cX11_keep 7 = .ok (.ifCond .ne 6, 3) := by decide +kernel
theorem dX11_keep_10 : decode cX11_keep 10 = .ok (.ldc 235, 2) := by decide +kernel
theorem dX11_keep_12 : decode cX11_keep 12 = .ok (.ireturn, 1) := by decide +kernel
theorem dX11_keep_13 : decode cX11_keep 13 = .ok (.iconst 0, 1) := by decide +kernel
theorem dX11_keep_14 : decode cX11_keep 14 = .ok (.istore_n 2, 1) := by decide +kernel
theorem dX11_keep_15 : decode cX11_keep 15 = .ok (.iload_n 2, 1) := by decide +kernel
theorem dX11_keep_16 : decode cX11_keep 16 = .ok (.bipush 10, 2) := by decide +kernel
theorem dX11_keep_18 : decode cX11_keep 18 = .ok (.if_icmp .ge 26, 3) := by decide +kernel
theorem dX11_keep_21 : decode cX11_keep 21 = .ok (.aload_n 0, 1) := by decide +kernel
theorem dX11_keep_22 : decode cX11_keep 22 = .ok (.getfield 96, 3) := by decide +kernel
theorem dX11_keep_25 : decode cX11_keep 25 = .ok (.bipush 10, 2) := by decide +kernel
theorem dX11_keep_27 : decode cX11_keep 27 = .ok (.iload_n 1, 1) := by decide +kernel
theorem dX11_keep_28 : decode cX11_keep 28 = .ok (.imul, 1) := by decide +kernel
theorem dX11_keep_29 : decode cX11_keep 29 = .ok (.iload_n 2, 1) := by decide +kernel
theorem dX11_keep_30 : decode cX11_keep 30 = .ok (.iadd, 1) := by decide +kernel
theorem dX11_keep_31 : decode cX11_keep 31 = .ok (.aload_n 0, 1) := by decide +kernel
theorem dX11_keep_32 : decode cX11_keep 32 = .ok (.getfield 39, 3) := by decide +kernel
theorem dX11_keep_35 : decode cX11_keep 35 = .ok (.iload_n 2, 1) := by decide +kernel
theorem dX11_keep_36 : decode cX11_keep 36 = .ok (.iaload, 1) := by decide +kernel
theorem dX11_keep_37 : decode cX11_keep 37 = .ok (.iastore, 1) := by decide +kernel
theorem dX11_keep_38 : decode cX11_keep 38 = .ok (.iinc 2 1, 3) := by decide +kernel
theorem dX11_keep_41 : decode cX11_keep 41 = .ok (.goto (-26), 3) := by decide +kernel
theorem dX11_keep_44 : decode cX11_keep 44 = .ok (.aload_n 0, 1) := by decide +kernel
theorem dX11_keep_45 : decode cX11_keep 45 = .ok (.getfield 93, 3) := by decide +kernel
theorem dX11_keep_48 : decode cX11_keep 48 = .ok (.iload_n 1, 1) := by decide +kernel
theorem dX11_keep_49 : decode cX11_keep 49 = .ok (.iconst 1, 1) := by decide +kernel
theorem dX11_keep_50 : decode cX11_keep 50 = .ok (.bastore, 1) := by decide +kernel
theorem dX11_keep_51 : decode cX11_keep 51 = .ok (.iconst 1, 1) := by decide +kernel
theorem dX11_keep_52 : decode cX11_keep 52 = .ok (.ireturn, 1) := by decide +kernel
theorem dX11_goBack_0 : decode cX11_goBack 0 = .ok (.iload_n 1, 1) := by decide +kernel
theorem dX11_goBack_1 : decode cX11_goBack 1 = .ok (.i2l, 1) := by decide +kernel
theorem dX11_goBack_2 : decode cX11_goBack 2 = .ok (.lconst 0, 1) := by decide +kernel
theorem dX11_goBack_3 : decode cX11_goBack 3 = .ok (.lconst 1, 1) := by decide +kernel
theorem dX11_goBack_4 : decode cX11_goBack 4 = .ok (.invokestatic 102, 3) := by decide +kernel
theorem dX11_goBack_7 : decode cX11_goBack 7 = .ok (.ifCond .ne 6, 3) := by decide +kernel
theorem dX11_goBack_10 : decode cX11_goBack 10 = .ok (.ldc 235, 2) := by decide +kernel
theorem dX11_goBack_12 : decode cX11_goBack 12 = .ok (.ireturn, 1) := by decide +kernel
theorem dX11_goBack_13 : decode cX11_goBack 13 = .ok (.aload_n 0, 1) := by decide +kernel
theorem dX11_goBack_14 : decode cX11_goBack 14 = .ok (.getfield 93, 3) := by decide +kernel
theorem dX11_goBack_17 : decode cX11_goBack 17 = .ok (.iload_n 1, 1) := by decide +kernel
theorem dX11_goBack_18 : decode cX11_goBack 18 = .ok (.baload, 1) := by decide +kernel
theorem dX11_goBack_19 : decode cX11_goBack 19 = .ok (.ifCond .ne 6, 3) := by decide +kernel
theorem dX11_goBack_22 : decode cX11_goBack 22 = .ok (.ldc 247, 2) := by decide +kernel
theorem dX11_goBack_24 : decode cX11_goBack 24 = .ok (.ireturn, 1) := by decide +kernel
theorem dX11_goBack_25 : decode cX11_goBack 25 = .ok (.iconst 0, 1) := by decide +kernel
theorem dX11_goBack_26 : decode cX11_goBack 26 = .ok (.istore_n 2, 1) := by decide +kernel
theorem dX11_goBack_27 : decode cX11_goBack 27 = .ok (.iload_n 2, 1) := by decide +kernel
theorem dX11_goBack_28 : decode cX11_goBack 28 = .ok (.bipush 10, 2) := by decide +kernel
theorem dX11_goBack_30 : decode cX11_goBack 30 = .ok (.if_icmp .ge 26, 3) := by decide +kernel
theorem dX11_goBack_33 : decode cX11_goBack 33 = .ok (.aload_n 0, 1) := by decide +kernel
theorem dX11_goBack_34 : decode cX11_goBack 34 = .ok (.getfield 39, 3) := by decide +kernel
theorem dX11_goBack_37 : decode cX11_goBack 37 = .ok (.iload_n 2, 1) := by decide +kernel
theorem dX11_goBack_38 : decode cX11_goBack 38 = .ok (.aload_n 0, 1) := by decide +kernel
theorem dX11_goBack_39 : decode cX11_goBack 39 = .ok (.getfield 96, 3) := by decide +kernel
theorem dX11_goBack_42 : decode cX11_goBack 42 = .ok (.bipush 10, 2) := by decide +kernel
theorem dX11_goBack_44 : decode cX11_goBack 44 = .ok (.iload_n 1, 1) := by decide +kernel
theorem dX11_goBack_45 : decode cX11_goBack 45 = .ok (.imul, 1) := by decide +kernel
theorem dX11_goBack_46 : decode cX11_goBack 46 = .ok (.iload_n 2, 1) := by decide +kernel
theorem dX11_goBack_47 : decode cX11_goBack 47 = .ok (.iadd, 1) := by decide +kernel
theorem dX11_goBack_48 : decode cX11_goBack 48 = .ok (.iaload, 1) := by decide +kernel
theorem dX11_goBack_49 : decode cX11_goBack 49 = .ok (.iastore, 1) := by decide +kernel
theorem dX11_goBack_50 : decode cX11_goBack 50 = .ok (.iinc 2 1, 3) := by decide +kernel
theorem dX11_goBack_53 : decode cX11_goBack 53 = .ok (.goto (-26), 3) := by decide +kernel
theorem dX11_goBack_56 : decode cX11_goBack 56 = .ok (.iconst 1, 1) := by decide +kernel
theorem dX11_goBack_57 : decode cX11_goBack 57 = .ok (.ireturn, 1) := by decide +kernel
theorem dJ11_isValidCodePoint_9a6ad_0 : decode cJ11_isValidCodePoint_9a6ad 0 = .ok (.iload_n 0, 1) := by decide +kernel
theorem dJ11_isValidCodePoint_9a6ad_1 : decode cJ11_isValidCodePoint_9a6ad 1 = .ok (.bipush 16, 2) := by decide +kernel
theorem dJ11_isValidCodePoint_9a6ad_3 : decode cJ11_isValidCodePoint_9a6ad 3 = .ok (.iushr, 1) := by decide +kernel
theorem dJ11_isValidCodePoint_9a6ad_4 : decode cJ11_isValidCodePoint_9a6ad 4 = .ok (.istore_n 1, 1) := by decide +kernel
theorem dJ11_isValidCodePoint_9a6ad_5 : decode cJ11_isValidCodePoint_9a6ad 5 = .ok (.iload_n 1, 1) := by decide +kernel
theorem dJ11_isValidCodePoint_9a6ad_6 : decode cJ11_isValidCodePoint_9a6ad 6 = .ok (.bipush 17, 2) := by decide +kernel
theorem dJ11_isValidCodePoint_9a6ad_8 : decode cJ11_isValidCodePoint_9a6ad 8 = .ok (.if_icmp .ge 7, 3) := by decide +kernel
theorem dJ11_isValidCodePoint_9a6ad_11 : decode cJ11_isValidCodePoint_9a6ad 11 = .ok (.iconst 1, 1) := by decide +kernel
theorem dJ11_isValidCodePoint_9a6ad_12 : decode cJ11_isValidCodePoint_9a6ad 12 = .ok (.goto 4, 3) := by decide +kernel
theorem dJ11_isValidCodePoint_9a6ad_15 : decode cJ11_isValidCodePoint_9a6ad 15 = .ok (.iconst 0, 1) := by decide +kernel
theorem dJ11_isValidCodePoint_9a6ad_16 : decode cJ11_isValidCodePoint_9a6ad 16 = .ok (.ireturn, 1) := by decide +kernel
theorem dJ11_highSurrogate_5068e_0 : decode cJ11_highSurrogate_5068e 0 = .ok (.iload_n 0, 1) := by decide +kernel
theorem dJ11_highSurrogate_5068e_1 : decode cJ11_highSurrogate_5068e 1 = .ok (.bipush 10, 2) := by decide +kernel
theorem dJ11_highSurrogate_5068e_3 : decode cJ11_highSurrogate_5068e 3 = .ok (.iushr, 1) := by decide +kernel
theorem dJ11_highSurrogate_5068e_4 : decode cJ11_highSurrogate_5068e 4 = .ok (.ldc 110, 2) := by decide +kernel
theorem dJ11_highSurrogate_5068e_6 : decode cJ11_highSurrogate_5068e 6 = .ok (.iadd, 1) := by decide +kernel
theorem dJ11_highSurrogate_5068e_7 : decode cJ11_highSurrogate_5068e 7 = .ok (.i2c, 1) := by decide +kernel
theorem dJ11_highSurrogate_5068e_8 : decode cJ11_highSurrogate_5068e 8 = .ok (.ireturn, 1) := by decide +kernel
theorem dJ11_lowSurrogate_5068e_0 : decode cJ11_lowSurrogate_5068e 0 = .ok (.iload_n 0, 1) := by decide +kernel
theorem dJ11_lowSurrogate_5068e_1 : decode cJ11_lowSurrogate_5068e 1 = .ok (.sipush 1023, 3) := by decide +kernel
theorem dJ11_lowSurrogate_5068e_4 : decode cJ11_lowSurrogate_5068e 4 = .ok (.iand, 1) := by decide +kernel
theorem dJ11_lowSurrogate_5068e_5 : decode cJ11_lowSurrogate_5068e 5 = .ok (.ldc 76, 2) := by decide +kernel
theorem dJ11_lowSurrogate_5068e_7 : decode cJ11_lowSurrogate_5068e 7 = .ok (.iadd, 1) := by decide +kernel
theorem dJ11_lowSurrogate_5068e_8 : decode cJ11_lowSurrogate_5068e 8 = .ok (.i2c, 1) := by decide +kernel
theorem dJ11_lowSurrogate_5068e_9 : decode cJ11_lowSurrogate_5068e 9 = .ok (.ireturn, 1) := by decide +kernel
theorem dJ9_max_7cf53_0 : decode cJ9_max_7cf53 0 = .ok (.iload_n 0, 1) := by decide +kernel
theorem dJ9_max_7cf53_1 : decode cJ9_max_7cf53 1 = .ok (.iload_n 1, 1) := by decide +kernel
theorem dJ9_max_7cf53_2 : decode cJ9_max_7cf53 2 = .ok (.if_icmp .lt 7, 3) := by decide +kernel
theorem dJ9_max_7cf53_5 : decode cJ9_max_7cf53 5 = .ok (.iload_n 0, 1) := by decide +kernel
theorem dJ9_max_7cf53_6 : decode cJ9_max_7cf53 6 = .ok (.goto 4, 3) := by decide +kernel
theorem dJ9_max_7cf53_9 : decode cJ9_max_7cf53 9 = .ok (.iload_n 1, 1) := by decide +kernel
theorem dJ9_max_7cf53_10 : decode cJ9_max_7cf53 10 = .ok (.ireturn, 1) := by decide +kernel
theorem dJ9_min_7cf53_0 : decode cJ9_min_7cf53 0 = .ok (.iload_n 0, 1) := by decide +kernel
theorem dJ9_min_7cf53_1 : decode cJ9_min_7cf53 1 = .ok (.iload_n 1, 1) := by decide +kernel
theorem dJ9_min_7cf53_2 : decode cJ9_min_7cf53 2 = .ok (.if_icmp .gt 7, 3) := by decide +kernel
theorem dJ9_min_7cf53_5 : decode cJ9_min_7cf53 5 = .ok (.iload_n 0, 1) := by decide +kernel
theorem dJ9_min_7cf53_6 : decode cJ9_min_7cf53 6 = .ok (.goto 4, 3) := by decide +kernel
theorem dJ9_min_7cf53_9 : decode cJ9_min_7cf53 9 = .ok (.iload_n 1, 1) := by decide +kernel
theorem dJ9_min_7cf53_10 : decode cJ9_min_7cf53 10 = .ok (.ireturn, 1) := by decide +kernel
theorem dJ0_length_8abf5_0 : decode cJ0_length_8abf5 0 = .ok (.aload_n 0, 1) := by decide +kernel
theorem dJ0_length_8abf5_1 : decode cJ0_length_8abf5 1 = .ok (.getfield 9, 3) := by decide +kernel
theorem dJ0_length_8abf5_4 : decode cJ0_length_8abf5 4 = .ok (.arraylength, 1) := by decide +kernel
theorem dJ0_length_8abf5_5 : decode cJ0_length_8abf5 5 = .ok (.aload_n 0, 1) := by decide +kernel
theorem dJ0_length_8abf5_6 : decode cJ0_length_8abf5 6 = .ok (.invokevirtual 335, 3) := by decide +kernel
theorem dJ0_length_8abf5_9 : decode cJ0_length_8abf5 9 = .ok (.ishr, 1) := by decide +kernel
theorem dJ0_length_8abf5_10 : decode cJ0_length_8abf5 10 = .ok (.ireturn, 1) := by decide +kernel
theorem dJ0_indexOf_0f7a4_0 : decode cJ0_indexOf_0f7a4 0 = .ok (.aload_n 0, 1) := by decide +kernel
theorem dJ0_indexOf_0f7a4_1 : decode cJ0_indexOf_0f7a4 1 = .ok (.iload_n 1, 1) := by decide +kernel
theorem dJ0_indexOf_0f7a4_2 : decode cJ0_indexOf_0f7a4 2 = .ok (.iconst 0, 1) := by decide +kernel
theorem dJ0_indexOf_0f7a4_3 : decode cJ0_indexOf_0f7a4 3 = .ok (.invokevirtual 633, 3) := by decide +kernel
theorem dJ0_indexOf_0f7a4_6 : decode cJ0_indexOf_0f7a4 6 = .ok (.ireturn, 1) := by decide +kernel
theorem dJ0_indexOf_7cf53_0 : decode cJ0_indexOf_7cf53 0 = .ok (.aload_n 0, 1) := by decide +kernel
theorem dJ0_indexOf_7cf53_1 : decode cJ0_indexOf_7cf53 1 = .ok (.invokevirtual 492, 3) := by decide +kernel
theorem dJ0_indexOf_7cf53_4 : decode cJ0_indexOf_7cf53 4 = .ok (.ifCond .eq 19, 3) := by decide +kernel
theorem dJ0_indexOf_7cf53_7 : decode cJ0_indexOf_7cf53 7 = .ok (.aload_n 0, 1) := by decide +kernel
theorem dJ0_indexOf_7cf53_8 : decode cJ0_indexOf_7cf53 8 = .ok (.getfield 9, 3) := by decide +kernel
theorem dJ0_indexOf_7cf53_11 : decode cJ0_indexOf_7cf53 11 = .ok (.iload_n 1, 1) := by decide +kernel
theorem dJ0_indexOf_7cf53_12 : decode cJ0_indexOf_7cf53 12 = .ok (.iload_n 2, 1) := by decide +kernel
theorem dJ0_indexOf_7cf53_13 : decode cJ0_indexOf_7cf53 13 = .ok (.aload_n 0, 1) := by decide +kernel
theorem dJ0_indexOf_7cf53_14 : decode cJ0_indexOf_7cf53 14 = .ok (.invokevirtual 505, 3) := by decide +kernel
theorem dJ0_indexOf_7cf53_17 : decode cJ0_indexOf_7cf53 17 = .ok (.invokestatic 637, 3) := by decide +kernel
theorem dJ0_indexOf_7cf53_20 : decode cJ0_indexOf_7cf53 20 = .ok (.goto 16, 3) := by decide +kernel
theorem dJ0_indexOf_7cf53_23 : decode cJ0_indexOf_7cf53 23 = .ok (.aload_n 0, 1) := by decide +kernel
theorem dJ0_indexOf_7cf53_24 : decode cJ0_indexOf_7cf53 24 = .ok (.getfield 9, 3) := by decide +kernel
theorem dJ0_indexOf_7cf53_27 : decode cJ0_indexOf_7cf53 27 = .ok (.iload_n 1, 1) := by decide +kernel
theorem dJ0_indexOf_7cf53_28 : decode cJ0_indexOf_7cf53 28 = .ok (.iload_n 2, 1) := by decide +kernel
theorem dJ0_indexOf_7cf53_29 : decode cJ0_indexOf_7cf53 29 = .ok (.aload_n 0, 1) := by decide +kernel
theorem dJ0_indexOf_7cf53_30 : decode cJ0_indexOf_7cf53 30 = .ok (.invokevirtual 505, 3) := by decide +kernel
theorem dJ0_indexOf_7cf53_33 : decode cJ0_indexOf_7cf53 33 = .ok (.invokestatic 640, 3) := by decide +kernel
theorem dJ0_indexOf_7cf53_36 : decode cJ0_indexOf_7cf53 36 = .ok (.ireturn, 1) := by decide +kernel
theorem dJ0_coder_7d493_0 : decode cJ0_coder_7d493 0 = .ok (.getstatic 38, 3) := by decide +kernel
theorem dJ0_coder_7d493_3 : decode cJ0_coder_7d493 3 = .ok (.ifCond .eq 10, 3) := by decide +kernel
theorem dJ0_coder_7d493_6 : decode cJ0_coder_7d493 6 = .ok (.aload_n 0, 1) := by decide +kernel
theorem dJ0_coder_7d493_7 : decode cJ0_coder_7d493 7 = .ok (.getfield 15, 3) := by decide +kernel
theorem dJ0_coder_7d493_10 : decode cJ0_coder_7d493 10 = .ok (.goto 4, 3) := by decide +kernel
theorem dJ0_coder_7d493_13 : decode cJ0_coder_7d493 13 = .ok (.iconst 1, 1) := by decide +kernel
theorem dJ0_coder_7d493_14 : decode cJ0_coder_7d493 14 = .ok (.ireturn, 1) := by decide +kernel
theorem dJ0_isLatin1_aae02_0 : decode cJ0_isLatin1_aae02 0 = .ok (.getstatic 38, 3) := by decide +kernel
theorem dJ0_isLatin1_aae02_3 : decode cJ0_isLatin1_aae02 3 = .ok (.ifCond .eq 14, 3) := by decide +kernel
theorem dJ0_isLatin1_aae02_6 : decode cJ0_isLatin1_aae02 6 = .ok (.aload_n 0, 1) := by decide +kernel
theorem dJ0_isLatin1_aae02_7 : decode cJ0_isLatin1_aae02 7 = .ok (.getfield 15, 3) := by decide +kernel
theorem dJ0_isLatin1_aae02_10 : decode cJ0_isLatin1_aae02 10 = .ok (.ifCond .ne 7, 3) := by decide +kernel
theorem dJ0_isLatin1_aae02_13 : decode cJ0_isLatin1_aae02 13 = .ok (.iconst 1, 1) := by decide +kernel
theorem dJ0_isLatin1_aae02_14 : decode cJ0_isLatin1_aae02 14 = .ok (.goto 4, 3) := by decide +kernel
theorem dJ0_isLatin1_aae02_17 : decode cJ0_isLatin1_aae02 17 = .ok (.iconst 0, 1) := by decide +kernel
theorem dJ0_isLatin1_aae02_18 : decode cJ0_isLatin1_aae02 18 = .ok (.ireturn, 1) := by decide +kernel
theorem dJ0_checkBoundsBeginEnd_23922_0 : decode cJ0_checkBoundsBeginEnd_23922 0 = .ok (.iload_n 0, 1) := by decide +kernel
theorem dJ0_checkBoundsBeginEnd_23922_1 : decode cJ0_checkBoundsBeginEnd_23922 1 = .ok (.iload_n 1, 1) := by decide +kernel
theorem dJ0_checkBoundsBeginEnd_23922_2 : decode cJ0_checkBoundsBeginEnd_23922 2 = .ok (.iload_n 2, 1) := by decide +kernel
theorem dJ0_checkBoundsBeginEnd_23922_3 : decode cJ0_checkBoundsBeginEnd_23922 3 = .ok (.getstatic 1053, 3) := by decide +kernel
theorem dJ0_checkBoundsBeginEnd_23922_6 : decode cJ0_checkBoundsBeginEnd_23922 6 = .ok (.invokestatic 1062, 3) := by decide +kernel
theorem dJ0_checkBoundsBeginEnd_23922_9 : decode cJ0_checkBoundsBeginEnd_23922 9 = .ok (.pop, 1) := by decide +kernel
theorem dJ0_checkBoundsBeginEnd_23922_10 : decode cJ0_checkBoundsBeginEnd_23922 10 = .ok (.return_, 1) := by decide +kernel
theorem dJ1_canEncode_9a6ad_0 : decode cJ1_canEncode_9a6ad 0 = .ok (.iload_n 0, 1) := by decide +kernel
theorem dJ1_canEncode_9a6ad_1 : decode cJ1_canEncode_9a6ad 1 = .ok (.ifCond .lt 14, 3) := by decide +kernel
theorem dJ1_canEncode_9a6ad_4 : decode cJ1_canEncode_9a6ad 4 = .ok (.iload_n 0, 1) := by decide +kernel
theorem dJ1_canEncode_9a6ad_5 : decode cJ1_canEncode_9a6ad 5 = .ok (.sipush 255, 3) := by decide +kernel
theorem dJ1_canEncode_9a6ad_8 : decode cJ1_canEncode_9a6ad 8 = .ok (.if_icmp .gt 7, 3) := by decide +kernel
theorem dJ1_canEncode_9a6ad_11 : decode cJ1_canEncode_9a6ad 11 = .ok (.iconst 1, 1) := by decide +kernel
theorem dJ1_canEncode_9a6ad_12 : decode cJ1_canEncode_9a6ad 12 = .ok (.goto 4, 3) := by decide +kernel
theorem dJ1_canEncode_9a6ad_15 : decode cJ1_canEncode_9a6ad 15 = .ok (.iconst 0, 1) := by decide +kernel
theorem dJ1_canEncode_9a6ad_16 : decode cJ1_canEncode_9a6ad 16 = .ok (.ireturn, 1) := by decide +kernel
theorem dJ1_indexOf_4cfef_0 : decode cJ1_indexOf_4cfef 0 = .ok (.iload_n 1, 1) := by decide +kernel
theorem dJ1_indexOf_4cfef_1 : decode cJ1_indexOf_4cfef 1 = .ok (.invokestatic 88, 3) := by decide +kernel
theorem dJ1_indexOf_4cfef_4 : decode cJ1_indexOf_4cfef 4 = .ok (.ifCond .ne 5, 3) := by decide +kernel
theorem dJ1_indexOf_4cfef_7 : decode cJ1_indexOf_4cfef 7 = .ok (.iconst (-1), 1) := by decide +kernel
theorem dJ1_indexOf_4cfef_8 : decode cJ1_indexOf_4cfef 8 = .ok (.ireturn, 1) := by decide +kernel
theorem dJ1_indexOf_4cfef_9 : decode cJ1_indexOf_4cfef 9 = .ok (.iload_n 2, 1) := by decide +kernel
theorem dJ1_indexOf_4cfef_10 : decode cJ1_indexOf_4cfef 10 = .ok (.iconst 0, 1) := by decide +kernel
theorem dJ1_indexOf_4cfef_11 : decode cJ1_indexOf_4cfef 11 = .ok (.invokestatic 92, 3) := by decide +kernel
theorem dJ1_indexOf_4cfef_14 : decode cJ1_indexOf_4cfef 14 = .ok (.istore_n 2, 1) := by decide +kernel
theorem dJ1_indexOf_4cfef_15 : decode cJ1_indexOf_4cfef 15 = .ok (.iload_n 3, 1) := by decide +kernel
theorem dJ1_indexOf_4cfef_16 : decode cJ1_indexOf_4cfef 16 = .ok (.aload_n 0, 1) := by decide +kernel
theorem dJ1_indexOf_4cfef_17 : decode cJ1_indexOf_4cfef 17 = .ok (.arraylength, 1) := by decide +kernel
theorem dJ1_indexOf_4cfef_18 : decode cJ1_indexOf_4cfef 18 = .ok (.invokestatic 38, 3) := by decide +kernel
theorem dJ1_indexOf_4cfef_21 : decode cJ1_indexOf_4cfef 21 = .ok (.istore_n 3, 1) := by decide +kernel
theorem dJ1_indexOf_4cfef_22 : decode cJ1_indexOf_4cfef 22 = .ok (.iload_n 2, 1) := by decide +kernel
theorem dJ1_indexOf_4cfef_23 : decode cJ1_indexOf_4cfef 23 = .ok (.iload_n 3, 1) := by decide +kernel
theorem dJ1_indexOf_4cfef_24 : decode cJ1_indexOf_4cfef 24 = .ok (.if_icmp .lt 5, 3) := by decide +kernel
theorem dJ1_indexOf_4cfef_27 : decode cJ1_indexOf_4cfef 27 = .ok (.iconst (-1), 1) := by decide +kernel
theorem dJ1_indexOf_4cfef_28 : decode cJ1_indexOf_4cfef 28 = .ok (.ireturn, 1) := by decide +kernel
theorem dJ1_indexOf_4cfef_29 : decode cJ1_indexOf_4cfef 29 = .ok (.aload_n 0, 1) := by decide +kernel
theorem dJ1_indexOf_4cfef_30 : decode cJ1_indexOf_4cfef 30 = .ok (.iload_n 1, 1) := by decide +kernel
theorem dJ1_indexOf_4cfef_31 : decode cJ1_indexOf_4cfef 31 = .ok (.iload_n 2, 1) := by decide +kernel
theorem dJ1_indexOf_4cfef_32 : decode cJ1_indexOf_4cfef 32 = .ok (.iload_n 3, 1) := by decide +kernel
theorem dJ1_indexOf_4cfef_33 : decode cJ1_indexOf_4cfef 33 = .ok (.invokestatic 95, 3) := by decide +kernel
theorem dJ1_indexOf_4cfef_36 : decode cJ1_indexOf_4cfef 36 = .ok (.ireturn, 1) := by decide +kernel
theorem dJ1_indexOfChar_4cfef_0 : decode cJ1_indexOfChar_4cfef 0 = .ok (.iload_n 1, 1) := by decide +kernel
theorem dJ1_indexOfChar_4cfef_1 : decode cJ1_indexOfChar_4cfef 1 = .ok (.i2b, 1) := by decide +kernel
theorem dJ1_indexOfChar_4cfef_2 : decode cJ1_indexOfChar_4cfef 2 = .ok (.istore 4, 2) := by decide +kernel
theorem dJ1_indexOfChar_4cfef_4 : decode cJ1_indexOfChar_4cfef 4 = .ok (.iload_n 2, 1) := by decide +kernel
theorem dJ1_indexOfChar_4cfef_5 : decode cJ1_indexOfChar_4cfef 5 = .ok (.istore 5, 2) := by decide +kernel
theorem dJ1_indexOfChar_4cfef_7 : decode cJ1_indexOfChar_4cfef 7 = .ok (.iload 5, 2) := by decide +kernel
theorem dJ1_indexOfChar_4cfef_9 : decode cJ1_indexOfChar_4cfef 9 = .ok (.iload_n 3, 1) := by decide +kernel
theorem dJ1_indexOfChar_4cfef_10 : decode cJ1_indexOfChar_4cfef 10 = .ok (.if_icmp .ge 21, 3) := by decide +kernel
theorem dJ1_indexOfChar_4cfef_13 : decode cJ1_indexOfChar_4cfef 13 = .ok (.aload_n 0, 1) := by decide +kernel
theorem dJ1_indexOfChar_4cfef_14 : decode cJ1_indexOfChar_4cfef 14 = .ok (.iload 5, 2) := by decide +kernel
theorem dJ1_indexOfChar_4cfef_16 : decode cJ1_indexOfChar_4cfef 16 = .ok (.baload, 1) := by decide +kernel
theorem dJ1_indexOfChar_4cfef_17 : decode cJ1_indexOfChar_4cfef 17 = .ok (.iload 4, 2) := by decide +kernel
theorem dJ1_indexOfChar_4cfef_19 : decode cJ1_indexOfChar_4cfef 19 = .ok (.if_icmp .ne 6, 3) := by decide +kernel
theorem dJ1_indexOfChar_4cfef_22 : decode cJ1_indexOfChar_4cfef 22 = .ok (.iload 5, 2) := by decide +kernel
theorem dJ1_indexOfChar_4cfef_24 : decode cJ1_indexOfChar_4cfef 24 = .ok (.ireturn, 1) := by decide +kernel
theorem dJ1_indexOfChar_4cfef_25 : decode cJ1_indexOfChar_4cfef 25 = .ok (.iinc 5 1, 3) := by decide +kernel
theorem dJ1_indexOfChar_4cfef_28 : decode cJ1_indexOfChar_4cfef 28 = .ok (.goto (-21), 3) := by decide +kernel
theorem dJ1_indexOfChar_4cfef_31 : decode cJ1_indexOfChar_4cfef 31 = .ok (.iconst (-1), 1) := by decide +kernel
theorem dJ1_indexOfChar_4cfef_32 : decode cJ1_indexOfChar_4cfef 32 = .ok (.ireturn, 1) := by decide +kernel
theorem dJ2_getChar_3b067_0 : decode cJ2_getChar_3b067 0 = .ok (.getstatic 44, 3) := by decide +kernel
theorem dJ2_getChar_3b067_3 : decode cJ2_getChar_3b067 3 = .ok (.ifCond .ne 25, 3) := by decide +kernel
theorem dJ2_getChar_3b067_6 : decode cJ2_getChar_3b067 6 = .ok (.iload_n 1, 1) := by decide +kernel
theorem dJ2_getChar_3b067_7 : decode cJ2_getChar_3b067 7 = .ok (.ifCond .lt 11, 3) := by decide +kernel
theorem dJ2_getChar_3b067_10 : decode cJ2_getChar_3b067 10 = .ok (.iload_n 1, 1) := by decide +kernel
theorem dJ2_getChar_3b067_11 : decode cJ2_getChar_3b067 11 = .ok (.aload_n 0, 1) := by decide +kernel
theorem dJ2_getChar_3b067_12 : decode cJ2_getChar_3b067 12 = .ok (.invokestatic 48, 3) := by decide +kernel
theorem dJ2_getChar_3b067_15 : decode cJ2_getChar_3b067 15 = .ok (.if_icmp .lt 13, 3) := by decide +kernel
theorem dJ2_getChar_3b067_18 : decode cJ2_getChar_3b067 18 = .ok (.new 52, 3) := by decide +kernel
theorem dJ2_getChar_3b067_21 : decode cJ2_getChar_3b067 21 = .ok (.dup, 1) := by decide +kernel
theorem dJ2_getChar_3b067_22 : decode cJ2_getChar_3b067 22 = .ok (.ldc 54, 2) := by decide +kernel
theorem dJ2_getChar_3b067_24 : decode cJ2_getChar_3b067 24 = .ok (.invokespecial 56, 3) := by decide +kernel
theorem dJ2_getChar_3b067_27 : decode cJ2_getChar_3b067 27 = .ok (.athrow, 1) := by decide +kernel
theorem dJ2_getChar_3b067_28 : decode cJ2_getChar_3b067 28 = .ok (.iload_n 1, 1) := by decide +kernel
theorem dJ2_getChar_3b067_29 : decode cJ2_getChar_3b067 29 = .ok (.iconst 1, 1) := by decide +kernel
theorem dJ2_getChar_3b067_30 : decode cJ2_getChar_3b067 30 = .ok (.ishl, 1) := by decide +kernel
theorem dJ2_getChar_3b067_31 : decode cJ2_getChar_3b067 31 = .ok (.istore_n 1, 1) := by decide +kernel
theorem dJ2_getChar_3b067_32 : decode cJ2_getChar_3b067 32 = .ok (.aload_n 0, 1) := by decide +kernel
theorem dJ2_getChar_3b067_33 : decode cJ2_getChar_3b067 33 = .ok (.iload_n 1, 1) := by decide +kernel
theorem dJ2_getChar_3b067_34 : decode cJ2_getChar_3b067 34 = .ok (.iinc 1 1, 3) := by decide +kernel
theorem dJ2_getChar_3b067_37 : decode cJ2_getChar_3b067 37 = .ok (.baload, 1) := by decide +kernel
theorem dJ2_getChar_3b067_38 : decode cJ2_getChar_3b067 38 = .ok (.sipush 255, 3) := by decide +kernel
theorem dJ2_getChar_3b067_41 : decode cJ2_getChar_3b067 41 = .ok (.iand, 1) := by decide +kernel
theorem dJ2_getChar_3b067_42 : decode cJ2_getChar_3b067 42 = .ok (.getstatic 59, 3) := by decide +kernel
theorem dJ2_getChar_3b067_45 : decode cJ2_getChar_3b067 45 = .ok (.ishl, 1) := by decide +kernel
theorem dJ2_getChar_3b067_46 : decode cJ2_getChar_3b067 46 = .ok (.aload_n 0, 1) := by decide +kernel
theorem dJ2_getChar_3b067_47 : decode cJ2_getChar_3b067 47 = .ok (.iload_n 1, 1) := by decide +kernel
theorem dJ2_getChar_3b067_48 : decode cJ2_getChar_3b067 48 = .ok (.baload, 1) := by decide +kernel
theorem dJ2_getChar_3b067_49 : decode cJ2_getChar_3b067 49 = .ok (.sipush 255, 3) := by decide +kernel
theorem dJ2_getChar_3b067_52 : decode cJ2_getChar_3b067 52 = .ok (.iand, 1) := by decide +kernel
theorem dJ2_getChar_3b067_53 : decode cJ2_getChar_3b067 53 = .ok (.getstatic 63, 3) := by decide +kernel
theorem dJ2_getChar_3b067_56 : decode cJ2_getChar_3b067 56 = .ok (.ishl, 1) := by decide +kernel
theorem dJ2_getChar_3b067_57 : decode cJ2_getChar_3b067 57 = .ok (.ior, 1) := by decide +kernel
theorem dJ2_getChar_3b067_58 : decode cJ2_getChar_3b067 58 = .ok (.i2c, 1) := by decide +kernel
theorem dJ2_getChar_3b067_59 : decode cJ2_getChar_3b067 59 = .ok (.ireturn, 1) := by decide +kernel
theorem dJ2_length_9d52b_0 : decode cJ2_length_9d52b 0 = .ok (.aload_n 0, 1) := by decide +kernel
theorem dJ2_length_9d52b_1 : decode cJ2_length_9d52b 1 = .ok (.arraylength, 1) := by decide +kernel
theorem dJ2_length_9d52b_2 : decode cJ2_length_9d52b 2 = .ok (.iconst 1, 1) := by decide +kernel
theorem dJ2_length_9d52b_3 : decode cJ2_length_9d52b 3 = .ok (.ishr, 1) := by decide +kernel
theorem dJ2_length_9d52b_4 : decode cJ2_length_9d52b 4 = .ok (.ireturn, 1) := by decide +kernel
theorem dJ2_indexOf_4cfef_0 : decode cJ2_indexOf_4cfef 0 = .ok (.iload_n 2, 1) := by decide +kernel
theorem dJ2_indexOf_4cfef_1 : decode cJ2_indexOf_4cfef 1 = .ok (.iconst 0, 1) := by decide +kernel
theorem dJ2_indexOf_4cfef_2 : decode cJ2_indexOf_4cfef 2 = .ok (.invokestatic 224, 3) := by decide +kernel
theorem dJ2_indexOf_4cfef_5 : decode cJ2_indexOf_4cfef 5 = .ok (.istore_n 2, 1) := by decide +kernel
theorem dJ2_indexOf_4cfef_6 : decode cJ2_indexOf_4cfef 6 = .ok (.iload_n 3, 1) := by decide +kernel
theorem dJ2_indexOf_4cfef_7 : decode cJ2_indexOf_4cfef 7 = .ok (.aload_n 0, 1) := by decide +kernel
theorem dJ2_indexOf_4cfef_8 : decode cJ2_indexOf_4cfef 8 = .ok (.arraylength, 1) := by decide +kernel
theorem dJ2_indexOf_4cfef_9 : decode cJ2_indexOf_4cfef 9 = .ok (.iconst 1, 1) := by decide +kernel
theorem dJ2_indexOf_4cfef_10 : decode cJ2_indexOf_4cfef 10 = .ok (.ishr, 1) := by decide +kernel
theorem dJ2_indexOf_4cfef_11 : decode cJ2_indexOf_4cfef 11 = .ok (.invokestatic 183, 3) := by decide +kernel
theorem dJ2_indexOf_4cfef_14 : decode cJ2_indexOf_4cfef 14 = .ok (.istore_n 3, 1) := by decide +kernel
theorem dJ2_indexOf_4cfef_15 : decode cJ2_indexOf_4cfef 15 = .ok (.iload_n 2, 1) := by decide +kernel
theorem dJ2_indexOf_4cfef_16 : decode cJ2_indexOf_4cfef 16 = .ok (.iload_n 3, 1) := by decide +kernel
theorem dJ2_indexOf_4cfef_17 : decode cJ2_indexOf_4cfef 17 = .ok (.if_icmp .lt 5, 3) := by decide +kernel
theorem dJ2_indexOf_4cfef_20 : decode cJ2_indexOf_4cfef 20 = .ok (.iconst (-1), 1) := by decide +kernel
theorem dJ2_indexOf_4cfef_21 : decode cJ2_indexOf_4cfef 21 = .ok (.ireturn, 1) := by decide +kernel
theorem dJ2_indexOf_4cfef_22 : decode cJ2_indexOf_4cfef 22 = .ok (.iload_n 1, 1) := by decide +kernel
theorem dJ2_indexOf_4cfef_23 : decode cJ2_indexOf_4cfef 23 = .ok (.ldc 227, 2) := by decide +kernel
theorem dJ2_indexOf_4cfef_25 : decode cJ2_indexOf_4cfef 25 = .ok (.if_icmp .ge 11, 3) := by decide +kernel
theorem dJ2_indexOf_4cfef_28 : decode cJ2_indexOf_4cfef 28 = .ok (.aload_n 0, 1) := by decide +kernel
theorem dJ2_indexOf_4cfef_29 : decode cJ2_indexOf_4cfef 29 = .ok (.iload_n 1, 1) := by decide +kernel
theorem dJ2_indexOf_4cfef_30 : decode cJ2_indexOf_4cfef 30 = .ok (.iload_n 2, 1) := by decide +kernel
theorem dJ2_indexOf_4cfef_31 : decode cJ2_indexOf_4cfef 31 = .ok (.iload_n 3, 1) := by decide +kernel
theorem dJ2_indexOf_4cfef_32 : decode cJ2_indexOf_4cfef 32 = .ok (.invokestatic 228, 3) := by decide +kernel
theorem dJ2_indexOf_4cfef_35 : decode cJ2_indexOf_4cfef 35 = .ok (.ireturn, 1) := by decide +kernel
theorem dJ2_indexOf_4cfef_36 : decode cJ2_indexOf_4cfef 36 = .ok (.aload_n 0, 1) := by decide +kernel
theorem dJ2_indexOf_4cfef_37 : decode cJ2_indexOf_4cfef 37 = .ok (.iload_n 1, 1) := by decide +kernel
theorem dJ2_indexOf_4cfef_38 : decode cJ2_indexOf_4cfef 38 = .ok (.iload_n 2, 1) := by decide +kernel
theorem dJ2_indexOf_4cfef_39 : decode cJ2_indexOf_4cfef 39 = .ok (.iload_n 3, 1) := by decide +kernel
theorem dJ2_indexOf_4cfef_40 : decode cJ2_indexOf_4cfef 40 = .ok (.invokestatic 232, 3) := by decide +kernel
theorem dJ2_indexOf_4cfef_43 : decode cJ2_indexOf_4cfef 43 = .ok (.ireturn, 1) := by decide +kernel
theorem dJ2_indexOfChar_4cfef_0 : decode cJ2_indexOfChar_4cfef 0 = .ok (.iload_n 2, 1) := by decide +kernel
theorem dJ2_indexOfChar_4cfef_1 : decode cJ2_indexOfChar_4cfef 1 = .ok (.iload_n 3, 1) := by decide +kernel
theorem dJ2_indexOfChar_4cfef_2 : decode cJ2_indexOfChar_4cfef 2 = .ok (.aload_n 0, 1) := by decide +kernel
theorem dJ2_indexOfChar_4cfef_3 : decode cJ2_indexOfChar_4cfef 3 = .ok (.invokestatic 96, 3) := by decide +kernel
theorem dJ2_indexOfChar_4cfef_6 : decode cJ2_indexOfChar_4cfef 6 = .ok (.aload_n 0, 1) := by decide +kernel
theorem dJ2_indexOfChar_4cfef_7 : decode cJ2_indexOfChar_4cfef 7 = .ok (.iload_n 1, 1) := by decide +kernel
theorem dJ2_indexOfChar_4cfef_8 : decode cJ2_indexOfChar_4cfef 8 = .ok (.iload_n 2, 1) := by decide +kernel
theorem dJ2_indexOfChar_4cfef_9 : decode cJ2_indexOfChar_4cfef 9 = .ok (.iload_n 3, 1) := by decide +kernel
theorem dJ2_indexOfChar_4cfef_10 : decode cJ2_indexOfChar_4cfef 10 = .ok (.invokestatic 244, 3) := by decide +kernel
theorem dJ2_indexOfChar_4cfef_13 : decode cJ2_indexOfChar_4cfef 13 = .ok (.ireturn, 1) := by decide +kernel
theorem dJ2_indexOfCharUnsafe_4cfef_0 : decode cJ2_indexOfCharUnsafe_4cfef 0 = .ok (.iload_n 2, 1) := by decide +kernel
theorem dJ2_indexOfCharUnsafe_4cfef_1 : decode cJ2_indexOfCharUnsafe_4cfef 1 = .ok (.istore 4, 2) := by decide +kernel
theorem dJ2_indexOfCharUnsafe_4cfef_3 : decode cJ2_indexOfCharUnsafe_4cfef 3 = .ok (.iload 4, 2) := by decide +kernel
theorem dJ2_indexOfCharUnsafe_4cfef_5 : decode cJ2_indexOfCharUnsafe_4cfef 5 = .ok (.iload_n 3, 1) := by decide +kernel
theorem dJ2_indexOfCharUnsafe_4cfef_6 : decode cJ2_indexOfCharUnsafe_4cfef 6 = .ok (.if_icmp .ge 22, 3) := by decide +kernel
theorem dJ2_indexOfCharUnsafe_4cfef_9 : decode cJ2_indexOfCharUnsafe_4cfef 9 = .ok (.aload_n 0, 1) := by decide +kernel
theorem dJ2_indexOfCharUnsafe_4cfef_10 : decode cJ2_indexOfCharUnsafe_4cfef 10 = .ok (.iload 4, 2) := by decide +kernel
theorem dJ2_indexOfCharUnsafe_4cfef_12 : decode cJ2_indexOfCharUnsafe_4cfef 12 = .ok (.invokestatic 71, 3) := by decide +kernel
theorem dJ2_indexOfCharUnsafe_4cfef_15 : decode cJ2_indexOfCharUnsafe_4cfef 15 = .ok (.iload_n 1, 1) := by decide +kernel
theorem dJ2_indexOfCharUnsafe_4cfef_16 : decode cJ2_indexOfCharUnsafe_4cfef 16 = .ok (.if_icmp .ne 6, 3) := by decide +kernel
theorem dJ2_indexOfCharUnsafe_4cfef_19 : decode cJ2_indexOfCharUnsafe_4cfef 19 = .ok (.iload 4, 2) := by decide +kernel
theorem dJ2_indexOfCharUnsafe_4cfef_21 : decode cJ2_indexOfCharUnsafe_4cfef 21 = .ok (.ireturn, 1) := by decide +kernel
theorem dJ2_indexOfCharUnsafe_4cfef_22 : decode cJ2_indexOfCharUnsafe_4cfef 22 = .ok (.iinc 4 1, 3) := by decide +kernel
theorem dJ2_indexOfCharUnsafe_4cfef_25 : decode cJ2_indexOfCharUnsafe_4cfef 25 = .ok (.goto (-22), 3) := by decide +kernel
theorem dJ2_indexOfCharUnsafe_4cfef_28 : decode cJ2_indexOfCharUnsafe_4cfef 28 = .ok (.iconst (-1), 1) := by decide +kernel
theorem dJ2_indexOfCharUnsafe_4cfef_29 : decode cJ2_indexOfCharUnsafe_4cfef 29 = .ok (.ireturn, 1) := by decide +kernel
theorem dJ2_indexOfSupplementary_4cfef_0 : decode cJ2_indexOfSupplementary_4cfef 0 = .ok (.iload_n 1, 1) := by decide +kernel
theorem dJ2_indexOfSupplementary_4cfef_1 : decode cJ2_indexOfSupplementary_4cfef 1 = .ok (.invokestatic 164, 3) := by decide +kernel
theorem dJ2_indexOfSupplementary_4cfef_4 : decode cJ2_indexOfSupplementary_4cfef 4 = .ok (.ifCond .eq 65, 3) := by decide +kernel
theorem dJ2_indexOfSupplementary_4cfef_7 : decode cJ2_indexOfSupplementary_4cfef 7 = .ok (.iload_n 1, 1) := by decide +kernel
theorem dJ2_indexOfSupplementary_4cfef_8 : decode cJ2_indexOfSupplementary_4cfef 8 = .ok (.invokestatic 157, 3) := by decide +kernel
theorem dJ2_indexOfSupplementary_4cfef_11 : decode cJ2_indexOfSupplementary_4cfef 11 = .ok (.istore 4, 2) := by decide +kernel
theorem dJ2_indexOfSupplementary_4cfef_13 : decode cJ2_indexOfSupplementary_4cfef 13 = .ok (.iload_n 1, 1) := by decide +kernel
theorem dJ2_indexOfSupplementary_4cfef_14 : decode cJ2_indexOfSupplementary_4cfef 14 = .ok (.invokestatic 161, 3) := by decide +kernel
theorem dJ2_indexOfSupplementary_4cfef_17 : decode cJ2_indexOfSupplementary_4cfef 17 = .ok (.istore 5, 2) := by decide +kernel
theorem dJ2_indexOfSupplementary_4cfef_19 : decode cJ2_indexOfSupplementary_4cfef 19 = .ok (.iload_n 2, 1) := by decide +kernel
theorem dJ2_indexOfSupplementary_4cfef_20 : decode cJ2_indexOfSupplementary_4cfef 20 = .ok (.iload_n 3, 1) := by decide +kernel
theorem dJ2_indexOfSupplementary_4cfef_21 : decode cJ2_indexOfSupplementary_4cfef 21 = .ok (.aload_n 0, 1) := by decide +kernel
theorem dJ2_indexOfSupplementary_4cfef_22 : decode cJ2_indexOfSupplementary_4cfef 22 = .ok (.invokestatic 96, 3) := by decide +kernel
theorem dJ2_indexOfSupplementary_4cfef_25 : decode cJ2_indexOfSupplementary_4cfef 25 = .ok (.iload_n 2, 1) := by decide +kernel
theorem dJ2_indexOfSupplementary_4cfef_26 : decode cJ2_indexOfSupplementary_4cfef 26 = .ok (.istore 6, 2) := by decide +kernel
theorem dJ2_indexOfSupplementary_4cfef_28 : decode cJ2_indexOfSupplementary_4cfef 28 = .ok (.iload 6, 2) := by decide +kernel
theorem dJ2_indexOfSupplementary_4cfef_30 : decode cJ2_indexOfSupplementary_4cfef 30 = .ok (.iload_n 3, 1) := by decide +kernel
theorem dJ2_indexOfSupplementary_4cfef_31 : decode cJ2_indexOfSupplementary_4cfef 31 = .ok (.iconst 1, 1) := by decide +kernel
theorem dJ2_indexOfSupplementary_4cfef_32 : decode cJ2_indexOfSupplementary_4cfef 32 = .ok (.isub, 1) := by decide +kernel
theorem dJ2_indexOfSupplementary_4cfef_33 : decode cJ2_indexOfSupplementary_4cfef 33 = .ok (.if_icmp .ge 36, 3) := by decide +kernel
theorem dJ2_indexOfSupplementary_4cfef_36 : decode cJ2_indexOfSupplementary_4cfef 36 = .ok (.aload_n 0, 1) := by decide +kernel
theorem dJ2_indexOfSupplementary_4cfef_37 : decode cJ2_indexOfSupplementary_4cfef 37 = .ok (.iload 6, 2) := by decide +kernel
theorem dJ2_indexOfSupplementary_4cfef_39 : decode cJ2_indexOfSupplementary_4cfef 39 = .ok (.invokestatic 71, 3) := by decide +kernel
theorem dJ2_indexOfSupplementary_4cfef_42 : decode cJ2_indexOfSupplementary_4cfef 42 = .ok (.iload 4, 2) := by decide +kernel
theorem dJ2_indexOfSupplementary_4cfef_44 : decode cJ2_indexOfSupplementary_4cfef 44 = .ok (.if_icmp .ne 19, 3) := by decide +kernel
theorem dJ2_indexOfSupplementary_4cfef_47 : decode cJ2_indexOfSupplementary_4cfef 47 = .ok (.aload_n 0, 1) := by decide +kernel
theorem dJ2_indexOfSupplementary_4cfef_48 : decode cJ2_indexOfSupplementary_4cfef 48 = .ok (.iload 6, 2) := by decide +kernel
theorem dJ2_indexOfSupplementary_4cfef_50 : decode cJ2_indexOfSupplementary_4cfef 50 = .ok (.iconst 1, 1) := by decide +kernel
theorem dJ2_indexOfSupplementary_4cfef_51 : decode cJ2_indexOfSupplementary_4cfef 51 = .ok (.iadd, 1) := by decide +kernel
theorem dJ2_indexOfSupplementary_4cfef_52 : decode cJ2_indexOfSupplementary_4cfef 52 = .ok (.invokestatic 71, 3) := by decide +kernel
theorem dJ2_indexOfSupplementary_4cfef_55 : decode cJ2_indexOfSupplementary_4cfef 55 = .ok (.iload 5, 2) := by decide +kernel
theorem dJ2_indexOfSupplementary_4cfef_57 : decode cJ2_indexOfSupplementary_4cfef 57 = .ok (.if_icmp .ne 6, 3) := by decide +kernel
theorem dJ2_indexOfSupplementary_4cfef_60 : decode cJ2_indexOfSupplementary_4cfef 60 = .ok (.iload 6, 2) := by decide +kernel
theorem dJ2_indexOfSupplementary_4cfef_62 : decode cJ2_indexOfSupplementary_4cfef 62 = .ok (.ireturn, 1) := by decide +kernel
theorem dJ2_indexOfSupplementary_4cfef_63 : decode cJ2_indexOfSupplementary_4cfef 63 = .ok (.iinc 6 1, 3) := by decide +kernel
theorem dJ2_indexOfSupplementary_4cfef_66 : decode cJ2_indexOfSupplementary_4cfef 66 = .ok (.goto (-38), 3) := by decide +kernel
theorem dJ2_indexOfSupplementary_4cfef_69 : decode cJ2_indexOfSupplementary_4cfef 69 = .ok (.iconst (-1), 1) := by decide +kernel
theorem dJ2_indexOfSupplementary_4cfef_70 : decode cJ2_indexOfSupplementary_4cfef 70 = .ok (.ireturn, 1) := by decide +kernel
theorem dJ2_checkBoundsBeginEnd_d044e_0 : decode cJ2_checkBoundsBeginEnd_d044e 0 = .ok (.iload_n 0, 1) := by decide +kernel
theorem dJ2_checkBoundsBeginEnd_d044e_1 : decode cJ2_checkBoundsBeginEnd_d044e 1 = .ok (.iload_n 1, 1) := by decide +kernel
theorem dJ2_checkBoundsBeginEnd_d044e_2 : decode cJ2_checkBoundsBeginEnd_d044e 2 = .ok (.aload_n 2, 1) := by decide +kernel
theorem dJ2_checkBoundsBeginEnd_d044e_3 : decode cJ2_checkBoundsBeginEnd_d044e 3 = .ok (.invokestatic 48, 3) := by decide +kernel
theorem dJ2_checkBoundsBeginEnd_d044e_6 : decode cJ2_checkBoundsBeginEnd_d044e 6 = .ok (.invokestatic 241, 3) := by decide +kernel
theorem dJ2_checkBoundsBeginEnd_d044e_9 : decode cJ2_checkBoundsBeginEnd_d044e 9 = .ok (.return_, 1) := by decide +kernel
theorem dJ7_fill_53178_0 : decode cJ7_fill_53178 0 = .ok (.iconst 0, 1) := by decide +kernel
theorem dJ7_fill_53178_1 : decode cJ7_fill_53178 1 = .ok (.istore_n 2, 1) := by decide +kernel
theorem dJ7_fill_53178_2 : decode cJ7_fill_53178 2 = .ok (.aload_n 0, 1) := by decide +kernel
theorem dJ7_fill_53178_3 : decode cJ7_fill_53178 3 = .ok (.arraylength, 1) := by decide +kernel
theorem dJ7_fill_53178_4 : decode cJ7_fill_53178 4 = .ok (.istore_n 3, 1) := by decide +kernel
theorem dJ7_fill_53178_5 : decode cJ7_fill_53178 5 = .ok (.iload_n 2, 1) := by decide +kernel
theorem dJ7_fill_53178_6 : decode cJ7_fill_53178 6 = .ok (.iload_n 3, 1) := by decide +kernel
theorem dJ7_fill_53178_7 : decode cJ7_fill_53178 7 = .ok (.if_icmp .ge 13, 3) := by decide +kernel
theorem dJ7_fill_53178_10 : decode cJ7_fill_53178 10 = .ok (.aload_n 0, 1) := by decide +kernel
theorem dJ7_fill_53178_11 : decode cJ7_fill_53178 11 = .ok (.iload_n 2, 1) := by decide +kernel
theorem dJ7_fill_53178_12 : decode cJ7_fill_53178 12 = .ok (.iload_n 1, 1) := by decide +kernel
theorem dJ7_fill_53178_13 : decode cJ7_fill_53178 13 = .ok (.iastore, 1) := by decide +kernel
theorem dJ7_fill_53178_14 : decode cJ7_fill_53178 14 = .ok (.iinc 2 1, 3) := by decide +kernel
theorem dJ7_fill_53178_17 : decode cJ7_fill_53178 17 = .ok (.goto (-12), 3) := by decide +kernel
theorem dJ7_fill_53178_20 : decode cJ7_fill_53178 20 = .ok (.return_, 1) := by decide +kernel
theorem dJ3_checkFromToIndex_8c36e_0 : decode cJ3_checkFromToIndex_8c36e 0 = .ok (.iload_n 0, 1) := by decide +kernel
theorem dJ3_checkFromToIndex_8c36e_1 : decode cJ3_checkFromToIndex_8c36e 1 = .ok (.ifCond .lt 13, 3) := by decide +kernel
theorem dJ3_checkFromToIndex_8c36e_4 : decode cJ3_checkFromToIndex_8c36e 4 = .ok (.iload_n 0, 1) := by decide +kernel
theorem dJ3_checkFromToIndex_8c36e_5 : decode cJ3_checkFromToIndex_8c36e 5 = .ok (.iload_n 1, 1) := by decide +kernel
theorem dJ3_checkFromToIndex_8c36e_6 : decode cJ3_checkFromToIndex_8c36e 6 = .ok (.if_icmp .gt 8, 3) := by decide +kernel
theorem dJ3_checkFromToIndex_8c36e_9 : decode cJ3_checkFromToIndex_8c36e 9 = .ok (.iload_n 1, 1) := by decide +kernel
theorem dJ3_checkFromToIndex_8c36e_10 : decode cJ3_checkFromToIndex_8c36e 10 = .ok (.iload_n 2, 1) := by decide +kernel
theorem dJ3_checkFromToIndex_8c36e_11 : decode cJ3_checkFromToIndex_8c36e 11 = .ok (.if_icmp .le 11, 3) := by decide +kernel
theorem dJ3_checkFromToIndex_8c36e_14 : decode cJ3_checkFromToIndex_8c36e 14 = .ok (.aload_n 3, 1) := by decide +kernel
theorem dJ3_checkFromToIndex_8c36e_15 : decode cJ3_checkFromToIndex_8c36e 15 = .ok (.iload_n 0, 1) := by decide +kernel
theorem dJ3_checkFromToIndex_8c36e_16 : decode cJ3_checkFromToIndex_8c36e 16 = .ok (.iload_n 1, 1) := by decide +kernel
theorem dJ3_checkFromToIndex_8c36e_17 : decode cJ3_checkFromToIndex_8c36e 17 = .ok (.iload_n 2, 1) := by decide +kernel
theorem dJ3_checkFromToIndex_8c36e_18 : decode cJ3_checkFromToIndex_8c36e 18 = .ok (.invokestatic 99, 3) := by decide +kernel
theorem dJ3_checkFromToIndex_8c36e_21 : decode cJ3_checkFromToIndex_8c36e 21 = .ok (.athrow, 1) := by decide +kernel
theorem dJ3_checkFromToIndex_8c36e_22 : decode cJ3_checkFromToIndex_8c36e 22 = .ok (.iload_n 0, 1) := by decide +kernel
theorem dJ3_checkFromToIndex_8c36e_23 : decode cJ3_checkFromToIndex_8c36e 23 = .ok (.ireturn, 1) := by decide +kernel
theorem dL_law_0 : decode cL_law 0 = .ok (.new 7, 3) := by decide +kernel
theorem dL_law_3 : decode cL_law 3 = .ok (.dup, 1) := by decide +kernel
theorem dL_law_4 : decode cL_law 4 = .ok (.invokespecial 9, 3) := by decide +kernel
theorem dL_law_7 : decode cL_law 7 = .ok (.astore_n 1, 1) := by decide +kernel
theorem dL_law_8 : decode cL_law 8 = .ok (.new 10, 3) := by decide +kernel
theorem dL_law_11 : decode cL_law 11 = .ok (.dup, 1) := by decide +kernel
theorem dL_law_12 : decode cL_law 12 = .ok (.invokespecial 12, 3) := by decide +kernel
theorem dL_law_15 : decode cL_law 15 = .ok (.astore_n 2, 1) := by decide +kernel
theorem dL_law_16 : decode cL_law 16 = .ok (.iconst 0, 1) := by decide +kernel
theorem dL_law_17 : decode cL_law 17 = .ok (.istore_n 3, 1) := by decide +kernel
theorem dL_law_18 : decode cL_law 18 = .ok (.iload_n 3, 1) := by decide +kernel
theorem dL_law_19 : decode cL_law 19 = .ok (.aload_n 0, 1) := by decide +kernel
theorem dL_law_20 : decode cL_law 20 = .ok (.arraylength, 1) := by decide +kernel
theorem dL_law_21 : decode cL_law 21 = .ok (.iconst 5, 1) := by decide +kernel
theorem dL_law_22 : decode cL_law 22 = .ok (.isub, 1) := by decide +kernel
theorem dL_law_23 : decode cL_law 23 = .ok (.if_icmp .gt 955, 3) := by decide +kernel
theorem dL_law_26 : decode cL_law 26 = .ok (.aload_n 0, 1) := by decide +kernel
theorem dL_law_27 : decode cL_law 27 = .ok (.iload_n 3, 1) := by decide +kernel
theorem dL_law_28 : decode cL_law 28 = .ok (.iaload, 1) := by decide +kernel
theorem dL_law_29 : decode cL_law 29 = .ok (.bipush 31, 2) := by decide +kernel
theorem dL_law_31 : decode cL_law 31 = .ok (.iand, 1) := by decide +kernel
theorem dL_law_32 : decode cL_law 32 = .ok (.tableswitch 940 0 31 #[144, 167, 180, 193, 216, 249, 282, 315, 348, 371, 394, 417, 430, 453, 476, 499, 522, 545, 588, 611, 654, 707, 730, 743, 776, 789, 812, 845, 858, 871, 894, 917], 144) := by decide +kernel
theorem dL_law_176 : decode cL_law 176 = .ok (.aload_n 1, 1) := by decide +kernel
theorem dL_law_177 : decode cL_law 177 = .ok (.aload_n 0, 1) := by decide +kernel
theorem dL_law_178 : decode cL_law 178 = .ok (.iload_n 3, 1) := by decide +kernel
theorem dL_law_179 : decode cL_law 179 = .ok (.iconst 1, 1) := by decide +kernel
theorem dL_law_180 : decode cL_law 180 = .ok (.iadd, 1) := by decide +kernel
theorem dL_law_181 : decode cL_law 181 = .ok (.iaload, 1) := by decide +kernel
theorem dL_law_182 : decode cL_law 182 = .ok (.invokevirtual 13, 3) := by decide +kernel
theorem dL_law_185 : decode cL_law 185 = .ok (.aload_n 2, 1) := by decide +kernel
theorem dL_law_186 : decode cL_law 186 = .ok (.aload_n 0, 1) := by decide +kernel
theorem dL_law_187 : decode cL_law 187 = .ok (.iload_n 3, 1) := by decide +kernel
theorem dL_law_188 : decode cL_law 188 = .ok (.iconst 1, 1) := by decide +kernel
theorem dL_law_189 : decode cL_law 189 = .ok (.iadd, 1) := by decide +kernel
theorem dL_law_190 : decode cL_law 190 = .ok (.iaload, 1) := by decide +kernel
theorem dL_law_191 : decode cL_law 191 = .ok (.invokevirtual 17, 3) := by decide +kernel
theorem dL_law_194 : decode cL_law 194 = .ok (.if_icmp .eq 778, 3) := by decide +kernel
theorem dL_law_197 : decode cL_law 197 = .ok (.iconst 0, 1) := by decide +kernel
theorem dL_law_198 : decode cL_law 198 = .ok (.ireturn, 1) := by decide +kernel
theorem dL_law_199 : decode cL_law 199 = .ok (.aload_n 1, 1) := by decide +kernel
theorem dL_law_200 : decode cL_law 200 = .ok (.invokevirtual 18, 3) := by decide +kernel
theorem dL_law_203 : decode cL_law 203 = .ok (.aload_n 2, 1) := by decide +kernel
theorem dL_law_204 : decode cL_law 204 = .ok (.invokevirtual 22, 3) := by decide +kernel
theorem dL_law_207 : decode cL_law 207 = .ok (.if_icmp .eq 765, 3) := by decide +kernel
theorem dL_law_210 : decode cL_law 210 = .ok (.iconst 0, 1) := by decide +kernel
theorem dL_law_211 : decode cL_law 211 = .ok (.ireturn, 1) := by decide +kernel
theorem dL_law_212 : decode cL_law 212 = .ok (.aload_n 1, 1) := by decide +kernel
theorem dL_law_213 : decode cL_law 213 = .ok (.invokevirtual 23, 3) := by decide +kernel
theorem dL_law_216 : decode cL_law 216 = .ok (.aload_n 2, 1) := by decide +kernel
theorem dL_law_217 : decode cL_law 217 = .ok (.invokevirtual 26, 3) := by decide +kernel
theorem dL_law_220 : decode cL_law 220 = .ok (.if_icmp .eq 752, 3) := by decide +kernel
theorem dL_law_223 : decode cL_law 223 = .ok (.iconst 0, 1) := by decide +kernel
theorem dL_law_224 : decode cL_law 224 = .ok (.ireturn, 1) := by decide +kernel
theorem dL_law_225 : decode cL_law 225 = .ok (.aload_n 1, 1) := by decide +kernel
theorem dL_law_226 : decode cL_law 226 = .ok (.aload_n 0, 1) := by decide +kernel
theorem dL_law_227 : decode cL_law 227 = .ok (.iload_n 3, 1) := by decide +kernel
theorem dL_law_228 : decode cL_law 228 = .ok (.iconst 1, 1) := by decide +kernel
theorem dL_law_229 : decode cL_law 229 = .ok (.iadd, 1) := by decide +kernel
theorem dL_law_230 : decode cL_law 230 = .ok (.iaload, 1) := by decide +kernel
theorem dL_law_231 : decode cL_law 231 = .ok (.invokevirtual 27, 3) := by decide +kernel
theorem dL_law_234 : decode cL_law 234 = .ok (.aload_n 2, 1) := by decide +kernel
theorem dL_law_235 : decode cL_law 235 = .ok (.aload_n 0, 1) := by decide +kernel
theorem dL_law_236 : decode cL_law 236 = .ok (.iload_n 3, 1) := by decide +kernel
theorem dL_law_237 : decode cL_law 237 = .ok (.iconst 1, 1) := by decide +kernel
theorem dL_law_238 : decode cL_law 238 = .ok (.iadd, 1) := by decide +kernel
theorem dL_law_239 : decode cL_law 239 = .ok (.iaload, 1) := by decide +kernel
theorem dL_law_240 : decode cL_law 240 = .ok (.invokevirtual 30, 3) := by decide +kernel
theorem dL_law_243 : decode cL_law 243 = .ok (.if_icmp .eq 729, 3) := by decide +kernel
theorem dL_law_246 : decode cL_law 246 = .ok (.iconst 0, 1) := by decide +kernel
theorem dL_law_247 : decode cL_law 247 = .ok (.ireturn, 1) := by decide +kernel
theorem dL_law_248 : decode cL_law 248 = .ok (.aload_n 1, 1) := by decide +kernel
theorem dL_law_249 : decode cL_law 249 = .ok (.aload_n 0, 1) := by decide +kernel
theorem dL_law_250 : decode cL_law 250 = .ok (.iload_n 3, 1) := by decide +kernel
theorem dL_law_251 : decode cL_law 251 = .ok (.iconst 1, 1) := by decide +kernel
theorem dL_law_252 : decode cL_law 252 = .ok (.iadd, 1) := by decide +kernel
theorem dL_law_253 : decode cL_law 253 = .ok (.iaload, 1) := by decide +kernel
theorem dL_law_254 : decode cL_law 254 = .ok (.aload_n 0, 1) := by decide +kernel
theorem dL_law_255 : decode cL_law 255 = .ok (.iload_n 3, 1) := by decide +kernel
theorem dL_law_256 : decode cL_law 256 = .ok (.iconst 2, 1) := by decide +kernel
theorem dL_law_257 : decode cL_law 257 = .ok (.iadd, 1) := by decide +kernel
theorem dL_law_258 : decode cL_law 258 = .ok (.iaload, 1) := by decide +kernel
theorem dL_law_259 : decode cL_law 259 = .ok (.invokevirtual 31, 3) := by decide +kernel
theorem dL_law_262 : decode cL_law 262 = .ok (.aload_n 2, 1) := by decide +kernel
theorem dL_law_263 : decode cL_law 263 = .ok (.aload_n 0, 1) := by decide +kernel
theorem dL_law_264 : decode cL_law 264 = .ok (.iload_n 3, 1) := by decide +kernel
theorem dL_law_265 : decode cL_law 265 = .ok (.iconst 1, 1) := by decide +kernel
theorem dL_law_266 : decode cL_law 266 = .ok (.iadd, 1) := by decide +kernel
theorem dL_law_267 : decode cL_law 267 = .ok (.iaload, 1) := by decide +kernel
theorem dL_law_268 : decode cL_law 268 = .ok (.aload_n 0, 1) := by decide +kernel
theorem dL_law_269 : decode cL_law 269 = .ok (.iload_n 3, 1) := by decide +kernel
theorem dL_law_270 : decode cL_law 270 = .ok (.iconst 2, 1) := by decide +kernel
theorem dL_law_271 : decode cL_law 271 = .ok (.iadd, 1) := by decide +kernel
theorem dL_law_272 : decode cL_law 272 = .ok (.iaload, 1) := by decide +kernel
theorem dL_law_273 : decode cL_law 273 = .ok (.invokevirtual 35, 3) := by decide +kernel
theorem dL_law_276 : decode cL_law 276 = .ok (.if_icmp .eq 696, 3) := by decide +kernel
theorem dL_law_279 : decode cL_law 279 = .ok (.iconst 0, 1) := by decide +kernel
theorem dL_law_280 : decode cL_law 280 = .ok (.ireturn, 1) := by decide +kernel
theorem dL_law_281 : decode cL_law 281 = .ok (.aload_n 1, 1) := by decide +kernel
theorem dL_law_282 : decode cL_law 282 = .ok (.aload_n 0, 1) := by decide +kernel
theorem dL_law_283 : decode cL_law 283 = .ok (.iload_n 3, 1) := by decide +kernel
theorem dL_law_284 : decode cL_law 284 = .ok (.iconst 1, 1) := by decide +kernel
theorem dL_law_285 : decode cL_law 285 = .ok (.iadd, 1) := by decide +kernel
theorem dL_law_286 : decode cL_law 286 = .ok (.iaload, 1) := by decide +kernel
theorem dL_law_287 : decode cL_law 287 = .ok (.aload_n 0, 1) := by decide +kernel
theorem dL_law_288 : decode cL_law 288 = .ok (.iload_n 3, 1) := by decide +kernel
theorem dL_law_289 : decode cL_law 289 = .ok (.iconst 2, 1) := by decide +kernel
theorem dL_law_290 : decode cL_law 290 = .ok (.iadd, 1) := by decide +kernel
theorem dL_law_291 : decode cL_law 291 = .ok (.iaload, 1) := by decide +kernel
theorem dL_law_292 : decode cL_law 292 = .ok (.invokevirtual 36, 3) := by decide +kernel
theorem dL_law_295 : decode cL_law 295 = .ok (.aload_n 2, 1) := by decide +kernel
theorem dL_law_296 : decode cL_law 296 = .ok (.aload_n 0, 1) := by decide +kernel
theorem dL_law_297 : decode cL_law 297 = .ok (.iload_n 3, 1) := by decide +kernel
theorem dL_law_298 : decode cL_law 298 = .ok (.iconst 1, 1) := by decide +kernel
theorem dL_law_299 : decode cL_law 299 = .ok (.iadd, 1) := by decide +kernel
theorem dL_law_300 : decode cL_law 300 = .ok (.iaload, 1) := by decide +kernel
theorem dL_law_301 : decode cL_law 301 = .ok (.aload_n 0, 1) := by decide +kernel
theorem dL_law_302 : decode cL_law 302 = .ok (.iload_n 3, 1) := by decide +kernel
theorem dL_law_303 : decode cL_law 303 = .ok (.iconst 2, 1) := by decide +kernel
theorem dL_law_304 : decode cL_law 304 = .ok (.iadd, 1) := by decide +kernel
theorem dL_law_305 : decode cL_law 305 = .ok (.iaload, 1) := by decide +kernel
theorem dL_law_306 : decode cL_law 306 = .ok (.invokevirtual 39, 3) := by decide +kernel
theorem dL_law_309 : decode cL_law 309 = .ok (.if_icmp .eq 663, 3) := by decide +kernel
theorem dL_law_312 : decode cL_law 312 = .ok (.iconst 0, 1) := by decide +kernel
theorem dL_law_313 : decode cL_law 313 = .ok (.ireturn, 1) := by decide +kernel
theorem dL_law_314 : decode cL_law 314 = .ok (.aload_n 1, 1) := by decide +kernel
theorem dL_law_315 : decode cL_law 315 = .ok (.aload_n 0, 1) := by decide +kernel
theorem dL_law_316 : decode cL_law 316 = .ok (.iload_n 3, 1) := by decide +kernel
theorem dL_law_317 : decode cL_law 317 = .ok (.iconst 1, 1) := by decide +kernel
theorem dL_law_318 : decode cL_law 318 = .ok (.iadd, 1) := by decide +kernel
theorem dL_law_319 : decode cL_law 319 = .ok (.iaload, 1) := by decide +kernel
theorem dL_law_320 : decode cL_law 320 = .ok (.aload_n 0, 1) := by decide +kernel
theorem dL_law_321 : decode cL_law 321 = .ok (.iload_n 3, 1) := by decide +kernel
theorem dL_law_322 : decode cL_law 322 = .ok (.iconst 2, 1) := by decide +kernel
theorem dL_law_323 : decode cL_law 323 = .ok (.iadd, 1) := by decide +kernel
theorem dL_law_324 : decode cL_law 324 = .ok (.iaload, 1) := by decide +kernel
theorem dL_law_325 : decode cL_law 325 = .ok (.invokevirtual 40, 3) := by decide +kernel
theorem dL_law_328 : decode cL_law 328 = .ok (.aload_n 2, 1) := by decide +kernel
theorem dL_law_329 : decode cL_law 329 = .ok (.aload_n 0, 1) := by decide +kernel
theorem dL_law_330 : decode cL_law 330 = .ok (.iload_n 3, 1) := by decide +kernel
theorem dL_law_331 : decode cL_law 331 = .ok (.iconst 1, 1) := by decide +kernel
theorem dL_law_332 : decode cL_law 332 = .ok (.iadd, 1) := by decide +kernel
theorem dL_law_333 : decode cL_law 333 = .ok (.iaload, 1) := by decide +kernel
theorem dL_law_334 : decode cL_law 334 = .ok (.aload_n 0, 1) := by decide +kernel
theorem dL_law_335 : decode cL_law 335 = .ok (.iload_n 3, 1) := by decide +kernel
theorem dL_law_336 : decode cL_law 336 = .ok (.iconst 2, 1) := by decide +kernel
theorem dL_law_337 : decode cL_law 337 = .ok (.iadd, 1) := by decide +kernel
theorem dL_law_338 : decode cL_law 338 = .ok (.iaload, 1) := by decide +kernel
theorem dL_law_339 : decode cL_law 339 = .ok (.invokevirtual 43, 3) := by decide +kernel
theorem dL_law_342 : decode cL_law 342 = .ok (.if_icmp .eq 630, 3) := by decide +kernel
theorem dL_law_345 : decode cL_law 345 = .ok (.iconst 0, 1) := by decide +kernel
theorem dL_law_346 : decode cL_law 346 = .ok (.ireturn, 1) := by decide +kernel
theorem dL_law_347 : decode cL_law 347 = .ok (.aload_n 1, 1) := by decide +kernel
theorem dL_law_348 : decode cL_law 348 = .ok (.aload_n 0, 1) := by decide +kernel
theorem dL_law_349 : decode cL_law 349 = .ok (.iload_n 3, 1) := by decide +kernel
theorem dL_law_350 : decode cL_law 350 = .ok (.iconst 1, 1) := by decide +kernel
theorem dL_law_351 : decode cL_law 351 = .ok (.iadd, 1) := by decide +kernel
theorem dL_law_352 : decode cL_law 352 = .ok (.iaload, 1) := by decide +kernel
theorem dL_law_353 : decode cL_law 353 = .ok (.aload_n 0, 1) := by decide +kernel
theorem dL_law_354 : decode cL_law 354 = .ok (.iload_n 3, 1) := by decide +kernel
theorem dL_law_355 : decode cL_law 355 = .ok (.iconst 2, 1) := by decide +kernel
theorem dL_law_356 : decode cL_law 356 = .ok (.iadd, 1) := by decide +kernel
theorem dL_law_357 : decode cL_law 357 = .ok (.iaload, 1) := by decide +kernel
theorem dL_law_358 : decode cL_law 358 = .ok (.invokevirtual 44, 3) := by decide +kernel
theorem dL_law_361 : decode cL_law 361 = .ok (.aload_n 2, 1) := by decide +kernel
theorem dL_law_362 : decode cL_law 362 = .ok (.aload_n 0, 1) := by decide +kernel
theorem dL_law_363 : decode cL_law 363 = .ok (.iload_n 3, 1) := by decide +kernel
theorem dL_law_364 : decode cL_law 364 = .ok (.iconst 1, 1) := by decide +kernel
theorem dL_law_365 : decode cL_law 365 = .ok (.iadd, 1) := by decide +kernel
theorem dL_law_366 : decode cL_law 366 = .ok (.iaload, 1) := by decide +kernel
theorem dL_law_367 : decode cL_law 367 = .ok (.aload_n 0, 1) := by decide +kernel
theorem dL_law_368 : decode cL_law 368 = .ok (.iload_n 3, 1) := by decide +kernel
theorem dL_law_369 : decode cL_law 369 = .ok (.iconst 2, 1) := by decide +kernel
theorem dL_law_370 : decode cL_law 370 = .ok (.iadd, 1) := by decide +kernel
theorem dL_law_371 : decode cL_law 371 = .ok (.iaload, 1) := by decide +kernel
theorem dL_law_372 : decode cL_law 372 = .ok (.invokevirtual 47, 3) := by decide +kernel
theorem dL_law_375 : decode cL_law 375 = .ok (.if_icmp .eq 597, 3) := by decide +kernel
theorem dL_law_378 : decode cL_law 378 = .ok (.iconst 0, 1) := by decide +kernel
theorem dL_law_379 : decode cL_law 379 = .ok (.ireturn, 1) := by decide +kernel
theorem dL_law_380 : decode cL_law 380 = .ok (.aload_n 1, 1) := by decide +kernel
theorem dL_law_381 : decode cL_law 381 = .ok (.aload_n 0, 1) := by decide +kernel
theorem dL_law_382 : decode cL_law 382 = .ok (.iload_n 3, 1) := by decide +kernel
theorem dL_law_383 : decode cL_law 383 = .ok (.iconst 1, 1) := by decide +kernel
theorem dL_law_384 : decode cL_law 384 = .ok (.iadd, 1) := by decide +kernel
theorem dL_law_385 : decode cL_law 385 = .ok (.iaload, 1) := by decide +kernel
theorem dL_law_386 : decode cL_law 386 = .ok (.invokevirtual 48, 3) := by decide +kernel
theorem dL_law_389 : decode cL_law 389 = .ok (.aload_n 2, 1) := by decide +kernel
theorem dL_law_390 : decode cL_law 390 = .ok (.aload_n 0, 1) := by decide +kernel
theorem dL_law_391 : decode cL_law 391 = .ok (.iload_n 3, 1) := by decide +kernel
theorem dL_law_392 : decode cL_law 392 = .ok (.iconst 1, 1) := by decide +kernel
theorem dL_law_393 : decode cL_law 393 = .ok (.iadd, 1) := by decide +kernel
theorem dL_law_394 : decode cL_law 394 = .ok (.iaload, 1) := by decide +kernel
theorem dL_law_395 : decode cL_law 395 = .ok (.invokevirtual 51, 3) := by decide +kernel
theorem dL_law_398 : decode cL_law 398 = .ok (.if_icmp .eq 574, 3) := by decide +kernel
theorem dL_law_401 : decode cL_law 401 = .ok (.iconst 0, 1) := by decide +kernel
theorem dL_law_402 : decode cL_law 402 = .ok (.ireturn, 1) := by decide +kernel
theorem dL_law_403 : decode cL_law 403 = .ok (.aload_n 1, 1) := by decide +kernel
theorem dL_law_404 : decode cL_law 404 = .ok (.aload_n 0, 1) := by decide +kernel
theorem dL_law_405 : decode cL_law 405 = .ok (.iload_n 3, 1) := by decide +kernel
theorem dL_law_406 : decode cL_law 406 = .ok (.iconst 1, 1) := by decide +kernel
theorem dL_law_407 : decode cL_law 407 = .ok (.iadd, 1) := by decide +kernel
theorem dL_law_408 : decode cL_law 408 = .ok (.iaload, 1) := by decide +kernel
theorem dL_law_409 : decode cL_law 409 = .ok (.invokevirtual 52, 3) := by decide +kernel
theorem dL_law_412 : decode cL_law 412 = .ok (.aload_n 2, 1) := by decide +kernel
theorem dL_law_413 : decode cL_law 413 = .ok (.aload_n 0, 1) := by decide +kernel
theorem dL_law_414 : decode cL_law 414 = .ok (.iload_n 3, 1) := by decide +kernel
theorem dL_law_415 : decode cL_law 415 = .ok (.iconst 1, 1) := by decide +kernel
theorem dL_law_416 : decode cL_law 416 = .ok (.iadd, 1) := by decide +kernel
theorem dL_law_417 : decode cL_law 417 = .ok (.iaload, 1) := by decide +kernel
theorem dL_law_418 : decode cL_law 418 = .ok (.invokevirtual 55, 3) := by decide +kernel
theorem dL_law_421 : decode cL_law 421 = .ok (.if_icmp .eq 551, 3) := by decide +kernel
theorem dL_law_424 : decode cL_law 424 = .ok (.iconst 0, 1) := by decide +kernel
theorem dL_law_425 : decode cL_law 425 = .ok (.ireturn, 1) := by decide +kernel
theorem dL_law_426 : decode cL_law 426 = .ok (.aload_n 1, 1) := by decide +kernel
theorem dL_law_427 : decode cL_law 427 = .ok (.aload_n 0, 1) := by decide +kernel
theorem dL_law_428 : decode cL_law 428 = .ok (.iload_n 3, 1) := by decide +kernel
theorem dL_law_429 : decode cL_law 429 = .ok (.iconst 1, 1) := by decide +kernel
theorem dL_law_430 : decode cL_law 430 = .ok (.iadd, 1) := by decide +kernel
theorem dL_law_431 : decode cL_law 431 = .ok (.iaload, 1) := by decide +kernel
theorem dL_law_432 : decode cL_law 432 = .ok (.invokevirtual 56, 3) := by decide +kernel
theorem dL_law_435 : decode cL_law 435 = .ok (.aload_n 2, 1) := by decide +kernel
theorem dL_law_436 : decode cL_law 436 = .ok (.aload_n 0, 1) := by decide +kernel
theorem dL_law_437 : decode cL_law 437 = .ok (.iload_n 3, 1) := by decide +kernel
theorem dL_law_438 : decode cL_law 438 = .ok (.iconst 1, 1) := by decide +kernel
theorem dL_law_439 : decode cL_law 439 = .ok (.iadd, 1) := by decide +kernel
theorem dL_law_440 : decode cL_law 440 = .ok (.iaload, 1) := by decide +kernel
theorem dL_law_441 : decode cL_law 441 = .ok (.invokevirtual 59, 3) := by decide +kernel
theorem dL_law_444 : decode cL_law 444 = .ok (.if_icmp .eq 528, 3) := by decide +kernel
theorem dL_law_447 : decode cL_law 447 = .ok (.iconst 0, 1) := by decide +kernel
theorem dL_law_448 : decode cL_law 448 = .ok (.ireturn, 1) := by decide +kernel
theorem dL_law_449 : decode cL_law 449 = .ok (.aload_n 1, 1) := by decide +kernel
theorem dL_law_450 : decode cL_law 450 = .ok (.invokevirtual 60, 3) := by decide +kernel
theorem dL_law_453 : decode cL_law 453 = .ok (.aload_n 2, 1) := by decide +kernel
theorem dL_law_454 : decode cL_law 454 = .ok (.invokevirtual 63, 3) := by decide +kernel
theorem dL_law_457 : decode cL_law 457 = .ok (.if_icmp .eq 515, 3) := by decide +kernel
theorem dL_law_460 : decode cL_law 460 = .ok (.iconst 0, 1) := by decide +kernel
theorem dL_law_461 : decode cL_law 461 = .ok (.ireturn, 1) := by decide +kernel
theorem dL_law_462 : decode cL_law 462 = .ok (.aload_n 1, 1) := by decide +kernel
theorem dL_law_463 : decode cL_law 463 = .ok (.aload_n 0, 1) := by decide +kernel
theorem dL_law_464 : decode cL_law 464 = .ok (.iload_n 3, 1) := by decide +kernel
theorem dL_law_465 : decode cL_law 465 = .ok (.iconst 1, 1) := by decide +kernel
theorem dL_law_466 : decode cL_law 466 = .ok (.iadd, 1) := by decide +kernel
theorem dL_law_467 : decode cL_law 467 = .ok (.iaload, 1) := by decide +kernel
theorem dL_law_468 : decode cL_law 468 = .ok (.invokevirtual 64, 3) := by decide +kernel
theorem dL_law_471 : decode cL_law 471 = .ok (.aload_n 2, 1) := by decide +kernel
theorem dL_law_472 : decode cL_law 472 = .ok (.aload_n 0, 1) := by decide +kernel
theorem dL_law_473 : decode cL_law 473 = .ok (.iload_n 3, 1) := by decide +kernel
theorem dL_law_474 : decode cL_law 474 = .ok (.iconst 1, 1) := by decide +kernel
theorem dL_law_475 : decode cL_law 475 = .ok (.iadd, 1) := by decide +kernel
theorem dL_law_476 : decode cL_law 476 = .ok (.iaload, 1) := by decide +kernel
theorem dL_law_477 : decode cL_law 477 = .ok (.invokevirtual 67, 3) := by decide +kernel
theorem dL_law_480 : decode cL_law 480 = .ok (.if_icmp .eq 492, 3) := by decide +kernel
theorem dL_law_483 : decode cL_law 483 = .ok (.iconst 0, 1) := by decide +kernel
theorem dL_law_484 : decode cL_law 484 = .ok (.ireturn, 1) := by decide +kernel
theorem dL_law_485 : decode cL_law 485 = .ok (.aload_n 1, 1) := by decide +kernel
theorem dL_law_486 : decode cL_law 486 = .ok (.aload_n 0, 1) := by decide +kernel
theorem dL_law_487 : decode cL_law 487 = .ok (.iload_n 3, 1) := by decide +kernel
theorem dL_law_488 : decode cL_law 488 = .ok (.iconst 1, 1) := by decide +kernel
theorem dL_law_489 : decode cL_law 489 = .ok (.iadd, 1) := by decide +kernel
theorem dL_law_490 : decode cL_law 490 = .ok (.iaload, 1) := by decide +kernel
theorem dL_law_491 : decode cL_law 491 = .ok (.invokevirtual 68, 3) := by decide +kernel
theorem dL_law_494 : decode cL_law 494 = .ok (.aload_n 2, 1) := by decide +kernel
theorem dL_law_495 : decode cL_law 495 = .ok (.aload_n 0, 1) := by decide +kernel
theorem dL_law_496 : decode cL_law 496 = .ok (.iload_n 3, 1) := by decide +kernel
theorem dL_law_497 : decode cL_law 497 = .ok (.iconst 1, 1) := by decide +kernel
theorem dL_law_498 : decode cL_law 498 = .ok (.iadd, 1) := by decide +kernel
theorem dL_law_499 : decode cL_law 499 = .ok (.iaload, 1) := by decide +kernel
theorem dL_law_500 : decode cL_law 500 = .ok (.invokevirtual 71, 3) := by decide +kernel
theorem dL_law_503 : decode cL_law 503 = .ok (.if_icmp .eq 469, 3) := by decide +kernel
theorem dL_law_506 : decode cL_law 506 = .ok (.iconst 0, 1) := by decide +kernel
theorem dL_law_507 : decode cL_law 507 = .ok (.ireturn, 1) := by decide +kernel
theorem dL_law_508 : decode cL_law 508 = .ok (.aload_n 1, 1) := by decide +kernel
theorem dL_law_509 : decode cL_law 509 = .ok (.aload_n 0, 1) := by decide +kernel
theorem dL_law_510 : decode cL_law 510 = .ok (.iload_n 3, 1) := by decide +kernel
theorem dL_law_511 : decode cL_law 511 = .ok (.iconst 1, 1) := by decide +kernel
theorem dL_law_512 : decode cL_law 512 = .ok (.iadd, 1) := by decide +kernel
theorem dL_law_513 : decode cL_law 513 = .ok (.iaload, 1) := by decide +kernel
theorem dL_law_514 : decode cL_law 514 = .ok (.invokevirtual 72, 3) := by decide +kernel
theorem dL_law_517 : decode cL_law 517 = .ok (.aload_n 2, 1) := by decide +kernel
theorem dL_law_518 : decode cL_law 518 = .ok (.aload_n 0, 1) := by decide +kernel
theorem dL_law_519 : decode cL_law 519 = .ok (.iload_n 3, 1) := by decide +kernel
theorem dL_law_520 : decode cL_law 520 = .ok (.iconst 1, 1) := by decide +kernel
theorem dL_law_521 : decode cL_law 521 = .ok (.iadd, 1) := by decide +kernel
theorem dL_law_522 : decode cL_law 522 = .ok (.iaload, 1) := by decide +kernel
theorem dL_law_523 : decode cL_law 523 = .ok (.invokevirtual 75, 3) := by decide +kernel
theorem dL_law_526 : decode cL_law 526 = .ok (.if_icmp .eq 446, 3) := by decide +kernel
theorem dL_law_529 : decode cL_law 529 = .ok (.iconst 0, 1) := by decide +kernel
theorem dL_law_530 : decode cL_law 530 = .ok (.ireturn, 1) := by decide +kernel
theorem dL_law_531 : decode cL_law 531 = .ok (.aload_n 1, 1) := by decide +kernel
theorem dL_law_532 : decode cL_law 532 = .ok (.aload_n 0, 1) := by decide +kernel
theorem dL_law_533 : decode cL_law 533 = .ok (.iload_n 3, 1) := by decide +kernel
theorem dL_law_534 : decode cL_law 534 = .ok (.iconst 1, 1) := by decide +kernel
theorem dL_law_535 : decode cL_law 535 = .ok (.iadd, 1) := by decide +kernel
theorem dL_law_536 : decode cL_law 536 = .ok (.iaload, 1) := by decide +kernel
theorem dL_law_537 : decode cL_law 537 = .ok (.invokevirtual 76, 3) := by decide +kernel
theorem dL_law_540 : decode cL_law 540 = .ok (.aload_n 2, 1) := by decide +kernel
theorem dL_law_541 : decode cL_law 541 = .ok (.aload_n 0, 1) := by decide +kernel
theorem dL_law_542 : decode cL_law 542 = .ok (.iload_n 3, 1) := by decide +kernel
theorem dL_law_543 : decode cL_law 543 = .ok (.iconst 1, 1) := by decide +kernel
theorem dL_law_544 : decode cL_law 544 = .ok (.iadd, 1) := by decide +kernel
theorem dL_law_545 : decode cL_law 545 = .ok (.iaload, 1) := by decide +kernel
theorem dL_law_546 : decode cL_law 546 = .ok (.invokevirtual 79, 3) := by decide +kernel
theorem dL_law_549 : decode cL_law 549 = .ok (.if_icmp .eq 423, 3) := by decide +kernel
theorem dL_law_552 : decode cL_law 552 = .ok (.iconst 0, 1) := by decide +kernel
theorem dL_law_553 : decode cL_law 553 = .ok (.ireturn, 1) := by decide +kernel
theorem dL_law_554 : decode cL_law 554 = .ok (.aload_n 1, 1) := by decide +kernel
theorem dL_law_555 : decode cL_law 555 = .ok (.aload_n 0, 1) := by decide +kernel
theorem dL_law_556 : decode cL_law 556 = .ok (.iload_n 3, 1) := by decide +kernel
theorem dL_law_557 : decode cL_law 557 = .ok (.iconst 1, 1) := by decide +kernel
theorem dL_law_558 : decode cL_law 558 = .ok (.iadd, 1) := by decide +kernel
theorem dL_law_559 : decode cL_law 559 = .ok (.iaload, 1) := by decide +kernel
theorem dL_law_560 : decode cL_law 560 = .ok (.invokevirtual 80, 3) := by decide +kernel
theorem dL_law_563 : decode cL_law 563 = .ok (.aload_n 2, 1) := by decide +kernel
theorem dL_law_564 : decode cL_law 564 = .ok (.aload_n 0, 1) := by decide +kernel
theorem dL_law_565 : decode cL_law 565 = .ok (.iload_n 3, 1) := by decide +kernel
theorem dL_law_566 : decode cL_law 566 = .ok (.iconst 1, 1) := by decide +kernel
theorem dL_law_567 : decode cL_law 567 = .ok (.iadd, 1) := by decide +kernel
theorem dL_law_568 : decode cL_law 568 = .ok (.iaload, 1) := by decide +kernel
theorem dL_law_569 : decode cL_law 569 = .ok (.invokevirtual 83, 3) := by decide +kernel
theorem dL_law_572 : decode cL_law 572 = .ok (.if_icmp .eq 400, 3) := by decide +kernel
theorem dL_law_575 : decode cL_law 575 = .ok (.iconst 0, 1) := by decide +kernel
theorem dL_law_576 : decode cL_law 576 = .ok (.ireturn, 1) := by decide +kernel
theorem dL_law_577 : decode cL_law 577 = .ok (.aload_n 1, 1) := by decide +kernel
theorem dL_law_578 : decode cL_law 578 = .ok (.aload_n 0, 1) := by decide +kernel
theorem dL_law_579 : decode cL_law 579 = .ok (.iload_n 3, 1) := by decide +kernel
theorem dL_law_580 : decode cL_law 580 = .ok (.iconst 1, 1) := by decide +kernel
theorem dL_law_581 : decode cL_law 581 = .ok (.iadd, 1) := by decide +kernel
theorem dL_law_582 : decode cL_law 582 = .ok (.iaload, 1) := by decide +kernel
theorem dL_law_583 : decode cL_law 583 = .ok (.aload_n 0, 1) := by decide +kernel
theorem dL_law_584 : decode cL_law 584 = .ok (.iload_n 3, 1) := by decide +kernel
theorem dL_law_585 : decode cL_law 585 = .ok (.iconst 2, 1) := by decide +kernel
theorem dL_law_586 : decode cL_law 586 = .ok (.iadd, 1) := by decide +kernel
theorem dL_law_587 : decode cL_law 587 = .ok (.iaload, 1) := by decide +kernel
theorem dL_law_588 : decode cL_law 588 = .ok (.aload_n 0, 1) := by decide +kernel
theorem dL_law_589 : decode cL_law 589 = .ok (.iload_n 3, 1) := by decide +kernel
theorem dL_law_590 : decode cL_law 590 = .ok (.iconst 3, 1) := by decide +kernel
theorem dL_law_591 : decode cL_law 591 = .ok (.iadd, 1) := by decide +kernel
theorem dL_law_592 : decode cL_law 592 = .ok (.iaload, 1) := by decide +kernel
theorem dL_law_593 : decode cL_law 593 = .ok (.invokevirtual 84, 3) := by decide +kernel
theorem dL_law_596 : decode cL_law 596 = .ok (.aload_n 2, 1) := by decide +kernel
theorem dL_law_597 : decode cL_law 597 = .ok (.aload_n 0, 1) := by decide +kernel
theorem dL_law_598 : decode cL_law 598 = .ok (.iload_n 3, 1) := by decide +kernel
theorem dL_law_599 : decode cL_law 599 = .ok (.iconst 1, 1) := by decide +kernel
theorem dL_law_600 : decode cL_law 600 = .ok (.iadd, 1) := by decide +kernel
theorem dL_law_601 : decode cL_law 601 = .ok (.iaload, 1) := by decide +kernel
theorem dL_law_602 : decode cL_law 602 = .ok (.aload_n 0, 1) := by decide +kernel
theorem dL_law_603 : decode cL_law 603 = .ok (.iload_n 3, 1) := by decide +kernel
theorem dL_law_604 : decode cL_law 604 = .ok (.iconst 2, 1) := by decide +kernel
theorem dL_law_605 : decode cL_law 605 = .ok (.iadd, 1) := by decide +kernel
theorem dL_law_606 : decode cL_law 606 = .ok (.iaload, 1) := by decide +kernel
theorem dL_law_607 : decode cL_law 607 = .ok (.aload_n 0, 1) := by decide +kernel
theorem dL_law_608 : decode cL_law 608 = .ok (.iload_n 3, 1) := by decide +kernel
theorem dL_law_609 : decode cL_law 609 = .ok (.iconst 3, 1) := by decide +kernel
theorem dL_law_610 : decode cL_law 610 = .ok (.iadd, 1) := by decide +kernel
theorem dL_law_611 : decode cL_law 611 = .ok (.iaload, 1) := by decide +kernel
theorem dL_law_612 : decode cL_law 612 = .ok (.invokevirtual 88, 3) := by decide +kernel
theorem dL_law_615 : decode cL_law 615 = .ok (.if_icmp .eq 357, 3) := by decide +kernel
theorem dL_law_618 : decode cL_law 618 = .ok (.iconst 0, 1) := by decide +kernel
theorem dL_law_619 : decode cL_law 619 = .ok (.ireturn, 1) := by decide +kernel
theorem dL_law_620 : decode cL_law 620 = .ok (.aload_n 1, 1) := by decide +kernel
theorem dL_law_621 : decode cL_law 621 = .ok (.aload_n 0, 1) := by decide +kernel
theorem dL_law_622 : decode cL_law 622 = .ok (.iload_n 3, 1) := by decide +kernel
theorem dL_law_623 : decode cL_law 623 = .ok (.iconst 1, 1) := by decide +kernel
theorem dL_law_624 : decode cL_law 624 = .ok (.iadd, 1) := by decide +kernel
theorem dL_law_625 : decode cL_law 625 = .ok (.iaload, 1) := by decide +kernel
theorem dL_law_626 : decode cL_law 626 = .ok (.invokevirtual 89, 3) := by decide +kernel
theorem dL_law_629 : decode cL_law 629 = .ok (.aload_n 2, 1) := by decide +kernel
theorem dL_law_630 : decode cL_law 630 = .ok (.aload_n 0, 1) := by decide +kernel
theorem dL_law_631 : decode cL_law 631 = .ok (.iload_n 3, 1) := by decide +kernel
theorem dL_law_632 : decode cL_law 632 = .ok (.iconst 1, 1) := by decide +kernel
theorem dL_law_633 : decode cL_law 633 = .ok (.iadd, 1) := by decide +kernel
theorem dL_law_634 : decode cL_law 634 = .ok (.iaload, 1) := by decide +kernel
theorem dL_law_635 : decode cL_law 635 = .ok (.invokevirtual 92, 3) := by decide +kernel
theorem dL_law_638 : decode cL_law 638 = .ok (.if_icmp .eq 334, 3) := by decide +kernel
theorem dL_law_641 : decode cL_law 641 = .ok (.iconst 0, 1) := by decide +kernel
theorem dL_law_642 : decode cL_law 642 = .ok (.ireturn, 1) := by decide +kernel
theorem dL_law_643 : decode cL_law 643 = .ok (.aload_n 1, 1) := by decide +kernel
theorem dL_law_644 : decode cL_law 644 = .ok (.aload_n 0, 1) := by decide +kernel
theorem dL_law_645 : decode cL_law 645 = .ok (.iload_n 3, 1) := by decide +kernel
theorem dL_law_646 : decode cL_law 646 = .ok (.iconst 1, 1) := by decide +kernel
theorem dL_law_647 : decode cL_law 647 = .ok (.iadd, 1) := by decide +kernel
theorem dL_law_648 : decode cL_law 648 = .ok (.iaload, 1) := by decide +kernel
theorem dL_law_649 : decode cL_law 649 = .ok (.aload_n 0, 1) := by decide +kernel
theorem dL_law_650 : decode cL_law 650 = .ok (.iload_n 3, 1) := by decide +kernel
theorem dL_law_651 : decode cL_law 651 = .ok (.iconst 2, 1) := by decide +kernel
theorem dL_law_652 : decode cL_law 652 = .ok (.iadd, 1) := by decide +kernel
theorem dL_law_653 : decode cL_law 653 = .ok (.iaload, 1) := by decide +kernel
theorem dL_law_654 : decode cL_law 654 = .ok (.aload_n 0, 1) := by decide +kernel
theorem dL_law_655 : decode cL_law 655 = .ok (.iload_n 3, 1) := by decide +kernel
theorem dL_law_656 : decode cL_law 656 = .ok (.iconst 3, 1) := by decide +kernel
theorem dL_law_657 : decode cL_law 657 = .ok (.iadd, 1) := by decide +kernel
theorem dL_law_658 : decode cL_law 658 = .ok (.iaload, 1) := by decide +kernel
theorem dL_law_659 : decode cL_law 659 = .ok (.invokevirtual 93, 3) := by decide +kernel
theorem dL_law_662 : decode cL_law 662 = .ok (.aload_n 2, 1) := by decide +kernel
theorem dL_law_663 : decode cL_law 663 = .ok (.aload_n 0, 1) := by decide +kernel
theorem dL_law_664 : decode cL_law 664 = .ok (.iload_n 3, 1) := by decide +kernel
theorem dL_law_665 : decode cL_law 665 = .ok (.iconst 1, 1) := by decide +kernel
theorem dL_law_666 : decode cL_law 666 = .ok (.iadd, 1) := by decide +kernel
theorem dL_law_667 : decode cL_law 667 = .ok (.iaload, 1) := by decide +kernel
theorem dL_law_668 : decode cL_law 668 = .ok (.aload_n 0, 1) := by decide +kernel
theorem dL_law_669 : decode cL_law 669 = .ok (.iload_n 3, 1) := by decide +kernel
theorem dL_law_670 : decode cL_law 670 = .ok (.iconst 2, 1) := by decide +kernel
theorem dL_law_671 : decode cL_law 671 = .ok (.iadd, 1) := by decide +kernel
theorem dL_law_672 : decode cL_law 672 = .ok (.iaload, 1) := by decide +kernel
theorem dL_law_673 : decode cL_law 673 = .ok (.aload_n 0, 1) := by decide +kernel
theorem dL_law_674 : decode cL_law 674 = .ok (.iload_n 3, 1) := by decide +kernel
theorem dL_law_675 : decode cL_law 675 = .ok (.iconst 3, 1) := by decide +kernel
theorem dL_law_676 : decode cL_law 676 = .ok (.iadd, 1) := by decide +kernel
theorem dL_law_677 : decode cL_law 677 = .ok (.iaload, 1) := by decide +kernel
theorem dL_law_678 : decode cL_law 678 = .ok (.invokevirtual 96, 3) := by decide +kernel
theorem dL_law_681 : decode cL_law 681 = .ok (.if_icmp .eq 291, 3) := by decide +kernel
theorem dL_law_684 : decode cL_law 684 = .ok (.iconst 0, 1) := by decide +kernel
theorem dL_law_685 : decode cL_law 685 = .ok (.ireturn, 1) := by decide +kernel
theorem dL_law_686 : decode cL_law 686 = .ok (.aload_n 1, 1) := by decide +kernel
theorem dL_law_687 : decode cL_law 687 = .ok (.aload_n 0, 1) := by decide +kernel
theorem dL_law_688 : decode cL_law 688 = .ok (.iload_n 3, 1) := by decide +kernel
theorem dL_law_689 : decode cL_law 689 = .ok (.iconst 1, 1) := by decide +kernel
theorem dL_law_690 : decode cL_law 690 = .ok (.iadd, 1) := by decide +kernel
theorem dL_law_691 : decode cL_law 691 = .ok (.iaload, 1) := by decide +kernel
theorem dL_law_692 : decode cL_law 692 = .ok (.aload_n 0, 1) := by decide +kernel
theorem dL_law_693 : decode cL_law 693 = .ok (.iload_n 3, 1) := by decide +kernel
theorem dL_law_694 : decode cL_law 694 = .ok (.iconst 2, 1) := by decide +kernel
theorem dL_law_695 : decode cL_law 695 = .ok (.iadd, 1) := by decide +kernel
theorem dL_law_696 : decode cL_law 696 = .ok (.iaload, 1) := by decide +kernel
theorem dL_law_697 : decode cL_law 697 = .ok (.aload_n 0, 1) := by decide +kernel
theorem dL_law_698 : decode cL_law 698 = .ok (.iload_n 3, 1) := by decide +kernel
theorem dL_law_699 : decode cL_law 699 = .ok (.iconst 3, 1) := by decide +kernel
theorem dL_law_700 : decode cL_law 700 = .ok (.iadd, 1) := by decide +kernel
theorem dL_law_701 : decode cL_law 701 = .ok (.iaload, 1) := by decide +kernel
theorem dL_law_702 : decode cL_law 702 = .ok (.aload_n 0, 1) := by decide +kernel
theorem dL_law_703 : decode cL_law 703 = .ok (.iload_n 3, 1) := by decide +kernel
theorem dL_law_704 : decode cL_law 704 = .ok (.iconst 4, 1) := by decide +kernel
theorem dL_law_705 : decode cL_law 705 = .ok (.iadd, 1) := by decide +kernel
theorem dL_law_706 : decode cL_law 706 = .ok (.iaload, 1) := by decide +kernel
theorem dL_law_707 : decode cL_law 707 = .ok (.invokevirtual 97, 3) := by decide +kernel
theorem dL_law_710 : decode cL_law 710 = .ok (.aload_n 2, 1) := by decide +kernel
theorem dL_law_711 : decode cL_law 711 = .ok (.aload_n 0, 1) := by decide +kernel
theorem dL_law_712 : decode cL_law 712 = .ok (.iload_n 3, 1) := by decide +kernel
theorem dL_law_713 : decode cL_law 713 = .ok (.iconst 1, 1) := by decide +kernel
theorem dL_law_714 : decode cL_law 714 = .ok (.iadd, 1) := by decide +kernel
theorem dL_law_715 : decode cL_law 715 = .ok (.iaload, 1) := by decide +kernel
theorem dL_law_716 : decode cL_law 716 = .ok (.aload_n 0, 1) := by decide +kernel
theorem dL_law_717 : decode cL_law 717 = .ok (.iload_n 3, 1) := by decide +kernel
theorem dL_law_718 : decode cL_law 718 = .ok (.iconst 2, 1) := by decide +kernel
theorem dL_law_719 : decode cL_law 719 = .ok (.iadd, 1) := by decide +kernel
theorem dL_law_720 : decode cL_law 720 = .ok (.iaload, 1) := by decide +kernel
theorem dL_law_721 : decode cL_law 721 = .ok (.aload_n 0, 1) := by decide +kernel
theorem dL_law_722 : decode cL_law 722 = .ok (.iload_n 3, 1) := by decide +kernel
theorem dL_law_723 : decode cL_law 723 = .ok (.iconst 3, 1) := by decide +kernel
theorem dL_law_724 : decode cL_law 724 = .ok (.iadd, 1) := by decide +kernel
theorem dL_law_725 : decode cL_law 725 = .ok (.iaload, 1) := by decide +kernel
theorem dL_law_726 : decode cL_law 726 = .ok (.aload_n 0, 1) := by decide +kernel
theorem dL_law_727 : decode cL_law 727 = .ok (.iload_n 3, 1) := by decide +kernel
theorem dL_law_728 : decode cL_law 728 = .ok (.iconst 4, 1) := by decide +kernel
theorem dL_law_729 : decode cL_law 729 = .ok (.iadd, 1) := by decide +kernel
theorem dL_law_730 : decode cL_law 730 = .ok (.iaload, 1) := by decide +kernel
theorem dL_law_731 : decode cL_law 731 = .ok (.invokevirtual 101, 3) := by decide +kernel
theorem dL_law_734 : decode cL_law 734 = .ok (.if_icmp .eq 238, 3) := by decide +kernel
theorem dL_law_737 : decode cL_law 737 = .ok (.iconst 0, 1) := by decide +kernel
theorem dL_law_738 : decode cL_law 738 = .ok (.ireturn, 1) := by decide +kernel
theorem dL_law_739 : decode cL_law 739 = .ok (.aload_n 1, 1) := by decide +kernel
theorem dL_law_740 : decode cL_law 740 = .ok (.aload_n 0, 1) := by decide +kernel
theorem dL_law_741 : decode cL_law 741 = .ok (.iload_n 3, 1) := by decide +kernel
theorem dL_law_742 : decode cL_law 742 = .ok (.iconst 1, 1) := by decide +kernel
theorem dL_law_743 : decode cL_law 743 = .ok (.iadd, 1) := by decide +kernel
theorem dL_law_744 : decode cL_law 744 = .ok (.iaload, 1) := by decide +kernel
theorem dL_law_745 : decode cL_law 745 = .ok (.invokevirtual 102, 3) := by decide +kernel
theorem dL_law_748 : decode cL_law 748 = .ok (.aload_n 2, 1) := by decide +kernel
theorem dL_law_749 : decode cL_law 749 = .ok (.aload_n 0, 1) := by decide +kernel
theorem dL_law_750 : decode cL_law 750 = .ok (.iload_n 3, 1) := by decide +kernel
theorem dL_law_751 : decode cL_law 751 = .ok (.iconst 1, 1) := by decide +kernel
theorem dL_law_752 : decode cL_law 752 = .ok (.iadd, 1) := by decide +kernel
theorem dL_law_753 : decode cL_law 753 = .ok (.iaload, 1) := by decide +kernel
theorem dL_law_754 : decode cL_law 754 = .ok (.invokevirtual 105, 3) := by decide +kernel
theorem dL_law_757 : decode cL_law 757 = .ok (.if_icmp .eq 215, 3) := by decide +kernel
theorem dL_law_760 : decode cL_law 760 = .ok (.iconst 0, 1) := by decide +kernel
theorem dL_law_761 : decode cL_law 761 = .ok (.ireturn, 1) := by decide +kernel
theorem dL_law_762 : decode cL_law 762 = .ok (.aload_n 1, 1) := by decide +kernel
theorem dL_law_763 : decode cL_law 763 = .ok (.invokevirtual 106, 3) := by decide +kernel
theorem dL_law_766 : decode cL_law 766 = .ok (.aload_n 2, 1) := by decide +kernel
theorem dL_law_767 : decode cL_law 767 = .ok (.invokevirtual 109, 3) := by decide +kernel
theorem dL_law_770 : decode cL_law 770 = .ok (.if_icmp .eq 202, 3) := by decide +kernel
theorem dL_law_773 : decode cL_law 773 = .ok (.iconst 0, 1) := by decide +kernel
theorem dL_law_774 : decode cL_law 774 = .ok (.ireturn, 1) := by decide +kernel
theorem dL_law_775 : decode cL_law 775 = .ok (.aload_n 1, 1) := by decide +kernel
theorem dL_law_776 : decode cL_law 776 = .ok (.aload_n 0, 1) := by decide +kernel
theorem dL_law_777 : decode cL_law 777 = .ok (.iload_n 3, 1) := by decide +kernel
theorem dL_law_778 : decode cL_law 778 = .ok (.iconst 1, 1) := by decide +kernel
theorem dL_law_779 : decode cL_law 779 = .ok (.iadd, 1) := by decide +kernel
theorem dL_law_780 : decode cL_law 780 = .ok (.iaload, 1) := by decide +kernel
theorem dL_law_781 : decode cL_law 781 = .ok (.aload_n 0, 1) := by decide +kernel
theorem dL_law_782 : decode cL_law 782 = .ok (.iload_n 3, 1) := by decide +kernel
theorem dL_law_783 : decode cL_law 783 = .ok (.iconst 2, 1) := by decide +kernel
theorem dL_law_784 : decode cL_law 784 = .ok (.iadd, 1) := by decide +kernel
theorem dL_law_785 : decode cL_law 785 = .ok (.iaload, 1) := by decide +kernel
theorem dL_law_786 : decode cL_law 786 = .ok (.invokevirtual 110, 3) := by decide +kernel
theorem dL_law_789 : decode cL_law 789 = .ok (.aload_n 2, 1) := by decide +kernel
theorem dL_law_790 : decode cL_law 790 = .ok (.aload_n 0, 1) := by decide +kernel
theorem dL_law_791 : decode cL_law 791 = .ok (.iload_n 3, 1) := by decide +kernel
theorem dL_law_792 : decode cL_law 792 = .ok (.iconst 1, 1) := by decide +kernel
theorem dL_law_793 : decode cL_law 793 = .ok (.iadd, 1) := by decide +kernel
theorem dL_law_794 : decode cL_law 794 = .ok (.iaload, 1) := by decide +kernel
theorem dL_law_795 : decode cL_law 795 = .ok (.aload_n 0, 1) := by decide +kernel
theorem dL_law_796 : decode cL_law 796 = .ok (.iload_n 3, 1) := by decide +kernel
theorem dL_law_797 : decode cL_law 797 = .ok (.iconst 2, 1) := by decide +kernel
theorem dL_law_798 : decode cL_law 798 = .ok (.iadd, 1) := by decide +kernel
theorem dL_law_799 : decode cL_law 799 = .ok (.iaload, 1) := by decide +kernel

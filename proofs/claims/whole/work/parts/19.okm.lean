def ab_inl : List Nat := [1, 0, 0, 1, 0, 0, 0, 1, 0, 0, 0, 0, 1, 0, 0, 0, 0, 0, 1, 0, 0, 1, 0, 0, 1, 0, 0, 0, 0, 0, 0, 0, 0, 0, 0, 0, 0, 1, 0, 0, 0, 1, 0, 0, 0, 0, 0, 0, 0, 1, 0, 0, 0, 0, 0, 0, 0, 0, 0, 0, 0, 0, 0, 0, 1, 0, 0, 0, 0, 0, 0, 0, 0, 0, 0, 0, 0, 0, 0, 0, 0, 0, 0, 0, 0, 0, 0, 0, 0, 0, 0, 0, 0, 0, 0, 0, 0, 0, 0, 0, 0, 0, 0, 0, 0, 0, 1, 0, 0, 0, 0, 0, 0, 0, 0, 0, 0, 0, 0, 0, 0, 0, 0, 0, 0, 0, 0, 0, 0, 0, 0, 0, 0, 0, 0, 0, 0, 0, 0, 0, 0, 0, 0, 0, 0, 0, 0, 0, 0, 0, 0, 0, 0, 0, 0, 0, 0, 0, 0, 0, 0, 0, 0, 0, 0, 0, 0, 0, 0, 0, 0, 0, 0, 0, 0, 0, 0, 0, 0, 0, 0, 0, 0, 0, 0, 0, 0, 0, 0, 0, 0, 0, 0, 0, 0]
def ab_ini (m : Nat) : Bool := match ab_inl.getD m 0 with
  | 0 => false
  | _ => true
set_option maxRecDepth 100000 in
theorem ab_ini0 : (List.range 195).all (fun m => !ab_ini m || decide ((ab_y m).name = "<init>")) = true := by decide +kernel
theorem ab_inin {m : Nat} (hm : m < 195) (h : ab_ini m = true) : (ab_y m).name = "<init>" := by
  have h1 := List.all_eq_true.mp ab_ini0 m (List.mem_range.mpr hm)
  rw [h] at h1
  simpa using h1
def ab_okP (m : Nat) : Prop := (ab_cds.getD m []).all (ab_enB (ab_oi' m) (ab_b m) (ab_ini m) (ab_rv m)) = true
set_option maxRecDepth 100000 in
theorem ab_okg_0 (m : Nat) (h1 : 0 ≤ m) (h2 : m < 13) : ab_okP m := by
  have hc : m = 0 ∨ m = 1 ∨ m = 2 ∨ m = 3 ∨ m = 4 ∨ m = 5 ∨ m = 6 ∨ m = 7 ∨ m = 8 ∨ m = 9 ∨ m = 10 ∨ m = 11 ∨ m = 12 := by omega
  rcases hc with rfl | rfl | rfl | rfl | rfl | rfl | rfl | rfl | rfl | rfl | rfl | rfl | rfl
  · exact ab_ok_0
  · exact ab_ok_1
  · exact ab_ok_2
  · exact ab_ok_3
  · exact ab_ok_4
  · exact ab_ok_5
  · exact ab_ok_6
  · exact ab_ok_7
  · exact ab_ok_8
  · exact ab_ok_9
  · exact ab_ok_10
  · exact ab_ok_11
  · exact ab_ok_12
set_option maxRecDepth 100000 in
theorem ab_okg_1 (m : Nat) (h1 : 13 ≤ m) (h2 : m < 26) : ab_okP m := by
  have hc : m = 13 ∨ m = 14 ∨ m = 15 ∨ m = 16 ∨ m = 17 ∨ m = 18 ∨ m = 19 ∨ m = 20 ∨ m = 21 ∨ m = 22 ∨ m = 23 ∨ m = 24 ∨ m = 25 := by omega
  rcases hc with rfl | rfl | rfl | rfl | rfl | rfl | rfl | rfl | rfl | rfl | rfl | rfl | rfl
  · exact ab_ok_13
  · exact ab_ok_14
  · exact ab_ok_15
  · exact ab_ok_16
  · exact ab_ok_17
  · exact ab_ok_18
  · exact ab_ok_19
  · exact ab_ok_20
  · exact ab_ok_21
  · exact ab_ok_22
  · exact ab_ok_23
  · exact ab_ok_24
  · exact ab_ok_25
set_option maxRecDepth 100000 in
theorem ab_okg_2 (m : Nat) (h1 : 26 ≤ m) (h2 : m < 39) : ab_okP m := by
  have hc : m = 26 ∨ m = 27 ∨ m = 28 ∨ m = 29 ∨ m = 30 ∨ m = 31 ∨ m = 32 ∨ m = 33 ∨ m = 34 ∨ m = 35 ∨ m = 36 ∨ m = 37 ∨ m = 38 := by omega
  rcases hc with rfl | rfl | rfl | rfl | rfl | rfl | rfl | rfl | rfl | rfl | rfl | rfl | rfl
  · exact ab_ok_26
  · exact ab_ok_27
  · exact ab_ok_28
  · exact ab_ok_29
  · exact ab_ok_30
  · exact ab_ok_31
  · exact ab_ok_32
  · exact ab_ok_33
  · exact ab_ok_34
  · exact ab_ok_35
  · exact ab_ok_36
  · exact ab_ok_37
  · exact ab_ok_38
set_option maxRecDepth 100000 in
theorem ab_okg_3 (m : Nat) (h1 : 39 ≤ m) (h2 : m < 52) : ab_okP m := by
  have hc : m = 39 ∨ m = 40 ∨ m = 41 ∨ m = 42 ∨ m = 43 ∨ m = 44 ∨ m = 45 ∨ m = 46 ∨ m = 47 ∨ m = 48 ∨ m = 49 ∨ m = 50 ∨ m = 51 := by omega
  rcases hc with rfl | rfl | rfl | rfl | rfl | rfl | rfl | rfl | rfl | rfl | rfl | rfl | rfl
  · exact ab_ok_39
  · exact ab_ok_40
  · exact ab_ok_41
  · exact ab_ok_42
  · exact ab_ok_43
  · exact ab_ok_44
  · exact ab_ok_45
  · exact ab_ok_46
  · exact ab_ok_47
  · exact ab_ok_48
  · exact ab_ok_49
  · exact ab_ok_50
  · exact ab_ok_51
set_option maxRecDepth 100000 in
theorem ab_okg_4 (m : Nat) (h1 : 52 ≤ m) (h2 : m < 65) : ab_okP m := by
  have hc : m = 52 ∨ m = 53 ∨ m = 54 ∨ m = 55 ∨ m = 56 ∨ m = 57 ∨ m = 58 ∨ m = 59 ∨ m = 60 ∨ m = 61 ∨ m = 62 ∨ m = 63 ∨ m = 64 := by omega
  rcases hc with rfl | rfl | rfl | rfl | rfl | rfl | rfl | rfl | rfl | rfl | rfl | rfl | rfl
  · exact ab_ok_52
  · exact ab_ok_53
  · exact ab_ok_54
  · exact ab_ok_55
  · exact ab_ok_56
  · exact ab_ok_57
  · exact ab_ok_58
  · exact ab_ok_59
  · exact ab_ok_60
  · exact ab_ok_61
  · exact ab_ok_62
  · exact ab_ok_63
  · exact ab_ok_64
set_option maxRecDepth 100000 in
theorem ab_okg_5 (m : Nat) (h1 : 65 ≤ m) (h2 : m < 78) : ab_okP m := by
  have hc : m = 65 ∨ m = 66 ∨ m = 67 ∨ m = 68 ∨ m = 69 ∨ m = 70 ∨ m = 71 ∨ m = 72 ∨ m = 73 ∨ m = 74 ∨ m = 75 ∨ m = 76 ∨ m = 77 := by omega
  rcases hc with rfl | rfl | rfl | rfl | rfl | rfl | rfl | rfl | rfl | rfl | rfl | rfl | rfl
  · exact ab_ok_65
  · exact ab_ok_66
  · exact ab_ok_67
  · exact ab_ok_68
  · exact ab_ok_69
  · exact ab_ok_70
  · exact ab_ok_71
  · exact ab_ok_72
  · exact ab_ok_73
  · exact ab_ok_74
  · exact ab_ok_75
  · exact ab_ok_76
  · exact ab_ok_77
set_option maxRecDepth 100000 in
theorem ab_okg_6 (m : Nat) (h1 : 78 ≤ m) (h2 : m < 91) : ab_okP m := by
  have hc : m = 78 ∨ m = 79 ∨ m = 80 ∨ m = 81 ∨ m = 82 ∨ m = 83 ∨ m = 84 ∨ m = 85 ∨ m = 86 ∨ m = 87 ∨ m = 88 ∨ m = 89 ∨ m = 90 := by omega
  rcases hc with rfl | rfl | rfl | rfl | rfl | rfl | rfl | rfl | rfl | rfl | rfl | rfl | rfl
  · exact ab_ok_78
  · exact ab_ok_79
  · exact ab_ok_80
  · exact ab_ok_81
  · exact ab_ok_82
  · exact ab_ok_83
  · exact ab_ok_84
  · exact ab_ok_85
  · exact ab_ok_86
  · exact ab_ok_87
  · exact ab_ok_88
  · exact ab_ok_89
  · exact ab_ok_90
set_option maxRecDepth 100000 in
theorem ab_okg_7 (m : Nat) (h1 : 91 ≤ m) (h2 : m < 104) : ab_okP m := by
  have hc : m = 91 ∨ m = 92 ∨ m = 93 ∨ m = 94 ∨ m = 95 ∨ m = 96 ∨ m = 97 ∨ m = 98 ∨ m = 99 ∨ m = 100 ∨ m = 101 ∨ m = 102 ∨ m = 103 := by omega
  rcases hc with rfl | rfl | rfl | rfl | rfl | rfl | rfl | rfl | rfl | rfl | rfl | rfl | rfl
  · exact ab_ok_91
  · exact ab_ok_92
  · exact ab_ok_93
  · exact ab_ok_94
  · exact ab_ok_95
  · exact ab_ok_96
  · exact ab_ok_97
  · exact ab_ok_98
  · exact ab_ok_99
  · exact ab_ok_100
  · exact ab_ok_101
  · exact ab_ok_102
  · exact ab_ok_103
set_option maxRecDepth 100000 in
theorem ab_okg_8 (m : Nat) (h1 : 104 ≤ m) (h2 : m < 117) : ab_okP m := by
  have hc : m = 104 ∨ m = 105 ∨ m = 106 ∨ m = 107 ∨ m = 108 ∨ m = 109 ∨ m = 110 ∨ m = 111 ∨ m = 112 ∨ m = 113 ∨ m = 114 ∨ m = 115 ∨ m = 116 := by omega
  rcases hc with rfl | rfl | rfl | rfl | rfl | rfl | rfl | rfl | rfl | rfl | rfl | rfl | rfl
  · exact ab_ok_104
  · exact ab_ok_105
  · exact ab_ok_106
  · exact ab_ok_107
  · exact ab_ok_108
  · exact ab_ok_109
  · exact ab_ok_110
  · exact ab_ok_111
  · exact ab_ok_112
  · exact ab_ok_113
  · exact ab_ok_114
  · exact ab_ok_115
  · exact ab_ok_116
set_option maxRecDepth 100000 in
theorem ab_okg_9 (m : Nat) (h1 : 117 ≤ m) (h2 : m < 130) : ab_okP m := by
  have hc : m = 117 ∨ m = 118 ∨ m = 119 ∨ m = 120 ∨ m = 121 ∨ m = 122 ∨ m = 123 ∨ m = 124 ∨ m = 125 ∨ m = 126 ∨ m = 127 ∨ m = 128 ∨ m = 129 := by omega
  rcases hc with rfl | rfl | rfl | rfl | rfl | rfl | rfl | rfl | rfl | rfl | rfl | rfl | rfl
  · exact ab_ok_117
  · exact ab_ok_118
  · exact ab_ok_119
  · exact ab_ok_120
  · exact ab_ok_121
  · exact ab_ok_122
  · exact ab_ok_123
  · exact ab_ok_124
  · exact ab_ok_125
  · exact ab_ok_126
  · exact ab_ok_127
  · exact ab_ok_128
  · exact ab_ok_129
set_option maxRecDepth 100000 in
theorem ab_okg_10 (m : Nat) (h1 : 130 ≤ m) (h2 : m < 143) : ab_okP m := by
  have hc : m = 130 ∨ m = 131 ∨ m = 132 ∨ m = 133 ∨ m = 134 ∨ m = 135 ∨ m = 136 ∨ m = 137 ∨ m = 138 ∨ m = 139 ∨ m = 140 ∨ m = 141 ∨ m = 142 := by omega
  rcases hc with rfl | rfl | rfl | rfl | rfl | rfl | rfl | rfl | rfl | rfl | rfl | rfl | rfl
  · exact ab_ok_130
  · exact ab_ok_131
  · exact ab_ok_132
  · exact ab_ok_133
  · exact ab_ok_134
  · exact ab_ok_135
  · exact ab_ok_136
  · exact ab_ok_137
  · exact ab_ok_138
  · exact ab_ok_139
  · exact ab_ok_140
  · exact ab_ok_141
  · exact ab_ok_142
set_option maxRecDepth 100000 in
theorem ab_okg_11 (m : Nat) (h1 : 143 ≤ m) (h2 : m < 156) : ab_okP m := by
  have hc : m = 143 ∨ m = 144 ∨ m = 145 ∨ m = 146 ∨ m = 147 ∨ m = 148 ∨ m = 149 ∨ m = 150 ∨ m = 151 ∨ m = 152 ∨ m = 153 ∨ m = 154 ∨ m = 155 := by omega
  rcases hc with rfl | rfl | rfl | rfl | rfl | rfl | rfl | rfl | rfl | rfl | rfl | rfl | rfl
  · exact ab_ok_143
  · exact ab_ok_144
  · exact ab_ok_145
  · exact ab_ok_146
  · exact ab_ok_147
  · exact ab_ok_148
  · exact ab_ok_149
  · exact ab_ok_150
  · exact ab_ok_151
  · exact ab_ok_152
  · exact ab_ok_153
  · exact ab_ok_154
  · exact ab_ok_155
set_option maxRecDepth 100000 in
theorem ab_okg_12 (m : Nat) (h1 : 156 ≤ m) (h2 : m < 169) : ab_okP m := by
  have hc : m = 156 ∨ m = 157 ∨ m = 158 ∨ m = 159 ∨ m = 160 ∨ m = 161 ∨ m = 162 ∨ m = 163 ∨ m = 164 ∨ m = 165 ∨ m = 166 ∨ m = 167 ∨ m = 168 := by omega
  rcases hc with rfl | rfl | rfl | rfl | rfl | rfl | rfl | rfl | rfl | rfl | rfl | rfl | rfl
  · exact ab_ok_156
  · exact ab_ok_157
  · exact ab_ok_158
  · exact ab_ok_159
  · exact ab_ok_160
  · exact ab_ok_161
  · exact ab_ok_162
  · exact ab_ok_163
  · exact ab_ok_164
  · exact ab_ok_165
  · exact ab_ok_166
  · exact ab_ok_167
  · exact ab_ok_168
set_option maxRecDepth 100000 in
theorem ab_okg_13 (m : Nat) (h1 : 169 ≤ m) (h2 : m < 182) : ab_okP m := by
  have hc : m = 169 ∨ m = 170 ∨ m = 171 ∨ m = 172 ∨ m = 173 ∨ m = 174 ∨ m = 175 ∨ m = 176 ∨ m = 177 ∨ m = 178 ∨ m = 179 ∨ m = 180 ∨ m = 181 := by omega
  rcases hc with rfl | rfl | rfl | rfl | rfl | rfl | rfl | rfl | rfl | rfl | rfl | rfl | rfl
  · exact ab_ok_169
  · exact ab_ok_170
  · exact ab_ok_171
  · exact ab_ok_172
  · exact ab_ok_173
  · exact ab_ok_174
  · exact ab_ok_175
  · exact ab_ok_176
  · exact ab_ok_177
  · exact ab_ok_178
  · exact ab_ok_179
  · exact ab_ok_180
  · exact ab_ok_181
set_option maxRecDepth 100000 in
theorem ab_okg_14 (m : Nat) (h1 : 182 ≤ m) (h2 : m < 195) : ab_okP m := by
  have hc : m = 182 ∨ m = 183 ∨ m = 184 ∨ m = 185 ∨ m = 186 ∨ m = 187 ∨ m = 188 ∨ m = 189 ∨ m = 190 ∨ m = 191 ∨ m = 192 ∨ m = 193 ∨ m = 194 := by omega
  rcases hc with rfl | rfl | rfl | rfl | rfl | rfl | rfl | rfl | rfl | rfl | rfl | rfl | rfl
  · exact ab_ok_182
  · exact ab_ok_183
  · exact ab_ok_184
  · exact ab_ok_185
  · exact ab_ok_186
  · exact ab_ok_187
  · exact ab_ok_188
  · exact ab_ok_189
  · exact ab_ok_190
  · exact ab_ok_191
  · exact ab_ok_192
  · exact ab_ok_193
  · exact ab_ok_194
theorem ab_okall (m : Nat) (hm : m < 195) : ab_okP m := by
  by_cases h0 : m < 13
  · exact ab_okg_0 m (by omega) h0
  by_cases h1 : m < 26
  · exact ab_okg_1 m (by omega) h1
  by_cases h2 : m < 39
  · exact ab_okg_2 m (by omega) h2
  by_cases h3 : m < 52
  · exact ab_okg_3 m (by omega) h3
  by_cases h4 : m < 65
  · exact ab_okg_4 m (by omega) h4
  by_cases h5 : m < 78
  · exact ab_okg_5 m (by omega) h5
  by_cases h6 : m < 91
  · exact ab_okg_6 m (by omega) h6
  by_cases h7 : m < 104
  · exact ab_okg_7 m (by omega) h7
  by_cases h8 : m < 117
  · exact ab_okg_8 m (by omega) h8
  by_cases h9 : m < 130
  · exact ab_okg_9 m (by omega) h9
  by_cases h10 : m < 143
  · exact ab_okg_10 m (by omega) h10
  by_cases h11 : m < 156
  · exact ab_okg_11 m (by omega) h11
  by_cases h12 : m < 169
  · exact ab_okg_12 m (by omega) h12
  by_cases h13 : m < 182
  · exact ab_okg_13 m (by omega) h13
  by_cases h14 : m < 195
  · exact ab_okg_14 m (by omega) h14
  omega
theorem ab_fd_mem : ∀ (l : List (Nat × ab_E)) (pc : Nat) (en : ab_E), ab_fd l pc = some en → (pc, en) ∈ l
  | [], _, _, h => by cases h
  | (q, x) :: t, pc, en, h => by
    unfold ab_fd at h
    split at h
    next hq => cases h; rw [hq]; exact List.mem_cons_self
    next => exact List.mem_cons_of_mem _ (ab_fd_mem t pc en h)
theorem ab_aten {m pc : Nat} {en : ab_E} (hm : m < 195) (h : ab_at m pc = some en) : ab_enB (ab_oi' m) (ab_b m) (ab_ini m) (ab_rv m) (pc, en) = true := List.all_eq_true.mp (ab_okall m hm) _ (ab_fd_mem _ _ _ h)

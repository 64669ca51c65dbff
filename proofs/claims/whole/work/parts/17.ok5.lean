set_option maxRecDepth 100000 in
theorem ab_ok_176_0 : ab_c176_0.all (ab_enB 10 cX11_findDays false (some .int)) = true := by decide +kernel
set_option maxRecDepth 100000 in
theorem ab_ok_176_1 : ab_c176_1.all (ab_enB 10 cX11_findDays false (some .int)) = true := by decide +kernel
set_option maxRecDepth 100000 in
theorem ab_ok_176_2 : ab_c176_2.all (ab_enB 10 cX11_findDays false (some .int)) = true := by decide +kernel
theorem ab_ok_176 : ab_c176.all (ab_enB 10 cX11_findDays false (some .int)) = true := ab_all_app ab_ok_176_0 (ab_all_app ab_ok_176_1 (ab_ok_176_2))
set_option maxRecDepth 100000 in
theorem ab_ok_177 : ab_c177.all (ab_enB 10 cX11_days false (some .int)) = true := by decide +kernel
set_option maxRecDepth 100000 in
theorem ab_ok_178 : ab_c178.all (ab_enB 10 cX11_where false (some .int)) = true := by decide +kernel
set_option maxRecDepth 100000 in
theorem ab_ok_179_0 : ab_c179_0.all (ab_enB 10 cX11_write false (some .int)) = true := by decide +kernel
set_option maxRecDepth 100000 in
theorem ab_ok_179_1 : ab_c179_1.all (ab_enB 10 cX11_write false (some .int)) = true := by decide +kernel
theorem ab_ok_179 : ab_c179.all (ab_enB 10 cX11_write false (some .int)) = true := ab_all_app ab_ok_179_0 (ab_ok_179_1)
set_option maxRecDepth 100000 in
theorem ab_ok_180_0 : ab_c180_0.all (ab_enB 10 cX11_judge false (some .int)) = true := by decide +kernel
set_option maxRecDepth 100000 in
theorem ab_ok_180_1 : ab_c180_1.all (ab_enB 10 cX11_judge false (some .int)) = true := by decide +kernel
theorem ab_ok_180 : ab_c180.all (ab_enB 10 cX11_judge false (some .int)) = true := ab_all_app ab_ok_180_0 (ab_ok_180_1)
set_option maxRecDepth 100000 in
theorem ab_ok_181 : ab_c181.all (ab_enB 10 cX11_tear false (some .int)) = true := by decide +kernel
set_option maxRecDepth 100000 in
theorem ab_ok_182 : ab_c182.all (ab_enB 10 cX11_seed false (some .int)) = true := by decide +kernel
set_option maxRecDepth 100000 in
theorem ab_ok_183_0 : ab_c183_0.all (ab_enB 10 cX11_keep false (some .int)) = true := by decide +kernel
set_option maxRecDepth 100000 in
theorem ab_ok_183_1 : ab_c183_1.all (ab_enB 10 cX11_keep false (some .int)) = true := by decide +kernel
theorem ab_ok_183 : ab_c183.all (ab_enB 10 cX11_keep false (some .int)) = true := ab_all_app ab_ok_183_0 (ab_ok_183_1)
set_option maxRecDepth 100000 in
theorem ab_ok_184_0 : ab_c184_0.all (ab_enB 10 cX11_goBack false (some .int)) = true := by decide +kernel
set_option maxRecDepth 100000 in
theorem ab_ok_184_1 : ab_c184_1.all (ab_enB 10 cX11_goBack false (some .int)) = true := by decide +kernel
theorem ab_ok_184 : ab_c184.all (ab_enB 10 cX11_goBack false (some .int)) = true := ab_all_app ab_ok_184_0 (ab_ok_184_1)
set_option maxRecDepth 100000 in
theorem ab_ok_185 : ab_c185.all (ab_enB 14 cJ0_length_8abf5 false (some .int)) = true := by decide +kernel
set_option maxRecDepth 100000 in
theorem ab_ok_186 : ab_c186.all (ab_enB 14 cJ0_indexOf_0f7a4 false (some .int)) = true := by decide +kernel
set_option maxRecDepth 100000 in
theorem ab_ok_187 : ab_c187.all (ab_enB 14 cJ0_indexOf_7cf53 false (some .int)) = true := by decide +kernel
set_option maxRecDepth 100000 in
theorem ab_ok_188 : ab_c188.all (ab_enB 14 cJ0_coder_7d493 false (some .byte)) = true := by decide +kernel
set_option maxRecDepth 100000 in
theorem ab_ok_189 : ab_c189.all (ab_enB 14 cJ0_isLatin1_aae02 false (some .boolean)) = true := by decide +kernel
set_option maxRecDepth 100000 in
theorem ab_ok_190 : ab_c190.all (ab_enB 15 cJ1_canEncode_9a6ad false (some .boolean)) = true := by decide +kernel
set_option maxRecDepth 100000 in
theorem ab_ok_191 : ab_c191.all (ab_enB 15 cJ1_indexOf_4cfef false (some .int)) = true := by decide +kernel
set_option maxRecDepth 100000 in
theorem ab_ok_192 : ab_c192.all (ab_enB 15 cJ1_indexOfChar_4cfef false (some .int)) = true := by decide +kernel
set_option maxRecDepth 100000 in
theorem ab_ok_193 : ab_c193.all (ab_enB 16 cJ7_fill_53178 false (none)) = true := by decide +kernel
set_option maxRecDepth 100000 in
theorem ab_ok_194_0 : ab_c194_0.all (ab_enB 12 cL_law false (some .boolean)) = true := by decide +kernel
set_option maxRecDepth 100000 in
theorem ab_ok_194_1 : ab_c194_1.all (ab_enB 12 cL_law false (some .boolean)) = true := by decide +kernel
set_option maxRecDepth 100000 in
theorem ab_ok_194_2 : ab_c194_2.all (ab_enB 12 cL_law false (some .boolean)) = true := by decide +kernel
set_option maxRecDepth 100000 in
theorem ab_ok_194_3 : ab_c194_3.all (ab_enB 12 cL_law false (some .boolean)) = true := by decide +kernel
set_option maxRecDepth 100000 in
theorem ab_ok_194_4 : ab_c194_4.all (ab_enB 12 cL_law false (some .boolean)) = true := by decide +kernel
set_option maxRecDepth 100000 in
theorem ab_ok_194_5 : ab_c194_5.all (ab_enB 12 cL_law false (some .boolean)) = true := by decide +kernel
set_option maxRecDepth 100000 in
theorem ab_ok_194_6 : ab_c194_6.all (ab_enB 12 cL_law false (some .boolean)) = true := by decide +kernel
set_option maxRecDepth 100000 in
theorem ab_ok_194_7 : ab_c194_7.all (ab_enB 12 cL_law false (some .boolean)) = true := by decide +kernel
set_option maxRecDepth 100000 in
theorem ab_ok_194_8 : ab_c194_8.all (ab_enB 12 cL_law false (some .boolean)) = true := by decide +kernel
set_option maxRecDepth 100000 in
theorem ab_ok_194_9 : ab_c194_9.all (ab_enB 12 cL_law false (some .boolean)) = true := by decide +kernel
set_option maxRecDepth 100000 in
theorem ab_ok_194_10 : ab_c194_10.all (ab_enB 12 cL_law false (some .boolean)) = true := by decide +kernel
set_option maxRecDepth 100000 in
theorem ab_ok_194_11 : ab_c194_11.all (ab_enB 12 cL_law false (some .boolean)) = true := by decide +kernel
set_option maxRecDepth 100000 in
theorem ab_ok_194_12 : ab_c194_12.all (ab_enB 12 cL_law false (some .boolean)) = true := by decide +kernel
set_option maxRecDepth 100000 in
theorem ab_ok_194_13 : ab_c194_13.all (ab_enB 12 cL_law false (some .boolean)) = true := by decide +kernel
set_option maxRecDepth 100000 in
theorem ab_ok_194_14 : ab_c194_14.all (ab_enB 12 cL_law false (some .boolean)) = true := by decide +kernel
set_option maxRecDepth 100000 in
theorem ab_ok_194_15 : ab_c194_15.all (ab_enB 12 cL_law false (some .boolean)) = true := by decide +kernel
set_option maxRecDepth 100000 in
theorem ab_ok_194_16 : ab_c194_16.all (ab_enB 12 cL_law false (some .boolean)) = true := by decide +kernel
set_option maxRecDepth 100000 in
theorem ab_ok_194_17 : ab_c194_17.all (ab_enB 12 cL_law false (some .boolean)) = true := by decide +kernel
set_option maxRecDepth 100000 in
theorem ab_ok_194_18 : ab_c194_18.all (ab_enB 12 cL_law false (some .boolean)) = true := by decide +kernel
set_option maxRecDepth 100000 in
theorem ab_ok_194_19 : ab_c194_19.all (ab_enB 12 cL_law false (some .boolean)) = true := by decide +kernel
set_option maxRecDepth 100000 in
theorem ab_ok_194_20 : ab_c194_20.all (ab_enB 12 cL_law false (some .boolean)) = true := by decide +kernel
theorem ab_ok_194 : ab_c194.all (ab_enB 12 cL_law false (some .boolean)) = true := ab_all_app ab_ok_194_0 (ab_all_app ab_ok_194_1 (ab_all_app ab_ok_194_2 (ab_all_app ab_ok_194_3 (ab_all_app ab_ok_194_4 (ab_all_app ab_ok_194_5 (ab_all_app ab_ok_194_6 (ab_all_app ab_ok_194_7 (ab_all_app ab_ok_194_8 (ab_all_app ab_ok_194_9 (ab_all_app ab_ok_194_10 (ab_all_app ab_ok_194_11 (ab_all_app ab_ok_194_12 (ab_all_app ab_ok_194_13 (ab_all_app ab_ok_194_14 (ab_all_app ab_ok_194_15 (ab_all_app ab_ok_194_16 (ab_all_app ab_ok_194_17 (ab_all_app ab_ok_194_18 (ab_all_app ab_ok_194_19 (ab_ok_194_20))))))))))))))))))))

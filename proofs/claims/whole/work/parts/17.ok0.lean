set_option maxRecDepth 100000 in
theorem ab_ok_0 : ab_c0.all (ab_enB 0 cX0_init true (none)) = true := by decide +kernel
set_option maxRecDepth 100000 in
theorem ab_ok_1 : ab_c1.all (ab_enB 0 cX0_find false (none)) = true := by decide +kernel
set_option maxRecDepth 100000 in
theorem ab_ok_2_0 : ab_c2_0.all (ab_enB 0 cX0_meet false (none)) = true := by decide +kernel
set_option maxRecDepth 100000 in
theorem ab_ok_2_1 : ab_c2_1.all (ab_enB 0 cX0_meet false (none)) = true := by decide +kernel
theorem ab_ok_2 : ab_c2.all (ab_enB 0 cX0_meet false (none)) = true := ab_all_app ab_ok_2_0 (ab_ok_2_1)
set_option maxRecDepth 100000 in
theorem ab_ok_3 : ab_c3.all (ab_enB 1 cX1_init true (none)) = true := by decide +kernel
set_option maxRecDepth 100000 in
theorem ab_ok_4 : ab_c4.all (ab_enB 1 cX1_find false (none)) = true := by decide +kernel
set_option maxRecDepth 100000 in
theorem ab_ok_5_0 : ab_c5_0.all (ab_enB 1 cX1_lendOn false (none)) = true := by decide +kernel
set_option maxRecDepth 100000 in
theorem ab_ok_5_1 : ab_c5_1.all (ab_enB 1 cX1_lendOn false (none)) = true := by decide +kernel
set_option maxRecDepth 100000 in
theorem ab_ok_5_2 : ab_c5_2.all (ab_enB 1 cX1_lendOn false (none)) = true := by decide +kernel
theorem ab_ok_5 : ab_c5.all (ab_enB 1 cX1_lendOn false (none)) = true := ab_all_app ab_ok_5_0 (ab_all_app ab_ok_5_1 (ab_ok_5_2))
set_option maxRecDepth 100000 in
theorem ab_ok_6 : ab_c6.all (ab_enB 1 cX1_compare false (none)) = true := by decide +kernel
set_option maxRecDepth 100000 in
theorem ab_ok_7 : ab_c7.all (ab_enB 2 cX2_init true (none)) = true := by decide +kernel
set_option maxRecDepth 100000 in
theorem ab_ok_8 : ab_c8.all (ab_enB 2 cX2_place false (some .int)) = true := by decide +kernel
set_option maxRecDepth 100000 in
theorem ab_ok_9_0 : ab_c9_0.all (ab_enB 2 cX2_solve false (none)) = true := by decide +kernel
set_option maxRecDepth 100000 in
theorem ab_ok_9_1 : ab_c9_1.all (ab_enB 2 cX2_solve false (none)) = true := by decide +kernel
set_option maxRecDepth 100000 in
theorem ab_ok_9_2 : ab_c9_2.all (ab_enB 2 cX2_solve false (none)) = true := by decide +kernel
theorem ab_ok_9 : ab_c9.all (ab_enB 2 cX2_solve false (none)) = true := ab_all_app ab_ok_9_0 (ab_all_app ab_ok_9_1 (ab_ok_9_2))
set_option maxRecDepth 100000 in
theorem ab_ok_10_0 : ab_c10_0.all (ab_enB 2 cX2_decideAt false (some .boolean)) = true := by decide +kernel
set_option maxRecDepth 100000 in
theorem ab_ok_10_1 : ab_c10_1.all (ab_enB 2 cX2_decideAt false (some .boolean)) = true := by decide +kernel
theorem ab_ok_10 : ab_c10.all (ab_enB 2 cX2_decideAt false (some .boolean)) = true := ab_all_app ab_ok_10_0 (ab_ok_10_1)
set_option maxRecDepth 100000 in
theorem ab_ok_11_0 : ab_c11_0.all (ab_enB 2 cX2_decide false (some .boolean)) = true := by decide +kernel
set_option maxRecDepth 100000 in
theorem ab_ok_11_1 : ab_c11_1.all (ab_enB 2 cX2_decide false (some .boolean)) = true := by decide +kernel
set_option maxRecDepth 100000 in
theorem ab_ok_11_2 : ab_c11_2.all (ab_enB 2 cX2_decide false (some .boolean)) = true := by decide +kernel
set_option maxRecDepth 100000 in
theorem ab_ok_11_3 : ab_c11_3.all (ab_enB 2 cX2_decide false (some .boolean)) = true := by decide +kernel
theorem ab_ok_11 : ab_c11.all (ab_enB 2 cX2_decide false (some .boolean)) = true := ab_all_app ab_ok_11_0 (ab_all_app ab_ok_11_1 (ab_all_app ab_ok_11_2 (ab_ok_11_3)))
set_option maxRecDepth 100000 in
theorem ab_ok_12 : ab_c12.all (ab_enB 3 cX3_init true (none)) = true := by decide +kernel
set_option maxRecDepth 100000 in
theorem ab_ok_13 : ab_c13.all (ab_enB 3 cX3_add false (some .boolean)) = true := by decide +kernel
set_option maxRecDepth 100000 in
theorem ab_ok_14 : ab_c14.all (ab_enB 3 cX3_find false (none)) = true := by decide +kernel
set_option maxRecDepth 100000 in
theorem ab_ok_15 : ab_c15.all (ab_enB 3 cX3_meet false (none)) = true := by decide +kernel
set_option maxRecDepth 100000 in
theorem ab_ok_16 : ab_c16.all (ab_enB 3 cX3_agrees false (some .boolean)) = true := by decide +kernel
set_option maxRecDepth 100000 in
theorem ab_ok_17_0 : ab_c17_0.all (ab_enB 3 cX3_placeOf false (some .int)) = true := by decide +kernel
set_option maxRecDepth 100000 in
theorem ab_ok_17_1 : ab_c17_1.all (ab_enB 3 cX3_placeOf false (some .int)) = true := by decide +kernel
theorem ab_ok_17 : ab_c17.all (ab_enB 3 cX3_placeOf false (some .int)) = true := ab_all_app ab_ok_17_0 (ab_ok_17_1)
set_option maxRecDepth 100000 in
theorem ab_ok_18 : ab_c18.all (ab_enB 4 cX4_init true (none)) = true := by decide +kernel
set_option maxRecDepth 100000 in
theorem ab_ok_19 : ab_c19.all (ab_enB 4 cX4_add false (some .boolean)) = true := by decide +kernel
set_option maxRecDepth 100000 in
theorem ab_ok_20 : ab_c20.all (ab_enB 4 cX4_firstWrong false (some .int)) = true := by decide +kernel
set_option maxRecDepth 100000 in
theorem ab_ok_21 : ab_c21.all (ab_enB 5 cX5_init true (none)) = true := by decide +kernel
set_option maxRecDepth 100000 in
theorem ab_ok_22 : ab_c22.all (ab_enB 5 cX5_find false (none)) = true := by decide +kernel
set_option maxRecDepth 100000 in
theorem ab_ok_23 : ab_c23.all (ab_enB 5 cX5_meet false (none)) = true := by decide +kernel
set_option maxRecDepth 100000 in
theorem ab_ok_24 : ab_c24.all (ab_enB 6 cX6_init true (none)) = true := by decide +kernel
set_option maxRecDepth 100000 in
theorem ab_ok_25 : ab_c25.all (ab_enB 6 cX6_add false (some .boolean)) = true := by decide +kernel
set_option maxRecDepth 100000 in
theorem ab_ok_26_0 : ab_c26_0.all (ab_enB 6 cX6_read false (some .int)) = true := by decide +kernel
set_option maxRecDepth 100000 in
theorem ab_ok_26_1 : ab_c26_1.all (ab_enB 6 cX6_read false (some .int)) = true := by decide +kernel
theorem ab_ok_26 : ab_c26.all (ab_enB 6 cX6_read false (some .int)) = true := ab_all_app ab_ok_26_0 (ab_ok_26_1)
set_option maxRecDepth 100000 in
theorem ab_ok_27 : ab_c27.all (ab_enB 6 cX6_skipBlanks false (none)) = true := by decide +kernel
set_option maxRecDepth 100000 in
theorem ab_ok_28_0 : ab_c28_0.all (ab_enB 6 cX6_readClause false (none)) = true := by decide +kernel
set_option maxRecDepth 100000 in
theorem ab_ok_28_1 : ab_c28_1.all (ab_enB 6 cX6_readClause false (none)) = true := by decide +kernel
set_option maxRecDepth 100000 in
theorem ab_ok_28_2 : ab_c28_2.all (ab_enB 6 cX6_readClause false (none)) = true := by decide +kernel
theorem ab_ok_28 : ab_c28.all (ab_enB 6 cX6_readClause false (none)) = true := ab_all_app ab_ok_28_0 (ab_all_app ab_ok_28_1 (ab_ok_28_2))
set_option maxRecDepth 100000 in
theorem ab_ok_29_0 : ab_c29_0.all (ab_enB 6 cX6_readEnd false (none)) = true := by decide +kernel
set_option maxRecDepth 100000 in
theorem ab_ok_29_1 : ab_c29_1.all (ab_enB 6 cX6_readEnd false (none)) = true := by decide +kernel
theorem ab_ok_29 : ab_c29.all (ab_enB 6 cX6_readEnd false (none)) = true := ab_all_app ab_ok_29_0 (ab_ok_29_1)
set_option maxRecDepth 100000 in
theorem ab_ok_30 : ab_c30.all (ab_enB 6 cX6_isFigure false (some .boolean)) = true := by decide +kernel
set_option maxRecDepth 100000 in
theorem ab_ok_31_0 : ab_c31_0.all (ab_enB 6 cX6_readNumber false (none)) = true := by decide +kernel
set_option maxRecDepth 100000 in
theorem ab_ok_31_1 : ab_c31_1.all (ab_enB 6 cX6_readNumber false (none)) = true := by decide +kernel
set_option maxRecDepth 100000 in
theorem ab_ok_31_2 : ab_c31_2.all (ab_enB 6 cX6_readNumber false (none)) = true := by decide +kernel
set_option maxRecDepth 100000 in
theorem ab_ok_31_3 : ab_c31_3.all (ab_enB 6 cX6_readNumber false (none)) = true := by decide +kernel
theorem ab_ok_31 : ab_c31.all (ab_enB 6 cX6_readNumber false (none)) = true := ab_all_app ab_ok_31_0 (ab_all_app ab_ok_31_1 (ab_all_app ab_ok_31_2 (ab_ok_31_3)))
set_option maxRecDepth 100000 in
theorem ab_ok_32 : ab_c32.all (ab_enB 6 cX6_lowest false (some .int)) = true := by decide +kernel
set_option maxRecDepth 100000 in
theorem ab_ok_33_0 : ab_c33_0.all (ab_enB 6 cX6_highest false (some .int)) = true := by decide +kernel
set_option maxRecDepth 100000 in
theorem ab_ok_33_1 : ab_c33_1.all (ab_enB 6 cX6_highest false (some .int)) = true := by decide +kernel
set_option maxRecDepth 100000 in
theorem ab_ok_33_2 : ab_c33_2.all (ab_enB 6 cX6_highest false (some .int)) = true := by decide +kernel
theorem ab_ok_33 : ab_c33.all (ab_enB 6 cX6_highest false (some .int)) = true := ab_all_app ab_ok_33_0 (ab_all_app ab_ok_33_1 (ab_ok_33_2))
set_option maxRecDepth 100000 in
theorem ab_ok_34_0 : ab_c34_0.all (ab_enB 6 cX6_again false (some .boolean)) = true := by decide +kernel
set_option maxRecDepth 100000 in
theorem ab_ok_34_1 : ab_c34_1.all (ab_enB 6 cX6_again false (some .boolean)) = true := by decide +kernel
set_option maxRecDepth 100000 in
theorem ab_ok_34_2 : ab_c34_2.all (ab_enB 6 cX6_again false (some .boolean)) = true := by decide +kernel
theorem ab_ok_34 : ab_c34.all (ab_enB 6 cX6_again false (some .boolean)) = true := ab_all_app ab_ok_34_0 (ab_all_app ab_ok_34_1 (ab_ok_34_2))
set_option maxRecDepth 100000 in
theorem ab_ok_35_0 : ab_c35_0.all (ab_enB 6 cX6_take false (none)) = true := by decide +kernel
set_option maxRecDepth 100000 in
theorem ab_ok_35_1 : ab_c35_1.all (ab_enB 6 cX6_take false (none)) = true := by decide +kernel
set_option maxRecDepth 100000 in
theorem ab_ok_35_2 : ab_c35_2.all (ab_enB 6 cX6_take false (none)) = true := by decide +kernel
set_option maxRecDepth 100000 in
theorem ab_ok_35_3 : ab_c35_3.all (ab_enB 6 cX6_take false (none)) = true := by decide +kernel
set_option maxRecDepth 100000 in
theorem ab_ok_35_4 : ab_c35_4.all (ab_enB 6 cX6_take false (none)) = true := by decide +kernel
theorem ab_ok_35 : ab_c35.all (ab_enB 6 cX6_take false (none)) = true := ab_all_app ab_ok_35_0 (ab_all_app ab_ok_35_1 (ab_all_app ab_ok_35_2 (ab_all_app ab_ok_35_3 (ab_ok_35_4))))
set_option maxRecDepth 100000 in
theorem ab_ok_36_0 : ab_c36_0.all (ab_enB 6 cX6_takeDeed false (none)) = true := by decide +kernel
set_option maxRecDepth 100000 in
theorem ab_ok_36_1 : ab_c36_1.all (ab_enB 6 cX6_takeDeed false (none)) = true := by decide +kernel
theorem ab_ok_36 : ab_c36.all (ab_enB 6 cX6_takeDeed false (none)) = true := ab_all_app ab_ok_36_0 (ab_ok_36_1)
set_option maxRecDepth 100000 in
theorem ab_ok_37 : ab_c37.all (ab_enB 11 cX7_init true (none)) = true := by decide +kernel
set_option maxRecDepth 100000 in
theorem ab_ok_38 : ab_c38.all (ab_enB 11 cX7_tryAll false (none)) = true := by decide +kernel
set_option maxRecDepth 100000 in
theorem ab_ok_39_0 : ab_c39_0.all (ab_enB 11 cX7_goOn false (none)) = true := by decide +kernel
set_option maxRecDepth 100000 in
theorem ab_ok_39_1 : ab_c39_1.all (ab_enB 11 cX7_goOn false (none)) = true := by decide +kernel
set_option maxRecDepth 100000 in
theorem ab_ok_39_2 : ab_c39_2.all (ab_enB 11 cX7_goOn false (none)) = true := by decide +kernel
theorem ab_ok_39 : ab_c39.all (ab_enB 11 cX7_goOn false (none)) = true := ab_all_app ab_ok_39_0 (ab_all_app ab_ok_39_1 (ab_ok_39_2))
set_option maxRecDepth 100000 in
theorem ab_ok_40 : ab_c40.all (ab_enB 11 cX7_setOfRow false (some .int)) = true := by decide +kernel

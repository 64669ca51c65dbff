set_option maxRecDepth 100000 in
theorem ab_ok_41 : ab_c41.all (ab_enB 7 cX8_init true (none)) = true := by decide +kernel
set_option maxRecDepth 100000 in
theorem ab_ok_42 : ab_c42.all (ab_enB 7 cX8_beginIn false (none)) = true := by decide +kernel
set_option maxRecDepth 100000 in
theorem ab_ok_43 : ab_c43.all (ab_enB 7 cX8_become false (none)) = true := by decide +kernel
set_option maxRecDepth 100000 in
theorem ab_ok_44 : ab_c44.all (ab_enB 7 cX8_standOf false (some .int)) = true := by decide +kernel
set_option maxRecDepth 100000 in
theorem ab_ok_45 : ab_c45.all (ab_enB 7 cX8_reaches false (some .boolean)) = true := by decide +kernel
set_option maxRecDepth 100000 in
theorem ab_ok_46 : ab_c46.all (ab_enB 7 cX8_hand false (none)) = true := by decide +kernel
set_option maxRecDepth 100000 in
theorem ab_ok_47 : ab_c47.all (ab_enB 7 cX8_finish false (none)) = true := by decide +kernel
set_option maxRecDepth 100000 in
theorem ab_ok_48 : ab_c48.all (ab_enB 7 cX8_draw false (some .int)) = true := by decide +kernel
set_option maxRecDepth 100000 in
theorem ab_ok_49_0 : ab_c49_0.all (ab_enB 8 cX9_init true (none)) = true := by decide +kernel
set_option maxRecDepth 100000 in
theorem ab_ok_49_1 : ab_c49_1.all (ab_enB 8 cX9_init true (none)) = true := by decide +kernel
theorem ab_ok_49 : ab_c49.all (ab_enB 8 cX9_init true (none)) = true := ab_all_app ab_ok_49_0 (ab_ok_49_1)
set_option maxRecDepth 100000 in
theorem ab_ok_50_0 : ab_c50_0.all (ab_enB 8 cX9_clear false (none)) = true := by decide +kernel
set_option maxRecDepth 100000 in
theorem ab_ok_50_1 : ab_c50_1.all (ab_enB 8 cX9_clear false (none)) = true := by decide +kernel
theorem ab_ok_50 : ab_c50.all (ab_enB 8 cX9_clear false (none)) = true := ab_all_app ab_ok_50_0 (ab_ok_50_1)
set_option maxRecDepth 100000 in
theorem ab_ok_51 : ab_c51.all (ab_enB 8 cX9_isSquare false (some .boolean)) = true := by decide +kernel
set_option maxRecDepth 100000 in
theorem ab_ok_52 : ab_c52.all (ab_enB 8 cX9_isPerson false (some .boolean)) = true := by decide +kernel
set_option maxRecDepth 100000 in
theorem ab_ok_53 : ab_c53.all (ab_enB 8 cX9_areTwoPeople false (some .boolean)) = true := by decide +kernel
set_option maxRecDepth 100000 in
theorem ab_ok_54 : ab_c54.all (ab_enB 8 cX9_isDeed false (some .boolean)) = true := by decide +kernel
set_option maxRecDepth 100000 in
theorem ab_ok_55 : ab_c55.all (ab_enB 8 cX9_isWord false (some .boolean)) = true := by decide +kernel
set_option maxRecDepth 100000 in
theorem ab_ok_56_0 : ab_c56_0.all (ab_enB 8 cX9_measure false (none)) = true := by decide +kernel
set_option maxRecDepth 100000 in
theorem ab_ok_56_1 : ab_c56_1.all (ab_enB 8 cX9_measure false (none)) = true := by decide +kernel
set_option maxRecDepth 100000 in
theorem ab_ok_56_2 : ab_c56_2.all (ab_enB 8 cX9_measure false (none)) = true := by decide +kernel
theorem ab_ok_56 : ab_c56.all (ab_enB 8 cX9_measure false (none)) = true := ab_all_app ab_ok_56_0 (ab_all_app ab_ok_56_1 (ab_ok_56_2))
set_option maxRecDepth 100000 in
theorem ab_ok_57_0 : ab_c57_0.all (ab_enB 8 cX9_shorten false (none)) = true := by decide +kernel
set_option maxRecDepth 100000 in
theorem ab_ok_57_1 : ab_c57_1.all (ab_enB 8 cX9_shorten false (none)) = true := by decide +kernel
theorem ab_ok_57 : ab_c57.all (ab_enB 8 cX9_shorten false (none)) = true := ab_all_app ab_ok_57_0 (ab_ok_57_1)
set_option maxRecDepth 100000 in
theorem ab_ok_58 : ab_c58.all (ab_enB 8 cX9_between false (some .int)) = true := by decide +kernel
set_option maxRecDepth 100000 in
theorem ab_ok_59 : ab_c59.all (ab_enB 8 cX9_squareOf false (some .int)) = true := by decide +kernel
set_option maxRecDepth 100000 in
theorem ab_ok_60 : ab_c60.all (ab_enB 8 cX9_worthOf false (some .int)) = true := by decide +kernel
set_option maxRecDepth 100000 in
theorem ab_ok_61_0 : ab_c61_0.all (ab_enB 8 cX9_costOf false (some .int)) = true := by decide +kernel
set_option maxRecDepth 100000 in
theorem ab_ok_61_1 : ab_c61_1.all (ab_enB 8 cX9_costOf false (some .int)) = true := by decide +kernel
theorem ab_ok_61 : ab_c61.all (ab_enB 8 cX9_costOf false (some .int)) = true := ab_all_app ab_ok_61_0 (ab_ok_61_1)
set_option maxRecDepth 100000 in
theorem ab_ok_62 : ab_c62.all (ab_enB 8 cX9_deedsOf false (some .int)) = true := by decide +kernel
set_option maxRecDepth 100000 in
theorem ab_ok_63_0 : ab_c63_0.all (ab_enB 8 cX9_endOf false (some .int)) = true := by decide +kernel
set_option maxRecDepth 100000 in
theorem ab_ok_63_1 : ab_c63_1.all (ab_enB 8 cX9_endOf false (some .int)) = true := by decide +kernel
theorem ab_ok_63 : ab_c63.all (ab_enB 8 cX9_endOf false (some .int)) = true := ab_all_app ab_ok_63_0 (ab_ok_63_1)
set_option maxRecDepth 100000 in
theorem ab_ok_64_0 : ab_c64_0.all (ab_enB 9 cX10_init true (none)) = true := by decide +kernel
set_option maxRecDepth 100000 in
theorem ab_ok_64_1 : ab_c64_1.all (ab_enB 9 cX10_init true (none)) = true := by decide +kernel
set_option maxRecDepth 100000 in
theorem ab_ok_64_2 : ab_c64_2.all (ab_enB 9 cX10_init true (none)) = true := by decide +kernel
theorem ab_ok_64 : ab_c64.all (ab_enB 9 cX10_init true (none)) = true := ab_all_app ab_ok_64_0 (ab_all_app ab_ok_64_1 (ab_ok_64_2))
set_option maxRecDepth 100000 in
theorem ab_ok_65 : ab_c65.all (ab_enB 9 cX10_feed false (some .int)) = true := by decide +kernel
set_option maxRecDepth 100000 in
theorem ab_ok_66_0 : ab_c66_0.all (ab_enB 9 cX10_town false (some .int)) = true := by decide +kernel
set_option maxRecDepth 100000 in
theorem ab_ok_66_1 : ab_c66_1.all (ab_enB 9 cX10_town false (some .int)) = true := by decide +kernel
set_option maxRecDepth 100000 in
theorem ab_ok_66_2 : ab_c66_2.all (ab_enB 9 cX10_town false (some .int)) = true := by decide +kernel
theorem ab_ok_66 : ab_c66.all (ab_enB 9 cX10_town false (some .int)) = true := ab_all_app ab_ok_66_0 (ab_all_app ab_ok_66_1 (ab_ok_66_2))
set_option maxRecDepth 100000 in
theorem ab_ok_67 : ab_c67.all (ab_enB 9 cX10_fault false (some .int)) = true := by decide +kernel
set_option maxRecDepth 100000 in
theorem ab_ok_68_0 : ab_c68_0.all (ab_enB 9 cX10_told false (some .int)) = true := by decide +kernel
set_option maxRecDepth 100000 in
theorem ab_ok_68_1 : ab_c68_1.all (ab_enB 9 cX10_told false (some .int)) = true := by decide +kernel
theorem ab_ok_68 : ab_c68.all (ab_enB 9 cX10_told false (some .int)) = true := ab_all_app ab_ok_68_0 (ab_ok_68_1)
set_option maxRecDepth 100000 in
theorem ab_ok_69 : ab_c69.all (ab_enB 9 cX10_far false (some .int)) = true := by decide +kernel
set_option maxRecDepth 100000 in
theorem ab_ok_70 : ab_c70.all (ab_enB 9 cX10_person false (some .int)) = true := by decide +kernel
set_option maxRecDepth 100000 in
theorem ab_ok_71_0 : ab_c71_0.all (ab_enB 9 cX10_deed false (some .int)) = true := by decide +kernel
set_option maxRecDepth 100000 in
theorem ab_ok_71_1 : ab_c71_1.all (ab_enB 9 cX10_deed false (some .int)) = true := by decide +kernel
theorem ab_ok_71 : ab_c71.all (ab_enB 9 cX10_deed false (some .int)) = true := ab_all_app ab_ok_71_0 (ab_ok_71_1)
set_option maxRecDepth 100000 in
theorem ab_ok_72 : ab_c72.all (ab_enB 9 cX10_trust false (some .int)) = true := by decide +kernel
set_option maxRecDepth 100000 in
theorem ab_ok_73 : ab_c73.all (ab_enB 9 cX10_lets false (some .int)) = true := by decide +kernel
set_option maxRecDepth 100000 in
theorem ab_ok_74_0 : ab_c74_0.all (ab_enB 9 cX10_lend false (some .int)) = true := by decide +kernel
set_option maxRecDepth 100000 in
theorem ab_ok_74_1 : ab_c74_1.all (ab_enB 9 cX10_lend false (some .int)) = true := by decide +kernel
theorem ab_ok_74 : ab_c74.all (ab_enB 9 cX10_lend false (some .int)) = true := ab_all_app ab_ok_74_0 (ab_ok_74_1)
set_option maxRecDepth 100000 in
theorem ab_ok_75_0 : ab_c75_0.all (ab_enB 9 cX10_act false (some .int)) = true := by decide +kernel
set_option maxRecDepth 100000 in
theorem ab_ok_75_1 : ab_c75_1.all (ab_enB 9 cX10_act false (some .int)) = true := by decide +kernel
theorem ab_ok_75 : ab_c75.all (ab_enB 9 cX10_act false (some .int)) = true := ab_all_app ab_ok_75_0 (ab_ok_75_1)
set_option maxRecDepth 100000 in
theorem ab_ok_76 : ab_c76.all (ab_enB 9 cX10_drop false (some .int)) = true := by decide +kernel
set_option maxRecDepth 100000 in
theorem ab_ok_77 : ab_c77.all (ab_enB 9 cX10_pass false (some .int)) = true := by decide +kernel
set_option maxRecDepth 100000 in
theorem ab_ok_78_0 : ab_c78_0.all (ab_enB 9 cX10_drift false (some .int)) = true := by decide +kernel
set_option maxRecDepth 100000 in
theorem ab_ok_78_1 : ab_c78_1.all (ab_enB 9 cX10_drift false (some .int)) = true := by decide +kernel
theorem ab_ok_78 : ab_c78.all (ab_enB 9 cX10_drift false (some .int)) = true := ab_all_app ab_ok_78_0 (ab_ok_78_1)
set_option maxRecDepth 100000 in
theorem ab_ok_79_0 : ab_c79_0.all (ab_enB 9 cX10_round false (some .int)) = true := by decide +kernel
set_option maxRecDepth 100000 in
theorem ab_ok_79_1 : ab_c79_1.all (ab_enB 9 cX10_round false (some .int)) = true := by decide +kernel
theorem ab_ok_79 : ab_c79.all (ab_enB 9 cX10_round false (some .int)) = true := ab_all_app ab_ok_79_0 (ab_ok_79_1)
set_option maxRecDepth 100000 in
theorem ab_ok_80_0 : ab_c80_0.all (ab_enB 9 cX10_two false (some .int)) = true := by decide +kernel
set_option maxRecDepth 100000 in
theorem ab_ok_80_1 : ab_c80_1.all (ab_enB 9 cX10_two false (some .int)) = true := by decide +kernel
set_option maxRecDepth 100000 in
theorem ab_ok_80_2 : ab_c80_2.all (ab_enB 9 cX10_two false (some .int)) = true := by decide +kernel
theorem ab_ok_80 : ab_c80.all (ab_enB 9 cX10_two false (some .int)) = true := ab_all_app ab_ok_80_0 (ab_all_app ab_ok_80_1 (ab_ok_80_2))
set_option maxRecDepth 100000 in
theorem ab_ok_81_0 : ab_c81_0.all (ab_enB 9 cX10_reword false (some .int)) = true := by decide +kernel
set_option maxRecDepth 100000 in
theorem ab_ok_81_1 : ab_c81_1.all (ab_enB 9 cX10_reword false (some .int)) = true := by decide +kernel
set_option maxRecDepth 100000 in
theorem ab_ok_81_2 : ab_c81_2.all (ab_enB 9 cX10_reword false (some .int)) = true := by decide +kernel
theorem ab_ok_81 : ab_c81.all (ab_enB 9 cX10_reword false (some .int)) = true := ab_all_app ab_ok_81_0 (ab_all_app ab_ok_81_1 (ab_ok_81_2))
set_option maxRecDepth 100000 in
theorem ab_ok_82_0 : ab_c82_0.all (ab_enB 9 cX10_chain false (some .int)) = true := by decide +kernel
set_option maxRecDepth 100000 in
theorem ab_ok_82_1 : ab_c82_1.all (ab_enB 9 cX10_chain false (some .int)) = true := by decide +kernel
theorem ab_ok_82 : ab_c82.all (ab_enB 9 cX10_chain false (some .int)) = true := ab_all_app ab_ok_82_0 (ab_ok_82_1)
set_option maxRecDepth 100000 in
theorem ab_ok_83_0 : ab_c83_0.all (ab_enB 9 cX10_lost false (some .int)) = true := by decide +kernel
set_option maxRecDepth 100000 in
theorem ab_ok_83_1 : ab_c83_1.all (ab_enB 9 cX10_lost false (some .int)) = true := by decide +kernel
theorem ab_ok_83 : ab_c83.all (ab_enB 9 cX10_lost false (some .int)) = true := ab_all_app ab_ok_83_0 (ab_ok_83_1)
set_option maxRecDepth 100000 in
theorem ab_ok_84_0 : ab_c84_0.all (ab_enB 9 cX10_sold false (some .int)) = true := by decide +kernel
set_option maxRecDepth 100000 in
theorem ab_ok_84_1 : ab_c84_1.all (ab_enB 9 cX10_sold false (some .int)) = true := by decide +kernel
theorem ab_ok_84 : ab_c84.all (ab_enB 9 cX10_sold false (some .int)) = true := ab_all_app ab_ok_84_0 (ab_ok_84_1)

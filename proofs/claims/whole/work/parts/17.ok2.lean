set_option maxRecDepth 100000 in
theorem ab_ok_85_0 : ab_c85_0.all (ab_enB 9 cX10_thief false (some .int)) = true := by decide +kernel
set_option maxRecDepth 100000 in
theorem ab_ok_85_1 : ab_c85_1.all (ab_enB 9 cX10_thief false (some .int)) = true := by decide +kernel
set_option maxRecDepth 100000 in
theorem ab_ok_85_2 : ab_c85_2.all (ab_enB 9 cX10_thief false (some .int)) = true := by decide +kernel
theorem ab_ok_85 : ab_c85.all (ab_enB 9 cX10_thief false (some .int)) = true := ab_all_app ab_ok_85_0 (ab_all_app ab_ok_85_1 (ab_ok_85_2))
set_option maxRecDepth 100000 in
theorem ab_ok_86_0 : ab_c86_0.all (ab_enB 9 cX10_vote false (some .int)) = true := by decide +kernel
set_option maxRecDepth 100000 in
theorem ab_ok_86_1 : ab_c86_1.all (ab_enB 9 cX10_vote false (some .int)) = true := by decide +kernel
set_option maxRecDepth 100000 in
theorem ab_ok_86_2 : ab_c86_2.all (ab_enB 9 cX10_vote false (some .int)) = true := by decide +kernel
theorem ab_ok_86 : ab_c86.all (ab_enB 9 cX10_vote false (some .int)) = true := ab_all_app ab_ok_86_0 (ab_all_app ab_ok_86_1 (ab_ok_86_2))
set_option maxRecDepth 100000 in
theorem ab_ok_87 : ab_c87.all (ab_enB 9 cX10_bestWord false (some .int)) = true := by decide +kernel
set_option maxRecDepth 100000 in
theorem ab_ok_88 : ab_c88.all (ab_enB 9 cX10_tell false (some .int)) = true := by decide +kernel
set_option maxRecDepth 100000 in
theorem ab_ok_89 : ab_c89.all (ab_enB 9 cX10_days false (some .int)) = true := by decide +kernel
set_option maxRecDepth 100000 in
theorem ab_ok_90 : ab_c90.all (ab_enB 9 cX10_where false (some .int)) = true := by decide +kernel
set_option maxRecDepth 100000 in
theorem ab_ok_91 : ab_c91.all (ab_enB 9 cX10_write false (some .int)) = true := by decide +kernel
set_option maxRecDepth 100000 in
theorem ab_ok_92 : ab_c92.all (ab_enB 9 cX10_judge false (some .int)) = true := by decide +kernel
set_option maxRecDepth 100000 in
theorem ab_ok_93 : ab_c93.all (ab_enB 9 cX10_tear false (some .int)) = true := by decide +kernel
set_option maxRecDepth 100000 in
theorem ab_ok_94 : ab_c94.all (ab_enB 9 cX10_seed false (some .int)) = true := by decide +kernel
set_option maxRecDepth 100000 in
theorem ab_ok_95 : ab_c95.all (ab_enB 9 cX10_keep false (some .int)) = true := by decide +kernel
set_option maxRecDepth 100000 in
theorem ab_ok_96 : ab_c96.all (ab_enB 9 cX10_goBack false (some .int)) = true := by decide +kernel
set_option maxRecDepth 100000 in
theorem ab_ok_97 : ab_c97.all (ab_enB 9 cX10_deedsThatAre false (some .int)) = true := by decide +kernel
set_option maxRecDepth 100000 in
theorem ab_ok_98_0 : ab_c98_0.all (ab_enB 9 cX10_driftOnce false (none)) = true := by decide +kernel
set_option maxRecDepth 100000 in
theorem ab_ok_98_1 : ab_c98_1.all (ab_enB 9 cX10_driftOnce false (none)) = true := by decide +kernel
theorem ab_ok_98 : ab_c98.all (ab_enB 9 cX10_driftOnce false (none)) = true := ab_all_app ab_ok_98_0 (ab_ok_98_1)
set_option maxRecDepth 100000 in
theorem ab_ok_99 : ab_c99.all (ab_enB 9 cX10_firstOpenOf false (some .int)) = true := by decide +kernel
set_option maxRecDepth 100000 in
theorem ab_ok_100 : ab_c100.all (ab_enB 9 cX10_mostBeside false (some .int)) = true := by decide +kernel
set_option maxRecDepth 100000 in
theorem ab_ok_101_0 : ab_c101_0.all (ab_enB 9 cX10_sellMinute false (none)) = true := by decide +kernel
set_option maxRecDepth 100000 in
theorem ab_ok_101_1 : ab_c101_1.all (ab_enB 9 cX10_sellMinute false (none)) = true := by decide +kernel
theorem ab_ok_101 : ab_c101.all (ab_enB 9 cX10_sellMinute false (none)) = true := ab_all_app ab_ok_101_0 (ab_ok_101_1)
set_option maxRecDepth 100000 in
theorem ab_ok_102 : ab_c102.all (ab_enB 9 cX10_bidOf false (some .int)) = true := by decide +kernel
set_option maxRecDepth 100000 in
theorem ab_ok_103 : ab_c103.all (ab_enB 9 cX10_highestBidder false (some .int)) = true := by decide +kernel
set_option maxRecDepth 100000 in
theorem ab_ok_104_0 : ab_c104_0.all (ab_enB 9 cX10_wordForMost false (some .int)) = true := by decide +kernel
set_option maxRecDepth 100000 in
theorem ab_ok_104_1 : ab_c104_1.all (ab_enB 9 cX10_wordForMost false (some .int)) = true := by decide +kernel
theorem ab_ok_104 : ab_c104.all (ab_enB 9 cX10_wordForMost false (some .int)) = true := ab_all_app ab_ok_104_0 (ab_ok_104_1)
set_option maxRecDepth 100000 in
theorem ab_ok_105 : ab_c105.all (ab_enB 9 cX10_mostVoted false (some .int)) = true := by decide +kernel
set_option maxRecDepth 100000 in
theorem ab_ok_106_0 : ab_c106_0.all (ab_enB 10 cX11_init true (none)) = true := by decide +kernel
set_option maxRecDepth 100000 in
theorem ab_ok_106_1 : ab_c106_1.all (ab_enB 10 cX11_init true (none)) = true := by decide +kernel
set_option maxRecDepth 100000 in
theorem ab_ok_106_2 : ab_c106_2.all (ab_enB 10 cX11_init true (none)) = true := by decide +kernel
set_option maxRecDepth 100000 in
theorem ab_ok_106_3 : ab_c106_3.all (ab_enB 10 cX11_init true (none)) = true := by decide +kernel
set_option maxRecDepth 100000 in
theorem ab_ok_106_4 : ab_c106_4.all (ab_enB 10 cX11_init true (none)) = true := by decide +kernel
theorem ab_ok_106 : ab_c106.all (ab_enB 10 cX11_init true (none)) = true := ab_all_app ab_ok_106_0 (ab_all_app ab_ok_106_1 (ab_all_app ab_ok_106_2 (ab_all_app ab_ok_106_3 (ab_ok_106_4))))
set_option maxRecDepth 100000 in
theorem ab_ok_107 : ab_c107.all (ab_enB 10 cX11_in false (some .boolean)) = true := by decide +kernel
set_option maxRecDepth 100000 in
theorem ab_ok_108 : ab_c108.all (ab_enB 10 cX11_has false (some .boolean)) = true := by decide +kernel
set_option maxRecDepth 100000 in
theorem ab_ok_109 : ab_c109.all (ab_enB 10 cX11_isSquare false (some .boolean)) = true := by decide +kernel
set_option maxRecDepth 100000 in
theorem ab_ok_110 : ab_c110.all (ab_enB 10 cX11_isPerson false (some .boolean)) = true := by decide +kernel
set_option maxRecDepth 100000 in
theorem ab_ok_111 : ab_c111.all (ab_enB 10 cX11_isDeed false (some .boolean)) = true := by decide +kernel
set_option maxRecDepth 100000 in
theorem ab_ok_112 : ab_c112.all (ab_enB 10 cX11_feed false (some .int)) = true := by decide +kernel
set_option maxRecDepth 100000 in
theorem ab_ok_113_0 : ab_c113_0.all (ab_enB 10 cX11_nextToken false (none)) = true := by decide +kernel
set_option maxRecDepth 100000 in
theorem ab_ok_113_1 : ab_c113_1.all (ab_enB 10 cX11_nextToken false (none)) = true := by decide +kernel
set_option maxRecDepth 100000 in
theorem ab_ok_113_2 : ab_c113_2.all (ab_enB 10 cX11_nextToken false (none)) = true := by decide +kernel
set_option maxRecDepth 100000 in
theorem ab_ok_113_3 : ab_c113_3.all (ab_enB 10 cX11_nextToken false (none)) = true := by decide +kernel
theorem ab_ok_113 : ab_c113.all (ab_enB 10 cX11_nextToken false (none)) = true := ab_all_app ab_ok_113_0 (ab_all_app ab_ok_113_1 (ab_all_app ab_ok_113_2 (ab_ok_113_3)))
set_option maxRecDepth 100000 in
theorem ab_ok_114 : ab_c114.all (ab_enB 10 cX11_faults false (some .boolean)) = true := by decide +kernel
set_option maxRecDepth 100000 in
theorem ab_ok_115 : ab_c115.all (ab_enB 10 cX11_takes false (some .boolean)) = true := by decide +kernel
set_option maxRecDepth 100000 in
theorem ab_ok_116 : ab_c116.all (ab_enB 10 cX11_isNumber false (some .boolean)) = true := by decide +kernel
set_option maxRecDepth 100000 in
theorem ab_ok_117 : ab_c117.all (ab_enB 10 cX11_taken false (some .int)) = true := by decide +kernel
set_option maxRecDepth 100000 in
theorem ab_ok_118_0 : ab_c118_0.all (ab_enB 10 cX11_readWay false (some .boolean)) = true := by decide +kernel
set_option maxRecDepth 100000 in
theorem ab_ok_118_1 : ab_c118_1.all (ab_enB 10 cX11_readWay false (some .boolean)) = true := by decide +kernel
set_option maxRecDepth 100000 in
theorem ab_ok_118_2 : ab_c118_2.all (ab_enB 10 cX11_readWay false (some .boolean)) = true := by decide +kernel
set_option maxRecDepth 100000 in
theorem ab_ok_118_3 : ab_c118_3.all (ab_enB 10 cX11_readWay false (some .boolean)) = true := by decide +kernel
theorem ab_ok_118 : ab_c118.all (ab_enB 10 cX11_readWay false (some .boolean)) = true := ab_all_app ab_ok_118_0 (ab_all_app ab_ok_118_1 (ab_all_app ab_ok_118_2 (ab_ok_118_3)))
set_option maxRecDepth 100000 in
theorem ab_ok_119_0 : ab_c119_0.all (ab_enB 10 cX11_readPerson false (some .boolean)) = true := by decide +kernel
set_option maxRecDepth 100000 in
theorem ab_ok_119_1 : ab_c119_1.all (ab_enB 10 cX11_readPerson false (some .boolean)) = true := by decide +kernel
theorem ab_ok_119 : ab_c119.all (ab_enB 10 cX11_readPerson false (some .boolean)) = true := ab_all_app ab_ok_119_0 (ab_ok_119_1)
set_option maxRecDepth 100000 in
theorem ab_ok_120_0 : ab_c120_0.all (ab_enB 10 cX11_readDeed false (some .boolean)) = true := by decide +kernel
set_option maxRecDepth 100000 in
theorem ab_ok_120_1 : ab_c120_1.all (ab_enB 10 cX11_readDeed false (some .boolean)) = true := by decide +kernel
set_option maxRecDepth 100000 in
theorem ab_ok_120_2 : ab_c120_2.all (ab_enB 10 cX11_readDeed false (some .boolean)) = true := by decide +kernel
theorem ab_ok_120 : ab_c120.all (ab_enB 10 cX11_readDeed false (some .boolean)) = true := ab_all_app ab_ok_120_0 (ab_all_app ab_ok_120_1 (ab_ok_120_2))
set_option maxRecDepth 100000 in
theorem ab_ok_121_0 : ab_c121_0.all (ab_enB 10 cX11_readReword false (some .boolean)) = true := by decide +kernel
set_option maxRecDepth 100000 in
theorem ab_ok_121_1 : ab_c121_1.all (ab_enB 10 cX11_readReword false (some .boolean)) = true := by decide +kernel
theorem ab_ok_121 : ab_c121.all (ab_enB 10 cX11_readReword false (some .boolean)) = true := ab_all_app ab_ok_121_0 (ab_ok_121_1)
set_option maxRecDepth 100000 in
theorem ab_ok_122_0 : ab_c122_0.all (ab_enB 10 cX11_readTrust false (some .boolean)) = true := by decide +kernel
set_option maxRecDepth 100000 in
theorem ab_ok_122_1 : ab_c122_1.all (ab_enB 10 cX11_readTrust false (some .boolean)) = true := by decide +kernel
set_option maxRecDepth 100000 in
theorem ab_ok_122_2 : ab_c122_2.all (ab_enB 10 cX11_readTrust false (some .boolean)) = true := by decide +kernel
theorem ab_ok_122 : ab_c122.all (ab_enB 10 cX11_readTrust false (some .boolean)) = true := ab_all_app ab_ok_122_0 (ab_all_app ab_ok_122_1 (ab_ok_122_2))
set_option maxRecDepth 100000 in
theorem ab_ok_123_0 : ab_c123_0.all (ab_enB 10 cX11_readOther false (some .boolean)) = true := by decide +kernel
set_option maxRecDepth 100000 in
theorem ab_ok_123_1 : ab_c123_1.all (ab_enB 10 cX11_readOther false (some .boolean)) = true := by decide +kernel
theorem ab_ok_123 : ab_c123.all (ab_enB 10 cX11_readOther false (some .boolean)) = true := ab_all_app ab_ok_123_0 (ab_ok_123_1)

set_option maxRecDepth 100000 in
theorem ab_ok_124_0 : ab_c124_0.all (ab_enB 10 cX11_readTown false (some .boolean)) = true := by decide +kernel
set_option maxRecDepth 100000 in
theorem ab_ok_124_1 : ab_c124_1.all (ab_enB 10 cX11_readTown false (some .boolean)) = true := by decide +kernel
set_option maxRecDepth 100000 in
theorem ab_ok_124_2 : ab_c124_2.all (ab_enB 10 cX11_readTown false (some .boolean)) = true := by decide +kernel
set_option maxRecDepth 100000 in
theorem ab_ok_124_3 : ab_c124_3.all (ab_enB 10 cX11_readTown false (some .boolean)) = true := by decide +kernel
set_option maxRecDepth 100000 in
theorem ab_ok_124_4 : ab_c124_4.all (ab_enB 10 cX11_readTown false (some .boolean)) = true := by decide +kernel
set_option maxRecDepth 100000 in
theorem ab_ok_124_5 : ab_c124_5.all (ab_enB 10 cX11_readTown false (some .boolean)) = true := by decide +kernel
theorem ab_ok_124 : ab_c124.all (ab_enB 10 cX11_readTown false (some .boolean)) = true := ab_all_app ab_ok_124_0 (ab_all_app ab_ok_124_1 (ab_all_app ab_ok_124_2 (ab_all_app ab_ok_124_3 (ab_all_app ab_ok_124_4 (ab_ok_124_5)))))
set_option maxRecDepth 100000 in
theorem ab_ok_125_0 : ab_c125_0.all (ab_enB 10 cX11_findFars false (none)) = true := by decide +kernel
set_option maxRecDepth 100000 in
theorem ab_ok_125_1 : ab_c125_1.all (ab_enB 10 cX11_findFars false (none)) = true := by decide +kernel
set_option maxRecDepth 100000 in
theorem ab_ok_125_2 : ab_c125_2.all (ab_enB 10 cX11_findFars false (none)) = true := by decide +kernel
set_option maxRecDepth 100000 in
theorem ab_ok_125_3 : ab_c125_3.all (ab_enB 10 cX11_findFars false (none)) = true := by decide +kernel
theorem ab_ok_125 : ab_c125.all (ab_enB 10 cX11_findFars false (none)) = true := ab_all_app ab_ok_125_0 (ab_all_app ab_ok_125_1 (ab_all_app ab_ok_125_2 (ab_ok_125_3)))
set_option maxRecDepth 100000 in
theorem ab_ok_126_0 : ab_c126_0.all (ab_enB 10 cX11_town false (some .int)) = true := by decide +kernel
set_option maxRecDepth 100000 in
theorem ab_ok_126_1 : ab_c126_1.all (ab_enB 10 cX11_town false (some .int)) = true := by decide +kernel
set_option maxRecDepth 100000 in
theorem ab_ok_126_2 : ab_c126_2.all (ab_enB 10 cX11_town false (some .int)) = true := by decide +kernel
set_option maxRecDepth 100000 in
theorem ab_ok_126_3 : ab_c126_3.all (ab_enB 10 cX11_town false (some .int)) = true := by decide +kernel
set_option maxRecDepth 100000 in
theorem ab_ok_126_4 : ab_c126_4.all (ab_enB 10 cX11_town false (some .int)) = true := by decide +kernel
set_option maxRecDepth 100000 in
theorem ab_ok_126_5 : ab_c126_5.all (ab_enB 10 cX11_town false (some .int)) = true := by decide +kernel
theorem ab_ok_126 : ab_c126.all (ab_enB 10 cX11_town false (some .int)) = true := ab_all_app ab_ok_126_0 (ab_all_app ab_ok_126_1 (ab_all_app ab_ok_126_2 (ab_all_app ab_ok_126_3 (ab_all_app ab_ok_126_4 (ab_ok_126_5)))))
set_option maxRecDepth 100000 in
theorem ab_ok_127 : ab_c127.all (ab_enB 10 cX11_fault false (some .int)) = true := by decide +kernel
set_option maxRecDepth 100000 in
theorem ab_ok_128_0 : ab_c128_0.all (ab_enB 10 cX11_howOf false (some .int)) = true := by decide +kernel
set_option maxRecDepth 100000 in
theorem ab_ok_128_1 : ab_c128_1.all (ab_enB 10 cX11_howOf false (some .int)) = true := by decide +kernel
theorem ab_ok_128 : ab_c128.all (ab_enB 10 cX11_howOf false (some .int)) = true := ab_all_app ab_ok_128_0 (ab_ok_128_1)
set_option maxRecDepth 100000 in
theorem ab_ok_129 : ab_c129.all (ab_enB 10 cX11_deedsThatAre false (some .int)) = true := by decide +kernel
set_option maxRecDepth 100000 in
theorem ab_ok_130 : ab_c130.all (ab_enB 10 cX11_worthOf false (some .int)) = true := by decide +kernel
set_option maxRecDepth 100000 in
theorem ab_ok_131_0 : ab_c131_0.all (ab_enB 10 cX11_told false (some .int)) = true := by decide +kernel
set_option maxRecDepth 100000 in
theorem ab_ok_131_1 : ab_c131_1.all (ab_enB 10 cX11_told false (some .int)) = true := by decide +kernel
theorem ab_ok_131 : ab_c131.all (ab_enB 10 cX11_told false (some .int)) = true := ab_all_app ab_ok_131_0 (ab_ok_131_1)
set_option maxRecDepth 100000 in
theorem ab_ok_132 : ab_c132.all (ab_enB 10 cX11_farOf false (some .int)) = true := by decide +kernel
set_option maxRecDepth 100000 in
theorem ab_ok_133 : ab_c133.all (ab_enB 10 cX11_far false (some .int)) = true := by decide +kernel
set_option maxRecDepth 100000 in
theorem ab_ok_134 : ab_c134.all (ab_enB 10 cX11_person false (some .int)) = true := by decide +kernel
set_option maxRecDepth 100000 in
theorem ab_ok_135_0 : ab_c135_0.all (ab_enB 10 cX11_deed false (some .int)) = true := by decide +kernel
set_option maxRecDepth 100000 in
theorem ab_ok_135_1 : ab_c135_1.all (ab_enB 10 cX11_deed false (some .int)) = true := by decide +kernel
theorem ab_ok_135 : ab_c135.all (ab_enB 10 cX11_deed false (some .int)) = true := ab_all_app ab_ok_135_0 (ab_ok_135_1)
set_option maxRecDepth 100000 in
theorem ab_ok_136 : ab_c136.all (ab_enB 10 cX11_areTwo false (some .boolean)) = true := by decide +kernel
set_option maxRecDepth 100000 in
theorem ab_ok_137 : ab_c137.all (ab_enB 10 cX11_trust false (some .int)) = true := by decide +kernel
set_option maxRecDepth 100000 in
theorem ab_ok_138 : ab_c138.all (ab_enB 10 cX11_lets false (some .int)) = true := by decide +kernel
set_option maxRecDepth 100000 in
theorem ab_ok_139 : ab_c139.all (ab_enB 10 cX11_placeOf false (some .int)) = true := by decide +kernel
set_option maxRecDepth 100000 in
theorem ab_ok_140_0 : ab_c140_0.all (ab_enB 10 cX11_lend false (some .int)) = true := by decide +kernel
set_option maxRecDepth 100000 in
theorem ab_ok_140_1 : ab_c140_1.all (ab_enB 10 cX11_lend false (some .int)) = true := by decide +kernel
theorem ab_ok_140 : ab_c140.all (ab_enB 10 cX11_lend false (some .int)) = true := ab_all_app ab_ok_140_0 (ab_ok_140_1)
set_option maxRecDepth 100000 in
theorem ab_ok_141 : ab_c141.all (ab_enB 10 cX11_walkTo false (none)) = true := by decide +kernel
set_option maxRecDepth 100000 in
theorem ab_ok_142 : ab_c142.all (ab_enB 10 cX11_doNow false (none)) = true := by decide +kernel
set_option maxRecDepth 100000 in
theorem ab_ok_143_0 : ab_c143_0.all (ab_enB 10 cX11_act false (some .int)) = true := by decide +kernel
set_option maxRecDepth 100000 in
theorem ab_ok_143_1 : ab_c143_1.all (ab_enB 10 cX11_act false (some .int)) = true := by decide +kernel
theorem ab_ok_143 : ab_c143.all (ab_enB 10 cX11_act false (some .int)) = true := ab_all_app ab_ok_143_0 (ab_ok_143_1)
set_option maxRecDepth 100000 in
theorem ab_ok_144 : ab_c144.all (ab_enB 10 cX11_drop false (some .int)) = true := by decide +kernel
set_option maxRecDepth 100000 in
theorem ab_ok_145 : ab_c145.all (ab_enB 10 cX11_pass false (some .int)) = true := by decide +kernel
set_option maxRecDepth 100000 in
theorem ab_ok_146 : ab_c146.all (ab_enB 10 cX11_draw false (some .int)) = true := by decide +kernel
set_option maxRecDepth 100000 in
theorem ab_ok_147_0 : ab_c147_0.all (ab_enB 10 cX11_drift false (some .int)) = true := by decide +kernel
set_option maxRecDepth 100000 in
theorem ab_ok_147_1 : ab_c147_1.all (ab_enB 10 cX11_drift false (some .int)) = true := by decide +kernel
set_option maxRecDepth 100000 in
theorem ab_ok_147_2 : ab_c147_2.all (ab_enB 10 cX11_drift false (some .int)) = true := by decide +kernel
set_option maxRecDepth 100000 in
theorem ab_ok_147_3 : ab_c147_3.all (ab_enB 10 cX11_drift false (some .int)) = true := by decide +kernel
theorem ab_ok_147 : ab_c147.all (ab_enB 10 cX11_drift false (some .int)) = true := ab_all_app ab_ok_147_0 (ab_all_app ab_ok_147_1 (ab_all_app ab_ok_147_2 (ab_ok_147_3)))
set_option maxRecDepth 100000 in
theorem ab_ok_148_0 : ab_c148_0.all (ab_enB 10 cX11_endBehind false (some .int)) = true := by decide +kernel
set_option maxRecDepth 100000 in
theorem ab_ok_148_1 : ab_c148_1.all (ab_enB 10 cX11_endBehind false (some .int)) = true := by decide +kernel
theorem ab_ok_148 : ab_c148.all (ab_enB 10 cX11_endBehind false (some .int)) = true := ab_all_app ab_ok_148_0 (ab_ok_148_1)
set_option maxRecDepth 100000 in
theorem ab_ok_149_0 : ab_c149_0.all (ab_enB 10 cX11_findEnds false (none)) = true := by decide +kernel
set_option maxRecDepth 100000 in
theorem ab_ok_149_1 : ab_c149_1.all (ab_enB 10 cX11_findEnds false (none)) = true := by decide +kernel
set_option maxRecDepth 100000 in
theorem ab_ok_149_2 : ab_c149_2.all (ab_enB 10 cX11_findEnds false (none)) = true := by decide +kernel
set_option maxRecDepth 100000 in
theorem ab_ok_149_3 : ab_c149_3.all (ab_enB 10 cX11_findEnds false (none)) = true := by decide +kernel
theorem ab_ok_149 : ab_c149.all (ab_enB 10 cX11_findEnds false (none)) = true := ab_all_app ab_ok_149_0 (ab_all_app ab_ok_149_1 (ab_all_app ab_ok_149_2 (ab_ok_149_3)))
set_option maxRecDepth 100000 in
theorem ab_ok_150_0 : ab_c150_0.all (ab_enB 10 cX11_endOf false (some .int)) = true := by decide +kernel
set_option maxRecDepth 100000 in
theorem ab_ok_150_1 : ab_c150_1.all (ab_enB 10 cX11_endOf false (some .int)) = true := by decide +kernel
theorem ab_ok_150 : ab_c150.all (ab_enB 10 cX11_endOf false (some .int)) = true := ab_all_app ab_ok_150_0 (ab_ok_150_1)
set_option maxRecDepth 100000 in
theorem ab_ok_151_0 : ab_c151_0.all (ab_enB 10 cX11_isRow false (some .boolean)) = true := by decide +kernel
set_option maxRecDepth 100000 in
theorem ab_ok_151_1 : ab_c151_1.all (ab_enB 10 cX11_isRow false (some .boolean)) = true := by decide +kernel
set_option maxRecDepth 100000 in
theorem ab_ok_151_2 : ab_c151_2.all (ab_enB 10 cX11_isRow false (some .boolean)) = true := by decide +kernel
theorem ab_ok_151 : ab_c151.all (ab_enB 10 cX11_isRow false (some .boolean)) = true := ab_all_app ab_ok_151_0 (ab_all_app ab_ok_151_1 (ab_ok_151_2))
set_option maxRecDepth 100000 in
theorem ab_ok_152_0 : ab_c152_0.all (ab_enB 10 cX11_firstRow false (some .int)) = true := by decide +kernel
set_option maxRecDepth 100000 in
theorem ab_ok_152_1 : ab_c152_1.all (ab_enB 10 cX11_firstRow false (some .int)) = true := by decide +kernel
set_option maxRecDepth 100000 in
theorem ab_ok_152_2 : ab_c152_2.all (ab_enB 10 cX11_firstRow false (some .int)) = true := by decide +kernel
theorem ab_ok_152 : ab_c152.all (ab_enB 10 cX11_firstRow false (some .int)) = true := ab_all_app ab_ok_152_0 (ab_all_app ab_ok_152_1 (ab_ok_152_2))
set_option maxRecDepth 100000 in
theorem ab_ok_153_0 : ab_c153_0.all (ab_enB 10 cX11_digits false (some .int)) = true := by decide +kernel
set_option maxRecDepth 100000 in
theorem ab_ok_153_1 : ab_c153_1.all (ab_enB 10 cX11_digits false (some .int)) = true := by decide +kernel
theorem ab_ok_153 : ab_c153.all (ab_enB 10 cX11_digits false (some .int)) = true := ab_all_app ab_ok_153_0 (ab_ok_153_1)

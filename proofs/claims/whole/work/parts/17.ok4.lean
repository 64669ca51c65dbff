set_option maxRecDepth 100000 in
theorem ab_ok_154_0 : ab_c154_0.all (ab_enB 10 cX11_isAhead false (some .boolean)) = true := by decide +kernel
set_option maxRecDepth 100000 in
theorem ab_ok_154_1 : ab_c154_1.all (ab_enB 10 cX11_isAhead false (some .boolean)) = true := by decide +kernel
theorem ab_ok_154 : ab_c154.all (ab_enB 10 cX11_isAhead false (some .boolean)) = true := ab_all_app ab_ok_154_0 (ab_ok_154_1)
set_option maxRecDepth 100000 in
theorem ab_ok_155_0 : ab_c155_0.all (ab_enB 10 cX11_round false (some .int)) = true := by decide +kernel
set_option maxRecDepth 100000 in
theorem ab_ok_155_1 : ab_c155_1.all (ab_enB 10 cX11_round false (some .int)) = true := by decide +kernel
set_option maxRecDepth 100000 in
theorem ab_ok_155_2 : ab_c155_2.all (ab_enB 10 cX11_round false (some .int)) = true := by decide +kernel
set_option maxRecDepth 100000 in
theorem ab_ok_155_3 : ab_c155_3.all (ab_enB 10 cX11_round false (some .int)) = true := by decide +kernel
theorem ab_ok_155 : ab_c155.all (ab_enB 10 cX11_round false (some .int)) = true := ab_all_app ab_ok_155_0 (ab_all_app ab_ok_155_1 (ab_all_app ab_ok_155_2 (ab_ok_155_3)))
set_option maxRecDepth 100000 in
theorem ab_ok_156_0 : ab_c156_0.all (ab_enB 10 cX11_two false (some .int)) = true := by decide +kernel
set_option maxRecDepth 100000 in
theorem ab_ok_156_1 : ab_c156_1.all (ab_enB 10 cX11_two false (some .int)) = true := by decide +kernel
set_option maxRecDepth 100000 in
theorem ab_ok_156_2 : ab_c156_2.all (ab_enB 10 cX11_two false (some .int)) = true := by decide +kernel
set_option maxRecDepth 100000 in
theorem ab_ok_156_3 : ab_c156_3.all (ab_enB 10 cX11_two false (some .int)) = true := by decide +kernel
theorem ab_ok_156 : ab_c156.all (ab_enB 10 cX11_two false (some .int)) = true := ab_all_app ab_ok_156_0 (ab_all_app ab_ok_156_1 (ab_all_app ab_ok_156_2 (ab_ok_156_3)))
set_option maxRecDepth 100000 in
theorem ab_ok_157_0 : ab_c157_0.all (ab_enB 10 cX11_costOf false (some .int)) = true := by decide +kernel
set_option maxRecDepth 100000 in
theorem ab_ok_157_1 : ab_c157_1.all (ab_enB 10 cX11_costOf false (some .int)) = true := by decide +kernel
theorem ab_ok_157 : ab_c157.all (ab_enB 10 cX11_costOf false (some .int)) = true := ab_all_app ab_ok_157_0 (ab_ok_157_1)
set_option maxRecDepth 100000 in
theorem ab_ok_158_0 : ab_c158_0.all (ab_enB 10 cX11_reword false (some .int)) = true := by decide +kernel
set_option maxRecDepth 100000 in
theorem ab_ok_158_1 : ab_c158_1.all (ab_enB 10 cX11_reword false (some .int)) = true := by decide +kernel
set_option maxRecDepth 100000 in
theorem ab_ok_158_2 : ab_c158_2.all (ab_enB 10 cX11_reword false (some .int)) = true := by decide +kernel
theorem ab_ok_158 : ab_c158.all (ab_enB 10 cX11_reword false (some .int)) = true := ab_all_app ab_ok_158_0 (ab_all_app ab_ok_158_1 (ab_ok_158_2))
set_option maxRecDepth 100000 in
theorem ab_ok_159_0 : ab_c159_0.all (ab_enB 10 cX11_chain false (some .int)) = true := by decide +kernel
set_option maxRecDepth 100000 in
theorem ab_ok_159_1 : ab_c159_1.all (ab_enB 10 cX11_chain false (some .int)) = true := by decide +kernel
set_option maxRecDepth 100000 in
theorem ab_ok_159_2 : ab_c159_2.all (ab_enB 10 cX11_chain false (some .int)) = true := by decide +kernel
theorem ab_ok_159 : ab_c159.all (ab_enB 10 cX11_chain false (some .int)) = true := ab_all_app ab_ok_159_0 (ab_all_app ab_ok_159_1 (ab_ok_159_2))
set_option maxRecDepth 100000 in
theorem ab_ok_160_0 : ab_c160_0.all (ab_enB 10 cX11_oddsOf false (some .int)) = true := by decide +kernel
set_option maxRecDepth 100000 in
theorem ab_ok_160_1 : ab_c160_1.all (ab_enB 10 cX11_oddsOf false (some .int)) = true := by decide +kernel
set_option maxRecDepth 100000 in
theorem ab_ok_160_2 : ab_c160_2.all (ab_enB 10 cX11_oddsOf false (some .int)) = true := by decide +kernel
theorem ab_ok_160 : ab_c160.all (ab_enB 10 cX11_oddsOf false (some .int)) = true := ab_all_app ab_ok_160_0 (ab_all_app ab_ok_160_1 (ab_ok_160_2))
set_option maxRecDepth 100000 in
theorem ab_ok_161_0 : ab_c161_0.all (ab_enB 10 cX11_lost false (some .int)) = true := by decide +kernel
set_option maxRecDepth 100000 in
theorem ab_ok_161_1 : ab_c161_1.all (ab_enB 10 cX11_lost false (some .int)) = true := by decide +kernel
theorem ab_ok_161 : ab_c161.all (ab_enB 10 cX11_lost false (some .int)) = true := ab_all_app ab_ok_161_0 (ab_ok_161_1)
set_option maxRecDepth 100000 in
theorem ab_ok_162 : ab_c162.all (ab_enB 10 cX11_bidOf false (some .int)) = true := by decide +kernel
set_option maxRecDepth 100000 in
theorem ab_ok_163_0 : ab_c163_0.all (ab_enB 10 cX11_sold false (some .int)) = true := by decide +kernel
set_option maxRecDepth 100000 in
theorem ab_ok_163_1 : ab_c163_1.all (ab_enB 10 cX11_sold false (some .int)) = true := by decide +kernel
set_option maxRecDepth 100000 in
theorem ab_ok_163_2 : ab_c163_2.all (ab_enB 10 cX11_sold false (some .int)) = true := by decide +kernel
set_option maxRecDepth 100000 in
theorem ab_ok_163_3 : ab_c163_3.all (ab_enB 10 cX11_sold false (some .int)) = true := by decide +kernel
theorem ab_ok_163 : ab_c163.all (ab_enB 10 cX11_sold false (some .int)) = true := ab_all_app ab_ok_163_0 (ab_all_app ab_ok_163_1 (ab_all_app ab_ok_163_2 (ab_ok_163_3)))
set_option maxRecDepth 100000 in
theorem ab_ok_164 : ab_c164.all (ab_enB 10 cX11_leads false (some .boolean)) = true := by decide +kernel
set_option maxRecDepth 100000 in
theorem ab_ok_165_0 : ab_c165_0.all (ab_enB 10 cX11_escapesFrom false (some .int)) = true := by decide +kernel
set_option maxRecDepth 100000 in
theorem ab_ok_165_1 : ab_c165_1.all (ab_enB 10 cX11_escapesFrom false (some .int)) = true := by decide +kernel
set_option maxRecDepth 100000 in
theorem ab_ok_165_2 : ab_c165_2.all (ab_enB 10 cX11_escapesFrom false (some .int)) = true := by decide +kernel
theorem ab_ok_165 : ab_c165.all (ab_enB 10 cX11_escapesFrom false (some .int)) = true := ab_all_app ab_ok_165_0 (ab_all_app ab_ok_165_1 (ab_ok_165_2))
set_option maxRecDepth 100000 in
theorem ab_ok_166_0 : ab_c166_0.all (ab_enB 10 cX11_catchesFrom false (some .int)) = true := by decide +kernel
set_option maxRecDepth 100000 in
theorem ab_ok_166_1 : ab_c166_1.all (ab_enB 10 cX11_catchesFrom false (some .int)) = true := by decide +kernel
set_option maxRecDepth 100000 in
theorem ab_ok_166_2 : ab_c166_2.all (ab_enB 10 cX11_catchesFrom false (some .int)) = true := by decide +kernel
theorem ab_ok_166 : ab_c166.all (ab_enB 10 cX11_catchesFrom false (some .int)) = true := ab_all_app ab_ok_166_0 (ab_all_app ab_ok_166_1 (ab_ok_166_2))
set_option maxRecDepth 100000 in
theorem ab_ok_167_0 : ab_c167_0.all (ab_enB 10 cX11_findThief false (none)) = true := by decide +kernel
set_option maxRecDepth 100000 in
theorem ab_ok_167_1 : ab_c167_1.all (ab_enB 10 cX11_findThief false (none)) = true := by decide +kernel
set_option maxRecDepth 100000 in
theorem ab_ok_167_2 : ab_c167_2.all (ab_enB 10 cX11_findThief false (none)) = true := by decide +kernel
set_option maxRecDepth 100000 in
theorem ab_ok_167_3 : ab_c167_3.all (ab_enB 10 cX11_findThief false (none)) = true := by decide +kernel
theorem ab_ok_167 : ab_c167.all (ab_enB 10 cX11_findThief false (none)) = true := ab_all_app ab_ok_167_0 (ab_all_app ab_ok_167_1 (ab_all_app ab_ok_167_2 (ab_ok_167_3)))
set_option maxRecDepth 100000 in
theorem ab_ok_168_0 : ab_c168_0.all (ab_enB 10 cX11_thief false (some .int)) = true := by decide +kernel
set_option maxRecDepth 100000 in
theorem ab_ok_168_1 : ab_c168_1.all (ab_enB 10 cX11_thief false (some .int)) = true := by decide +kernel
set_option maxRecDepth 100000 in
theorem ab_ok_168_2 : ab_c168_2.all (ab_enB 10 cX11_thief false (some .int)) = true := by decide +kernel
theorem ab_ok_168 : ab_c168.all (ab_enB 10 cX11_thief false (some .int)) = true := ab_all_app ab_ok_168_0 (ab_all_app ab_ok_168_1 (ab_ok_168_2))
set_option maxRecDepth 100000 in
theorem ab_ok_169 : ab_c169.all (ab_enB 10 cX11_deedsOf false (some .int)) = true := by decide +kernel
set_option maxRecDepth 100000 in
theorem ab_ok_170_0 : ab_c170_0.all (ab_enB 10 cX11_voteOf false (some .int)) = true := by decide +kernel
set_option maxRecDepth 100000 in
theorem ab_ok_170_1 : ab_c170_1.all (ab_enB 10 cX11_voteOf false (some .int)) = true := by decide +kernel
theorem ab_ok_170 : ab_c170.all (ab_enB 10 cX11_voteOf false (some .int)) = true := ab_all_app ab_ok_170_0 (ab_ok_170_1)
set_option maxRecDepth 100000 in
theorem ab_ok_171 : ab_c171.all (ab_enB 10 cX11_votesFor false (some .int)) = true := by decide +kernel
set_option maxRecDepth 100000 in
theorem ab_ok_172_0 : ab_c172_0.all (ab_enB 10 cX11_vote false (some .int)) = true := by decide +kernel
set_option maxRecDepth 100000 in
theorem ab_ok_172_1 : ab_c172_1.all (ab_enB 10 cX11_vote false (some .int)) = true := by decide +kernel
theorem ab_ok_172 : ab_c172.all (ab_enB 10 cX11_vote false (some .int)) = true := ab_all_app ab_ok_172_0 (ab_ok_172_1)
set_option maxRecDepth 100000 in
theorem ab_ok_173_0 : ab_c173_0.all (ab_enB 10 cX11_bestWord false (some .int)) = true := by decide +kernel
set_option maxRecDepth 100000 in
theorem ab_ok_173_1 : ab_c173_1.all (ab_enB 10 cX11_bestWord false (some .int)) = true := by decide +kernel
theorem ab_ok_173 : ab_c173.all (ab_enB 10 cX11_bestWord false (some .int)) = true := ab_all_app ab_ok_173_0 (ab_ok_173_1)
set_option maxRecDepth 100000 in
theorem ab_ok_174_0 : ab_c174_0.all (ab_enB 10 cX11_tell false (some .int)) = true := by decide +kernel
set_option maxRecDepth 100000 in
theorem ab_ok_174_1 : ab_c174_1.all (ab_enB 10 cX11_tell false (some .int)) = true := by decide +kernel
theorem ab_ok_174 : ab_c174.all (ab_enB 10 cX11_tell false (some .int)) = true := ab_all_app ab_ok_174_0 (ab_ok_174_1)
set_option maxRecDepth 100000 in
theorem ab_ok_175_0 : ab_c175_0.all (ab_enB 10 cX11_isDay false (some .boolean)) = true := by decide +kernel
set_option maxRecDepth 100000 in
theorem ab_ok_175_1 : ab_c175_1.all (ab_enB 10 cX11_isDay false (some .boolean)) = true := by decide +kernel
set_option maxRecDepth 100000 in
theorem ab_ok_175_2 : ab_c175_2.all (ab_enB 10 cX11_isDay false (some .boolean)) = true := by decide +kernel
set_option maxRecDepth 100000 in
theorem ab_ok_175_3 : ab_c175_3.all (ab_enB 10 cX11_isDay false (some .boolean)) = true := by decide +kernel
theorem ab_ok_175 : ab_c175.all (ab_enB 10 cX11_isDay false (some .boolean)) = true := ab_all_app ab_ok_175_0 (ab_all_app ab_ok_175_1 (ab_all_app ab_ok_175_2 (ab_ok_175_3)))

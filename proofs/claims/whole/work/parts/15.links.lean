/-! LINKS OF CALLS, constants, classes, by program -/
abbrev ab_RC : Type := MethodName × (ByteArray × (Nat × Option FieldType))
theorem ab_cdm {i : Nat} {y : MethodName} {b : ByteArray} {n : Nat} {r : Option FieldType} (h : lw_tbl[i]? = some (.code y b n r)) : Cond.code y b n r ∈ ab_tb := List.mem_filter.mpr ⟨List.mem_of_getElem? h, rfl⟩
set_option maxRecDepth 100000 in
theorem ab_cd_0 : Cond.code yX0_init cX0_init 1 (none) ∈ ab_tb := ab_cdm (i := 282) rfl
set_option maxRecDepth 100000 in
theorem ab_cd_1 : Cond.code yX0_find cX0_find 5 (none) ∈ ab_tb := ab_cdm (i := 728) rfl
set_option maxRecDepth 100000 in
theorem ab_cd_2 : Cond.code yX0_meet cX0_meet 5 (none) ∈ ab_tb := ab_cdm (i := 744) rfl
set_option maxRecDepth 100000 in
theorem ab_cd_3 : Cond.code yX1_init cX1_init 1 (none) ∈ ab_tb := ab_cdm (i := 364) rfl
set_option maxRecDepth 100000 in
theorem ab_cd_4 : Cond.code yX1_find cX1_find 3 (none) ∈ ab_tb := ab_cdm (i := 815) rfl
set_option maxRecDepth 100000 in
theorem ab_cd_5 : Cond.code yX1_lendOn cX1_lendOn 9 (none) ∈ ab_tb := ab_cdm (i := 820) rfl
set_option maxRecDepth 100000 in
theorem ab_cd_6 : Cond.code yX1_compare cX1_compare 4 (none) ∈ ab_tb := ab_cdm (i := 824) rfl
set_option maxRecDepth 100000 in
theorem ab_cd_7 : Cond.code yX2_init cX2_init 1 (none) ∈ ab_tb := ab_cdm (i := 379) rfl
set_option maxRecDepth 100000 in
theorem ab_cd_8 : Cond.code yX2_place cX2_place 3 (some .int) ∈ ab_tb := ab_cdm (i := 858) rfl
set_option maxRecDepth 100000 in
theorem ab_cd_9 : Cond.code yX2_solve cX2_solve 6 (none) ∈ ab_tb := ab_cdm (i := 854) rfl
set_option maxRecDepth 100000 in
theorem ab_cd_10 : Cond.code yX2_decideAt cX2_decideAt 6 (some .boolean) ∈ ab_tb := ab_cdm (i := 862) rfl
set_option maxRecDepth 100000 in
theorem ab_cd_11 : Cond.code yX2_decide cX2_decide 14 (some .boolean) ∈ ab_tb := ab_cdm (i := 866) rfl
set_option maxRecDepth 100000 in
theorem ab_cd_12 : Cond.code yX3_init cX3_init 1 (none) ∈ ab_tb := ab_cdm (i := 334) rfl
set_option maxRecDepth 100000 in
theorem ab_cd_13 : Cond.code yX3_add cX3_add 3 (some .boolean) ∈ ab_tb := ab_cdm (i := 895) rfl
set_option maxRecDepth 100000 in
theorem ab_cd_14 : Cond.code yX3_find cX3_find 3 (none) ∈ ab_tb := ab_cdm (i := 903) rfl
set_option maxRecDepth 100000 in
theorem ab_cd_15 : Cond.code yX3_meet cX3_meet 4 (none) ∈ ab_tb := ab_cdm (i := 757) rfl
set_option maxRecDepth 100000 in
theorem ab_cd_16 : Cond.code yX3_agrees cX3_agrees 2 (some .boolean) ∈ ab_tb := ab_cdm (i := 761) rfl
set_option maxRecDepth 100000 in
theorem ab_cd_17 : Cond.code yX3_placeOf cX3_placeOf 6 (some .int) ∈ ab_tb := ab_cdm (i := 765) rfl
set_option maxRecDepth 100000 in
theorem ab_cd_18 : Cond.code yX4_init cX4_init 1 (none) ∈ ab_tb := ab_cdm (i := 265) rfl
set_option maxRecDepth 100000 in
theorem ab_cd_19 : Cond.code yX4_add cX4_add 3 (some .boolean) ∈ ab_tb := ab_cdm (i := 919) rfl
set_option maxRecDepth 100000 in
theorem ab_cd_20 : Cond.code yX4_firstWrong cX4_firstWrong 3 (some .int) ∈ ab_tb := ab_cdm (i := 927) rfl
set_option maxRecDepth 100000 in
theorem ab_cd_21 : Cond.code yX5_init cX5_init 1 (none) ∈ ab_tb := ab_cdm (i := 320) rfl
set_option maxRecDepth 100000 in
theorem ab_cd_22 : Cond.code yX5_find cX5_find 6 (none) ∈ ab_tb := ab_cdm (i := 791) rfl
set_option maxRecDepth 100000 in
theorem ab_cd_23 : Cond.code yX5_meet cX5_meet 4 (none) ∈ ab_tb := ab_cdm (i := 773) rfl
set_option maxRecDepth 100000 in
theorem ab_cd_24 : Cond.code yX6_init cX6_init 1 (none) ∈ ab_tb := ab_cdm (i := 100) rfl
set_option maxRecDepth 100000 in
theorem ab_cd_25 : Cond.code yX6_add cX6_add 2 (some .boolean) ∈ ab_tb := ab_cdm (i := 447) rfl
set_option maxRecDepth 100000 in
theorem ab_cd_26 : Cond.code yX6_read cX6_read 3 (some .int) ∈ ab_tb := ab_cdm (i := 456) rfl
set_option maxRecDepth 100000 in
theorem ab_cd_27 : Cond.code yX6_skipBlanks cX6_skipBlanks 1 (none) ∈ ab_tb := ab_cdm (i := 462) rfl
set_option maxRecDepth 100000 in
theorem ab_cd_28 : Cond.code yX6_readClause cX6_readClause 4 (none) ∈ ab_tb := ab_cdm (i := 466) rfl
set_option maxRecDepth 100000 in
theorem ab_cd_29 : Cond.code yX6_readEnd cX6_readEnd 3 (none) ∈ ab_tb := ab_cdm (i := 581) rfl
set_option maxRecDepth 100000 in
theorem ab_cd_30 : Cond.code yX6_isFigure cX6_isFigure 1 (some .boolean) ∈ ab_tb := ab_cdm (i := 564) rfl
set_option maxRecDepth 100000 in
theorem ab_cd_31 : Cond.code yX6_readNumber cX6_readNumber 7 (none) ∈ ab_tb := ab_cdm (i := 561) rfl
set_option maxRecDepth 100000 in
theorem ab_cd_32 : Cond.code yX6_lowest cX6_lowest 2 (some .int) ∈ ab_tb := ab_cdm (i := 567) rfl
set_option maxRecDepth 100000 in
theorem ab_cd_33 : Cond.code yX6_highest cX6_highest 4 (some .int) ∈ ab_tb := ab_cdm (i := 571) rfl
set_option maxRecDepth 100000 in
theorem ab_cd_34 : Cond.code yX6_again cX6_again 5 (some .boolean) ∈ ab_tb := ab_cdm (i := 577) rfl
set_option maxRecDepth 100000 in
theorem ab_cd_35 : Cond.code yX6_take cX6_take 3 (none) ∈ ab_tb := ab_cdm (i := 585) rfl
set_option maxRecDepth 100000 in
theorem ab_cd_36 : Cond.code yX6_takeDeed cX6_takeDeed 3 (none) ∈ ab_tb := ab_cdm (i := 589) rfl
set_option maxRecDepth 100000 in
theorem ab_cd_37 : Cond.code yX7_init cX7_init 1 (none) ∈ ab_tb := ab_cdm (i := 285) rfl
set_option maxRecDepth 100000 in
theorem ab_cd_38 : Cond.code yX7_tryAll cX7_tryAll 5 (none) ∈ ab_tb := ab_cdm (i := 734) rfl
set_option maxRecDepth 100000 in
theorem ab_cd_39 : Cond.code yX7_goOn cX7_goOn 8 (none) ∈ ab_tb := ab_cdm (i := 738) rfl
set_option maxRecDepth 100000 in
theorem ab_cd_40 : Cond.code yX7_setOfRow cX7_setOfRow 4 (some .int) ∈ ab_tb := ab_cdm (i := 750) rfl
set_option maxRecDepth 100000 in
theorem ab_cd_41 : Cond.code yX8_init cX8_init 1 (none) ∈ ab_tb := ab_cdm (i := 233) rfl
set_option maxRecDepth 100000 in
theorem ab_cd_42 : Cond.code yX8_beginIn cX8_beginIn 2 (none) ∈ ab_tb := ab_cdm (i := 601) rfl
set_option maxRecDepth 100000 in
theorem ab_cd_43 : Cond.code yX8_become cX8_become 2 (none) ∈ ab_tb := ab_cdm (i := 943) rfl
set_option maxRecDepth 100000 in
theorem ab_cd_44 : Cond.code yX8_standOf cX8_standOf 3 (some .int) ∈ ab_tb := ab_cdm (i := 618) rfl
set_option maxRecDepth 100000 in
theorem ab_cd_45 : Cond.code yX8_reaches cX8_reaches 3 (some .boolean) ∈ ab_tb := ab_cdm (i := 677) rfl
set_option maxRecDepth 100000 in
theorem ab_cd_46 : Cond.code yX8_hand cX8_hand 3 (none) ∈ ab_tb := ab_cdm (i := 684) rfl
set_option maxRecDepth 100000 in
theorem ab_cd_47 : Cond.code yX8_finish cX8_finish 3 (none) ∈ ab_tb := ab_cdm (i := 692) rfl
set_option maxRecDepth 100000 in
theorem ab_cd_48 : Cond.code yX8_draw cX8_draw 2 (some .int) ∈ ab_tb := ab_cdm (i := 712) rfl
set_option maxRecDepth 100000 in
theorem ab_cd_49 : Cond.code yX9_init cX9_init 1 (none) ∈ ab_tb := ab_cdm (i := 129) rfl
set_option maxRecDepth 100000 in
theorem ab_cd_50 : Cond.code yX9_clear cX9_clear 2 (none) ∈ ab_tb := ab_cdm (i := 136) rfl
set_option maxRecDepth 100000 in
theorem ab_cd_51 : Cond.code yX9_isSquare cX9_isSquare 2 (some .boolean) ∈ ab_tb := ab_cdm (i := 630) rfl
set_option maxRecDepth 100000 in
theorem ab_cd_52 : Cond.code yX9_isPerson cX9_isPerson 2 (some .boolean) ∈ ab_tb := ab_cdm (i := 644) rfl
set_option maxRecDepth 100000 in
theorem ab_cd_53 : Cond.code yX9_areTwoPeople cX9_areTwoPeople 3 (some .boolean) ∈ ab_tb := ab_cdm (i := 660) rfl
set_option maxRecDepth 100000 in
theorem ab_cd_54 : Cond.code yX9_isDeed cX9_isDeed 2 (some .boolean) ∈ ab_tb := ab_cdm (i := 652) rfl
set_option maxRecDepth 100000 in
theorem ab_cd_55 : Cond.code yX9_isWord cX9_isWord 2 (some .boolean) ∈ ab_tb := ab_cdm (i := 669) rfl
set_option maxRecDepth 100000 in
theorem ab_cd_56 : Cond.code yX9_measure cX9_measure 4 (none) ∈ ab_tb := ab_cdm (i := 593) rfl
set_option maxRecDepth 100000 in
theorem ab_cd_57 : Cond.code yX9_shorten cX9_shorten 5 (none) ∈ ab_tb := ab_cdm (i := 597) rfl
set_option maxRecDepth 100000 in
theorem ab_cd_58 : Cond.code yX9_between cX9_between 3 (some .int) ∈ ab_tb := ab_cdm (i := 635) rfl
set_option maxRecDepth 100000 in
theorem ab_cd_59 : Cond.code yX9_squareOf cX9_squareOf 2 (some .int) ∈ ab_tb := ab_cdm (i := 769) rfl
set_option maxRecDepth 100000 in
theorem ab_cd_60 : Cond.code yX9_worthOf cX9_worthOf 4 (some .int) ∈ ab_tb := ab_cdm (i := 622) rfl
set_option maxRecDepth 100000 in
theorem ab_cd_61 : Cond.code yX9_costOf cX9_costOf 4 (some .int) ∈ ab_tb := ab_cdm (i := 807) rfl
set_option maxRecDepth 100000 in
theorem ab_cd_62 : Cond.code yX9_deedsOf cX9_deedsOf 4 (some .int) ∈ ab_tb := ab_cdm (i := 875) rfl
set_option maxRecDepth 100000 in
theorem ab_cd_63 : Cond.code yX9_endOf cX9_endOf 6 (some .int) ∈ ab_tb := ab_cdm (i := 780) rfl
set_option maxRecDepth 100000 in
theorem ab_cd_64 : Cond.code yX10_init cX10_init 1 (none) ∈ ab_tb := ab_cdm (i := 92) rfl
set_option maxRecDepth 100000 in
theorem ab_cd_65 : Cond.code yX10_feed cX10_feed 2 (some .int) ∈ ab_tb := ab_cdm (i := 442) rfl
set_option maxRecDepth 100000 in
theorem ab_cd_66 : Cond.code yX10_town cX10_town 3 (some .int) ∈ ab_tb := ab_cdm (i := 452) rfl
set_option maxRecDepth 100000 in
theorem ab_cd_67 : Cond.code yX10_fault cX10_fault 1 (some .int) ∈ ab_tb := ab_cdm (i := 606) rfl
set_option maxRecDepth 100000 in
theorem ab_cd_68 : Cond.code yX10_told cX10_told 2 (some .int) ∈ ab_tb := ab_cdm (i := 610) rfl
set_option maxRecDepth 100000 in
theorem ab_cd_69 : Cond.code yX10_far cX10_far 3 (some .int) ∈ ab_tb := ab_cdm (i := 626) rfl
set_option maxRecDepth 100000 in
theorem ab_cd_70 : Cond.code yX10_person cX10_person 3 (some .int) ∈ ab_tb := ab_cdm (i := 640) rfl
set_option maxRecDepth 100000 in
theorem ab_cd_71 : Cond.code yX10_deed cX10_deed 3 (some .int) ∈ ab_tb := ab_cdm (i := 648) rfl
set_option maxRecDepth 100000 in
theorem ab_cd_72 : Cond.code yX10_trust cX10_trust 3 (some .int) ∈ ab_tb := ab_cdm (i := 656) rfl
set_option maxRecDepth 100000 in
theorem ab_cd_73 : Cond.code yX10_lets cX10_lets 2 (some .int) ∈ ab_tb := ab_cdm (i := 665) rfl
set_option maxRecDepth 100000 in
theorem ab_cd_74 : Cond.code yX10_lend cX10_lend 2 (some .int) ∈ ab_tb := ab_cdm (i := 673) rfl
set_option maxRecDepth 100000 in
theorem ab_cd_75 : Cond.code yX10_act cX10_act 2 (some .int) ∈ ab_tb := ab_cdm (i := 688) rfl
set_option maxRecDepth 100000 in
theorem ab_cd_76 : Cond.code yX10_drop cX10_drop 2 (some .int) ∈ ab_tb := ab_cdm (i := 696) rfl
set_option maxRecDepth 100000 in
theorem ab_cd_77 : Cond.code yX10_pass cX10_pass 2 (some .int) ∈ ab_tb := ab_cdm (i := 700) rfl
set_option maxRecDepth 100000 in
theorem ab_cd_78 : Cond.code yX10_drift cX10_drift 3 (some .int) ∈ ab_tb := ab_cdm (i := 704) rfl
set_option maxRecDepth 100000 in
theorem ab_cd_79 : Cond.code yX10_round cX10_round 2 (some .int) ∈ ab_tb := ab_cdm (i := 724) rfl
set_option maxRecDepth 100000 in
theorem ab_cd_80 : Cond.code yX10_two cX10_two 5 (some .int) ∈ ab_tb := ab_cdm (i := 787) rfl
set_option maxRecDepth 100000 in
theorem ab_cd_81 : Cond.code yX10_reword cX10_reword 7 (some .int) ∈ ab_tb := ab_cdm (i := 803) rfl
set_option maxRecDepth 100000 in
theorem ab_cd_82 : Cond.code yX10_chain cX10_chain 4 (some .int) ∈ ab_tb := ab_cdm (i := 811) rfl
set_option maxRecDepth 100000 in
theorem ab_cd_83 : Cond.code yX10_lost cX10_lost 4 (some .int) ∈ ab_tb := ab_cdm (i := 829) rfl
set_option maxRecDepth 100000 in
theorem ab_cd_84 : Cond.code yX10_sold cX10_sold 5 (some .int) ∈ ab_tb := ab_cdm (i := 833) rfl
set_option maxRecDepth 100000 in
theorem ab_cd_85 : Cond.code yX10_thief cX10_thief 6 (some .int) ∈ ab_tb := ab_cdm (i := 850) rfl
set_option maxRecDepth 100000 in
theorem ab_cd_86 : Cond.code yX10_vote cX10_vote 6 (some .int) ∈ ab_tb := ab_cdm (i := 871) rfl
set_option maxRecDepth 100000 in
theorem ab_cd_87 : Cond.code yX10_bestWord cX10_bestWord 1 (some .int) ∈ ab_tb := ab_cdm (i := 887) rfl
set_option maxRecDepth 100000 in
theorem ab_cd_88 : Cond.code yX10_tell cX10_tell 3 (some .int) ∈ ab_tb := ab_cdm (i := 891) rfl
set_option maxRecDepth 100000 in
theorem ab_cd_89 : Cond.code yX10_days cX10_days 1 (some .int) ∈ ab_tb := ab_cdm (i := 899) rfl
set_option maxRecDepth 100000 in
theorem ab_cd_90 : Cond.code yX10_where cX10_where 2 (some .int) ∈ ab_tb := ab_cdm (i := 910) rfl
set_option maxRecDepth 100000 in
theorem ab_cd_91 : Cond.code yX10_write cX10_write 3 (some .int) ∈ ab_tb := ab_cdm (i := 914) rfl
set_option maxRecDepth 100000 in
theorem ab_cd_92 : Cond.code yX10_judge cX10_judge 1 (some .int) ∈ ab_tb := ab_cdm (i := 923) rfl
set_option maxRecDepth 100000 in
theorem ab_cd_93 : Cond.code yX10_tear cX10_tear 2 (some .int) ∈ ab_tb := ab_cdm (i := 931) rfl
set_option maxRecDepth 100000 in
theorem ab_cd_94 : Cond.code yX10_seed cX10_seed 3 (some .int) ∈ ab_tb := ab_cdm (i := 935) rfl
set_option maxRecDepth 100000 in
theorem ab_cd_95 : Cond.code yX10_keep cX10_keep 3 (some .int) ∈ ab_tb := ab_cdm (i := 939) rfl
set_option maxRecDepth 100000 in
theorem ab_cd_96 : Cond.code yX10_goBack cX10_goBack 3 (some .int) ∈ ab_tb := ab_cdm (i := 948) rfl
set_option maxRecDepth 100000 in
theorem ab_cd_97 : Cond.code yX10_deedsThatAre cX10_deedsThatAre 4 (some .int) ∈ ab_tb := ab_cdm (i := 614) rfl
set_option maxRecDepth 100000 in
theorem ab_cd_98 : Cond.code yX10_driftOnce cX10_driftOnce 3 (none) ∈ ab_tb := ab_cdm (i := 708) rfl
set_option maxRecDepth 100000 in
theorem ab_cd_99 : Cond.code yX10_firstOpenOf cX10_firstOpenOf 3 (some .int) ∈ ab_tb := ab_cdm (i := 720) rfl
set_option maxRecDepth 100000 in
theorem ab_cd_100 : Cond.code yX10_mostBeside cX10_mostBeside 5 (some .int) ∈ ab_tb := ab_cdm (i := 798) rfl
set_option maxRecDepth 100000 in
theorem ab_cd_101 : Cond.code yX10_sellMinute cX10_sellMinute 3 (none) ∈ ab_tb := ab_cdm (i := 838) rfl
set_option maxRecDepth 100000 in
theorem ab_cd_102 : Cond.code yX10_bidOf cX10_bidOf 2 (some .int) ∈ ab_tb := ab_cdm (i := 846) rfl
set_option maxRecDepth 100000 in
theorem ab_cd_103 : Cond.code yX10_highestBidder cX10_highestBidder 4 (some .int) ∈ ab_tb := ab_cdm (i := 842) rfl
set_option maxRecDepth 100000 in
theorem ab_cd_104 : Cond.code yX10_wordForMost cX10_wordForMost 6 (some .int) ∈ ab_tb := ab_cdm (i := 879) rfl
set_option maxRecDepth 100000 in
theorem ab_cd_105 : Cond.code yX10_mostVoted cX10_mostVoted 4 (some .int) ∈ ab_tb := ab_cdm (i := 883) rfl
set_option maxRecDepth 100000 in
theorem ab_cd_106 : Cond.code yX11_init cX11_init 2 (none) ∈ ab_tb := ab_cdm (i := 953) rfl
set_option maxRecDepth 100000 in
theorem ab_cd_107 : Cond.code yX11_in cX11_in 6 (some .boolean) ∈ ab_tb := ab_cdm (i := 1113) rfl
set_option maxRecDepth 100000 in
theorem ab_cd_108 : Cond.code yX11_has cX11_has 2 (some .boolean) ∈ ab_tb := ab_cdm (i := 1197) rfl
set_option maxRecDepth 100000 in
theorem ab_cd_109 : Cond.code yX11_isSquare cX11_isSquare 2 (some .boolean) ∈ ab_tb := ab_cdm (i := 1205) rfl
set_option maxRecDepth 100000 in
theorem ab_cd_110 : Cond.code yX11_isPerson cX11_isPerson 2 (some .boolean) ∈ ab_tb := ab_cdm (i := 1218) rfl
set_option maxRecDepth 100000 in
theorem ab_cd_111 : Cond.code yX11_isDeed cX11_isDeed 2 (some .boolean) ∈ ab_tb := ab_cdm (i := 1226) rfl
set_option maxRecDepth 100000 in
theorem ab_cd_112 : Cond.code yX11_feed cX11_feed 2 (some .int) ∈ ab_tb := ab_cdm (i := 1109) rfl
set_option maxRecDepth 100000 in
theorem ab_cd_113 : Cond.code yX11_nextToken cX11_nextToken 1 (none) ∈ ab_tb := ab_cdm (i := 1127) rfl
set_option maxRecDepth 100000 in
theorem ab_cd_114 : Cond.code yX11_faults cX11_faults 2 (some .boolean) ∈ ab_tb := ab_cdm (i := 1138) rfl
set_option maxRecDepth 100000 in
theorem ab_cd_115 : Cond.code yX11_takes cX11_takes 2 (some .boolean) ∈ ab_tb := ab_cdm (i := 1134) rfl
set_option maxRecDepth 100000 in
theorem ab_cd_116 : Cond.code yX11_isNumber cX11_isNumber 3 (some .boolean) ∈ ab_tb := ab_cdm (i := 1142) rfl
set_option maxRecDepth 100000 in
theorem ab_cd_117 : Cond.code yX11_taken cX11_taken 2 (some .int) ∈ ab_tb := ab_cdm (i := 1146) rfl
set_option maxRecDepth 100000 in
theorem ab_cd_118 : Cond.code yX11_readWay cX11_readWay 3 (some .boolean) ∈ ab_tb := ab_cdm (i := 1150) rfl
set_option maxRecDepth 100000 in
theorem ab_cd_119 : Cond.code yX11_readPerson cX11_readPerson 1 (some .boolean) ∈ ab_tb := ab_cdm (i := 1154) rfl
set_option maxRecDepth 100000 in
theorem ab_cd_120 : Cond.code yX11_readDeed cX11_readDeed 4 (some .boolean) ∈ ab_tb := ab_cdm (i := 1158) rfl
set_option maxRecDepth 100000 in
theorem ab_cd_121 : Cond.code yX11_readReword cX11_readReword 2 (some .boolean) ∈ ab_tb := ab_cdm (i := 1162) rfl
set_option maxRecDepth 100000 in
theorem ab_cd_122 : Cond.code yX11_readTrust cX11_readTrust 3 (some .boolean) ∈ ab_tb := ab_cdm (i := 1166) rfl
set_option maxRecDepth 100000 in
theorem ab_cd_123 : Cond.code yX11_readOther cX11_readOther 1 (some .boolean) ∈ ab_tb := ab_cdm (i := 1170) rfl
set_option maxRecDepth 100000 in
theorem ab_cd_124 : Cond.code yX11_readTown cX11_readTown 3 (some .boolean) ∈ ab_tb := ab_cdm (i := 1123) rfl
set_option maxRecDepth 100000 in
theorem ab_cd_125 : Cond.code yX11_findFars cX11_findFars 4 (none) ∈ ab_tb := ab_cdm (i := 1174) rfl
set_option maxRecDepth 100000 in
theorem ab_cd_126 : Cond.code yX11_town cX11_town 3 (some .int) ∈ ab_tb := ab_cdm (i := 1119) rfl
set_option maxRecDepth 100000 in
theorem ab_cd_127 : Cond.code yX11_fault cX11_fault 1 (some .int) ∈ ab_tb := ab_cdm (i := 1178) rfl
set_option maxRecDepth 100000 in
theorem ab_cd_128 : Cond.code yX11_howOf cX11_howOf 2 (some .int) ∈ ab_tb := ab_cdm (i := 1190) rfl
set_option maxRecDepth 100000 in
theorem ab_cd_129 : Cond.code yX11_deedsThatAre cX11_deedsThatAre 4 (some .int) ∈ ab_tb := ab_cdm (i := 1186) rfl
set_option maxRecDepth 100000 in
theorem ab_cd_130 : Cond.code yX11_worthOf cX11_worthOf 4 (some .int) ∈ ab_tb := ab_cdm (i := 1194) rfl
set_option maxRecDepth 100000 in
theorem ab_cd_131 : Cond.code yX11_told cX11_told 2 (some .int) ∈ ab_tb := ab_cdm (i := 1182) rfl
set_option maxRecDepth 100000 in
theorem ab_cd_132 : Cond.code yX11_farOf cX11_farOf 4 (some .int) ∈ ab_tb := ab_cdm (i := 1209) rfl
set_option maxRecDepth 100000 in
theorem ab_cd_133 : Cond.code yX11_far cX11_far 3 (some .int) ∈ ab_tb := ab_cdm (i := 1201) rfl
set_option maxRecDepth 100000 in
theorem ab_cd_134 : Cond.code yX11_person cX11_person 3 (some .int) ∈ ab_tb := ab_cdm (i := 1214) rfl
set_option maxRecDepth 100000 in
theorem ab_cd_135 : Cond.code yX11_deed cX11_deed 3 (some .int) ∈ ab_tb := ab_cdm (i := 1222) rfl
set_option maxRecDepth 100000 in
theorem ab_cd_136 : Cond.code yX11_areTwo cX11_areTwo 3 (some .boolean) ∈ ab_tb := ab_cdm (i := 1235) rfl
set_option maxRecDepth 100000 in
theorem ab_cd_137 : Cond.code yX11_trust cX11_trust 3 (some .int) ∈ ab_tb := ab_cdm (i := 1231) rfl
set_option maxRecDepth 100000 in
theorem ab_cd_138 : Cond.code yX11_lets cX11_lets 2 (some .int) ∈ ab_tb := ab_cdm (i := 1239) rfl
set_option maxRecDepth 100000 in
theorem ab_cd_139 : Cond.code yX11_placeOf cX11_placeOf 2 (some .int) ∈ ab_tb := ab_cdm (i := 1295) rfl
set_option maxRecDepth 100000 in
theorem ab_cd_140 : Cond.code yX11_lend cX11_lend 3 (some .int) ∈ ab_tb := ab_cdm (i := 1243) rfl
set_option maxRecDepth 100000 in
theorem ab_cd_141 : Cond.code yX11_walkTo cX11_walkTo 3 (none) ∈ ab_tb := ab_cdm (i := 1249) rfl
set_option maxRecDepth 100000 in
theorem ab_cd_142 : Cond.code yX11_doNow cX11_doNow 2 (none) ∈ ab_tb := ab_cdm (i := 1257) rfl
set_option maxRecDepth 100000 in
theorem ab_cd_143 : Cond.code yX11_act cX11_act 2 (some .int) ∈ ab_tb := ab_cdm (i := 1253) rfl
set_option maxRecDepth 100000 in
theorem ab_cd_144 : Cond.code yX11_drop cX11_drop 2 (some .int) ∈ ab_tb := ab_cdm (i := 1261) rfl
set_option maxRecDepth 100000 in
theorem ab_cd_145 : Cond.code yX11_pass cX11_pass 2 (some .int) ∈ ab_tb := ab_cdm (i := 1265) rfl
set_option maxRecDepth 100000 in
theorem ab_cd_146 : Cond.code yX11_draw cX11_draw 2 (some .int) ∈ ab_tb := ab_cdm (i := 1275) rfl
set_option maxRecDepth 100000 in
theorem ab_cd_147 : Cond.code yX11_drift cX11_drift 7 (some .int) ∈ ab_tb := ab_cdm (i := 1270) rfl
set_option maxRecDepth 100000 in
theorem ab_cd_148 : Cond.code yX11_endBehind cX11_endBehind 6 (some .int) ∈ ab_tb := ab_cdm (i := 1291) rfl
set_option maxRecDepth 100000 in
theorem ab_cd_149 : Cond.code yX11_findEnds cX11_findEnds 10 (none) ∈ ab_tb := ab_cdm (i := 1287) rfl
set_option maxRecDepth 100000 in
theorem ab_cd_150 : Cond.code yX11_endOf cX11_endOf 5 (some .int) ∈ ab_tb := ab_cdm (i := 1299) rfl
set_option maxRecDepth 100000 in
theorem ab_cd_151 : Cond.code yX11_isRow cX11_isRow 8 (some .boolean) ∈ ab_tb := ab_cdm (i := 1311) rfl
set_option maxRecDepth 100000 in
theorem ab_cd_152 : Cond.code yX11_firstRow cX11_firstRow 11 (some .int) ∈ ab_tb := ab_cdm (i := 1303) rfl
set_option maxRecDepth 100000 in
theorem ab_cd_153 : Cond.code yX11_digits cX11_digits 7 (some .int) ∈ ab_tb := ab_cdm (i := 1307) rfl
set_option maxRecDepth 100000 in
theorem ab_cd_154 : Cond.code yX11_isAhead cX11_isAhead 4 (some .boolean) ∈ ab_tb := ab_cdm (i := 1315) rfl
set_option maxRecDepth 100000 in
theorem ab_cd_155 : Cond.code yX11_round cX11_round 7 (some .int) ∈ ab_tb := ab_cdm (i := 1283) rfl
set_option maxRecDepth 100000 in
theorem ab_cd_156 : Cond.code yX11_two cX11_two 8 (some .int) ∈ ab_tb := ab_cdm (i := 1319) rfl
set_option maxRecDepth 100000 in
theorem ab_cd_157 : Cond.code yX11_costOf cX11_costOf 5 (some .int) ∈ ab_tb := ab_cdm (i := 1327) rfl
set_option maxRecDepth 100000 in
theorem ab_cd_158 : Cond.code yX11_reword cX11_reword 6 (some .int) ∈ ab_tb := ab_cdm (i := 1323) rfl
set_option maxRecDepth 100000 in
theorem ab_cd_159 : Cond.code yX11_chain cX11_chain 10 (some .int) ∈ ab_tb := ab_cdm (i := 1331) rfl
set_option maxRecDepth 100000 in
theorem ab_cd_160 : Cond.code yX11_oddsOf cX11_oddsOf 12 (some .int) ∈ ab_tb := ab_cdm (i := 1335) rfl
set_option maxRecDepth 100000 in
theorem ab_cd_161 : Cond.code yX11_lost cX11_lost 5 (some .int) ∈ ab_tb := ab_cdm (i := 1341) rfl
set_option maxRecDepth 100000 in
theorem ab_cd_162 : Cond.code yX11_bidOf cX11_bidOf 3 (some .int) ∈ ab_tb := ab_cdm (i := 1350) rfl
set_option maxRecDepth 100000 in
theorem ab_cd_163 : Cond.code yX11_sold cX11_sold 8 (some .int) ∈ ab_tb := ab_cdm (i := 1345) rfl
set_option maxRecDepth 100000 in
theorem ab_cd_164 : Cond.code yX11_leads cX11_leads 3 (some .boolean) ∈ ab_tb := ab_cdm (i := 1366) rfl
set_option maxRecDepth 100000 in
theorem ab_cd_165 : Cond.code yX11_escapesFrom cX11_escapesFrom 9 (some .int) ∈ ab_tb := ab_cdm (i := 1362) rfl
set_option maxRecDepth 100000 in
theorem ab_cd_166 : Cond.code yX11_catchesFrom cX11_catchesFrom 9 (some .int) ∈ ab_tb := ab_cdm (i := 1370) rfl
set_option maxRecDepth 100000 in
theorem ab_cd_167 : Cond.code yX11_findThief cX11_findThief 6 (none) ∈ ab_tb := ab_cdm (i := 1358) rfl
set_option maxRecDepth 100000 in
theorem ab_cd_168 : Cond.code yX11_thief cX11_thief 7 (some .int) ∈ ab_tb := ab_cdm (i := 1354) rfl
set_option maxRecDepth 100000 in
theorem ab_cd_169 : Cond.code yX11_deedsOf cX11_deedsOf 4 (some .int) ∈ ab_tb := ab_cdm (i := 1387) rfl
set_option maxRecDepth 100000 in
theorem ab_cd_170 : Cond.code yX11_voteOf cX11_voteOf 7 (some .int) ∈ ab_tb := ab_cdm (i := 1383) rfl
set_option maxRecDepth 100000 in
theorem ab_cd_171 : Cond.code yX11_votesFor cX11_votesFor 4 (some .int) ∈ ab_tb := ab_cdm (i := 1379) rfl
set_option maxRecDepth 100000 in
theorem ab_cd_172 : Cond.code yX11_vote cX11_vote 6 (some .int) ∈ ab_tb := ab_cdm (i := 1374) rfl
set_option maxRecDepth 100000 in
theorem ab_cd_173 : Cond.code yX11_bestWord cX11_bestWord 5 (some .int) ∈ ab_tb := ab_cdm (i := 1391) rfl
set_option maxRecDepth 100000 in
theorem ab_cd_174 : Cond.code yX11_tell cX11_tell 3 (some .int) ∈ ab_tb := ab_cdm (i := 1395) rfl
set_option maxRecDepth 100000 in
theorem ab_cd_175 : Cond.code yX11_isDay cX11_isDay 6 (some .boolean) ∈ ab_tb := ab_cdm (i := 1407) rfl
set_option maxRecDepth 100000 in
theorem ab_cd_176 : Cond.code yX11_findDays cX11_findDays 8 (some .int) ∈ ab_tb := ab_cdm (i := 1403) rfl
set_option maxRecDepth 100000 in
theorem ab_cd_177 : Cond.code yX11_days cX11_days 1 (some .int) ∈ ab_tb := ab_cdm (i := 1399) rfl
set_option maxRecDepth 100000 in
theorem ab_cd_178 : Cond.code yX11_where cX11_where 2 (some .int) ∈ ab_tb := ab_cdm (i := 1411) rfl
set_option maxRecDepth 100000 in
theorem ab_cd_179 : Cond.code yX11_write cX11_write 3 (some .int) ∈ ab_tb := ab_cdm (i := 1415) rfl
set_option maxRecDepth 100000 in
theorem ab_cd_180 : Cond.code yX11_judge cX11_judge 2 (some .int) ∈ ab_tb := ab_cdm (i := 1420) rfl
set_option maxRecDepth 100000 in
theorem ab_cd_181 : Cond.code yX11_tear cX11_tear 2 (some .int) ∈ ab_tb := ab_cdm (i := 1424) rfl
set_option maxRecDepth 100000 in
theorem ab_cd_182 : Cond.code yX11_seed cX11_seed 3 (some .int) ∈ ab_tb := ab_cdm (i := 1428) rfl
set_option maxRecDepth 100000 in
theorem ab_cd_183 : Cond.code yX11_keep cX11_keep 3 (some .int) ∈ ab_tb := ab_cdm (i := 1432) rfl
set_option maxRecDepth 100000 in
theorem ab_cd_184 : Cond.code yX11_goBack cX11_goBack 3 (some .int) ∈ ab_tb := ab_cdm (i := 1436) rfl
set_option maxRecDepth 100000 in
theorem ab_cd_185 : Cond.code yJ0_length_8abf5 cJ0_length_8abf5 1 (some .int) ∈ ab_tb := ab_cdm (i := 485) rfl
set_option maxRecDepth 100000 in
theorem ab_cd_186 : Cond.code yJ0_indexOf_0f7a4 cJ0_indexOf_0f7a4 2 (some .int) ∈ ab_tb := ab_cdm (i := 471) rfl
set_option maxRecDepth 100000 in
theorem ab_cd_187 : Cond.code yJ0_indexOf_7cf53 cJ0_indexOf_7cf53 3 (some .int) ∈ ab_tb := ab_cdm (i := 475) rfl
set_option maxRecDepth 100000 in
theorem ab_cd_188 : Cond.code yJ0_coder_7d493 cJ0_coder_7d493 1 (some .byte) ∈ ab_tb := ab_cdm (i := 489) rfl
set_option maxRecDepth 100000 in
theorem ab_cd_189 : Cond.code yJ0_isLatin1_aae02 cJ0_isLatin1_aae02 1 (some .boolean) ∈ ab_tb := ab_cdm (i := 479) rfl
set_option maxRecDepth 100000 in
theorem ab_cd_190 : Cond.code yJ1_canEncode_9a6ad cJ1_canEncode_9a6ad 1 (some .boolean) ∈ ab_tb := ab_cdm (i := 495) rfl
set_option maxRecDepth 100000 in
theorem ab_cd_191 : Cond.code yJ1_indexOf_4cfef cJ1_indexOf_4cfef 4 (some .int) ∈ ab_tb := ab_cdm (i := 492) rfl
set_option maxRecDepth 100000 in
theorem ab_cd_192 : Cond.code yJ1_indexOfChar_4cfef cJ1_indexOfChar_4cfef 6 (some .int) ∈ ab_tb := ab_cdm (i := 504) rfl
set_option maxRecDepth 100000 in
theorem ab_cd_193 : Cond.code yJ7_fill_53178 cJ7_fill_53178 4 (none) ∈ ab_tb := ab_cdm (i := 139) rfl
def ab_rcs_0 : List ab_RC := [(yX0_init, cX0_init, 1, none), (yX0_find, cX0_find, 5, none), (yX0_meet, cX0_meet, 5, none), (yX1_init, cX1_init, 1, none), (yX1_find, cX1_find, 3, none), (yX1_lendOn, cX1_lendOn, 9, none), (yX1_compare, cX1_compare, 4, none), (yX2_init, cX2_init, 1, none), (yX2_place, cX2_place, 3, some .int), (yX2_solve, cX2_solve, 6, none), (yX2_decideAt, cX2_decideAt, 6, some .boolean), (yX2_decide, cX2_decide, 14, some .boolean), (yX3_init, cX3_init, 1, none), (yX3_add, cX3_add, 3, some .boolean)]
theorem ab_rcm_0 : ∀ r ∈ ab_rcs_0, Cond.code r.1 r.2.1 r.2.2.1 r.2.2.2 ∈ ab_tb := List.forall_mem_cons.mpr ⟨ab_cd_0, List.forall_mem_cons.mpr ⟨ab_cd_1, List.forall_mem_cons.mpr ⟨ab_cd_2, List.forall_mem_cons.mpr ⟨ab_cd_3, List.forall_mem_cons.mpr ⟨ab_cd_4, List.forall_mem_cons.mpr ⟨ab_cd_5, List.forall_mem_cons.mpr ⟨ab_cd_6, List.forall_mem_cons.mpr ⟨ab_cd_7, List.forall_mem_cons.mpr ⟨ab_cd_8, List.forall_mem_cons.mpr ⟨ab_cd_9, List.forall_mem_cons.mpr ⟨ab_cd_10, List.forall_mem_cons.mpr ⟨ab_cd_11, List.forall_mem_cons.mpr ⟨ab_cd_12, List.forall_mem_cons.mpr ⟨ab_cd_13, fun _ h => absurd h List.not_mem_nil⟩⟩⟩⟩⟩⟩⟩⟩⟩⟩⟩⟩⟩⟩
def ab_rcs_1 : List ab_RC := [(yX3_find, cX3_find, 3, none), (yX3_meet, cX3_meet, 4, none), (yX3_agrees, cX3_agrees, 2, some .boolean), (yX3_placeOf, cX3_placeOf, 6, some .int), (yX4_init, cX4_init, 1, none), (yX4_add, cX4_add, 3, some .boolean), (yX4_firstWrong, cX4_firstWrong, 3, some .int), (yX5_init, cX5_init, 1, none), (yX5_find, cX5_find, 6, none), (yX5_meet, cX5_meet, 4, none), (yX6_init, cX6_init, 1, none), (yX6_add, cX6_add, 2, some .boolean), (yX6_read, cX6_read, 3, some .int), (yX6_skipBlanks, cX6_skipBlanks, 1, none)]
theorem ab_rcm_1 : ∀ r ∈ ab_rcs_1, Cond.code r.1 r.2.1 r.2.2.1 r.2.2.2 ∈ ab_tb := List.forall_mem_cons.mpr ⟨ab_cd_14, List.forall_mem_cons.mpr ⟨ab_cd_15, List.forall_mem_cons.mpr ⟨ab_cd_16, List.forall_mem_cons.mpr ⟨ab_cd_17, List.forall_mem_cons.mpr ⟨ab_cd_18, List.forall_mem_cons.mpr ⟨ab_cd_19, List.forall_mem_cons.mpr ⟨ab_cd_20, List.forall_mem_cons.mpr ⟨ab_cd_21, List.forall_mem_cons.mpr ⟨ab_cd_22, List.forall_mem_cons.mpr ⟨ab_cd_23, List.forall_mem_cons.mpr ⟨ab_cd_24, List.forall_mem_cons.mpr ⟨ab_cd_25, List.forall_mem_cons.mpr ⟨ab_cd_26, List.forall_mem_cons.mpr ⟨ab_cd_27, fun _ h => absurd h List.not_mem_nil⟩⟩⟩⟩⟩⟩⟩⟩⟩⟩⟩⟩⟩⟩
def ab_rcs_2 : List ab_RC := [(yX6_readClause, cX6_readClause, 4, none), (yX6_readEnd, cX6_readEnd, 3, none), (yX6_isFigure, cX6_isFigure, 1, some .boolean), (yX6_readNumber, cX6_readNumber, 7, none), (yX6_lowest, cX6_lowest, 2, some .int), (yX6_highest, cX6_highest, 4, some .int), (yX6_again, cX6_again, 5, some .boolean), (yX6_take, cX6_take, 3, none), (yX6_takeDeed, cX6_takeDeed, 3, none), (yX7_init, cX7_init, 1, none), (yX7_tryAll, cX7_tryAll, 5, none), (yX7_goOn, cX7_goOn, 8, none), (yX7_setOfRow, cX7_setOfRow, 4, some .int), (yX8_init, cX8_init, 1, none)]
theorem ab_rcm_2 : ∀ r ∈ ab_rcs_2, Cond.code r.1 r.2.1 r.2.2.1 r.2.2.2 ∈ ab_tb := List.forall_mem_cons.mpr ⟨ab_cd_28, List.forall_mem_cons.mpr ⟨ab_cd_29, List.forall_mem_cons.mpr ⟨ab_cd_30, List.forall_mem_cons.mpr ⟨ab_cd_31, List.forall_mem_cons.mpr ⟨ab_cd_32, List.forall_mem_cons.mpr ⟨ab_cd_33, List.forall_mem_cons.mpr ⟨ab_cd_34, List.forall_mem_cons.mpr ⟨ab_cd_35, List.forall_mem_cons.mpr ⟨ab_cd_36, List.forall_mem_cons.mpr ⟨ab_cd_37, List.forall_mem_cons.mpr ⟨ab_cd_38, List.forall_mem_cons.mpr ⟨ab_cd_39, List.forall_mem_cons.mpr ⟨ab_cd_40, List.forall_mem_cons.mpr ⟨ab_cd_41, fun _ h => absurd h List.not_mem_nil⟩⟩⟩⟩⟩⟩⟩⟩⟩⟩⟩⟩⟩⟩
def ab_rcs_3 : List ab_RC := [(yX8_beginIn, cX8_beginIn, 2, none), (yX8_become, cX8_become, 2, none), (yX8_standOf, cX8_standOf, 3, some .int), (yX8_reaches, cX8_reaches, 3, some .boolean), (yX8_hand, cX8_hand, 3, none), (yX8_finish, cX8_finish, 3, none), (yX8_draw, cX8_draw, 2, some .int), (yX9_init, cX9_init, 1, none), (yX9_clear, cX9_clear, 2, none), (yX9_isSquare, cX9_isSquare, 2, some .boolean), (yX9_isPerson, cX9_isPerson, 2, some .boolean), (yX9_areTwoPeople, cX9_areTwoPeople, 3, some .boolean), (yX9_isDeed, cX9_isDeed, 2, some .boolean), (yX9_isWord, cX9_isWord, 2, some .boolean)]
theorem ab_rcm_3 : ∀ r ∈ ab_rcs_3, Cond.code r.1 r.2.1 r.2.2.1 r.2.2.2 ∈ ab_tb := List.forall_mem_cons.mpr ⟨ab_cd_42, List.forall_mem_cons.mpr ⟨ab_cd_43, List.forall_mem_cons.mpr ⟨ab_cd_44, List.forall_mem_cons.mpr ⟨ab_cd_45, List.forall_mem_cons.mpr ⟨ab_cd_46, List.forall_mem_cons.mpr ⟨ab_cd_47, List.forall_mem_cons.mpr ⟨ab_cd_48, List.forall_mem_cons.mpr ⟨ab_cd_49, List.forall_mem_cons.mpr ⟨ab_cd_50, List.forall_mem_cons.mpr ⟨ab_cd_51, List.forall_mem_cons.mpr ⟨ab_cd_52, List.forall_mem_cons.mpr ⟨ab_cd_53, List.forall_mem_cons.mpr ⟨ab_cd_54, List.forall_mem_cons.mpr ⟨ab_cd_55, fun _ h => absurd h List.not_mem_nil⟩⟩⟩⟩⟩⟩⟩⟩⟩⟩⟩⟩⟩⟩
def ab_rcs_4 : List ab_RC := [(yX9_measure, cX9_measure, 4, none), (yX9_shorten, cX9_shorten, 5, none), (yX9_between, cX9_between, 3, some .int), (yX9_squareOf, cX9_squareOf, 2, some .int), (yX9_worthOf, cX9_worthOf, 4, some .int), (yX9_costOf, cX9_costOf, 4, some .int), (yX9_deedsOf, cX9_deedsOf, 4, some .int), (yX9_endOf, cX9_endOf, 6, some .int), (yX10_init, cX10_init, 1, none), (yX10_feed, cX10_feed, 2, some .int), (yX10_town, cX10_town, 3, some .int), (yX10_fault, cX10_fault, 1, some .int), (yX10_told, cX10_told, 2, some .int), (yX10_far, cX10_far, 3, some .int)]
theorem ab_rcm_4 : ∀ r ∈ ab_rcs_4, Cond.code r.1 r.2.1 r.2.2.1 r.2.2.2 ∈ ab_tb := List.forall_mem_cons.mpr ⟨ab_cd_56, List.forall_mem_cons.mpr ⟨ab_cd_57, List.forall_mem_cons.mpr ⟨ab_cd_58, List.forall_mem_cons.mpr ⟨ab_cd_59, List.forall_mem_cons.mpr ⟨ab_cd_60, List.forall_mem_cons.mpr ⟨ab_cd_61, List.forall_mem_cons.mpr ⟨ab_cd_62, List.forall_mem_cons.mpr ⟨ab_cd_63, List.forall_mem_cons.mpr ⟨ab_cd_64, List.forall_mem_cons.mpr ⟨ab_cd_65, List.forall_mem_cons.mpr ⟨ab_cd_66, List.forall_mem_cons.mpr ⟨ab_cd_67, List.forall_mem_cons.mpr ⟨ab_cd_68, List.forall_mem_cons.mpr ⟨ab_cd_69, fun _ h => absurd h List.not_mem_nil⟩⟩⟩⟩⟩⟩⟩⟩⟩⟩⟩⟩⟩⟩
def ab_rcs_5 : List ab_RC := [(yX10_person, cX10_person, 3, some .int), (yX10_deed, cX10_deed, 3, some .int), (yX10_trust, cX10_trust, 3, some .int), (yX10_lets, cX10_lets, 2, some .int), (yX10_lend, cX10_lend, 2, some .int), (yX10_act, cX10_act, 2, some .int), (yX10_drop, cX10_drop, 2, some .int), (yX10_pass, cX10_pass, 2, some .int), (yX10_drift, cX10_drift, 3, some .int), (yX10_round, cX10_round, 2, some .int), (yX10_two, cX10_two, 5, some .int), (yX10_reword, cX10_reword, 7, some .int), (yX10_chain, cX10_chain, 4, some .int), (yX10_lost, cX10_lost, 4, some .int)]
theorem ab_rcm_5 : ∀ r ∈ ab_rcs_5, Cond.code r.1 r.2.1 r.2.2.1 r.2.2.2 ∈ ab_tb := List.forall_mem_cons.mpr ⟨ab_cd_70, List.forall_mem_cons.mpr ⟨ab_cd_71, List.forall_mem_cons.mpr ⟨ab_cd_72, List.forall_mem_cons.mpr ⟨ab_cd_73, List.forall_mem_cons.mpr ⟨ab_cd_74, List.forall_mem_cons.mpr ⟨ab_cd_75, List.forall_mem_cons.mpr ⟨ab_cd_76, List.forall_mem_cons.mpr ⟨ab_cd_77, List.forall_mem_cons.mpr ⟨ab_cd_78, List.forall_mem_cons.mpr ⟨ab_cd_79, List.forall_mem_cons.mpr ⟨ab_cd_80, List.forall_mem_cons.mpr ⟨ab_cd_81, List.forall_mem_cons.mpr ⟨ab_cd_82, List.forall_mem_cons.mpr ⟨ab_cd_83, fun _ h => absurd h List.not_mem_nil⟩⟩⟩⟩⟩⟩⟩⟩⟩⟩⟩⟩⟩⟩
def ab_rcs_6 : List ab_RC := [(yX10_sold, cX10_sold, 5, some .int), (yX10_thief, cX10_thief, 6, some .int), (yX10_vote, cX10_vote, 6, some .int), (yX10_bestWord, cX10_bestWord, 1, some .int), (yX10_tell, cX10_tell, 3, some .int), (yX10_days, cX10_days, 1, some .int), (yX10_where, cX10_where, 2, some .int), (yX10_write, cX10_write, 3, some .int), (yX10_judge, cX10_judge, 1, some .int), (yX10_tear, cX10_tear, 2, some .int), (yX10_seed, cX10_seed, 3, some .int), (yX10_keep, cX10_keep, 3, some .int), (yX10_goBack, cX10_goBack, 3, some .int), (yX10_deedsThatAre, cX10_deedsThatAre, 4, some .int)]
theorem ab_rcm_6 : ∀ r ∈ ab_rcs_6, Cond.code r.1 r.2.1 r.2.2.1 r.2.2.2 ∈ ab_tb := List.forall_mem_cons.mpr ⟨ab_cd_84, List.forall_mem_cons.mpr ⟨ab_cd_85, List.forall_mem_cons.mpr ⟨ab_cd_86, List.forall_mem_cons.mpr ⟨ab_cd_87, List.forall_mem_cons.mpr ⟨ab_cd_88, List.forall_mem_cons.mpr ⟨ab_cd_89, List.forall_mem_cons.mpr ⟨ab_cd_90, List.forall_mem_cons.mpr ⟨ab_cd_91, List.forall_mem_cons.mpr ⟨ab_cd_92, List.forall_mem_cons.mpr ⟨ab_cd_93, List.forall_mem_cons.mpr ⟨ab_cd_94, List.forall_mem_cons.mpr ⟨ab_cd_95, List.forall_mem_cons.mpr ⟨ab_cd_96, List.forall_mem_cons.mpr ⟨ab_cd_97, fun _ h => absurd h List.not_mem_nil⟩⟩⟩⟩⟩⟩⟩⟩⟩⟩⟩⟩⟩⟩
def ab_rcs_7 : List ab_RC := [(yX10_driftOnce, cX10_driftOnce, 3, none), (yX10_firstOpenOf, cX10_firstOpenOf, 3, some .int), (yX10_mostBeside, cX10_mostBeside, 5, some .int), (yX10_sellMinute, cX10_sellMinute, 3, none), (yX10_bidOf, cX10_bidOf, 2, some .int), (yX10_highestBidder, cX10_highestBidder, 4, some .int), (yX10_wordForMost, cX10_wordForMost, 6, some .int), (yX10_mostVoted, cX10_mostVoted, 4, some .int), (yX11_init, cX11_init, 2, none), (yX11_in, cX11_in, 6, some .boolean), (yX11_has, cX11_has, 2, some .boolean), (yX11_isSquare, cX11_isSquare, 2, some .boolean), (yX11_isPerson, cX11_isPerson, 2, some .boolean), (yX11_isDeed, cX11_isDeed, 2, some .boolean)]
theorem ab_rcm_7 : ∀ r ∈ ab_rcs_7, Cond.code r.1 r.2.1 r.2.2.1 r.2.2.2 ∈ ab_tb := List.forall_mem_cons.mpr ⟨ab_cd_98, List.forall_mem_cons.mpr ⟨ab_cd_99, List.forall_mem_cons.mpr ⟨ab_cd_100, List.forall_mem_cons.mpr ⟨ab_cd_101, List.forall_mem_cons.mpr ⟨ab_cd_102, List.forall_mem_cons.mpr ⟨ab_cd_103, List.forall_mem_cons.mpr ⟨ab_cd_104, List.forall_mem_cons.mpr ⟨ab_cd_105, List.forall_mem_cons.mpr ⟨ab_cd_106, List.forall_mem_cons.mpr ⟨ab_cd_107, List.forall_mem_cons.mpr ⟨ab_cd_108, List.forall_mem_cons.mpr ⟨ab_cd_109, List.forall_mem_cons.mpr ⟨ab_cd_110, List.forall_mem_cons.mpr ⟨ab_cd_111, fun _ h => absurd h List.not_mem_nil⟩⟩⟩⟩⟩⟩⟩⟩⟩⟩⟩⟩⟩⟩
def ab_rcs_8 : List ab_RC := [(yX11_feed, cX11_feed, 2, some .int), (yX11_nextToken, cX11_nextToken, 1, none), (yX11_faults, cX11_faults, 2, some .boolean), (yX11_takes, cX11_takes, 2, some .boolean), (yX11_isNumber, cX11_isNumber, 3, some .boolean), (yX11_taken, cX11_taken, 2, some .int), (yX11_readWay, cX11_readWay, 3, some .boolean), (yX11_readPerson, cX11_readPerson, 1, some .boolean), (yX11_readDeed, cX11_readDeed, 4, some .boolean), (yX11_readReword, cX11_readReword, 2, some .boolean), (yX11_readTrust, cX11_readTrust, 3, some .boolean), (yX11_readOther, cX11_readOther, 1, some .boolean), (yX11_readTown, cX11_readTown, 3, some .boolean), (yX11_findFars, cX11_findFars, 4, none)]
theorem ab_rcm_8 : ∀ r ∈ ab_rcs_8, Cond.code r.1 r.2.1 r.2.2.1 r.2.2.2 ∈ ab_tb := List.forall_mem_cons.mpr ⟨ab_cd_112, List.forall_mem_cons.mpr ⟨ab_cd_113, List.forall_mem_cons.mpr ⟨ab_cd_114, List.forall_mem_cons.mpr ⟨ab_cd_115, List.forall_mem_cons.mpr ⟨ab_cd_116, List.forall_mem_cons.mpr ⟨ab_cd_117, List.forall_mem_cons.mpr ⟨ab_cd_118, List.forall_mem_cons.mpr ⟨ab_cd_119, List.forall_mem_cons.mpr ⟨ab_cd_120, List.forall_mem_cons.mpr ⟨ab_cd_121, List.forall_mem_cons.mpr ⟨ab_cd_122, List.forall_mem_cons.mpr ⟨ab_cd_123, List.forall_mem_cons.mpr ⟨ab_cd_124, List.forall_mem_cons.mpr ⟨ab_cd_125, fun _ h => absurd h List.not_mem_nil⟩⟩⟩⟩⟩⟩⟩⟩⟩⟩⟩⟩⟩⟩
def ab_rcs_9 : List ab_RC := [(yX11_town, cX11_town, 3, some .int), (yX11_fault, cX11_fault, 1, some .int), (yX11_howOf, cX11_howOf, 2, some .int), (yX11_deedsThatAre, cX11_deedsThatAre, 4, some .int), (yX11_worthOf, cX11_worthOf, 4, some .int), (yX11_told, cX11_told, 2, some .int), (yX11_farOf, cX11_farOf, 4, some .int), (yX11_far, cX11_far, 3, some .int), (yX11_person, cX11_person, 3, some .int), (yX11_deed, cX11_deed, 3, some .int), (yX11_areTwo, cX11_areTwo, 3, some .boolean), (yX11_trust, cX11_trust, 3, some .int), (yX11_lets, cX11_lets, 2, some .int), (yX11_placeOf, cX11_placeOf, 2, some .int)]
theorem ab_rcm_9 : ∀ r ∈ ab_rcs_9, Cond.code r.1 r.2.1 r.2.2.1 r.2.2.2 ∈ ab_tb := List.forall_mem_cons.mpr ⟨ab_cd_126, List.forall_mem_cons.mpr ⟨ab_cd_127, List.forall_mem_cons.mpr ⟨ab_cd_128, List.forall_mem_cons.mpr ⟨ab_cd_129, List.forall_mem_cons.mpr ⟨ab_cd_130, List.forall_mem_cons.mpr ⟨ab_cd_131, List.forall_mem_cons.mpr ⟨ab_cd_132, List.forall_mem_cons.mpr ⟨ab_cd_133, List.forall_mem_cons.mpr ⟨ab_cd_134, List.forall_mem_cons.mpr ⟨ab_cd_135, List.forall_mem_cons.mpr ⟨ab_cd_136, List.forall_mem_cons.mpr ⟨ab_cd_137, List.forall_mem_cons.mpr ⟨ab_cd_138, List.forall_mem_cons.mpr ⟨ab_cd_139, fun _ h => absurd h List.not_mem_nil⟩⟩⟩⟩⟩⟩⟩⟩⟩⟩⟩⟩⟩⟩
def ab_rcs_10 : List ab_RC := [(yX11_lend, cX11_lend, 3, some .int), (yX11_walkTo, cX11_walkTo, 3, none), (yX11_doNow, cX11_doNow, 2, none), (yX11_act, cX11_act, 2, some .int), (yX11_drop, cX11_drop, 2, some .int), (yX11_pass, cX11_pass, 2, some .int), (yX11_draw, cX11_draw, 2, some .int), (yX11_drift, cX11_drift, 7, some .int), (yX11_endBehind, cX11_endBehind, 6, some .int), (yX11_findEnds, cX11_findEnds, 10, none), (yX11_endOf, cX11_endOf, 5, some .int), (yX11_isRow, cX11_isRow, 8, some .boolean), (yX11_firstRow, cX11_firstRow, 11, some .int), (yX11_digits, cX11_digits, 7, some .int)]
theorem ab_rcm_10 : ∀ r ∈ ab_rcs_10, Cond.code r.1 r.2.1 r.2.2.1 r.2.2.2 ∈ ab_tb := List.forall_mem_cons.mpr ⟨ab_cd_140, List.forall_mem_cons.mpr ⟨ab_cd_141, List.forall_mem_cons.mpr ⟨ab_cd_142, List.forall_mem_cons.mpr ⟨ab_cd_143, List.forall_mem_cons.mpr ⟨ab_cd_144, List.forall_mem_cons.mpr ⟨ab_cd_145, List.forall_mem_cons.mpr ⟨ab_cd_146, List.forall_mem_cons.mpr ⟨ab_cd_147, List.forall_mem_cons.mpr ⟨ab_cd_148, List.forall_mem_cons.mpr ⟨ab_cd_149, List.forall_mem_cons.mpr ⟨ab_cd_150, List.forall_mem_cons.mpr ⟨ab_cd_151, List.forall_mem_cons.mpr ⟨ab_cd_152, List.forall_mem_cons.mpr ⟨ab_cd_153, fun _ h => absurd h List.not_mem_nil⟩⟩⟩⟩⟩⟩⟩⟩⟩⟩⟩⟩⟩⟩
def ab_rcs_11 : List ab_RC := [(yX11_isAhead, cX11_isAhead, 4, some .boolean), (yX11_round, cX11_round, 7, some .int), (yX11_two, cX11_two, 8, some .int), (yX11_costOf, cX11_costOf, 5, some .int), (yX11_reword, cX11_reword, 6, some .int), (yX11_chain, cX11_chain, 10, some .int), (yX11_oddsOf, cX11_oddsOf, 12, some .int), (yX11_lost, cX11_lost, 5, some .int), (yX11_bidOf, cX11_bidOf, 3, some .int), (yX11_sold, cX11_sold, 8, some .int), (yX11_leads, cX11_leads, 3, some .boolean), (yX11_escapesFrom, cX11_escapesFrom, 9, some .int), (yX11_catchesFrom, cX11_catchesFrom, 9, some .int), (yX11_findThief, cX11_findThief, 6, none)]
theorem ab_rcm_11 : ∀ r ∈ ab_rcs_11, Cond.code r.1 r.2.1 r.2.2.1 r.2.2.2 ∈ ab_tb := List.forall_mem_cons.mpr ⟨ab_cd_154, List.forall_mem_cons.mpr ⟨ab_cd_155, List.forall_mem_cons.mpr ⟨ab_cd_156, List.forall_mem_cons.mpr ⟨ab_cd_157, List.forall_mem_cons.mpr ⟨ab_cd_158, List.forall_mem_cons.mpr ⟨ab_cd_159, List.forall_mem_cons.mpr ⟨ab_cd_160, List.forall_mem_cons.mpr ⟨ab_cd_161, List.forall_mem_cons.mpr ⟨ab_cd_162, List.forall_mem_cons.mpr ⟨ab_cd_163, List.forall_mem_cons.mpr ⟨ab_cd_164, List.forall_mem_cons.mpr ⟨ab_cd_165, List.forall_mem_cons.mpr ⟨ab_cd_166, List.forall_mem_cons.mpr ⟨ab_cd_167, fun _ h => absurd h List.not_mem_nil⟩⟩⟩⟩⟩⟩⟩⟩⟩⟩⟩⟩⟩⟩
def ab_rcs_12 : List ab_RC := [(yX11_thief, cX11_thief, 7, some .int), (yX11_deedsOf, cX11_deedsOf, 4, some .int), (yX11_voteOf, cX11_voteOf, 7, some .int), (yX11_votesFor, cX11_votesFor, 4, some .int), (yX11_vote, cX11_vote, 6, some .int), (yX11_bestWord, cX11_bestWord, 5, some .int), (yX11_tell, cX11_tell, 3, some .int), (yX11_isDay, cX11_isDay, 6, some .boolean), (yX11_findDays, cX11_findDays, 8, some .int), (yX11_days, cX11_days, 1, some .int), (yX11_where, cX11_where, 2, some .int), (yX11_write, cX11_write, 3, some .int), (yX11_judge, cX11_judge, 2, some .int), (yX11_tear, cX11_tear, 2, some .int)]
theorem ab_rcm_12 : ∀ r ∈ ab_rcs_12, Cond.code r.1 r.2.1 r.2.2.1 r.2.2.2 ∈ ab_tb := List.forall_mem_cons.mpr ⟨ab_cd_168, List.forall_mem_cons.mpr ⟨ab_cd_169, List.forall_mem_cons.mpr ⟨ab_cd_170, List.forall_mem_cons.mpr ⟨ab_cd_171, List.forall_mem_cons.mpr ⟨ab_cd_172, List.forall_mem_cons.mpr ⟨ab_cd_173, List.forall_mem_cons.mpr ⟨ab_cd_174, List.forall_mem_cons.mpr ⟨ab_cd_175, List.forall_mem_cons.mpr ⟨ab_cd_176, List.forall_mem_cons.mpr ⟨ab_cd_177, List.forall_mem_cons.mpr ⟨ab_cd_178, List.forall_mem_cons.mpr ⟨ab_cd_179, List.forall_mem_cons.mpr ⟨ab_cd_180, List.forall_mem_cons.mpr ⟨ab_cd_181, fun _ h => absurd h List.not_mem_nil⟩⟩⟩⟩⟩⟩⟩⟩⟩⟩⟩⟩⟩⟩
def ab_rcs_13 : List ab_RC := [(yX11_seed, cX11_seed, 3, some .int), (yX11_keep, cX11_keep, 3, some .int), (yX11_goBack, cX11_goBack, 3, some .int), (yJ0_length_8abf5, cJ0_length_8abf5, 1, some .int), (yJ0_indexOf_0f7a4, cJ0_indexOf_0f7a4, 2, some .int), (yJ0_indexOf_7cf53, cJ0_indexOf_7cf53, 3, some .int), (yJ0_coder_7d493, cJ0_coder_7d493, 1, some .byte), (yJ0_isLatin1_aae02, cJ0_isLatin1_aae02, 1, some .boolean), (yJ1_canEncode_9a6ad, cJ1_canEncode_9a6ad, 1, some .boolean), (yJ1_indexOf_4cfef, cJ1_indexOf_4cfef, 4, some .int), (yJ1_indexOfChar_4cfef, cJ1_indexOfChar_4cfef, 6, some .int), (yJ7_fill_53178, cJ7_fill_53178, 4, none)]
theorem ab_rcm_13 : ∀ r ∈ ab_rcs_13, Cond.code r.1 r.2.1 r.2.2.1 r.2.2.2 ∈ ab_tb := List.forall_mem_cons.mpr ⟨ab_cd_182, List.forall_mem_cons.mpr ⟨ab_cd_183, List.forall_mem_cons.mpr ⟨ab_cd_184, List.forall_mem_cons.mpr ⟨ab_cd_185, List.forall_mem_cons.mpr ⟨ab_cd_186, List.forall_mem_cons.mpr ⟨ab_cd_187, List.forall_mem_cons.mpr ⟨ab_cd_188, List.forall_mem_cons.mpr ⟨ab_cd_189, List.forall_mem_cons.mpr ⟨ab_cd_190, List.forall_mem_cons.mpr ⟨ab_cd_191, List.forall_mem_cons.mpr ⟨ab_cd_192, List.forall_mem_cons.mpr ⟨ab_cd_193, fun _ h => absurd h List.not_mem_nil⟩⟩⟩⟩⟩⟩⟩⟩⟩⟩⟩⟩
theorem ab_fm_app {α : Type} {p : α → Prop} {a b : List α} (ha : ∀ x ∈ a, p x) (hb : ∀ x ∈ b, p x) : ∀ x ∈ List.append a b, p x := List.forall_mem_append.mpr ⟨ha, hb⟩
def ab_rcs : List ab_RC := List.append ab_rcs_0 (List.append ab_rcs_1 (List.append ab_rcs_2 (List.append ab_rcs_3 (List.append ab_rcs_4 (List.append ab_rcs_5 (List.append ab_rcs_6 (List.append ab_rcs_7 (List.append ab_rcs_8 (List.append ab_rcs_9 (List.append ab_rcs_10 (List.append ab_rcs_11 (List.append ab_rcs_12 (ab_rcs_13)))))))))))))
theorem ab_rcm : ∀ r ∈ ab_rcs, Cond.code r.1 r.2.1 r.2.2.1 r.2.2.2 ∈ ab_tb := ab_fm_app ab_rcm_0 (ab_fm_app ab_rcm_1 (ab_fm_app ab_rcm_2 (ab_fm_app ab_rcm_3 (ab_fm_app ab_rcm_4 (ab_fm_app ab_rcm_5 (ab_fm_app ab_rcm_6 (ab_fm_app ab_rcm_7 (ab_fm_app ab_rcm_8 (ab_fm_app ab_rcm_9 (ab_fm_app ab_rcm_10 (ab_fm_app ab_rcm_11 (ab_fm_app ab_rcm_12 (ab_rcm_13)))))))))))))
def ab_oil_0 : List Nat := [0, 0, 0, 1, 1, 1, 1, 2, 2, 2, 2, 2, 3, 3, 3, 3, 3, 3, 4, 4, 4, 5, 5, 5, 6, 6, 6, 6, 6, 6, 6, 6, 6, 6, 6, 6, 6, 11, 11, 11]
def ab_oil_1 : List Nat := [11, 7, 7, 7, 7, 7, 7, 7, 7, 8, 8, 8, 8, 8, 8, 8, 8, 8, 8, 8, 8, 8, 8, 8, 9, 9, 9, 9, 9, 9, 9, 9, 9, 9, 9, 9, 9, 9, 9, 9]
def ab_oil_2 : List Nat := [9, 9, 9, 9, 9, 9, 9, 9, 9, 9, 9, 9, 9, 9, 9, 9, 9, 9, 9, 9, 9, 9, 9, 9, 9, 9, 10, 10, 10, 10, 10, 10, 10, 10, 10, 10, 10, 10, 10, 10]
def ab_oil_3 : List Nat := [10, 10, 10, 10, 10, 10, 10, 10, 10, 10, 10, 10, 10, 10, 10, 10, 10, 10, 10, 10, 10, 10, 10, 10, 10, 10, 10, 10, 10, 10, 10, 10, 10, 10, 10, 10, 10, 10, 10, 10]
def ab_oil_4 : List Nat := [10, 10, 10, 10, 10, 10, 10, 10, 10, 10, 10, 10, 10, 10, 10, 10, 10, 10, 10, 10, 10, 10, 10, 10, 10, 14, 14, 14, 14, 14, 15, 15, 15, 16, 12]
def ab_oil : List Nat := List.append ab_oil_0 (List.append ab_oil_1 (List.append ab_oil_2 (List.append ab_oil_3 (ab_oil_4))))
def ab_rec (m : Nat) : ab_RC := ab_rcs.getD m (yL_law, cL_law, 4, some .boolean)
def ab_y (m : Nat) : MethodName := (ab_rec m).1
def ab_b (m : Nat) : ByteArray := (ab_rec m).2.1
def ab_rv (m : Nat) : Option FieldType := (ab_rec m).2.2.2
def ab_oi' (m : Nat) : Nat := ab_oil.getD m 0
def ab_mc (m : Nat) : Bool := decide ((ab_rec m).2.2.1 = ab_mx m) && plainName (ab_y m).cls && !decide ((ab_y m).cls = "java/lang/invoke/MethodHandle") && !decide ((ab_y m).cls = "java/lang/invoke/VarHandle") && decide (ab_ows.getD (ab_oi' m) "" = (ab_y m).cls) && decide (ab_mx m ≤ 100)
set_option maxRecDepth 100000 in
theorem ab_mc_0 : (List.range' 0 28).all ab_mc = true := by decide +kernel
set_option maxRecDepth 100000 in
theorem ab_mc_1 : (List.range' 28 28).all ab_mc = true := by decide +kernel
set_option maxRecDepth 100000 in
theorem ab_mc_2 : (List.range' 56 28).all ab_mc = true := by decide +kernel
set_option maxRecDepth 100000 in
theorem ab_mc_3 : (List.range' 84 28).all ab_mc = true := by decide +kernel
set_option maxRecDepth 100000 in
theorem ab_mc_4 : (List.range' 112 28).all ab_mc = true := by decide +kernel
set_option maxRecDepth 100000 in
theorem ab_mc_5 : (List.range' 140 28).all ab_mc = true := by decide +kernel
set_option maxRecDepth 100000 in
theorem ab_mc_6 : (List.range' 168 26).all ab_mc = true := by decide +kernel
theorem ab_mcs : ∀ m, m < 194 → ab_mc m = true := by
  intro m hm
  by_cases h0 : m < 28
  · exact List.all_eq_true.mp ab_mc_0 m (List.mem_range'_1.mpr ⟨by omega, by omega⟩)
  by_cases h1 : m < 56
  · exact List.all_eq_true.mp ab_mc_1 m (List.mem_range'_1.mpr ⟨by omega, by omega⟩)
  by_cases h2 : m < 84
  · exact List.all_eq_true.mp ab_mc_2 m (List.mem_range'_1.mpr ⟨by omega, by omega⟩)
  by_cases h3 : m < 112
  · exact List.all_eq_true.mp ab_mc_3 m (List.mem_range'_1.mpr ⟨by omega, by omega⟩)
  by_cases h4 : m < 140
  · exact List.all_eq_true.mp ab_mc_4 m (List.mem_range'_1.mpr ⟨by omega, by omega⟩)
  by_cases h5 : m < 168
  · exact List.all_eq_true.mp ab_mc_5 m (List.mem_range'_1.mpr ⟨by omega, by omega⟩)
  by_cases h6 : m < 194
  · exact List.all_eq_true.mp ab_mc_6 m (List.mem_range'_1.mpr ⟨by omega, by omega⟩)
  omega
abbrev ab_CL : Type := Nat × (Nat × (Nat × (Nat × (Nat × List Nat))))
def ab_pn (d : String) (n : Nat) : Bool := decide ((parseMethodDescriptor d).map (fun d => d.parameters.length) = some n)
def ab_xm : MethodName := ⟨"LoneAdjective$Rounds", "meet", "(LLoneAdjective$Town;II)V"⟩
def ab_cn (t : Nat) : String := match vwCl[t]? with
  | some r => r.1
  | none => ""
def ab_lkc (q : ab_CL) : Bool :=
  let own := ab_ows.getD q.2.1 ""
  let i := q.2.2.1
  let k := q.2.2.2.1
  let x := q.2.2.2.2.1
  let w := fun j => q.2.2.2.2.2.getD j 0
  if q.1 = 0 then decide (k < 194) && ab_ix (w 0) (.methodLink own i (ab_y k)) && ab_ix (w 1) (.static (ab_y k)) && ab_ix (w 2) (.initialized (ab_y k).cls) && ab_pn (ab_y k).desc x
  else if q.1 = 1 then decide (k < 194) && ab_ix (w 0) (.methodLink own i (ab_y k)) && ab_ix (w 1) (.instanceMethod (ab_y k)) && ab_ix (w 2) (.initialized (ab_y k).cls) && decide ((ab_y k).name = "<init>") && decide (ab_rv k = none) && decide (0 < x) && ab_pn (ab_y k).desc (x - 1)
  else if q.1 = 2 then decide (k < 194) && ab_nwd.any (fun z => decide (z = .methodLinkNest own i (ab_y k) "LoneAdjective")) && ab_ix (w 1) (.instanceMethod (ab_y k)) && ab_ix (w 2) (.initialized (ab_y k).cls) && decide ((ab_y k).name = "<init>") && decide (ab_rv k = none) && decide (0 < x) && ab_pn (ab_y k).desc (x - 1)
  else if q.1 = 3 then decide (k < 194) && ab_ix (w 0) (.methodLink own i (ab_y k)) && ab_ix (w 1) (.instanceMethod (ab_y k)) && ab_ix (w 2) (.selects (ab_y k).cls (ab_y k) (ab_y k)) && ab_ix (w 3) (.initialized (ab_y k).cls) && decide (0 < x) && ab_pn (ab_y k).desc (x - 1) && (decide (ab_rt k < 11 ∧ ab_cn (ab_rt k) = (ab_y k).cls) || decide (ab_rt k = 30 ∧ (ab_y k).cls = "java/lang/String"))
  else if q.1 = 4 then decide (k % 1000 < 194) && decide (1 ≤ k / 1000) && decide (k / 1000 ≤ 11) && ab_ix (w 0) (.methodLink own i ⟨ab_cn (k / 1000 - 1), (ab_y (k % 1000)).name, (ab_y (k % 1000)).desc⟩) && ab_ix (w 1) (.sameMethod (ab_cn (k / 1000 - 1)) (ab_y (k % 1000)).cls (ab_y (k % 1000)).name (ab_y (k % 1000)).desc) && ab_ix (w 2) (.selects (ab_cn (k / 1000 - 1)) ⟨ab_cn (k / 1000 - 1), (ab_y (k % 1000)).name, (ab_y (k % 1000)).desc⟩ (ab_y (k % 1000))) && ab_ix (w 3) (.instanceMethod (ab_y (k % 1000))) && ab_ix (w 4) (.initialized (ab_y (k % 1000)).cls) && decide (0 < x) && ab_pn (ab_y (k % 1000)).desc (x - 1)
  else if q.1 = 5 then decide (k = 300) && ab_ix (w 0) (.methodLink own i ab_xm) && ab_ix (w 1) (.sameMethod ab_xm.cls ab_xm.cls ab_xm.name ab_xm.desc) && decide (0 < x) && ab_pn ab_xm.desc (x - 1) && [(0, 2), (3, 5), (5, 8)].all (fun z => decide (ab_meet z.1 < 194) && ab_ix (w z.2) (.selects (ab_cn z.1) ab_xm (ab_y (ab_meet z.1))) && ab_ix (w (z.2 + 1)) (.instanceMethod (ab_y (ab_meet z.1))) && ab_ix (w (z.2 + 2)) (.initialized (ab_y (ab_meet z.1)).cls))
  else false
def ab_clt_0 : List ab_CL := [(2, 0, 3, 37, 1, [0, 284, 74]), (4, 0, 19, 1038, 5, [729, 730, 732, 733, 74]), (4, 0, 23, 1040, 2, [745, 746, 748, 749, 74]), (3, 0, 27, 60, 2, [751, 620, 621, 70]), (0, 1, 18, 193, 2, [816, 138, 71]), (0, 1, 25, 5, 6, [818, 819, 78]), (3, 1, 29, 6, 4, [821, 823, 15, 78]), (0, 2, 18, 193, 2, [855, 138, 71]), (0, 2, 30, 8, 3, [856, 857, 79]), (3, 2, 34, 10, 3, [859, 861, 19, 79]), (3, 2, 38, 11, 6, [863, 865, 20, 79]), (2, 3, 3, 37, 1, [0, 284, 74])]
set_option maxRecDepth 100000 in
theorem ab_clt0_0 : ab_clt_0.all ab_lkc = true := by decide +kernel
def ab_clt_1 : List ab_CL := [(4, 3, 40, 4038, 5, [904, 905, 906, 733, 74]), (3, 3, 44, 16, 1, [758, 760, 12, 77]), (3, 3, 48, 17, 3, [762, 764, 13, 77]), (3, 3, 58, 59, 2, [766, 767, 768, 70]), (2, 5, 3, 37, 1, [0, 284, 74]), (4, 5, 15, 6038, 5, [792, 793, 794, 733, 74]), (4, 5, 19, 6040, 2, [774, 775, 776, 749, 74]), (0, 6, 32, 193, 2, [457, 138, 71]), (3, 6, 38, 50, 1, [458, 134, 135, 70]), (3, 6, 43, 27, 1, [459, 461, 0, 69]), (3, 6, 46, 28, 2, [463, 465, 1, 69]), (3, 6, 52, 186, 2, [468, 469, 470, 81])]
set_option maxRecDepth 100000 in
theorem ab_clt0_1 : ab_clt_1.all ab_lkc = true := by decide +kernel
def ab_clt_2 : List ab_CL := [(3, 6, 64, 31, 4, [558, 560, 2, 69]), (3, 6, 68, 29, 3, [578, 580, 5, 69]), (3, 6, 72, 35, 3, [582, 584, 6, 69]), (0, 6, 75, 30, 1, [562, 563, 69]), (0, 6, 79, 32, 2, [565, 566, 69]), (3, 6, 83, 33, 4, [568, 570, 3, 69]), (3, 6, 87, 34, 5, [574, 576, 4, 69]), (3, 6, 122, 36, 2, [586, 588, 7, 69]), (0, 11, 18, 193, 2, [735, 138, 71]), (0, 11, 24, 39, 6, [736, 737, 74]), (5, 11, 28, 300, 4, [739, 741, 742, 743, 75, 755, 756, 77, 771, 772, 76]), (3, 11, 38, 63, 4, [777, 778, 779, 70])]
set_option maxRecDepth 100000 in
theorem ab_clt0_2 : ab_clt_2.all ab_lkc = true := by decide +kernel
def ab_clt_3 : List ab_CL := [(3, 11, 42, 59, 2, [783, 767, 768, 70]), (0, 7, 22, 193, 2, [235, 138, 71]), (3, 7, 54, 58, 3, [678, 633, 634, 70]), (3, 8, 51, 50, 1, [133, 134, 135, 70]), (0, 8, 66, 193, 2, [137, 138, 71]), (3, 8, 72, 52, 2, [661, 642, 643, 70]), (3, 8, 76, 57, 4, [594, 596, 8, 70]), (3, 8, 80, 51, 2, [636, 628, 629, 70]), (3, 8, 83, 54, 2, [770, 650, 651, 70]), (3, 8, 86, 59, 2, [781, 767, 768, 70]), (3, 8, 90, 58, 3, [782, 633, 634, 70]), (2, 9, 9, 24, 1, [0, 99, 69])]
set_option maxRecDepth 100000 in
theorem ab_clt0_3 : ab_clt_3.all ab_lkc = true := by decide +kernel
def ab_clt_4 : List ab_CL := [(1, 9, 22, 49, 1, [127, 128, 70]), (1, 9, 32, 41, 1, [231, 232, 72]), (2, 9, 45, 18, 1, [0, 264, 73]), (2, 9, 52, 0, 1, [0, 281, 75]), (2, 9, 59, 21, 1, [0, 319, 76]), (2, 9, 69, 12, 1, [0, 333, 77]), (2, 9, 76, 3, 1, [0, 363, 78]), (2, 9, 83, 7, 1, [0, 378, 79]), (3, 9, 96, 25, 2, [444, 445, 446, 69]), (3, 9, 104, 26, 2, [453, 454, 455, 69]), (3, 9, 111, 56, 1, [590, 591, 592, 70]), (3, 9, 114, 42, 2, [598, 599, 600, 72])]
set_option maxRecDepth 100000 in
theorem ab_clt0_4 : ab_clt_4.all ab_lkc = true := by decide +kernel
def ab_clt_5 : List ab_CL := [(3, 9, 149, 97, 2, [611, 613, 9, 68]), (3, 9, 153, 60, 2, [619, 620, 621, 70]), (3, 9, 156, 51, 2, [627, 628, 629, 70]), (3, 9, 161, 58, 3, [632, 633, 634, 70]), (3, 9, 165, 52, 2, [641, 642, 643, 70]), (3, 9, 174, 54, 2, [649, 650, 651, 70]), (3, 9, 192, 44, 3, [615, 616, 617, 72]), (3, 9, 199, 53, 3, [657, 658, 659, 70]), (3, 9, 207, 55, 2, [666, 667, 668, 70]), (3, 9, 213, 45, 3, [674, 675, 676, 72]), (3, 9, 219, 46, 3, [681, 682, 683, 72]), (3, 9, 223, 47, 3, [689, 690, 691, 72])]
set_option maxRecDepth 100000 in
theorem ab_clt0_5 : ab_clt_5.all ab_lkc = true := by decide +kernel
def ab_clt_6 : List ab_CL := [(3, 9, 226, 98, 1, [705, 707, 10, 68]), (3, 9, 229, 1, 5, [725, 726, 727, 75]), (3, 9, 244, 22, 5, [788, 789, 790, 76]), (3, 9, 249, 100, 3, [795, 797, 14, 68]), (3, 9, 257, 61, 2, [804, 805, 806, 70]), (3, 9, 260, 4, 3, [812, 813, 814, 78]), (0, 9, 268, 193, 2, [834, 138, 71]), (3, 9, 274, 101, 1, [835, 837, 16, 68]), (3, 9, 277, 9, 3, [851, 852, 853, 79]), (0, 9, 280, 8, 3, [867, 857, 79]), (3, 9, 290, 62, 2, [872, 873, 874, 70]), (3, 9, 293, 104, 2, [876, 878, 21, 68])]
set_option maxRecDepth 100000 in
theorem ab_clt0_6 : ab_clt_6.all ab_lkc = true := by decide +kernel
def ab_clt_7 : List ab_CL := [(3, 9, 296, 105, 1, [880, 882, 22, 68]), (3, 9, 300, 13, 3, [892, 893, 894, 77]), (3, 9, 302, 14, 3, [900, 901, 902, 77]), (3, 9, 308, 19, 3, [916, 917, 918, 73]), (3, 9, 309, 20, 2, [924, 925, 926, 73]), (3, 9, 316, 43, 2, [940, 941, 942, 72]), (3, 9, 320, 48, 2, [709, 710, 711, 72]), (3, 9, 323, 99, 2, [717, 719, 11, 68]), (3, 9, 326, 103, 2, [839, 841, 17, 68]), (3, 9, 329, 102, 2, [843, 845, 18, 68]), (0, 10, 102, 107, 3, [1111, 1112, 80]), (3, 10, 139, 114, 2, [1135, 1137, 26, 80])]
set_option maxRecDepth 100000 in
theorem ab_clt0_7 : ab_clt_7.all ab_lkc = true := by decide +kernel
def ab_clt_8 : List ab_CL := [(3, 10, 143, 113, 1, [1124, 1126, 24, 80]), (3, 10, 152, 116, 3, [1139, 1141, 27, 80]), (3, 10, 156, 117, 1, [1143, 1145, 28, 80]), (3, 10, 160, 115, 2, [1131, 1133, 25, 80]), (3, 10, 178, 118, 1, [1147, 1149, 29, 80]), (3, 10, 182, 119, 1, [1151, 1153, 30, 80]), (3, 10, 185, 120, 1, [1155, 1157, 31, 80]), (3, 10, 188, 121, 1, [1159, 1161, 32, 80]), (3, 10, 191, 122, 1, [1163, 1165, 33, 80]), (3, 10, 194, 123, 1, [1167, 1169, 34, 80]), (3, 10, 197, 124, 1, [1120, 1122, 23, 80]), (3, 10, 206, 125, 1, [1171, 1173, 35, 80])]
set_option maxRecDepth 100000 in
theorem ab_clt0_8 : ab_clt_8.all ab_lkc = true := by decide +kernel
def ab_clt_9 : List ab_CL := [(3, 10, 215, 128, 2, [1187, 1189, 37, 80]), (0, 10, 219, 108, 2, [1195, 1196, 80]), (3, 10, 222, 129, 2, [1183, 1185, 36, 80]), (3, 10, 225, 130, 2, [1191, 1193, 38, 80]), (3, 10, 228, 109, 2, [1202, 1204, 39, 80]), (3, 10, 231, 132, 3, [1206, 1208, 40, 80]), (3, 10, 236, 110, 2, [1215, 1217, 41, 80]), (3, 10, 239, 111, 2, [1223, 1225, 42, 80]), (3, 10, 244, 136, 3, [1232, 1234, 43, 80]), (3, 10, 249, 141, 3, [1246, 1248, 44, 80]), (3, 10, 253, 142, 2, [1254, 1256, 45, 80]), (3, 10, 268, 146, 2, [1272, 1274, 46, 80])]
set_option maxRecDepth 100000 in
theorem ab_clt0_9 : ab_clt_9.all ab_lkc = true := by decide +kernel
def ab_clt_10 : List ab_CL := [(3, 10, 271, 139, 2, [1292, 1294, 49, 80]), (3, 10, 274, 148, 4, [1288, 1290, 48, 80]), (3, 10, 278, 153, 3, [1304, 1306, 52, 80]), (3, 10, 281, 151, 4, [1308, 1310, 53, 80]), (3, 10, 285, 154, 3, [1312, 1314, 54, 80]), (3, 10, 288, 149, 4, [1284, 1286, 47, 80]), (3, 10, 292, 150, 3, [1296, 1298, 50, 80]), (3, 10, 295, 152, 4, [1300, 1302, 51, 80]), (3, 10, 298, 157, 2, [1324, 1326, 55, 80]), (3, 10, 301, 160, 5, [1332, 1334, 56, 80]), (3, 10, 311, 162, 2, [1347, 1349, 57, 80]), (3, 10, 314, 164, 3, [1363, 1365, 60, 80])]
set_option maxRecDepth 100000 in
theorem ab_clt0_10 : ab_clt_10.all ab_lkc = true := by decide +kernel
def ab_clt_11 : List ab_CL := [(3, 10, 317, 165, 4, [1359, 1361, 59, 80]), (3, 10, 320, 166, 4, [1367, 1369, 61, 80]), (3, 10, 323, 167, 2, [1355, 1357, 58, 80]), (3, 10, 326, 169, 2, [1384, 1386, 64, 80]), (3, 10, 329, 170, 2, [1380, 1382, 63, 80]), (3, 10, 334, 171, 2, [1376, 1378, 62, 80]), (3, 10, 340, 175, 2, [1404, 1406, 66, 80]), (3, 10, 343, 176, 2, [1400, 1402, 65, 80]), (3, 14, 335, 188, 1, [486, 487, 488, 81]), (3, 14, 633, 187, 3, [472, 473, 474, 81]), (3, 14, 492, 189, 1, [476, 477, 478, 81]), (3, 14, 505, 185, 1, [482, 483, 484, 81])]
set_option maxRecDepth 100000 in
theorem ab_clt0_11 : ab_clt_11.all ab_lkc = true := by decide +kernel
def ab_clt_12 : List ab_CL := [(0, 14, 637, 191, 4, [490, 491, 82]), (0, 15, 88, 190, 1, [493, 494, 82]), (0, 15, 95, 192, 4, [502, 503, 82]), (1, 12, 9, 64, 1, [90, 91, 68]), (1, 12, 12, 106, 1, [951, 952, 80]), (3, 12, 13, 65, 2, [439, 440, 441, 68]), (3, 12, 17, 112, 2, [1106, 1107, 1108, 80]), (3, 12, 18, 66, 1, [449, 450, 451, 68]), (3, 12, 22, 126, 1, [1116, 1117, 1118, 80]), (3, 12, 23, 67, 1, [603, 604, 605, 68]), (3, 12, 26, 127, 1, [1175, 1176, 1177, 80]), (3, 12, 27, 68, 2, [607, 608, 609, 68])]
set_option maxRecDepth 100000 in
theorem ab_clt0_12 : ab_clt_12.all ab_lkc = true := by decide +kernel
def ab_clt_13 : List ab_CL := [(3, 12, 30, 131, 2, [1179, 1180, 1181, 80]), (3, 12, 31, 69, 3, [623, 624, 625, 68]), (3, 12, 35, 133, 3, [1198, 1199, 1200, 80]), (3, 12, 36, 70, 3, [637, 638, 639, 68]), (3, 12, 39, 134, 3, [1211, 1212, 1213, 80]), (3, 12, 40, 71, 3, [645, 646, 647, 68]), (3, 12, 43, 135, 3, [1219, 1220, 1221, 80]), (3, 12, 44, 72, 3, [653, 654, 655, 68]), (3, 12, 47, 137, 3, [1228, 1229, 1230, 80]), (3, 12, 48, 73, 2, [662, 663, 664, 68]), (3, 12, 51, 138, 2, [1236, 1237, 1238, 80]), (3, 12, 52, 74, 2, [670, 671, 672, 68])]
set_option maxRecDepth 100000 in
theorem ab_clt0_13 : ab_clt_13.all ab_lkc = true := by decide +kernel
def ab_clt_14 : List ab_CL := [(3, 12, 55, 140, 2, [1240, 1241, 1242, 80]), (3, 12, 56, 75, 2, [685, 686, 687, 68]), (3, 12, 59, 143, 2, [1250, 1251, 1252, 80]), (3, 12, 60, 76, 1, [693, 694, 695, 68]), (3, 12, 63, 144, 1, [1258, 1259, 1260, 80]), (3, 12, 64, 77, 2, [697, 698, 699, 68]), (3, 12, 67, 145, 2, [1262, 1263, 1264, 80]), (3, 12, 68, 78, 2, [701, 702, 703, 68]), (3, 12, 71, 147, 2, [1267, 1268, 1269, 80]), (3, 12, 72, 79, 2, [721, 722, 723, 68]), (3, 12, 75, 155, 2, [1280, 1281, 1282, 80]), (3, 12, 76, 80, 2, [784, 785, 786, 68])]
set_option maxRecDepth 100000 in
theorem ab_clt0_14 : ab_clt_14.all ab_lkc = true := by decide +kernel
def ab_clt_15 : List ab_CL := [(3, 12, 79, 156, 2, [1316, 1317, 1318, 80]), (3, 12, 80, 81, 2, [800, 801, 802, 68]), (3, 12, 83, 158, 2, [1320, 1321, 1322, 80]), (3, 12, 84, 82, 4, [808, 809, 810, 68]), (3, 12, 88, 159, 4, [1328, 1329, 1330, 80]), (3, 12, 89, 83, 2, [826, 827, 828, 68]), (3, 12, 92, 161, 2, [1338, 1339, 1340, 80]), (3, 12, 93, 84, 4, [830, 831, 832, 68]), (3, 12, 96, 163, 4, [1342, 1343, 1344, 80]), (3, 12, 97, 85, 5, [847, 848, 849, 68]), (3, 12, 101, 168, 5, [1351, 1352, 1353, 80]), (3, 12, 102, 86, 2, [868, 869, 870, 68])]
set_option maxRecDepth 100000 in
theorem ab_clt0_15 : ab_clt_15.all ab_lkc = true := by decide +kernel
def ab_clt_16 : List ab_CL := [(3, 12, 105, 172, 2, [1371, 1372, 1373, 80]), (3, 12, 106, 87, 1, [884, 885, 886, 68]), (3, 12, 109, 173, 1, [1388, 1389, 1390, 80]), (3, 12, 110, 88, 3, [888, 889, 890, 68]), (3, 12, 113, 174, 3, [1392, 1393, 1394, 80]), (3, 12, 114, 89, 1, [896, 897, 898, 68]), (3, 12, 117, 177, 1, [1396, 1397, 1398, 80]), (3, 12, 118, 90, 2, [907, 908, 909, 68]), (3, 12, 121, 178, 2, [1408, 1409, 1410, 80]), (3, 12, 122, 91, 3, [911, 912, 913, 68]), (3, 12, 125, 179, 3, [1412, 1413, 1414, 80]), (3, 12, 126, 92, 1, [920, 921, 922, 68])]
set_option maxRecDepth 100000 in
theorem ab_clt0_16 : ab_clt_16.all ab_lkc = true := by decide +kernel
def ab_clt_17 : List ab_CL := [(3, 12, 129, 180, 1, [1417, 1418, 1419, 80]), (3, 12, 130, 93, 1, [928, 929, 930, 68]), (3, 12, 133, 181, 1, [1421, 1422, 1423, 80]), (3, 12, 134, 94, 2, [932, 933, 934, 68]), (3, 12, 137, 182, 2, [1425, 1426, 1427, 80]), (3, 12, 138, 95, 2, [936, 937, 938, 68]), (3, 12, 141, 183, 2, [1429, 1430, 1431, 80]), (3, 12, 142, 96, 2, [945, 946, 947, 68]), (3, 12, 145, 184, 2, [1433, 1434, 1435, 80])]
set_option maxRecDepth 100000 in
theorem ab_clt0_17 : ab_clt_17.all ab_lkc = true := by decide +kernel
def ab_clt : List ab_CL := List.append ab_clt_0 (List.append ab_clt_1 (List.append ab_clt_2 (List.append ab_clt_3 (List.append ab_clt_4 (List.append ab_clt_5 (List.append ab_clt_6 (List.append ab_clt_7 (List.append ab_clt_8 (List.append ab_clt_9 (List.append ab_clt_10 (List.append ab_clt_11 (List.append ab_clt_12 (List.append ab_clt_13 (List.append ab_clt_14 (List.append ab_clt_15 (List.append ab_clt_16 (ab_clt_17)))))))))))))))))
theorem ab_clt0 : ab_clt.all ab_lkc = true := ab_all_app ab_clt0_0 (ab_all_app ab_clt0_1 (ab_all_app ab_clt0_2 (ab_all_app ab_clt0_3 (ab_all_app ab_clt0_4 (ab_all_app ab_clt0_5 (ab_all_app ab_clt0_6 (ab_all_app ab_clt0_7 (ab_all_app ab_clt0_8 (ab_all_app ab_clt0_9 (ab_all_app ab_clt0_10 (ab_all_app ab_clt0_11 (ab_all_app ab_clt0_12 (ab_all_app ab_clt0_13 (ab_all_app ab_clt0_14 (ab_all_app ab_clt0_15 (ab_all_app ab_clt0_16 (ab_clt0_17)))))))))))))))))
def ab_cnt : List (Nat × (Nat × (Int × Nat))) := [(1, 24, 1000000000, 817), (7, 64, 65536, 716), (9, 95, -1000000002, 443), (9, 103, -1000000004, 448), (9, 160, -1000000001, 631), (9, 217, -1000000003, 679), (9, 218, 90000, 680), (9, 307, 99999, 915), (10, 114, -1000000002, 1114), (10, 118, -1000000004, 1115), (10, 135, 1000000, 1130), (10, 235, -1000000001, 1210), (10, 247, -1000000003, 1244), (10, 248, 90000, 1245), (10, 265, 65536, 1279)]
set_option maxRecDepth 100000 in
theorem ab_cnt0 : ab_cnt.all (fun q => decide (ab_rg q.2.2.1) && ab_ix q.2.2.2 (.constant (ab_ows.getD q.1 "") q.2.1 (Int32.ofInt q.2.2.1))) = true := by decide +kernel
def ab_lnt : List (Nat × (Nat × (Int × Nat))) := [(1, 43, 10, 825), (7, 58, 1103515245, 713), (7, 60, 12345, 714), (7, 62, 2147483647, 715), (10, 112, 255, 1110), (10, 131, 48, 1128), (10, 133, 57, 1129), (10, 242, 6, 1227), (10, 257, 999, 1266), (10, 259, 1103515245, 1276), (10, 261, 12345, 1277), (10, 263, 2147483647, 1278), (10, 266, 30, 1271), (10, 305, 1000000000, 1336), (10, 307, 10, 1337), (10, 309, 9, 1346), (10, 332, -1, 1375), (10, 346, 99999, 1416)]
set_option maxRecDepth 100000 in
theorem ab_lnt0 : ab_lnt.all (fun q => decide (ab_rl q.2.2.1) && ab_ix q.2.2.2 (.constantLong (ab_ows.getD q.1 "") q.2.1 (Int64.ofInt q.2.2.1))) = true := by decide +kernel
def ab_nwt : List (Nat × (Nat × (Nat × (Nat × (Nat × Nat))))) := [(9, 7, 6, 96, 97, 69), (9, 20, 8, 125, 126, 70), (9, 30, 7, 229, 230, 72), (9, 43, 4, 261, 262, 73), (9, 50, 0, 278, 279, 75), (9, 57, 5, 316, 317, 76), (9, 67, 3, 330, 331, 77), (9, 74, 1, 360, 361, 78), (9, 81, 2, 375, 376, 79), (12, 7, 9, 88, 89, 68), (12, 10, 10, 949, 950, 80)]
set_option maxRecDepth 100000 in
theorem ab_nwt0 : ab_nwt.all (fun q => match vwCl[q.2.2.1]? with | some r => ab_ix q.2.2.2.1 (.classLink (ab_ows.getD q.1 "") q.2.1 r.1) && ab_ix q.2.2.2.2.1 (.instantiable r.1 r.2.2) && ab_ix q.2.2.2.2.2 (.initialized r.1) | none => false) = true := by decide +kernel
def ab_sn (k : Nat) : String × (String × String) := if k = 1001 then ("LoneAdjective$Reader", "NUMBERS", "[I") else if k = 1002 then ("LoneAdjective$Reader", "MOST", "[I") else if k = 1003 then ("LoneAdjective$Reader", "DEED_BOUNDS", "[I") else ("java/lang/String", "COMPACT_STRINGS", "Z")
def ab_gst : List (Nat × (Nat × (Nat × Nat))) := [(6, 58, 1002, 554), (6, 61, 1001, 556), (6, 97, 1003, 572), (14, 38, 1, 480)]
set_option maxRecDepth 100000 in
theorem ab_gst0 : ab_gst.all (fun q => ab_ix q.2.2.2 (.fieldLink (ab_ows.getD q.1 "") q.2.1 (ab_sn q.2.2.1).1 (ab_sn q.2.2.1).2.1 (ab_sn q.2.2.1).2.2)) = true := by decide +kernel
def ab_oit : List (Nat × (Nat × Nat)) := [(9, 1, 93), (6, 3, 101), (8, 3, 130), (7, 3, 234), (4, 3, 266), (11, 3, 286), (1, 3, 365), (2, 3, 380), (10, 1, 954)]
set_option maxRecDepth 100000 in
theorem ab_oit0 : ab_oit.all (fun q => ab_ix q.2.2 (.methodLink (ab_ows.getD q.1 "") q.2.1 Lib.objectInit)) = true := by decide +kernel
def ab_act : List (Nat × (Nat × Nat)) := [(0, 41, 752), (7, 39, 944)]
set_option maxRecDepth 100000 in
theorem ab_act0 : ab_act.all (fun q => ab_ix q.2.2 (.methodLink (ab_ows.getD q.1 "") q.2.1 arraycopyName)) = true := by decide +kernel
def ab_mmt : List (Nat × (Nat × (Nat × Nat))) := [(15, 92, 902, 496), (15, 38, 903, 499), (9, 252, 902, 799)]
set_option maxRecDepth 100000 in
theorem ab_mmt0 : ab_mmt.all (fun q => ab_ix q.2.2.2 (.methodLink (ab_ows.getD q.1 "") q.2.1 (if q.2.2.1 = 902 then Lib.Math.max.name else Lib.Math.min.name))) = true := by decide +kernel
theorem ab_mul0 : Cond.classLink "LoneAdjective$Town" 15 "[[I" ∈ ab_tb := ab_ix_mem (i := 131) (by decide +kernel)

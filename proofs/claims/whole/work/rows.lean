section
-- ===== PART A: goes FIRST, ahead of the names: the tables' words, and 'selects' of the private methods out of them =====
/-- a private method of a class that the tables say can be made, by its rows of tables_1 -/
def lw_okq (q : MethodName × Nat) : Prop := (q.1.cls ≠ "java/lang/invoke/MethodHandle" ∧ q.1.cls ≠ "java/lang/invoke/VarHandle") ∧ Cond.instantiable q.1.cls q.2 ∈ tables_1 ∧ Cond.privateMethod q.1 ∈ tables_1 ∧ Cond.instanceMethod q.1 ∈ tables_1
theorem lw_p0 : lw_okq (⟨"LoneAdjective$Reader", "skipBlanks", "()V"⟩, 6) := ⟨⟨by decide +kernel, by decide +kernel⟩, List.mem_of_getElem? (i := 30) (by decide +kernel), List.mem_of_getElem? (i := 393) (by decide +kernel), List.mem_of_getElem? (i := 394) (by decide +kernel)⟩
theorem lw_p1 : lw_okq (⟨"LoneAdjective$Reader", "readClause", "(LLoneAdjective$Town;)V"⟩, 6) := ⟨⟨by decide +kernel, by decide +kernel⟩, List.mem_of_getElem? (i := 30) (by decide +kernel), List.mem_of_getElem? (i := 397) (by decide +kernel), List.mem_of_getElem? (i := 398) (by decide +kernel)⟩
theorem lw_p2 : lw_okq (⟨"LoneAdjective$Reader", "readNumber", "(LLoneAdjective$Town;II)V"⟩, 6) := ⟨⟨by decide +kernel, by decide +kernel⟩, List.mem_of_getElem? (i := 30) (by decide +kernel), List.mem_of_getElem? (i := 492) (by decide +kernel), List.mem_of_getElem? (i := 493) (by decide +kernel)⟩
theorem lw_p3 : lw_okq (⟨"LoneAdjective$Reader", "highest", "(LLoneAdjective$Town;II)I"⟩, 6) := ⟨⟨by decide +kernel, by decide +kernel⟩, List.mem_of_getElem? (i := 30) (by decide +kernel), List.mem_of_getElem? (i := 502) (by decide +kernel), List.mem_of_getElem? (i := 503) (by decide +kernel)⟩
theorem lw_p4 : lw_okq (⟨"LoneAdjective$Reader", "again", "(LLoneAdjective$Town;III)Z"⟩, 6) := ⟨⟨by decide +kernel, by decide +kernel⟩, List.mem_of_getElem? (i := 30) (by decide +kernel), List.mem_of_getElem? (i := 508) (by decide +kernel), List.mem_of_getElem? (i := 509) (by decide +kernel)⟩
theorem lw_p5 : lw_okq (⟨"LoneAdjective$Reader", "readEnd", "(LLoneAdjective$Town;I)V"⟩, 6) := ⟨⟨by decide +kernel, by decide +kernel⟩, List.mem_of_getElem? (i := 30) (by decide +kernel), List.mem_of_getElem? (i := 512) (by decide +kernel), List.mem_of_getElem? (i := 513) (by decide +kernel)⟩
theorem lw_p6 : lw_okq (⟨"LoneAdjective$Reader", "take", "(LLoneAdjective$Town;I)V"⟩, 6) := ⟨⟨by decide +kernel, by decide +kernel⟩, List.mem_of_getElem? (i := 30) (by decide +kernel), List.mem_of_getElem? (i := 516) (by decide +kernel), List.mem_of_getElem? (i := 517) (by decide +kernel)⟩
theorem lw_p7 : lw_okq (⟨"LoneAdjective$Reader", "takeDeed", "(LLoneAdjective$Town;)V"⟩, 6) := ⟨⟨by decide +kernel, by decide +kernel⟩, List.mem_of_getElem? (i := 30) (by decide +kernel), List.mem_of_getElem? (i := 520) (by decide +kernel), List.mem_of_getElem? (i := 521) (by decide +kernel)⟩
theorem lw_p8 : lw_okq (⟨"LoneAdjective$Town", "shorten", "(III)V"⟩, 16) := ⟨⟨by decide +kernel, by decide +kernel⟩, List.mem_of_getElem? (i := 59) (by decide +kernel), List.mem_of_getElem? (i := 528) (by decide +kernel), List.mem_of_getElem? (i := 529) (by decide +kernel)⟩
theorem lw_p9 : lw_okq (⟨"LoneAdjective", "deedsThatAre", "(I)I"⟩, 16) := ⟨⟨by decide +kernel, by decide +kernel⟩, List.mem_of_getElem? (i := 22) (by decide +kernel), List.mem_of_getElem? (i := 545) (by decide +kernel), List.mem_of_getElem? (i := 546) (by decide +kernel)⟩
theorem lw_p10 : lw_okq (⟨"LoneAdjective", "driftOnce", "()V"⟩, 16) := ⟨⟨by decide +kernel, by decide +kernel⟩, List.mem_of_getElem? (i := 22) (by decide +kernel), List.mem_of_getElem? (i := 639) (by decide +kernel), List.mem_of_getElem? (i := 640) (by decide +kernel)⟩
theorem lw_p11 : lw_okq (⟨"LoneAdjective", "firstOpenOf", "(I)I"⟩, 16) := ⟨⟨by decide +kernel, by decide +kernel⟩, List.mem_of_getElem? (i := 22) (by decide +kernel), List.mem_of_getElem? (i := 651) (by decide +kernel), List.mem_of_getElem? (i := 652) (by decide +kernel)⟩
theorem lw_p12 : lw_okq (⟨"LoneAdjective$Days", "agrees", "()Z"⟩, 8) := ⟨⟨by decide +kernel, by decide +kernel⟩, List.mem_of_getElem? (i := 264) (by decide +kernel), List.mem_of_getElem? (i := 692) (by decide +kernel), List.mem_of_getElem? (i := 693) (by decide +kernel)⟩
theorem lw_p13 : lw_okq (⟨"LoneAdjective$Days", "placeOf", "(LLoneAdjective$Town;I)I"⟩, 8) := ⟨⟨by decide +kernel, by decide +kernel⟩, List.mem_of_getElem? (i := 264) (by decide +kernel), List.mem_of_getElem? (i := 696) (by decide +kernel), List.mem_of_getElem? (i := 697) (by decide +kernel)⟩
theorem lw_p14 : lw_okq (⟨"LoneAdjective", "mostBeside", "(II)I"⟩, 16) := ⟨⟨by decide +kernel, by decide +kernel⟩, List.mem_of_getElem? (i := 22) (by decide +kernel), List.mem_of_getElem? (i := 729) (by decide +kernel), List.mem_of_getElem? (i := 730) (by decide +kernel)⟩
theorem lw_p15 : lw_okq (⟨"LoneAdjective$Chains", "compare", "(III)V"⟩, 2) := ⟨⟨by decide +kernel, by decide +kernel⟩, List.mem_of_getElem? (i := 294) (by decide +kernel), List.mem_of_getElem? (i := 755) (by decide +kernel), List.mem_of_getElem? (i := 756) (by decide +kernel)⟩
def lw_privs_1 : List (MethodName × Nat) := [(⟨"LoneAdjective$Reader", "skipBlanks", "()V"⟩, 6), (⟨"LoneAdjective$Reader", "readClause", "(LLoneAdjective$Town;)V"⟩, 6), (⟨"LoneAdjective$Reader", "readNumber", "(LLoneAdjective$Town;II)V"⟩, 6), (⟨"LoneAdjective$Reader", "highest", "(LLoneAdjective$Town;II)I"⟩, 6), (⟨"LoneAdjective$Reader", "again", "(LLoneAdjective$Town;III)Z"⟩, 6), (⟨"LoneAdjective$Reader", "readEnd", "(LLoneAdjective$Town;I)V"⟩, 6), (⟨"LoneAdjective$Reader", "take", "(LLoneAdjective$Town;I)V"⟩, 6), (⟨"LoneAdjective$Reader", "takeDeed", "(LLoneAdjective$Town;)V"⟩, 6), (⟨"LoneAdjective$Town", "shorten", "(III)V"⟩, 16), (⟨"LoneAdjective", "deedsThatAre", "(I)I"⟩, 16), (⟨"LoneAdjective", "driftOnce", "()V"⟩, 16), (⟨"LoneAdjective", "firstOpenOf", "(I)I"⟩, 16), (⟨"LoneAdjective$Days", "agrees", "()Z"⟩, 8), (⟨"LoneAdjective$Days", "placeOf", "(LLoneAdjective$Town;I)I"⟩, 8), (⟨"LoneAdjective", "mostBeside", "(II)I"⟩, 16), (⟨"LoneAdjective$Chains", "compare", "(III)V"⟩, 2)]
theorem lw_r1 : ∀ q ∈ lw_privs_1, lw_okq q := List.forall_mem_cons.mpr ⟨lw_p0, List.forall_mem_cons.mpr ⟨lw_p1, List.forall_mem_cons.mpr ⟨lw_p2, List.forall_mem_cons.mpr ⟨lw_p3, List.forall_mem_cons.mpr ⟨lw_p4, List.forall_mem_cons.mpr ⟨lw_p5, List.forall_mem_cons.mpr ⟨lw_p6, List.forall_mem_cons.mpr ⟨lw_p7, List.forall_mem_cons.mpr ⟨lw_p8, List.forall_mem_cons.mpr ⟨lw_p9, List.forall_mem_cons.mpr ⟨lw_p10, List.forall_mem_cons.mpr ⟨lw_p11, List.forall_mem_cons.mpr ⟨lw_p12, List.forall_mem_cons.mpr ⟨lw_p13, List.forall_mem_cons.mpr ⟨lw_p14, List.forall_mem_cons.mpr ⟨lw_p15, fun _ h => absurd h List.not_mem_nil⟩⟩⟩⟩⟩⟩⟩⟩⟩⟩⟩⟩⟩⟩⟩⟩
theorem lw_p16 : lw_okq (⟨"LoneAdjective", "sellMinute", "()V"⟩, 16) := ⟨⟨by decide +kernel, by decide +kernel⟩, List.mem_of_getElem? (i := 22) (by decide +kernel), List.mem_of_getElem? (i := 769) (by decide +kernel), List.mem_of_getElem? (i := 770) (by decide +kernel)⟩
theorem lw_p17 : lw_okq (⟨"LoneAdjective", "highestBidder", "(I)I"⟩, 16) := ⟨⟨by decide +kernel, by decide +kernel⟩, List.mem_of_getElem? (i := 22) (by decide +kernel), List.mem_of_getElem? (i := 773) (by decide +kernel), List.mem_of_getElem? (i := 774) (by decide +kernel)⟩
theorem lw_p18 : lw_okq (⟨"LoneAdjective", "bidOf", "(I)I"⟩, 16) := ⟨⟨by decide +kernel, by decide +kernel⟩, List.mem_of_getElem? (i := 22) (by decide +kernel), List.mem_of_getElem? (i := 777) (by decide +kernel), List.mem_of_getElem? (i := 778) (by decide +kernel)⟩
theorem lw_p19 : lw_okq (⟨"LoneAdjective$Chase", "decideAt", "(LLoneAdjective$Town;I)Z"⟩, 2) := ⟨⟨by decide +kernel, by decide +kernel⟩, List.mem_of_getElem? (i := 309) (by decide +kernel), List.mem_of_getElem? (i := 793) (by decide +kernel), List.mem_of_getElem? (i := 794) (by decide +kernel)⟩
theorem lw_p20 : lw_okq (⟨"LoneAdjective$Chase", "decide", "(LLoneAdjective$Town;IIII)Z"⟩, 2) := ⟨⟨by decide +kernel, by decide +kernel⟩, List.mem_of_getElem? (i := 309) (by decide +kernel), List.mem_of_getElem? (i := 797) (by decide +kernel), List.mem_of_getElem? (i := 798) (by decide +kernel)⟩
theorem lw_p21 : lw_okq (⟨"LoneAdjective", "wordForMost", "(I)I"⟩, 16) := ⟨⟨by decide +kernel, by decide +kernel⟩, List.mem_of_getElem? (i := 22) (by decide +kernel), List.mem_of_getElem? (i := 810) (by decide +kernel), List.mem_of_getElem? (i := 811) (by decide +kernel)⟩
theorem lw_p22 : lw_okq (⟨"LoneAdjective", "mostVoted", "()I"⟩, 16) := ⟨⟨by decide +kernel, by decide +kernel⟩, List.mem_of_getElem? (i := 22) (by decide +kernel), List.mem_of_getElem? (i := 814) (by decide +kernel), List.mem_of_getElem? (i := 815) (by decide +kernel)⟩
theorem lw_p23 : lw_okq (⟨"LoneAdjectiveModel", "readTown", "()Z"⟩, 50) := ⟨⟨by decide +kernel, by decide +kernel⟩, List.mem_of_getElem? (i := 883) (by decide +kernel), List.mem_of_getElem? (i := 1054) (by decide +kernel), List.mem_of_getElem? (i := 1055) (by decide +kernel)⟩
theorem lw_p24 : lw_okq (⟨"LoneAdjectiveModel", "nextToken", "()V"⟩, 50) := ⟨⟨by decide +kernel, by decide +kernel⟩, List.mem_of_getElem? (i := 883) (by decide +kernel), List.mem_of_getElem? (i := 1058) (by decide +kernel), List.mem_of_getElem? (i := 1059) (by decide +kernel)⟩
theorem lw_p25 : lw_okq (⟨"LoneAdjectiveModel", "takes", "(I)Z"⟩, 50) := ⟨⟨by decide +kernel, by decide +kernel⟩, List.mem_of_getElem? (i := 883) (by decide +kernel), List.mem_of_getElem? (i := 1065) (by decide +kernel), List.mem_of_getElem? (i := 1066) (by decide +kernel)⟩
theorem lw_p26 : lw_okq (⟨"LoneAdjectiveModel", "faults", "(I)Z"⟩, 50) := ⟨⟨by decide +kernel, by decide +kernel⟩, List.mem_of_getElem? (i := 883) (by decide +kernel), List.mem_of_getElem? (i := 1069) (by decide +kernel), List.mem_of_getElem? (i := 1070) (by decide +kernel)⟩
theorem lw_p27 : lw_okq (⟨"LoneAdjectiveModel", "isNumber", "(II)Z"⟩, 50) := ⟨⟨by decide +kernel, by decide +kernel⟩, List.mem_of_getElem? (i := 883) (by decide +kernel), List.mem_of_getElem? (i := 1073) (by decide +kernel), List.mem_of_getElem? (i := 1074) (by decide +kernel)⟩
theorem lw_p28 : lw_okq (⟨"LoneAdjectiveModel", "taken", "()I"⟩, 50) := ⟨⟨by decide +kernel, by decide +kernel⟩, List.mem_of_getElem? (i := 883) (by decide +kernel), List.mem_of_getElem? (i := 1077) (by decide +kernel), List.mem_of_getElem? (i := 1078) (by decide +kernel)⟩
theorem lw_p29 : lw_okq (⟨"LoneAdjectiveModel", "readWay", "()Z"⟩, 50) := ⟨⟨by decide +kernel, by decide +kernel⟩, List.mem_of_getElem? (i := 883) (by decide +kernel), List.mem_of_getElem? (i := 1081) (by decide +kernel), List.mem_of_getElem? (i := 1082) (by decide +kernel)⟩
theorem lw_p30 : lw_okq (⟨"LoneAdjectiveModel", "readPerson", "()Z"⟩, 50) := ⟨⟨by decide +kernel, by decide +kernel⟩, List.mem_of_getElem? (i := 883) (by decide +kernel), List.mem_of_getElem? (i := 1085) (by decide +kernel), List.mem_of_getElem? (i := 1086) (by decide +kernel)⟩
theorem lw_p31 : lw_okq (⟨"LoneAdjectiveModel", "readDeed", "()Z"⟩, 50) := ⟨⟨by decide +kernel, by decide +kernel⟩, List.mem_of_getElem? (i := 883) (by decide +kernel), List.mem_of_getElem? (i := 1089) (by decide +kernel), List.mem_of_getElem? (i := 1090) (by decide +kernel)⟩
def lw_privs_2 : List (MethodName × Nat) := [(⟨"LoneAdjective", "sellMinute", "()V"⟩, 16), (⟨"LoneAdjective", "highestBidder", "(I)I"⟩, 16), (⟨"LoneAdjective", "bidOf", "(I)I"⟩, 16), (⟨"LoneAdjective$Chase", "decideAt", "(LLoneAdjective$Town;I)Z"⟩, 2), (⟨"LoneAdjective$Chase", "decide", "(LLoneAdjective$Town;IIII)Z"⟩, 2), (⟨"LoneAdjective", "wordForMost", "(I)I"⟩, 16), (⟨"LoneAdjective", "mostVoted", "()I"⟩, 16), (⟨"LoneAdjectiveModel", "readTown", "()Z"⟩, 50), (⟨"LoneAdjectiveModel", "nextToken", "()V"⟩, 50), (⟨"LoneAdjectiveModel", "takes", "(I)Z"⟩, 50), (⟨"LoneAdjectiveModel", "faults", "(I)Z"⟩, 50), (⟨"LoneAdjectiveModel", "isNumber", "(II)Z"⟩, 50), (⟨"LoneAdjectiveModel", "taken", "()I"⟩, 50), (⟨"LoneAdjectiveModel", "readWay", "()Z"⟩, 50), (⟨"LoneAdjectiveModel", "readPerson", "()Z"⟩, 50), (⟨"LoneAdjectiveModel", "readDeed", "()Z"⟩, 50)]
theorem lw_r2 : ∀ q ∈ lw_privs_2, lw_okq q := List.forall_mem_cons.mpr ⟨lw_p16, List.forall_mem_cons.mpr ⟨lw_p17, List.forall_mem_cons.mpr ⟨lw_p18, List.forall_mem_cons.mpr ⟨lw_p19, List.forall_mem_cons.mpr ⟨lw_p20, List.forall_mem_cons.mpr ⟨lw_p21, List.forall_mem_cons.mpr ⟨lw_p22, List.forall_mem_cons.mpr ⟨lw_p23, List.forall_mem_cons.mpr ⟨lw_p24, List.forall_mem_cons.mpr ⟨lw_p25, List.forall_mem_cons.mpr ⟨lw_p26, List.forall_mem_cons.mpr ⟨lw_p27, List.forall_mem_cons.mpr ⟨lw_p28, List.forall_mem_cons.mpr ⟨lw_p29, List.forall_mem_cons.mpr ⟨lw_p30, List.forall_mem_cons.mpr ⟨lw_p31, fun _ h => absurd h List.not_mem_nil⟩⟩⟩⟩⟩⟩⟩⟩⟩⟩⟩⟩⟩⟩⟩⟩
theorem lw_p32 : lw_okq (⟨"LoneAdjectiveModel", "readReword", "()Z"⟩, 50) := ⟨⟨by decide +kernel, by decide +kernel⟩, List.mem_of_getElem? (i := 883) (by decide +kernel), List.mem_of_getElem? (i := 1093) (by decide +kernel), List.mem_of_getElem? (i := 1094) (by decide +kernel)⟩
theorem lw_p33 : lw_okq (⟨"LoneAdjectiveModel", "readTrust", "()Z"⟩, 50) := ⟨⟨by decide +kernel, by decide +kernel⟩, List.mem_of_getElem? (i := 883) (by decide +kernel), List.mem_of_getElem? (i := 1097) (by decide +kernel), List.mem_of_getElem? (i := 1098) (by decide +kernel)⟩
theorem lw_p34 : lw_okq (⟨"LoneAdjectiveModel", "readOther", "()Z"⟩, 50) := ⟨⟨by decide +kernel, by decide +kernel⟩, List.mem_of_getElem? (i := 883) (by decide +kernel), List.mem_of_getElem? (i := 1101) (by decide +kernel), List.mem_of_getElem? (i := 1102) (by decide +kernel)⟩
theorem lw_p35 : lw_okq (⟨"LoneAdjectiveModel", "findFars", "()V"⟩, 50) := ⟨⟨by decide +kernel, by decide +kernel⟩, List.mem_of_getElem? (i := 883) (by decide +kernel), List.mem_of_getElem? (i := 1105) (by decide +kernel), List.mem_of_getElem? (i := 1106) (by decide +kernel)⟩
theorem lw_p36 : lw_okq (⟨"LoneAdjectiveModel", "deedsThatAre", "(I)I"⟩, 50) := ⟨⟨by decide +kernel, by decide +kernel⟩, List.mem_of_getElem? (i := 883) (by decide +kernel), List.mem_of_getElem? (i := 1117) (by decide +kernel), List.mem_of_getElem? (i := 1118) (by decide +kernel)⟩
theorem lw_p37 : lw_okq (⟨"LoneAdjectiveModel", "howOf", "(I)I"⟩, 50) := ⟨⟨by decide +kernel, by decide +kernel⟩, List.mem_of_getElem? (i := 883) (by decide +kernel), List.mem_of_getElem? (i := 1121) (by decide +kernel), List.mem_of_getElem? (i := 1122) (by decide +kernel)⟩
theorem lw_p38 : lw_okq (⟨"LoneAdjectiveModel", "worthOf", "(I)I"⟩, 50) := ⟨⟨by decide +kernel, by decide +kernel⟩, List.mem_of_getElem? (i := 883) (by decide +kernel), List.mem_of_getElem? (i := 1125) (by decide +kernel), List.mem_of_getElem? (i := 1126) (by decide +kernel)⟩
theorem lw_p39 : lw_okq (⟨"LoneAdjectiveModel", "isSquare", "(I)Z"⟩, 50) := ⟨⟨by decide +kernel, by decide +kernel⟩, List.mem_of_getElem? (i := 883) (by decide +kernel), List.mem_of_getElem? (i := 1136) (by decide +kernel), List.mem_of_getElem? (i := 1137) (by decide +kernel)⟩
theorem lw_p40 : lw_okq (⟨"LoneAdjectiveModel", "farOf", "(II)I"⟩, 50) := ⟨⟨by decide +kernel, by decide +kernel⟩, List.mem_of_getElem? (i := 883) (by decide +kernel), List.mem_of_getElem? (i := 1140) (by decide +kernel), List.mem_of_getElem? (i := 1141) (by decide +kernel)⟩
theorem lw_p41 : lw_okq (⟨"LoneAdjectiveModel", "isPerson", "(I)Z"⟩, 50) := ⟨⟨by decide +kernel, by decide +kernel⟩, List.mem_of_getElem? (i := 883) (by decide +kernel), List.mem_of_getElem? (i := 1149) (by decide +kernel), List.mem_of_getElem? (i := 1150) (by decide +kernel)⟩
theorem lw_p42 : lw_okq (⟨"LoneAdjectiveModel", "isDeed", "(I)Z"⟩, 50) := ⟨⟨by decide +kernel, by decide +kernel⟩, List.mem_of_getElem? (i := 883) (by decide +kernel), List.mem_of_getElem? (i := 1157) (by decide +kernel), List.mem_of_getElem? (i := 1158) (by decide +kernel)⟩
theorem lw_p43 : lw_okq (⟨"LoneAdjectiveModel", "areTwo", "(II)Z"⟩, 50) := ⟨⟨by decide +kernel, by decide +kernel⟩, List.mem_of_getElem? (i := 883) (by decide +kernel), List.mem_of_getElem? (i := 1166) (by decide +kernel), List.mem_of_getElem? (i := 1167) (by decide +kernel)⟩
theorem lw_p44 : lw_okq (⟨"LoneAdjectiveModel", "walkTo", "(II)V"⟩, 50) := ⟨⟨by decide +kernel, by decide +kernel⟩, List.mem_of_getElem? (i := 883) (by decide +kernel), List.mem_of_getElem? (i := 1180) (by decide +kernel), List.mem_of_getElem? (i := 1181) (by decide +kernel)⟩
theorem lw_p45 : lw_okq (⟨"LoneAdjectiveModel", "doNow", "(I)V"⟩, 50) := ⟨⟨by decide +kernel, by decide +kernel⟩, List.mem_of_getElem? (i := 883) (by decide +kernel), List.mem_of_getElem? (i := 1188) (by decide +kernel), List.mem_of_getElem? (i := 1189) (by decide +kernel)⟩
theorem lw_p46 : lw_okq (⟨"LoneAdjectiveModel", "draw", "(I)I"⟩, 50) := ⟨⟨by decide +kernel, by decide +kernel⟩, List.mem_of_getElem? (i := 883) (by decide +kernel), List.mem_of_getElem? (i := 1206) (by decide +kernel), List.mem_of_getElem? (i := 1207) (by decide +kernel)⟩
theorem lw_p47 : lw_okq (⟨"LoneAdjectiveModel", "findEnds", "(III)V"⟩, 50) := ⟨⟨by decide +kernel, by decide +kernel⟩, List.mem_of_getElem? (i := 883) (by decide +kernel), List.mem_of_getElem? (i := 1218) (by decide +kernel), List.mem_of_getElem? (i := 1219) (by decide +kernel)⟩
def lw_privs_3 : List (MethodName × Nat) := [(⟨"LoneAdjectiveModel", "readReword", "()Z"⟩, 50), (⟨"LoneAdjectiveModel", "readTrust", "()Z"⟩, 50), (⟨"LoneAdjectiveModel", "readOther", "()Z"⟩, 50), (⟨"LoneAdjectiveModel", "findFars", "()V"⟩, 50), (⟨"LoneAdjectiveModel", "deedsThatAre", "(I)I"⟩, 50), (⟨"LoneAdjectiveModel", "howOf", "(I)I"⟩, 50), (⟨"LoneAdjectiveModel", "worthOf", "(I)I"⟩, 50), (⟨"LoneAdjectiveModel", "isSquare", "(I)Z"⟩, 50), (⟨"LoneAdjectiveModel", "farOf", "(II)I"⟩, 50), (⟨"LoneAdjectiveModel", "isPerson", "(I)Z"⟩, 50), (⟨"LoneAdjectiveModel", "isDeed", "(I)Z"⟩, 50), (⟨"LoneAdjectiveModel", "areTwo", "(II)Z"⟩, 50), (⟨"LoneAdjectiveModel", "walkTo", "(II)V"⟩, 50), (⟨"LoneAdjectiveModel", "doNow", "(I)V"⟩, 50), (⟨"LoneAdjectiveModel", "draw", "(I)I"⟩, 50), (⟨"LoneAdjectiveModel", "findEnds", "(III)V"⟩, 50)]
theorem lw_r3 : ∀ q ∈ lw_privs_3, lw_okq q := List.forall_mem_cons.mpr ⟨lw_p32, List.forall_mem_cons.mpr ⟨lw_p33, List.forall_mem_cons.mpr ⟨lw_p34, List.forall_mem_cons.mpr ⟨lw_p35, List.forall_mem_cons.mpr ⟨lw_p36, List.forall_mem_cons.mpr ⟨lw_p37, List.forall_mem_cons.mpr ⟨lw_p38, List.forall_mem_cons.mpr ⟨lw_p39, List.forall_mem_cons.mpr ⟨lw_p40, List.forall_mem_cons.mpr ⟨lw_p41, List.forall_mem_cons.mpr ⟨lw_p42, List.forall_mem_cons.mpr ⟨lw_p43, List.forall_mem_cons.mpr ⟨lw_p44, List.forall_mem_cons.mpr ⟨lw_p45, List.forall_mem_cons.mpr ⟨lw_p46, List.forall_mem_cons.mpr ⟨lw_p47, fun _ h => absurd h List.not_mem_nil⟩⟩⟩⟩⟩⟩⟩⟩⟩⟩⟩⟩⟩⟩⟩⟩
theorem lw_p48 : lw_okq (⟨"LoneAdjectiveModel", "endBehind", "(III)I"⟩, 50) := ⟨⟨by decide +kernel, by decide +kernel⟩, List.mem_of_getElem? (i := 883) (by decide +kernel), List.mem_of_getElem? (i := 1222) (by decide +kernel), List.mem_of_getElem? (i := 1223) (by decide +kernel)⟩
theorem lw_p49 : lw_okq (⟨"LoneAdjectiveModel", "placeOf", "(I)I"⟩, 50) := ⟨⟨by decide +kernel, by decide +kernel⟩, List.mem_of_getElem? (i := 883) (by decide +kernel), List.mem_of_getElem? (i := 1226) (by decide +kernel), List.mem_of_getElem? (i := 1227) (by decide +kernel)⟩
theorem lw_p50 : lw_okq (⟨"LoneAdjectiveModel", "endOf", "(II)I"⟩, 50) := ⟨⟨by decide +kernel, by decide +kernel⟩, List.mem_of_getElem? (i := 883) (by decide +kernel), List.mem_of_getElem? (i := 1230) (by decide +kernel), List.mem_of_getElem? (i := 1231) (by decide +kernel)⟩
theorem lw_p51 : lw_okq (⟨"LoneAdjectiveModel", "firstRow", "(III)I"⟩, 50) := ⟨⟨by decide +kernel, by decide +kernel⟩, List.mem_of_getElem? (i := 883) (by decide +kernel), List.mem_of_getElem? (i := 1234) (by decide +kernel), List.mem_of_getElem? (i := 1235) (by decide +kernel)⟩
theorem lw_p52 : lw_okq (⟨"LoneAdjectiveModel", "digits", "(II)I"⟩, 50) := ⟨⟨by decide +kernel, by decide +kernel⟩, List.mem_of_getElem? (i := 883) (by decide +kernel), List.mem_of_getElem? (i := 1238) (by decide +kernel), List.mem_of_getElem? (i := 1239) (by decide +kernel)⟩
theorem lw_p53 : lw_okq (⟨"LoneAdjectiveModel", "isRow", "(III)Z"⟩, 50) := ⟨⟨by decide +kernel, by decide +kernel⟩, List.mem_of_getElem? (i := 883) (by decide +kernel), List.mem_of_getElem? (i := 1242) (by decide +kernel), List.mem_of_getElem? (i := 1243) (by decide +kernel)⟩
theorem lw_p54 : lw_okq (⟨"LoneAdjectiveModel", "isAhead", "(II)Z"⟩, 50) := ⟨⟨by decide +kernel, by decide +kernel⟩, List.mem_of_getElem? (i := 883) (by decide +kernel), List.mem_of_getElem? (i := 1246) (by decide +kernel), List.mem_of_getElem? (i := 1247) (by decide +kernel)⟩
theorem lw_p55 : lw_okq (⟨"LoneAdjectiveModel", "costOf", "(I)I"⟩, 50) := ⟨⟨by decide +kernel, by decide +kernel⟩, List.mem_of_getElem? (i := 883) (by decide +kernel), List.mem_of_getElem? (i := 1258) (by decide +kernel), List.mem_of_getElem? (i := 1259) (by decide +kernel)⟩
theorem lw_p56 : lw_okq (⟨"LoneAdjectiveModel", "oddsOf", "(IIII)I"⟩, 50) := ⟨⟨by decide +kernel, by decide +kernel⟩, List.mem_of_getElem? (i := 883) (by decide +kernel), List.mem_of_getElem? (i := 1266) (by decide +kernel), List.mem_of_getElem? (i := 1267) (by decide +kernel)⟩
theorem lw_p57 : lw_okq (⟨"LoneAdjectiveModel", "bidOf", "(I)I"⟩, 50) := ⟨⟨by decide +kernel, by decide +kernel⟩, List.mem_of_getElem? (i := 883) (by decide +kernel), List.mem_of_getElem? (i := 1281) (by decide +kernel), List.mem_of_getElem? (i := 1282) (by decide +kernel)⟩
theorem lw_p58 : lw_okq (⟨"LoneAdjectiveModel", "findThief", "(I)V"⟩, 50) := ⟨⟨by decide +kernel, by decide +kernel⟩, List.mem_of_getElem? (i := 883) (by decide +kernel), List.mem_of_getElem? (i := 1289) (by decide +kernel), List.mem_of_getElem? (i := 1290) (by decide +kernel)⟩
theorem lw_p59 : lw_okq (⟨"LoneAdjectiveModel", "escapesFrom", "(III)I"⟩, 50) := ⟨⟨by decide +kernel, by decide +kernel⟩, List.mem_of_getElem? (i := 883) (by decide +kernel), List.mem_of_getElem? (i := 1293) (by decide +kernel), List.mem_of_getElem? (i := 1294) (by decide +kernel)⟩
theorem lw_p60 : lw_okq (⟨"LoneAdjectiveModel", "leads", "(II)Z"⟩, 50) := ⟨⟨by decide +kernel, by decide +kernel⟩, List.mem_of_getElem? (i := 883) (by decide +kernel), List.mem_of_getElem? (i := 1297) (by decide +kernel), List.mem_of_getElem? (i := 1298) (by decide +kernel)⟩
theorem lw_p61 : lw_okq (⟨"LoneAdjectiveModel", "catchesFrom", "(III)I"⟩, 50) := ⟨⟨by decide +kernel, by decide +kernel⟩, List.mem_of_getElem? (i := 883) (by decide +kernel), List.mem_of_getElem? (i := 1301) (by decide +kernel), List.mem_of_getElem? (i := 1302) (by decide +kernel)⟩
theorem lw_p62 : lw_okq (⟨"LoneAdjectiveModel", "votesFor", "(I)I"⟩, 50) := ⟨⟨by decide +kernel, by decide +kernel⟩, List.mem_of_getElem? (i := 883) (by decide +kernel), List.mem_of_getElem? (i := 1310) (by decide +kernel), List.mem_of_getElem? (i := 1311) (by decide +kernel)⟩
theorem lw_p63 : lw_okq (⟨"LoneAdjectiveModel", "voteOf", "(I)I"⟩, 50) := ⟨⟨by decide +kernel, by decide +kernel⟩, List.mem_of_getElem? (i := 883) (by decide +kernel), List.mem_of_getElem? (i := 1314) (by decide +kernel), List.mem_of_getElem? (i := 1315) (by decide +kernel)⟩
def lw_privs_4 : List (MethodName × Nat) := [(⟨"LoneAdjectiveModel", "endBehind", "(III)I"⟩, 50), (⟨"LoneAdjectiveModel", "placeOf", "(I)I"⟩, 50), (⟨"LoneAdjectiveModel", "endOf", "(II)I"⟩, 50), (⟨"LoneAdjectiveModel", "firstRow", "(III)I"⟩, 50), (⟨"LoneAdjectiveModel", "digits", "(II)I"⟩, 50), (⟨"LoneAdjectiveModel", "isRow", "(III)Z"⟩, 50), (⟨"LoneAdjectiveModel", "isAhead", "(II)Z"⟩, 50), (⟨"LoneAdjectiveModel", "costOf", "(I)I"⟩, 50), (⟨"LoneAdjectiveModel", "oddsOf", "(IIII)I"⟩, 50), (⟨"LoneAdjectiveModel", "bidOf", "(I)I"⟩, 50), (⟨"LoneAdjectiveModel", "findThief", "(I)V"⟩, 50), (⟨"LoneAdjectiveModel", "escapesFrom", "(III)I"⟩, 50), (⟨"LoneAdjectiveModel", "leads", "(II)Z"⟩, 50), (⟨"LoneAdjectiveModel", "catchesFrom", "(III)I"⟩, 50), (⟨"LoneAdjectiveModel", "votesFor", "(I)I"⟩, 50), (⟨"LoneAdjectiveModel", "voteOf", "(I)I"⟩, 50)]
theorem lw_r4 : ∀ q ∈ lw_privs_4, lw_okq q := List.forall_mem_cons.mpr ⟨lw_p48, List.forall_mem_cons.mpr ⟨lw_p49, List.forall_mem_cons.mpr ⟨lw_p50, List.forall_mem_cons.mpr ⟨lw_p51, List.forall_mem_cons.mpr ⟨lw_p52, List.forall_mem_cons.mpr ⟨lw_p53, List.forall_mem_cons.mpr ⟨lw_p54, List.forall_mem_cons.mpr ⟨lw_p55, List.forall_mem_cons.mpr ⟨lw_p56, List.forall_mem_cons.mpr ⟨lw_p57, List.forall_mem_cons.mpr ⟨lw_p58, List.forall_mem_cons.mpr ⟨lw_p59, List.forall_mem_cons.mpr ⟨lw_p60, List.forall_mem_cons.mpr ⟨lw_p61, List.forall_mem_cons.mpr ⟨lw_p62, List.forall_mem_cons.mpr ⟨lw_p63, fun _ h => absurd h List.not_mem_nil⟩⟩⟩⟩⟩⟩⟩⟩⟩⟩⟩⟩⟩⟩⟩⟩
theorem lw_p64 : lw_okq (⟨"LoneAdjectiveModel", "deedsOf", "(I)I"⟩, 50) := ⟨⟨by decide +kernel, by decide +kernel⟩, List.mem_of_getElem? (i := 883) (by decide +kernel), List.mem_of_getElem? (i := 1318) (by decide +kernel), List.mem_of_getElem? (i := 1319) (by decide +kernel)⟩
theorem lw_p65 : lw_okq (⟨"LoneAdjectiveModel", "findDays", "(I)I"⟩, 50) := ⟨⟨by decide +kernel, by decide +kernel⟩, List.mem_of_getElem? (i := 883) (by decide +kernel), List.mem_of_getElem? (i := 1334) (by decide +kernel), List.mem_of_getElem? (i := 1335) (by decide +kernel)⟩
theorem lw_p66 : lw_okq (⟨"LoneAdjectiveModel", "isDay", "(I)Z"⟩, 50) := ⟨⟨by decide +kernel, by decide +kernel⟩, List.mem_of_getElem? (i := 883) (by decide +kernel), List.mem_of_getElem? (i := 1338) (by decide +kernel), List.mem_of_getElem? (i := 1339) (by decide +kernel)⟩
def lw_privs_5 : List (MethodName × Nat) := [(⟨"LoneAdjectiveModel", "deedsOf", "(I)I"⟩, 50), (⟨"LoneAdjectiveModel", "findDays", "(I)I"⟩, 50), (⟨"LoneAdjectiveModel", "isDay", "(I)Z"⟩, 50)]
theorem lw_r5 : ∀ q ∈ lw_privs_5, lw_okq q := List.forall_mem_cons.mpr ⟨lw_p64, List.forall_mem_cons.mpr ⟨lw_p65, List.forall_mem_cons.mpr ⟨lw_p66, fun _ h => absurd h List.not_mem_nil⟩⟩⟩
def lw_privs : List (MethodName × Nat) := lw_privs_1 ++ (lw_privs_2 ++ (lw_privs_3 ++ (lw_privs_4 ++ (lw_privs_5))))
def lw_tbl : List Cond := k2_sels lw_privs ++ tables_1
theorem lw_privs_ok : ∀ q ∈ lw_privs, lw_okq q := by
  show ∀ q ∈ lw_privs_1 ++ (lw_privs_2 ++ (lw_privs_3 ++ (lw_privs_4 ++ (lw_privs_5)))), lw_okq q
  exact List.forall_mem_append.mpr ⟨lw_r1, List.forall_mem_append.mpr ⟨lw_r2, List.forall_mem_append.mpr ⟨lw_r3, List.forall_mem_append.mpr ⟨lw_r4, lw_r5⟩⟩⟩⟩
end
section
def RX0 : String := "LoneAdjective$BestRound"
def TX0 : u_T := fun k => match k with
  | 0 => ("LoneAdjective$Rounds", "row", "[I", true)
  | 1 => ("LoneAdjective$Rounds", "endAt", "[I", true)
  | 2 => ("LoneAdjective$BestRound", "worth", "I", false)
  | 3 => ("LoneAdjective$BestRound", "end", "I", false)
  | 4 => ("LoneAdjective$BestRound", "length", "I", false)
  | _ => ("LoneAdjective$BestRound", "best", "[I", true)
def tyX0 : Nat → FieldType := fun k => match k with
  | 0 => .array .int
  | 1 => .array .int
  | 2 => .int
  | 3 => .int
  | 4 => .int
  | _ => .array .int
abbrev wsX00 : List Cond := u_ws RX0 TX0 6
theorem nmX0 : ∀ a, a < 6 → ∀ b, b < 6 → a ≠ b → (TX0 a).2.1 ≠ (TX0 b).2.1 := by decide +kernel
theorem tyX0_ok : ∀ k, k < 6 → parseFieldDescriptor (TX0 k).2.2.1 = some (tyX0 k) := by decide +kernel
abbrev cX0_init : ByteArray := prog_2_method_1_code
def yX0_init : MethodName := ⟨RX0, "<init>", "()V"⟩
abbrev cX0_find : ByteArray := prog_2_method_2_code
def yX0_find : MethodName := ⟨RX0, "find", "(LLoneAdjective$Town;III)V"⟩
abbrev cX0_meet : ByteArray := prog_2_method_3_code
def yX0_meet : MethodName := ⟨RX0, "meet", "(LLoneAdjective$Town;II)V"⟩
def RX1 : String := "LoneAdjective$Chains"
def TX1 : u_T := fun k => match k with
  | 0 => ("LoneAdjective$Chains", "bestOdds", "[I", true)
  | _ => ("LoneAdjective$Chains", "fewest", "[I", true)
def tyX1 : Nat → FieldType := fun k => match k with
  | 0 => .array .int
  | _ => .array .int
abbrev wsX10 : List Cond := u_ws RX1 TX1 2
theorem nmX1 : ∀ a, a < 2 → ∀ b, b < 2 → a ≠ b → (TX1 a).2.1 ≠ (TX1 b).2.1 := by decide +kernel
theorem tyX1_ok : ∀ k, k < 2 → parseFieldDescriptor (TX1 k).2.2.1 = some (tyX1 k) := by decide +kernel
abbrev cX1_init : ByteArray := prog_3_method_1_code
def yX1_init : MethodName := ⟨RX1, "<init>", "()V"⟩
abbrev cX1_find : ByteArray := prog_3_method_2_code
def yX1_find : MethodName := ⟨RX1, "find", "(LLoneAdjective$Town;I)V"⟩
abbrev cX1_lendOn : ByteArray := prog_3_method_3_code
def yX1_lendOn : MethodName := ⟨RX1, "lendOn", "(LLoneAdjective$Chains;LLoneAdjective$Town;IIII)V"⟩
abbrev cX1_compare : ByteArray := prog_3_method_4_code
def yX1_compare : MethodName := ⟨RX1, "compare", "(III)V"⟩
def RX2 : String := "LoneAdjective$Chase"
def TX2 : u_T := fun k => match k with
  | 0 => ("LoneAdjective$Chase", "ending", "[I", true)
  | _ => ("LoneAdjective$Chase", "moves", "[I", true)
def tyX2 : Nat → FieldType := fun k => match k with
  | 0 => .array .int
  | _ => .array .int
abbrev wsX20 : List Cond := u_ws RX2 TX2 2
theorem nmX2 : ∀ a, a < 2 → ∀ b, b < 2 → a ≠ b → (TX2 a).2.1 ≠ (TX2 b).2.1 := by decide +kernel
theorem tyX2_ok : ∀ k, k < 2 → parseFieldDescriptor (TX2 k).2.2.1 = some (tyX2 k) := by decide +kernel
abbrev cX2_init : ByteArray := prog_4_method_1_code
def yX2_init : MethodName := ⟨RX2, "<init>", "()V"⟩
abbrev cX2_place : ByteArray := prog_4_method_2_code
def yX2_place : MethodName := ⟨RX2, "place", "(III)I"⟩
abbrev cX2_solve : ByteArray := prog_4_method_3_code
def yX2_solve : MethodName := ⟨RX2, "solve", "(LLoneAdjective$Town;I)V"⟩
abbrev cX2_decideAt : ByteArray := prog_4_method_4_code
def yX2_decideAt : MethodName := ⟨RX2, "decideAt", "(LLoneAdjective$Town;I)Z"⟩
abbrev cX2_decide : ByteArray := prog_4_method_5_code
def yX2_decide : MethodName := ⟨RX2, "decide", "(LLoneAdjective$Town;IIII)Z"⟩
def RX3 : String := "LoneAdjective$Days"
def TX3 : u_T := fun k => match k with
  | 0 => ("LoneAdjective$Rounds", "row", "[I", true)
  | 1 => ("LoneAdjective$Rounds", "endAt", "[I", true)
  | 2 => ("LoneAdjective$Days", "told", "I", false)
  | 3 => ("LoneAdjective$Days", "count", "I", false)
  | 4 => ("LoneAdjective$Days", "squares", "I", false)
  | 5 => ("LoneAdjective$Days", "asked", "I", false)
  | 6 => ("LoneAdjective$Days", "toldDeed", "[I", true)
  | _ => ("LoneAdjective$Days", "toldEnd", "[I", true)
def tyX3 : Nat → FieldType := fun k => match k with
  | 0 => .array .int
  | 1 => .array .int
  | 2 => .int
  | 3 => .int
  | 4 => .int
  | 5 => .int
  | 6 => .array .int
  | _ => .array .int
abbrev wsX30 : List Cond := u_ws RX3 TX3 8
theorem nmX3 : ∀ a, a < 8 → ∀ b, b < 8 → a ≠ b → (TX3 a).2.1 ≠ (TX3 b).2.1 := by decide +kernel
theorem tyX3_ok : ∀ k, k < 8 → parseFieldDescriptor (TX3 k).2.2.1 = some (tyX3 k) := by decide +kernel
abbrev cX3_init : ByteArray := prog_5_method_1_code
def yX3_init : MethodName := ⟨RX3, "<init>", "()V"⟩
abbrev cX3_add : ByteArray := prog_5_method_2_code
def yX3_add : MethodName := ⟨RX3, "add", "(II)Z"⟩
abbrev cX3_find : ByteArray := prog_5_method_3_code
def yX3_find : MethodName := ⟨RX3, "find", "(LLoneAdjective$Town;I)V"⟩
abbrev cX3_meet : ByteArray := prog_5_method_4_code
def yX3_meet : MethodName := ⟨RX3, "meet", "(LLoneAdjective$Town;II)V"⟩
abbrev cX3_agrees : ByteArray := prog_5_method_5_code
def yX3_agrees : MethodName := ⟨RX3, "agrees", "()Z"⟩
abbrev cX3_placeOf : ByteArray := prog_5_method_6_code
def yX3_placeOf : MethodName := ⟨RX3, "placeOf", "(LLoneAdjective$Town;I)I"⟩
def RX4 : String := "LoneAdjective$Diary"
def TX4 : u_T := fun k => match k with
  | 0 => ("LoneAdjective$Diary", "entries", "I", false)
  | 1 => ("LoneAdjective$Diary", "deed", "[I", true)
  | _ => ("LoneAdjective$Diary", "minute", "[I", true)
def tyX4 : Nat → FieldType := fun k => match k with
  | 0 => .int
  | 1 => .array .int
  | _ => .array .int
abbrev wsX40 : List Cond := u_ws RX4 TX4 3
theorem nmX4 : ∀ a, a < 3 → ∀ b, b < 3 → a ≠ b → (TX4 a).2.1 ≠ (TX4 b).2.1 := by decide +kernel
theorem tyX4_ok : ∀ k, k < 3 → parseFieldDescriptor (TX4 k).2.2.1 = some (tyX4 k) := by decide +kernel
abbrev cX4_init : ByteArray := prog_6_method_1_code
def yX4_init : MethodName := ⟨RX4, "<init>", "()V"⟩
abbrev cX4_add : ByteArray := prog_6_method_2_code
def yX4_add : MethodName := ⟨RX4, "add", "(II)Z"⟩
abbrev cX4_firstWrong : ByteArray := prog_6_method_3_code
def yX4_firstWrong : MethodName := ⟨RX4, "firstWrong", "(LLoneAdjective$State;)I"⟩
def RX5 : String := "LoneAdjective$DoneSets"
def TX5 : u_T := fun k => match k with
  | 0 => ("LoneAdjective$Rounds", "row", "[I", true)
  | 1 => ("LoneAdjective$Rounds", "endAt", "[I", true)
  | _ => ("LoneAdjective$DoneSets", "can", "[Z", true)
def tyX5 : Nat → FieldType := fun k => match k with
  | 0 => .array .int
  | 1 => .array .int
  | _ => .array .boolean
abbrev wsX50 : List Cond := u_ws RX5 TX5 3
theorem nmX5 : ∀ a, a < 3 → ∀ b, b < 3 → a ≠ b → (TX5 a).2.1 ≠ (TX5 b).2.1 := by decide +kernel
theorem tyX5_ok : ∀ k, k < 3 → parseFieldDescriptor (TX5 k).2.2.1 = some (tyX5 k) := by decide +kernel
abbrev cX5_init : ByteArray := prog_7_method_1_code
def yX5_init : MethodName := ⟨RX5, "<init>", "()V"⟩
abbrev cX5_find : ByteArray := prog_7_method_2_code
def yX5_find : MethodName := ⟨RX5, "find", "(LLoneAdjective$Town;III)V"⟩
abbrev cX5_meet : ByteArray := prog_7_method_3_code
def yX5_meet : MethodName := ⟨RX5, "meet", "(LLoneAdjective$Town;II)V"⟩
def RX6 : String := "LoneAdjective$Reader"
def TX6 : u_T := fun k => match k with
  | 0 => ("LoneAdjective$Reader", "letters", "I", false)
  | 1 => ("LoneAdjective$Reader", "at", "I", false)
  | 2 => ("LoneAdjective$Reader", "fault", "I", false)
  | 3 => ("LoneAdjective$Reader", "text", "[C", true)
  | 4 => ("LoneAdjective$Reader", "count", "[I", true)
  | _ => ("LoneAdjective$Reader", "number", "[I", true)
def tyX6 : Nat → FieldType := fun k => match k with
  | 0 => .int
  | 1 => .int
  | 2 => .int
  | 3 => .array .char
  | 4 => .array .int
  | _ => .array .int
abbrev wsX60 : List Cond := u_ws RX6 TX6 6
theorem nmX6 : ∀ a, a < 6 → ∀ b, b < 6 → a ≠ b → (TX6 a).2.1 ≠ (TX6 b).2.1 := by decide +kernel
theorem tyX6_ok : ∀ k, k < 6 → parseFieldDescriptor (TX6 k).2.2.1 = some (tyX6 k) := by decide +kernel
abbrev cX6_init : ByteArray := prog_8_method_1_code
def yX6_init : MethodName := ⟨RX6, "<init>", "()V"⟩
abbrev cX6_add : ByteArray := prog_8_method_2_code
def yX6_add : MethodName := ⟨RX6, "add", "(C)Z"⟩
abbrev cX6_read : ByteArray := prog_8_method_3_code
def yX6_read : MethodName := ⟨RX6, "read", "(LLoneAdjective$Town;)I"⟩
abbrev cX6_skipBlanks : ByteArray := prog_8_method_4_code
def yX6_skipBlanks : MethodName := ⟨RX6, "skipBlanks", "()V"⟩
abbrev cX6_readClause : ByteArray := prog_8_method_5_code
def yX6_readClause : MethodName := ⟨RX6, "readClause", "(LLoneAdjective$Town;)V"⟩
abbrev cX6_readEnd : ByteArray := prog_8_method_6_code
def yX6_readEnd : MethodName := ⟨RX6, "readEnd", "(LLoneAdjective$Town;I)V"⟩
abbrev cX6_isFigure : ByteArray := prog_8_method_7_code
def yX6_isFigure : MethodName := ⟨RX6, "isFigure", "(C)Z"⟩
abbrev cX6_readNumber : ByteArray := prog_8_method_8_code
def yX6_readNumber : MethodName := ⟨RX6, "readNumber", "(LLoneAdjective$Town;II)V"⟩
abbrev cX6_lowest : ByteArray := prog_8_method_9_code
def yX6_lowest : MethodName := ⟨RX6, "lowest", "(II)I"⟩
abbrev cX6_highest : ByteArray := prog_8_method_10_code
def yX6_highest : MethodName := ⟨RX6, "highest", "(LLoneAdjective$Town;II)I"⟩
abbrev cX6_again : ByteArray := prog_8_method_11_code
def yX6_again : MethodName := ⟨RX6, "again", "(LLoneAdjective$Town;III)Z"⟩
abbrev cX6_take : ByteArray := prog_8_method_12_code
def yX6_take : MethodName := ⟨RX6, "take", "(LLoneAdjective$Town;I)V"⟩
abbrev cX6_takeDeed : ByteArray := prog_8_method_13_code
def yX6_takeDeed : MethodName := ⟨RX6, "takeDeed", "(LLoneAdjective$Town;)V"⟩
def RX7 : String := "LoneAdjective$Rounds"
def TX7 : u_T := fun k => match k with
  | _ => ("", "", "", false)
def tyX7 : Nat → FieldType := fun k => match k with
  | _ => .int
abbrev wsX70 : List Cond := u_ws RX7 TX7 0
theorem nmX7 : ∀ a, a < 0 → ∀ b, b < 0 → a ≠ b → (TX7 a).2.1 ≠ (TX7 b).2.1 := by decide +kernel
theorem tyX7_ok : ∀ k, k < 0 → parseFieldDescriptor (TX7 k).2.2.1 = some (tyX7 k) := by decide +kernel
abbrev cX7_init : ByteArray := prog_9_method_1_code
def yX7_init : MethodName := ⟨RX7, "<init>", "()V"⟩
abbrev cX7_tryAll : ByteArray := prog_9_method_3_code
def yX7_tryAll : MethodName := ⟨RX7, "tryAll", "(LLoneAdjective$Town;III)V"⟩
abbrev cX7_goOn : ByteArray := prog_9_method_4_code
def yX7_goOn : MethodName := ⟨RX7, "goOn", "(LLoneAdjective$Rounds;LLoneAdjective$Town;IIII)V"⟩
abbrev cX7_setOfRow : ByteArray := prog_9_method_5_code
def yX7_setOfRow : MethodName := ⟨RX7, "setOfRow", "(I)I"⟩
def RX8 : String := "LoneAdjective$State"
def TX8 : u_T := fun k => match k with
  | 0 => ("LoneAdjective$State", "minutes", "I", false)
  | 1 => ("LoneAdjective$State", "square", "I", false)
  | 2 => ("LoneAdjective$State", "holder", "I", false)
  | 3 => ("LoneAdjective$State", "seed", "I", false)
  | 4 => ("LoneAdjective$State", "kept", "Z", false)
  | _ => ("LoneAdjective$State", "doneAt", "[I", true)
def tyX8 : Nat → FieldType := fun k => match k with
  | 0 => .int
  | 1 => .int
  | 2 => .int
  | 3 => .int
  | 4 => .boolean
  | _ => .array .int
abbrev wsX80 : List Cond := u_ws RX8 TX8 6
theorem nmX8 : ∀ a, a < 6 → ∀ b, b < 6 → a ≠ b → (TX8 a).2.1 ≠ (TX8 b).2.1 := by decide +kernel
theorem tyX8_ok : ∀ k, k < 6 → parseFieldDescriptor (TX8 k).2.2.1 = some (tyX8 k) := by decide +kernel
abbrev cX8_init : ByteArray := prog_10_method_1_code
def yX8_init : MethodName := ⟨RX8, "<init>", "()V"⟩
abbrev cX8_beginIn : ByteArray := prog_10_method_2_code
def yX8_beginIn : MethodName := ⟨RX8, "beginIn", "(LLoneAdjective$Town;)V"⟩
abbrev cX8_become : ByteArray := prog_10_method_3_code
def yX8_become : MethodName := ⟨RX8, "become", "(LLoneAdjective$State;)V"⟩
abbrev cX8_standOf : ByteArray := prog_10_method_4_code
def yX8_standOf : MethodName := ⟨RX8, "standOf", "(LLoneAdjective$Town;I)I"⟩
abbrev cX8_reaches : ByteArray := prog_10_method_5_code
def yX8_reaches : MethodName := ⟨RX8, "reaches", "(LLoneAdjective$Town;I)Z"⟩
abbrev cX8_hand : ByteArray := prog_10_method_6_code
def yX8_hand : MethodName := ⟨RX8, "hand", "(LLoneAdjective$Town;I)V"⟩
abbrev cX8_finish : ByteArray := prog_10_method_7_code
def yX8_finish : MethodName := ⟨RX8, "finish", "(LLoneAdjective$Town;I)V"⟩
abbrev cX8_draw : ByteArray := prog_10_method_8_code
def yX8_draw : MethodName := ⟨RX8, "draw", "(I)I"⟩
def RX9 : String := "LoneAdjective$Town"
def TX9 : u_T := fun k => match k with
  | 0 => ("LoneAdjective$Town", "squares", "I", false)
  | 1 => ("LoneAdjective$Town", "start", "I", false)
  | 2 => ("LoneAdjective$Town", "people", "I", false)
  | 3 => ("LoneAdjective$Town", "deeds", "I", false)
  | 4 => ("LoneAdjective$Town", "words", "I", false)
  | 5 => ("LoneAdjective$Town", "way", "[[I", true)
  | 6 => ("LoneAdjective$Town", "apart", "[[I", true)
  | 7 => ("LoneAdjective$Town", "home", "[I", true)
  | 8 => ("LoneAdjective$Town", "bid", "[I", true)
  | 9 => ("LoneAdjective$Town", "doer", "[I", true)
  | 10 => ("LoneAdjective$Town", "lasts", "[I", true)
  | 11 => ("LoneAdjective$Town", "due", "[I", true)
  | 12 => ("LoneAdjective$Town", "worth", "[I", true)
  | 13 => ("LoneAdjective$Town", "price", "[I", true)
  | 14 => ("LoneAdjective$Town", "odds", "[[I", true)
  | _ => ("LoneAdjective$Town", "allowed", "[I", true)
def tyX9 : Nat → FieldType := fun k => match k with
  | 0 => .int
  | 1 => .int
  | 2 => .int
  | 3 => .int
  | 4 => .int
  | 5 => .array (.array .int)
  | 6 => .array (.array .int)
  | 7 => .array .int
  | 8 => .array .int
  | 9 => .array .int
  | 10 => .array .int
  | 11 => .array .int
  | 12 => .array .int
  | 13 => .array .int
  | 14 => .array (.array .int)
  | _ => .array .int
abbrev wsX90 : List Cond := u_ws RX9 TX9 16
theorem nmX9 : ∀ a, a < 16 → ∀ b, b < 16 → a ≠ b → (TX9 a).2.1 ≠ (TX9 b).2.1 := by decide +kernel
theorem tyX9_ok : ∀ k, k < 16 → parseFieldDescriptor (TX9 k).2.2.1 = some (tyX9 k) := by decide +kernel
abbrev cX9_init : ByteArray := prog_11_method_1_code
def yX9_init : MethodName := ⟨RX9, "<init>", "()V"⟩
abbrev cX9_clear : ByteArray := prog_11_method_2_code
def yX9_clear : MethodName := ⟨RX9, "clear", "()V"⟩
abbrev cX9_isSquare : ByteArray := prog_11_method_3_code
def yX9_isSquare : MethodName := ⟨RX9, "isSquare", "(I)Z"⟩
abbrev cX9_isPerson : ByteArray := prog_11_method_4_code
def yX9_isPerson : MethodName := ⟨RX9, "isPerson", "(I)Z"⟩
abbrev cX9_areTwoPeople : ByteArray := prog_11_method_5_code
def yX9_areTwoPeople : MethodName := ⟨RX9, "areTwoPeople", "(II)Z"⟩
abbrev cX9_isDeed : ByteArray := prog_11_method_6_code
def yX9_isDeed : MethodName := ⟨RX9, "isDeed", "(I)Z"⟩
abbrev cX9_isWord : ByteArray := prog_11_method_7_code
def yX9_isWord : MethodName := ⟨RX9, "isWord", "(I)Z"⟩
abbrev cX9_measure : ByteArray := prog_11_method_8_code
def yX9_measure : MethodName := ⟨RX9, "measure", "()V"⟩
abbrev cX9_shorten : ByteArray := prog_11_method_9_code
def yX9_shorten : MethodName := ⟨RX9, "shorten", "(III)V"⟩
abbrev cX9_between : ByteArray := prog_11_method_10_code
def yX9_between : MethodName := ⟨RX9, "between", "(II)I"⟩
abbrev cX9_squareOf : ByteArray := prog_11_method_11_code
def yX9_squareOf : MethodName := ⟨RX9, "squareOf", "(I)I"⟩
abbrev cX9_worthOf : ByteArray := prog_11_method_12_code
def yX9_worthOf : MethodName := ⟨RX9, "worthOf", "(I)I"⟩
abbrev cX9_costOf : ByteArray := prog_11_method_13_code
def yX9_costOf : MethodName := ⟨RX9, "costOf", "(I)I"⟩
abbrev cX9_deedsOf : ByteArray := prog_11_method_14_code
def yX9_deedsOf : MethodName := ⟨RX9, "deedsOf", "(I)I"⟩
abbrev cX9_endOf : ByteArray := prog_11_method_15_code
def yX9_endOf : MethodName := ⟨RX9, "endOf", "(III)I"⟩
def RX10 : String := "LoneAdjective"
def TX10 : u_T := fun k => match k with
  | 0 => ("LoneAdjective", "reader", "LLoneAdjective$Reader;", true)
  | 1 => ("LoneAdjective", "faultAt", "I", false)
  | 2 => ("LoneAdjective", "current", "LLoneAdjective$Town;", false)
  | 3 => ("LoneAdjective", "draft", "LLoneAdjective$Town;", false)
  | 4 => ("LoneAdjective", "now", "LLoneAdjective$State;", true)
  | 5 => ("LoneAdjective", "firstImage", "LLoneAdjective$State;", true)
  | 6 => ("LoneAdjective", "secondImage", "LLoneAdjective$State;", true)
  | 7 => ("LoneAdjective", "diary", "LLoneAdjective$Diary;", true)
  | 8 => ("LoneAdjective", "bestRound", "LLoneAdjective$BestRound;", true)
  | 9 => ("LoneAdjective", "ownSets", "LLoneAdjective$DoneSets;", true)
  | 10 => ("LoneAdjective", "otherSets", "LLoneAdjective$DoneSets;", true)
  | 11 => ("LoneAdjective", "fitting", "LLoneAdjective$Days;", true)
  | 12 => ("LoneAdjective", "chains", "LLoneAdjective$Chains;", true)
  | 13 => ("LoneAdjective", "chase", "LLoneAdjective$Chase;", true)
  | 14 => ("LoneAdjective", "tally", "[I", true)
  | _ => ("LoneAdjective", "paid", "[I", true)
def tyX10 : Nat → FieldType := fun k => match k with
  | 0 => .object "LoneAdjective$Reader"
  | 1 => .int
  | 2 => .object "LoneAdjective$Town"
  | 3 => .object "LoneAdjective$Town"
  | 4 => .object "LoneAdjective$State"
  | 5 => .object "LoneAdjective$State"
  | 6 => .object "LoneAdjective$State"
  | 7 => .object "LoneAdjective$Diary"
  | 8 => .object "LoneAdjective$BestRound"
  | 9 => .object "LoneAdjective$DoneSets"
  | 10 => .object "LoneAdjective$DoneSets"
  | 11 => .object "LoneAdjective$Days"
  | 12 => .object "LoneAdjective$Chains"
  | 13 => .object "LoneAdjective$Chase"
  | 14 => .array .int
  | _ => .array .int
abbrev wsX100 : List Cond := u_ws RX10 TX10 16
theorem nmX10 : ∀ a, a < 16 → ∀ b, b < 16 → a ≠ b → (TX10 a).2.1 ≠ (TX10 b).2.1 := by decide +kernel
theorem tyX10_ok : ∀ k, k < 16 → parseFieldDescriptor (TX10 k).2.2.1 = some (tyX10 k) := by decide +kernel
abbrev cX10_init : ByteArray := prog_1_method_1_code
def yX10_init : MethodName := ⟨RX10, "<init>", "()V"⟩
abbrev cX10_feed : ByteArray := prog_1_method_2_code
def yX10_feed : MethodName := ⟨RX10, "feed", "(I)I"⟩
abbrev cX10_town : ByteArray := prog_1_method_3_code
def yX10_town : MethodName := ⟨RX10, "town", "()I"⟩
abbrev cX10_fault : ByteArray := prog_1_method_4_code
def yX10_fault : MethodName := ⟨RX10, "fault", "()I"⟩
abbrev cX10_told : ByteArray := prog_1_method_5_code
def yX10_told : MethodName := ⟨RX10, "told", "(I)I"⟩
abbrev cX10_far : ByteArray := prog_1_method_6_code
def yX10_far : MethodName := ⟨RX10, "far", "(II)I"⟩
abbrev cX10_person : ByteArray := prog_1_method_7_code
def yX10_person : MethodName := ⟨RX10, "person", "(II)I"⟩
abbrev cX10_deed : ByteArray := prog_1_method_8_code
def yX10_deed : MethodName := ⟨RX10, "deed", "(II)I"⟩
abbrev cX10_trust : ByteArray := prog_1_method_9_code
def yX10_trust : MethodName := ⟨RX10, "trust", "(II)I"⟩
abbrev cX10_lets : ByteArray := prog_1_method_10_code
def yX10_lets : MethodName := ⟨RX10, "lets", "(I)I"⟩
abbrev cX10_lend : ByteArray := prog_1_method_11_code
def yX10_lend : MethodName := ⟨RX10, "lend", "(I)I"⟩
abbrev cX10_act : ByteArray := prog_1_method_12_code
def yX10_act : MethodName := ⟨RX10, "act", "(I)I"⟩
abbrev cX10_drop : ByteArray := prog_1_method_13_code
def yX10_drop : MethodName := ⟨RX10, "drop", "()I"⟩
abbrev cX10_pass : ByteArray := prog_1_method_14_code
def yX10_pass : MethodName := ⟨RX10, "pass", "(I)I"⟩
abbrev cX10_drift : ByteArray := prog_1_method_15_code
def yX10_drift : MethodName := ⟨RX10, "drift", "(I)I"⟩
abbrev cX10_round : ByteArray := prog_1_method_16_code
def yX10_round : MethodName := ⟨RX10, "round", "(I)I"⟩
abbrev cX10_two : ByteArray := prog_1_method_17_code
def yX10_two : MethodName := ⟨RX10, "two", "(I)I"⟩
abbrev cX10_reword : ByteArray := prog_1_method_18_code
def yX10_reword : MethodName := ⟨RX10, "reword", "(I)I"⟩
abbrev cX10_chain : ByteArray := prog_1_method_19_code
def yX10_chain : MethodName := ⟨RX10, "chain", "(III)I"⟩
abbrev cX10_lost : ByteArray := prog_1_method_20_code
def yX10_lost : MethodName := ⟨RX10, "lost", "(I)I"⟩
abbrev cX10_sold : ByteArray := prog_1_method_21_code
def yX10_sold : MethodName := ⟨RX10, "sold", "(III)I"⟩
abbrev cX10_thief : ByteArray := prog_1_method_22_code
def yX10_thief : MethodName := ⟨RX10, "thief", "(IIII)I"⟩
abbrev cX10_vote : ByteArray := prog_1_method_23_code
def yX10_vote : MethodName := ⟨RX10, "vote", "(I)I"⟩
abbrev cX10_bestWord : ByteArray := prog_1_method_24_code
def yX10_bestWord : MethodName := ⟨RX10, "bestWord", "()I"⟩
abbrev cX10_tell : ByteArray := prog_1_method_25_code
def yX10_tell : MethodName := ⟨RX10, "tell", "(II)I"⟩
abbrev cX10_days : ByteArray := prog_1_method_26_code
def yX10_days : MethodName := ⟨RX10, "days", "()I"⟩
abbrev cX10_where : ByteArray := prog_1_method_27_code
def yX10_where : MethodName := ⟨RX10, "where", "(I)I"⟩
abbrev cX10_write : ByteArray := prog_1_method_28_code
def yX10_write : MethodName := ⟨RX10, "write", "(II)I"⟩
abbrev cX10_judge : ByteArray := prog_1_method_29_code
def yX10_judge : MethodName := ⟨RX10, "judge", "()I"⟩
abbrev cX10_tear : ByteArray := prog_1_method_30_code
def yX10_tear : MethodName := ⟨RX10, "tear", "()I"⟩
abbrev cX10_seed : ByteArray := prog_1_method_31_code
def yX10_seed : MethodName := ⟨RX10, "seed", "(I)I"⟩
abbrev cX10_keep : ByteArray := prog_1_method_32_code
def yX10_keep : MethodName := ⟨RX10, "keep", "(I)I"⟩
abbrev cX10_goBack : ByteArray := prog_1_method_33_code
def yX10_goBack : MethodName := ⟨RX10, "goBack", "(I)I"⟩
abbrev cX10_deedsThatAre : ByteArray := prog_1_method_34_code
def yX10_deedsThatAre : MethodName := ⟨RX10, "deedsThatAre", "(I)I"⟩
abbrev cX10_driftOnce : ByteArray := prog_1_method_35_code
def yX10_driftOnce : MethodName := ⟨RX10, "driftOnce", "()V"⟩
abbrev cX10_firstOpenOf : ByteArray := prog_1_method_36_code
def yX10_firstOpenOf : MethodName := ⟨RX10, "firstOpenOf", "(I)I"⟩
abbrev cX10_mostBeside : ByteArray := prog_1_method_37_code
def yX10_mostBeside : MethodName := ⟨RX10, "mostBeside", "(II)I"⟩
abbrev cX10_sellMinute : ByteArray := prog_1_method_38_code
def yX10_sellMinute : MethodName := ⟨RX10, "sellMinute", "()V"⟩
abbrev cX10_bidOf : ByteArray := prog_1_method_39_code
def yX10_bidOf : MethodName := ⟨RX10, "bidOf", "(I)I"⟩
abbrev cX10_highestBidder : ByteArray := prog_1_method_40_code
def yX10_highestBidder : MethodName := ⟨RX10, "highestBidder", "(I)I"⟩
abbrev cX10_wordForMost : ByteArray := prog_1_method_41_code
def yX10_wordForMost : MethodName := ⟨RX10, "wordForMost", "(I)I"⟩
abbrev cX10_mostVoted : ByteArray := prog_1_method_42_code
def yX10_mostVoted : MethodName := ⟨RX10, "mostVoted", "()I"⟩
def RX11 : String := "LoneAdjectiveModel"
def TX11 : u_T := fun k => match k with
  | 0 => ("LoneAdjectiveModel", "text", "[I", true)
  | 1 => ("LoneAdjectiveModel", "letters", "I", false)
  | 2 => ("LoneAdjectiveModel", "faulty", "I", false)
  | 3 => ("LoneAdjectiveModel", "squares", "I", false)
  | 4 => ("LoneAdjectiveModel", "firstAt", "I", false)
  | 5 => ("LoneAdjectiveModel", "fars", "[I", true)
  | 6 => ("LoneAdjectiveModel", "ways", "[Z", true)
  | 7 => ("LoneAdjectiveModel", "homes", "[I", true)
  | 8 => ("LoneAdjectiveModel", "bids", "[I", true)
  | 9 => ("LoneAdjectiveModel", "people", "I", false)
  | 10 => ("LoneAdjectiveModel", "told", "[I", true)
  | 11 => ("LoneAdjectiveModel", "deeds", "I", false)
  | 12 => ("LoneAdjectiveModel", "trusts", "[I", true)
  | 13 => ("LoneAdjectiveModel", "lets", "[I", true)
  | 14 => ("LoneAdjectiveModel", "others", "I", false)
  | 15 => ("LoneAdjectiveModel", "st", "[I", true)
  | 16 => ("LoneAdjectiveModel", "tolds", "[I", true)
  | 17 => ("LoneAdjectiveModel", "toldMany", "I", false)
  | 18 => ("LoneAdjectiveModel", "entries", "[I", true)
  | 19 => ("LoneAdjectiveModel", "entryMany", "I", false)
  | 20 => ("LoneAdjectiveModel", "place", "I", false)
  | 21 => ("LoneAdjectiveModel", "token", "I", false)
  | 22 => ("LoneAdjectiveModel", "value", "I", false)
  | 23 => ("LoneAdjectiveModel", "begins", "I", false)
  | 24 => ("LoneAdjectiveModel", "wrong", "I", false)
  | 25 => ("LoneAdjectiveModel", "readSquares", "I", false)
  | 26 => ("LoneAdjectiveModel", "readAt", "I", false)
  | 27 => ("LoneAdjectiveModel", "readWays", "[I", true)
  | 28 => ("LoneAdjectiveModel", "readWayMany", "I", false)
  | 29 => ("LoneAdjectiveModel", "readPeople", "[I", true)
  | 30 => ("LoneAdjectiveModel", "readPersons", "I", false)
  | 31 => ("LoneAdjectiveModel", "readTold", "[I", true)
  | 32 => ("LoneAdjectiveModel", "readDeeds", "I", false)
  | 33 => ("LoneAdjectiveModel", "readTrusts", "[I", true)
  | 34 => ("LoneAdjectiveModel", "readTrustMany", "I", false)
  | 35 => ("LoneAdjectiveModel", "readLets", "[I", true)
  | 36 => ("LoneAdjectiveModel", "readOthers", "I", false)
  | 37 => ("LoneAdjectiveModel", "ends", "[I", true)
  | 38 => ("LoneAdjectiveModel", "row", "[I", true)
  | 39 => ("LoneAdjectiveModel", "bestRow", "[I", true)
  | 40 => ("LoneAdjectiveModel", "can", "[Z", true)
  | 41 => ("LoneAdjectiveModel", "bought", "[I", true)
  | 42 => ("LoneAdjectiveModel", "paid", "[I", true)
  | 43 => ("LoneAdjectiveModel", "escapes", "[I", true)
  | 44 => ("LoneAdjectiveModel", "catches", "[I", true)
  | 45 => ("LoneAdjectiveModel", "begun", "[I", true)
  | 46 => ("LoneAdjectiveModel", "doneAt", "[I", true)
  | 47 => ("LoneAdjectiveModel", "squaresAt", "I", false)
  | 48 => ("LoneAdjectiveModel", "isKept", "[Z", true)
  | _ => ("LoneAdjectiveModel", "kept", "[I", true)
def tyX11 : Nat → FieldType := fun k => match k with
  | 0 => .array .int
  | 1 => .int
  | 2 => .int
  | 3 => .int
  | 4 => .int
  | 5 => .array .int
  | 6 => .array .boolean
  | 7 => .array .int
  | 8 => .array .int
  | 9 => .int
  | 10 => .array .int
  | 11 => .int
  | 12 => .array .int
  | 13 => .array .int
  | 14 => .int
  | 15 => .array .int
  | 16 => .array .int
  | 17 => .int
  | 18 => .array .int
  | 19 => .int
  | 20 => .int
  | 21 => .int
  | 22 => .int
  | 23 => .int
  | 24 => .int
  | 25 => .int
  | 26 => .int
  | 27 => .array .int
  | 28 => .int
  | 29 => .array .int
  | 30 => .int
  | 31 => .array .int
  | 32 => .int
  | 33 => .array .int
  | 34 => .int
  | 35 => .array .int
  | 36 => .int
  | 37 => .array .int
  | 38 => .array .int
  | 39 => .array .int
  | 40 => .array .boolean
  | 41 => .array .int
  | 42 => .array .int
  | 43 => .array .int
  | 44 => .array .int
  | 45 => .array .int
  | 46 => .array .int
  | 47 => .int
  | 48 => .array .boolean
  | _ => .array .int
abbrev wsX110 : List Cond := u_ws RX11 TX11 50
theorem nmX11 : ∀ a, a < 50 → ∀ b, b < 50 → a ≠ b → (TX11 a).2.1 ≠ (TX11 b).2.1 := by decide +kernel
theorem tyX11_ok : ∀ k, k < 50 → parseFieldDescriptor (TX11 k).2.2.1 = some (tyX11 k) := by decide +kernel
abbrev cX11_init : ByteArray := prog_13_method_1_code
def yX11_init : MethodName := ⟨RX11, "<init>", "()V"⟩
abbrev cX11_in : ByteArray := prog_13_method_2_code
def yX11_in : MethodName := ⟨RX11, "in", "(JJJ)Z"⟩
abbrev cX11_has : ByteArray := prog_13_method_3_code
def yX11_has : MethodName := ⟨RX11, "has", "(II)Z"⟩
abbrev cX11_isSquare : ByteArray := prog_13_method_4_code
def yX11_isSquare : MethodName := ⟨RX11, "isSquare", "(I)Z"⟩
abbrev cX11_isPerson : ByteArray := prog_13_method_5_code
def yX11_isPerson : MethodName := ⟨RX11, "isPerson", "(I)Z"⟩
abbrev cX11_isDeed : ByteArray := prog_13_method_6_code
def yX11_isDeed : MethodName := ⟨RX11, "isDeed", "(I)Z"⟩
abbrev cX11_feed : ByteArray := prog_13_method_7_code
def yX11_feed : MethodName := ⟨RX11, "feed", "(I)I"⟩
abbrev cX11_nextToken : ByteArray := prog_13_method_8_code
def yX11_nextToken : MethodName := ⟨RX11, "nextToken", "()V"⟩
abbrev cX11_faults : ByteArray := prog_13_method_9_code
def yX11_faults : MethodName := ⟨RX11, "faults", "(I)Z"⟩
abbrev cX11_takes : ByteArray := prog_13_method_10_code
def yX11_takes : MethodName := ⟨RX11, "takes", "(I)Z"⟩
abbrev cX11_isNumber : ByteArray := prog_13_method_11_code
def yX11_isNumber : MethodName := ⟨RX11, "isNumber", "(II)Z"⟩
abbrev cX11_taken : ByteArray := prog_13_method_12_code
def yX11_taken : MethodName := ⟨RX11, "taken", "()I"⟩
abbrev cX11_readWay : ByteArray := prog_13_method_13_code
def yX11_readWay : MethodName := ⟨RX11, "readWay", "()Z"⟩
abbrev cX11_readPerson : ByteArray := prog_13_method_14_code
def yX11_readPerson : MethodName := ⟨RX11, "readPerson", "()Z"⟩
abbrev cX11_readDeed : ByteArray := prog_13_method_15_code
def yX11_readDeed : MethodName := ⟨RX11, "readDeed", "()Z"⟩
abbrev cX11_readReword : ByteArray := prog_13_method_16_code
def yX11_readReword : MethodName := ⟨RX11, "readReword", "()Z"⟩
abbrev cX11_readTrust : ByteArray := prog_13_method_17_code
def yX11_readTrust : MethodName := ⟨RX11, "readTrust", "()Z"⟩
abbrev cX11_readOther : ByteArray := prog_13_method_18_code
def yX11_readOther : MethodName := ⟨RX11, "readOther", "()Z"⟩
abbrev cX11_readTown : ByteArray := prog_13_method_19_code
def yX11_readTown : MethodName := ⟨RX11, "readTown", "()Z"⟩
abbrev cX11_findFars : ByteArray := prog_13_method_20_code
def yX11_findFars : MethodName := ⟨RX11, "findFars", "()V"⟩
abbrev cX11_town : ByteArray := prog_13_method_21_code
def yX11_town : MethodName := ⟨RX11, "town", "()I"⟩
abbrev cX11_fault : ByteArray := prog_13_method_22_code
def yX11_fault : MethodName := ⟨RX11, "fault", "()I"⟩
abbrev cX11_howOf : ByteArray := prog_13_method_23_code
def yX11_howOf : MethodName := ⟨RX11, "howOf", "(I)I"⟩
abbrev cX11_deedsThatAre : ByteArray := prog_13_method_24_code
def yX11_deedsThatAre : MethodName := ⟨RX11, "deedsThatAre", "(I)I"⟩
abbrev cX11_worthOf : ByteArray := prog_13_method_25_code
def yX11_worthOf : MethodName := ⟨RX11, "worthOf", "(I)I"⟩
abbrev cX11_told : ByteArray := prog_13_method_26_code
def yX11_told : MethodName := ⟨RX11, "told", "(I)I"⟩
abbrev cX11_farOf : ByteArray := prog_13_method_27_code
def yX11_farOf : MethodName := ⟨RX11, "farOf", "(II)I"⟩
abbrev cX11_far : ByteArray := prog_13_method_28_code
def yX11_far : MethodName := ⟨RX11, "far", "(II)I"⟩
abbrev cX11_person : ByteArray := prog_13_method_29_code
def yX11_person : MethodName := ⟨RX11, "person", "(II)I"⟩
abbrev cX11_deed : ByteArray := prog_13_method_30_code
def yX11_deed : MethodName := ⟨RX11, "deed", "(II)I"⟩
abbrev cX11_areTwo : ByteArray := prog_13_method_31_code
def yX11_areTwo : MethodName := ⟨RX11, "areTwo", "(II)Z"⟩
abbrev cX11_trust : ByteArray := prog_13_method_32_code
def yX11_trust : MethodName := ⟨RX11, "trust", "(II)I"⟩
abbrev cX11_lets : ByteArray := prog_13_method_33_code
def yX11_lets : MethodName := ⟨RX11, "lets", "(I)I"⟩
abbrev cX11_placeOf : ByteArray := prog_13_method_34_code
def yX11_placeOf : MethodName := ⟨RX11, "placeOf", "(I)I"⟩
abbrev cX11_lend : ByteArray := prog_13_method_35_code
def yX11_lend : MethodName := ⟨RX11, "lend", "(I)I"⟩
abbrev cX11_walkTo : ByteArray := prog_13_method_36_code
def yX11_walkTo : MethodName := ⟨RX11, "walkTo", "(II)V"⟩
abbrev cX11_doNow : ByteArray := prog_13_method_37_code
def yX11_doNow : MethodName := ⟨RX11, "doNow", "(I)V"⟩
abbrev cX11_act : ByteArray := prog_13_method_38_code
def yX11_act : MethodName := ⟨RX11, "act", "(I)I"⟩
abbrev cX11_drop : ByteArray := prog_13_method_39_code
def yX11_drop : MethodName := ⟨RX11, "drop", "()I"⟩
abbrev cX11_pass : ByteArray := prog_13_method_40_code
def yX11_pass : MethodName := ⟨RX11, "pass", "(I)I"⟩
abbrev cX11_draw : ByteArray := prog_13_method_41_code
def yX11_draw : MethodName := ⟨RX11, "draw", "(I)I"⟩
abbrev cX11_drift : ByteArray := prog_13_method_42_code
def yX11_drift : MethodName := ⟨RX11, "drift", "(I)I"⟩
abbrev cX11_endBehind : ByteArray := prog_13_method_43_code
def yX11_endBehind : MethodName := ⟨RX11, "endBehind", "(III)I"⟩
abbrev cX11_findEnds : ByteArray := prog_13_method_44_code
def yX11_findEnds : MethodName := ⟨RX11, "findEnds", "(III)V"⟩
abbrev cX11_endOf : ByteArray := prog_13_method_45_code
def yX11_endOf : MethodName := ⟨RX11, "endOf", "(II)I"⟩
abbrev cX11_isRow : ByteArray := prog_13_method_46_code
def yX11_isRow : MethodName := ⟨RX11, "isRow", "(III)Z"⟩
abbrev cX11_firstRow : ByteArray := prog_13_method_47_code
def yX11_firstRow : MethodName := ⟨RX11, "firstRow", "(III)I"⟩
abbrev cX11_digits : ByteArray := prog_13_method_48_code
def yX11_digits : MethodName := ⟨RX11, "digits", "(II)I"⟩
abbrev cX11_isAhead : ByteArray := prog_13_method_49_code
def yX11_isAhead : MethodName := ⟨RX11, "isAhead", "(II)Z"⟩
abbrev cX11_round : ByteArray := prog_13_method_50_code
def yX11_round : MethodName := ⟨RX11, "round", "(I)I"⟩
abbrev cX11_two : ByteArray := prog_13_method_51_code
def yX11_two : MethodName := ⟨RX11, "two", "(I)I"⟩
abbrev cX11_costOf : ByteArray := prog_13_method_52_code
def yX11_costOf : MethodName := ⟨RX11, "costOf", "(I)I"⟩
abbrev cX11_reword : ByteArray := prog_13_method_53_code
def yX11_reword : MethodName := ⟨RX11, "reword", "(I)I"⟩
abbrev cX11_chain : ByteArray := prog_13_method_54_code
def yX11_chain : MethodName := ⟨RX11, "chain", "(III)I"⟩
abbrev cX11_oddsOf : ByteArray := prog_13_method_55_code
def yX11_oddsOf : MethodName := ⟨RX11, "oddsOf", "(IIII)I"⟩
abbrev cX11_lost : ByteArray := prog_13_method_56_code
def yX11_lost : MethodName := ⟨RX11, "lost", "(I)I"⟩
abbrev cX11_bidOf : ByteArray := prog_13_method_57_code
def yX11_bidOf : MethodName := ⟨RX11, "bidOf", "(I)I"⟩
abbrev cX11_sold : ByteArray := prog_13_method_58_code
def yX11_sold : MethodName := ⟨RX11, "sold", "(III)I"⟩
abbrev cX11_leads : ByteArray := prog_13_method_59_code
def yX11_leads : MethodName := ⟨RX11, "leads", "(II)Z"⟩
abbrev cX11_escapesFrom : ByteArray := prog_13_method_60_code
def yX11_escapesFrom : MethodName := ⟨RX11, "escapesFrom", "(III)I"⟩
abbrev cX11_catchesFrom : ByteArray := prog_13_method_61_code
def yX11_catchesFrom : MethodName := ⟨RX11, "catchesFrom", "(III)I"⟩
abbrev cX11_findThief : ByteArray := prog_13_method_62_code
def yX11_findThief : MethodName := ⟨RX11, "findThief", "(I)V"⟩
abbrev cX11_thief : ByteArray := prog_13_method_63_code
def yX11_thief : MethodName := ⟨RX11, "thief", "(IIII)I"⟩
abbrev cX11_deedsOf : ByteArray := prog_13_method_64_code
def yX11_deedsOf : MethodName := ⟨RX11, "deedsOf", "(I)I"⟩
abbrev cX11_voteOf : ByteArray := prog_13_method_65_code
def yX11_voteOf : MethodName := ⟨RX11, "voteOf", "(I)I"⟩
abbrev cX11_votesFor : ByteArray := prog_13_method_66_code
def yX11_votesFor : MethodName := ⟨RX11, "votesFor", "(I)I"⟩
abbrev cX11_vote : ByteArray := prog_13_method_67_code
def yX11_vote : MethodName := ⟨RX11, "vote", "(I)I"⟩
abbrev cX11_bestWord : ByteArray := prog_13_method_68_code
def yX11_bestWord : MethodName := ⟨RX11, "bestWord", "()I"⟩
abbrev cX11_tell : ByteArray := prog_13_method_69_code
def yX11_tell : MethodName := ⟨RX11, "tell", "(II)I"⟩
abbrev cX11_isDay : ByteArray := prog_13_method_70_code
def yX11_isDay : MethodName := ⟨RX11, "isDay", "(I)Z"⟩
abbrev cX11_findDays : ByteArray := prog_13_method_71_code
def yX11_findDays : MethodName := ⟨RX11, "findDays", "(I)I"⟩
abbrev cX11_days : ByteArray := prog_13_method_72_code
def yX11_days : MethodName := ⟨RX11, "days", "()I"⟩
abbrev cX11_where : ByteArray := prog_13_method_73_code
def yX11_where : MethodName := ⟨RX11, "where", "(I)I"⟩
abbrev cX11_write : ByteArray := prog_13_method_74_code
def yX11_write : MethodName := ⟨RX11, "write", "(II)I"⟩
abbrev cX11_judge : ByteArray := prog_13_method_75_code
def yX11_judge : MethodName := ⟨RX11, "judge", "()I"⟩
abbrev cX11_tear : ByteArray := prog_13_method_76_code
def yX11_tear : MethodName := ⟨RX11, "tear", "()I"⟩
abbrev cX11_seed : ByteArray := prog_13_method_77_code
def yX11_seed : MethodName := ⟨RX11, "seed", "(I)I"⟩
abbrev cX11_keep : ByteArray := prog_13_method_78_code
def yX11_keep : MethodName := ⟨RX11, "keep", "(I)I"⟩
abbrev cX11_goBack : ByteArray := prog_13_method_79_code
def yX11_goBack : MethodName := ⟨RX11, "goBack", "(I)I"⟩
def RJx145de : String := "java/io/Serializable"
def TJx145de : u_T := fun k => match k with
  | _ => ("", "", "", false)
def tyJx145de : Nat → FieldType := fun k => match k with
  | _ => .int
abbrev wsJx145de0 : List Cond := u_ws RJx145de TJx145de 0
theorem nmJx145de : ∀ a, a < 0 → ∀ b, b < 0 → a ≠ b → (TJx145de a).2.1 ≠ (TJx145de b).2.1 := by decide +kernel
theorem tyJx145de_ok : ∀ k, k < 0 → parseFieldDescriptor (TJx145de k).2.2.1 = some (tyJx145de k) := by decide +kernel
def RJx9f9b0 : String := "java/lang/CharSequence"
def TJx9f9b0 : u_T := fun k => match k with
  | _ => ("", "", "", false)
def tyJx9f9b0 : Nat → FieldType := fun k => match k with
  | _ => .int
abbrev wsJx9f9b00 : List Cond := u_ws RJx9f9b0 TJx9f9b0 0
theorem nmJx9f9b0 : ∀ a, a < 0 → ∀ b, b < 0 → a ≠ b → (TJx9f9b0 a).2.1 ≠ (TJx9f9b0 b).2.1 := by decide +kernel
theorem tyJx9f9b0_ok : ∀ k, k < 0 → parseFieldDescriptor (TJx9f9b0 k).2.2.1 = some (tyJx9f9b0 k) := by decide +kernel
def RJ11 : String := "java/lang/Character"
def TJ11 : u_T := fun k => match k with
  | _ => ("", "", "", false)
def tyJ11 : Nat → FieldType := fun k => match k with
  | _ => .int
abbrev wsJ110 : List Cond := u_ws RJ11 TJ11 0
theorem nmJ11 : ∀ a, a < 0 → ∀ b, b < 0 → a ≠ b → (TJ11 a).2.1 ≠ (TJ11 b).2.1 := by decide +kernel
theorem tyJ11_ok : ∀ k, k < 0 → parseFieldDescriptor (TJ11 k).2.2.1 = some (tyJ11 k) := by decide +kernel
abbrev cJ11_isValidCodePoint_9a6ad : ByteArray := prog_14_method_11_code
def yJ11_isValidCodePoint_9a6ad : MethodName := ⟨RJ11, "isValidCodePoint", "(I)Z"⟩
abbrev cJ11_highSurrogate_5068e : ByteArray := prog_14_method_28_code
def yJ11_highSurrogate_5068e : MethodName := ⟨RJ11, "highSurrogate", "(I)C"⟩
abbrev cJ11_lowSurrogate_5068e : ByteArray := prog_14_method_29_code
def yJ11_lowSurrogate_5068e : MethodName := ⟨RJ11, "lowSurrogate", "(I)C"⟩
def RJxb160c : String := "java/lang/Comparable"
def TJxb160c : u_T := fun k => match k with
  | _ => ("", "", "", false)
def tyJxb160c : Nat → FieldType := fun k => match k with
  | _ => .int
abbrev wsJxb160c0 : List Cond := u_ws RJxb160c TJxb160c 0
theorem nmJxb160c : ∀ a, a < 0 → ∀ b, b < 0 → a ≠ b → (TJxb160c a).2.1 ≠ (TJxb160c b).2.1 := by decide +kernel
theorem tyJxb160c_ok : ∀ k, k < 0 → parseFieldDescriptor (TJxb160c k).2.2.1 = some (tyJxb160c k) := by decide +kernel
def RJ9 : String := "java/lang/Math"
def TJ9 : u_T := fun k => match k with
  | _ => ("", "", "", false)
def tyJ9 : Nat → FieldType := fun k => match k with
  | _ => .int
abbrev wsJ90 : List Cond := u_ws RJ9 TJ9 0
theorem nmJ9 : ∀ a, a < 0 → ∀ b, b < 0 → a ≠ b → (TJ9 a).2.1 ≠ (TJ9 b).2.1 := by decide +kernel
theorem tyJ9_ok : ∀ k, k < 0 → parseFieldDescriptor (TJ9 k).2.2.1 = some (tyJ9 k) := by decide +kernel
abbrev cJ9_max_7cf53 : ByteArray := prog_15_method_65_code
def yJ9_max_7cf53 : MethodName := ⟨RJ9, "max", "(II)I"⟩
abbrev cJ9_min_7cf53 : ByteArray := prog_15_method_69_code
def yJ9_min_7cf53 : MethodName := ⟨RJ9, "min", "(II)I"⟩
def RJ0 : String := "java/lang/String"
def TJ0 : u_T := fun k => match k with
  | _ => ("", "", "", false)
def tyJ0 : Nat → FieldType := fun k => match k with
  | _ => .int
abbrev wsJ00 : List Cond := u_ws RJ0 TJ0 0
theorem nmJ0 : ∀ a, a < 0 → ∀ b, b < 0 → a ≠ b → (TJ0 a).2.1 ≠ (TJ0 b).2.1 := by decide +kernel
theorem tyJ0_ok : ∀ k, k < 0 → parseFieldDescriptor (TJ0 k).2.2.1 = some (tyJ0 k) := by decide +kernel
abbrev cJ0_length_8abf5 : ByteArray := prog_16_method_54_code
def yJ0_length_8abf5 : MethodName := ⟨RJ0, "length", "()I"⟩
abbrev cJ0_indexOf_0f7a4 : ByteArray := prog_16_method_79_code
def yJ0_indexOf_0f7a4 : MethodName := ⟨RJ0, "indexOf", "(I)I"⟩
abbrev cJ0_indexOf_7cf53 : ByteArray := prog_16_method_80_code
def yJ0_indexOf_7cf53 : MethodName := ⟨RJ0, "indexOf", "(II)I"⟩
abbrev cJ0_coder_7d493 : ByteArray := prog_16_method_152_code
def yJ0_coder_7d493 : MethodName := ⟨RJ0, "coder", "()B"⟩
abbrev cJ0_isLatin1_aae02 : ByteArray := prog_16_method_154_code
def yJ0_isLatin1_aae02 : MethodName := ⟨RJ0, "isLatin1", "()Z"⟩
abbrev cJ0_checkBoundsBeginEnd_23922 : ByteArray := prog_16_method_158_code
def yJ0_checkBoundsBeginEnd_23922 : MethodName := ⟨RJ0, "checkBoundsBeginEnd", "(III)V"⟩
def RJ1 : String := "java/lang/StringLatin1"
def TJ1 : u_T := fun k => match k with
  | _ => ("", "", "", false)
def tyJ1 : Nat → FieldType := fun k => match k with
  | _ => .int
abbrev wsJ10 : List Cond := u_ws RJ1 TJ1 0
theorem nmJ1 : ∀ a, a < 0 → ∀ b, b < 0 → a ≠ b → (TJ1 a).2.1 ≠ (TJ1 b).2.1 := by decide +kernel
theorem tyJ1_ok : ∀ k, k < 0 → parseFieldDescriptor (TJ1 k).2.2.1 = some (tyJ1 k) := by decide +kernel
abbrev cJ1_canEncode_9a6ad : ByteArray := prog_17_method_4_code
def yJ1_canEncode_9a6ad : MethodName := ⟨RJ1, "canEncode", "(I)Z"⟩
abbrev cJ1_indexOf_4cfef : ByteArray := prog_17_method_22_code
def yJ1_indexOf_4cfef : MethodName := ⟨RJ1, "indexOf", "([BIII)I"⟩
abbrev cJ1_indexOfChar_4cfef : ByteArray := prog_17_method_23_code
def yJ1_indexOfChar_4cfef : MethodName := ⟨RJ1, "indexOfChar", "([BIII)I"⟩
def RJ2 : String := "java/lang/StringUTF16"
def TJ2 : u_T := fun k => match k with
  | _ => ("", "", "", false)
def tyJ2 : Nat → FieldType := fun k => match k with
  | _ => .int
abbrev wsJ20 : List Cond := u_ws RJ2 TJ2 0
theorem nmJ2 : ∀ a, a < 0 → ∀ b, b < 0 → a ≠ b → (TJ2 a).2.1 ≠ (TJ2 b).2.1 := by decide +kernel
theorem tyJ2_ok : ∀ k, k < 0 → parseFieldDescriptor (TJ2 k).2.2.1 = some (tyJ2 k) := by decide +kernel
abbrev cJ2_getChar_3b067 : ByteArray := prog_18_method_5_code
def yJ2_getChar_3b067 : MethodName := ⟨RJ2, "getChar", "([BI)C"⟩
abbrev cJ2_length_9d52b : ByteArray := prog_18_method_6_code
def yJ2_length_9d52b : MethodName := ⟨RJ2, "length", "([B)I"⟩
abbrev cJ2_indexOf_4cfef : ByteArray := prog_18_method_40_code
def yJ2_indexOf_4cfef : MethodName := ⟨RJ2, "indexOf", "([BIII)I"⟩
abbrev cJ2_indexOfChar_4cfef : ByteArray := prog_18_method_47_code
def yJ2_indexOfChar_4cfef : MethodName := ⟨RJ2, "indexOfChar", "([BIII)I"⟩
abbrev cJ2_indexOfCharUnsafe_4cfef : ByteArray := prog_18_method_48_code
def yJ2_indexOfCharUnsafe_4cfef : MethodName := ⟨RJ2, "indexOfCharUnsafe", "([BIII)I"⟩
abbrev cJ2_indexOfSupplementary_4cfef : ByteArray := prog_18_method_49_code
def yJ2_indexOfSupplementary_4cfef : MethodName := ⟨RJ2, "indexOfSupplementary", "([BIII)I"⟩
abbrev cJ2_checkBoundsBeginEnd_d044e : ByteArray := prog_18_method_93_code
def yJ2_checkBoundsBeginEnd_d044e : MethodName := ⟨RJ2, "checkBoundsBeginEnd", "(II[B)V"⟩
def RJ10 : String := "java/lang/System"
def TJ10 : u_T := fun k => match k with
  | _ => ("", "", "", false)
def tyJ10 : Nat → FieldType := fun k => match k with
  | _ => .int
abbrev wsJ100 : List Cond := u_ws RJ10 TJ10 0
theorem nmJ10 : ∀ a, a < 0 → ∀ b, b < 0 → a ≠ b → (TJ10 a).2.1 ≠ (TJ10 b).2.1 := by decide +kernel
theorem tyJ10_ok : ∀ k, k < 0 → parseFieldDescriptor (TJ10 k).2.2.1 = some (tyJ10 k) := by decide +kernel
def RJxfd54e : String := "java/lang/constant/Constable"
def TJxfd54e : u_T := fun k => match k with
  | _ => ("", "", "", false)
def tyJxfd54e : Nat → FieldType := fun k => match k with
  | _ => .int
abbrev wsJxfd54e0 : List Cond := u_ws RJxfd54e TJxfd54e 0
theorem nmJxfd54e : ∀ a, a < 0 → ∀ b, b < 0 → a ≠ b → (TJxfd54e a).2.1 ≠ (TJxfd54e b).2.1 := by decide +kernel
theorem tyJxfd54e_ok : ∀ k, k < 0 → parseFieldDescriptor (TJxfd54e k).2.2.1 = some (tyJxfd54e k) := by decide +kernel
def RJx3cf43 : String := "java/lang/constant/ConstantDesc"
def TJx3cf43 : u_T := fun k => match k with
  | _ => ("", "", "", false)
def tyJx3cf43 : Nat → FieldType := fun k => match k with
  | _ => .int
abbrev wsJx3cf430 : List Cond := u_ws RJx3cf43 TJx3cf43 0
theorem nmJx3cf43 : ∀ a, a < 0 → ∀ b, b < 0 → a ≠ b → (TJx3cf43 a).2.1 ≠ (TJx3cf43 b).2.1 := by decide +kernel
theorem tyJx3cf43_ok : ∀ k, k < 0 → parseFieldDescriptor (TJx3cf43 k).2.2.1 = some (tyJx3cf43 k) := by decide +kernel
def RJ7 : String := "java/util/Arrays"
def TJ7 : u_T := fun k => match k with
  | _ => ("", "", "", false)
def tyJ7 : Nat → FieldType := fun k => match k with
  | _ => .int
abbrev wsJ70 : List Cond := u_ws RJ7 TJ7 0
theorem nmJ7 : ∀ a, a < 0 → ∀ b, b < 0 → a ≠ b → (TJ7 a).2.1 ≠ (TJ7 b).2.1 := by decide +kernel
theorem tyJ7_ok : ∀ k, k < 0 → parseFieldDescriptor (TJ7 k).2.2.1 = some (tyJ7 k) := by decide +kernel
abbrev cJ7_fill_53178 : ByteArray := prog_20_method_103_code
def yJ7_fill_53178 : MethodName := ⟨RJ7, "fill", "([II)V"⟩
def RJ3 : String := "jdk/internal/util/Preconditions"
def TJ3 : u_T := fun k => match k with
  | _ => ("", "", "", false)
def tyJ3 : Nat → FieldType := fun k => match k with
  | _ => .int
abbrev wsJ30 : List Cond := u_ws RJ3 TJ3 0
theorem nmJ3 : ∀ a, a < 0 → ∀ b, b < 0 → a ≠ b → (TJ3 a).2.1 ≠ (TJ3 b).2.1 := by decide +kernel
theorem tyJ3_ok : ∀ k, k < 0 → parseFieldDescriptor (TJ3 k).2.2.1 = some (tyJ3 k) := by decide +kernel
abbrev cJ3_checkFromToIndex_8c36e : ByteArray := prog_21_method_12_code
def yJ3_checkFromToIndex_8c36e : MethodName := ⟨RJ3, "checkFromToIndex", "(IIILjava/util/function/BiFunction;)I"⟩
def RL : String := "LoneAdjectiveLaw"
abbrev cL_law : ByteArray := code
def yL_law : MethodName := ⟨RL, "law", "([I)Z"⟩
abbrev vwCl : List vw_C := [(RX0, TX0, 6), (RX1, TX1, 2), (RX2, TX2, 2), (RX3, TX3, 8), (RX4, TX4, 3), (RX5, TX5, 3), (RX6, TX6, 6), (RX8, TX8, 6), (RX9, TX9, 16), (RX10, TX10, 16), (RX11, TX11, 50)]
end
section
theorem dX0_init_0 : decode cX0_init 0 = .ok (.aload_n 0, 1) := by decide +kernel
theorem dX0_init_1 : decode cX0_init 1 = .ok (.invokespecial 3, 3) := by decide +kernel
theorem dX0_init_4 : decode cX0_init 4 = .ok (.aload_n 0, 1) := by decide +kernel
theorem dX0_init_5 : decode cX0_init 5 = .ok (.bipush 6, 2) := by decide +kernel
theorem dX0_init_7 : decode cX0_init 7 = .ok (.newarray .int, 2) := by decide +kernel
theorem dX0_init_9 : decode cX0_init 9 = .ok (.putfield 9, 3) := by decide +kernel
theorem dX0_init_12 : decode cX0_init 12 = .ok (.return_, 1) := by decide +kernel
theorem dX0_find_0 : decode cX0_find 0 = .ok (.aload_n 0, 1) := by decide +kernel
theorem dX0_find_1 : decode cX0_find 1 = .ok (.iconst (-1), 1) := by decide +kernel
theorem dX0_find_2 : decode cX0_find 2 = .ok (.putfield 15, 3) := by decide +kernel
theorem dX0_find_5 : decode cX0_find 5 = .ok (.aload_n 0, 1) := by decide +kernel
theorem dX0_find_6 : decode cX0_find 6 = .ok (.aload_n 1, 1) := by decide +kernel
theorem dX0_find_7 : decode cX0_find 7 = .ok (.iload_n 2, 1) := by decide +kernel
theorem dX0_find_8 : decode cX0_find 8 = .ok (.iload_n 3, 1) := by decide +kernel
theorem dX0_find_9 : decode cX0_find 9 = .ok (.iload 4, 2) := by decide +kernel
theorem dX0_find_11 : decode cX0_find 11 = .ok (.invokevirtual 19, 3) := by decide +kernel
theorem dX0_find_14 : decode cX0_find 14 = .ok (.return_, 1) := by decide +kernel
theorem dX0_meet_0 : decode cX0_meet 0 = .ok (.aload_n 1, 1) := by decide +kernel
theorem dX0_meet_1 : decode cX0_meet 1 = .ok (.aload_n 0, 1) := by decide +kernel
theorem dX0_meet_2 : decode cX0_meet 2 = .ok (.iload_n 2, 1) := by decide +kernel
theorem dX0_meet_3 : decode cX0_meet 3 = .ok (.invokevirtual 23, 3) := by decide +kernel
theorem dX0_meet_6 : decode cX0_meet 6 = .ok (.invokevirtual 27, 3) := by decide +kernel
theorem dX0_meet_9 : decode cX0_meet 9 = .ok (.istore 4, 2) := by decide +kernel
theorem dX0_meet_11 : decode cX0_meet 11 = .ok (.iload 4, 2) := by decide +kernel
theorem dX0_meet_13 : decode cX0_meet 13 = .ok (.aload_n 0, 1) := by decide +kernel
theorem dX0_meet_14 : decode cX0_meet 14 = .ok (.getfield 15, 3) := by decide +kernel
theorem dX0_meet_17 : decode cX0_meet 17 = .ok (.if_icmp .gt 20, 3) := by decide +kernel
theorem dX0_meet_20 : decode cX0_meet 20 = .ok (.iload 4, 2) := by decide +kernel
theorem dX0_meet_22 : decode cX0_meet 22 = .ok (.aload_n 0, 1) := by decide +kernel
theorem dX0_meet_23 : decode cX0_meet 23 = .ok (.getfield 15, 3) := by decide +kernel
theorem dX0_meet_26 : decode cX0_meet 26 = .ok (.if_icmp .ne 41, 3) := by decide +kernel
theorem dX0_meet_29 : decode cX0_meet 29 = .ok (.iload_n 3, 1) := by decide +kernel
theorem dX0_meet_30 : decode cX0_meet 30 = .ok (.aload_n 0, 1) := by decide +kernel
theorem dX0_meet_31 : decode cX0_meet 31 = .ok (.getfield 32, 3) := by decide +kernel
theorem dX0_meet_34 : decode cX0_meet 34 = .ok (.if_icmp .ge 33, 3) := by decide +kernel
theorem dX0_meet_37 : decode cX0_meet 37 = .ok (.aload_n 0, 1) := by decide +kernel
theorem dX0_meet_38 : decode cX0_meet 38 = .ok (.iload 4, 2) := by decide +kernel
theorem dX0_meet_40 : decode cX0_meet 40 = .ok (.putfield 15, 3) := by decide +kernel
theorem dX0_meet_43 : decode cX0_meet 43 = .ok (.aload_n 0, 1) := by decide +kernel
theorem dX0_meet_44 : decode cX0_meet 44 = .ok (.iload_n 3, 1) := by decide +kernel
theorem dX0_meet_45 : decode cX0_meet 45 = .ok (.putfield 32, 3) := by decide +kernel
theorem dX0_meet_48 : decode cX0_meet 48 = .ok (.aload_n 0, 1) := by decide +kernel
theorem dX0_meet_49 : decode cX0_meet 49 = .ok (.iload_n 2, 1) := by decide +kernel
theorem dX0_meet_50 : decode cX0_meet 50 = .ok (.putfield 35, 3) := by decide +kernel
theorem dX0_meet_53 : decode cX0_meet 53 = .ok (.aload_n 0, 1) := by decide +kernel
theorem dX0_meet_54 : decode cX0_meet 54 = .ok (.getfield 38, 3) := by decide +kernel
theorem dX0_meet_57 : decode cX0_meet 57 = .ok (.iconst 0, 1) := by decide +kernel
theorem dX0_meet_58 : decode cX0_meet 58 = .ok (.aload_n 0, 1) := by decide +kernel
theorem dX0_meet_59 : decode cX0_meet 59 = .ok (.getfield 9, 3) := by decide +kernel
theorem dX0_meet_62 : decode cX0_meet 62 = .ok (.iconst 0, 1) := by decide +kernel
theorem dX0_meet_63 : decode cX0_meet 63 = .ok (.iload_n 2, 1) := by decide +kernel
theorem dX0_meet_64 : decode cX0_meet 64 = .ok (.invokestatic 41, 3) := by decide +kernel
theorem dX0_meet_67 : decode cX0_meet 67 = .ok (.return_, 1) := by decide +kernel
theorem dX1_init_0 : decode cX1_init 0 = .ok (.aload_n 0, 1) := by decide +kernel
theorem dX1_init_1 : decode cX1_init 1 = .ok (.invokespecial 3, 3) := by decide +kernel
theorem dX1_init_4 : decode cX1_init 4 = .ok (.aload_n 0, 1) := by decide +kernel
theorem dX1_init_5 : decode cX1_init 5 = .ok (.bipush 6, 2) := by decide +kernel
theorem dX1_init_7 : decode cX1_init 7 = .ok (.newarray .int, 2) := by decide +kernel
theorem dX1_init_9 : decode cX1_init 9 = .ok (.putfield 9, 3) := by decide +kernel
theorem dX1_init_12 : decode cX1_init 12 = .ok (.aload_n 0, 1) := by decide +kernel
theorem dX1_init_13 : decode cX1_init 13 = .ok (.bipush 6, 2) := by decide +kernel
theorem dX1_init_15 : decode cX1_init 15 = .ok (.newarray .int, 2) := by decide +kernel
theorem dX1_init_17 : decode cX1_init 17 = .ok (.putfield 15, 3) := by decide +kernel
theorem dX1_init_20 : decode cX1_init 20 = .ok (.return_, 1) := by decide +kernel
theorem dX1_find_0 : decode cX1_find 0 = .ok (.aload_n 0, 1) := by decide +kernel
theorem dX1_find_1 : decode cX1_find 1 = .ok (.getfield 9, 3) := by decide +kernel
theorem dX1_find_4 : decode cX1_find 4 = .ok (.iconst (-1), 1) := by decide +kernel
theorem dX1_find_5 : decode cX1_find 5 = .ok (.invokestatic 18, 3) := by decide +kernel
theorem dX1_find_8 : decode cX1_find 8 = .ok (.aload_n 0, 1) := by decide +kernel
theorem dX1_find_9 : decode cX1_find 9 = .ok (.getfield 15, 3) := by decide +kernel
theorem dX1_find_12 : decode cX1_find 12 = .ok (.iconst (-1), 1) := by decide +kernel
theorem dX1_find_13 : decode cX1_find 13 = .ok (.invokestatic 18, 3) := by decide +kernel
theorem dX1_find_16 : decode cX1_find 16 = .ok (.aload_n 0, 1) := by decide +kernel
theorem dX1_find_17 : decode cX1_find 17 = .ok (.aload_n 1, 1) := by decide +kernel
theorem dX1_find_18 : decode cX1_find 18 = .ok (.iload_n 2, 1) := by decide +kernel
theorem dX1_find_19 : decode cX1_find 19 = .ok (.ldc 24, 2) := by decide +kernel
theorem dX1_find_21 : decode cX1_find 21 = .ok (.iconst 0, 1) := by decide +kernel
theorem dX1_find_22 : decode cX1_find 22 = .ok (.iconst 1, 1) := by decide +kernel
theorem dX1_find_23 : decode cX1_find 23 = .ok (.invokestatic 25, 3) := by decide +kernel
theorem dX1_find_26 : decode cX1_find 26 = .ok (.return_, 1) := by decide +kernel
theorem dX1_lendOn_0 : decode cX1_lendOn 0 = .ok (.aload_n 0, 1) := by decide +kernel
theorem dX1_lendOn_1 : decode cX1_lendOn 1 = .ok (.iload_n 2, 1) := by decide +kernel
theorem dX1_lendOn_2 : decode cX1_lendOn 2 = .ok (.iload_n 3, 1) := by decide +kernel
theorem dX1_lendOn_3 : decode cX1_lendOn 3 = .ok (.iload 5, 2) := by decide +kernel
theorem dX1_lendOn_5 : decode cX1_lendOn 5 = .ok (.invokevirtual 29, 3) := by decide +kernel
theorem dX1_lendOn_8 : decode cX1_lendOn 8 = .ok (.iload 5, 2) := by decide +kernel
theorem dX1_lendOn_10 : decode cX1_lendOn 10 = .ok (.bipush 6, 2) := by decide +kernel
theorem dX1_lendOn_12 : decode cX1_lendOn 12 = .ok (.if_icmp .lt 4, 3) := by decide +kernel
theorem dX1_lendOn_15 : decode cX1_lendOn 15 = .ok (.return_, 1) := by decide +kernel
theorem dX1_lendOn_16 : decode cX1_lendOn 16 = .ok (.iload 4, 2) := by decide +kernel
theorem dX1_lendOn_18 : decode cX1_lendOn 18 = .ok (.iconst 1, 1) := by decide +kernel
theorem dX1_lendOn_19 : decode cX1_lendOn 19 = .ok (.iload_n 2, 1) := by decide +kernel
theorem dX1_lendOn_20 : decode cX1_lendOn 20 = .ok (.ishl, 1) := by decide +kernel
theorem dX1_lendOn_21 : decode cX1_lendOn 21 = .ok (.ior, 1) := by decide +kernel
theorem dX1_lendOn_22 : decode cX1_lendOn 22 = .ok (.istore 6, 2) := by decide +kernel
theorem dX1_lendOn_24 : decode cX1_lendOn 24 = .ok (.iconst 0, 1) := by decide +kernel
theorem dX1_lendOn_25 : decode cX1_lendOn 25 = .ok (.istore 7, 2) := by decide +kernel
theorem dX1_lendOn_27 : decode cX1_lendOn 27 = .ok (.iload 7, 2) := by decide +kernel
theorem dX1_lendOn_29 : decode cX1_lendOn 29 = .ok (.aload_n 1, 1) := by decide +kernel
theorem dX1_lendOn_30 : decode cX1_lendOn 30 = .ok (.getfield 33, 3) := by decide +kernel
theorem dX1_lendOn_33 : decode cX1_lendOn 33 = .ok (.if_icmp .ge 67, 3) := by decide +kernel
theorem dX1_lendOn_36 : decode cX1_lendOn 36 = .ok (.iload 6, 2) := by decide +kernel
theorem dX1_lendOn_38 : decode cX1_lendOn 38 = .ok (.iload 7, 2) := by decide +kernel
theorem dX1_lendOn_40 : decode cX1_lendOn 40 = .ok (.ishr, 1) := by decide +kernel
theorem dX1_lendOn_41 : decode cX1_lendOn 41 = .ok (.iconst 1, 1) := by decide +kernel
theorem dX1_lendOn_42 : decode cX1_lendOn 42 = .ok (.iand, 1) := by decide +kernel
theorem dX1_lendOn_43 : decode cX1_lendOn 43 = .ok (.ifCond .ne 51, 3) := by decide +kernel
theorem dX1_lendOn_46 : decode cX1_lendOn 46 = .ok (.aload_n 1, 1) := by decide +kernel
theorem dX1_lendOn_47 : decode cX1_lendOn 47 = .ok (.getfield 39, 3) := by decide +kernel
theorem dX1_lendOn_50 : decode cX1_lendOn 50 = .ok (.iload_n 2, 1) := by decide +kernel
theorem dX1_lendOn_51 : decode cX1_lendOn 51 = .ok (.aaload, 1) := by decide +kernel
theorem dX1_lendOn_52 : decode cX1_lendOn 52 = .ok (.iload 7, 2) := by decide +kernel
theorem dX1_lendOn_54 : decode cX1_lendOn 54 = .ok (.iaload, 1) := by decide +kernel
theorem dX1_lendOn_55 : decode cX1_lendOn 55 = .ok (.iconst (-1), 1) := by decide +kernel
theorem dX1_lendOn_56 : decode cX1_lendOn 56 = .ok (.if_icmp .eq 38, 3) := by decide +kernel
theorem dX1_lendOn_59 : decode cX1_lendOn 59 = .ok (.iload_n 3, 1) := by decide +kernel
theorem dX1_lendOn_60 : decode cX1_lendOn 60 = .ok (.i2l, 1) := by decide +kernel
theorem dX1_lendOn_61 : decode cX1_lendOn 61 = .ok (.aload_n 1, 1) := by decide +kernel
theorem dX1_lendOn_62 : decode cX1_lendOn 62 = .ok (.getfield 39, 3) := by decide +kernel
theorem dX1_lendOn_65 : decode cX1_lendOn 65 = .ok (.iload_n 2, 1) := by decide +kernel
theorem dX1_lendOn_66 : decode cX1_lendOn 66 = .ok (.aaload, 1) := by decide +kernel
theorem dX1_lendOn_67 : decode cX1_lendOn 67 = .ok (.iload 7, 2) := by decide +kernel
theorem dX1_lendOn_69 : decode cX1_lendOn 69 = .ok (.iaload, 1) := by decide +kernel
theorem dX1_lendOn_70 : decode cX1_lendOn 70 = .ok (.i2l, 1) := by decide +kernel
theorem dX1_lendOn_71 : decode cX1_lendOn 71 = .ok (.lmul, 1) := by decide +kernel
theorem dX1_lendOn_72 : decode cX1_lendOn 72 = .ok (.ldc2_w 43, 3) := by decide +kernel
theorem dX1_lendOn_75 : decode cX1_lendOn 75 = .ok (.ldiv, 1) := by decide +kernel
theorem dX1_lendOn_76 : decode cX1_lendOn 76 = .ok (.l2i, 1) := by decide +kernel
theorem dX1_lendOn_77 : decode cX1_lendOn 77 = .ok (.istore 8, 2) := by decide +kernel
theorem dX1_lendOn_79 : decode cX1_lendOn 79 = .ok (.aload_n 0, 1) := by decide +kernel
theorem dX1_lendOn_80 : decode cX1_lendOn 80 = .ok (.aload_n 1, 1) := by decide +kernel
theorem dX1_lendOn_81 : decode cX1_lendOn 81 = .ok (.iload 7, 2) := by decide +kernel
theorem dX1_lendOn_83 : decode cX1_lendOn 83 = .ok (.iload 8, 2) := by decide +kernel
theorem dX1_lendOn_85 : decode cX1_lendOn 85 = .ok (.iload 6, 2) := by decide +kernel
theorem dX1_lendOn_87 : decode cX1_lendOn 87 = .ok (.iload 5, 2) := by decide +kernel
theorem dX1_lendOn_89 : decode cX1_lendOn 89 = .ok (.iconst 1, 1) := by decide +kernel
theorem dX1_lendOn_90 : decode cX1_lendOn 90 = .ok (.iadd, 1) := by decide +kernel
theorem dX1_lendOn_91 : decode cX1_lendOn 91 = .ok (.invokestatic 25, 3) := by decide +kernel
theorem dX1_lendOn_94 : decode cX1_lendOn 94 = .ok (.iinc 7 1, 3) := by decide +kernel
theorem dX1_lendOn_97 : decode cX1_lendOn 97 = .ok (.goto (-70), 3) := by decide +kernel
theorem dX1_lendOn_100 : decode cX1_lendOn 100 = .ok (.return_, 1) := by decide +kernel
theorem dX1_compare_0 : decode cX1_compare 0 = .ok (.iload_n 2, 1) := by decide +kernel
theorem dX1_compare_1 : decode cX1_compare 1 = .ok (.aload_n 0, 1) := by decide +kernel
theorem dX1_compare_2 : decode cX1_compare 2 = .ok (.getfield 9, 3) := by decide +kernel
theorem dX1_compare_5 : decode cX1_compare 5 = .ok (.iload_n 1, 1) := by decide +kernel
theorem dX1_compare_6 : decode cX1_compare 6 = .ok (.iaload, 1) := by decide +kernel
theorem dX1_compare_7 : decode cX1_compare 7 = .ok (.if_icmp .gt 23, 3) := by decide +kernel
theorem dX1_compare_10 : decode cX1_compare 10 = .ok (.iload_n 2, 1) := by decide +kernel
theorem dX1_compare_11 : decode cX1_compare 11 = .ok (.aload_n 0, 1) := by decide +kernel
theorem dX1_compare_12 : decode cX1_compare 12 = .ok (.getfield 9, 3) := by decide +kernel
theorem dX1_compare_15 : decode cX1_compare 15 = .ok (.iload_n 1, 1) := by decide +kernel
theorem dX1_compare_16 : decode cX1_compare 16 = .ok (.iaload, 1) := by decide +kernel
theorem dX1_compare_17 : decode cX1_compare 17 = .ok (.if_icmp .ne 27, 3) := by decide +kernel
theorem dX1_compare_20 : decode cX1_compare 20 = .ok (.iload_n 3, 1) := by decide +kernel
theorem dX1_compare_21 : decode cX1_compare 21 = .ok (.aload_n 0, 1) := by decide +kernel
theorem dX1_compare_22 : decode cX1_compare 22 = .ok (.getfield 15, 3) := by decide +kernel
theorem dX1_compare_25 : decode cX1_compare 25 = .ok (.iload_n 1, 1) := by decide +kernel
theorem dX1_compare_26 : decode cX1_compare 26 = .ok (.iaload, 1) := by decide +kernel
theorem dX1_compare_27 : decode cX1_compare 27 = .ok (.if_icmp .ge 17, 3) := by decide +kernel
theorem dX1_compare_30 : decode cX1_compare 30 = .ok (.aload_n 0, 1) := by decide +kernel
theorem dX1_compare_31 : decode cX1_compare 31 = .ok (.getfield 9, 3) := by decide +kernel
theorem dX1_compare_34 : decode cX1_compare 34 = .ok (.iload_n 1, 1) := by decide +kernel
theorem dX1_compare_35 : decode cX1_compare 35 = .ok (.iload_n 2, 1) := by decide +kernel
theorem dX1_compare_36 : decode cX1_compare 36 = .ok (.iastore, 1) := by decide +kernel
theorem dX1_compare_37 : decode cX1_compare 37 = .ok (.aload_n 0, 1) := by decide +kernel
theorem dX1_compare_38 : decode cX1_compare 38 = .ok (.getfield 15, 3) := by decide +kernel
theorem dX1_compare_41 : decode cX1_compare 41 = .ok (.iload_n 1, 1) := by decide +kernel
theorem dX1_compare_42 : decode cX1_compare 42 = .ok (.iload_n 3, 1) := by decide +kernel
theorem dX1_compare_43 : decode cX1_compare 43 = .ok (.iastore, 1) := by decide +kernel
theorem dX1_compare_44 : decode cX1_compare 44 = .ok (.return_, 1) := by decide +kernel
theorem dX2_init_0 : decode cX2_init 0 = .ok (.aload_n 0, 1) := by decide +kernel
theorem dX2_init_1 : decode cX2_init 1 = .ok (.invokespecial 3, 3) := by decide +kernel
theorem dX2_init_4 : decode cX2_init 4 = .ok (.aload_n 0, 1) := by decide +kernel
theorem dX2_init_5 : decode cX2_init 5 = .ok (.bipush 98, 2) := by decide +kernel
theorem dX2_init_7 : decode cX2_init 7 = .ok (.newarray .int, 2) := by decide +kernel
theorem dX2_init_9 : decode cX2_init 9 = .ok (.putfield 11, 3) := by decide +kernel
theorem dX2_init_12 : decode cX2_init 12 = .ok (.aload_n 0, 1) := by decide +kernel
theorem dX2_init_13 : decode cX2_init 13 = .ok (.bipush 98, 2) := by decide +kernel
theorem dX2_init_15 : decode cX2_init 15 = .ok (.newarray .int, 2) := by decide +kernel
theorem dX2_init_17 : decode cX2_init 17 = .ok (.putfield 15, 3) := by decide +kernel
theorem dX2_init_20 : decode cX2_init 20 = .ok (.return_, 1) := by decide +kernel
theorem dX2_place_0 : decode cX2_place 0 = .ok (.iload_n 0, 1) := by decide +kernel
theorem dX2_place_1 : decode cX2_place 1 = .ok (.bipush 7, 2) := by decide +kernel
theorem dX2_place_3 : decode cX2_place 3 = .ok (.imul, 1) := by decide +kernel
theorem dX2_place_4 : decode cX2_place 4 = .ok (.iload_n 1, 1) := by decide +kernel
theorem dX2_place_5 : decode cX2_place 5 = .ok (.iadd, 1) := by decide +kernel
theorem dX2_place_6 : decode cX2_place 6 = .ok (.iconst 2, 1) := by decide +kernel
theorem dX2_place_7 : decode cX2_place 7 = .ok (.imul, 1) := by decide +kernel
theorem dX2_place_8 : decode cX2_place 8 = .ok (.iload_n 2, 1) := by decide +kernel
theorem dX2_place_9 : decode cX2_place 9 = .ok (.iadd, 1) := by decide +kernel
theorem dX2_place_10 : decode cX2_place 10 = .ok (.ireturn, 1) := by decide +kernel
theorem dX2_solve_0 : decode cX2_solve 0 = .ok (.aload_n 0, 1) := by decide +kernel
theorem dX2_solve_1 : decode cX2_solve 1 = .ok (.getfield 11, 3) := by decide +kernel
theorem dX2_solve_4 : decode cX2_solve 4 = .ok (.iconst 0, 1) := by decide +kernel
theorem dX2_solve_5 : decode cX2_solve 5 = .ok (.invokestatic 18, 3) := by decide +kernel
theorem dX2_solve_8 : decode cX2_solve 8 = .ok (.aload_n 0, 1) := by decide +kernel
theorem dX2_solve_9 : decode cX2_solve 9 = .ok (.getfield 15, 3) := by decide +kernel
theorem dX2_solve_12 : decode cX2_solve 12 = .ok (.iconst 0, 1) := by decide +kernel
theorem dX2_solve_13 : decode cX2_solve 13 = .ok (.invokestatic 18, 3) := by decide +kernel
theorem dX2_solve_16 : decode cX2_solve 16 = .ok (.iconst 0, 1) := by decide +kernel
theorem dX2_solve_17 : decode cX2_solve 17 = .ok (.istore_n 3, 1) := by decide +kernel
theorem dX2_solve_18 : decode cX2_solve 18 = .ok (.iload_n 3, 1) := by decide +kernel
theorem dX2_solve_19 : decode cX2_solve 19 = .ok (.aload_n 1, 1) := by decide +kernel
theorem dX2_solve_20 : decode cX2_solve 20 = .ok (.getfield 24, 3) := by decide +kernel
theorem dX2_solve_23 : decode cX2_solve 23 = .ok (.if_icmp .ge 77, 3) := by decide +kernel
theorem dX2_solve_26 : decode cX2_solve 26 = .ok (.iconst 0, 1) := by decide +kernel
theorem dX2_solve_27 : decode cX2_solve 27 = .ok (.istore 4, 2) := by decide +kernel
theorem dX2_solve_29 : decode cX2_solve 29 = .ok (.iload 4, 2) := by decide +kernel
theorem dX2_solve_31 : decode cX2_solve 31 = .ok (.aload_n 1, 1) := by decide +kernel
theorem dX2_solve_32 : decode cX2_solve 32 = .ok (.getfield 24, 3) := by decide +kernel
theorem dX2_solve_35 : decode cX2_solve 35 = .ok (.if_icmp .ge 59, 3) := by decide +kernel
theorem dX2_solve_38 : decode cX2_solve 38 = .ok (.iload_n 3, 1) := by decide +kernel
theorem dX2_solve_39 : decode cX2_solve 39 = .ok (.iload 4, 2) := by decide +kernel
theorem dX2_solve_41 : decode cX2_solve 41 = .ok (.if_icmp .ne 7, 3) := by decide +kernel
theorem dX2_solve_44 : decode cX2_solve 44 = .ok (.iconst 2, 1) := by decide +kernel
theorem dX2_solve_45 : decode cX2_solve 45 = .ok (.goto 13, 3) := by decide +kernel
theorem dX2_solve_48 : decode cX2_solve 48 = .ok (.iload_n 3, 1) := by decide +kernel
theorem dX2_solve_49 : decode cX2_solve 49 = .ok (.iload_n 2, 1) := by decide +kernel
theorem dX2_solve_50 : decode cX2_solve 50 = .ok (.if_icmp .ne 7, 3) := by decide +kernel
theorem dX2_solve_53 : decode cX2_solve 53 = .ok (.iconst 1, 1) := by decide +kernel
theorem dX2_solve_54 : decode cX2_solve 54 = .ok (.goto 4, 3) := by decide +kernel
theorem dX2_solve_57 : decode cX2_solve 57 = .ok (.iconst 0, 1) := by decide +kernel
theorem dX2_solve_58 : decode cX2_solve 58 = .ok (.istore 5, 2) := by decide +kernel
theorem dX2_solve_60 : decode cX2_solve 60 = .ok (.aload_n 0, 1) := by decide +kernel
theorem dX2_solve_61 : decode cX2_solve 61 = .ok (.getfield 11, 3) := by decide +kernel
theorem dX2_solve_64 : decode cX2_solve 64 = .ok (.iload_n 3, 1) := by decide +kernel
theorem dX2_solve_65 : decode cX2_solve 65 = .ok (.iload 4, 2) := by decide +kernel
theorem dX2_solve_67 : decode cX2_solve 67 = .ok (.iconst 0, 1) := by decide +kernel
theorem dX2_solve_68 : decode cX2_solve 68 = .ok (.invokestatic 30, 3) := by decide +kernel
theorem dX2_solve_71 : decode cX2_solve 71 = .ok (.iload 5, 2) := by decide +kernel
theorem dX2_solve_73 : decode cX2_solve 73 = .ok (.iastore, 1) := by decide +kernel
theorem dX2_solve_74 : decode cX2_solve 74 = .ok (.aload_n 0, 1) := by decide +kernel
theorem dX2_solve_75 : decode cX2_solve 75 = .ok (.getfield 11, 3) := by decide +kernel
theorem dX2_solve_78 : decode cX2_solve 78 = .ok (.iload_n 3, 1) := by decide +kernel
theorem dX2_solve_79 : decode cX2_solve 79 = .ok (.iload 4, 2) := by decide +kernel
theorem dX2_solve_81 : decode cX2_solve 81 = .ok (.iconst 1, 1) := by decide +kernel
theorem dX2_solve_82 : decode cX2_solve 82 = .ok (.invokestatic 30, 3) := by decide +kernel
theorem dX2_solve_85 : decode cX2_solve 85 = .ok (.iload 5, 2) := by decide +kernel
theorem dX2_solve_87 : decode cX2_solve 87 = .ok (.iastore, 1) := by decide +kernel
theorem dX2_solve_88 : decode cX2_solve 88 = .ok (.iinc 4 1, 3) := by decide +kernel
theorem dX2_solve_91 : decode cX2_solve 91 = .ok (.goto (-62), 3) := by decide +kernel
theorem dX2_solve_94 : decode cX2_solve 94 = .ok (.iinc 3 1, 3) := by decide +kernel
theorem dX2_solve_97 : decode cX2_solve 97 = .ok (.goto (-79), 3) := by decide +kernel
theorem dX2_solve_100 : decode cX2_solve 100 = .ok (.iconst 1, 1) := by decide +kernel
theorem dX2_solve_101 : decode cX2_solve 101 = .ok (.istore_n 3, 1) := by decide +kernel
theorem dX2_solve_102 : decode cX2_solve 102 = .ok (.iconst 1, 1) := by decide +kernel
theorem dX2_solve_103 : decode cX2_solve 103 = .ok (.istore 4, 2) := by decide +kernel
theorem dX2_solve_105 : decode cX2_solve 105 = .ok (.iload 4, 2) := by decide +kernel
theorem dX2_solve_107 : decode cX2_solve 107 = .ok (.bipush 98, 2) := by decide +kernel
theorem dX2_solve_109 : decode cX2_solve 109 = .ok (.if_icmp .gt 21, 3) := by decide +kernel
theorem dX2_solve_112 : decode cX2_solve 112 = .ok (.iload_n 3, 1) := by decide +kernel
theorem dX2_solve_113 : decode cX2_solve 113 = .ok (.ifCond .eq 17, 3) := by decide +kernel
theorem dX2_solve_116 : decode cX2_solve 116 = .ok (.aload_n 0, 1) := by decide +kernel
theorem dX2_solve_117 : decode cX2_solve 117 = .ok (.aload_n 1, 1) := by decide +kernel
theorem dX2_solve_118 : decode cX2_solve 118 = .ok (.iload 4, 2) := by decide +kernel
theorem dX2_solve_120 : decode cX2_solve 120 = .ok (.invokevirtual 34, 3) := by decide +kernel
theorem dX2_solve_123 : decode cX2_solve 123 = .ok (.istore_n 3, 1) := by decide +kernel
theorem dX2_solve_124 : decode cX2_solve 124 = .ok (.iinc 4 1, 3) := by decide +kernel
theorem dX2_solve_127 : decode cX2_solve 127 = .ok (.goto (-22), 3) := by decide +kernel
theorem dX2_solve_130 : decode cX2_solve 130 = .ok (.return_, 1) := by decide +kernel
theorem dX2_decideAt_0 : decode cX2_decideAt 0 = .ok (.iconst 0, 1) := by decide +kernel
theorem dX2_decideAt_1 : decode cX2_decideAt 1 = .ok (.istore_n 3, 1) := by decide +kernel
theorem dX2_decideAt_2 : decode cX2_decideAt 2 = .ok (.iconst 0, 1) := by decide +kernel
theorem dX2_decideAt_3 : decode cX2_decideAt 3 = .ok (.istore 4, 2) := by decide +kernel
theorem dX2_decideAt_5 : decode cX2_decideAt 5 = .ok (.iload 4, 2) := by decide +kernel
theorem dX2_decideAt_7 : decode cX2_decideAt 7 = .ok (.aload_n 1, 1) := by decide +kernel
theorem dX2_decideAt_8 : decode cX2_decideAt 8 = .ok (.getfield 24, 3) := by decide +kernel
theorem dX2_decideAt_11 : decode cX2_decideAt 11 = .ok (.if_icmp .ge 55, 3) := by decide +kernel
theorem dX2_decideAt_14 : decode cX2_decideAt 14 = .ok (.iconst 0, 1) := by decide +kernel
theorem dX2_decideAt_15 : decode cX2_decideAt 15 = .ok (.istore 5, 2) := by decide +kernel
theorem dX2_decideAt_17 : decode cX2_decideAt 17 = .ok (.iload 5, 2) := by decide +kernel
theorem dX2_decideAt_19 : decode cX2_decideAt 19 = .ok (.aload_n 1, 1) := by decide +kernel
theorem dX2_decideAt_20 : decode cX2_decideAt 20 = .ok (.getfield 24, 3) := by decide +kernel
theorem dX2_decideAt_23 : decode cX2_decideAt 23 = .ok (.if_icmp .ge 37, 3) := by decide +kernel
theorem dX2_decideAt_26 : decode cX2_decideAt 26 = .ok (.iload_n 3, 1) := by decide +kernel
theorem dX2_decideAt_27 : decode cX2_decideAt 27 = .ok (.aload_n 0, 1) := by decide +kernel
theorem dX2_decideAt_28 : decode cX2_decideAt 28 = .ok (.aload_n 1, 1) := by decide +kernel
theorem dX2_decideAt_29 : decode cX2_decideAt 29 = .ok (.iload 4, 2) := by decide +kernel
theorem dX2_decideAt_31 : decode cX2_decideAt 31 = .ok (.iload 5, 2) := by decide +kernel
theorem dX2_decideAt_33 : decode cX2_decideAt 33 = .ok (.iconst 0, 1) := by decide +kernel
theorem dX2_decideAt_34 : decode cX2_decideAt 34 = .ok (.iload_n 2, 1) := by decide +kernel
theorem dX2_decideAt_35 : decode cX2_decideAt 35 = .ok (.invokevirtual 38, 3) := by decide +kernel
theorem dX2_decideAt_38 : decode cX2_decideAt 38 = .ok (.ior, 1) := by decide +kernel
theorem dX2_decideAt_39 : decode cX2_decideAt 39 = .ok (.istore_n 3, 1) := by decide +kernel
theorem dX2_decideAt_40 : decode cX2_decideAt 40 = .ok (.iload_n 3, 1) := by decide +kernel
theorem dX2_decideAt_41 : decode cX2_decideAt 41 = .ok (.aload_n 0, 1) := by decide +kernel
theorem dX2_decideAt_42 : decode cX2_decideAt 42 = .ok (.aload_n 1, 1) := by decide +kernel
theorem dX2_decideAt_43 : decode cX2_decideAt 43 = .ok (.iload 4, 2) := by decide +kernel
theorem dX2_decideAt_45 : decode cX2_decideAt 45 = .ok (.iload 5, 2) := by decide +kernel
theorem dX2_decideAt_47 : decode cX2_decideAt 47 = .ok (.iconst 1, 1) := by decide +kernel
theorem dX2_decideAt_48 : decode cX2_decideAt 48 = .ok (.iload_n 2, 1) := by decide +kernel
theorem dX2_decideAt_49 : decode cX2_decideAt 49 = .ok (.invokevirtual 38, 3) := by decide +kernel
theorem dX2_decideAt_52 : decode cX2_decideAt 52 = .ok (.ior, 1) := by decide +kernel
theorem dX2_decideAt_53 : decode cX2_decideAt 53 = .ok (.istore_n 3, 1) := by decide +kernel
theorem dX2_decideAt_54 : decode cX2_decideAt 54 = .ok (.iinc 5 1, 3) := by decide +kernel
theorem dX2_decideAt_57 : decode cX2_decideAt 57 = .ok (.goto (-40), 3) := by decide +kernel
theorem dX2_decideAt_60 : decode cX2_decideAt 60 = .ok (.iinc 4 1, 3) := by decide +kernel
theorem dX2_decideAt_63 : decode cX2_decideAt 63 = .ok (.goto (-58), 3) := by decide +kernel
theorem dX2_decideAt_66 : decode cX2_decideAt 66 = .ok (.iload_n 3, 1) := by decide +kernel
theorem dX2_decideAt_67 : decode cX2_decideAt 67 = .ok (.ireturn, 1) := by decide +kernel
theorem dX2_decide_0 : decode cX2_decide 0 = .ok (.iload_n 2, 1) := by decide +kernel
theorem dX2_decide_1 : decode cX2_decide 1 = .ok (.iload_n 3, 1) := by decide +kernel
theorem dX2_decide_2 : decode cX2_decide 2 = .ok (.iload 4, 2) := by decide +kernel
theorem dX2_decide_4 : decode cX2_decide 4 = .ok (.invokestatic 30, 3) := by decide +kernel
theorem dX2_decide_7 : decode cX2_decide 7 = .ok (.istore 6, 2) := by decide +kernel
theorem dX2_decide_9 : decode cX2_decide 9 = .ok (.aload_n 0, 1) := by decide +kernel
theorem dX2_decide_10 : decode cX2_decide 10 = .ok (.getfield 11, 3) := by decide +kernel
theorem dX2_decide_13 : decode cX2_decide 13 = .ok (.iload 6, 2) := by decide +kernel
theorem dX2_decide_15 : decode cX2_decide 15 = .ok (.iaload, 1) := by decide +kernel
theorem dX2_decide_16 : decode cX2_decide 16 = .ok (.ifCond .eq 5, 3) := by decide +kernel
theorem dX2_decide_19 : decode cX2_decide 19 = .ok (.iconst 0, 1) := by decide +kernel
theorem dX2_decide_20 : decode cX2_decide 20 = .ok (.ireturn, 1) := by decide +kernel
theorem dX2_decide_21 : decode cX2_decide 21 = .ok (.iload 4, 2) := by decide +kernel
theorem dX2_decide_23 : decode cX2_decide 23 = .ok (.ifCond .ne 7, 3) := by decide +kernel
theorem dX2_decide_26 : decode cX2_decide 26 = .ok (.iconst 1, 1) := by decide +kernel
theorem dX2_decide_27 : decode cX2_decide 27 = .ok (.goto 4, 3) := by decide +kernel
theorem dX2_decide_30 : decode cX2_decide 30 = .ok (.iconst 2, 1) := by decide +kernel
theorem dX2_decide_31 : decode cX2_decide 31 = .ok (.istore 7, 2) := by decide +kernel
theorem dX2_decide_33 : decode cX2_decide 33 = .ok (.iload 4, 2) := by decide +kernel
theorem dX2_decide_35 : decode cX2_decide 35 = .ok (.ifCond .ne 7, 3) := by decide +kernel
theorem dX2_decide_38 : decode cX2_decide 38 = .ok (.iload_n 2, 1) := by decide +kernel
theorem dX2_decide_39 : decode cX2_decide 39 = .ok (.goto 4, 3) := by decide +kernel
theorem dX2_decide_42 : decode cX2_decide 42 = .ok (.iload_n 3, 1) := by decide +kernel
theorem dX2_decide_43 : decode cX2_decide 43 = .ok (.istore 8, 2) := by decide +kernel
theorem dX2_decide_45 : decode cX2_decide 45 = .ok (.iconst 1, 1) := by decide +kernel
theorem dX2_decide_46 : decode cX2_decide 46 = .ok (.istore 9, 2) := by decide +kernel
theorem dX2_decide_48 : decode cX2_decide 48 = .ok (.iconst 0, 1) := by decide +kernel
theorem dX2_decide_49 : decode cX2_decide 49 = .ok (.istore 10, 2) := by decide +kernel
theorem dX2_decide_51 : decode cX2_decide 51 = .ok (.iconst 0, 1) := by decide +kernel
theorem dX2_decide_52 : decode cX2_decide 52 = .ok (.istore 11, 2) := by decide +kernel
theorem dX2_decide_54 : decode cX2_decide 54 = .ok (.iload 11, 2) := by decide +kernel
theorem dX2_decide_56 : decode cX2_decide 56 = .ok (.aload_n 1, 1) := by decide +kernel
theorem dX2_decide_57 : decode cX2_decide 57 = .ok (.getfield 24, 3) := by decide +kernel
theorem dX2_decide_60 : decode cX2_decide 60 = .ok (.if_icmp .ge 118, 3) := by decide +kernel
theorem dX2_decide_63 : decode cX2_decide 63 = .ok (.iload 11, 2) := by decide +kernel
theorem dX2_decide_65 : decode cX2_decide 65 = .ok (.iload 8, 2) := by decide +kernel
theorem dX2_decide_67 : decode cX2_decide 67 = .ok (.if_icmp .eq 17, 3) := by decide +kernel
theorem dX2_decide_70 : decode cX2_decide 70 = .ok (.aload_n 1, 1) := by decide +kernel
theorem dX2_decide_71 : decode cX2_decide 71 = .ok (.getfield 42, 3) := by decide +kernel
theorem dX2_decide_74 : decode cX2_decide 74 = .ok (.iload 8, 2) := by decide +kernel
theorem dX2_decide_76 : decode cX2_decide 76 = .ok (.aaload, 1) := by decide +kernel
theorem dX2_decide_77 : decode cX2_decide 77 = .ok (.iload 11, 2) := by decide +kernel
theorem dX2_decide_79 : decode cX2_decide 79 = .ok (.iaload, 1) := by decide +kernel
theorem dX2_decide_80 : decode cX2_decide 80 = .ok (.iconst (-1), 1) := by decide +kernel
theorem dX2_decide_81 : decode cX2_decide 81 = .ok (.if_icmp .eq 91, 3) := by decide +kernel
theorem dX2_decide_84 : decode cX2_decide 84 = .ok (.iload 4, 2) := by decide +kernel
theorem dX2_decide_86 : decode cX2_decide 86 = .ok (.ifCond .ne 13, 3) := by decide +kernel
theorem dX2_decide_89 : decode cX2_decide 89 = .ok (.iload 11, 2) := by decide +kernel
theorem dX2_decide_91 : decode cX2_decide 91 = .ok (.iload_n 3, 1) := by decide +kernel
theorem dX2_decide_92 : decode cX2_decide 92 = .ok (.iconst 1, 1) := by decide +kernel
theorem dX2_decide_93 : decode cX2_decide 93 = .ok (.invokestatic 30, 3) := by decide +kernel
theorem dX2_decide_96 : decode cX2_decide 96 = .ok (.goto 10, 3) := by decide +kernel
theorem dX2_decide_99 : decode cX2_decide 99 = .ok (.iload_n 2, 1) := by decide +kernel
theorem dX2_decide_100 : decode cX2_decide 100 = .ok (.iload 11, 2) := by decide +kernel
theorem dX2_decide_102 : decode cX2_decide 102 = .ok (.iconst 0, 1) := by decide +kernel
theorem dX2_decide_103 : decode cX2_decide 103 = .ok (.invokestatic 30, 3) := by decide +kernel
theorem dX2_decide_106 : decode cX2_decide 106 = .ok (.istore 12, 2) := by decide +kernel
theorem dX2_decide_108 : decode cX2_decide 108 = .ok (.aload_n 0, 1) := by decide +kernel
theorem dX2_decide_109 : decode cX2_decide 109 = .ok (.getfield 15, 3) := by decide +kernel
theorem dX2_decide_112 : decode cX2_decide 112 = .ok (.iload 12, 2) := by decide +kernel
theorem dX2_decide_114 : decode cX2_decide 114 = .ok (.iaload, 1) := by decide +kernel
theorem dX2_decide_115 : decode cX2_decide 115 = .ok (.iload 5, 2) := by decide +kernel
theorem dX2_decide_117 : decode cX2_decide 117 = .ok (.if_icmp .ge 13, 3) := by decide +kernel
theorem dX2_decide_120 : decode cX2_decide 120 = .ok (.aload_n 0, 1) := by decide +kernel
theorem dX2_decide_121 : decode cX2_decide 121 = .ok (.getfield 11, 3) := by decide +kernel
theorem dX2_decide_124 : decode cX2_decide 124 = .ok (.iload 12, 2) := by decide +kernel
theorem dX2_decide_126 : decode cX2_decide 126 = .ok (.iaload, 1) := by decide +kernel
theorem dX2_decide_127 : decode cX2_decide 127 = .ok (.goto 4, 3) := by decide +kernel
theorem dX2_decide_130 : decode cX2_decide 130 = .ok (.iconst 0, 1) := by decide +kernel
theorem dX2_decide_131 : decode cX2_decide 131 = .ok (.istore 13, 2) := by decide +kernel
theorem dX2_decide_133 : decode cX2_decide 133 = .ok (.iload 10, 2) := by decide +kernel
theorem dX2_decide_135 : decode cX2_decide 135 = .ok (.iload 13, 2) := by decide +kernel
theorem dX2_decide_137 : decode cX2_decide 137 = .ok (.iload 7, 2) := by decide +kernel
theorem dX2_decide_139 : decode cX2_decide 139 = .ok (.if_icmp .ne 7, 3) := by decide +kernel
theorem dX2_decide_142 : decode cX2_decide 142 = .ok (.iconst 1, 1) := by decide +kernel
theorem dX2_decide_143 : decode cX2_decide 143 = .ok (.goto 4, 3) := by decide +kernel
theorem dX2_decide_146 : decode cX2_decide 146 = .ok (.iconst 0, 1) := by decide +kernel
theorem dX2_decide_147 : decode cX2_decide 147 = .ok (.ior, 1) := by decide +kernel
theorem dX2_decide_148 : decode cX2_decide 148 = .ok (.istore 10, 2) := by decide +kernel
theorem dX2_decide_150 : decode cX2_decide 150 = .ok (.iload 9, 2) := by decide +kernel
theorem dX2_decide_152 : decode cX2_decide 152 = .ok (.iload 13, 2) := by decide +kernel
theorem dX2_decide_154 : decode cX2_decide 154 = .ok (.ifCond .eq 14, 3) := by decide +kernel
theorem dX2_decide_157 : decode cX2_decide 157 = .ok (.iload 13, 2) := by decide +kernel
theorem dX2_decide_159 : decode cX2_decide 159 = .ok (.iload 7, 2) := by decide +kernel
theorem dX2_decide_161 : decode cX2_decide 161 = .ok (.if_icmp .eq 7, 3) := by decide +kernel
theorem dX2_decide_164 : decode cX2_decide 164 = .ok (.iconst 1, 1) := by decide +kernel
theorem dX2_decide_165 : decode cX2_decide 165 = .ok (.goto 4, 3) := by decide +kernel
theorem dX2_decide_168 : decode cX2_decide 168 = .ok (.iconst 0, 1) := by decide +kernel
theorem dX2_decide_169 : decode cX2_decide 169 = .ok (.iand, 1) := by decide +kernel
theorem dX2_decide_170 : decode cX2_decide 170 = .ok (.istore 9, 2) := by decide +kernel
theorem dX2_decide_172 : decode cX2_decide 172 = .ok (.iinc 11 1, 3) := by decide +kernel
theorem dX2_decide_175 : decode cX2_decide 175 = .ok (.goto (-121), 3) := by decide +kernel
theorem dX2_decide_178 : decode cX2_decide 178 = .ok (.iload 10, 2) := by decide +kernel
theorem dX2_decide_180 : decode cX2_decide 180 = .ok (.ifCond .ne 10, 3) := by decide +kernel
theorem dX2_decide_183 : decode cX2_decide 183 = .ok (.iload 9, 2) := by decide +kernel
theorem dX2_decide_185 : decode cX2_decide 185 = .ok (.ifCond .ne 5, 3) := by decide +kernel
theorem dX2_decide_188 : decode cX2_decide 188 = .ok (.iconst 0, 1) := by decide +kernel
theorem dX2_decide_189 : decode cX2_decide 189 = .ok (.ireturn, 1) := by decide +kernel
theorem dX2_decide_190 : decode cX2_decide 190 = .ok (.aload_n 0, 1) := by decide +kernel
theorem dX2_decide_191 : decode cX2_decide 191 = .ok (.getfield 11, 3) := by decide +kernel
theorem dX2_decide_194 : decode cX2_decide 194 = .ok (.iload 6, 2) := by decide +kernel
theorem dX2_decide_196 : decode cX2_decide 196 = .ok (.iload 10, 2) := by decide +kernel
theorem dX2_decide_198 : decode cX2_decide 198 = .ok (.ifCond .eq 8, 3) := by decide +kernel
theorem dX2_decide_201 : decode cX2_decide 201 = .ok (.iload 7, 2) := by decide +kernel
theorem dX2_decide_203 : decode cX2_decide 203 = .ok (.goto 7, 3) := by decide +kernel
theorem dX2_decide_206 : decode cX2_decide 206 = .ok (.iconst 3, 1) := by decide +kernel
theorem dX2_decide_207 : decode cX2_decide 207 = .ok (.iload 7, 2) := by decide +kernel
theorem dX2_decide_209 : decode cX2_decide 209 = .ok (.isub, 1) := by decide +kernel
theorem dX2_decide_210 : decode cX2_decide 210 = .ok (.iastore, 1) := by decide +kernel
theorem dX2_decide_211 : decode cX2_decide 211 = .ok (.aload_n 0, 1) := by decide +kernel
theorem dX2_decide_212 : decode cX2_decide 212 = .ok (.getfield 15, 3) := by decide +kernel
theorem dX2_decide_215 : decode cX2_decide 215 = .ok (.iload 6, 2) := by decide +kernel
theorem dX2_decide_217 : decode cX2_decide 217 = .ok (.iload 5, 2) := by decide +kernel
theorem dX2_decide_219 : decode cX2_decide 219 = .ok (.iastore, 1) := by decide +kernel
theorem dX2_decide_220 : decode cX2_decide 220 = .ok (.iconst 1, 1) := by decide +kernel
theorem dX2_decide_221 : decode cX2_decide 221 = .ok (.ireturn, 1) := by decide +kernel
theorem dX3_init_0 : decode cX3_init 0 = .ok (.aload_n 0, 1) := by decide +kernel
theorem dX3_init_1 : decode cX3_init 1 = .ok (.invokespecial 3, 3) := by decide +kernel
theorem dX3_init_4 : decode cX3_init 4 = .ok (.aload_n 0, 1) := by decide +kernel
theorem dX3_init_5 : decode cX3_init 5 = .ok (.bipush 6, 2) := by decide +kernel
theorem dX3_init_7 : decode cX3_init 7 = .ok (.newarray .int, 2) := by decide +kernel
theorem dX3_init_9 : decode cX3_init 9 = .ok (.putfield 9, 3) := by decide +kernel
theorem dX3_init_12 : decode cX3_init 12 = .ok (.aload_n 0, 1) := by decide +kernel
theorem dX3_init_13 : decode cX3_init 13 = .ok (.bipush 6, 2) := by decide +kernel
theorem dX3_init_15 : decode cX3_init 15 = .ok (.newarray .int, 2) := by decide +kernel
theorem dX3_init_17 : decode cX3_init 17 = .ok (.putfield 15, 3) := by decide +kernel
theorem dX3_init_20 : decode cX3_init 20 = .ok (.return_, 1) := by decide +kernel
theorem dX3_add_0 : decode cX3_add 0 = .ok (.aload_n 0, 1) := by decide +kernel
theorem dX3_add_1 : decode cX3_add 1 = .ok (.getfield 18, 3) := by decide +kernel
theorem dX3_add_4 : decode cX3_add 4 = .ok (.bipush 6, 2) := by decide +kernel
theorem dX3_add_6 : decode cX3_add 6 = .ok (.if_icmp .lt 5, 3) := by decide +kernel
theorem dX3_add_9 : decode cX3_add 9 = .ok (.iconst 0, 1) := by decide +kernel
theorem dX3_add_10 : decode cX3_add 10 = .ok (.ireturn, 1) := by decide +kernel
theorem dX3_add_11 : decode cX3_add 11 = .ok (.aload_n 0, 1) := by decide +kernel
theorem dX3_add_12 : decode cX3_add 12 = .ok (.getfield 9, 3) := by decide +kernel
theorem dX3_add_15 : decode cX3_add 15 = .ok (.aload_n 0, 1) := by decide +kernel
theorem dX3_add_16 : decode cX3_add 16 = .ok (.getfield 18, 3) := by decide +kernel
theorem dX3_add_19 : decode cX3_add 19 = .ok (.iload_n 1, 1) := by decide +kernel
theorem dX3_add_20 : decode cX3_add 20 = .ok (.iastore, 1) := by decide +kernel
theorem dX3_add_21 : decode cX3_add 21 = .ok (.aload_n 0, 1) := by decide +kernel
theorem dX3_add_22 : decode cX3_add 22 = .ok (.getfield 15, 3) := by decide +kernel
theorem dX3_add_25 : decode cX3_add 25 = .ok (.aload_n 0, 1) := by decide +kernel
theorem dX3_add_26 : decode cX3_add 26 = .ok (.getfield 18, 3) := by decide +kernel
theorem dX3_add_29 : decode cX3_add 29 = .ok (.iload_n 2, 1) := by decide +kernel
theorem dX3_add_30 : decode cX3_add 30 = .ok (.iastore, 1) := by decide +kernel
theorem dX3_add_31 : decode cX3_add 31 = .ok (.aload_n 0, 1) := by decide +kernel
theorem dX3_add_32 : decode cX3_add 32 = .ok (.dup, 1) := by decide +kernel
theorem dX3_add_33 : decode cX3_add 33 = .ok (.getfield 18, 3) := by decide +kernel
theorem dX3_add_36 : decode cX3_add 36 = .ok (.iconst 1, 1) := by decide +kernel
theorem dX3_add_37 : decode cX3_add 37 = .ok (.iadd, 1) := by decide +kernel
theorem dX3_add_38 : decode cX3_add 38 = .ok (.putfield 18, 3) := by decide +kernel
theorem dX3_add_41 : decode cX3_add 41 = .ok (.iconst 1, 1) := by decide +kernel
theorem dX3_add_42 : decode cX3_add 42 = .ok (.ireturn, 1) := by decide +kernel
theorem dX3_find_0 : decode cX3_find 0 = .ok (.aload_n 0, 1) := by decide +kernel
theorem dX3_find_1 : decode cX3_find 1 = .ok (.iconst 0, 1) := by decide +kernel
theorem dX3_find_2 : decode cX3_find 2 = .ok (.putfield 22, 3) := by decide +kernel
theorem dX3_find_5 : decode cX3_find 5 = .ok (.aload_n 0, 1) := by decide +kernel
theorem dX3_find_6 : decode cX3_find 6 = .ok (.iconst 0, 1) := by decide +kernel
theorem dX3_find_7 : decode cX3_find 7 = .ok (.putfield 25, 3) := by decide +kernel
theorem dX3_find_10 : decode cX3_find 10 = .ok (.aload_n 0, 1) := by decide +kernel
theorem dX3_find_11 : decode cX3_find 11 = .ok (.iload_n 2, 1) := by decide +kernel
theorem dX3_find_12 : decode cX3_find 12 = .ok (.putfield 28, 3) := by decide +kernel
theorem dX3_find_15 : decode cX3_find 15 = .ok (.aload_n 1, 1) := by decide +kernel
theorem dX3_find_16 : decode cX3_find 16 = .ok (.getfield 31, 3) := by decide +kernel
theorem dX3_find_19 : decode cX3_find 19 = .ok (.ifCond .le 21, 3) := by decide +kernel
theorem dX3_find_22 : decode cX3_find 22 = .ok (.aload_n 0, 1) := by decide +kernel
theorem dX3_find_23 : decode cX3_find 23 = .ok (.aload_n 1, 1) := by decide +kernel
theorem dX3_find_24 : decode cX3_find 24 = .ok (.iconst 1, 1) := by decide +kernel
theorem dX3_find_25 : decode cX3_find 25 = .ok (.aload_n 1, 1) := by decide +kernel
theorem dX3_find_26 : decode cX3_find 26 = .ok (.getfield 34, 3) := by decide +kernel
theorem dX3_find_29 : decode cX3_find 29 = .ok (.ishl, 1) := by decide +kernel
theorem dX3_find_30 : decode cX3_find 30 = .ok (.iconst 1, 1) := by decide +kernel
theorem dX3_find_31 : decode cX3_find 31 = .ok (.isub, 1) := by decide +kernel
theorem dX3_find_32 : decode cX3_find 32 = .ok (.aload_n 1, 1) := by decide +kernel
theorem dX3_find_33 : decode cX3_find 33 = .ok (.getfield 37, 3) := by decide +kernel
theorem dX3_find_36 : decode cX3_find 36 = .ok (.iconst 0, 1) := by decide +kernel
theorem dX3_find_37 : decode cX3_find 37 = .ok (.invokevirtual 40, 3) := by decide +kernel
theorem dX3_find_40 : decode cX3_find 40 = .ok (.return_, 1) := by decide +kernel
theorem dX3_meet_0 : decode cX3_meet 0 = .ok (.aload_n 0, 1) := by decide +kernel
theorem dX3_meet_1 : decode cX3_meet 1 = .ok (.invokevirtual 44, 3) := by decide +kernel
theorem dX3_meet_4 : decode cX3_meet 4 = .ok (.ifCond .eq 30, 3) := by decide +kernel
theorem dX3_meet_7 : decode cX3_meet 7 = .ok (.aload_n 0, 1) := by decide +kernel
theorem dX3_meet_8 : decode cX3_meet 8 = .ok (.dup, 1) := by decide +kernel
theorem dX3_meet_9 : decode cX3_meet 9 = .ok (.getfield 22, 3) := by decide +kernel
theorem dX3_meet_12 : decode cX3_meet 12 = .ok (.iconst 1, 1) := by decide +kernel
theorem dX3_meet_13 : decode cX3_meet 13 = .ok (.iadd, 1) := by decide +kernel
theorem dX3_meet_14 : decode cX3_meet 14 = .ok (.putfield 22, 3) := by decide +kernel
theorem dX3_meet_17 : decode cX3_meet 17 = .ok (.aload_n 0, 1) := by decide +kernel
theorem dX3_meet_18 : decode cX3_meet 18 = .ok (.dup, 1) := by decide +kernel
theorem dX3_meet_19 : decode cX3_meet 19 = .ok (.getfield 25, 3) := by decide +kernel
theorem dX3_meet_22 : decode cX3_meet 22 = .ok (.iconst 1, 1) := by decide +kernel
theorem dX3_meet_23 : decode cX3_meet 23 = .ok (.aload_n 0, 1) := by decide +kernel
theorem dX3_meet_24 : decode cX3_meet 24 = .ok (.aload_n 1, 1) := by decide +kernel
theorem dX3_meet_25 : decode cX3_meet 25 = .ok (.iload_n 2, 1) := by decide +kernel
theorem dX3_meet_26 : decode cX3_meet 26 = .ok (.invokevirtual 48, 3) := by decide +kernel
theorem dX3_meet_29 : decode cX3_meet 29 = .ok (.ishl, 1) := by decide +kernel
theorem dX3_meet_30 : decode cX3_meet 30 = .ok (.ior, 1) := by decide +kernel
theorem dX3_meet_31 : decode cX3_meet 31 = .ok (.putfield 25, 3) := by decide +kernel
theorem dX3_meet_34 : decode cX3_meet 34 = .ok (.return_, 1) := by decide +kernel
theorem dX3_agrees_0 : decode cX3_agrees 0 = .ok (.iconst 0, 1) := by decide +kernel
theorem dX3_agrees_1 : decode cX3_agrees 1 = .ok (.istore_n 1, 1) := by decide +kernel
theorem dX3_agrees_2 : decode cX3_agrees 2 = .ok (.iload_n 1, 1) := by decide +kernel
theorem dX3_agrees_3 : decode cX3_agrees 3 = .ok (.aload_n 0, 1) := by decide +kernel
theorem dX3_agrees_4 : decode cX3_agrees 4 = .ok (.getfield 18, 3) := by decide +kernel
theorem dX3_agrees_7 : decode cX3_agrees 7 = .ok (.if_icmp .ge 31, 3) := by decide +kernel
theorem dX3_agrees_10 : decode cX3_agrees 10 = .ok (.aload_n 0, 1) := by decide +kernel
theorem dX3_agrees_11 : decode cX3_agrees 11 = .ok (.getfield 52, 3) := by decide +kernel
theorem dX3_agrees_14 : decode cX3_agrees 14 = .ok (.aload_n 0, 1) := by decide +kernel
theorem dX3_agrees_15 : decode cX3_agrees 15 = .ok (.getfield 9, 3) := by decide +kernel
theorem dX3_agrees_18 : decode cX3_agrees 18 = .ok (.iload_n 1, 1) := by decide +kernel
theorem dX3_agrees_19 : decode cX3_agrees 19 = .ok (.iaload, 1) := by decide +kernel
theorem dX3_agrees_20 : decode cX3_agrees 20 = .ok (.iaload, 1) := by decide +kernel
theorem dX3_agrees_21 : decode cX3_agrees 21 = .ok (.aload_n 0, 1) := by decide +kernel
theorem dX3_agrees_22 : decode cX3_agrees 22 = .ok (.getfield 15, 3) := by decide +kernel
theorem dX3_agrees_25 : decode cX3_agrees 25 = .ok (.iload_n 1, 1) := by decide +kernel
theorem dX3_agrees_26 : decode cX3_agrees 26 = .ok (.iaload, 1) := by decide +kernel
theorem dX3_agrees_27 : decode cX3_agrees 27 = .ok (.if_icmp .eq 5, 3) := by decide +kernel
theorem dX3_agrees_30 : decode cX3_agrees 30 = .ok (.iconst 0, 1) := by decide +kernel
theorem dX3_agrees_31 : decode cX3_agrees 31 = .ok (.ireturn, 1) := by decide +kernel
theorem dX3_agrees_32 : decode cX3_agrees 32 = .ok (.iinc 1 1, 3) := by decide +kernel
theorem dX3_agrees_35 : decode cX3_agrees 35 = .ok (.goto (-33), 3) := by decide +kernel
theorem dX3_agrees_38 : decode cX3_agrees 38 = .ok (.iconst 1, 1) := by decide +kernel
theorem dX3_agrees_39 : decode cX3_agrees 39 = .ok (.ireturn, 1) := by decide +kernel
theorem dX3_placeOf_0 : decode cX3_placeOf 0 = .ok (.aload_n 1, 1) := by decide +kernel
theorem dX3_placeOf_1 : decode cX3_placeOf 1 = .ok (.getfield 37, 3) := by decide +kernel
theorem dX3_placeOf_4 : decode cX3_placeOf 4 = .ok (.istore_n 3, 1) := by decide +kernel
theorem dX3_placeOf_5 : decode cX3_placeOf 5 = .ok (.iconst 0, 1) := by decide +kernel
theorem dX3_placeOf_6 : decode cX3_placeOf 6 = .ok (.istore 4, 2) := by decide +kernel
theorem dX3_placeOf_8 : decode cX3_placeOf 8 = .ok (.iconst 0, 1) := by decide +kernel
theorem dX3_placeOf_9 : decode cX3_placeOf 9 = .ok (.istore 5, 2) := by decide +kernel
theorem dX3_placeOf_11 : decode cX3_placeOf 11 = .ok (.iload 5, 2) := by decide +kernel
theorem dX3_placeOf_13 : decode cX3_placeOf 13 = .ok (.iload_n 2, 1) := by decide +kernel
theorem dX3_placeOf_14 : decode cX3_placeOf 14 = .ok (.if_icmp .ge 44, 3) := by decide +kernel
theorem dX3_placeOf_17 : decode cX3_placeOf 17 = .ok (.iload 4, 2) := by decide +kernel
theorem dX3_placeOf_19 : decode cX3_placeOf 19 = .ok (.aload_n 0, 1) := by decide +kernel
theorem dX3_placeOf_20 : decode cX3_placeOf 20 = .ok (.getfield 28, 3) := by decide +kernel
theorem dX3_placeOf_23 : decode cX3_placeOf 23 = .ok (.if_icmp .gt 35, 3) := by decide +kernel
theorem dX3_placeOf_26 : decode cX3_placeOf 26 = .ok (.aload_n 1, 1) := by decide +kernel
theorem dX3_placeOf_27 : decode cX3_placeOf 27 = .ok (.aload_n 0, 1) := by decide +kernel
theorem dX3_placeOf_28 : decode cX3_placeOf 28 = .ok (.getfield 55, 3) := by decide +kernel
theorem dX3_placeOf_31 : decode cX3_placeOf 31 = .ok (.iload 5, 2) := by decide +kernel
theorem dX3_placeOf_33 : decode cX3_placeOf 33 = .ok (.iaload, 1) := by decide +kernel
theorem dX3_placeOf_34 : decode cX3_placeOf 34 = .ok (.invokevirtual 58, 3) := by decide +kernel
theorem dX3_placeOf_37 : decode cX3_placeOf 37 = .ok (.istore_n 3, 1) := by decide +kernel
theorem dX3_placeOf_38 : decode cX3_placeOf 38 = .ok (.aload_n 0, 1) := by decide +kernel
theorem dX3_placeOf_39 : decode cX3_placeOf 39 = .ok (.getfield 52, 3) := by decide +kernel
theorem dX3_placeOf_42 : decode cX3_placeOf 42 = .ok (.aload_n 0, 1) := by decide +kernel
theorem dX3_placeOf_43 : decode cX3_placeOf 43 = .ok (.getfield 55, 3) := by decide +kernel
theorem dX3_placeOf_46 : decode cX3_placeOf 46 = .ok (.iload 5, 2) := by decide +kernel
theorem dX3_placeOf_48 : decode cX3_placeOf 48 = .ok (.iaload, 1) := by decide +kernel
theorem dX3_placeOf_49 : decode cX3_placeOf 49 = .ok (.iaload, 1) := by decide +kernel
theorem dX3_placeOf_50 : decode cX3_placeOf 50 = .ok (.istore 4, 2) := by decide +kernel
theorem dX3_placeOf_52 : decode cX3_placeOf 52 = .ok (.iinc 5 1, 3) := by decide +kernel
theorem dX3_placeOf_55 : decode cX3_placeOf 55 = .ok (.goto (-44), 3) := by decide +kernel
theorem dX3_placeOf_58 : decode cX3_placeOf 58 = .ok (.iload_n 3, 1) := by decide +kernel
theorem dX3_placeOf_59 : decode cX3_placeOf 59 = .ok (.ireturn, 1) := by decide +kernel
theorem dX4_init_0 : decode cX4_init 0 = .ok (.aload_n 0, 1) := by decide +kernel
theorem dX4_init_1 : decode cX4_init 1 = .ok (.invokespecial 3, 3) := by decide +kernel
theorem dX4_init_4 : decode cX4_init 4 = .ok (.aload_n 0, 1) := by decide +kernel
theorem dX4_init_5 : decode cX4_init 5 = .ok (.bipush 15, 2) := by decide +kernel
theorem dX4_init_7 : decode cX4_init 7 = .ok (.newarray .int, 2) := by decide +kernel
theorem dX4_init_9 : decode cX4_init 9 = .ok (.putfield 9, 3) := by decide +kernel
theorem dX4_init_12 : decode cX4_init 12 = .ok (.aload_n 0, 1) := by decide +kernel
theorem dX4_init_13 : decode cX4_init 13 = .ok (.bipush 15, 2) := by decide +kernel
theorem dX4_init_15 : decode cX4_init 15 = .ok (.newarray .int, 2) := by decide +kernel
theorem dX4_init_17 : decode cX4_init 17 = .ok (.putfield 15, 3) := by decide +kernel
theorem dX4_init_20 : decode cX4_init 20 = .ok (.return_, 1) := by decide +kernel
theorem dX4_add_0 : decode cX4_add 0 = .ok (.aload_n 0, 1) := by decide +kernel
theorem dX4_add_1 : decode cX4_add 1 = .ok (.getfield 18, 3) := by decide +kernel
theorem dX4_add_4 : decode cX4_add 4 = .ok (.bipush 15, 2) := by decide +kernel
theorem dX4_add_6 : decode cX4_add 6 = .ok (.if_icmp .lt 5, 3) := by decide +kernel
theorem dX4_add_9 : decode cX4_add 9 = .ok (.iconst 0, 1) := by decide +kernel
theorem dX4_add_10 : decode cX4_add 10 = .ok (.ireturn, 1) := by decide +kernel
theorem dX4_add_11 : decode cX4_add 11 = .ok (.aload_n 0, 1) := by decide +kernel
theorem dX4_add_12 : decode cX4_add 12 = .ok (.getfield 9, 3) := by decide +kernel
theorem dX4_add_15 : decode cX4_add 15 = .ok (.aload_n 0, 1) := by decide +kernel
theorem dX4_add_16 : decode cX4_add 16 = .ok (.getfield 18, 3) := by decide +kernel
theorem dX4_add_19 : decode cX4_add 19 = .ok (.iload_n 1, 1) := by decide +kernel
theorem dX4_add_20 : decode cX4_add 20 = .ok (.iastore, 1) := by decide +kernel
theorem dX4_add_21 : decode cX4_add 21 = .ok (.aload_n 0, 1) := by decide +kernel
theorem dX4_add_22 : decode cX4_add 22 = .ok (.getfield 15, 3) := by decide +kernel
theorem dX4_add_25 : decode cX4_add 25 = .ok (.aload_n 0, 1) := by decide +kernel
theorem dX4_add_26 : decode cX4_add 26 = .ok (.getfield 18, 3) := by decide +kernel
theorem dX4_add_29 : decode cX4_add 29 = .ok (.iload_n 2, 1) := by decide +kernel
theorem dX4_add_30 : decode cX4_add 30 = .ok (.iastore, 1) := by decide +kernel
theorem dX4_add_31 : decode cX4_add 31 = .ok (.aload_n 0, 1) := by decide +kernel
theorem dX4_add_32 : decode cX4_add 32 = .ok (.dup, 1) := by decide +kernel
theorem dX4_add_33 : decode cX4_add 33 = .ok (.getfield 18, 3) := by decide +kernel
theorem dX4_add_36 : decode cX4_add 36 = .ok (.iconst 1, 1) := by decide +kernel
theorem dX4_add_37 : decode cX4_add 37 = .ok (.iadd, 1) := by decide +kernel
theorem dX4_add_38 : decode cX4_add 38 = .ok (.putfield 18, 3) := by decide +kernel
theorem dX4_add_41 : decode cX4_add 41 = .ok (.iconst 1, 1) := by decide +kernel
theorem dX4_add_42 : decode cX4_add 42 = .ok (.ireturn, 1) := by decide +kernel
theorem dX4_firstWrong_0 : decode cX4_firstWrong 0 = .ok (.iconst 0, 1) := by decide +kernel
theorem dX4_firstWrong_1 : decode cX4_firstWrong 1 = .ok (.istore_n 2, 1) := by decide +kernel
theorem dX4_firstWrong_2 : decode cX4_firstWrong 2 = .ok (.iload_n 2, 1) := by decide +kernel
theorem dX4_firstWrong_3 : decode cX4_firstWrong 3 = .ok (.aload_n 0, 1) := by decide +kernel
theorem dX4_firstWrong_4 : decode cX4_firstWrong 4 = .ok (.getfield 18, 3) := by decide +kernel
theorem dX4_firstWrong_7 : decode cX4_firstWrong 7 = .ok (.if_icmp .ge 31, 3) := by decide +kernel
theorem dX4_firstWrong_10 : decode cX4_firstWrong 10 = .ok (.aload_n 1, 1) := by decide +kernel
theorem dX4_firstWrong_11 : decode cX4_firstWrong 11 = .ok (.getfield 22, 3) := by decide +kernel
theorem dX4_firstWrong_14 : decode cX4_firstWrong 14 = .ok (.aload_n 0, 1) := by decide +kernel
theorem dX4_firstWrong_15 : decode cX4_firstWrong 15 = .ok (.getfield 9, 3) := by decide +kernel
theorem dX4_firstWrong_18 : decode cX4_firstWrong 18 = .ok (.iload_n 2, 1) := by decide +kernel
theorem dX4_firstWrong_19 : decode cX4_firstWrong 19 = .ok (.iaload, 1) := by decide +kernel
theorem dX4_firstWrong_20 : decode cX4_firstWrong 20 = .ok (.iaload, 1) := by decide +kernel
theorem dX4_firstWrong_21 : decode cX4_firstWrong 21 = .ok (.aload_n 0, 1) := by decide +kernel
theorem dX4_firstWrong_22 : decode cX4_firstWrong 22 = .ok (.getfield 15, 3) := by decide +kernel
theorem dX4_firstWrong_25 : decode cX4_firstWrong 25 = .ok (.iload_n 2, 1) := by decide +kernel
theorem dX4_firstWrong_26 : decode cX4_firstWrong 26 = .ok (.iaload, 1) := by decide +kernel
theorem dX4_firstWrong_27 : decode cX4_firstWrong 27 = .ok (.if_icmp .eq 5, 3) := by decide +kernel
theorem dX4_firstWrong_30 : decode cX4_firstWrong 30 = .ok (.iload_n 2, 1) := by decide +kernel
theorem dX4_firstWrong_31 : decode cX4_firstWrong 31 = .ok (.ireturn, 1) := by decide +kernel
theorem dX4_firstWrong_32 : decode cX4_firstWrong 32 = .ok (.iinc 2 1, 3) := by decide +kernel
theorem dX4_firstWrong_35 : decode cX4_firstWrong 35 = .ok (.goto (-33), 3) := by decide +kernel
theorem dX4_firstWrong_38 : decode cX4_firstWrong 38 = .ok (.iconst (-1), 1) := by decide +kernel
theorem dX4_firstWrong_39 : decode cX4_firstWrong 39 = .ok (.ireturn, 1) := by decide +kernel
theorem dX5_init_0 : decode cX5_init 0 = .ok (.aload_n 0, 1) := by decide +kernel
theorem dX5_init_1 : decode cX5_init 1 = .ok (.invokespecial 3, 3) := by decide +kernel
theorem dX5_init_4 : decode cX5_init 4 = .ok (.aload_n 0, 1) := by decide +kernel
theorem dX5_init_5 : decode cX5_init 5 = .ok (.bipush 64, 2) := by decide +kernel
theorem dX5_init_7 : decode cX5_init 7 = .ok (.newarray .boolean, 2) := by decide +kernel
theorem dX5_init_9 : decode cX5_init 9 = .ok (.putfield 9, 3) := by decide +kernel
theorem dX5_init_12 : decode cX5_init 12 = .ok (.return_, 1) := by decide +kernel
theorem dX5_find_0 : decode cX5_find 0 = .ok (.iconst 0, 1) := by decide +kernel
theorem dX5_find_1 : decode cX5_find 1 = .ok (.istore 5, 2) := by decide +kernel
theorem dX5_find_3 : decode cX5_find 3 = .ok (.iload 5, 2) := by decide +kernel
theorem dX5_find_5 : decode cX5_find 5 = .ok (.aload_n 0, 1) := by decide +kernel
theorem dX5_find_6 : decode cX5_find 6 = .ok (.getfield 9, 3) := by decide +kernel
theorem dX5_find_9 : decode cX5_find 9 = .ok (.arraylength, 1) := by decide +kernel
theorem dX5_find_10 : decode cX5_find 10 = .ok (.if_icmp .ge 17, 3) := by decide +kernel
theorem dX5_find_13 : decode cX5_find 13 = .ok (.aload_n 0, 1) := by decide +kernel
theorem dX5_find_14 : decode cX5_find 14 = .ok (.getfield 9, 3) := by decide +kernel
theorem dX5_find_17 : decode cX5_find 17 = .ok (.iload 5, 2) := by decide +kernel
theorem dX5_find_19 : decode cX5_find 19 = .ok (.iconst 0, 1) := by decide +kernel
theorem dX5_find_20 : decode cX5_find 20 = .ok (.bastore, 1) := by decide +kernel
theorem dX5_find_21 : decode cX5_find 21 = .ok (.iinc 5 1, 3) := by decide +kernel
theorem dX5_find_24 : decode cX5_find 24 = .ok (.goto (-21), 3) := by decide +kernel
theorem dX5_find_27 : decode cX5_find 27 = .ok (.aload_n 0, 1) := by decide +kernel
theorem dX5_find_28 : decode cX5_find 28 = .ok (.aload_n 1, 1) := by decide +kernel
theorem dX5_find_29 : decode cX5_find 29 = .ok (.iload_n 2, 1) := by decide +kernel
theorem dX5_find_30 : decode cX5_find 30 = .ok (.iload_n 3, 1) := by decide +kernel
theorem dX5_find_31 : decode cX5_find 31 = .ok (.iload 4, 2) := by decide +kernel
theorem dX5_find_33 : decode cX5_find 33 = .ok (.invokevirtual 15, 3) := by decide +kernel
theorem dX5_find_36 : decode cX5_find 36 = .ok (.return_, 1) := by decide +kernel
theorem dX5_meet_0 : decode cX5_meet 0 = .ok (.aload_n 0, 1) := by decide +kernel
theorem dX5_meet_1 : decode cX5_meet 1 = .ok (.getfield 9, 3) := by decide +kernel
theorem dX5_meet_4 : decode cX5_meet 4 = .ok (.aload_n 0, 1) := by decide +kernel
theorem dX5_meet_5 : decode cX5_meet 5 = .ok (.iload_n 2, 1) := by decide +kernel
theorem dX5_meet_6 : decode cX5_meet 6 = .ok (.invokevirtual 19, 3) := by decide +kernel
theorem dX5_meet_9 : decode cX5_meet 9 = .ok (.iconst 1, 1) := by decide +kernel
theorem dX5_meet_10 : decode cX5_meet 10 = .ok (.bastore, 1) := by decide +kernel
theorem dX5_meet_11 : decode cX5_meet 11 = .ok (.return_, 1) := by decide +kernel
theorem dX6_init_0 : decode cX6_init 0 = .ok (.aload_n 0, 1) := by decide +kernel
theorem dX6_init_1 : decode cX6_init 1 = .ok (.invokespecial 3, 3) := by decide +kernel
theorem dX6_init_4 : decode cX6_init 4 = .ok (.aload_n 0, 1) := by decide +kernel
theorem dX6_init_5 : decode cX6_init 5 = .ok (.sipush 250, 3) := by decide +kernel
theorem dX6_init_8 : decode cX6_init 8 = .ok (.newarray .char, 2) := by decide +kernel
theorem dX6_init_10 : decode cX6_init 10 = .ok (.putfield 9, 3) := by decide +kernel
theorem dX6_init_13 : decode cX6_init 13 = .ok (.aload_n 0, 1) := by decide +kernel
theorem dX6_init_14 : decode cX6_init 14 = .ok (.bipush 7, 2) := by decide +kernel
theorem dX6_init_16 : decode cX6_init 16 = .ok (.newarray .int, 2) := by decide +kernel
theorem dX6_init_18 : decode cX6_init 18 = .ok (.putfield 15, 3) := by decide +kernel
theorem dX6_init_21 : decode cX6_init 21 = .ok (.aload_n 0, 1) := by decide +kernel
theorem dX6_init_22 : decode cX6_init 22 = .ok (.iconst 4, 1) := by decide +kernel
theorem dX6_init_23 : decode cX6_init 23 = .ok (.newarray .int, 2) := by decide +kernel
theorem dX6_init_25 : decode cX6_init 25 = .ok (.putfield 19, 3) := by decide +kernel
theorem dX6_init_28 : decode cX6_init 28 = .ok (.return_, 1) := by decide +kernel
theorem dX6_add_0 : decode cX6_add 0 = .ok (.aload_n 0, 1) := by decide +kernel
theorem dX6_add_1 : decode cX6_add 1 = .ok (.getfield 22, 3) := by decide +kernel
theorem dX6_add_4 : decode cX6_add 4 = .ok (.sipush 250, 3) := by decide +kernel
theorem dX6_add_7 : decode cX6_add 7 = .ok (.if_icmp .lt 5, 3) := by decide +kernel
theorem dX6_add_10 : decode cX6_add 10 = .ok (.iconst 0, 1) := by decide +kernel
theorem dX6_add_11 : decode cX6_add 11 = .ok (.ireturn, 1) := by decide +kernel
theorem dX6_add_12 : decode cX6_add 12 = .ok (.aload_n 0, 1) := by decide +kernel
theorem dX6_add_13 : decode cX6_add 13 = .ok (.getfield 9, 3) := by decide +kernel
theorem dX6_add_16 : decode cX6_add 16 = .ok (.aload_n 0, 1) := by decide +kernel
theorem dX6_add_17 : decode cX6_add 17 = .ok (.getfield 22, 3) := by decide +kernel
theorem dX6_add_20 : decode cX6_add 20 = .ok (.iload_n 1, 1) := by decide +kernel
theorem dX6_add_21 : decode cX6_add 21 = .ok (.castore, 1) := by decide +kernel
theorem dX6_add_22 : decode cX6_add 22 = .ok (.aload_n 0, 1) := by decide +kernel
theorem dX6_add_23 : decode cX6_add 23 = .ok (.dup, 1) := by decide +kernel
theorem dX6_add_24 : decode cX6_add 24 = .ok (.getfield 22, 3) := by decide +kernel
theorem dX6_add_27 : decode cX6_add 27 = .ok (.iconst 1, 1) := by decide +kernel
theorem dX6_add_28 : decode cX6_add 28 = .ok (.iadd, 1) := by decide +kernel
theorem dX6_add_29 : decode cX6_add 29 = .ok (.putfield 22, 3) := by decide +kernel
theorem dX6_add_32 : decode cX6_add 32 = .ok (.iconst 1, 1) := by decide +kernel
theorem dX6_add_33 : decode cX6_add 33 = .ok (.ireturn, 1) := by decide +kernel
theorem dX6_read_0 : decode cX6_read 0 = .ok (.aload_n 0, 1) := by decide +kernel
theorem dX6_read_1 : decode cX6_read 1 = .ok (.iconst 0, 1) := by decide +kernel
theorem dX6_read_2 : decode cX6_read 2 = .ok (.putfield 26, 3) := by decide +kernel
theorem dX6_read_5 : decode cX6_read 5 = .ok (.aload_n 0, 1) := by decide +kernel
theorem dX6_read_6 : decode cX6_read 6 = .ok (.iconst 0, 1) := by decide +kernel
theorem dX6_read_7 : decode cX6_read 7 = .ok (.putfield 29, 3) := by decide +kernel
theorem dX6_read_10 : decode cX6_read 10 = .ok (.aload_n 0, 1) := by decide +kernel
theorem dX6_read_11 : decode cX6_read 11 = .ok (.getfield 15, 3) := by decide +kernel
theorem dX6_read_14 : decode cX6_read 14 = .ok (.iconst 0, 1) := by decide +kernel
theorem dX6_read_15 : decode cX6_read 15 = .ok (.invokestatic 32, 3) := by decide +kernel
theorem dX6_read_18 : decode cX6_read 18 = .ok (.aload_n 1, 1) := by decide +kernel
theorem dX6_read_19 : decode cX6_read 19 = .ok (.invokevirtual 38, 3) := by decide +kernel
theorem dX6_read_22 : decode cX6_read 22 = .ok (.aload_n 0, 1) := by decide +kernel
theorem dX6_read_23 : decode cX6_read 23 = .ok (.invokevirtual 43, 3) := by decide +kernel
theorem dX6_read_26 : decode cX6_read 26 = .ok (.iconst 0, 1) := by decide +kernel
theorem dX6_read_27 : decode cX6_read 27 = .ok (.istore_n 2, 1) := by decide +kernel
theorem dX6_read_28 : decode cX6_read 28 = .ok (.iload_n 2, 1) := by decide +kernel
theorem dX6_read_29 : decode cX6_read 29 = .ok (.sipush 250, 3) := by decide +kernel
theorem dX6_read_32 : decode cX6_read 32 = .ok (.if_icmp .ge 32, 3) := by decide +kernel
theorem dX6_read_35 : decode cX6_read 35 = .ok (.aload_n 0, 1) := by decide +kernel
theorem dX6_read_36 : decode cX6_read 36 = .ok (.getfield 26, 3) := by decide +kernel
theorem dX6_read_39 : decode cX6_read 39 = .ok (.aload_n 0, 1) := by decide +kernel
theorem dX6_read_40 : decode cX6_read 40 = .ok (.getfield 22, 3) := by decide +kernel
theorem dX6_read_43 : decode cX6_read 43 = .ok (.if_icmp .ge 21, 3) := by decide +kernel
theorem dX6_read_46 : decode cX6_read 46 = .ok (.aload_n 0, 1) := by decide +kernel
theorem dX6_read_47 : decode cX6_read 47 = .ok (.getfield 29, 3) := by decide +kernel
theorem dX6_read_50 : decode cX6_read 50 = .ok (.ifCond .ne 14, 3) := by decide +kernel
theorem dX6_read_53 : decode cX6_read 53 = .ok (.aload_n 0, 1) := by decide +kernel
theorem dX6_read_54 : decode cX6_read 54 = .ok (.aload_n 1, 1) := by decide +kernel
theorem dX6_read_55 : decode cX6_read 55 = .ok (.invokevirtual 46, 3) := by decide +kernel
theorem dX6_read_58 : decode cX6_read 58 = .ok (.iinc 2 1, 3) := by decide +kernel
theorem dX6_read_61 : decode cX6_read 61 = .ok (.goto (-33), 3) := by decide +kernel
theorem dX6_read_64 : decode cX6_read 64 = .ok (.aload_n 0, 1) := by decide +kernel
theorem dX6_read_65 : decode cX6_read 65 = .ok (.getfield 29, 3) := by decide +kernel
theorem dX6_read_68 : decode cX6_read 68 = .ok (.ireturn, 1) := by decide +kernel
theorem dX6_skipBlanks_0 : decode cX6_skipBlanks 0 = .ok (.aload_n 0, 1) := by decide +kernel
theorem dX6_skipBlanks_1 : decode cX6_skipBlanks 1 = .ok (.getfield 26, 3) := by decide +kernel
theorem dX6_skipBlanks_4 : decode cX6_skipBlanks 4 = .ok (.aload_n 0, 1) := by decide +kernel
theorem dX6_skipBlanks_5 : decode cX6_skipBlanks 5 = .ok (.getfield 22, 3) := by decide +kernel
theorem dX6_skipBlanks_8 : decode cX6_skipBlanks 8 = .ok (.if_icmp .ge 30, 3) := by decide +kernel
theorem dX6_skipBlanks_11 : decode cX6_skipBlanks 11 = .ok (.aload_n 0, 1) := by decide +kernel
theorem dX6_skipBlanks_12 : decode cX6_skipBlanks 12 = .ok (.getfield 9, 3) := by decide +kernel
theorem dX6_skipBlanks_15 : decode cX6_skipBlanks 15 = .ok (.aload_n 0, 1) := by decide +kernel
theorem dX6_skipBlanks_16 : decode cX6_skipBlanks 16 = .ok (.getfield 26, 3) := by decide +kernel
theorem dX6_skipBlanks_19 : decode cX6_skipBlanks 19 = .ok (.caload, 1) := by decide +kernel
theorem dX6_skipBlanks_20 : decode cX6_skipBlanks 20 = .ok (.bipush 32, 2) := by decide +kernel
theorem dX6_skipBlanks_22 : decode cX6_skipBlanks 22 = .ok (.if_icmp .ne 16, 3) := by decide +kernel
theorem dX6_skipBlanks_25 : decode cX6_skipBlanks 25 = .ok (.aload_n 0, 1) := by decide +kernel
theorem dX6_skipBlanks_26 : decode cX6_skipBlanks 26 = .ok (.dup, 1) := by decide +kernel
theorem dX6_skipBlanks_27 : decode cX6_skipBlanks 27 = .ok (.getfield 26, 3) := by decide +kernel
theorem dX6_skipBlanks_30 : decode cX6_skipBlanks 30 = .ok (.iconst 1, 1) := by decide +kernel
theorem dX6_skipBlanks_31 : decode cX6_skipBlanks 31 = .ok (.iadd, 1) := by decide +kernel
theorem dX6_skipBlanks_32 : decode cX6_skipBlanks 32 = .ok (.putfield 26, 3) := by decide +kernel
theorem dX6_skipBlanks_35 : decode cX6_skipBlanks 35 = .ok (.goto (-35), 3) := by decide +kernel
theorem dX6_skipBlanks_38 : decode cX6_skipBlanks 38 = .ok (.return_, 1) := by decide +kernel
theorem dX6_readClause_0 : decode cX6_readClause 0 = .ok (.ldc 50, 2) := by decide +kernel
theorem dX6_readClause_2 : decode cX6_readClause 2 = .ok (.aload_n 0, 1) := by decide +kernel
theorem dX6_readClause_3 : decode cX6_readClause 3 = .ok (.getfield 9, 3) := by decide +kernel
theorem dX6_readClause_6 : decode cX6_readClause 6 = .ok (.aload_n 0, 1) := by decide +kernel
theorem dX6_readClause_7 : decode cX6_readClause 7 = .ok (.getfield 26, 3) := by decide +kernel
theorem dX6_readClause_10 : decode cX6_readClause 10 = .ok (.caload, 1) := by decide +kernel
theorem dX6_readClause_11 : decode cX6_readClause 11 = .ok (.invokevirtual 52, 3) := by decide +kernel
theorem dX6_readClause_14 : decode cX6_readClause 14 = .ok (.istore_n 2, 1) := by decide +kernel
theorem dX6_readClause_15 : decode cX6_readClause 15 = .ok (.iload_n 2, 1) := by decide +kernel
theorem dX6_readClause_16 : decode cX6_readClause 16 = .ok (.ifCond .lt 16, 3) := by decide +kernel
theorem dX6_readClause_19 : decode cX6_readClause 19 = .ok (.iload_n 2, 1) := by decide +kernel
theorem dX6_readClause_20 : decode cX6_readClause 20 = .ok (.ifCond .eq 18, 3) := by decide +kernel
theorem dX6_readClause_23 : decode cX6_readClause 23 = .ok (.aload_n 0, 1) := by decide +kernel
theorem dX6_readClause_24 : decode cX6_readClause 24 = .ok (.getfield 15, 3) := by decide +kernel
theorem dX6_readClause_27 : decode cX6_readClause 27 = .ok (.iconst 0, 1) := by decide +kernel
theorem dX6_readClause_28 : decode cX6_readClause 28 = .ok (.iaload, 1) := by decide +kernel
theorem dX6_readClause_29 : decode cX6_readClause 29 = .ok (.ifCond .ne 9, 3) := by decide +kernel
theorem dX6_readClause_32 : decode cX6_readClause 32 = .ok (.aload_n 0, 1) := by decide +kernel
theorem dX6_readClause_33 : decode cX6_readClause 33 = .ok (.iconst 1, 1) := by decide +kernel
theorem dX6_readClause_34 : decode cX6_readClause 34 = .ok (.putfield 29, 3) := by decide +kernel
theorem dX6_readClause_37 : decode cX6_readClause 37 = .ok (.return_, 1) := by decide +kernel
theorem dX6_readClause_38 : decode cX6_readClause 38 = .ok (.aload_n 0, 1) := by decide +kernel
theorem dX6_readClause_39 : decode cX6_readClause 39 = .ok (.getfield 15, 3) := by decide +kernel
theorem dX6_readClause_42 : decode cX6_readClause 42 = .ok (.iload_n 2, 1) := by decide +kernel
theorem dX6_readClause_43 : decode cX6_readClause 43 = .ok (.iaload, 1) := by decide +kernel
theorem dX6_readClause_44 : decode cX6_readClause 44 = .ok (.getstatic 58, 3) := by decide +kernel
theorem dX6_readClause_47 : decode cX6_readClause 47 = .ok (.iload_n 2, 1) := by decide +kernel
theorem dX6_readClause_48 : decode cX6_readClause 48 = .ok (.iaload, 1) := by decide +kernel
theorem dX6_readClause_49 : decode cX6_readClause 49 = .ok (.if_icmp .lt 9, 3) := by decide +kernel
theorem dX6_readClause_52 : decode cX6_readClause 52 = .ok (.aload_n 0, 1) := by decide +kernel
theorem dX6_readClause_53 : decode cX6_readClause 53 = .ok (.iconst 3, 1) := by decide +kernel
theorem dX6_readClause_54 : decode cX6_readClause 54 = .ok (.putfield 29, 3) := by decide +kernel
theorem dX6_readClause_57 : decode cX6_readClause 57 = .ok (.return_, 1) := by decide +kernel
theorem dX6_readClause_58 : decode cX6_readClause 58 = .ok (.aload_n 0, 1) := by decide +kernel
theorem dX6_readClause_59 : decode cX6_readClause 59 = .ok (.getfield 15, 3) := by decide +kernel
theorem dX6_readClause_62 : decode cX6_readClause 62 = .ok (.iload_n 2, 1) := by decide +kernel
theorem dX6_readClause_63 : decode cX6_readClause 63 = .ok (.dup2, 1) := by decide +kernel
theorem dX6_readClause_64 : decode cX6_readClause 64 = .ok (.iaload, 1) := by decide +kernel
theorem dX6_readClause_65 : decode cX6_readClause 65 = .ok (.iconst 1, 1) := by decide +kernel
theorem dX6_readClause_66 : decode cX6_readClause 66 = .ok (.iadd, 1) := by decide +kernel
theorem dX6_readClause_67 : decode cX6_readClause 67 = .ok (.iastore, 1) := by decide +kernel
theorem dX6_readClause_68 : decode cX6_readClause 68 = .ok (.aload_n 0, 1) := by decide +kernel
theorem dX6_readClause_69 : decode cX6_readClause 69 = .ok (.dup, 1) := by decide +kernel
theorem dX6_readClause_70 : decode cX6_readClause 70 = .ok (.getfield 26, 3) := by decide +kernel
theorem dX6_readClause_73 : decode cX6_readClause 73 = .ok (.iconst 1, 1) := by decide +kernel
theorem dX6_readClause_74 : decode cX6_readClause 74 = .ok (.iadd, 1) := by decide +kernel
theorem dX6_readClause_75 : decode cX6_readClause 75 = .ok (.putfield 26, 3) := by decide +kernel
theorem dX6_readClause_78 : decode cX6_readClause 78 = .ok (.iconst 0, 1) := by decide +kernel
theorem dX6_readClause_79 : decode cX6_readClause 79 = .ok (.istore_n 3, 1) := by decide +kernel
theorem dX6_readClause_80 : decode cX6_readClause 80 = .ok (.iload_n 3, 1) := by decide +kernel
theorem dX6_readClause_81 : decode cX6_readClause 81 = .ok (.getstatic 61, 3) := by decide +kernel
theorem dX6_readClause_84 : decode cX6_readClause 84 = .ok (.iload_n 2, 1) := by decide +kernel
theorem dX6_readClause_85 : decode cX6_readClause 85 = .ok (.iaload, 1) := by decide +kernel
theorem dX6_readClause_86 : decode cX6_readClause 86 = .ok (.if_icmp .ge 23, 3) := by decide +kernel
theorem dX6_readClause_89 : decode cX6_readClause 89 = .ok (.aload_n 0, 1) := by decide +kernel
theorem dX6_readClause_90 : decode cX6_readClause 90 = .ok (.getfield 29, 3) := by decide +kernel
theorem dX6_readClause_93 : decode cX6_readClause 93 = .ok (.ifCond .ne 16, 3) := by decide +kernel
theorem dX6_readClause_96 : decode cX6_readClause 96 = .ok (.aload_n 0, 1) := by decide +kernel
theorem dX6_readClause_97 : decode cX6_readClause 97 = .ok (.aload_n 1, 1) := by decide +kernel
theorem dX6_readClause_98 : decode cX6_readClause 98 = .ok (.iload_n 2, 1) := by decide +kernel
theorem dX6_readClause_99 : decode cX6_readClause 99 = .ok (.iload_n 3, 1) := by decide +kernel
theorem dX6_readClause_100 : decode cX6_readClause 100 = .ok (.invokevirtual 64, 3) := by decide +kernel
theorem dX6_readClause_103 : decode cX6_readClause 103 = .ok (.iinc 3 1, 3) := by decide +kernel
theorem dX6_readClause_106 : decode cX6_readClause 106 = .ok (.goto (-26), 3) := by decide +kernel
theorem dX6_readClause_109 : decode cX6_readClause 109 = .ok (.aload_n 0, 1) := by decide +kernel
theorem dX6_readClause_110 : decode cX6_readClause 110 = .ok (.getfield 29, 3) := by decide +kernel
theorem dX6_readClause_113 : decode cX6_readClause 113 = .ok (.ifCond .ne 9, 3) := by decide +kernel
theorem dX6_readClause_116 : decode cX6_readClause 116 = .ok (.aload_n 0, 1) := by decide +kernel
theorem dX6_readClause_117 : decode cX6_readClause 117 = .ok (.aload_n 1, 1) := by decide +kernel
theorem dX6_readClause_118 : decode cX6_readClause 118 = .ok (.iload_n 2, 1) := by decide +kernel
theorem dX6_readClause_119 : decode cX6_readClause 119 = .ok (.invokevirtual 68, 3) := by decide +kernel
theorem dX6_readClause_122 : decode cX6_readClause 122 = .ok (.return_, 1) := by decide +kernel
theorem dX6_readEnd_0 : decode cX6_readEnd 0 = .ok (.aload_n 0, 1) := by decide +kernel
theorem dX6_readEnd_1 : decode cX6_readEnd 1 = .ok (.invokevirtual 43, 3) := by decide +kernel
theorem dX6_readEnd_4 : decode cX6_readEnd 4 = .ok (.aload_n 0, 1) := by decide +kernel
theorem dX6_readEnd_5 : decode cX6_readEnd 5 = .ok (.getfield 26, 3) := by decide +kernel
theorem dX6_readEnd_8 : decode cX6_readEnd 8 = .ok (.aload_n 0, 1) := by decide +kernel
theorem dX6_readEnd_9 : decode cX6_readEnd 9 = .ok (.getfield 22, 3) := by decide +kernel
theorem dX6_readEnd_12 : decode cX6_readEnd 12 = .ok (.if_icmp .ge 17, 3) := by decide +kernel
theorem dX6_readEnd_15 : decode cX6_readEnd 15 = .ok (.aload_n 0, 1) := by decide +kernel
theorem dX6_readEnd_16 : decode cX6_readEnd 16 = .ok (.getfield 9, 3) := by decide +kernel
theorem dX6_readEnd_19 : decode cX6_readEnd 19 = .ok (.aload_n 0, 1) := by decide +kernel
theorem dX6_readEnd_20 : decode cX6_readEnd 20 = .ok (.getfield 26, 3) := by decide +kernel
theorem dX6_readEnd_23 : decode cX6_readEnd 23 = .ok (.caload, 1) := by decide +kernel
theorem dX6_readEnd_24 : decode cX6_readEnd 24 = .ok (.bipush 59, 2) := by decide +kernel
theorem dX6_readEnd_26 : decode cX6_readEnd 26 = .ok (.if_icmp .eq 9, 3) := by decide +kernel
theorem dX6_readEnd_29 : decode cX6_readEnd 29 = .ok (.aload_n 0, 1) := by decide +kernel
theorem dX6_readEnd_30 : decode cX6_readEnd 30 = .ok (.iconst 1, 1) := by decide +kernel
theorem dX6_readEnd_31 : decode cX6_readEnd 31 = .ok (.putfield 29, 3) := by decide +kernel
theorem dX6_readEnd_34 : decode cX6_readEnd 34 = .ok (.return_, 1) := by decide +kernel
theorem dX6_readEnd_35 : decode cX6_readEnd 35 = .ok (.aload_n 0, 1) := by decide +kernel
theorem dX6_readEnd_36 : decode cX6_readEnd 36 = .ok (.dup, 1) := by decide +kernel
theorem dX6_readEnd_37 : decode cX6_readEnd 37 = .ok (.getfield 26, 3) := by decide +kernel
theorem dX6_readEnd_40 : decode cX6_readEnd 40 = .ok (.iconst 1, 1) := by decide +kernel
theorem dX6_readEnd_41 : decode cX6_readEnd 41 = .ok (.iadd, 1) := by decide +kernel
theorem dX6_readEnd_42 : decode cX6_readEnd 42 = .ok (.putfield 26, 3) := by decide +kernel
theorem dX6_readEnd_45 : decode cX6_readEnd 45 = .ok (.aload_n 0, 1) := by decide +kernel
theorem dX6_readEnd_46 : decode cX6_readEnd 46 = .ok (.aload_n 1, 1) := by decide +kernel
theorem dX6_readEnd_47 : decode cX6_readEnd 47 = .ok (.iload_n 2, 1) := by decide +kernel
theorem dX6_readEnd_48 : decode cX6_readEnd 48 = .ok (.invokevirtual 72, 3) := by decide +kernel
theorem dX6_readEnd_51 : decode cX6_readEnd 51 = .ok (.aload_n 0, 1) := by decide +kernel
theorem dX6_readEnd_52 : decode cX6_readEnd 52 = .ok (.invokevirtual 43, 3) := by decide +kernel
theorem dX6_readEnd_55 : decode cX6_readEnd 55 = .ok (.return_, 1) := by decide +kernel
theorem dX6_isFigure_0 : decode cX6_isFigure 0 = .ok (.iload_n 0, 1) := by decide +kernel
theorem dX6_isFigure_1 : decode cX6_isFigure 1 = .ok (.bipush 48, 2) := by decide +kernel
theorem dX6_isFigure_3 : decode cX6_isFigure 3 = .ok (.if_icmp .lt 13, 3) := by decide +kernel
theorem dX6_isFigure_6 : decode cX6_isFigure 6 = .ok (.iload_n 0, 1) := by decide +kernel
theorem dX6_isFigure_7 : decode cX6_isFigure 7 = .ok (.bipush 57, 2) := by decide +kernel
theorem dX6_isFigure_9 : decode cX6_isFigure 9 = .ok (.if_icmp .gt 7, 3) := by decide +kernel
theorem dX6_isFigure_12 : decode cX6_isFigure 12 = .ok (.iconst 1, 1) := by decide +kernel
theorem dX6_isFigure_13 : decode cX6_isFigure 13 = .ok (.goto 4, 3) := by decide +kernel
theorem dX6_isFigure_16 : decode cX6_isFigure 16 = .ok (.iconst 0, 1) := by decide +kernel
theorem dX6_isFigure_17 : decode cX6_isFigure 17 = .ok (.ireturn, 1) := by decide +kernel
theorem dX6_readNumber_0 : decode cX6_readNumber 0 = .ok (.aload_n 0, 1) := by decide +kernel
theorem dX6_readNumber_1 : decode cX6_readNumber 1 = .ok (.invokevirtual 43, 3) := by decide +kernel
theorem dX6_readNumber_4 : decode cX6_readNumber 4 = .ok (.aload_n 0, 1) := by decide +kernel
theorem dX6_readNumber_5 : decode cX6_readNumber 5 = .ok (.getfield 26, 3) := by decide +kernel
theorem dX6_readNumber_8 : decode cX6_readNumber 8 = .ok (.istore 4, 2) := by decide +kernel
theorem dX6_readNumber_10 : decode cX6_readNumber 10 = .ok (.iconst 0, 1) := by decide +kernel
theorem dX6_readNumber_11 : decode cX6_readNumber 11 = .ok (.istore 5, 2) := by decide +kernel
theorem dX6_readNumber_13 : decode cX6_readNumber 13 = .ok (.aload_n 0, 1) := by decide +kernel
theorem dX6_readNumber_14 : decode cX6_readNumber 14 = .ok (.getfield 26, 3) := by decide +kernel
theorem dX6_readNumber_17 : decode cX6_readNumber 17 = .ok (.aload_n 0, 1) := by decide +kernel
theorem dX6_readNumber_18 : decode cX6_readNumber 18 = .ok (.getfield 22, 3) := by decide +kernel
theorem dX6_readNumber_21 : decode cX6_readNumber 21 = .ok (.if_icmp .ge 67, 3) := by decide +kernel
theorem dX6_readNumber_24 : decode cX6_readNumber 24 = .ok (.aload_n 0, 1) := by decide +kernel
theorem dX6_readNumber_25 : decode cX6_readNumber 25 = .ok (.getfield 9, 3) := by decide +kernel
theorem dX6_readNumber_28 : decode cX6_readNumber 28 = .ok (.aload_n 0, 1) := by decide +kernel
theorem dX6_readNumber_29 : decode cX6_readNumber 29 = .ok (.getfield 26, 3) := by decide +kernel
theorem dX6_readNumber_32 : decode cX6_readNumber 32 = .ok (.caload, 1) := by decide +kernel
theorem dX6_readNumber_33 : decode cX6_readNumber 33 = .ok (.invokestatic 75, 3) := by decide +kernel
theorem dX6_readNumber_36 : decode cX6_readNumber 36 = .ok (.ifCond .eq 52, 3) := by decide +kernel
theorem dX6_readNumber_39 : decode cX6_readNumber 39 = .ok (.aload_n 0, 1) := by decide +kernel
theorem dX6_readNumber_40 : decode cX6_readNumber 40 = .ok (.getfield 26, 3) := by decide +kernel
theorem dX6_readNumber_43 : decode cX6_readNumber 43 = .ok (.iload 4, 2) := by decide +kernel
theorem dX6_readNumber_45 : decode cX6_readNumber 45 = .ok (.isub, 1) := by decide +kernel
theorem dX6_readNumber_46 : decode cX6_readNumber 46 = .ok (.iconst 3, 1) := by decide +kernel
theorem dX6_readNumber_47 : decode cX6_readNumber 47 = .ok (.if_icmp .ge 24, 3) := by decide +kernel
theorem dX6_readNumber_50 : decode cX6_readNumber 50 = .ok (.iload 5, 2) := by decide +kernel
theorem dX6_readNumber_52 : decode cX6_readNumber 52 = .ok (.bipush 10, 2) := by decide +kernel
theorem dX6_readNumber_54 : decode cX6_readNumber 54 = .ok (.imul, 1) := by decide +kernel
theorem dX6_readNumber_55 : decode cX6_readNumber 55 = .ok (.aload_n 0, 1) := by decide +kernel
theorem dX6_readNumber_56 : decode cX6_readNumber 56 = .ok (.getfield 9, 3) := by decide +kernel
theorem dX6_readNumber_59 : decode cX6_readNumber 59 = .ok (.aload_n 0, 1) := by decide +kernel
theorem dX6_readNumber_60 : decode cX6_readNumber 60 = .ok (.getfield 26, 3) := by decide +kernel
theorem dX6_readNumber_63 : decode cX6_readNumber 63 = .ok (.caload, 1) := by decide +kernel
theorem dX6_readNumber_64 : decode cX6_readNumber 64 = .ok (.bipush 48, 2) := by decide +kernel
theorem dX6_readNumber_66 : decode cX6_readNumber 66 = .ok (.isub, 1) := by decide +kernel
theorem dX6_readNumber_67 : decode cX6_readNumber 67 = .ok (.iadd, 1) := by decide +kernel
theorem dX6_readNumber_68 : decode cX6_readNumber 68 = .ok (.goto 5, 3) := by decide +kernel
theorem dX6_readNumber_71 : decode cX6_readNumber 71 = .ok (.iload 5, 2) := by decide +kernel
theorem dX6_readNumber_73 : decode cX6_readNumber 73 = .ok (.istore 5, 2) := by decide +kernel
theorem dX6_readNumber_75 : decode cX6_readNumber 75 = .ok (.aload_n 0, 1) := by decide +kernel
theorem dX6_readNumber_76 : decode cX6_readNumber 76 = .ok (.dup, 1) := by decide +kernel
theorem dX6_readNumber_77 : decode cX6_readNumber 77 = .ok (.getfield 26, 3) := by decide +kernel
theorem dX6_readNumber_80 : decode cX6_readNumber 80 = .ok (.iconst 1, 1) := by decide +kernel
theorem dX6_readNumber_81 : decode cX6_readNumber 81 = .ok (.iadd, 1) := by decide +kernel
theorem dX6_readNumber_82 : decode cX6_readNumber 82 = .ok (.putfield 26, 3) := by decide +kernel
theorem dX6_readNumber_85 : decode cX6_readNumber 85 = .ok (.goto (-72), 3) := by decide +kernel
theorem dX6_readNumber_88 : decode cX6_readNumber 88 = .ok (.aload_n 0, 1) := by decide +kernel
theorem dX6_readNumber_89 : decode cX6_readNumber 89 = .ok (.getfield 26, 3) := by decide +kernel
theorem dX6_readNumber_92 : decode cX6_readNumber 92 = .ok (.iload 4, 2) := by decide +kernel
theorem dX6_readNumber_94 : decode cX6_readNumber 94 = .ok (.isub, 1) := by decide +kernel
theorem dX6_readNumber_95 : decode cX6_readNumber 95 = .ok (.istore 6, 2) := by decide +kernel
theorem dX6_readNumber_97 : decode cX6_readNumber 97 = .ok (.iload 6, 2) := by decide +kernel
theorem dX6_readNumber_99 : decode cX6_readNumber 99 = .ok (.ifCond .ne 11, 3) := by decide +kernel
theorem dX6_readNumber_102 : decode cX6_readNumber 102 = .ok (.aload_n 0, 1) := by decide +kernel
theorem dX6_readNumber_103 : decode cX6_readNumber 103 = .ok (.iconst 1, 1) := by decide +kernel
theorem dX6_readNumber_104 : decode cX6_readNumber 104 = .ok (.putfield 29, 3) := by decide +kernel
theorem dX6_readNumber_107 : decode cX6_readNumber 107 = .ok (.goto 56, 3) := by decide +kernel
theorem dX6_readNumber_110 : decode cX6_readNumber 110 = .ok (.iload 6, 2) := by decide +kernel
theorem dX6_readNumber_112 : decode cX6_readNumber 112 = .ok (.iconst 3, 1) := by decide +kernel
theorem dX6_readNumber_113 : decode cX6_readNumber 113 = .ok (.if_icmp .gt 25, 3) := by decide +kernel
theorem dX6_readNumber_116 : decode cX6_readNumber 116 = .ok (.iload 5, 2) := by decide +kernel
theorem dX6_readNumber_118 : decode cX6_readNumber 118 = .ok (.iload_n 2, 1) := by decide +kernel
theorem dX6_readNumber_119 : decode cX6_readNumber 119 = .ok (.iload_n 3, 1) := by decide +kernel
theorem dX6_readNumber_120 : decode cX6_readNumber 120 = .ok (.invokestatic 79, 3) := by decide +kernel
theorem dX6_readNumber_123 : decode cX6_readNumber 123 = .ok (.if_icmp .lt 15, 3) := by decide +kernel
theorem dX6_readNumber_126 : decode cX6_readNumber 126 = .ok (.iload 5, 2) := by decide +kernel
theorem dX6_readNumber_128 : decode cX6_readNumber 128 = .ok (.aload_n 0, 1) := by decide +kernel
theorem dX6_readNumber_129 : decode cX6_readNumber 129 = .ok (.aload_n 1, 1) := by decide +kernel
theorem dX6_readNumber_130 : decode cX6_readNumber 130 = .ok (.iload_n 2, 1) := by decide +kernel
theorem dX6_readNumber_131 : decode cX6_readNumber 131 = .ok (.iload_n 3, 1) := by decide +kernel
theorem dX6_readNumber_132 : decode cX6_readNumber 132 = .ok (.invokevirtual 83, 3) := by decide +kernel
theorem dX6_readNumber_135 : decode cX6_readNumber 135 = .ok (.if_icmp .le 11, 3) := by decide +kernel
theorem dX6_readNumber_138 : decode cX6_readNumber 138 = .ok (.aload_n 0, 1) := by decide +kernel
theorem dX6_readNumber_139 : decode cX6_readNumber 139 = .ok (.iconst 2, 1) := by decide +kernel
theorem dX6_readNumber_140 : decode cX6_readNumber 140 = .ok (.putfield 29, 3) := by decide +kernel
theorem dX6_readNumber_143 : decode cX6_readNumber 143 = .ok (.goto 20, 3) := by decide +kernel
theorem dX6_readNumber_146 : decode cX6_readNumber 146 = .ok (.aload_n 0, 1) := by decide +kernel
theorem dX6_readNumber_147 : decode cX6_readNumber 147 = .ok (.aload_n 1, 1) := by decide +kernel
theorem dX6_readNumber_148 : decode cX6_readNumber 148 = .ok (.iload_n 2, 1) := by decide +kernel
theorem dX6_readNumber_149 : decode cX6_readNumber 149 = .ok (.iload_n 3, 1) := by decide +kernel
theorem dX6_readNumber_150 : decode cX6_readNumber 150 = .ok (.iload 5, 2) := by decide +kernel
theorem dX6_readNumber_152 : decode cX6_readNumber 152 = .ok (.invokevirtual 87, 3) := by decide +kernel
theorem dX6_readNumber_155 : decode cX6_readNumber 155 = .ok (.ifCond .eq 8, 3) := by decide +kernel
theorem dX6_readNumber_158 : decode cX6_readNumber 158 = .ok (.aload_n 0, 1) := by decide +kernel
theorem dX6_readNumber_159 : decode cX6_readNumber 159 = .ok (.iconst 4, 1) := by decide +kernel
theorem dX6_readNumber_160 : decode cX6_readNumber 160 = .ok (.putfield 29, 3) := by decide +kernel
theorem dX6_readNumber_163 : decode cX6_readNumber 163 = .ok (.aload_n 0, 1) := by decide +kernel
theorem dX6_readNumber_164 : decode cX6_readNumber 164 = .ok (.getfield 19, 3) := by decide +kernel
theorem dX6_readNumber_167 : decode cX6_readNumber 167 = .ok (.iload_n 3, 1) := by decide +kernel
theorem dX6_readNumber_168 : decode cX6_readNumber 168 = .ok (.iload 5, 2) := by decide +kernel
theorem dX6_readNumber_170 : decode cX6_readNumber 170 = .ok (.iastore, 1) := by decide +kernel
theorem dX6_readNumber_171 : decode cX6_readNumber 171 = .ok (.aload_n 0, 1) := by decide +kernel
theorem dX6_readNumber_172 : decode cX6_readNumber 172 = .ok (.aload_n 0, 1) := by decide +kernel
theorem dX6_readNumber_173 : decode cX6_readNumber 173 = .ok (.getfield 29, 3) := by decide +kernel
theorem dX6_readNumber_176 : decode cX6_readNumber 176 = .ok (.ifCond .ne 10, 3) := by decide +kernel
theorem dX6_readNumber_179 : decode cX6_readNumber 179 = .ok (.aload_n 0, 1) := by decide +kernel
theorem dX6_readNumber_180 : decode cX6_readNumber 180 = .ok (.getfield 26, 3) := by decide +kernel
theorem dX6_readNumber_183 : decode cX6_readNumber 183 = .ok (.goto 5, 3) := by decide +kernel
theorem dX6_readNumber_186 : decode cX6_readNumber 186 = .ok (.iload 4, 2) := by decide +kernel
theorem dX6_readNumber_188 : decode cX6_readNumber 188 = .ok (.putfield 26, 3) := by decide +kernel
theorem dX6_readNumber_191 : decode cX6_readNumber 191 = .ok (.return_, 1) := by decide +kernel
theorem dX6_lowest_0 : decode cX6_lowest 0 = .ok (.iload_n 0, 1) := by decide +kernel
theorem dX6_lowest_1 : decode cX6_lowest 1 = .ok (.tableswitch 82 0 6 #[43, 53, 82, 64, 82, 82, 80], 43) := by decide +kernel
theorem dX6_lowest_44 : decode cX6_lowest 44 = .ok (.iload_n 1, 1) := by decide +kernel
theorem dX6_lowest_45 : decode cX6_lowest 45 = .ok (.ifCond .ne 7, 3) := by decide +kernel
theorem dX6_lowest_48 : decode cX6_lowest 48 = .ok (.iconst 1, 1) := by decide +kernel
theorem dX6_lowest_49 : decode cX6_lowest 49 = .ok (.goto 4, 3) := by decide +kernel
theorem dX6_lowest_52 : decode cX6_lowest 52 = .ok (.iconst 0, 1) := by decide +kernel
theorem dX6_lowest_53 : decode cX6_lowest 53 = .ok (.ireturn, 1) := by decide +kernel
theorem dX6_lowest_54 : decode cX6_lowest 54 = .ok (.iload_n 1, 1) := by decide +kernel
theorem dX6_lowest_55 : decode cX6_lowest 55 = .ok (.iconst 2, 1) := by decide +kernel
theorem dX6_lowest_56 : decode cX6_lowest 56 = .ok (.if_icmp .ne 7, 3) := by decide +kernel
theorem dX6_lowest_59 : decode cX6_lowest 59 = .ok (.iconst 1, 1) := by decide +kernel
theorem dX6_lowest_60 : decode cX6_lowest 60 = .ok (.goto 4, 3) := by decide +kernel
theorem dX6_lowest_63 : decode cX6_lowest 63 = .ok (.iconst 0, 1) := by decide +kernel
theorem dX6_lowest_64 : decode cX6_lowest 64 = .ok (.ireturn, 1) := by decide +kernel
theorem dX6_lowest_65 : decode cX6_lowest 65 = .ok (.iload_n 1, 1) := by decide +kernel
theorem dX6_lowest_66 : decode cX6_lowest 66 = .ok (.iconst 1, 1) := by decide +kernel
theorem dX6_lowest_67 : decode cX6_lowest 67 = .ok (.if_icmp .eq 8, 3) := by decide +kernel
theorem dX6_lowest_70 : decode cX6_lowest 70 = .ok (.iload_n 1, 1) := by decide +kernel
theorem dX6_lowest_71 : decode cX6_lowest 71 = .ok (.iconst 2, 1) := by decide +kernel
theorem dX6_lowest_72 : decode cX6_lowest 72 = .ok (.if_icmp .ne 7, 3) := by decide +kernel
theorem dX6_lowest_75 : decode cX6_lowest 75 = .ok (.iconst 1, 1) := by decide +kernel
theorem dX6_lowest_76 : decode cX6_lowest 76 = .ok (.goto 4, 3) := by decide +kernel
theorem dX6_lowest_79 : decode cX6_lowest 79 = .ok (.iconst 0, 1) := by decide +kernel
theorem dX6_lowest_80 : decode cX6_lowest 80 = .ok (.ireturn, 1) := by decide +kernel
theorem dX6_lowest_81 : decode cX6_lowest 81 = .ok (.iconst 1, 1) := by decide +kernel
theorem dX6_lowest_82 : decode cX6_lowest 82 = .ok (.ireturn, 1) := by decide +kernel
theorem dX6_lowest_83 : decode cX6_lowest 83 = .ok (.iconst 0, 1) := by decide +kernel
theorem dX6_lowest_84 : decode cX6_lowest 84 = .ok (.ireturn, 1) := by decide +kernel
theorem dX6_highest_0 : decode cX6_highest 0 = .ok (.iload_n 2, 1) := by decide +kernel
theorem dX6_highest_1 : decode cX6_highest 1 = .ok (.tableswitch 142 0 5 #[39, 57, 74, 90, 109, 125], 39) := by decide +kernel
theorem dX6_highest_40 : decode cX6_highest 40 = .ok (.iload_n 3, 1) := by decide +kernel
theorem dX6_highest_41 : decode cX6_highest 41 = .ok (.ifCond .ne 8, 3) := by decide +kernel
theorem dX6_highest_44 : decode cX6_highest 44 = .ok (.bipush 7, 2) := by decide +kernel
theorem dX6_highest_46 : decode cX6_highest 46 = .ok (.goto 11, 3) := by decide +kernel
theorem dX6_highest_49 : decode cX6_highest 49 = .ok (.aload_n 0, 1) := by decide +kernel
theorem dX6_highest_50 : decode cX6_highest 50 = .ok (.getfield 19, 3) := by decide +kernel
theorem dX6_highest_53 : decode cX6_highest 53 = .ok (.iconst 0, 1) := by decide +kernel
theorem dX6_highest_54 : decode cX6_highest 54 = .ok (.iaload, 1) := by decide +kernel
theorem dX6_highest_55 : decode cX6_highest 55 = .ok (.iconst 1, 1) := by decide +kernel
theorem dX6_highest_56 : decode cX6_highest 56 = .ok (.isub, 1) := by decide +kernel
theorem dX6_highest_57 : decode cX6_highest 57 = .ok (.ireturn, 1) := by decide +kernel
theorem dX6_highest_58 : decode cX6_highest 58 = .ok (.iload_n 3, 1) := by decide +kernel
theorem dX6_highest_59 : decode cX6_highest 59 = .ok (.iconst 2, 1) := by decide +kernel
theorem dX6_highest_60 : decode cX6_highest 60 = .ok (.if_icmp .ge 12, 3) := by decide +kernel
theorem dX6_highest_63 : decode cX6_highest 63 = .ok (.aload_n 1, 1) := by decide +kernel
theorem dX6_highest_64 : decode cX6_highest 64 = .ok (.getfield 91, 3) := by decide +kernel
theorem dX6_highest_67 : decode cX6_highest 67 = .ok (.iconst 1, 1) := by decide +kernel
theorem dX6_highest_68 : decode cX6_highest 68 = .ok (.isub, 1) := by decide +kernel
theorem dX6_highest_69 : decode cX6_highest 69 = .ok (.goto 5, 3) := by decide +kernel
theorem dX6_highest_72 : decode cX6_highest 72 = .ok (.bipush 30, 2) := by decide +kernel
theorem dX6_highest_74 : decode cX6_highest 74 = .ok (.ireturn, 1) := by decide +kernel
theorem dX6_highest_75 : decode cX6_highest 75 = .ok (.iload_n 3, 1) := by decide +kernel
theorem dX6_highest_76 : decode cX6_highest 76 = .ok (.ifCond .ne 12, 3) := by decide +kernel
theorem dX6_highest_79 : decode cX6_highest 79 = .ok (.aload_n 1, 1) := by decide +kernel
theorem dX6_highest_80 : decode cX6_highest 80 = .ok (.getfield 91, 3) := by decide +kernel
theorem dX6_highest_83 : decode cX6_highest 83 = .ok (.iconst 1, 1) := by decide +kernel
theorem dX6_highest_84 : decode cX6_highest 84 = .ok (.isub, 1) := by decide +kernel
theorem dX6_highest_85 : decode cX6_highest 85 = .ok (.goto 5, 3) := by decide +kernel
theorem dX6_highest_88 : decode cX6_highest 88 = .ok (.bipush 99, 2) := by decide +kernel
theorem dX6_highest_90 : decode cX6_highest 90 = .ok (.ireturn, 1) := by decide +kernel
theorem dX6_highest_91 : decode cX6_highest 91 = .ok (.iload_n 3, 1) := by decide +kernel
theorem dX6_highest_92 : decode cX6_highest 92 = .ok (.ifCond .ne 12, 3) := by decide +kernel
theorem dX6_highest_95 : decode cX6_highest 95 = .ok (.aload_n 1, 1) := by decide +kernel
theorem dX6_highest_96 : decode cX6_highest 96 = .ok (.getfield 94, 3) := by decide +kernel
theorem dX6_highest_99 : decode cX6_highest 99 = .ok (.iconst 1, 1) := by decide +kernel
theorem dX6_highest_100 : decode cX6_highest 100 = .ok (.isub, 1) := by decide +kernel
theorem dX6_highest_101 : decode cX6_highest 101 = .ok (.goto 8, 3) := by decide +kernel
theorem dX6_highest_104 : decode cX6_highest 104 = .ok (.getstatic 97, 3) := by decide +kernel
theorem dX6_highest_107 : decode cX6_highest 107 = .ok (.iload_n 3, 1) := by decide +kernel
theorem dX6_highest_108 : decode cX6_highest 108 = .ok (.iaload, 1) := by decide +kernel
theorem dX6_highest_109 : decode cX6_highest 109 = .ok (.ireturn, 1) := by decide +kernel
theorem dX6_highest_110 : decode cX6_highest 110 = .ok (.iload_n 3, 1) := by decide +kernel
theorem dX6_highest_111 : decode cX6_highest 111 = .ok (.ifCond .ne 12, 3) := by decide +kernel
theorem dX6_highest_114 : decode cX6_highest 114 = .ok (.aload_n 1, 1) := by decide +kernel
theorem dX6_highest_115 : decode cX6_highest 115 = .ok (.getfield 100, 3) := by decide +kernel
theorem dX6_highest_118 : decode cX6_highest 118 = .ok (.iconst 1, 1) := by decide +kernel
theorem dX6_highest_119 : decode cX6_highest 119 = .ok (.isub, 1) := by decide +kernel
theorem dX6_highest_120 : decode cX6_highest 120 = .ok (.goto 5, 3) := by decide +kernel
theorem dX6_highest_123 : decode cX6_highest 123 = .ok (.bipush 99, 2) := by decide +kernel
theorem dX6_highest_125 : decode cX6_highest 125 = .ok (.ireturn, 1) := by decide +kernel
theorem dX6_highest_126 : decode cX6_highest 126 = .ok (.iload_n 3, 1) := by decide +kernel
theorem dX6_highest_127 : decode cX6_highest 127 = .ok (.iconst 2, 1) := by decide +kernel
theorem dX6_highest_128 : decode cX6_highest 128 = .ok (.if_icmp .ge 12, 3) := by decide +kernel
theorem dX6_highest_131 : decode cX6_highest 131 = .ok (.aload_n 1, 1) := by decide +kernel
theorem dX6_highest_132 : decode cX6_highest 132 = .ok (.getfield 94, 3) := by decide +kernel
theorem dX6_highest_135 : decode cX6_highest 135 = .ok (.iconst 1, 1) := by decide +kernel
theorem dX6_highest_136 : decode cX6_highest 136 = .ok (.isub, 1) := by decide +kernel
theorem dX6_highest_137 : decode cX6_highest 137 = .ok (.goto 5, 3) := by decide +kernel
theorem dX6_highest_140 : decode cX6_highest 140 = .ok (.bipush 10, 2) := by decide +kernel
theorem dX6_highest_142 : decode cX6_highest 142 = .ok (.ireturn, 1) := by decide +kernel
theorem dX6_highest_143 : decode cX6_highest 143 = .ok (.iconst 1, 1) := by decide +kernel
theorem dX6_highest_144 : decode cX6_highest 144 = .ok (.aload_n 1, 1) := by decide +kernel
theorem dX6_highest_145 : decode cX6_highest 145 = .ok (.getfield 100, 3) := by decide +kernel
theorem dX6_highest_148 : decode cX6_highest 148 = .ok (.ishl, 1) := by decide +kernel
theorem dX6_highest_149 : decode cX6_highest 149 = .ok (.iconst 1, 1) := by decide +kernel
theorem dX6_highest_150 : decode cX6_highest 150 = .ok (.isub, 1) := by decide +kernel
theorem dX6_highest_151 : decode cX6_highest 151 = .ok (.ireturn, 1) := by decide +kernel
theorem dX6_again_0 : decode cX6_again 0 = .ok (.iload_n 2, 1) := by decide +kernel
theorem dX6_again_1 : decode cX6_again 1 = .ok (.iconst 4, 1) := by decide +kernel
theorem dX6_again_2 : decode cX6_again 2 = .ok (.if_icmp .ne 24, 3) := by decide +kernel
theorem dX6_again_5 : decode cX6_again 5 = .ok (.iload_n 3, 1) := by decide +kernel
theorem dX6_again_6 : decode cX6_again 6 = .ok (.ifCond .ne 20, 3) := by decide +kernel
theorem dX6_again_9 : decode cX6_again 9 = .ok (.aload_n 1, 1) := by decide +kernel
theorem dX6_again_10 : decode cX6_again 10 = .ok (.getfield 103, 3) := by decide +kernel
theorem dX6_again_13 : decode cX6_again 13 = .ok (.iload 4, 2) := by decide +kernel
theorem dX6_again_15 : decode cX6_again 15 = .ok (.iaload, 1) := by decide +kernel
theorem dX6_again_16 : decode cX6_again 16 = .ok (.iconst (-1), 1) := by decide +kernel
theorem dX6_again_17 : decode cX6_again 17 = .ok (.if_icmp .eq 7, 3) := by decide +kernel
theorem dX6_again_20 : decode cX6_again 20 = .ok (.iconst 1, 1) := by decide +kernel
theorem dX6_again_21 : decode cX6_again 21 = .ok (.goto 4, 3) := by decide +kernel
theorem dX6_again_24 : decode cX6_again 24 = .ok (.iconst 0, 1) := by decide +kernel
theorem dX6_again_25 : decode cX6_again 25 = .ok (.ireturn, 1) := by decide +kernel
theorem dX6_again_26 : decode cX6_again 26 = .ok (.iload_n 3, 1) := by decide +kernel
theorem dX6_again_27 : decode cX6_again 27 = .ok (.iconst 1, 1) := by decide +kernel
theorem dX6_again_28 : decode cX6_again 28 = .ok (.if_icmp .eq 5, 3) := by decide +kernel
theorem dX6_again_31 : decode cX6_again 31 = .ok (.iconst 0, 1) := by decide +kernel
theorem dX6_again_32 : decode cX6_again 32 = .ok (.ireturn, 1) := by decide +kernel
theorem dX6_again_33 : decode cX6_again 33 = .ok (.iload_n 2, 1) := by decide +kernel
theorem dX6_again_34 : decode cX6_again 34 = .ok (.iconst 1, 1) := by decide +kernel
theorem dX6_again_35 : decode cX6_again 35 = .ok (.if_icmp .ne 38, 3) := by decide +kernel
theorem dX6_again_38 : decode cX6_again 38 = .ok (.iload 4, 2) := by decide +kernel
theorem dX6_again_40 : decode cX6_again 40 = .ok (.aload_n 0, 1) := by decide +kernel
theorem dX6_again_41 : decode cX6_again 41 = .ok (.getfield 19, 3) := by decide +kernel
theorem dX6_again_44 : decode cX6_again 44 = .ok (.iconst 0, 1) := by decide +kernel
theorem dX6_again_45 : decode cX6_again 45 = .ok (.iaload, 1) := by decide +kernel
theorem dX6_again_46 : decode cX6_again 46 = .ok (.if_icmp .eq 21, 3) := by decide +kernel
theorem dX6_again_49 : decode cX6_again 49 = .ok (.aload_n 1, 1) := by decide +kernel
theorem dX6_again_50 : decode cX6_again 50 = .ok (.getfield 106, 3) := by decide +kernel
theorem dX6_again_53 : decode cX6_again 53 = .ok (.aload_n 0, 1) := by decide +kernel
theorem dX6_again_54 : decode cX6_again 54 = .ok (.getfield 19, 3) := by decide +kernel
theorem dX6_again_57 : decode cX6_again 57 = .ok (.iconst 0, 1) := by decide +kernel
theorem dX6_again_58 : decode cX6_again 58 = .ok (.iaload, 1) := by decide +kernel
theorem dX6_again_59 : decode cX6_again 59 = .ok (.aaload, 1) := by decide +kernel
theorem dX6_again_60 : decode cX6_again 60 = .ok (.iload 4, 2) := by decide +kernel
theorem dX6_again_62 : decode cX6_again 62 = .ok (.iaload, 1) := by decide +kernel
theorem dX6_again_63 : decode cX6_again 63 = .ok (.iconst (-1), 1) := by decide +kernel
theorem dX6_again_64 : decode cX6_again 64 = .ok (.if_icmp .eq 7, 3) := by decide +kernel
theorem dX6_again_67 : decode cX6_again 67 = .ok (.iconst 1, 1) := by decide +kernel
theorem dX6_again_68 : decode cX6_again 68 = .ok (.goto 4, 3) := by decide +kernel
theorem dX6_again_71 : decode cX6_again 71 = .ok (.iconst 0, 1) := by decide +kernel
theorem dX6_again_72 : decode cX6_again 72 = .ok (.ireturn, 1) := by decide +kernel
theorem dX6_again_73 : decode cX6_again 73 = .ok (.iload_n 2, 1) := by decide +kernel
theorem dX6_again_74 : decode cX6_again 74 = .ok (.iconst 5, 1) := by decide +kernel
theorem dX6_again_75 : decode cX6_again 75 = .ok (.if_icmp .ne 36, 3) := by decide +kernel
theorem dX6_again_78 : decode cX6_again 78 = .ok (.iload 4, 2) := by decide +kernel
theorem dX6_again_80 : decode cX6_again 80 = .ok (.aload_n 0, 1) := by decide +kernel
theorem dX6_again_81 : decode cX6_again 81 = .ok (.getfield 19, 3) := by decide +kernel
theorem dX6_again_84 : decode cX6_again 84 = .ok (.iconst 0, 1) := by decide +kernel
theorem dX6_again_85 : decode cX6_again 85 = .ok (.iaload, 1) := by decide +kernel
theorem dX6_again_86 : decode cX6_again 86 = .ok (.if_icmp .eq 21, 3) := by decide +kernel
theorem dX6_again_89 : decode cX6_again 89 = .ok (.aload_n 1, 1) := by decide +kernel
theorem dX6_again_90 : decode cX6_again 90 = .ok (.getfield 110, 3) := by decide +kernel
theorem dX6_again_93 : decode cX6_again 93 = .ok (.aload_n 0, 1) := by decide +kernel
theorem dX6_again_94 : decode cX6_again 94 = .ok (.getfield 19, 3) := by decide +kernel
theorem dX6_again_97 : decode cX6_again 97 = .ok (.iconst 0, 1) := by decide +kernel
theorem dX6_again_98 : decode cX6_again 98 = .ok (.iaload, 1) := by decide +kernel
theorem dX6_again_99 : decode cX6_again 99 = .ok (.aaload, 1) := by decide +kernel
theorem dX6_again_100 : decode cX6_again 100 = .ok (.iload 4, 2) := by decide +kernel
theorem dX6_again_102 : decode cX6_again 102 = .ok (.iaload, 1) := by decide +kernel
theorem dX6_again_103 : decode cX6_again 103 = .ok (.iconst (-1), 1) := by decide +kernel
theorem dX6_again_104 : decode cX6_again 104 = .ok (.if_icmp .eq 7, 3) := by decide +kernel
theorem dX6_again_107 : decode cX6_again 107 = .ok (.iconst 1, 1) := by decide +kernel
theorem dX6_again_108 : decode cX6_again 108 = .ok (.goto 4, 3) := by decide +kernel
theorem dX6_again_111 : decode cX6_again 111 = .ok (.iconst 0, 1) := by decide +kernel
theorem dX6_again_112 : decode cX6_again 112 = .ok (.ireturn, 1) := by decide +kernel
theorem dX6_take_0 : decode cX6_take 0 = .ok (.iload_n 2, 1) := by decide +kernel
theorem dX6_take_1 : decode cX6_take 1 = .ok (.tableswitch 211 0 5 #[39, 62, 113, 156, 164, 184], 39) := by decide +kernel
theorem dX6_take_40 : decode cX6_take 40 = .ok (.aload_n 1, 1) := by decide +kernel
theorem dX6_take_41 : decode cX6_take 41 = .ok (.aload_n 0, 1) := by decide +kernel
theorem dX6_take_42 : decode cX6_take 42 = .ok (.getfield 19, 3) := by decide +kernel
theorem dX6_take_45 : decode cX6_take 45 = .ok (.iconst 0, 1) := by decide +kernel
theorem dX6_take_46 : decode cX6_take 46 = .ok (.iaload, 1) := by decide +kernel
theorem dX6_take_47 : decode cX6_take 47 = .ok (.putfield 91, 3) := by decide +kernel
theorem dX6_take_50 : decode cX6_take 50 = .ok (.aload_n 1, 1) := by decide +kernel
theorem dX6_take_51 : decode cX6_take 51 = .ok (.aload_n 0, 1) := by decide +kernel
theorem dX6_take_52 : decode cX6_take 52 = .ok (.getfield 19, 3) := by decide +kernel
theorem dX6_take_55 : decode cX6_take 55 = .ok (.iconst 1, 1) := by decide +kernel
theorem dX6_take_56 : decode cX6_take 56 = .ok (.iaload, 1) := by decide +kernel
theorem dX6_take_57 : decode cX6_take 57 = .ok (.putfield 113, 3) := by decide +kernel
theorem dX6_take_60 : decode cX6_take 60 = .ok (.goto 177, 3) := by decide +kernel
theorem dX6_take_63 : decode cX6_take 63 = .ok (.aload_n 1, 1) := by decide +kernel
theorem dX6_take_64 : decode cX6_take 64 = .ok (.getfield 106, 3) := by decide +kernel
theorem dX6_take_67 : decode cX6_take 67 = .ok (.aload_n 0, 1) := by decide +kernel
theorem dX6_take_68 : decode cX6_take 68 = .ok (.getfield 19, 3) := by decide +kernel
theorem dX6_take_71 : decode cX6_take 71 = .ok (.iconst 0, 1) := by decide +kernel
theorem dX6_take_72 : decode cX6_take 72 = .ok (.iaload, 1) := by decide +kernel
theorem dX6_take_73 : decode cX6_take 73 = .ok (.aaload, 1) := by decide +kernel
theorem dX6_take_74 : decode cX6_take 74 = .ok (.aload_n 0, 1) := by decide +kernel
theorem dX6_take_75 : decode cX6_take 75 = .ok (.getfield 19, 3) := by decide +kernel
theorem dX6_take_78 : decode cX6_take 78 = .ok (.iconst 1, 1) := by decide +kernel
theorem dX6_take_79 : decode cX6_take 79 = .ok (.iaload, 1) := by decide +kernel
theorem dX6_take_80 : decode cX6_take 80 = .ok (.aload_n 0, 1) := by decide +kernel
theorem dX6_take_81 : decode cX6_take 81 = .ok (.getfield 19, 3) := by decide +kernel
theorem dX6_take_84 : decode cX6_take 84 = .ok (.iconst 2, 1) := by decide +kernel
theorem dX6_take_85 : decode cX6_take 85 = .ok (.iaload, 1) := by decide +kernel
theorem dX6_take_86 : decode cX6_take 86 = .ok (.iastore, 1) := by decide +kernel
theorem dX6_take_87 : decode cX6_take 87 = .ok (.aload_n 1, 1) := by decide +kernel
theorem dX6_take_88 : decode cX6_take 88 = .ok (.getfield 106, 3) := by decide +kernel
theorem dX6_take_91 : decode cX6_take 91 = .ok (.aload_n 0, 1) := by decide +kernel
theorem dX6_take_92 : decode cX6_take 92 = .ok (.getfield 19, 3) := by decide +kernel
theorem dX6_take_95 : decode cX6_take 95 = .ok (.iconst 1, 1) := by decide +kernel
theorem dX6_take_96 : decode cX6_take 96 = .ok (.iaload, 1) := by decide +kernel
theorem dX6_take_97 : decode cX6_take 97 = .ok (.aaload, 1) := by decide +kernel
theorem dX6_take_98 : decode cX6_take 98 = .ok (.aload_n 0, 1) := by decide +kernel
theorem dX6_take_99 : decode cX6_take 99 = .ok (.getfield 19, 3) := by decide +kernel
theorem dX6_take_102 : decode cX6_take 102 = .ok (.iconst 0, 1) := by decide +kernel
theorem dX6_take_103 : decode cX6_take 103 = .ok (.iaload, 1) := by decide +kernel
theorem dX6_take_104 : decode cX6_take 104 = .ok (.aload_n 0, 1) := by decide +kernel
theorem dX6_take_105 : decode cX6_take 105 = .ok (.getfield 19, 3) := by decide +kernel
theorem dX6_take_108 : decode cX6_take 108 = .ok (.iconst 2, 1) := by decide +kernel
theorem dX6_take_109 : decode cX6_take 109 = .ok (.iaload, 1) := by decide +kernel
theorem dX6_take_110 : decode cX6_take 110 = .ok (.iastore, 1) := by decide +kernel
theorem dX6_take_111 : decode cX6_take 111 = .ok (.goto 126, 3) := by decide +kernel
theorem dX6_take_114 : decode cX6_take 114 = .ok (.aload_n 1, 1) := by decide +kernel
theorem dX6_take_115 : decode cX6_take 115 = .ok (.getfield 116, 3) := by decide +kernel
theorem dX6_take_118 : decode cX6_take 118 = .ok (.aload_n 1, 1) := by decide +kernel
theorem dX6_take_119 : decode cX6_take 119 = .ok (.getfield 94, 3) := by decide +kernel
theorem dX6_take_122 : decode cX6_take 122 = .ok (.aload_n 0, 1) := by decide +kernel
theorem dX6_take_123 : decode cX6_take 123 = .ok (.getfield 19, 3) := by decide +kernel
theorem dX6_take_126 : decode cX6_take 126 = .ok (.iconst 0, 1) := by decide +kernel
theorem dX6_take_127 : decode cX6_take 127 = .ok (.iaload, 1) := by decide +kernel
theorem dX6_take_128 : decode cX6_take 128 = .ok (.iastore, 1) := by decide +kernel
theorem dX6_take_129 : decode cX6_take 129 = .ok (.aload_n 1, 1) := by decide +kernel
theorem dX6_take_130 : decode cX6_take 130 = .ok (.getfield 119, 3) := by decide +kernel
theorem dX6_take_133 : decode cX6_take 133 = .ok (.aload_n 1, 1) := by decide +kernel
theorem dX6_take_134 : decode cX6_take 134 = .ok (.getfield 94, 3) := by decide +kernel
theorem dX6_take_137 : decode cX6_take 137 = .ok (.aload_n 0, 1) := by decide +kernel
theorem dX6_take_138 : decode cX6_take 138 = .ok (.getfield 19, 3) := by decide +kernel
theorem dX6_take_141 : decode cX6_take 141 = .ok (.iconst 1, 1) := by decide +kernel
theorem dX6_take_142 : decode cX6_take 142 = .ok (.iaload, 1) := by decide +kernel
theorem dX6_take_143 : decode cX6_take 143 = .ok (.iastore, 1) := by decide +kernel
theorem dX6_take_144 : decode cX6_take 144 = .ok (.aload_n 1, 1) := by decide +kernel
theorem dX6_take_145 : decode cX6_take 145 = .ok (.dup, 1) := by decide +kernel
theorem dX6_take_146 : decode cX6_take 146 = .ok (.getfield 94, 3) := by decide +kernel
theorem dX6_take_149 : decode cX6_take 149 = .ok (.iconst 1, 1) := by decide +kernel
theorem dX6_take_150 : decode cX6_take 150 = .ok (.iadd, 1) := by decide +kernel
theorem dX6_take_151 : decode cX6_take 151 = .ok (.putfield 94, 3) := by decide +kernel
theorem dX6_take_154 : decode cX6_take 154 = .ok (.goto 83, 3) := by decide +kernel
theorem dX6_take_157 : decode cX6_take 157 = .ok (.aload_n 0, 1) := by decide +kernel
theorem dX6_take_158 : decode cX6_take 158 = .ok (.aload_n 1, 1) := by decide +kernel
theorem dX6_take_159 : decode cX6_take 159 = .ok (.invokevirtual 122, 3) := by decide +kernel
theorem dX6_take_162 : decode cX6_take 162 = .ok (.goto 75, 3) := by decide +kernel
theorem dX6_take_165 : decode cX6_take 165 = .ok (.aload_n 1, 1) := by decide +kernel
theorem dX6_take_166 : decode cX6_take 166 = .ok (.getfield 103, 3) := by decide +kernel
theorem dX6_take_169 : decode cX6_take 169 = .ok (.aload_n 0, 1) := by decide +kernel
theorem dX6_take_170 : decode cX6_take 170 = .ok (.getfield 19, 3) := by decide +kernel
theorem dX6_take_173 : decode cX6_take 173 = .ok (.iconst 0, 1) := by decide +kernel
theorem dX6_take_174 : decode cX6_take 174 = .ok (.iaload, 1) := by decide +kernel
theorem dX6_take_175 : decode cX6_take 175 = .ok (.aload_n 0, 1) := by decide +kernel
theorem dX6_take_176 : decode cX6_take 176 = .ok (.getfield 19, 3) := by decide +kernel
theorem dX6_take_179 : decode cX6_take 179 = .ok (.iconst 1, 1) := by decide +kernel
theorem dX6_take_180 : decode cX6_take 180 = .ok (.iaload, 1) := by decide +kernel
theorem dX6_take_181 : decode cX6_take 181 = .ok (.iastore, 1) := by decide +kernel
theorem dX6_take_182 : decode cX6_take 182 = .ok (.goto 55, 3) := by decide +kernel
theorem dX6_take_185 : decode cX6_take 185 = .ok (.aload_n 1, 1) := by decide +kernel
theorem dX6_take_186 : decode cX6_take 186 = .ok (.getfield 110, 3) := by decide +kernel
theorem dX6_take_189 : decode cX6_take 189 = .ok (.aload_n 0, 1) := by decide +kernel
theorem dX6_take_190 : decode cX6_take 190 = .ok (.getfield 19, 3) := by decide +kernel
theorem dX6_take_193 : decode cX6_take 193 = .ok (.iconst 0, 1) := by decide +kernel
theorem dX6_take_194 : decode cX6_take 194 = .ok (.iaload, 1) := by decide +kernel
theorem dX6_take_195 : decode cX6_take 195 = .ok (.aaload, 1) := by decide +kernel
theorem dX6_take_196 : decode cX6_take 196 = .ok (.aload_n 0, 1) := by decide +kernel
theorem dX6_take_197 : decode cX6_take 197 = .ok (.getfield 19, 3) := by decide +kernel
theorem dX6_take_200 : decode cX6_take 200 = .ok (.iconst 1, 1) := by decide +kernel
theorem dX6_take_201 : decode cX6_take 201 = .ok (.iaload, 1) := by decide +kernel
theorem dX6_take_202 : decode cX6_take 202 = .ok (.aload_n 0, 1) := by decide +kernel
theorem dX6_take_203 : decode cX6_take 203 = .ok (.getfield 19, 3) := by decide +kernel
theorem dX6_take_206 : decode cX6_take 206 = .ok (.iconst 2, 1) := by decide +kernel
theorem dX6_take_207 : decode cX6_take 207 = .ok (.iaload, 1) := by decide +kernel
theorem dX6_take_208 : decode cX6_take 208 = .ok (.iastore, 1) := by decide +kernel
theorem dX6_take_209 : decode cX6_take 209 = .ok (.goto 28, 3) := by decide +kernel
theorem dX6_take_212 : decode cX6_take 212 = .ok (.aload_n 1, 1) := by decide +kernel
theorem dX6_take_213 : decode cX6_take 213 = .ok (.getfield 125, 3) := by decide +kernel
theorem dX6_take_216 : decode cX6_take 216 = .ok (.aload_n 1, 1) := by decide +kernel
theorem dX6_take_217 : decode cX6_take 217 = .ok (.getfield 128, 3) := by decide +kernel
theorem dX6_take_220 : decode cX6_take 220 = .ok (.aload_n 0, 1) := by decide +kernel
theorem dX6_take_221 : decode cX6_take 221 = .ok (.getfield 19, 3) := by decide +kernel
theorem dX6_take_224 : decode cX6_take 224 = .ok (.iconst 0, 1) := by decide +kernel
theorem dX6_take_225 : decode cX6_take 225 = .ok (.iaload, 1) := by decide +kernel
theorem dX6_take_226 : decode cX6_take 226 = .ok (.iastore, 1) := by decide +kernel
theorem dX6_take_227 : decode cX6_take 227 = .ok (.aload_n 1, 1) := by decide +kernel
theorem dX6_take_228 : decode cX6_take 228 = .ok (.dup, 1) := by decide +kernel
theorem dX6_take_229 : decode cX6_take 229 = .ok (.getfield 128, 3) := by decide +kernel
theorem dX6_take_232 : decode cX6_take 232 = .ok (.iconst 1, 1) := by decide +kernel
theorem dX6_take_233 : decode cX6_take 233 = .ok (.iadd, 1) := by decide +kernel
theorem dX6_take_234 : decode cX6_take 234 = .ok (.putfield 128, 3) := by decide +kernel
theorem dX6_take_237 : decode cX6_take 237 = .ok (.return_, 1) := by decide +kernel
theorem dX6_takeDeed_0 : decode cX6_takeDeed 0 = .ok (.aload_n 1, 1) := by decide +kernel
theorem dX6_takeDeed_1 : decode cX6_takeDeed 1 = .ok (.getfield 100, 3) := by decide +kernel
theorem dX6_takeDeed_4 : decode cX6_takeDeed 4 = .ok (.istore_n 2, 1) := by decide +kernel
theorem dX6_takeDeed_5 : decode cX6_takeDeed 5 = .ok (.aload_n 1, 1) := by decide +kernel
theorem dX6_takeDeed_6 : decode cX6_takeDeed 6 = .ok (.getfield 131, 3) := by decide +kernel
theorem dX6_takeDeed_9 : decode cX6_takeDeed 9 = .ok (.iload_n 2, 1) := by decide +kernel
theorem dX6_takeDeed_10 : decode cX6_takeDeed 10 = .ok (.aload_n 0, 1) := by decide +kernel
theorem dX6_takeDeed_11 : decode cX6_takeDeed 11 = .ok (.getfield 19, 3) := by decide +kernel
theorem dX6_takeDeed_14 : decode cX6_takeDeed 14 = .ok (.iconst 0, 1) := by decide +kernel
theorem dX6_takeDeed_15 : decode cX6_takeDeed 15 = .ok (.iaload, 1) := by decide +kernel
theorem dX6_takeDeed_16 : decode cX6_takeDeed 16 = .ok (.iastore, 1) := by decide +kernel
theorem dX6_takeDeed_17 : decode cX6_takeDeed 17 = .ok (.aload_n 1, 1) := by decide +kernel
theorem dX6_takeDeed_18 : decode cX6_takeDeed 18 = .ok (.getfield 134, 3) := by decide +kernel
theorem dX6_takeDeed_21 : decode cX6_takeDeed 21 = .ok (.iload_n 2, 1) := by decide +kernel
theorem dX6_takeDeed_22 : decode cX6_takeDeed 22 = .ok (.aload_n 0, 1) := by decide +kernel
theorem dX6_takeDeed_23 : decode cX6_takeDeed 23 = .ok (.getfield 19, 3) := by decide +kernel
theorem dX6_takeDeed_26 : decode cX6_takeDeed 26 = .ok (.iconst 1, 1) := by decide +kernel
theorem dX6_takeDeed_27 : decode cX6_takeDeed 27 = .ok (.iaload, 1) := by decide +kernel
theorem dX6_takeDeed_28 : decode cX6_takeDeed 28 = .ok (.iastore, 1) := by decide +kernel
theorem dX6_takeDeed_29 : decode cX6_takeDeed 29 = .ok (.aload_n 1, 1) := by decide +kernel
theorem dX6_takeDeed_30 : decode cX6_takeDeed 30 = .ok (.getfield 137, 3) := by decide +kernel
theorem dX6_takeDeed_33 : decode cX6_takeDeed 33 = .ok (.iload_n 2, 1) := by decide +kernel
theorem dX6_takeDeed_34 : decode cX6_takeDeed 34 = .ok (.aload_n 0, 1) := by decide +kernel
theorem dX6_takeDeed_35 : decode cX6_takeDeed 35 = .ok (.getfield 19, 3) := by decide +kernel
theorem dX6_takeDeed_38 : decode cX6_takeDeed 38 = .ok (.iconst 2, 1) := by decide +kernel
theorem dX6_takeDeed_39 : decode cX6_takeDeed 39 = .ok (.iaload, 1) := by decide +kernel
theorem dX6_takeDeed_40 : decode cX6_takeDeed 40 = .ok (.iastore, 1) := by decide +kernel
theorem dX6_takeDeed_41 : decode cX6_takeDeed 41 = .ok (.aload_n 1, 1) := by decide +kernel
theorem dX6_takeDeed_42 : decode cX6_takeDeed 42 = .ok (.getfield 140, 3) := by decide +kernel
theorem dX6_takeDeed_45 : decode cX6_takeDeed 45 = .ok (.iload_n 2, 1) := by decide +kernel
theorem dX6_takeDeed_46 : decode cX6_takeDeed 46 = .ok (.aload_n 0, 1) := by decide +kernel
theorem dX6_takeDeed_47 : decode cX6_takeDeed 47 = .ok (.getfield 19, 3) := by decide +kernel
theorem dX6_takeDeed_50 : decode cX6_takeDeed 50 = .ok (.iconst 3, 1) := by decide +kernel
theorem dX6_takeDeed_51 : decode cX6_takeDeed 51 = .ok (.iaload, 1) := by decide +kernel
theorem dX6_takeDeed_52 : decode cX6_takeDeed 52 = .ok (.iastore, 1) := by decide +kernel
theorem dX6_takeDeed_53 : decode cX6_takeDeed 53 = .ok (.aload_n 1, 1) := by decide +kernel
theorem dX6_takeDeed_54 : decode cX6_takeDeed 54 = .ok (.dup, 1) := by decide +kernel
theorem dX6_takeDeed_55 : decode cX6_takeDeed 55 = .ok (.getfield 100, 3) := by decide +kernel
theorem dX6_takeDeed_58 : decode cX6_takeDeed 58 = .ok (.iconst 1, 1) := by decide +kernel
theorem dX6_takeDeed_59 : decode cX6_takeDeed 59 = .ok (.iadd, 1) := by decide +kernel
theorem dX6_takeDeed_60 : decode cX6_takeDeed 60 = .ok (.putfield 100, 3) := by decide +kernel
theorem dX6_takeDeed_63 : decode cX6_takeDeed 63 = .ok (.return_, 1) := by decide +kernel
theorem dX7_init_0 : decode cX7_init 0 = .ok (.aload_n 0, 1) := by decide +kernel
theorem dX7_init_1 : decode cX7_init 1 = .ok (.invokespecial 3, 3) := by decide +kernel
theorem dX7_init_4 : decode cX7_init 4 = .ok (.aload_n 0, 1) := by decide +kernel
theorem dX7_init_5 : decode cX7_init 5 = .ok (.bipush 6, 2) := by decide +kernel
theorem dX7_init_7 : decode cX7_init 7 = .ok (.newarray .int, 2) := by decide +kernel
theorem dX7_init_9 : decode cX7_init 9 = .ok (.putfield 9, 3) := by decide +kernel
theorem dX7_init_12 : decode cX7_init 12 = .ok (.aload_n 0, 1) := by decide +kernel
theorem dX7_init_13 : decode cX7_init 13 = .ok (.bipush 6, 2) := by decide +kernel
theorem dX7_init_15 : decode cX7_init 15 = .ok (.newarray .int, 2) := by decide +kernel
theorem dX7_init_17 : decode cX7_init 17 = .ok (.putfield 15, 3) := by decide +kernel
theorem dX7_init_20 : decode cX7_init 20 = .ok (.return_, 1) := by decide +kernel
theorem dX7_tryAll_0 : decode cX7_tryAll 0 = .ok (.aload_n 0, 1) := by decide +kernel
theorem dX7_tryAll_1 : decode cX7_tryAll 1 = .ok (.getfield 15, 3) := by decide +kernel
theorem dX7_tryAll_4 : decode cX7_tryAll 4 = .ok (.iconst (-1), 1) := by decide +kernel
theorem dX7_tryAll_5 : decode cX7_tryAll 5 = .ok (.invokestatic 18, 3) := by decide +kernel
theorem dX7_tryAll_8 : decode cX7_tryAll 8 = .ok (.aload_n 0, 1) := by decide +kernel
theorem dX7_tryAll_9 : decode cX7_tryAll 9 = .ok (.aload_n 1, 1) := by decide +kernel
theorem dX7_tryAll_10 : decode cX7_tryAll 10 = .ok (.iload_n 2, 1) := by decide +kernel
theorem dX7_tryAll_11 : decode cX7_tryAll 11 = .ok (.iload_n 3, 1) := by decide +kernel
theorem dX7_tryAll_12 : decode cX7_tryAll 12 = .ok (.iload 4, 2) := by decide +kernel
theorem dX7_tryAll_14 : decode cX7_tryAll 14 = .ok (.iconst 0, 1) := by decide +kernel
theorem dX7_tryAll_15 : decode cX7_tryAll 15 = .ok (.invokestatic 24, 3) := by decide +kernel
theorem dX7_tryAll_18 : decode cX7_tryAll 18 = .ok (.return_, 1) := by decide +kernel
theorem dX7_goOn_0 : decode cX7_goOn 0 = .ok (.aload_n 0, 1) := by decide +kernel
theorem dX7_goOn_1 : decode cX7_goOn 1 = .ok (.aload_n 1, 1) := by decide +kernel
theorem dX7_goOn_2 : decode cX7_goOn 2 = .ok (.iload 5, 2) := by decide +kernel
theorem dX7_goOn_4 : decode cX7_goOn 4 = .ok (.iload 4, 2) := by decide +kernel
theorem dX7_goOn_6 : decode cX7_goOn 6 = .ok (.invokevirtual 28, 3) := by decide +kernel
theorem dX7_goOn_9 : decode cX7_goOn 9 = .ok (.iload 5, 2) := by decide +kernel
theorem dX7_goOn_11 : decode cX7_goOn 11 = .ok (.bipush 6, 2) := by decide +kernel
theorem dX7_goOn_13 : decode cX7_goOn 13 = .ok (.if_icmp .lt 4, 3) := by decide +kernel
theorem dX7_goOn_16 : decode cX7_goOn 16 = .ok (.return_, 1) := by decide +kernel
theorem dX7_goOn_17 : decode cX7_goOn 17 = .ok (.iconst 0, 1) := by decide +kernel
theorem dX7_goOn_18 : decode cX7_goOn 18 = .ok (.istore 6, 2) := by decide +kernel
theorem dX7_goOn_20 : decode cX7_goOn 20 = .ok (.iload 6, 2) := by decide +kernel
theorem dX7_goOn_22 : decode cX7_goOn 22 = .ok (.aload_n 1, 1) := by decide +kernel
theorem dX7_goOn_23 : decode cX7_goOn 23 = .ok (.getfield 32, 3) := by decide +kernel
theorem dX7_goOn_26 : decode cX7_goOn 26 = .ok (.if_icmp .ge 90, 3) := by decide +kernel
theorem dX7_goOn_29 : decode cX7_goOn 29 = .ok (.iload_n 2, 1) := by decide +kernel
theorem dX7_goOn_30 : decode cX7_goOn 30 = .ok (.iload 6, 2) := by decide +kernel
theorem dX7_goOn_32 : decode cX7_goOn 32 = .ok (.ishr, 1) := by decide +kernel
theorem dX7_goOn_33 : decode cX7_goOn 33 = .ok (.iconst 1, 1) := by decide +kernel
theorem dX7_goOn_34 : decode cX7_goOn 34 = .ok (.iand, 1) := by decide +kernel
theorem dX7_goOn_35 : decode cX7_goOn 35 = .ok (.ifCond .ne 7, 3) := by decide +kernel
theorem dX7_goOn_38 : decode cX7_goOn 38 = .ok (.iconst (-1), 1) := by decide +kernel
theorem dX7_goOn_39 : decode cX7_goOn 39 = .ok (.goto 12, 3) := by decide +kernel
theorem dX7_goOn_42 : decode cX7_goOn 42 = .ok (.aload_n 1, 1) := by decide +kernel
theorem dX7_goOn_43 : decode cX7_goOn 43 = .ok (.iload 6, 2) := by decide +kernel
theorem dX7_goOn_45 : decode cX7_goOn 45 = .ok (.iload_n 3, 1) := by decide +kernel
theorem dX7_goOn_46 : decode cX7_goOn 46 = .ok (.iload 4, 2) := by decide +kernel
theorem dX7_goOn_48 : decode cX7_goOn 48 = .ok (.invokevirtual 38, 3) := by decide +kernel
theorem dX7_goOn_51 : decode cX7_goOn 51 = .ok (.istore 7, 2) := by decide +kernel
theorem dX7_goOn_53 : decode cX7_goOn 53 = .ok (.iload 7, 2) := by decide +kernel
theorem dX7_goOn_55 : decode cX7_goOn 55 = .ok (.iconst (-1), 1) := by decide +kernel
theorem dX7_goOn_56 : decode cX7_goOn 56 = .ok (.if_icmp .eq 54, 3) := by decide +kernel
theorem dX7_goOn_59 : decode cX7_goOn 59 = .ok (.aload_n 0, 1) := by decide +kernel
theorem dX7_goOn_60 : decode cX7_goOn 60 = .ok (.getfield 9, 3) := by decide +kernel
theorem dX7_goOn_63 : decode cX7_goOn 63 = .ok (.iload 5, 2) := by decide +kernel
theorem dX7_goOn_65 : decode cX7_goOn 65 = .ok (.iload 6, 2) := by decide +kernel
theorem dX7_goOn_67 : decode cX7_goOn 67 = .ok (.iastore, 1) := by decide +kernel
theorem dX7_goOn_68 : decode cX7_goOn 68 = .ok (.aload_n 0, 1) := by decide +kernel
theorem dX7_goOn_69 : decode cX7_goOn 69 = .ok (.getfield 15, 3) := by decide +kernel
theorem dX7_goOn_72 : decode cX7_goOn 72 = .ok (.iload 6, 2) := by decide +kernel
theorem dX7_goOn_74 : decode cX7_goOn 74 = .ok (.iload 7, 2) := by decide +kernel
theorem dX7_goOn_76 : decode cX7_goOn 76 = .ok (.iastore, 1) := by decide +kernel
theorem dX7_goOn_77 : decode cX7_goOn 77 = .ok (.aload_n 0, 1) := by decide +kernel
theorem dX7_goOn_78 : decode cX7_goOn 78 = .ok (.aload_n 1, 1) := by decide +kernel
theorem dX7_goOn_79 : decode cX7_goOn 79 = .ok (.iload_n 2, 1) := by decide +kernel
theorem dX7_goOn_80 : decode cX7_goOn 80 = .ok (.iconst 1, 1) := by decide +kernel
theorem dX7_goOn_81 : decode cX7_goOn 81 = .ok (.iload 6, 2) := by decide +kernel
theorem dX7_goOn_83 : decode cX7_goOn 83 = .ok (.ishl, 1) := by decide +kernel
theorem dX7_goOn_84 : decode cX7_goOn 84 = .ok (.iconst (-1), 1) := by decide +kernel
theorem dX7_goOn_85 : decode cX7_goOn 85 = .ok (.ixor, 1) := by decide +kernel
theorem dX7_goOn_86 : decode cX7_goOn 86 = .ok (.iand, 1) := by decide +kernel
theorem dX7_goOn_87 : decode cX7_goOn 87 = .ok (.aload_n 1, 1) := by decide +kernel
theorem dX7_goOn_88 : decode cX7_goOn 88 = .ok (.iload 6, 2) := by decide +kernel
theorem dX7_goOn_90 : decode cX7_goOn 90 = .ok (.invokevirtual 42, 3) := by decide +kernel
theorem dX7_goOn_93 : decode cX7_goOn 93 = .ok (.iload 7, 2) := by decide +kernel
theorem dX7_goOn_95 : decode cX7_goOn 95 = .ok (.iload 5, 2) := by decide +kernel
theorem dX7_goOn_97 : decode cX7_goOn 97 = .ok (.iconst 1, 1) := by decide +kernel
theorem dX7_goOn_98 : decode cX7_goOn 98 = .ok (.iadd, 1) := by decide +kernel
theorem dX7_goOn_99 : decode cX7_goOn 99 = .ok (.invokestatic 24, 3) := by decide +kernel
theorem dX7_goOn_102 : decode cX7_goOn 102 = .ok (.aload_n 0, 1) := by decide +kernel
theorem dX7_goOn_103 : decode cX7_goOn 103 = .ok (.getfield 15, 3) := by decide +kernel
theorem dX7_goOn_106 : decode cX7_goOn 106 = .ok (.iload 6, 2) := by decide +kernel
theorem dX7_goOn_108 : decode cX7_goOn 108 = .ok (.iconst (-1), 1) := by decide +kernel
theorem dX7_goOn_109 : decode cX7_goOn 109 = .ok (.iastore, 1) := by decide +kernel
theorem dX7_goOn_110 : decode cX7_goOn 110 = .ok (.iinc 6 1, 3) := by decide +kernel
theorem dX7_goOn_113 : decode cX7_goOn 113 = .ok (.goto (-93), 3) := by decide +kernel
theorem dX7_goOn_116 : decode cX7_goOn 116 = .ok (.return_, 1) := by decide +kernel
theorem dX7_setOfRow_0 : decode cX7_setOfRow 0 = .ok (.iconst 0, 1) := by decide +kernel
theorem dX7_setOfRow_1 : decode cX7_setOfRow 1 = .ok (.istore_n 2, 1) := by decide +kernel
theorem dX7_setOfRow_2 : decode cX7_setOfRow 2 = .ok (.iconst 0, 1) := by decide +kernel
theorem dX7_setOfRow_3 : decode cX7_setOfRow 3 = .ok (.istore_n 3, 1) := by decide +kernel
theorem dX7_setOfRow_4 : decode cX7_setOfRow 4 = .ok (.iload_n 3, 1) := by decide +kernel
theorem dX7_setOfRow_5 : decode cX7_setOfRow 5 = .ok (.iload_n 1, 1) := by decide +kernel
theorem dX7_setOfRow_6 : decode cX7_setOfRow 6 = .ok (.if_icmp .ge 20, 3) := by decide +kernel
theorem dX7_setOfRow_9 : decode cX7_setOfRow 9 = .ok (.iload_n 2, 1) := by decide +kernel
theorem dX7_setOfRow_10 : decode cX7_setOfRow 10 = .ok (.iconst 1, 1) := by decide +kernel
theorem dX7_setOfRow_11 : decode cX7_setOfRow 11 = .ok (.aload_n 0, 1) := by decide +kernel
theorem dX7_setOfRow_12 : decode cX7_setOfRow 12 = .ok (.getfield 9, 3) := by decide +kernel
theorem dX7_setOfRow_15 : decode cX7_setOfRow 15 = .ok (.iload_n 3, 1) := by decide +kernel
theorem dX7_setOfRow_16 : decode cX7_setOfRow 16 = .ok (.iaload, 1) := by decide +kernel
theorem dX7_setOfRow_17 : decode cX7_setOfRow 17 = .ok (.ishl, 1) := by decide +kernel
theorem dX7_setOfRow_18 : decode cX7_setOfRow 18 = .ok (.ior, 1) := by decide +kernel
theorem dX7_setOfRow_19 : decode cX7_setOfRow 19 = .ok (.istore_n 2, 1) := by decide +kernel
theorem dX7_setOfRow_20 : decode cX7_setOfRow 20 = .ok (.iinc 3 1, 3) := by decide +kernel
theorem dX7_setOfRow_23 : decode cX7_setOfRow 23 = .ok (.goto (-19), 3) := by decide +kernel
theorem dX7_setOfRow_26 : decode cX7_setOfRow 26 = .ok (.iload_n 2, 1) := by decide +kernel
theorem dX7_setOfRow_27 : decode cX7_setOfRow 27 = .ok (.ireturn, 1) := by decide +kernel
theorem dX8_init_0 : decode cX8_init 0 = .ok (.aload_n 0, 1) := by decide +kernel
theorem dX8_init_1 : decode cX8_init 1 = .ok (.invokespecial 3, 3) := by decide +kernel
theorem dX8_init_4 : decode cX8_init 4 = .ok (.aload_n 0, 1) := by decide +kernel
theorem dX8_init_5 : decode cX8_init 5 = .ok (.iconst (-1), 1) := by decide +kernel
theorem dX8_init_6 : decode cX8_init 6 = .ok (.putfield 9, 3) := by decide +kernel
theorem dX8_init_9 : decode cX8_init 9 = .ok (.aload_n 0, 1) := by decide +kernel
theorem dX8_init_10 : decode cX8_init 10 = .ok (.iconst (-1), 1) := by decide +kernel
theorem dX8_init_11 : decode cX8_init 11 = .ok (.putfield 15, 3) := by decide +kernel
theorem dX8_init_14 : decode cX8_init 14 = .ok (.aload_n 0, 1) := by decide +kernel
theorem dX8_init_15 : decode cX8_init 15 = .ok (.bipush 6, 2) := by decide +kernel
theorem dX8_init_17 : decode cX8_init 17 = .ok (.newarray .int, 2) := by decide +kernel
theorem dX8_init_19 : decode cX8_init 19 = .ok (.putfield 18, 3) := by decide +kernel
theorem dX8_init_22 : decode cX8_init 22 = .ok (.aload_n 0, 1) := by decide +kernel
theorem dX8_init_23 : decode cX8_init 23 = .ok (.getfield 18, 3) := by decide +kernel
theorem dX8_init_26 : decode cX8_init 26 = .ok (.iconst (-1), 1) := by decide +kernel
theorem dX8_init_27 : decode cX8_init 27 = .ok (.invokestatic 22, 3) := by decide +kernel
theorem dX8_init_30 : decode cX8_init 30 = .ok (.return_, 1) := by decide +kernel
theorem dX8_beginIn_0 : decode cX8_beginIn 0 = .ok (.aload_n 0, 1) := by decide +kernel
theorem dX8_beginIn_1 : decode cX8_beginIn 1 = .ok (.iconst 0, 1) := by decide +kernel
theorem dX8_beginIn_2 : decode cX8_beginIn 2 = .ok (.putfield 28, 3) := by decide +kernel
theorem dX8_beginIn_5 : decode cX8_beginIn 5 = .ok (.aload_n 0, 1) := by decide +kernel
theorem dX8_beginIn_6 : decode cX8_beginIn 6 = .ok (.aload_n 1, 1) := by decide +kernel
theorem dX8_beginIn_7 : decode cX8_beginIn 7 = .ok (.getfield 31, 3) := by decide +kernel
theorem dX8_beginIn_10 : decode cX8_beginIn 10 = .ok (.putfield 9, 3) := by decide +kernel
theorem dX8_beginIn_13 : decode cX8_beginIn 13 = .ok (.aload_n 0, 1) := by decide +kernel
theorem dX8_beginIn_14 : decode cX8_beginIn 14 = .ok (.iconst (-1), 1) := by decide +kernel
theorem dX8_beginIn_15 : decode cX8_beginIn 15 = .ok (.putfield 15, 3) := by decide +kernel
theorem dX8_beginIn_18 : decode cX8_beginIn 18 = .ok (.aload_n 0, 1) := by decide +kernel
theorem dX8_beginIn_19 : decode cX8_beginIn 19 = .ok (.getfield 18, 3) := by decide +kernel
theorem dX8_beginIn_22 : decode cX8_beginIn 22 = .ok (.iconst (-1), 1) := by decide +kernel
theorem dX8_beginIn_23 : decode cX8_beginIn 23 = .ok (.invokestatic 22, 3) := by decide +kernel
theorem dX8_beginIn_26 : decode cX8_beginIn 26 = .ok (.return_, 1) := by decide +kernel
theorem dX8_become_0 : decode cX8_become 0 = .ok (.aload_n 0, 1) := by decide +kernel
theorem dX8_become_1 : decode cX8_become 1 = .ok (.aload_n 1, 1) := by decide +kernel
theorem dX8_become_2 : decode cX8_become 2 = .ok (.getfield 28, 3) := by decide +kernel
theorem dX8_become_5 : decode cX8_become 5 = .ok (.putfield 28, 3) := by decide +kernel
theorem dX8_become_8 : decode cX8_become 8 = .ok (.aload_n 0, 1) := by decide +kernel
theorem dX8_become_9 : decode cX8_become 9 = .ok (.aload_n 1, 1) := by decide +kernel
theorem dX8_become_10 : decode cX8_become 10 = .ok (.getfield 9, 3) := by decide +kernel
theorem dX8_become_13 : decode cX8_become 13 = .ok (.putfield 9, 3) := by decide +kernel
theorem dX8_become_16 : decode cX8_become 16 = .ok (.aload_n 0, 1) := by decide +kernel
theorem dX8_become_17 : decode cX8_become 17 = .ok (.aload_n 1, 1) := by decide +kernel
theorem dX8_become_18 : decode cX8_become 18 = .ok (.getfield 15, 3) := by decide +kernel
theorem dX8_become_21 : decode cX8_become 21 = .ok (.putfield 15, 3) := by decide +kernel
theorem dX8_become_24 : decode cX8_become 24 = .ok (.aload_n 0, 1) := by decide +kernel
theorem dX8_become_25 : decode cX8_become 25 = .ok (.aload_n 1, 1) := by decide +kernel
theorem dX8_become_26 : decode cX8_become 26 = .ok (.getfield 36, 3) := by decide +kernel
theorem dX8_become_29 : decode cX8_become 29 = .ok (.putfield 36, 3) := by decide +kernel
theorem dX8_become_32 : decode cX8_become 32 = .ok (.aload_n 1, 1) := by decide +kernel
theorem dX8_become_33 : decode cX8_become 33 = .ok (.getfield 18, 3) := by decide +kernel
theorem dX8_become_36 : decode cX8_become 36 = .ok (.iconst 0, 1) := by decide +kernel
theorem dX8_become_37 : decode cX8_become 37 = .ok (.aload_n 0, 1) := by decide +kernel
theorem dX8_become_38 : decode cX8_become 38 = .ok (.getfield 18, 3) := by decide +kernel
theorem dX8_become_41 : decode cX8_become 41 = .ok (.iconst 0, 1) := by decide +kernel
theorem dX8_become_42 : decode cX8_become 42 = .ok (.bipush 6, 2) := by decide +kernel
theorem dX8_become_44 : decode cX8_become 44 = .ok (.invokestatic 39, 3) := by decide +kernel
theorem dX8_become_47 : decode cX8_become 47 = .ok (.return_, 1) := by decide +kernel
theorem dX8_standOf_0 : decode cX8_standOf 0 = .ok (.aload_n 0, 1) := by decide +kernel
theorem dX8_standOf_1 : decode cX8_standOf 1 = .ok (.getfield 18, 3) := by decide +kernel
theorem dX8_standOf_4 : decode cX8_standOf 4 = .ok (.iload_n 2, 1) := by decide +kernel
theorem dX8_standOf_5 : decode cX8_standOf 5 = .ok (.iaload, 1) := by decide +kernel
theorem dX8_standOf_6 : decode cX8_standOf 6 = .ok (.iconst (-1), 1) := by decide +kernel
theorem dX8_standOf_7 : decode cX8_standOf 7 = .ok (.if_icmp .eq 5, 3) := by decide +kernel
theorem dX8_standOf_10 : decode cX8_standOf 10 = .ok (.iconst 1, 1) := by decide +kernel
theorem dX8_standOf_11 : decode cX8_standOf 11 = .ok (.ireturn, 1) := by decide +kernel
theorem dX8_standOf_12 : decode cX8_standOf 12 = .ok (.aload_n 0, 1) := by decide +kernel
theorem dX8_standOf_13 : decode cX8_standOf 13 = .ok (.getfield 28, 3) := by decide +kernel
theorem dX8_standOf_16 : decode cX8_standOf 16 = .ok (.aload_n 1, 1) := by decide +kernel
theorem dX8_standOf_17 : decode cX8_standOf 17 = .ok (.getfield 45, 3) := by decide +kernel
theorem dX8_standOf_20 : decode cX8_standOf 20 = .ok (.iload_n 2, 1) := by decide +kernel
theorem dX8_standOf_21 : decode cX8_standOf 21 = .ok (.iaload, 1) := by decide +kernel
theorem dX8_standOf_22 : decode cX8_standOf 22 = .ok (.aload_n 1, 1) := by decide +kernel
theorem dX8_standOf_23 : decode cX8_standOf 23 = .ok (.getfield 48, 3) := by decide +kernel
theorem dX8_standOf_26 : decode cX8_standOf 26 = .ok (.iload_n 2, 1) := by decide +kernel
theorem dX8_standOf_27 : decode cX8_standOf 27 = .ok (.iaload, 1) := by decide +kernel
theorem dX8_standOf_28 : decode cX8_standOf 28 = .ok (.isub, 1) := by decide +kernel
theorem dX8_standOf_29 : decode cX8_standOf 29 = .ok (.if_icmp .le 7, 3) := by decide +kernel
theorem dX8_standOf_32 : decode cX8_standOf 32 = .ok (.iconst 2, 1) := by decide +kernel
theorem dX8_standOf_33 : decode cX8_standOf 33 = .ok (.goto 4, 3) := by decide +kernel
theorem dX8_standOf_36 : decode cX8_standOf 36 = .ok (.iconst 0, 1) := by decide +kernel
theorem dX8_standOf_37 : decode cX8_standOf 37 = .ok (.ireturn, 1) := by decide +kernel
theorem dX8_reaches_0 : decode cX8_reaches 0 = .ok (.aload_n 1, 1) := by decide +kernel
theorem dX8_reaches_1 : decode cX8_reaches 1 = .ok (.aload_n 0, 1) := by decide +kernel
theorem dX8_reaches_2 : decode cX8_reaches 2 = .ok (.getfield 9, 3) := by decide +kernel
theorem dX8_reaches_5 : decode cX8_reaches 5 = .ok (.aload_n 1, 1) := by decide +kernel
theorem dX8_reaches_6 : decode cX8_reaches 6 = .ok (.getfield 51, 3) := by decide +kernel
theorem dX8_reaches_9 : decode cX8_reaches 9 = .ok (.iload_n 2, 1) := by decide +kernel
theorem dX8_reaches_10 : decode cX8_reaches 10 = .ok (.iaload, 1) := by decide +kernel
theorem dX8_reaches_11 : decode cX8_reaches 11 = .ok (.invokevirtual 54, 3) := by decide +kernel
theorem dX8_reaches_14 : decode cX8_reaches 14 = .ok (.iconst (-1), 1) := by decide +kernel
theorem dX8_reaches_15 : decode cX8_reaches 15 = .ok (.if_icmp .eq 7, 3) := by decide +kernel
theorem dX8_reaches_18 : decode cX8_reaches 18 = .ok (.iconst 1, 1) := by decide +kernel
theorem dX8_reaches_19 : decode cX8_reaches 19 = .ok (.goto 4, 3) := by decide +kernel
theorem dX8_reaches_22 : decode cX8_reaches 22 = .ok (.iconst 0, 1) := by decide +kernel
theorem dX8_reaches_23 : decode cX8_reaches 23 = .ok (.ireturn, 1) := by decide +kernel
theorem dX8_hand_0 : decode cX8_hand 0 = .ok (.aload_n 0, 1) := by decide +kernel
theorem dX8_hand_1 : decode cX8_hand 1 = .ok (.dup, 1) := by decide +kernel
theorem dX8_hand_2 : decode cX8_hand 2 = .ok (.getfield 28, 3) := by decide +kernel
theorem dX8_hand_5 : decode cX8_hand 5 = .ok (.aload_n 1, 1) := by decide +kernel
theorem dX8_hand_6 : decode cX8_hand 6 = .ok (.aload_n 0, 1) := by decide +kernel
theorem dX8_hand_7 : decode cX8_hand 7 = .ok (.getfield 9, 3) := by decide +kernel
theorem dX8_hand_10 : decode cX8_hand 10 = .ok (.aload_n 1, 1) := by decide +kernel
theorem dX8_hand_11 : decode cX8_hand 11 = .ok (.getfield 51, 3) := by decide +kernel
theorem dX8_hand_14 : decode cX8_hand 14 = .ok (.iload_n 2, 1) := by decide +kernel
theorem dX8_hand_15 : decode cX8_hand 15 = .ok (.iaload, 1) := by decide +kernel
theorem dX8_hand_16 : decode cX8_hand 16 = .ok (.invokevirtual 54, 3) := by decide +kernel
theorem dX8_hand_19 : decode cX8_hand 19 = .ok (.iadd, 1) := by decide +kernel
theorem dX8_hand_20 : decode cX8_hand 20 = .ok (.putfield 28, 3) := by decide +kernel
theorem dX8_hand_23 : decode cX8_hand 23 = .ok (.aload_n 0, 1) := by decide +kernel
theorem dX8_hand_24 : decode cX8_hand 24 = .ok (.aload_n 1, 1) := by decide +kernel
theorem dX8_hand_25 : decode cX8_hand 25 = .ok (.getfield 51, 3) := by decide +kernel
theorem dX8_hand_28 : decode cX8_hand 28 = .ok (.iload_n 2, 1) := by decide +kernel
theorem dX8_hand_29 : decode cX8_hand 29 = .ok (.iaload, 1) := by decide +kernel
theorem dX8_hand_30 : decode cX8_hand 30 = .ok (.putfield 9, 3) := by decide +kernel
theorem dX8_hand_33 : decode cX8_hand 33 = .ok (.aload_n 0, 1) := by decide +kernel
theorem dX8_hand_34 : decode cX8_hand 34 = .ok (.iload_n 2, 1) := by decide +kernel
theorem dX8_hand_35 : decode cX8_hand 35 = .ok (.putfield 15, 3) := by decide +kernel
theorem dX8_hand_38 : decode cX8_hand 38 = .ok (.return_, 1) := by decide +kernel
theorem dX8_finish_0 : decode cX8_finish 0 = .ok (.aload_n 0, 1) := by decide +kernel
theorem dX8_finish_1 : decode cX8_finish 1 = .ok (.dup, 1) := by decide +kernel
theorem dX8_finish_2 : decode cX8_finish 2 = .ok (.getfield 28, 3) := by decide +kernel
theorem dX8_finish_5 : decode cX8_finish 5 = .ok (.aload_n 1, 1) := by decide +kernel
theorem dX8_finish_6 : decode cX8_finish 6 = .ok (.getfield 48, 3) := by decide +kernel
theorem dX8_finish_9 : decode cX8_finish 9 = .ok (.iload_n 2, 1) := by decide +kernel
theorem dX8_finish_10 : decode cX8_finish 10 = .ok (.iaload, 1) := by decide +kernel
theorem dX8_finish_11 : decode cX8_finish 11 = .ok (.iadd, 1) := by decide +kernel
theorem dX8_finish_12 : decode cX8_finish 12 = .ok (.putfield 28, 3) := by decide +kernel
theorem dX8_finish_15 : decode cX8_finish 15 = .ok (.aload_n 0, 1) := by decide +kernel
theorem dX8_finish_16 : decode cX8_finish 16 = .ok (.getfield 18, 3) := by decide +kernel
theorem dX8_finish_19 : decode cX8_finish 19 = .ok (.iload_n 2, 1) := by decide +kernel
theorem dX8_finish_20 : decode cX8_finish 20 = .ok (.aload_n 0, 1) := by decide +kernel
theorem dX8_finish_21 : decode cX8_finish 21 = .ok (.getfield 28, 3) := by decide +kernel
theorem dX8_finish_24 : decode cX8_finish 24 = .ok (.iastore, 1) := by decide +kernel
theorem dX8_finish_25 : decode cX8_finish 25 = .ok (.return_, 1) := by decide +kernel
theorem dX8_draw_0 : decode cX8_draw 0 = .ok (.aload_n 0, 1) := by decide +kernel
theorem dX8_draw_1 : decode cX8_draw 1 = .ok (.aload_n 0, 1) := by decide +kernel
theorem dX8_draw_2 : decode cX8_draw 2 = .ok (.getfield 36, 3) := by decide +kernel
theorem dX8_draw_5 : decode cX8_draw 5 = .ok (.i2l, 1) := by decide +kernel
theorem dX8_draw_6 : decode cX8_draw 6 = .ok (.ldc2_w 58, 3) := by decide +kernel
theorem dX8_draw_9 : decode cX8_draw 9 = .ok (.lmul, 1) := by decide +kernel
theorem dX8_draw_10 : decode cX8_draw 10 = .ok (.ldc2_w 60, 3) := by decide +kernel
theorem dX8_draw_13 : decode cX8_draw 13 = .ok (.ladd, 1) := by decide +kernel
theorem dX8_draw_14 : decode cX8_draw 14 = .ok (.ldc2_w 62, 3) := by decide +kernel
theorem dX8_draw_17 : decode cX8_draw 17 = .ok (.land, 1) := by decide +kernel
theorem dX8_draw_18 : decode cX8_draw 18 = .ok (.l2i, 1) := by decide +kernel
theorem dX8_draw_19 : decode cX8_draw 19 = .ok (.putfield 36, 3) := by decide +kernel
theorem dX8_draw_22 : decode cX8_draw 22 = .ok (.iload_n 1, 1) := by decide +kernel
theorem dX8_draw_23 : decode cX8_draw 23 = .ok (.ifCond .le 15, 3) := by decide +kernel
theorem dX8_draw_26 : decode cX8_draw 26 = .ok (.aload_n 0, 1) := by decide +kernel
theorem dX8_draw_27 : decode cX8_draw 27 = .ok (.getfield 36, 3) := by decide +kernel
theorem dX8_draw_30 : decode cX8_draw 30 = .ok (.ldc 64, 2) := by decide +kernel
theorem dX8_draw_32 : decode cX8_draw 32 = .ok (.idiv, 1) := by decide +kernel
theorem dX8_draw_33 : decode cX8_draw 33 = .ok (.iload_n 1, 1) := by decide +kernel
theorem dX8_draw_34 : decode cX8_draw 34 = .ok (.irem, 1) := by decide +kernel
theorem dX8_draw_35 : decode cX8_draw 35 = .ok (.goto 4, 3) := by decide +kernel
theorem dX8_draw_38 : decode cX8_draw 38 = .ok (.iconst 0, 1) := by decide +kernel
theorem dX8_draw_39 : decode cX8_draw 39 = .ok (.ireturn, 1) := by decide +kernel
theorem dX9_init_0 : decode cX9_init 0 = .ok (.aload_n 0, 1) := by decide +kernel
theorem dX9_init_1 : decode cX9_init 1 = .ok (.invokespecial 3, 3) := by decide +kernel
theorem dX9_init_4 : decode cX9_init 4 = .ok (.aload_n 0, 1) := by decide +kernel
theorem dX9_init_5 : decode cX9_init 5 = .ok (.iconst (-1), 1) := by decide +kernel
theorem dX9_init_6 : decode cX9_init 6 = .ok (.putfield 9, 3) := by decide +kernel
theorem dX9_init_9 : decode cX9_init 9 = .ok (.aload_n 0, 1) := by decide +kernel
theorem dX9_init_10 : decode cX9_init 10 = .ok (.bipush 7, 2) := by decide +kernel
theorem dX9_init_12 : decode cX9_init 12 = .ok (.bipush 7, 2) := by decide +kernel
theorem dX9_init_14 : decode cX9_init 14 = .ok (.multianewarray 15 2, 4) := by decide +kernel
theorem dX9_init_18 : decode cX9_init 18 = .ok (.putfield 17, 3) := by decide +kernel
theorem dX9_init_21 : decode cX9_init 21 = .ok (.aload_n 0, 1) := by decide +kernel
theorem dX9_init_22 : decode cX9_init 22 = .ok (.bipush 7, 2) := by decide +kernel
theorem dX9_init_24 : decode cX9_init 24 = .ok (.bipush 7, 2) := by decide +kernel
theorem dX9_init_26 : decode cX9_init 26 = .ok (.multianewarray 15 2, 4) := by decide +kernel
theorem dX9_init_30 : decode cX9_init 30 = .ok (.putfield 20, 3) := by decide +kernel
theorem dX9_init_33 : decode cX9_init 33 = .ok (.aload_n 0, 1) := by decide +kernel
theorem dX9_init_34 : decode cX9_init 34 = .ok (.bipush 6, 2) := by decide +kernel
theorem dX9_init_36 : decode cX9_init 36 = .ok (.newarray .int, 2) := by decide +kernel
theorem dX9_init_38 : decode cX9_init 38 = .ok (.putfield 23, 3) := by decide +kernel
theorem dX9_init_41 : decode cX9_init 41 = .ok (.aload_n 0, 1) := by decide +kernel
theorem dX9_init_42 : decode cX9_init 42 = .ok (.bipush 6, 2) := by decide +kernel
theorem dX9_init_44 : decode cX9_init 44 = .ok (.newarray .int, 2) := by decide +kernel
theorem dX9_init_46 : decode cX9_init 46 = .ok (.putfield 27, 3) := by decide +kernel
theorem dX9_init_49 : decode cX9_init 49 = .ok (.aload_n 0, 1) := by decide +kernel
theorem dX9_init_50 : decode cX9_init 50 = .ok (.bipush 6, 2) := by decide +kernel
theorem dX9_init_52 : decode cX9_init 52 = .ok (.newarray .int, 2) := by decide +kernel
theorem dX9_init_54 : decode cX9_init 54 = .ok (.putfield 30, 3) := by decide +kernel
theorem dX9_init_57 : decode cX9_init 57 = .ok (.aload_n 0, 1) := by decide +kernel
theorem dX9_init_58 : decode cX9_init 58 = .ok (.bipush 6, 2) := by decide +kernel
theorem dX9_init_60 : decode cX9_init 60 = .ok (.newarray .int, 2) := by decide +kernel
theorem dX9_init_62 : decode cX9_init 62 = .ok (.putfield 33, 3) := by decide +kernel
theorem dX9_init_65 : decode cX9_init 65 = .ok (.aload_n 0, 1) := by decide +kernel
theorem dX9_init_66 : decode cX9_init 66 = .ok (.bipush 6, 2) := by decide +kernel
theorem dX9_init_68 : decode cX9_init 68 = .ok (.newarray .int, 2) := by decide +kernel
theorem dX9_init_70 : decode cX9_init 70 = .ok (.putfield 36, 3) := by decide +kernel
theorem dX9_init_73 : decode cX9_init 73 = .ok (.aload_n 0, 1) := by decide +kernel
theorem dX9_init_74 : decode cX9_init 74 = .ok (.bipush 6, 2) := by decide +kernel
theorem dX9_init_76 : decode cX9_init 76 = .ok (.newarray .int, 2) := by decide +kernel
theorem dX9_init_78 : decode cX9_init 78 = .ok (.putfield 39, 3) := by decide +kernel
theorem dX9_init_81 : decode cX9_init 81 = .ok (.aload_n 0, 1) := by decide +kernel
theorem dX9_init_82 : decode cX9_init 82 = .ok (.bipush 6, 2) := by decide +kernel
theorem dX9_init_84 : decode cX9_init 84 = .ok (.newarray .int, 2) := by decide +kernel
theorem dX9_init_86 : decode cX9_init 86 = .ok (.putfield 42, 3) := by decide +kernel
theorem dX9_init_89 : decode cX9_init 89 = .ok (.aload_n 0, 1) := by decide +kernel
theorem dX9_init_90 : decode cX9_init 90 = .ok (.bipush 6, 2) := by decide +kernel
theorem dX9_init_92 : decode cX9_init 92 = .ok (.bipush 6, 2) := by decide +kernel
theorem dX9_init_94 : decode cX9_init 94 = .ok (.multianewarray 15 2, 4) := by decide +kernel
theorem dX9_init_98 : decode cX9_init 98 = .ok (.putfield 45, 3) := by decide +kernel
theorem dX9_init_101 : decode cX9_init 101 = .ok (.aload_n 0, 1) := by decide +kernel
theorem dX9_init_102 : decode cX9_init 102 = .ok (.iconst 4, 1) := by decide +kernel
theorem dX9_init_103 : decode cX9_init 103 = .ok (.newarray .int, 2) := by decide +kernel
theorem dX9_init_105 : decode cX9_init 105 = .ok (.putfield 48, 3) := by decide +kernel
theorem dX9_init_108 : decode cX9_init 108 = .ok (.aload_n 0, 1) := by decide +kernel
theorem dX9_init_109 : decode cX9_init 109 = .ok (.invokevirtual 51, 3) := by decide +kernel
theorem dX9_init_112 : decode cX9_init 112 = .ok (.return_, 1) := by decide +kernel
theorem dX9_clear_0 : decode cX9_clear 0 = .ok (.aload_n 0, 1) := by decide +kernel
theorem dX9_clear_1 : decode cX9_clear 1 = .ok (.iconst 0, 1) := by decide +kernel
theorem dX9_clear_2 : decode cX9_clear 2 = .ok (.putfield 54, 3) := by decide +kernel
theorem dX9_clear_5 : decode cX9_clear 5 = .ok (.aload_n 0, 1) := by decide +kernel
theorem dX9_clear_6 : decode cX9_clear 6 = .ok (.iconst (-1), 1) := by decide +kernel
theorem dX9_clear_7 : decode cX9_clear 7 = .ok (.putfield 9, 3) := by decide +kernel
theorem dX9_clear_10 : decode cX9_clear 10 = .ok (.aload_n 0, 1) := by decide +kernel
theorem dX9_clear_11 : decode cX9_clear 11 = .ok (.iconst 0, 1) := by decide +kernel
theorem dX9_clear_12 : decode cX9_clear 12 = .ok (.putfield 57, 3) := by decide +kernel
theorem dX9_clear_15 : decode cX9_clear 15 = .ok (.aload_n 0, 1) := by decide +kernel
theorem dX9_clear_16 : decode cX9_clear 16 = .ok (.iconst 0, 1) := by decide +kernel
theorem dX9_clear_17 : decode cX9_clear 17 = .ok (.putfield 60, 3) := by decide +kernel
theorem dX9_clear_20 : decode cX9_clear 20 = .ok (.aload_n 0, 1) := by decide +kernel
theorem dX9_clear_21 : decode cX9_clear 21 = .ok (.iconst 0, 1) := by decide +kernel
theorem dX9_clear_22 : decode cX9_clear 22 = .ok (.putfield 63, 3) := by decide +kernel
theorem dX9_clear_25 : decode cX9_clear 25 = .ok (.iconst 0, 1) := by decide +kernel
theorem dX9_clear_26 : decode cX9_clear 26 = .ok (.istore_n 1, 1) := by decide +kernel
theorem dX9_clear_27 : decode cX9_clear 27 = .ok (.iload_n 1, 1) := by decide +kernel
theorem dX9_clear_28 : decode cX9_clear 28 = .ok (.bipush 7, 2) := by decide +kernel
theorem dX9_clear_30 : decode cX9_clear 30 = .ok (.if_icmp .ge 19, 3) := by decide +kernel
theorem dX9_clear_33 : decode cX9_clear 33 = .ok (.aload_n 0, 1) := by decide +kernel
theorem dX9_clear_34 : decode cX9_clear 34 = .ok (.getfield 17, 3) := by decide +kernel
theorem dX9_clear_37 : decode cX9_clear 37 = .ok (.iload_n 1, 1) := by decide +kernel
theorem dX9_clear_38 : decode cX9_clear 38 = .ok (.aaload, 1) := by decide +kernel
theorem dX9_clear_39 : decode cX9_clear 39 = .ok (.iconst (-1), 1) := by decide +kernel
theorem dX9_clear_40 : decode cX9_clear 40 = .ok (.invokestatic 66, 3) := by decide +kernel
theorem dX9_clear_43 : decode cX9_clear 43 = .ok (.iinc 1 1, 3) := by decide +kernel
theorem dX9_clear_46 : decode cX9_clear 46 = .ok (.goto (-19), 3) := by decide +kernel
theorem dX9_clear_49 : decode cX9_clear 49 = .ok (.iconst 0, 1) := by decide +kernel
theorem dX9_clear_50 : decode cX9_clear 50 = .ok (.istore_n 1, 1) := by decide +kernel
theorem dX9_clear_51 : decode cX9_clear 51 = .ok (.iload_n 1, 1) := by decide +kernel
theorem dX9_clear_52 : decode cX9_clear 52 = .ok (.bipush 6, 2) := by decide +kernel
theorem dX9_clear_54 : decode cX9_clear 54 = .ok (.if_icmp .ge 19, 3) := by decide +kernel
theorem dX9_clear_57 : decode cX9_clear 57 = .ok (.aload_n 0, 1) := by decide +kernel
theorem dX9_clear_58 : decode cX9_clear 58 = .ok (.getfield 45, 3) := by decide +kernel
theorem dX9_clear_61 : decode cX9_clear 61 = .ok (.iload_n 1, 1) := by decide +kernel
theorem dX9_clear_62 : decode cX9_clear 62 = .ok (.aaload, 1) := by decide +kernel
theorem dX9_clear_63 : decode cX9_clear 63 = .ok (.iconst (-1), 1) := by decide +kernel
theorem dX9_clear_64 : decode cX9_clear 64 = .ok (.invokestatic 66, 3) := by decide +kernel
theorem dX9_clear_67 : decode cX9_clear 67 = .ok (.iinc 1 1, 3) := by decide +kernel
theorem dX9_clear_70 : decode cX9_clear 70 = .ok (.goto (-19), 3) := by decide +kernel
theorem dX9_clear_73 : decode cX9_clear 73 = .ok (.aload_n 0, 1) := by decide +kernel
theorem dX9_clear_74 : decode cX9_clear 74 = .ok (.getfield 42, 3) := by decide +kernel
theorem dX9_clear_77 : decode cX9_clear 77 = .ok (.iconst (-1), 1) := by decide +kernel
theorem dX9_clear_78 : decode cX9_clear 78 = .ok (.invokestatic 66, 3) := by decide +kernel
theorem dX9_clear_81 : decode cX9_clear 81 = .ok (.return_, 1) := by decide +kernel
theorem dX9_isSquare_0 : decode cX9_isSquare 0 = .ok (.iload_n 1, 1) := by decide +kernel
theorem dX9_isSquare_1 : decode cX9_isSquare 1 = .ok (.ifCond .lt 15, 3) := by decide +kernel
theorem dX9_isSquare_4 : decode cX9_isSquare 4 = .ok (.iload_n 1, 1) := by decide +kernel
theorem dX9_isSquare_5 : decode cX9_isSquare 5 = .ok (.aload_n 0, 1) := by decide +kernel
theorem dX9_isSquare_6 : decode cX9_isSquare 6 = .ok (.getfield 54, 3) := by decide +kernel
theorem dX9_isSquare_9 : decode cX9_isSquare 9 = .ok (.if_icmp .ge 7, 3) := by decide +kernel
theorem dX9_isSquare_12 : decode cX9_isSquare 12 = .ok (.iconst 1, 1) := by decide +kernel
theorem dX9_isSquare_13 : decode cX9_isSquare 13 = .ok (.goto 4, 3) := by decide +kernel
theorem dX9_isSquare_16 : decode cX9_isSquare 16 = .ok (.iconst 0, 1) := by decide +kernel
theorem dX9_isSquare_17 : decode cX9_isSquare 17 = .ok (.ireturn, 1) := by decide +kernel
theorem dX9_isPerson_0 : decode cX9_isPerson 0 = .ok (.iload_n 1, 1) := by decide +kernel
theorem dX9_isPerson_1 : decode cX9_isPerson 1 = .ok (.ifCond .lt 15, 3) := by decide +kernel
theorem dX9_isPerson_4 : decode cX9_isPerson 4 = .ok (.iload_n 1, 1) := by decide +kernel
theorem dX9_isPerson_5 : decode cX9_isPerson 5 = .ok (.aload_n 0, 1) := by decide +kernel
theorem dX9_isPerson_6 : decode cX9_isPerson 6 = .ok (.getfield 57, 3) := by decide +kernel
theorem dX9_isPerson_9 : decode cX9_isPerson 9 = .ok (.if_icmp .ge 7, 3) := by decide +kernel
theorem dX9_isPerson_12 : decode cX9_isPerson 12 = .ok (.iconst 1, 1) := by decide +kernel
theorem dX9_isPerson_13 : decode cX9_isPerson 13 = .ok (.goto 4, 3) := by decide +kernel
theorem dX9_isPerson_16 : decode cX9_isPerson 16 = .ok (.iconst 0, 1) := by decide +kernel
theorem dX9_isPerson_17 : decode cX9_isPerson 17 = .ok (.ireturn, 1) := by decide +kernel
theorem dX9_areTwoPeople_0 : decode cX9_areTwoPeople 0 = .ok (.aload_n 0, 1) := by decide +kernel
theorem dX9_areTwoPeople_1 : decode cX9_areTwoPeople 1 = .ok (.iload_n 1, 1) := by decide +kernel
theorem dX9_areTwoPeople_2 : decode cX9_areTwoPeople 2 = .ok (.invokevirtual 72, 3) := by decide +kernel
theorem dX9_areTwoPeople_5 : decode cX9_areTwoPeople 5 = .ok (.ifCond .eq 20, 3) := by decide +kernel
theorem dX9_areTwoPeople_8 : decode cX9_areTwoPeople 8 = .ok (.aload_n 0, 1) := by decide +kernel
theorem dX9_areTwoPeople_9 : decode cX9_areTwoPeople 9 = .ok (.iload_n 2, 1) := by decide +kernel
theorem dX9_areTwoPeople_10 : decode cX9_areTwoPeople 10 = .ok (.invokevirtual 72, 3) := by decide +kernel
theorem dX9_areTwoPeople_13 : decode cX9_areTwoPeople 13 = .ok (.ifCond .eq 12, 3) := by decide +kernel
theorem dX9_areTwoPeople_16 : decode cX9_areTwoPeople 16 = .ok (.iload_n 1, 1) := by decide +kernel
theorem dX9_areTwoPeople_17 : decode cX9_areTwoPeople 17 = .ok (.iload_n 2, 1) := by decide +kernel
theorem dX9_areTwoPeople_18 : decode cX9_areTwoPeople 18 = .ok (.if_icmp .eq 7, 3) := by decide +kernel
theorem dX9_areTwoPeople_21 : decode cX9_areTwoPeople 21 = .ok (.iconst 1, 1) := by decide +kernel
theorem dX9_areTwoPeople_22 : decode cX9_areTwoPeople 22 = .ok (.goto 4, 3) := by decide +kernel
theorem dX9_areTwoPeople_25 : decode cX9_areTwoPeople 25 = .ok (.iconst 0, 1) := by decide +kernel
theorem dX9_areTwoPeople_26 : decode cX9_areTwoPeople 26 = .ok (.ireturn, 1) := by decide +kernel
theorem dX9_isDeed_0 : decode cX9_isDeed 0 = .ok (.iload_n 1, 1) := by decide +kernel
theorem dX9_isDeed_1 : decode cX9_isDeed 1 = .ok (.ifCond .lt 15, 3) := by decide +kernel
theorem dX9_isDeed_4 : decode cX9_isDeed 4 = .ok (.iload_n 1, 1) := by decide +kernel
theorem dX9_isDeed_5 : decode cX9_isDeed 5 = .ok (.aload_n 0, 1) := by decide +kernel
theorem dX9_isDeed_6 : decode cX9_isDeed 6 = .ok (.getfield 60, 3) := by decide +kernel
theorem dX9_isDeed_9 : decode cX9_isDeed 9 = .ok (.if_icmp .ge 7, 3) := by decide +kernel
theorem dX9_isDeed_12 : decode cX9_isDeed 12 = .ok (.iconst 1, 1) := by decide +kernel
theorem dX9_isDeed_13 : decode cX9_isDeed 13 = .ok (.goto 4, 3) := by decide +kernel
theorem dX9_isDeed_16 : decode cX9_isDeed 16 = .ok (.iconst 0, 1) := by decide +kernel
theorem dX9_isDeed_17 : decode cX9_isDeed 17 = .ok (.ireturn, 1) := by decide +kernel
theorem dX9_isWord_0 : decode cX9_isWord 0 = .ok (.iload_n 1, 1) := by decide +kernel
theorem dX9_isWord_1 : decode cX9_isWord 1 = .ok (.ifCond .lt 15, 3) := by decide +kernel
theorem dX9_isWord_4 : decode cX9_isWord 4 = .ok (.iload_n 1, 1) := by decide +kernel
theorem dX9_isWord_5 : decode cX9_isWord 5 = .ok (.aload_n 0, 1) := by decide +kernel
theorem dX9_isWord_6 : decode cX9_isWord 6 = .ok (.getfield 63, 3) := by decide +kernel
theorem dX9_isWord_9 : decode cX9_isWord 9 = .ok (.if_icmp .ge 7, 3) := by decide +kernel
theorem dX9_isWord_12 : decode cX9_isWord 12 = .ok (.iconst 1, 1) := by decide +kernel
theorem dX9_isWord_13 : decode cX9_isWord 13 = .ok (.goto 4, 3) := by decide +kernel
theorem dX9_isWord_16 : decode cX9_isWord 16 = .ok (.iconst 0, 1) := by decide +kernel
theorem dX9_isWord_17 : decode cX9_isWord 17 = .ok (.ireturn, 1) := by decide +kernel
theorem dX9_measure_0 : decode cX9_measure 0 = .ok (.iconst 0, 1) := by decide +kernel
theorem dX9_measure_1 : decode cX9_measure 1 = .ok (.istore_n 1, 1) := by decide +kernel
theorem dX9_measure_2 : decode cX9_measure 2 = .ok (.iload_n 1, 1) := by decide +kernel
theorem dX9_measure_3 : decode cX9_measure 3 = .ok (.aload_n 0, 1) := by decide +kernel
theorem dX9_measure_4 : decode cX9_measure 4 = .ok (.getfield 54, 3) := by decide +kernel
theorem dX9_measure_7 : decode cX9_measure 7 = .ok (.if_icmp .ge 50, 3) := by decide +kernel
theorem dX9_measure_10 : decode cX9_measure 10 = .ok (.iconst 0, 1) := by decide +kernel
theorem dX9_measure_11 : decode cX9_measure 11 = .ok (.istore_n 2, 1) := by decide +kernel
theorem dX9_measure_12 : decode cX9_measure 12 = .ok (.iload_n 2, 1) := by decide +kernel
theorem dX9_measure_13 : decode cX9_measure 13 = .ok (.aload_n 0, 1) := by decide +kernel
theorem dX9_measure_14 : decode cX9_measure 14 = .ok (.getfield 54, 3) := by decide +kernel
theorem dX9_measure_17 : decode cX9_measure 17 = .ok (.if_icmp .ge 34, 3) := by decide +kernel
theorem dX9_measure_20 : decode cX9_measure 20 = .ok (.aload_n 0, 1) := by decide +kernel
theorem dX9_measure_21 : decode cX9_measure 21 = .ok (.getfield 20, 3) := by decide +kernel
theorem dX9_measure_24 : decode cX9_measure 24 = .ok (.iload_n 1, 1) := by decide +kernel
theorem dX9_measure_25 : decode cX9_measure 25 = .ok (.aaload, 1) := by decide +kernel
theorem dX9_measure_26 : decode cX9_measure 26 = .ok (.iload_n 2, 1) := by decide +kernel
theorem dX9_measure_27 : decode cX9_measure 27 = .ok (.iload_n 1, 1) := by decide +kernel
theorem dX9_measure_28 : decode cX9_measure 28 = .ok (.iload_n 2, 1) := by decide +kernel
theorem dX9_measure_29 : decode cX9_measure 29 = .ok (.if_icmp .ne 7, 3) := by decide +kernel
theorem dX9_measure_32 : decode cX9_measure 32 = .ok (.iconst 0, 1) := by decide +kernel
theorem dX9_measure_33 : decode cX9_measure 33 = .ok (.goto 11, 3) := by decide +kernel
theorem dX9_measure_36 : decode cX9_measure 36 = .ok (.aload_n 0, 1) := by decide +kernel
theorem dX9_measure_37 : decode cX9_measure 37 = .ok (.getfield 17, 3) := by decide +kernel
theorem dX9_measure_40 : decode cX9_measure 40 = .ok (.iload_n 1, 1) := by decide +kernel
theorem dX9_measure_41 : decode cX9_measure 41 = .ok (.aaload, 1) := by decide +kernel
theorem dX9_measure_42 : decode cX9_measure 42 = .ok (.iload_n 2, 1) := by decide +kernel
theorem dX9_measure_43 : decode cX9_measure 43 = .ok (.iaload, 1) := by decide +kernel
theorem dX9_measure_44 : decode cX9_measure 44 = .ok (.iastore, 1) := by decide +kernel
theorem dX9_measure_45 : decode cX9_measure 45 = .ok (.iinc 2 1, 3) := by decide +kernel
theorem dX9_measure_48 : decode cX9_measure 48 = .ok (.goto (-36), 3) := by decide +kernel
theorem dX9_measure_51 : decode cX9_measure 51 = .ok (.iinc 1 1, 3) := by decide +kernel
theorem dX9_measure_54 : decode cX9_measure 54 = .ok (.goto (-52), 3) := by decide +kernel
theorem dX9_measure_57 : decode cX9_measure 57 = .ok (.iconst 0, 1) := by decide +kernel
theorem dX9_measure_58 : decode cX9_measure 58 = .ok (.istore_n 1, 1) := by decide +kernel
theorem dX9_measure_59 : decode cX9_measure 59 = .ok (.iload_n 1, 1) := by decide +kernel
theorem dX9_measure_60 : decode cX9_measure 60 = .ok (.aload_n 0, 1) := by decide +kernel
theorem dX9_measure_61 : decode cX9_measure 61 = .ok (.getfield 54, 3) := by decide +kernel
theorem dX9_measure_64 : decode cX9_measure 64 = .ok (.if_icmp .ge 48, 3) := by decide +kernel
theorem dX9_measure_67 : decode cX9_measure 67 = .ok (.iconst 0, 1) := by decide +kernel
theorem dX9_measure_68 : decode cX9_measure 68 = .ok (.istore_n 2, 1) := by decide +kernel
theorem dX9_measure_69 : decode cX9_measure 69 = .ok (.iload_n 2, 1) := by decide +kernel
theorem dX9_measure_70 : decode cX9_measure 70 = .ok (.aload_n 0, 1) := by decide +kernel
theorem dX9_measure_71 : decode cX9_measure 71 = .ok (.getfield 54, 3) := by decide +kernel
theorem dX9_measure_74 : decode cX9_measure 74 = .ok (.if_icmp .ge 32, 3) := by decide +kernel
theorem dX9_measure_77 : decode cX9_measure 77 = .ok (.iconst 0, 1) := by decide +kernel
theorem dX9_measure_78 : decode cX9_measure 78 = .ok (.istore_n 3, 1) := by decide +kernel
theorem dX9_measure_79 : decode cX9_measure 79 = .ok (.iload_n 3, 1) := by decide +kernel
theorem dX9_measure_80 : decode cX9_measure 80 = .ok (.aload_n 0, 1) := by decide +kernel
theorem dX9_measure_81 : decode cX9_measure 81 = .ok (.getfield 54, 3) := by decide +kernel
theorem dX9_measure_84 : decode cX9_measure 84 = .ok (.if_icmp .ge 16, 3) := by decide +kernel
theorem dX9_measure_87 : decode cX9_measure 87 = .ok (.aload_n 0, 1) := by decide +kernel
theorem dX9_measure_88 : decode cX9_measure 88 = .ok (.iload_n 2, 1) := by decide +kernel
theorem dX9_measure_89 : decode cX9_measure 89 = .ok (.iload_n 1, 1) := by decide +kernel
theorem dX9_measure_90 : decode cX9_measure 90 = .ok (.iload_n 3, 1) := by decide +kernel
theorem dX9_measure_91 : decode cX9_measure 91 = .ok (.invokevirtual 76, 3) := by decide +kernel
theorem dX9_measure_94 : decode cX9_measure 94 = .ok (.iinc 3 1, 3) := by decide +kernel
theorem dX9_measure_97 : decode cX9_measure 97 = .ok (.goto (-18), 3) := by decide +kernel
theorem dX9_measure_100 : decode cX9_measure 100 = .ok (.iinc 2 1, 3) := by decide +kernel
theorem dX9_measure_103 : decode cX9_measure 103 = .ok (.goto (-34), 3) := by decide +kernel
theorem dX9_measure_106 : decode cX9_measure 106 = .ok (.iinc 1 1, 3) := by decide +kernel
theorem dX9_measure_109 : decode cX9_measure 109 = .ok (.goto (-50), 3) := by decide +kernel
theorem dX9_measure_112 : decode cX9_measure 112 = .ok (.return_, 1) := by decide +kernel
theorem dX9_shorten_0 : decode cX9_shorten 0 = .ok (.aload_n 0, 1) := by decide +kernel
theorem dX9_shorten_1 : decode cX9_shorten 1 = .ok (.getfield 20, 3) := by decide +kernel
theorem dX9_shorten_4 : decode cX9_shorten 4 = .ok (.iload_n 1, 1) := by decide +kernel
theorem dX9_shorten_5 : decode cX9_shorten 5 = .ok (.aaload, 1) := by decide +kernel
theorem dX9_shorten_6 : decode cX9_shorten 6 = .ok (.iload_n 2, 1) := by decide +kernel
theorem dX9_shorten_7 : decode cX9_shorten 7 = .ok (.iaload, 1) := by decide +kernel
theorem dX9_shorten_8 : decode cX9_shorten 8 = .ok (.iconst (-1), 1) := by decide +kernel
theorem dX9_shorten_9 : decode cX9_shorten 9 = .ok (.if_icmp .eq 15, 3) := by decide +kernel
theorem dX9_shorten_12 : decode cX9_shorten 12 = .ok (.aload_n 0, 1) := by decide +kernel
theorem dX9_shorten_13 : decode cX9_shorten 13 = .ok (.getfield 20, 3) := by decide +kernel
theorem dX9_shorten_16 : decode cX9_shorten 16 = .ok (.iload_n 2, 1) := by decide +kernel
theorem dX9_shorten_17 : decode cX9_shorten 17 = .ok (.aaload, 1) := by decide +kernel
theorem dX9_shorten_18 : decode cX9_shorten 18 = .ok (.iload_n 3, 1) := by decide +kernel
theorem dX9_shorten_19 : decode cX9_shorten 19 = .ok (.iaload, 1) := by decide +kernel
theorem dX9_shorten_20 : decode cX9_shorten 20 = .ok (.iconst (-1), 1) := by decide +kernel
theorem dX9_shorten_21 : decode cX9_shorten 21 = .ok (.if_icmp .ne 4, 3) := by decide +kernel
theorem dX9_shorten_24 : decode cX9_shorten 24 = .ok (.return_, 1) := by decide +kernel
theorem dX9_shorten_25 : decode cX9_shorten 25 = .ok (.aload_n 0, 1) := by decide +kernel
theorem dX9_shorten_26 : decode cX9_shorten 26 = .ok (.getfield 20, 3) := by decide +kernel
theorem dX9_shorten_29 : decode cX9_shorten 29 = .ok (.iload_n 1, 1) := by decide +kernel
theorem dX9_shorten_30 : decode cX9_shorten 30 = .ok (.aaload, 1) := by decide +kernel
theorem dX9_shorten_31 : decode cX9_shorten 31 = .ok (.iload_n 2, 1) := by decide +kernel
theorem dX9_shorten_32 : decode cX9_shorten 32 = .ok (.iaload, 1) := by decide +kernel
theorem dX9_shorten_33 : decode cX9_shorten 33 = .ok (.aload_n 0, 1) := by decide +kernel
theorem dX9_shorten_34 : decode cX9_shorten 34 = .ok (.getfield 20, 3) := by decide +kernel
theorem dX9_shorten_37 : decode cX9_shorten 37 = .ok (.iload_n 2, 1) := by decide +kernel
theorem dX9_shorten_38 : decode cX9_shorten 38 = .ok (.aaload, 1) := by decide +kernel
theorem dX9_shorten_39 : decode cX9_shorten 39 = .ok (.iload_n 3, 1) := by decide +kernel
theorem dX9_shorten_40 : decode cX9_shorten 40 = .ok (.iaload, 1) := by decide +kernel
theorem dX9_shorten_41 : decode cX9_shorten 41 = .ok (.iadd, 1) := by decide +kernel
theorem dX9_shorten_42 : decode cX9_shorten 42 = .ok (.istore 4, 2) := by decide +kernel
theorem dX9_shorten_44 : decode cX9_shorten 44 = .ok (.aload_n 0, 1) := by decide +kernel
theorem dX9_shorten_45 : decode cX9_shorten 45 = .ok (.getfield 20, 3) := by decide +kernel
theorem dX9_shorten_48 : decode cX9_shorten 48 = .ok (.iload_n 1, 1) := by decide +kernel
theorem dX9_shorten_49 : decode cX9_shorten 49 = .ok (.aaload, 1) := by decide +kernel
theorem dX9_shorten_50 : decode cX9_shorten 50 = .ok (.iload_n 3, 1) := by decide +kernel
theorem dX9_shorten_51 : decode cX9_shorten 51 = .ok (.iaload, 1) := by decide +kernel
theorem dX9_shorten_52 : decode cX9_shorten 52 = .ok (.iconst (-1), 1) := by decide +kernel
theorem dX9_shorten_53 : decode cX9_shorten 53 = .ok (.if_icmp .eq 16, 3) := by decide +kernel
theorem dX9_shorten_56 : decode cX9_shorten 56 = .ok (.iload 4, 2) := by decide +kernel
theorem dX9_shorten_58 : decode cX9_shorten 58 = .ok (.aload_n 0, 1) := by decide +kernel
theorem dX9_shorten_59 : decode cX9_shorten 59 = .ok (.getfield 20, 3) := by decide +kernel
theorem dX9_shorten_62 : decode cX9_shorten 62 = .ok (.iload_n 1, 1) := by decide +kernel
theorem dX9_shorten_63 : decode cX9_shorten 63 = .ok (.aaload, 1) := by decide +kernel
theorem dX9_shorten_64 : decode cX9_shorten 64 = .ok (.iload_n 3, 1) := by decide +kernel
theorem dX9_shorten_65 : decode cX9_shorten 65 = .ok (.iaload, 1) := by decide +kernel
theorem dX9_shorten_66 : decode cX9_shorten 66 = .ok (.if_icmp .ge 13, 3) := by decide +kernel
theorem dX9_shorten_69 : decode cX9_shorten 69 = .ok (.aload_n 0, 1) := by decide +kernel
theorem dX9_shorten_70 : decode cX9_shorten 70 = .ok (.getfield 20, 3) := by decide +kernel
theorem dX9_shorten_73 : decode cX9_shorten 73 = .ok (.iload_n 1, 1) := by decide +kernel
theorem dX9_shorten_74 : decode cX9_shorten 74 = .ok (.aaload, 1) := by decide +kernel
theorem dX9_shorten_75 : decode cX9_shorten 75 = .ok (.iload_n 3, 1) := by decide +kernel
theorem dX9_shorten_76 : decode cX9_shorten 76 = .ok (.iload 4, 2) := by decide +kernel
theorem dX9_shorten_78 : decode cX9_shorten 78 = .ok (.iastore, 1) := by decide +kernel
theorem dX9_shorten_79 : decode cX9_shorten 79 = .ok (.return_, 1) := by decide +kernel
theorem dX9_between_0 : decode cX9_between 0 = .ok (.aload_n 0, 1) := by decide +kernel
theorem dX9_between_1 : decode cX9_between 1 = .ok (.iload_n 1, 1) := by decide +kernel
theorem dX9_between_2 : decode cX9_between 2 = .ok (.invokevirtual 80, 3) := by decide +kernel
theorem dX9_between_5 : decode cX9_between 5 = .ok (.ifCond .eq 22, 3) := by decide +kernel
theorem dX9_between_8 : decode cX9_between 8 = .ok (.aload_n 0, 1) := by decide +kernel
theorem dX9_between_9 : decode cX9_between 9 = .ok (.iload_n 2, 1) := by decide +kernel
theorem dX9_between_10 : decode cX9_between 10 = .ok (.invokevirtual 80, 3) := by decide +kernel
theorem dX9_between_13 : decode cX9_between 13 = .ok (.ifCond .eq 14, 3) := by decide +kernel
theorem dX9_between_16 : decode cX9_between 16 = .ok (.aload_n 0, 1) := by decide +kernel
theorem dX9_between_17 : decode cX9_between 17 = .ok (.getfield 20, 3) := by decide +kernel
theorem dX9_between_20 : decode cX9_between 20 = .ok (.iload_n 1, 1) := by decide +kernel
theorem dX9_between_21 : decode cX9_between 21 = .ok (.aaload, 1) := by decide +kernel
theorem dX9_between_22 : decode cX9_between 22 = .ok (.iload_n 2, 1) := by decide +kernel
theorem dX9_between_23 : decode cX9_between 23 = .ok (.iaload, 1) := by decide +kernel
theorem dX9_between_24 : decode cX9_between 24 = .ok (.goto 4, 3) := by decide +kernel
theorem dX9_between_27 : decode cX9_between 27 = .ok (.iconst (-1), 1) := by decide +kernel
theorem dX9_between_28 : decode cX9_between 28 = .ok (.ireturn, 1) := by decide +kernel
theorem dX9_squareOf_0 : decode cX9_squareOf 0 = .ok (.aload_n 0, 1) := by decide +kernel
theorem dX9_squareOf_1 : decode cX9_squareOf 1 = .ok (.iload_n 1, 1) := by decide +kernel
theorem dX9_squareOf_2 : decode cX9_squareOf 2 = .ok (.invokevirtual 83, 3) := by decide +kernel
theorem dX9_squareOf_5 : decode cX9_squareOf 5 = .ok (.ifCond .eq 30, 3) := by decide +kernel
theorem dX9_squareOf_8 : decode cX9_squareOf 8 = .ok (.aload_n 0, 1) := by decide +kernel
theorem dX9_squareOf_9 : decode cX9_squareOf 9 = .ok (.aload_n 0, 1) := by decide +kernel
theorem dX9_squareOf_10 : decode cX9_squareOf 10 = .ok (.getfield 30, 3) := by decide +kernel
theorem dX9_squareOf_13 : decode cX9_squareOf 13 = .ok (.iload_n 1, 1) := by decide +kernel
theorem dX9_squareOf_14 : decode cX9_squareOf 14 = .ok (.iaload, 1) := by decide +kernel
theorem dX9_squareOf_15 : decode cX9_squareOf 15 = .ok (.invokevirtual 72, 3) := by decide +kernel
theorem dX9_squareOf_18 : decode cX9_squareOf 18 = .ok (.ifCond .eq 17, 3) := by decide +kernel
theorem dX9_squareOf_21 : decode cX9_squareOf 21 = .ok (.aload_n 0, 1) := by decide +kernel
theorem dX9_squareOf_22 : decode cX9_squareOf 22 = .ok (.getfield 23, 3) := by decide +kernel
theorem dX9_squareOf_25 : decode cX9_squareOf 25 = .ok (.aload_n 0, 1) := by decide +kernel
theorem dX9_squareOf_26 : decode cX9_squareOf 26 = .ok (.getfield 30, 3) := by decide +kernel
theorem dX9_squareOf_29 : decode cX9_squareOf 29 = .ok (.iload_n 1, 1) := by decide +kernel
theorem dX9_squareOf_30 : decode cX9_squareOf 30 = .ok (.iaload, 1) := by decide +kernel
theorem dX9_squareOf_31 : decode cX9_squareOf 31 = .ok (.iaload, 1) := by decide +kernel
theorem dX9_squareOf_32 : decode cX9_squareOf 32 = .ok (.goto 4, 3) := by decide +kernel
theorem dX9_squareOf_35 : decode cX9_squareOf 35 = .ok (.iconst (-1), 1) := by decide +kernel
theorem dX9_squareOf_36 : decode cX9_squareOf 36 = .ok (.ireturn, 1) := by decide +kernel
theorem dX9_worthOf_0 : decode cX9_worthOf 0 = .ok (.iconst 0, 1) := by decide +kernel
theorem dX9_worthOf_1 : decode cX9_worthOf 1 = .ok (.istore_n 2, 1) := by decide +kernel
theorem dX9_worthOf_2 : decode cX9_worthOf 2 = .ok (.iconst 0, 1) := by decide +kernel
theorem dX9_worthOf_3 : decode cX9_worthOf 3 = .ok (.istore_n 3, 1) := by decide +kernel
theorem dX9_worthOf_4 : decode cX9_worthOf 4 = .ok (.iload_n 3, 1) := by decide +kernel
theorem dX9_worthOf_5 : decode cX9_worthOf 5 = .ok (.aload_n 0, 1) := by decide +kernel
theorem dX9_worthOf_6 : decode cX9_worthOf 6 = .ok (.getfield 60, 3) := by decide +kernel
theorem dX9_worthOf_9 : decode cX9_worthOf 9 = .ok (.if_icmp .ge 26, 3) := by decide +kernel
theorem dX9_worthOf_12 : decode cX9_worthOf 12 = .ok (.iload_n 1, 1) := by decide +kernel
theorem dX9_worthOf_13 : decode cX9_worthOf 13 = .ok (.iload_n 3, 1) := by decide +kernel
theorem dX9_worthOf_14 : decode cX9_worthOf 14 = .ok (.ishr, 1) := by decide +kernel
theorem dX9_worthOf_15 : decode cX9_worthOf 15 = .ok (.iconst 1, 1) := by decide +kernel
theorem dX9_worthOf_16 : decode cX9_worthOf 16 = .ok (.iand, 1) := by decide +kernel
theorem dX9_worthOf_17 : decode cX9_worthOf 17 = .ok (.ifCond .eq 12, 3) := by decide +kernel
theorem dX9_worthOf_20 : decode cX9_worthOf 20 = .ok (.iload_n 2, 1) := by decide +kernel
theorem dX9_worthOf_21 : decode cX9_worthOf 21 = .ok (.aload_n 0, 1) := by decide +kernel
theorem dX9_worthOf_22 : decode cX9_worthOf 22 = .ok (.getfield 39, 3) := by decide +kernel
theorem dX9_worthOf_25 : decode cX9_worthOf 25 = .ok (.iload_n 3, 1) := by decide +kernel
theorem dX9_worthOf_26 : decode cX9_worthOf 26 = .ok (.iaload, 1) := by decide +kernel
theorem dX9_worthOf_27 : decode cX9_worthOf 27 = .ok (.iadd, 1) := by decide +kernel
theorem dX9_worthOf_28 : decode cX9_worthOf 28 = .ok (.istore_n 2, 1) := by decide +kernel
theorem dX9_worthOf_29 : decode cX9_worthOf 29 = .ok (.iinc 3 1, 3) := by decide +kernel
theorem dX9_worthOf_32 : decode cX9_worthOf 32 = .ok (.goto (-28), 3) := by decide +kernel
theorem dX9_worthOf_35 : decode cX9_worthOf 35 = .ok (.iload_n 2, 1) := by decide +kernel
theorem dX9_worthOf_36 : decode cX9_worthOf 36 = .ok (.ireturn, 1) := by decide +kernel
theorem dX9_costOf_0 : decode cX9_costOf 0 = .ok (.iconst 0, 1) := by decide +kernel
theorem dX9_costOf_1 : decode cX9_costOf 1 = .ok (.istore_n 2, 1) := by decide +kernel
theorem dX9_costOf_2 : decode cX9_costOf 2 = .ok (.iconst 0, 1) := by decide +kernel
theorem dX9_costOf_3 : decode cX9_costOf 3 = .ok (.istore_n 3, 1) := by decide +kernel
theorem dX9_costOf_4 : decode cX9_costOf 4 = .ok (.iload_n 3, 1) := by decide +kernel
theorem dX9_costOf_5 : decode cX9_costOf 5 = .ok (.aload_n 0, 1) := by decide +kernel
theorem dX9_costOf_6 : decode cX9_costOf 6 = .ok (.getfield 60, 3) := by decide +kernel
theorem dX9_costOf_9 : decode cX9_costOf 9 = .ok (.if_icmp .ge 38, 3) := by decide +kernel
theorem dX9_costOf_12 : decode cX9_costOf 12 = .ok (.iload_n 1, 1) := by decide +kernel
theorem dX9_costOf_13 : decode cX9_costOf 13 = .ok (.iload_n 3, 1) := by decide +kernel
theorem dX9_costOf_14 : decode cX9_costOf 14 = .ok (.ishr, 1) := by decide +kernel
theorem dX9_costOf_15 : decode cX9_costOf 15 = .ok (.iconst 1, 1) := by decide +kernel
theorem dX9_costOf_16 : decode cX9_costOf 16 = .ok (.iand, 1) := by decide +kernel
theorem dX9_costOf_17 : decode cX9_costOf 17 = .ok (.ifCond .eq 24, 3) := by decide +kernel
theorem dX9_costOf_20 : decode cX9_costOf 20 = .ok (.aload_n 0, 1) := by decide +kernel
theorem dX9_costOf_21 : decode cX9_costOf 21 = .ok (.getfield 42, 3) := by decide +kernel
theorem dX9_costOf_24 : decode cX9_costOf 24 = .ok (.iload_n 3, 1) := by decide +kernel
theorem dX9_costOf_25 : decode cX9_costOf 25 = .ok (.iaload, 1) := by decide +kernel
theorem dX9_costOf_26 : decode cX9_costOf 26 = .ok (.iconst (-1), 1) := by decide +kernel
theorem dX9_costOf_27 : decode cX9_costOf 27 = .ok (.if_icmp .ne 5, 3) := by decide +kernel
theorem dX9_costOf_30 : decode cX9_costOf 30 = .ok (.iconst (-1), 1) := by decide +kernel
theorem dX9_costOf_31 : decode cX9_costOf 31 = .ok (.ireturn, 1) := by decide +kernel
theorem dX9_costOf_32 : decode cX9_costOf 32 = .ok (.iload_n 2, 1) := by decide +kernel
theorem dX9_costOf_33 : decode cX9_costOf 33 = .ok (.aload_n 0, 1) := by decide +kernel
theorem dX9_costOf_34 : decode cX9_costOf 34 = .ok (.getfield 42, 3) := by decide +kernel
theorem dX9_costOf_37 : decode cX9_costOf 37 = .ok (.iload_n 3, 1) := by decide +kernel
theorem dX9_costOf_38 : decode cX9_costOf 38 = .ok (.iaload, 1) := by decide +kernel
theorem dX9_costOf_39 : decode cX9_costOf 39 = .ok (.iadd, 1) := by decide +kernel
theorem dX9_costOf_40 : decode cX9_costOf 40 = .ok (.istore_n 2, 1) := by decide +kernel
theorem dX9_costOf_41 : decode cX9_costOf 41 = .ok (.iinc 3 1, 3) := by decide +kernel
theorem dX9_costOf_44 : decode cX9_costOf 44 = .ok (.goto (-40), 3) := by decide +kernel
theorem dX9_costOf_47 : decode cX9_costOf 47 = .ok (.iload_n 2, 1) := by decide +kernel
theorem dX9_costOf_48 : decode cX9_costOf 48 = .ok (.ireturn, 1) := by decide +kernel
theorem dX9_deedsOf_0 : decode cX9_deedsOf 0 = .ok (.iconst 0, 1) := by decide +kernel
theorem dX9_deedsOf_1 : decode cX9_deedsOf 1 = .ok (.istore_n 2, 1) := by decide +kernel
theorem dX9_deedsOf_2 : decode cX9_deedsOf 2 = .ok (.iconst 0, 1) := by decide +kernel
theorem dX9_deedsOf_3 : decode cX9_deedsOf 3 = .ok (.istore_n 3, 1) := by decide +kernel
theorem dX9_deedsOf_4 : decode cX9_deedsOf 4 = .ok (.iload_n 3, 1) := by decide +kernel
theorem dX9_deedsOf_5 : decode cX9_deedsOf 5 = .ok (.aload_n 0, 1) := by decide +kernel
theorem dX9_deedsOf_6 : decode cX9_deedsOf 6 = .ok (.getfield 60, 3) := by decide +kernel
theorem dX9_deedsOf_9 : decode cX9_deedsOf 9 = .ok (.if_icmp .ge 25, 3) := by decide +kernel
theorem dX9_deedsOf_12 : decode cX9_deedsOf 12 = .ok (.aload_n 0, 1) := by decide +kernel
theorem dX9_deedsOf_13 : decode cX9_deedsOf 13 = .ok (.getfield 30, 3) := by decide +kernel
theorem dX9_deedsOf_16 : decode cX9_deedsOf 16 = .ok (.iload_n 3, 1) := by decide +kernel
theorem dX9_deedsOf_17 : decode cX9_deedsOf 17 = .ok (.iaload, 1) := by decide +kernel
theorem dX9_deedsOf_18 : decode cX9_deedsOf 18 = .ok (.iload_n 1, 1) := by decide +kernel
theorem dX9_deedsOf_19 : decode cX9_deedsOf 19 = .ok (.if_icmp .ne 9, 3) := by decide +kernel
theorem dX9_deedsOf_22 : decode cX9_deedsOf 22 = .ok (.iload_n 2, 1) := by decide +kernel
theorem dX9_deedsOf_23 : decode cX9_deedsOf 23 = .ok (.iconst 1, 1) := by decide +kernel
theorem dX9_deedsOf_24 : decode cX9_deedsOf 24 = .ok (.iload_n 3, 1) := by decide +kernel
theorem dX9_deedsOf_25 : decode cX9_deedsOf 25 = .ok (.ishl, 1) := by decide +kernel
theorem dX9_deedsOf_26 : decode cX9_deedsOf 26 = .ok (.ior, 1) := by decide +kernel
theorem dX9_deedsOf_27 : decode cX9_deedsOf 27 = .ok (.istore_n 2, 1) := by decide +kernel
theorem dX9_deedsOf_28 : decode cX9_deedsOf 28 = .ok (.iinc 3 1, 3) := by decide +kernel
theorem dX9_deedsOf_31 : decode cX9_deedsOf 31 = .ok (.goto (-27), 3) := by decide +kernel
theorem dX9_deedsOf_34 : decode cX9_deedsOf 34 = .ok (.iload_n 2, 1) := by decide +kernel
theorem dX9_deedsOf_35 : decode cX9_deedsOf 35 = .ok (.ireturn, 1) := by decide +kernel
theorem dX9_endOf_0 : decode cX9_endOf 0 = .ok (.aload_n 0, 1) := by decide +kernel
theorem dX9_endOf_1 : decode cX9_endOf 1 = .ok (.iload_n 2, 1) := by decide +kernel
theorem dX9_endOf_2 : decode cX9_endOf 2 = .ok (.aload_n 0, 1) := by decide +kernel
theorem dX9_endOf_3 : decode cX9_endOf 3 = .ok (.iload_n 1, 1) := by decide +kernel
theorem dX9_endOf_4 : decode cX9_endOf 4 = .ok (.invokevirtual 86, 3) := by decide +kernel
theorem dX9_endOf_7 : decode cX9_endOf 7 = .ok (.invokevirtual 90, 3) := by decide +kernel
theorem dX9_endOf_10 : decode cX9_endOf 10 = .ok (.istore 4, 2) := by decide +kernel
theorem dX9_endOf_12 : decode cX9_endOf 12 = .ok (.iload 4, 2) := by decide +kernel
theorem dX9_endOf_14 : decode cX9_endOf 14 = .ok (.iconst (-1), 1) := by decide +kernel
theorem dX9_endOf_15 : decode cX9_endOf 15 = .ok (.if_icmp .eq 11, 3) := by decide +kernel
theorem dX9_endOf_18 : decode cX9_endOf 18 = .ok (.aload_n 0, 1) := by decide +kernel
theorem dX9_endOf_19 : decode cX9_endOf 19 = .ok (.iload_n 1, 1) := by decide +kernel
theorem dX9_endOf_20 : decode cX9_endOf 20 = .ok (.invokevirtual 83, 3) := by decide +kernel
theorem dX9_endOf_23 : decode cX9_endOf 23 = .ok (.ifCond .ne 5, 3) := by decide +kernel
theorem dX9_endOf_26 : decode cX9_endOf 26 = .ok (.iconst (-1), 1) := by decide +kernel
theorem dX9_endOf_27 : decode cX9_endOf 27 = .ok (.ireturn, 1) := by decide +kernel
theorem dX9_endOf_28 : decode cX9_endOf 28 = .ok (.iload_n 3, 1) := by decide +kernel
theorem dX9_endOf_29 : decode cX9_endOf 29 = .ok (.iload 4, 2) := by decide +kernel
theorem dX9_endOf_31 : decode cX9_endOf 31 = .ok (.iadd, 1) := by decide +kernel
theorem dX9_endOf_32 : decode cX9_endOf 32 = .ok (.aload_n 0, 1) := by decide +kernel
theorem dX9_endOf_33 : decode cX9_endOf 33 = .ok (.getfield 33, 3) := by decide +kernel
theorem dX9_endOf_36 : decode cX9_endOf 36 = .ok (.iload_n 1, 1) := by decide +kernel
theorem dX9_endOf_37 : decode cX9_endOf 37 = .ok (.iaload, 1) := by decide +kernel
theorem dX9_endOf_38 : decode cX9_endOf 38 = .ok (.iadd, 1) := by decide +kernel
theorem dX9_endOf_39 : decode cX9_endOf 39 = .ok (.istore 5, 2) := by decide +kernel
theorem dX9_endOf_41 : decode cX9_endOf 41 = .ok (.iload 5, 2) := by decide +kernel
theorem dX9_endOf_43 : decode cX9_endOf 43 = .ok (.aload_n 0, 1) := by decide +kernel
theorem dX9_endOf_44 : decode cX9_endOf 44 = .ok (.getfield 36, 3) := by decide +kernel
theorem dX9_endOf_47 : decode cX9_endOf 47 = .ok (.iload_n 1, 1) := by decide +kernel
theorem dX9_endOf_48 : decode cX9_endOf 48 = .ok (.iaload, 1) := by decide +kernel
theorem dX9_endOf_49 : decode cX9_endOf 49 = .ok (.if_icmp .le 7, 3) := by decide +kernel
theorem dX9_endOf_52 : decode cX9_endOf 52 = .ok (.iconst (-1), 1) := by decide +kernel
theorem dX9_endOf_53 : decode cX9_endOf 53 = .ok (.goto 5, 3) := by decide +kernel
theorem dX9_endOf_56 : decode cX9_endOf 56 = .ok (.iload 5, 2) := by decide +kernel
theorem dX9_endOf_58 : decode cX9_endOf 58 = .ok (.ireturn, 1) := by decide +kernel
theorem dX10_init_0 : decode cX10_init 0 = .ok (.aload_n 0, 1) := by decide +kernel
theorem dX10_init_1 : decode cX10_init 1 = .ok (.invokespecial 1, 3) := by decide +kernel
theorem dX10_init_4 : decode cX10_init 4 = .ok (.aload_n 0, 1) := by decide +kernel
theorem dX10_init_5 : decode cX10_init 5 = .ok (.new 7, 3) := by decide +kernel
theorem dX10_init_8 : decode cX10_init 8 = .ok (.dup, 1) := by decide +kernel
theorem dX10_init_9 : decode cX10_init 9 = .ok (.invokespecial 9, 3) := by decide +kernel
theorem dX10_init_12 : decode cX10_init 12 = .ok (.putfield 10, 3) := by decide +kernel
theorem dX10_init_15 : decode cX10_init 15 = .ok (.aload_n 0, 1) := by decide +kernel
theorem dX10_init_16 : decode cX10_init 16 = .ok (.iconst (-1), 1) := by decide +kernel
theorem dX10_init_17 : decode cX10_init 17 = .ok (.putfield 16, 3) := by decide +kernel
theorem dX10_init_20 : decode cX10_init 20 = .ok (.aload_n 0, 1) := by decide +kernel
theorem dX10_init_21 : decode cX10_init 21 = .ok (.new 20, 3) := by decide +kernel
theorem dX10_init_24 : decode cX10_init 24 = .ok (.dup, 1) := by decide +kernel
theorem dX10_init_25 : decode cX10_init 25 = .ok (.invokespecial 22, 3) := by decide +kernel
theorem dX10_init_28 : decode cX10_init 28 = .ok (.putfield 23, 3) := by decide +kernel
theorem dX10_init_31 : decode cX10_init 31 = .ok (.aload_n 0, 1) := by decide +kernel
theorem dX10_init_32 : decode cX10_init 32 = .ok (.new 20, 3) := by decide +kernel
end
section
theorem dX10_init_35 : decode cX10_init 35 = .ok (.dup, 1) := by decide +kernel
theorem dX10_init_36 : decode cX10_init 36 = .ok (.invokespecial 22, 3) := by decide +kernel
theorem dX10_init_39 : decode cX10_init 39 = .ok (.putfield 27, 3) := by decide +kernel
theorem dX10_init_42 : decode cX10_init 42 = .ok (.aload_n 0, 1) := by decide +kernel
theorem dX10_init_43 : decode cX10_init 43 = .ok (.new 30, 3) := by decide +kernel
theorem dX10_init_46 : decode cX10_init 46 = .ok (.dup, 1) := by decide +kernel
theorem dX10_init_47 : decode cX10_init 47 = .ok (.invokespecial 32, 3) := by decide +kernel
theorem dX10_init_50 : decode cX10_init 50 = .ok (.putfield 33, 3) := by decide +kernel
theorem dX10_init_53 : decode cX10_init 53 = .ok (.aload_n 0, 1) := by decide +kernel
theorem dX10_init_54 : decode cX10_init 54 = .ok (.new 30, 3) := by decide +kernel
theorem dX10_init_57 : decode cX10_init 57 = .ok (.dup, 1) := by decide +kernel
theorem dX10_init_58 : decode cX10_init 58 = .ok (.invokespecial 32, 3) := by decide +kernel
theorem dX10_init_61 : decode cX10_init 61 = .ok (.putfield 37, 3) := by decide +kernel
theorem dX10_init_64 : decode cX10_init 64 = .ok (.aload_n 0, 1) := by decide +kernel
theorem dX10_init_65 : decode cX10_init 65 = .ok (.new 30, 3) := by decide +kernel
theorem dX10_init_68 : decode cX10_init 68 = .ok (.dup, 1) := by decide +kernel
theorem dX10_init_69 : decode cX10_init 69 = .ok (.invokespecial 32, 3) := by decide +kernel
theorem dX10_init_72 : decode cX10_init 72 = .ok (.putfield 40, 3) := by decide +kernel
theorem dX10_init_75 : decode cX10_init 75 = .ok (.aload_n 0, 1) := by decide +kernel
theorem dX10_init_76 : decode cX10_init 76 = .ok (.new 43, 3) := by decide +kernel
theorem dX10_init_79 : decode cX10_init 79 = .ok (.dup, 1) := by decide +kernel
theorem dX10_init_80 : decode cX10_init 80 = .ok (.invokespecial 45, 3) := by decide +kernel
theorem dX10_init_83 : decode cX10_init 83 = .ok (.putfield 46, 3) := by decide +kernel
theorem dX10_init_86 : decode cX10_init 86 = .ok (.aload_n 0, 1) := by decide +kernel
theorem dX10_init_87 : decode cX10_init 87 = .ok (.new 50, 3) := by decide +kernel
theorem dX10_init_90 : decode cX10_init 90 = .ok (.dup, 1) := by decide +kernel
theorem dX10_init_91 : decode cX10_init 91 = .ok (.invokespecial 52, 3) := by decide +kernel
theorem dX10_init_94 : decode cX10_init 94 = .ok (.putfield 53, 3) := by decide +kernel
theorem dX10_init_97 : decode cX10_init 97 = .ok (.aload_n 0, 1) := by decide +kernel
theorem dX10_init_98 : decode cX10_init 98 = .ok (.new 57, 3) := by decide +kernel
theorem dX10_init_101 : decode cX10_init 101 = .ok (.dup, 1) := by decide +kernel
theorem dX10_init_102 : decode cX10_init 102 = .ok (.invokespecial 59, 3) := by decide +kernel
theorem dX10_init_105 : decode cX10_init 105 = .ok (.putfield 60, 3) := by decide +kernel
theorem dX10_init_108 : decode cX10_init 108 = .ok (.aload_n 0, 1) := by decide +kernel
theorem dX10_init_109 : decode cX10_init 109 = .ok (.new 57, 3) := by decide +kernel
theorem dX10_init_112 : decode cX10_init 112 = .ok (.dup, 1) := by decide +kernel
theorem dX10_init_113 : decode cX10_init 113 = .ok (.invokespecial 59, 3) := by decide +kernel
theorem dX10_init_116 : decode cX10_init 116 = .ok (.putfield 64, 3) := by decide +kernel
theorem dX10_init_119 : decode cX10_init 119 = .ok (.aload_n 0, 1) := by decide +kernel
theorem dX10_init_120 : decode cX10_init 120 = .ok (.new 67, 3) := by decide +kernel
theorem dX10_init_123 : decode cX10_init 123 = .ok (.dup, 1) := by decide +kernel
theorem dX10_init_124 : decode cX10_init 124 = .ok (.invokespecial 69, 3) := by decide +kernel
theorem dX10_init_127 : decode cX10_init 127 = .ok (.putfield 70, 3) := by decide +kernel
theorem dX10_init_130 : decode cX10_init 130 = .ok (.aload_n 0, 1) := by decide +kernel
theorem dX10_init_131 : decode cX10_init 131 = .ok (.new 74, 3) := by decide +kernel
theorem dX10_init_134 : decode cX10_init 134 = .ok (.dup, 1) := by decide +kernel
theorem dX10_init_135 : decode cX10_init 135 = .ok (.invokespecial 76, 3) := by decide +kernel
theorem dX10_init_138 : decode cX10_init 138 = .ok (.putfield 77, 3) := by decide +kernel
theorem dX10_init_141 : decode cX10_init 141 = .ok (.aload_n 0, 1) := by decide +kernel
theorem dX10_init_142 : decode cX10_init 142 = .ok (.new 81, 3) := by decide +kernel
theorem dX10_init_145 : decode cX10_init 145 = .ok (.dup, 1) := by decide +kernel
theorem dX10_init_146 : decode cX10_init 146 = .ok (.invokespecial 83, 3) := by decide +kernel
theorem dX10_init_149 : decode cX10_init 149 = .ok (.putfield 84, 3) := by decide +kernel
theorem dX10_init_152 : decode cX10_init 152 = .ok (.aload_n 0, 1) := by decide +kernel
theorem dX10_init_153 : decode cX10_init 153 = .ok (.bipush 6, 2) := by decide +kernel
theorem dX10_init_155 : decode cX10_init 155 = .ok (.newarray .int, 2) := by decide +kernel
theorem dX10_init_157 : decode cX10_init 157 = .ok (.putfield 88, 3) := by decide +kernel
theorem dX10_init_160 : decode cX10_init 160 = .ok (.aload_n 0, 1) := by decide +kernel
theorem dX10_init_161 : decode cX10_init 161 = .ok (.bipush 6, 2) := by decide +kernel
theorem dX10_init_163 : decode cX10_init 163 = .ok (.newarray .int, 2) := by decide +kernel
theorem dX10_init_165 : decode cX10_init 165 = .ok (.putfield 92, 3) := by decide +kernel
theorem dX10_init_168 : decode cX10_init 168 = .ok (.return_, 1) := by decide +kernel
theorem dX10_feed_0 : decode cX10_feed 0 = .ok (.iload_n 1, 1) := by decide +kernel
theorem dX10_feed_1 : decode cX10_feed 1 = .ok (.ifCond .lt 10, 3) := by decide +kernel
theorem dX10_feed_4 : decode cX10_feed 4 = .ok (.iload_n 1, 1) := by decide +kernel
theorem dX10_feed_5 : decode cX10_feed 5 = .ok (.sipush 255, 3) := by decide +kernel
theorem dX10_feed_8 : decode cX10_feed 8 = .ok (.if_icmp .le 6, 3) := by decide +kernel
theorem dX10_feed_11 : decode cX10_feed 11 = .ok (.ldc 95, 2) := by decide +kernel
theorem dX10_feed_13 : decode cX10_feed 13 = .ok (.ireturn, 1) := by decide +kernel
theorem dX10_feed_14 : decode cX10_feed 14 = .ok (.aload_n 0, 1) := by decide +kernel
theorem dX10_feed_15 : decode cX10_feed 15 = .ok (.getfield 10, 3) := by decide +kernel
theorem dX10_feed_18 : decode cX10_feed 18 = .ok (.iload_n 1, 1) := by decide +kernel
theorem dX10_feed_19 : decode cX10_feed 19 = .ok (.i2c, 1) := by decide +kernel
theorem dX10_feed_20 : decode cX10_feed 20 = .ok (.invokevirtual 96, 3) := by decide +kernel
theorem dX10_feed_23 : decode cX10_feed 23 = .ok (.ifCond .eq 13, 3) := by decide +kernel
theorem dX10_feed_26 : decode cX10_feed 26 = .ok (.aload_n 0, 1) := by decide +kernel
theorem dX10_feed_27 : decode cX10_feed 27 = .ok (.getfield 10, 3) := by decide +kernel
theorem dX10_feed_30 : decode cX10_feed 30 = .ok (.getfield 100, 3) := by decide +kernel
theorem dX10_feed_33 : decode cX10_feed 33 = .ok (.goto 5, 3) := by decide +kernel
theorem dX10_feed_36 : decode cX10_feed 36 = .ok (.ldc 103, 2) := by decide +kernel
theorem dX10_feed_38 : decode cX10_feed 38 = .ok (.ireturn, 1) := by decide +kernel
theorem dX10_town_0 : decode cX10_town 0 = .ok (.aload_n 0, 1) := by decide +kernel
theorem dX10_town_1 : decode cX10_town 1 = .ok (.getfield 10, 3) := by decide +kernel
theorem dX10_town_4 : decode cX10_town 4 = .ok (.aload_n 0, 1) := by decide +kernel
theorem dX10_town_5 : decode cX10_town 5 = .ok (.getfield 27, 3) := by decide +kernel
theorem dX10_town_8 : decode cX10_town 8 = .ok (.invokevirtual 104, 3) := by decide +kernel
theorem dX10_town_11 : decode cX10_town 11 = .ok (.istore_n 1, 1) := by decide +kernel
theorem dX10_town_12 : decode cX10_town 12 = .ok (.aload_n 0, 1) := by decide +kernel
theorem dX10_town_13 : decode cX10_town 13 = .ok (.getfield 10, 3) := by decide +kernel
theorem dX10_town_16 : decode cX10_town 16 = .ok (.iconst 0, 1) := by decide +kernel
theorem dX10_town_17 : decode cX10_town 17 = .ok (.putfield 100, 3) := by decide +kernel
theorem dX10_town_20 : decode cX10_town 20 = .ok (.iload_n 1, 1) := by decide +kernel
theorem dX10_town_21 : decode cX10_town 21 = .ok (.ifCond .eq 19, 3) := by decide +kernel
theorem dX10_town_24 : decode cX10_town 24 = .ok (.aload_n 0, 1) := by decide +kernel
theorem dX10_town_25 : decode cX10_town 25 = .ok (.aload_n 0, 1) := by decide +kernel
theorem dX10_town_26 : decode cX10_town 26 = .ok (.getfield 10, 3) := by decide +kernel
theorem dX10_town_29 : decode cX10_town 29 = .ok (.getfield 108, 3) := by decide +kernel
theorem dX10_town_32 : decode cX10_town 32 = .ok (.putfield 16, 3) := by decide +kernel
theorem dX10_town_35 : decode cX10_town 35 = .ok (.bipush (-10), 2) := by decide +kernel
theorem dX10_town_37 : decode cX10_town 37 = .ok (.iload_n 1, 1) := by decide +kernel
theorem dX10_town_38 : decode cX10_town 38 = .ok (.isub, 1) := by decide +kernel
theorem dX10_town_39 : decode cX10_town 39 = .ok (.ireturn, 1) := by decide +kernel
theorem dX10_town_40 : decode cX10_town 40 = .ok (.aload_n 0, 1) := by decide +kernel
theorem dX10_town_41 : decode cX10_town 41 = .ok (.iconst (-1), 1) := by decide +kernel
theorem dX10_town_42 : decode cX10_town 42 = .ok (.putfield 16, 3) := by decide +kernel
theorem dX10_town_45 : decode cX10_town 45 = .ok (.aload_n 0, 1) := by decide +kernel
theorem dX10_town_46 : decode cX10_town 46 = .ok (.getfield 23, 3) := by decide +kernel
theorem dX10_town_49 : decode cX10_town 49 = .ok (.astore_n 2, 1) := by decide +kernel
theorem dX10_town_50 : decode cX10_town 50 = .ok (.aload_n 0, 1) := by decide +kernel
theorem dX10_town_51 : decode cX10_town 51 = .ok (.aload_n 0, 1) := by decide +kernel
theorem dX10_town_52 : decode cX10_town 52 = .ok (.getfield 27, 3) := by decide +kernel
theorem dX10_town_55 : decode cX10_town 55 = .ok (.putfield 23, 3) := by decide +kernel
theorem dX10_town_58 : decode cX10_town 58 = .ok (.aload_n 0, 1) := by decide +kernel
theorem dX10_town_59 : decode cX10_town 59 = .ok (.aload_n 2, 1) := by decide +kernel
theorem dX10_town_60 : decode cX10_town 60 = .ok (.putfield 27, 3) := by decide +kernel
theorem dX10_town_63 : decode cX10_town 63 = .ok (.aload_n 0, 1) := by decide +kernel
theorem dX10_town_64 : decode cX10_town 64 = .ok (.getfield 23, 3) := by decide +kernel
theorem dX10_town_67 : decode cX10_town 67 = .ok (.invokevirtual 111, 3) := by decide +kernel
theorem dX10_town_70 : decode cX10_town 70 = .ok (.aload_n 0, 1) := by decide +kernel
theorem dX10_town_71 : decode cX10_town 71 = .ok (.getfield 33, 3) := by decide +kernel
theorem dX10_town_74 : decode cX10_town 74 = .ok (.aload_n 0, 1) := by decide +kernel
theorem dX10_town_75 : decode cX10_town 75 = .ok (.getfield 23, 3) := by decide +kernel
theorem dX10_town_78 : decode cX10_town 78 = .ok (.invokevirtual 114, 3) := by decide +kernel
theorem dX10_town_81 : decode cX10_town 81 = .ok (.aload_n 0, 1) := by decide +kernel
theorem dX10_town_82 : decode cX10_town 82 = .ok (.getfield 37, 3) := by decide +kernel
theorem dX10_town_85 : decode cX10_town 85 = .ok (.iconst 0, 1) := by decide +kernel
theorem dX10_town_86 : decode cX10_town 86 = .ok (.putfield 118, 3) := by decide +kernel
theorem dX10_town_89 : decode cX10_town 89 = .ok (.aload_n 0, 1) := by decide +kernel
theorem dX10_town_90 : decode cX10_town 90 = .ok (.getfield 40, 3) := by decide +kernel
theorem dX10_town_93 : decode cX10_town 93 = .ok (.iconst 0, 1) := by decide +kernel
theorem dX10_town_94 : decode cX10_town 94 = .ok (.putfield 118, 3) := by decide +kernel
theorem dX10_town_97 : decode cX10_town 97 = .ok (.aload_n 0, 1) := by decide +kernel
theorem dX10_town_98 : decode cX10_town 98 = .ok (.getfield 70, 3) := by decide +kernel
theorem dX10_town_101 : decode cX10_town 101 = .ok (.iconst 0, 1) := by decide +kernel
theorem dX10_town_102 : decode cX10_town 102 = .ok (.putfield 122, 3) := by decide +kernel
theorem dX10_town_105 : decode cX10_town 105 = .ok (.aload_n 0, 1) := by decide +kernel
theorem dX10_town_106 : decode cX10_town 106 = .ok (.getfield 46, 3) := by decide +kernel
theorem dX10_town_109 : decode cX10_town 109 = .ok (.iconst 0, 1) := by decide +kernel
theorem dX10_town_110 : decode cX10_town 110 = .ok (.putfield 125, 3) := by decide +kernel
theorem dX10_town_113 : decode cX10_town 113 = .ok (.aload_n 0, 1) := by decide +kernel
theorem dX10_town_114 : decode cX10_town 114 = .ok (.getfield 23, 3) := by decide +kernel
theorem dX10_town_117 : decode cX10_town 117 = .ok (.getfield 128, 3) := by decide +kernel
theorem dX10_town_120 : decode cX10_town 120 = .ok (.ireturn, 1) := by decide +kernel
theorem dX10_fault_0 : decode cX10_fault 0 = .ok (.aload_n 0, 1) := by decide +kernel
theorem dX10_fault_1 : decode cX10_fault 1 = .ok (.getfield 16, 3) := by decide +kernel
theorem dX10_fault_4 : decode cX10_fault 4 = .ok (.ireturn, 1) := by decide +kernel
theorem dX10_told_0 : decode cX10_told 0 = .ok (.iload_n 1, 1) := by decide +kernel
theorem dX10_told_1 : decode cX10_told 1 = .ok (.tableswitch 172 0 12 #[67, 75, 83, 91, 99, 107, 115, 123, 131, 137, 143, 156, 164], 67) := by decide +kernel
theorem dX10_told_68 : decode cX10_told 68 = .ok (.aload_n 0, 1) := by decide +kernel
theorem dX10_told_69 : decode cX10_told 69 = .ok (.getfield 23, 3) := by decide +kernel
theorem dX10_told_72 : decode cX10_told 72 = .ok (.getfield 131, 3) := by decide +kernel
theorem dX10_told_75 : decode cX10_told 75 = .ok (.ireturn, 1) := by decide +kernel
theorem dX10_told_76 : decode cX10_told 76 = .ok (.aload_n 0, 1) := by decide +kernel
theorem dX10_told_77 : decode cX10_told 77 = .ok (.getfield 23, 3) := by decide +kernel
theorem dX10_told_80 : decode cX10_told 80 = .ok (.getfield 134, 3) := by decide +kernel
theorem dX10_told_83 : decode cX10_told 83 = .ok (.ireturn, 1) := by decide +kernel
theorem dX10_told_84 : decode cX10_told 84 = .ok (.aload_n 0, 1) := by decide +kernel
theorem dX10_told_85 : decode cX10_told 85 = .ok (.getfield 23, 3) := by decide +kernel
theorem dX10_told_88 : decode cX10_told 88 = .ok (.getfield 128, 3) := by decide +kernel
theorem dX10_told_91 : decode cX10_told 91 = .ok (.ireturn, 1) := by decide +kernel
theorem dX10_told_92 : decode cX10_told 92 = .ok (.aload_n 0, 1) := by decide +kernel
theorem dX10_told_93 : decode cX10_told 93 = .ok (.getfield 23, 3) := by decide +kernel
theorem dX10_told_96 : decode cX10_told 96 = .ok (.getfield 137, 3) := by decide +kernel
theorem dX10_told_99 : decode cX10_told 99 = .ok (.ireturn, 1) := by decide +kernel
theorem dX10_told_100 : decode cX10_told 100 = .ok (.aload_n 0, 1) := by decide +kernel
theorem dX10_told_101 : decode cX10_told 101 = .ok (.getfield 10, 3) := by decide +kernel
theorem dX10_told_104 : decode cX10_told 104 = .ok (.getfield 100, 3) := by decide +kernel
theorem dX10_told_107 : decode cX10_told 107 = .ok (.ireturn, 1) := by decide +kernel
theorem dX10_told_108 : decode cX10_told 108 = .ok (.aload_n 0, 1) := by decide +kernel
theorem dX10_told_109 : decode cX10_told 109 = .ok (.getfield 33, 3) := by decide +kernel
theorem dX10_told_112 : decode cX10_told 112 = .ok (.getfield 140, 3) := by decide +kernel
theorem dX10_told_115 : decode cX10_told 115 = .ok (.ireturn, 1) := by decide +kernel
theorem dX10_told_116 : decode cX10_told 116 = .ok (.aload_n 0, 1) := by decide +kernel
theorem dX10_told_117 : decode cX10_told 117 = .ok (.getfield 33, 3) := by decide +kernel
theorem dX10_told_120 : decode cX10_told 120 = .ok (.getfield 143, 3) := by decide +kernel
theorem dX10_told_123 : decode cX10_told 123 = .ok (.ireturn, 1) := by decide +kernel
theorem dX10_told_124 : decode cX10_told 124 = .ok (.aload_n 0, 1) := by decide +kernel
theorem dX10_told_125 : decode cX10_told 125 = .ok (.getfield 33, 3) := by decide +kernel
theorem dX10_told_128 : decode cX10_told 128 = .ok (.getfield 146, 3) := by decide +kernel
theorem dX10_told_131 : decode cX10_told 131 = .ok (.ireturn, 1) := by decide +kernel
theorem dX10_told_132 : decode cX10_told 132 = .ok (.aload_n 0, 1) := by decide +kernel
theorem dX10_told_133 : decode cX10_told 133 = .ok (.iconst 1, 1) := by decide +kernel
theorem dX10_told_134 : decode cX10_told 134 = .ok (.invokevirtual 149, 3) := by decide +kernel
theorem dX10_told_137 : decode cX10_told 137 = .ok (.ireturn, 1) := by decide +kernel
theorem dX10_told_138 : decode cX10_told 138 = .ok (.aload_n 0, 1) := by decide +kernel
theorem dX10_told_139 : decode cX10_told 139 = .ok (.iconst 2, 1) := by decide +kernel
theorem dX10_told_140 : decode cX10_told 140 = .ok (.invokevirtual 149, 3) := by decide +kernel
theorem dX10_told_143 : decode cX10_told 143 = .ok (.ireturn, 1) := by decide +kernel
theorem dX10_told_144 : decode cX10_told 144 = .ok (.aload_n 0, 1) := by decide +kernel
theorem dX10_told_145 : decode cX10_told 145 = .ok (.getfield 23, 3) := by decide +kernel
theorem dX10_told_148 : decode cX10_told 148 = .ok (.aload_n 0, 1) := by decide +kernel
theorem dX10_told_149 : decode cX10_told 149 = .ok (.iconst 1, 1) := by decide +kernel
theorem dX10_told_150 : decode cX10_told 150 = .ok (.invokevirtual 149, 3) := by decide +kernel
theorem dX10_told_153 : decode cX10_told 153 = .ok (.invokevirtual 153, 3) := by decide +kernel
theorem dX10_told_156 : decode cX10_told 156 = .ok (.ireturn, 1) := by decide +kernel
theorem dX10_told_157 : decode cX10_told 157 = .ok (.aload_n 0, 1) := by decide +kernel
theorem dX10_told_158 : decode cX10_told 158 = .ok (.getfield 70, 3) := by decide +kernel
theorem dX10_told_161 : decode cX10_told 161 = .ok (.getfield 122, 3) := by decide +kernel
theorem dX10_told_164 : decode cX10_told 164 = .ok (.ireturn, 1) := by decide +kernel
theorem dX10_told_165 : decode cX10_told 165 = .ok (.aload_n 0, 1) := by decide +kernel
theorem dX10_told_166 : decode cX10_told 166 = .ok (.getfield 46, 3) := by decide +kernel
theorem dX10_told_169 : decode cX10_told 169 = .ok (.getfield 125, 3) := by decide +kernel
theorem dX10_told_172 : decode cX10_told 172 = .ok (.ireturn, 1) := by decide +kernel
theorem dX10_told_173 : decode cX10_told 173 = .ok (.ldc 95, 2) := by decide +kernel
theorem dX10_told_175 : decode cX10_told 175 = .ok (.ireturn, 1) := by decide +kernel
theorem dX10_far_0 : decode cX10_far 0 = .ok (.aload_n 0, 1) := by decide +kernel
theorem dX10_far_1 : decode cX10_far 1 = .ok (.getfield 23, 3) := by decide +kernel
theorem dX10_far_4 : decode cX10_far 4 = .ok (.iload_n 1, 1) := by decide +kernel
theorem dX10_far_5 : decode cX10_far 5 = .ok (.invokevirtual 156, 3) := by decide +kernel
theorem dX10_far_8 : decode cX10_far 8 = .ok (.ifCond .eq 14, 3) := by decide +kernel
theorem dX10_far_11 : decode cX10_far 11 = .ok (.aload_n 0, 1) := by decide +kernel
theorem dX10_far_12 : decode cX10_far 12 = .ok (.getfield 23, 3) := by decide +kernel
theorem dX10_far_15 : decode cX10_far 15 = .ok (.iload_n 2, 1) := by decide +kernel
theorem dX10_far_16 : decode cX10_far 16 = .ok (.invokevirtual 156, 3) := by decide +kernel
theorem dX10_far_19 : decode cX10_far 19 = .ok (.ifCond .ne 6, 3) := by decide +kernel
theorem dX10_far_22 : decode cX10_far 22 = .ok (.ldc 160, 2) := by decide +kernel
theorem dX10_far_24 : decode cX10_far 24 = .ok (.ireturn, 1) := by decide +kernel
theorem dX10_far_25 : decode cX10_far 25 = .ok (.aload_n 0, 1) := by decide +kernel
theorem dX10_far_26 : decode cX10_far 26 = .ok (.getfield 23, 3) := by decide +kernel
theorem dX10_far_29 : decode cX10_far 29 = .ok (.iload_n 1, 1) := by decide +kernel
theorem dX10_far_30 : decode cX10_far 30 = .ok (.iload_n 2, 1) := by decide +kernel
theorem dX10_far_31 : decode cX10_far 31 = .ok (.invokevirtual 161, 3) := by decide +kernel
theorem dX10_far_34 : decode cX10_far 34 = .ok (.ireturn, 1) := by decide +kernel
theorem dX10_person_0 : decode cX10_person 0 = .ok (.aload_n 0, 1) := by decide +kernel
theorem dX10_person_1 : decode cX10_person 1 = .ok (.getfield 23, 3) := by decide +kernel
theorem dX10_person_4 : decode cX10_person 4 = .ok (.iload_n 1, 1) := by decide +kernel
theorem dX10_person_5 : decode cX10_person 5 = .ok (.invokevirtual 165, 3) := by decide +kernel
theorem dX10_person_8 : decode cX10_person 8 = .ok (.ifCond .ne 6, 3) := by decide +kernel
theorem dX10_person_11 : decode cX10_person 11 = .ok (.ldc 160, 2) := by decide +kernel
theorem dX10_person_13 : decode cX10_person 13 = .ok (.ireturn, 1) := by decide +kernel
theorem dX10_person_14 : decode cX10_person 14 = .ok (.iload_n 2, 1) := by decide +kernel
theorem dX10_person_15 : decode cX10_person 15 = .ok (.lookupswitch 45 #[(0, 25), (1, 35)], 25) := by decide +kernel
theorem dX10_person_40 : decode cX10_person 40 = .ok (.aload_n 0, 1) := by decide +kernel
theorem dX10_person_41 : decode cX10_person 41 = .ok (.getfield 23, 3) := by decide +kernel
theorem dX10_person_44 : decode cX10_person 44 = .ok (.getfield 168, 3) := by decide +kernel
theorem dX10_person_47 : decode cX10_person 47 = .ok (.iload_n 1, 1) := by decide +kernel
theorem dX10_person_48 : decode cX10_person 48 = .ok (.iaload, 1) := by decide +kernel
theorem dX10_person_49 : decode cX10_person 49 = .ok (.ireturn, 1) := by decide +kernel
theorem dX10_person_50 : decode cX10_person 50 = .ok (.aload_n 0, 1) := by decide +kernel
theorem dX10_person_51 : decode cX10_person 51 = .ok (.getfield 23, 3) := by decide +kernel
theorem dX10_person_54 : decode cX10_person 54 = .ok (.getfield 171, 3) := by decide +kernel
theorem dX10_person_57 : decode cX10_person 57 = .ok (.iload_n 1, 1) := by decide +kernel
theorem dX10_person_58 : decode cX10_person 58 = .ok (.iaload, 1) := by decide +kernel
theorem dX10_person_59 : decode cX10_person 59 = .ok (.ireturn, 1) := by decide +kernel
theorem dX10_person_60 : decode cX10_person 60 = .ok (.ldc 95, 2) := by decide +kernel
theorem dX10_person_62 : decode cX10_person 62 = .ok (.ireturn, 1) := by decide +kernel
theorem dX10_deed_0 : decode cX10_deed 0 = .ok (.aload_n 0, 1) := by decide +kernel
theorem dX10_deed_1 : decode cX10_deed 1 = .ok (.getfield 23, 3) := by decide +kernel
theorem dX10_deed_4 : decode cX10_deed 4 = .ok (.iload_n 1, 1) := by decide +kernel
theorem dX10_deed_5 : decode cX10_deed 5 = .ok (.invokevirtual 174, 3) := by decide +kernel
theorem dX10_deed_8 : decode cX10_deed 8 = .ok (.ifCond .ne 6, 3) := by decide +kernel
theorem dX10_deed_11 : decode cX10_deed 11 = .ok (.ldc 160, 2) := by decide +kernel
theorem dX10_deed_13 : decode cX10_deed 13 = .ok (.ireturn, 1) := by decide +kernel
theorem dX10_deed_14 : decode cX10_deed 14 = .ok (.iload_n 2, 1) := by decide +kernel
theorem dX10_deed_15 : decode cX10_deed 15 = .ok (.tableswitch 114 0 6 #[41, 51, 61, 71, 81, 91, 104], 41) := by decide +kernel
theorem dX10_deed_56 : decode cX10_deed 56 = .ok (.aload_n 0, 1) := by decide +kernel
theorem dX10_deed_57 : decode cX10_deed 57 = .ok (.getfield 23, 3) := by decide +kernel
theorem dX10_deed_60 : decode cX10_deed 60 = .ok (.getfield 177, 3) := by decide +kernel
theorem dX10_deed_63 : decode cX10_deed 63 = .ok (.iload_n 1, 1) := by decide +kernel
theorem dX10_deed_64 : decode cX10_deed 64 = .ok (.iaload, 1) := by decide +kernel
theorem dX10_deed_65 : decode cX10_deed 65 = .ok (.ireturn, 1) := by decide +kernel
theorem dX10_deed_66 : decode cX10_deed 66 = .ok (.aload_n 0, 1) := by decide +kernel
theorem dX10_deed_67 : decode cX10_deed 67 = .ok (.getfield 23, 3) := by decide +kernel
theorem dX10_deed_70 : decode cX10_deed 70 = .ok (.getfield 180, 3) := by decide +kernel
theorem dX10_deed_73 : decode cX10_deed 73 = .ok (.iload_n 1, 1) := by decide +kernel
theorem dX10_deed_74 : decode cX10_deed 74 = .ok (.iaload, 1) := by decide +kernel
theorem dX10_deed_75 : decode cX10_deed 75 = .ok (.ireturn, 1) := by decide +kernel
theorem dX10_deed_76 : decode cX10_deed 76 = .ok (.aload_n 0, 1) := by decide +kernel
theorem dX10_deed_77 : decode cX10_deed 77 = .ok (.getfield 23, 3) := by decide +kernel
theorem dX10_deed_80 : decode cX10_deed 80 = .ok (.getfield 183, 3) := by decide +kernel
theorem dX10_deed_83 : decode cX10_deed 83 = .ok (.iload_n 1, 1) := by decide +kernel
theorem dX10_deed_84 : decode cX10_deed 84 = .ok (.iaload, 1) := by decide +kernel
theorem dX10_deed_85 : decode cX10_deed 85 = .ok (.ireturn, 1) := by decide +kernel
theorem dX10_deed_86 : decode cX10_deed 86 = .ok (.aload_n 0, 1) := by decide +kernel
theorem dX10_deed_87 : decode cX10_deed 87 = .ok (.getfield 23, 3) := by decide +kernel
theorem dX10_deed_90 : decode cX10_deed 90 = .ok (.getfield 186, 3) := by decide +kernel
theorem dX10_deed_93 : decode cX10_deed 93 = .ok (.iload_n 1, 1) := by decide +kernel
theorem dX10_deed_94 : decode cX10_deed 94 = .ok (.iaload, 1) := by decide +kernel
theorem dX10_deed_95 : decode cX10_deed 95 = .ok (.ireturn, 1) := by decide +kernel
theorem dX10_deed_96 : decode cX10_deed 96 = .ok (.aload_n 0, 1) := by decide +kernel
theorem dX10_deed_97 : decode cX10_deed 97 = .ok (.getfield 23, 3) := by decide +kernel
theorem dX10_deed_100 : decode cX10_deed 100 = .ok (.getfield 189, 3) := by decide +kernel
theorem dX10_deed_103 : decode cX10_deed 103 = .ok (.iload_n 1, 1) := by decide +kernel
theorem dX10_deed_104 : decode cX10_deed 104 = .ok (.iaload, 1) := by decide +kernel
theorem dX10_deed_105 : decode cX10_deed 105 = .ok (.ireturn, 1) := by decide +kernel
theorem dX10_deed_106 : decode cX10_deed 106 = .ok (.aload_n 0, 1) := by decide +kernel
theorem dX10_deed_107 : decode cX10_deed 107 = .ok (.getfield 33, 3) := by decide +kernel
theorem dX10_deed_110 : decode cX10_deed 110 = .ok (.aload_n 0, 1) := by decide +kernel
theorem dX10_deed_111 : decode cX10_deed 111 = .ok (.getfield 23, 3) := by decide +kernel
theorem dX10_deed_114 : decode cX10_deed 114 = .ok (.iload_n 1, 1) := by decide +kernel
theorem dX10_deed_115 : decode cX10_deed 115 = .ok (.invokevirtual 192, 3) := by decide +kernel
theorem dX10_deed_118 : decode cX10_deed 118 = .ok (.ireturn, 1) := by decide +kernel
theorem dX10_deed_119 : decode cX10_deed 119 = .ok (.aload_n 0, 1) := by decide +kernel
theorem dX10_deed_120 : decode cX10_deed 120 = .ok (.getfield 33, 3) := by decide +kernel
theorem dX10_deed_123 : decode cX10_deed 123 = .ok (.getfield 196, 3) := by decide +kernel
theorem dX10_deed_126 : decode cX10_deed 126 = .ok (.iload_n 1, 1) := by decide +kernel
theorem dX10_deed_127 : decode cX10_deed 127 = .ok (.iaload, 1) := by decide +kernel
theorem dX10_deed_128 : decode cX10_deed 128 = .ok (.ireturn, 1) := by decide +kernel
theorem dX10_deed_129 : decode cX10_deed 129 = .ok (.ldc 95, 2) := by decide +kernel
theorem dX10_deed_131 : decode cX10_deed 131 = .ok (.ireturn, 1) := by decide +kernel
theorem dX10_trust_0 : decode cX10_trust 0 = .ok (.aload_n 0, 1) := by decide +kernel
theorem dX10_trust_1 : decode cX10_trust 1 = .ok (.getfield 23, 3) := by decide +kernel
theorem dX10_trust_4 : decode cX10_trust 4 = .ok (.iload_n 1, 1) := by decide +kernel
theorem dX10_trust_5 : decode cX10_trust 5 = .ok (.iload_n 2, 1) := by decide +kernel
theorem dX10_trust_6 : decode cX10_trust 6 = .ok (.invokevirtual 199, 3) := by decide +kernel
theorem dX10_trust_9 : decode cX10_trust 9 = .ok (.ifCond .ne 6, 3) := by decide +kernel
theorem dX10_trust_12 : decode cX10_trust 12 = .ok (.ldc 160, 2) := by decide +kernel
theorem dX10_trust_14 : decode cX10_trust 14 = .ok (.ireturn, 1) := by decide +kernel
theorem dX10_trust_15 : decode cX10_trust 15 = .ok (.aload_n 0, 1) := by decide +kernel
theorem dX10_trust_16 : decode cX10_trust 16 = .ok (.getfield 23, 3) := by decide +kernel
theorem dX10_trust_19 : decode cX10_trust 19 = .ok (.getfield 203, 3) := by decide +kernel
theorem dX10_trust_22 : decode cX10_trust 22 = .ok (.iload_n 1, 1) := by decide +kernel
theorem dX10_trust_23 : decode cX10_trust 23 = .ok (.aaload, 1) := by decide +kernel
theorem dX10_trust_24 : decode cX10_trust 24 = .ok (.iload_n 2, 1) := by decide +kernel
theorem dX10_trust_25 : decode cX10_trust 25 = .ok (.iaload, 1) := by decide +kernel
theorem dX10_trust_26 : decode cX10_trust 26 = .ok (.ireturn, 1) := by decide +kernel
theorem dX10_lets_0 : decode cX10_lets 0 = .ok (.aload_n 0, 1) := by decide +kernel
theorem dX10_lets_1 : decode cX10_lets 1 = .ok (.getfield 23, 3) := by decide +kernel
theorem dX10_lets_4 : decode cX10_lets 4 = .ok (.iload_n 1, 1) := by decide +kernel
theorem dX10_lets_5 : decode cX10_lets 5 = .ok (.invokevirtual 207, 3) := by decide +kernel
theorem dX10_lets_8 : decode cX10_lets 8 = .ok (.ifCond .ne 6, 3) := by decide +kernel
theorem dX10_lets_11 : decode cX10_lets 11 = .ok (.ldc 160, 2) := by decide +kernel
theorem dX10_lets_13 : decode cX10_lets 13 = .ok (.ireturn, 1) := by decide +kernel
theorem dX10_lets_14 : decode cX10_lets 14 = .ok (.aload_n 0, 1) := by decide +kernel
theorem dX10_lets_15 : decode cX10_lets 15 = .ok (.getfield 23, 3) := by decide +kernel
theorem dX10_lets_18 : decode cX10_lets 18 = .ok (.getfield 210, 3) := by decide +kernel
theorem dX10_lets_21 : decode cX10_lets 21 = .ok (.iload_n 1, 1) := by decide +kernel
theorem dX10_lets_22 : decode cX10_lets 22 = .ok (.iaload, 1) := by decide +kernel
theorem dX10_lets_23 : decode cX10_lets 23 = .ok (.ireturn, 1) := by decide +kernel
theorem dX10_lend_0 : decode cX10_lend 0 = .ok (.aload_n 0, 1) := by decide +kernel
theorem dX10_lend_1 : decode cX10_lend 1 = .ok (.getfield 23, 3) := by decide +kernel
theorem dX10_lend_4 : decode cX10_lend 4 = .ok (.iload_n 1, 1) := by decide +kernel
theorem dX10_lend_5 : decode cX10_lend 5 = .ok (.invokevirtual 165, 3) := by decide +kernel
theorem dX10_lend_8 : decode cX10_lend 8 = .ok (.ifCond .ne 6, 3) := by decide +kernel
theorem dX10_lend_11 : decode cX10_lend 11 = .ok (.ldc 160, 2) := by decide +kernel
theorem dX10_lend_13 : decode cX10_lend 13 = .ok (.ireturn, 1) := by decide +kernel
theorem dX10_lend_14 : decode cX10_lend 14 = .ok (.aload_n 0, 1) := by decide +kernel
theorem dX10_lend_15 : decode cX10_lend 15 = .ok (.getfield 33, 3) := by decide +kernel
theorem dX10_lend_18 : decode cX10_lend 18 = .ok (.aload_n 0, 1) := by decide +kernel
theorem dX10_lend_19 : decode cX10_lend 19 = .ok (.getfield 23, 3) := by decide +kernel
theorem dX10_lend_22 : decode cX10_lend 22 = .ok (.iload_n 1, 1) := by decide +kernel
theorem dX10_lend_23 : decode cX10_lend 23 = .ok (.invokevirtual 213, 3) := by decide +kernel
theorem dX10_lend_26 : decode cX10_lend 26 = .ok (.ifCond .ne 6, 3) := by decide +kernel
theorem dX10_lend_29 : decode cX10_lend 29 = .ok (.ldc 217, 2) := by decide +kernel
theorem dX10_lend_31 : decode cX10_lend 31 = .ok (.ireturn, 1) := by decide +kernel
theorem dX10_lend_32 : decode cX10_lend 32 = .ok (.aload_n 0, 1) := by decide +kernel
theorem dX10_lend_33 : decode cX10_lend 33 = .ok (.getfield 33, 3) := by decide +kernel
theorem dX10_lend_36 : decode cX10_lend 36 = .ok (.getfield 140, 3) := by decide +kernel
theorem dX10_lend_39 : decode cX10_lend 39 = .ok (.ldc 218, 2) := by decide +kernel
theorem dX10_lend_41 : decode cX10_lend 41 = .ok (.if_icmp .le 6, 3) := by decide +kernel
theorem dX10_lend_44 : decode cX10_lend 44 = .ok (.ldc 103, 2) := by decide +kernel
theorem dX10_lend_46 : decode cX10_lend 46 = .ok (.ireturn, 1) := by decide +kernel
theorem dX10_lend_47 : decode cX10_lend 47 = .ok (.aload_n 0, 1) := by decide +kernel
theorem dX10_lend_48 : decode cX10_lend 48 = .ok (.getfield 33, 3) := by decide +kernel
theorem dX10_lend_51 : decode cX10_lend 51 = .ok (.aload_n 0, 1) := by decide +kernel
theorem dX10_lend_52 : decode cX10_lend 52 = .ok (.getfield 23, 3) := by decide +kernel
theorem dX10_lend_55 : decode cX10_lend 55 = .ok (.iload_n 1, 1) := by decide +kernel
theorem dX10_lend_56 : decode cX10_lend 56 = .ok (.invokevirtual 219, 3) := by decide +kernel
theorem dX10_lend_59 : decode cX10_lend 59 = .ok (.aload_n 0, 1) := by decide +kernel
theorem dX10_lend_60 : decode cX10_lend 60 = .ok (.getfield 33, 3) := by decide +kernel
theorem dX10_lend_63 : decode cX10_lend 63 = .ok (.getfield 140, 3) := by decide +kernel
theorem dX10_lend_66 : decode cX10_lend 66 = .ok (.ireturn, 1) := by decide +kernel
theorem dX10_act_0 : decode cX10_act 0 = .ok (.aload_n 0, 1) := by decide +kernel
theorem dX10_act_1 : decode cX10_act 1 = .ok (.getfield 23, 3) := by decide +kernel
theorem dX10_act_4 : decode cX10_act 4 = .ok (.iload_n 1, 1) := by decide +kernel
theorem dX10_act_5 : decode cX10_act 5 = .ok (.invokevirtual 174, 3) := by decide +kernel
theorem dX10_act_8 : decode cX10_act 8 = .ok (.ifCond .ne 6, 3) := by decide +kernel
theorem dX10_act_11 : decode cX10_act 11 = .ok (.ldc 160, 2) := by decide +kernel
theorem dX10_act_13 : decode cX10_act 13 = .ok (.ireturn, 1) := by decide +kernel
theorem dX10_act_14 : decode cX10_act 14 = .ok (.aload_n 0, 1) := by decide +kernel
theorem dX10_act_15 : decode cX10_act 15 = .ok (.getfield 33, 3) := by decide +kernel
theorem dX10_act_18 : decode cX10_act 18 = .ok (.aload_n 0, 1) := by decide +kernel
theorem dX10_act_19 : decode cX10_act 19 = .ok (.getfield 23, 3) := by decide +kernel
theorem dX10_act_22 : decode cX10_act 22 = .ok (.iload_n 1, 1) := by decide +kernel
theorem dX10_act_23 : decode cX10_act 23 = .ok (.invokevirtual 192, 3) := by decide +kernel
theorem dX10_act_26 : decode cX10_act 26 = .ok (.ifCond .ne 22, 3) := by decide +kernel
theorem dX10_act_29 : decode cX10_act 29 = .ok (.aload_n 0, 1) := by decide +kernel
theorem dX10_act_30 : decode cX10_act 30 = .ok (.getfield 33, 3) := by decide +kernel
theorem dX10_act_33 : decode cX10_act 33 = .ok (.getfield 146, 3) := by decide +kernel
theorem dX10_act_36 : decode cX10_act 36 = .ok (.aload_n 0, 1) := by decide +kernel
theorem dX10_act_37 : decode cX10_act 37 = .ok (.getfield 23, 3) := by decide +kernel
theorem dX10_act_40 : decode cX10_act 40 = .ok (.getfield 177, 3) := by decide +kernel
theorem dX10_act_43 : decode cX10_act 43 = .ok (.iload_n 1, 1) := by decide +kernel
theorem dX10_act_44 : decode cX10_act 44 = .ok (.iaload, 1) := by decide +kernel
theorem dX10_act_45 : decode cX10_act 45 = .ok (.if_icmp .eq 6, 3) := by decide +kernel
theorem dX10_act_48 : decode cX10_act 48 = .ok (.ldc 217, 2) := by decide +kernel
theorem dX10_act_50 : decode cX10_act 50 = .ok (.ireturn, 1) := by decide +kernel
theorem dX10_act_51 : decode cX10_act 51 = .ok (.aload_n 0, 1) := by decide +kernel
theorem dX10_act_52 : decode cX10_act 52 = .ok (.getfield 33, 3) := by decide +kernel
theorem dX10_act_55 : decode cX10_act 55 = .ok (.aload_n 0, 1) := by decide +kernel
theorem dX10_act_56 : decode cX10_act 56 = .ok (.getfield 23, 3) := by decide +kernel
theorem dX10_act_59 : decode cX10_act 59 = .ok (.iload_n 1, 1) := by decide +kernel
theorem dX10_act_60 : decode cX10_act 60 = .ok (.invokevirtual 223, 3) := by decide +kernel
theorem dX10_act_63 : decode cX10_act 63 = .ok (.aload_n 0, 1) := by decide +kernel
theorem dX10_act_64 : decode cX10_act 64 = .ok (.getfield 33, 3) := by decide +kernel
theorem dX10_act_67 : decode cX10_act 67 = .ok (.getfield 140, 3) := by decide +kernel
theorem dX10_act_70 : decode cX10_act 70 = .ok (.ireturn, 1) := by decide +kernel
theorem dX10_drop_0 : decode cX10_drop 0 = .ok (.aload_n 0, 1) := by decide +kernel
theorem dX10_drop_1 : decode cX10_drop 1 = .ok (.getfield 33, 3) := by decide +kernel
theorem dX10_drop_4 : decode cX10_drop 4 = .ok (.getfield 146, 3) := by decide +kernel
theorem dX10_drop_7 : decode cX10_drop 7 = .ok (.istore_n 1, 1) := by decide +kernel
theorem dX10_drop_8 : decode cX10_drop 8 = .ok (.aload_n 0, 1) := by decide +kernel
theorem dX10_drop_9 : decode cX10_drop 9 = .ok (.getfield 33, 3) := by decide +kernel
theorem dX10_drop_12 : decode cX10_drop 12 = .ok (.iconst (-1), 1) := by decide +kernel
theorem dX10_drop_13 : decode cX10_drop 13 = .ok (.putfield 146, 3) := by decide +kernel
theorem dX10_drop_16 : decode cX10_drop 16 = .ok (.iload_n 1, 1) := by decide +kernel
theorem dX10_drop_17 : decode cX10_drop 17 = .ok (.ireturn, 1) := by decide +kernel
theorem dX10_pass_0 : decode cX10_pass 0 = .ok (.iload_n 1, 1) := by decide +kernel
theorem dX10_pass_1 : decode cX10_pass 1 = .ok (.iconst 1, 1) := by decide +kernel
theorem dX10_pass_2 : decode cX10_pass 2 = .ok (.if_icmp .lt 10, 3) := by decide +kernel
theorem dX10_pass_5 : decode cX10_pass 5 = .ok (.iload_n 1, 1) := by decide +kernel
theorem dX10_pass_6 : decode cX10_pass 6 = .ok (.sipush 999, 3) := by decide +kernel
theorem dX10_pass_9 : decode cX10_pass 9 = .ok (.if_icmp .le 6, 3) := by decide +kernel
theorem dX10_pass_12 : decode cX10_pass 12 = .ok (.ldc 95, 2) := by decide +kernel
theorem dX10_pass_14 : decode cX10_pass 14 = .ok (.ireturn, 1) := by decide +kernel
theorem dX10_pass_15 : decode cX10_pass 15 = .ok (.aload_n 0, 1) := by decide +kernel
theorem dX10_pass_16 : decode cX10_pass 16 = .ok (.getfield 33, 3) := by decide +kernel
theorem dX10_pass_19 : decode cX10_pass 19 = .ok (.getfield 140, 3) := by decide +kernel
theorem dX10_pass_22 : decode cX10_pass 22 = .ok (.ldc 218, 2) := by decide +kernel
theorem dX10_pass_24 : decode cX10_pass 24 = .ok (.if_icmp .le 6, 3) := by decide +kernel
theorem dX10_pass_27 : decode cX10_pass 27 = .ok (.ldc 103, 2) := by decide +kernel
theorem dX10_pass_29 : decode cX10_pass 29 = .ok (.ireturn, 1) := by decide +kernel
theorem dX10_pass_30 : decode cX10_pass 30 = .ok (.aload_n 0, 1) := by decide +kernel
theorem dX10_pass_31 : decode cX10_pass 31 = .ok (.getfield 33, 3) := by decide +kernel
theorem dX10_pass_34 : decode cX10_pass 34 = .ok (.dup, 1) := by decide +kernel
theorem dX10_pass_35 : decode cX10_pass 35 = .ok (.getfield 140, 3) := by decide +kernel
theorem dX10_pass_38 : decode cX10_pass 38 = .ok (.iload_n 1, 1) := by decide +kernel
theorem dX10_pass_39 : decode cX10_pass 39 = .ok (.iadd, 1) := by decide +kernel
theorem dX10_pass_40 : decode cX10_pass 40 = .ok (.putfield 140, 3) := by decide +kernel
theorem dX10_pass_43 : decode cX10_pass 43 = .ok (.aload_n 0, 1) := by decide +kernel
theorem dX10_pass_44 : decode cX10_pass 44 = .ok (.getfield 33, 3) := by decide +kernel
theorem dX10_pass_47 : decode cX10_pass 47 = .ok (.getfield 140, 3) := by decide +kernel
theorem dX10_pass_50 : decode cX10_pass 50 = .ok (.ireturn, 1) := by decide +kernel
theorem dX10_drift_0 : decode cX10_drift 0 = .ok (.iload_n 1, 1) := by decide +kernel
theorem dX10_drift_1 : decode cX10_drift 1 = .ok (.iconst 1, 1) := by decide +kernel
theorem dX10_drift_2 : decode cX10_drift 2 = .ok (.if_icmp .lt 9, 3) := by decide +kernel
theorem dX10_drift_5 : decode cX10_drift 5 = .ok (.iload_n 1, 1) := by decide +kernel
theorem dX10_drift_6 : decode cX10_drift 6 = .ok (.bipush 30, 2) := by decide +kernel
theorem dX10_drift_8 : decode cX10_drift 8 = .ok (.if_icmp .le 6, 3) := by decide +kernel
theorem dX10_drift_11 : decode cX10_drift 11 = .ok (.ldc 95, 2) := by decide +kernel
theorem dX10_drift_13 : decode cX10_drift 13 = .ok (.ireturn, 1) := by decide +kernel
theorem dX10_drift_14 : decode cX10_drift 14 = .ok (.aload_n 0, 1) := by decide +kernel
theorem dX10_drift_15 : decode cX10_drift 15 = .ok (.getfield 23, 3) := by decide +kernel
theorem dX10_drift_18 : decode cX10_drift 18 = .ok (.getfield 134, 3) := by decide +kernel
theorem dX10_drift_21 : decode cX10_drift 21 = .ok (.ifCond .ne 6, 3) := by decide +kernel
theorem dX10_drift_24 : decode cX10_drift 24 = .ok (.ldc 217, 2) := by decide +kernel
theorem dX10_drift_26 : decode cX10_drift 26 = .ok (.ireturn, 1) := by decide +kernel
theorem dX10_drift_27 : decode cX10_drift 27 = .ok (.aload_n 0, 1) := by decide +kernel
theorem dX10_drift_28 : decode cX10_drift 28 = .ok (.getfield 33, 3) := by decide +kernel
theorem dX10_drift_31 : decode cX10_drift 31 = .ok (.getfield 140, 3) := by decide +kernel
theorem dX10_drift_34 : decode cX10_drift 34 = .ok (.ldc 218, 2) := by decide +kernel
theorem dX10_drift_36 : decode cX10_drift 36 = .ok (.if_icmp .le 6, 3) := by decide +kernel
theorem dX10_drift_39 : decode cX10_drift 39 = .ok (.ldc 103, 2) := by decide +kernel
theorem dX10_drift_41 : decode cX10_drift 41 = .ok (.ireturn, 1) := by decide +kernel
theorem dX10_drift_42 : decode cX10_drift 42 = .ok (.iconst 0, 1) := by decide +kernel
theorem dX10_drift_43 : decode cX10_drift 43 = .ok (.istore_n 2, 1) := by decide +kernel
theorem dX10_drift_44 : decode cX10_drift 44 = .ok (.iload_n 2, 1) := by decide +kernel
theorem dX10_drift_45 : decode cX10_drift 45 = .ok (.iload_n 1, 1) := by decide +kernel
theorem dX10_drift_46 : decode cX10_drift 46 = .ok (.if_icmp .ge 13, 3) := by decide +kernel
theorem dX10_drift_49 : decode cX10_drift 49 = .ok (.aload_n 0, 1) := by decide +kernel
theorem dX10_drift_50 : decode cX10_drift 50 = .ok (.invokevirtual 226, 3) := by decide +kernel
theorem dX10_drift_53 : decode cX10_drift 53 = .ok (.iinc 2 1, 3) := by decide +kernel
theorem dX10_drift_56 : decode cX10_drift 56 = .ok (.goto (-12), 3) := by decide +kernel
theorem dX10_drift_59 : decode cX10_drift 59 = .ok (.aload_n 0, 1) := by decide +kernel
theorem dX10_drift_60 : decode cX10_drift 60 = .ok (.getfield 33, 3) := by decide +kernel
theorem dX10_drift_63 : decode cX10_drift 63 = .ok (.getfield 140, 3) := by decide +kernel
theorem dX10_drift_66 : decode cX10_drift 66 = .ok (.ireturn, 1) := by decide +kernel
theorem dX10_round_0 : decode cX10_round 0 = .ok (.aload_n 0, 1) := by decide +kernel
theorem dX10_round_1 : decode cX10_round 1 = .ok (.getfield 53, 3) := by decide +kernel
theorem dX10_round_4 : decode cX10_round 4 = .ok (.aload_n 0, 1) := by decide +kernel
theorem dX10_round_5 : decode cX10_round 5 = .ok (.getfield 23, 3) := by decide +kernel
theorem dX10_round_8 : decode cX10_round 8 = .ok (.aload_n 0, 1) := by decide +kernel
theorem dX10_round_9 : decode cX10_round 9 = .ok (.iconst 0, 1) := by decide +kernel
theorem dX10_round_10 : decode cX10_round 10 = .ok (.invokevirtual 149, 3) := by decide +kernel
theorem dX10_round_13 : decode cX10_round 13 = .ok (.aload_n 0, 1) := by decide +kernel
theorem dX10_round_14 : decode cX10_round 14 = .ok (.getfield 33, 3) := by decide +kernel
theorem dX10_round_17 : decode cX10_round 17 = .ok (.getfield 143, 3) := by decide +kernel
theorem dX10_round_20 : decode cX10_round 20 = .ok (.aload_n 0, 1) := by decide +kernel
theorem dX10_round_21 : decode cX10_round 21 = .ok (.getfield 33, 3) := by decide +kernel
theorem dX10_round_24 : decode cX10_round 24 = .ok (.getfield 140, 3) := by decide +kernel
theorem dX10_round_27 : decode cX10_round 27 = .ok (.invokevirtual 229, 3) := by decide +kernel
theorem dX10_round_30 : decode cX10_round 30 = .ok (.iload_n 1, 1) := by decide +kernel
theorem dX10_round_31 : decode cX10_round 31 = .ok (.iconst (-1), 1) := by decide +kernel
theorem dX10_round_32 : decode cX10_round 32 = .ok (.if_icmp .ne 11, 3) := by decide +kernel
theorem dX10_round_35 : decode cX10_round 35 = .ok (.aload_n 0, 1) := by decide +kernel
theorem dX10_round_36 : decode cX10_round 36 = .ok (.getfield 53, 3) := by decide +kernel
theorem dX10_round_39 : decode cX10_round 39 = .ok (.getfield 233, 3) := by decide +kernel
theorem dX10_round_42 : decode cX10_round 42 = .ok (.ireturn, 1) := by decide +kernel
theorem dX10_round_43 : decode cX10_round 43 = .ok (.iload_n 1, 1) := by decide +kernel
theorem dX10_round_44 : decode cX10_round 44 = .ok (.bipush (-2), 2) := by decide +kernel
theorem dX10_round_46 : decode cX10_round 46 = .ok (.if_icmp .ne 11, 3) := by decide +kernel
theorem dX10_round_49 : decode cX10_round 49 = .ok (.aload_n 0, 1) := by decide +kernel
theorem dX10_round_50 : decode cX10_round 50 = .ok (.getfield 53, 3) := by decide +kernel
theorem dX10_round_53 : decode cX10_round 53 = .ok (.getfield 235, 3) := by decide +kernel
theorem dX10_round_56 : decode cX10_round 56 = .ok (.ireturn, 1) := by decide +kernel
theorem dX10_round_57 : decode cX10_round 57 = .ok (.iload_n 1, 1) := by decide +kernel
theorem dX10_round_58 : decode cX10_round 58 = .ok (.ifCond .lt 26, 3) := by decide +kernel
theorem dX10_round_61 : decode cX10_round 61 = .ok (.iload_n 1, 1) := by decide +kernel
theorem dX10_round_62 : decode cX10_round 62 = .ok (.aload_n 0, 1) := by decide +kernel
theorem dX10_round_63 : decode cX10_round 63 = .ok (.getfield 53, 3) := by decide +kernel
theorem dX10_round_66 : decode cX10_round 66 = .ok (.getfield 238, 3) := by decide +kernel
theorem dX10_round_69 : decode cX10_round 69 = .ok (.if_icmp .ge 15, 3) := by decide +kernel
theorem dX10_round_72 : decode cX10_round 72 = .ok (.aload_n 0, 1) := by decide +kernel
theorem dX10_round_73 : decode cX10_round 73 = .ok (.getfield 53, 3) := by decide +kernel
theorem dX10_round_76 : decode cX10_round 76 = .ok (.getfield 241, 3) := by decide +kernel
theorem dX10_round_79 : decode cX10_round 79 = .ok (.iload_n 1, 1) := by decide +kernel
theorem dX10_round_80 : decode cX10_round 80 = .ok (.iaload, 1) := by decide +kernel
theorem dX10_round_81 : decode cX10_round 81 = .ok (.goto 4, 3) := by decide +kernel
theorem dX10_round_84 : decode cX10_round 84 = .ok (.iconst (-1), 1) := by decide +kernel
theorem dX10_round_85 : decode cX10_round 85 = .ok (.ireturn, 1) := by decide +kernel
theorem dX10_two_0 : decode cX10_two 0 = .ok (.aload_n 0, 1) := by decide +kernel
theorem dX10_two_1 : decode cX10_two 1 = .ok (.getfield 23, 3) := by decide +kernel
theorem dX10_two_4 : decode cX10_two 4 = .ok (.iload_n 1, 1) := by decide +kernel
theorem dX10_two_5 : decode cX10_two 5 = .ok (.invokevirtual 156, 3) := by decide +kernel
theorem dX10_two_8 : decode cX10_two 8 = .ok (.ifCond .ne 6, 3) := by decide +kernel
theorem dX10_two_11 : decode cX10_two 11 = .ok (.ldc 160, 2) := by decide +kernel
theorem dX10_two_13 : decode cX10_two 13 = .ok (.ireturn, 1) := by decide +kernel
theorem dX10_two_14 : decode cX10_two 14 = .ok (.aload_n 0, 1) := by decide +kernel
theorem dX10_two_15 : decode cX10_two 15 = .ok (.iconst 0, 1) := by decide +kernel
theorem dX10_two_16 : decode cX10_two 16 = .ok (.invokevirtual 149, 3) := by decide +kernel
theorem dX10_two_19 : decode cX10_two 19 = .ok (.istore_n 2, 1) := by decide +kernel
theorem dX10_two_20 : decode cX10_two 20 = .ok (.aload_n 0, 1) := by decide +kernel
theorem dX10_two_21 : decode cX10_two 21 = .ok (.getfield 60, 3) := by decide +kernel
theorem dX10_two_24 : decode cX10_two 24 = .ok (.aload_n 0, 1) := by decide +kernel
theorem dX10_two_25 : decode cX10_two 25 = .ok (.getfield 23, 3) := by decide +kernel
theorem dX10_two_28 : decode cX10_two 28 = .ok (.iload_n 2, 1) := by decide +kernel
theorem dX10_two_29 : decode cX10_two 29 = .ok (.aload_n 0, 1) := by decide +kernel
theorem dX10_two_30 : decode cX10_two 30 = .ok (.getfield 33, 3) := by decide +kernel
theorem dX10_two_33 : decode cX10_two 33 = .ok (.getfield 143, 3) := by decide +kernel
theorem dX10_two_36 : decode cX10_two 36 = .ok (.aload_n 0, 1) := by decide +kernel
theorem dX10_two_37 : decode cX10_two 37 = .ok (.getfield 33, 3) := by decide +kernel
theorem dX10_two_40 : decode cX10_two 40 = .ok (.getfield 140, 3) := by decide +kernel
theorem dX10_two_43 : decode cX10_two 43 = .ok (.invokevirtual 244, 3) := by decide +kernel
theorem dX10_two_46 : decode cX10_two 46 = .ok (.aload_n 0, 1) := by decide +kernel
theorem dX10_two_47 : decode cX10_two 47 = .ok (.getfield 64, 3) := by decide +kernel
theorem dX10_two_50 : decode cX10_two 50 = .ok (.aload_n 0, 1) := by decide +kernel
theorem dX10_two_51 : decode cX10_two 51 = .ok (.getfield 23, 3) := by decide +kernel
theorem dX10_two_54 : decode cX10_two 54 = .ok (.iload_n 2, 1) := by decide +kernel
theorem dX10_two_55 : decode cX10_two 55 = .ok (.iload_n 1, 1) := by decide +kernel
theorem dX10_two_56 : decode cX10_two 56 = .ok (.aload_n 0, 1) := by decide +kernel
theorem dX10_two_57 : decode cX10_two 57 = .ok (.getfield 33, 3) := by decide +kernel
theorem dX10_two_60 : decode cX10_two 60 = .ok (.getfield 140, 3) := by decide +kernel
theorem dX10_two_63 : decode cX10_two 63 = .ok (.invokevirtual 244, 3) := by decide +kernel
theorem dX10_two_66 : decode cX10_two 66 = .ok (.iconst 0, 1) := by decide +kernel
theorem dX10_two_67 : decode cX10_two 67 = .ok (.istore_n 3, 1) := by decide +kernel
theorem dX10_two_68 : decode cX10_two 68 = .ok (.iconst 0, 1) := by decide +kernel
theorem dX10_two_69 : decode cX10_two 69 = .ok (.istore 4, 2) := by decide +kernel
theorem dX10_two_71 : decode cX10_two 71 = .ok (.iload 4, 2) := by decide +kernel
theorem dX10_two_73 : decode cX10_two 73 = .ok (.iload_n 2, 1) := by decide +kernel
theorem dX10_two_74 : decode cX10_two 74 = .ok (.if_icmp .gt 44, 3) := by decide +kernel
theorem dX10_two_77 : decode cX10_two 77 = .ok (.aload_n 0, 1) := by decide +kernel
theorem dX10_two_78 : decode cX10_two 78 = .ok (.getfield 60, 3) := by decide +kernel
theorem dX10_two_81 : decode cX10_two 81 = .ok (.getfield 245, 3) := by decide +kernel
theorem dX10_two_84 : decode cX10_two 84 = .ok (.iload 4, 2) := by decide +kernel
theorem dX10_two_86 : decode cX10_two 86 = .ok (.baload, 1) := by decide +kernel
theorem dX10_two_87 : decode cX10_two 87 = .ok (.ifCond .eq 25, 3) := by decide +kernel
theorem dX10_two_90 : decode cX10_two 90 = .ok (.iload_n 3, 1) := by decide +kernel
theorem dX10_two_91 : decode cX10_two 91 = .ok (.aload_n 0, 1) := by decide +kernel
theorem dX10_two_92 : decode cX10_two 92 = .ok (.getfield 23, 3) := by decide +kernel
theorem dX10_two_95 : decode cX10_two 95 = .ok (.iload 4, 2) := by decide +kernel
theorem dX10_two_97 : decode cX10_two 97 = .ok (.invokevirtual 153, 3) := by decide +kernel
theorem dX10_two_100 : decode cX10_two 100 = .ok (.aload_n 0, 1) := by decide +kernel
theorem dX10_two_101 : decode cX10_two 101 = .ok (.iload 4, 2) := by decide +kernel
theorem dX10_two_103 : decode cX10_two 103 = .ok (.iload_n 2, 1) := by decide +kernel
theorem dX10_two_104 : decode cX10_two 104 = .ok (.invokevirtual 249, 3) := by decide +kernel
theorem dX10_two_107 : decode cX10_two 107 = .ok (.iadd, 1) := by decide +kernel
theorem dX10_two_108 : decode cX10_two 108 = .ok (.invokestatic 252, 3) := by decide +kernel
theorem dX10_two_111 : decode cX10_two 111 = .ok (.istore_n 3, 1) := by decide +kernel
theorem dX10_two_112 : decode cX10_two 112 = .ok (.iinc 4 1, 3) := by decide +kernel
theorem dX10_two_115 : decode cX10_two 115 = .ok (.goto (-44), 3) := by decide +kernel
theorem dX10_two_118 : decode cX10_two 118 = .ok (.iload_n 3, 1) := by decide +kernel
theorem dX10_two_119 : decode cX10_two 119 = .ok (.ireturn, 1) := by decide +kernel
theorem dX10_reword_0 : decode cX10_reword 0 = .ok (.iload_n 1, 1) := by decide +kernel
theorem dX10_reword_1 : decode cX10_reword 1 = .ok (.ifCond .lt 8, 3) := by decide +kernel
theorem dX10_reword_4 : decode cX10_reword 4 = .ok (.iload_n 1, 1) := by decide +kernel
theorem dX10_reword_5 : decode cX10_reword 5 = .ok (.iconst 1, 1) := by decide +kernel
theorem dX10_reword_6 : decode cX10_reword 6 = .ok (.if_icmp .le 6, 3) := by decide +kernel
theorem dX10_reword_9 : decode cX10_reword 9 = .ok (.ldc 95, 2) := by decide +kernel
theorem dX10_reword_11 : decode cX10_reword 11 = .ok (.ireturn, 1) := by decide +kernel
theorem dX10_reword_12 : decode cX10_reword 12 = .ok (.aload_n 0, 1) := by decide +kernel
theorem dX10_reword_13 : decode cX10_reword 13 = .ok (.iconst 0, 1) := by decide +kernel
theorem dX10_reword_14 : decode cX10_reword 14 = .ok (.invokevirtual 149, 3) := by decide +kernel
theorem dX10_reword_17 : decode cX10_reword 17 = .ok (.istore_n 2, 1) := by decide +kernel
theorem dX10_reword_18 : decode cX10_reword 18 = .ok (.aload_n 0, 1) := by decide +kernel
theorem dX10_reword_19 : decode cX10_reword 19 = .ok (.getfield 60, 3) := by decide +kernel
theorem dX10_reword_22 : decode cX10_reword 22 = .ok (.aload_n 0, 1) := by decide +kernel
theorem dX10_reword_23 : decode cX10_reword 23 = .ok (.getfield 23, 3) := by decide +kernel
theorem dX10_reword_26 : decode cX10_reword 26 = .ok (.iload_n 2, 1) := by decide +kernel
theorem dX10_reword_27 : decode cX10_reword 27 = .ok (.aload_n 0, 1) := by decide +kernel
theorem dX10_reword_28 : decode cX10_reword 28 = .ok (.getfield 33, 3) := by decide +kernel
theorem dX10_reword_31 : decode cX10_reword 31 = .ok (.getfield 143, 3) := by decide +kernel
theorem dX10_reword_34 : decode cX10_reword 34 = .ok (.aload_n 0, 1) := by decide +kernel
theorem dX10_reword_35 : decode cX10_reword 35 = .ok (.getfield 33, 3) := by decide +kernel
theorem dX10_reword_38 : decode cX10_reword 38 = .ok (.getfield 140, 3) := by decide +kernel
theorem dX10_reword_41 : decode cX10_reword 41 = .ok (.invokevirtual 244, 3) := by decide +kernel
theorem dX10_reword_44 : decode cX10_reword 44 = .ok (.iconst (-1), 1) := by decide +kernel
theorem dX10_reword_45 : decode cX10_reword 45 = .ok (.istore_n 3, 1) := by decide +kernel
theorem dX10_reword_46 : decode cX10_reword 46 = .ok (.iconst (-1), 1) := by decide +kernel
theorem dX10_reword_47 : decode cX10_reword 47 = .ok (.istore 4, 2) := by decide +kernel
theorem dX10_reword_49 : decode cX10_reword 49 = .ok (.iconst 0, 1) := by decide +kernel
theorem dX10_reword_50 : decode cX10_reword 50 = .ok (.istore 5, 2) := by decide +kernel
theorem dX10_reword_52 : decode cX10_reword 52 = .ok (.iload 5, 2) := by decide +kernel
theorem dX10_reword_54 : decode cX10_reword 54 = .ok (.iload_n 2, 1) := by decide +kernel
theorem dX10_reword_55 : decode cX10_reword 55 = .ok (.if_icmp .gt 76, 3) := by decide +kernel
theorem dX10_reword_58 : decode cX10_reword 58 = .ok (.iload 5, 2) := by decide +kernel
theorem dX10_reword_60 : decode cX10_reword 60 = .ok (.iload_n 2, 1) := by decide +kernel
theorem dX10_reword_61 : decode cX10_reword 61 = .ok (.iconst (-1), 1) := by decide +kernel
theorem dX10_reword_62 : decode cX10_reword 62 = .ok (.ixor, 1) := by decide +kernel
theorem dX10_reword_63 : decode cX10_reword 63 = .ok (.iand, 1) := by decide +kernel
theorem dX10_reword_64 : decode cX10_reword 64 = .ok (.ifCond .ne 32, 3) := by decide +kernel
theorem dX10_reword_67 : decode cX10_reword 67 = .ok (.aload_n 0, 1) := by decide +kernel
theorem dX10_reword_68 : decode cX10_reword 68 = .ok (.getfield 60, 3) := by decide +kernel
theorem dX10_reword_71 : decode cX10_reword 71 = .ok (.getfield 245, 3) := by decide +kernel
theorem dX10_reword_74 : decode cX10_reword 74 = .ok (.iload_n 2, 1) := by decide +kernel
theorem dX10_reword_75 : decode cX10_reword 75 = .ok (.iload 5, 2) := by decide +kernel
theorem dX10_reword_77 : decode cX10_reword 77 = .ok (.iconst (-1), 1) := by decide +kernel
theorem dX10_reword_78 : decode cX10_reword 78 = .ok (.ixor, 1) := by decide +kernel
theorem dX10_reword_79 : decode cX10_reword 79 = .ok (.iand, 1) := by decide +kernel
theorem dX10_reword_80 : decode cX10_reword 80 = .ok (.baload, 1) := by decide +kernel
theorem dX10_reword_81 : decode cX10_reword 81 = .ok (.ifCond .eq 15, 3) := by decide +kernel
theorem dX10_reword_84 : decode cX10_reword 84 = .ok (.aload_n 0, 1) := by decide +kernel
theorem dX10_reword_85 : decode cX10_reword 85 = .ok (.getfield 23, 3) := by decide +kernel
theorem dX10_reword_88 : decode cX10_reword 88 = .ok (.iload 5, 2) := by decide +kernel
theorem dX10_reword_90 : decode cX10_reword 90 = .ok (.invokevirtual 257, 3) := by decide +kernel
theorem dX10_reword_93 : decode cX10_reword 93 = .ok (.goto 4, 3) := by decide +kernel
theorem dX10_reword_96 : decode cX10_reword 96 = .ok (.iconst (-1), 1) := by decide +kernel
theorem dX10_reword_97 : decode cX10_reword 97 = .ok (.istore 6, 2) := by decide +kernel
theorem dX10_reword_99 : decode cX10_reword 99 = .ok (.iload 6, 2) := by decide +kernel
theorem dX10_reword_101 : decode cX10_reword 101 = .ok (.iconst (-1), 1) := by decide +kernel
theorem dX10_reword_102 : decode cX10_reword 102 = .ok (.if_icmp .eq 23, 3) := by decide +kernel
theorem dX10_reword_105 : decode cX10_reword 105 = .ok (.iload 4, 2) := by decide +kernel
theorem dX10_reword_107 : decode cX10_reword 107 = .ok (.iconst (-1), 1) := by decide +kernel
theorem dX10_reword_108 : decode cX10_reword 108 = .ok (.if_icmp .eq 10, 3) := by decide +kernel
theorem dX10_reword_111 : decode cX10_reword 111 = .ok (.iload 6, 2) := by decide +kernel
theorem dX10_reword_113 : decode cX10_reword 113 = .ok (.iload 4, 2) := by decide +kernel
theorem dX10_reword_115 : decode cX10_reword 115 = .ok (.if_icmp .ge 10, 3) := by decide +kernel
theorem dX10_reword_118 : decode cX10_reword 118 = .ok (.iload 5, 2) := by decide +kernel
theorem dX10_reword_120 : decode cX10_reword 120 = .ok (.istore_n 3, 1) := by decide +kernel
theorem dX10_reword_121 : decode cX10_reword 121 = .ok (.iload 6, 2) := by decide +kernel
theorem dX10_reword_123 : decode cX10_reword 123 = .ok (.istore 4, 2) := by decide +kernel
theorem dX10_reword_125 : decode cX10_reword 125 = .ok (.iinc 5 1, 3) := by decide +kernel
theorem dX10_reword_128 : decode cX10_reword 128 = .ok (.goto (-76), 3) := by decide +kernel
theorem dX10_reword_131 : decode cX10_reword 131 = .ok (.iload_n 1, 1) := by decide +kernel
theorem dX10_reword_132 : decode cX10_reword 132 = .ok (.ifCond .ne 7, 3) := by decide +kernel
theorem dX10_reword_135 : decode cX10_reword 135 = .ok (.iload_n 3, 1) := by decide +kernel
theorem dX10_reword_136 : decode cX10_reword 136 = .ok (.goto 5, 3) := by decide +kernel
theorem dX10_reword_139 : decode cX10_reword 139 = .ok (.iload 4, 2) := by decide +kernel
theorem dX10_reword_141 : decode cX10_reword 141 = .ok (.ireturn, 1) := by decide +kernel
theorem dX10_chain_0 : decode cX10_chain 0 = .ok (.aload_n 0, 1) := by decide +kernel
theorem dX10_chain_1 : decode cX10_chain 1 = .ok (.getfield 23, 3) := by decide +kernel
theorem dX10_chain_4 : decode cX10_chain 4 = .ok (.iload_n 1, 1) := by decide +kernel
theorem dX10_chain_5 : decode cX10_chain 5 = .ok (.iload_n 2, 1) := by decide +kernel
theorem dX10_chain_6 : decode cX10_chain 6 = .ok (.invokevirtual 199, 3) := by decide +kernel
theorem dX10_chain_9 : decode cX10_chain 9 = .ok (.ifCond .ne 6, 3) := by decide +kernel
theorem dX10_chain_12 : decode cX10_chain 12 = .ok (.ldc 160, 2) := by decide +kernel
theorem dX10_chain_14 : decode cX10_chain 14 = .ok (.ireturn, 1) := by decide +kernel
theorem dX10_chain_15 : decode cX10_chain 15 = .ok (.iload_n 3, 1) := by decide +kernel
theorem dX10_chain_16 : decode cX10_chain 16 = .ok (.ifCond .lt 8, 3) := by decide +kernel
theorem dX10_chain_19 : decode cX10_chain 19 = .ok (.iload_n 3, 1) := by decide +kernel
theorem dX10_chain_20 : decode cX10_chain 20 = .ok (.iconst 1, 1) := by decide +kernel
theorem dX10_chain_21 : decode cX10_chain 21 = .ok (.if_icmp .le 6, 3) := by decide +kernel
theorem dX10_chain_24 : decode cX10_chain 24 = .ok (.ldc 95, 2) := by decide +kernel
theorem dX10_chain_26 : decode cX10_chain 26 = .ok (.ireturn, 1) := by decide +kernel
theorem dX10_chain_27 : decode cX10_chain 27 = .ok (.aload_n 0, 1) := by decide +kernel
theorem dX10_chain_28 : decode cX10_chain 28 = .ok (.getfield 77, 3) := by decide +kernel
theorem dX10_chain_31 : decode cX10_chain 31 = .ok (.aload_n 0, 1) := by decide +kernel
theorem dX10_chain_32 : decode cX10_chain 32 = .ok (.getfield 23, 3) := by decide +kernel
theorem dX10_chain_35 : decode cX10_chain 35 = .ok (.iload_n 1, 1) := by decide +kernel
theorem dX10_chain_36 : decode cX10_chain 36 = .ok (.invokevirtual 260, 3) := by decide +kernel
theorem dX10_chain_39 : decode cX10_chain 39 = .ok (.iload_n 3, 1) := by decide +kernel
theorem dX10_chain_40 : decode cX10_chain 40 = .ok (.ifCond .ne 15, 3) := by decide +kernel
theorem dX10_chain_43 : decode cX10_chain 43 = .ok (.aload_n 0, 1) := by decide +kernel
theorem dX10_chain_44 : decode cX10_chain 44 = .ok (.getfield 77, 3) := by decide +kernel
theorem dX10_chain_47 : decode cX10_chain 47 = .ok (.getfield 262, 3) := by decide +kernel
theorem dX10_chain_50 : decode cX10_chain 50 = .ok (.iload_n 2, 1) := by decide +kernel
theorem dX10_chain_51 : decode cX10_chain 51 = .ok (.iaload, 1) := by decide +kernel
theorem dX10_chain_52 : decode cX10_chain 52 = .ok (.goto 12, 3) := by decide +kernel
theorem dX10_chain_55 : decode cX10_chain 55 = .ok (.aload_n 0, 1) := by decide +kernel
theorem dX10_chain_56 : decode cX10_chain 56 = .ok (.getfield 77, 3) := by decide +kernel
theorem dX10_chain_59 : decode cX10_chain 59 = .ok (.getfield 265, 3) := by decide +kernel
theorem dX10_chain_62 : decode cX10_chain 62 = .ok (.iload_n 2, 1) := by decide +kernel
theorem dX10_chain_63 : decode cX10_chain 63 = .ok (.iaload, 1) := by decide +kernel
theorem dX10_chain_64 : decode cX10_chain 64 = .ok (.ireturn, 1) := by decide +kernel
theorem dX10_lost_0 : decode cX10_lost 0 = .ok (.aload_n 0, 1) := by decide +kernel
theorem dX10_lost_1 : decode cX10_lost 1 = .ok (.getfield 23, 3) := by decide +kernel
theorem dX10_lost_4 : decode cX10_lost 4 = .ok (.iload_n 1, 1) := by decide +kernel
theorem dX10_lost_5 : decode cX10_lost 5 = .ok (.invokevirtual 165, 3) := by decide +kernel
theorem dX10_lost_8 : decode cX10_lost 8 = .ok (.ifCond .ne 6, 3) := by decide +kernel
theorem dX10_lost_11 : decode cX10_lost 11 = .ok (.ldc 160, 2) := by decide +kernel
theorem dX10_lost_13 : decode cX10_lost 13 = .ok (.ireturn, 1) := by decide +kernel
theorem dX10_lost_14 : decode cX10_lost 14 = .ok (.aload_n 0, 1) := by decide +kernel
theorem dX10_lost_15 : decode cX10_lost 15 = .ok (.getfield 77, 3) := by decide +kernel
theorem dX10_lost_18 : decode cX10_lost 18 = .ok (.aload_n 0, 1) := by decide +kernel
theorem dX10_lost_19 : decode cX10_lost 19 = .ok (.getfield 23, 3) := by decide +kernel
theorem dX10_lost_22 : decode cX10_lost 22 = .ok (.iload_n 1, 1) := by decide +kernel
theorem dX10_lost_23 : decode cX10_lost 23 = .ok (.invokevirtual 260, 3) := by decide +kernel
theorem dX10_lost_26 : decode cX10_lost 26 = .ok (.iconst 0, 1) := by decide +kernel
theorem dX10_lost_27 : decode cX10_lost 27 = .ok (.istore_n 2, 1) := by decide +kernel
theorem dX10_lost_28 : decode cX10_lost 28 = .ok (.iconst 0, 1) := by decide +kernel
theorem dX10_lost_29 : decode cX10_lost 29 = .ok (.istore_n 3, 1) := by decide +kernel
theorem dX10_lost_30 : decode cX10_lost 30 = .ok (.iload_n 3, 1) := by decide +kernel
theorem dX10_lost_31 : decode cX10_lost 31 = .ok (.aload_n 0, 1) := by decide +kernel
theorem dX10_lost_32 : decode cX10_lost 32 = .ok (.getfield 23, 3) := by decide +kernel
theorem dX10_lost_35 : decode cX10_lost 35 = .ok (.getfield 134, 3) := by decide +kernel
theorem dX10_lost_38 : decode cX10_lost 38 = .ok (.if_icmp .ge 27, 3) := by decide +kernel
theorem dX10_lost_41 : decode cX10_lost 41 = .ok (.aload_n 0, 1) := by decide +kernel
theorem dX10_lost_42 : decode cX10_lost 42 = .ok (.getfield 77, 3) := by decide +kernel
theorem dX10_lost_45 : decode cX10_lost 45 = .ok (.getfield 262, 3) := by decide +kernel
theorem dX10_lost_48 : decode cX10_lost 48 = .ok (.iload_n 3, 1) := by decide +kernel
theorem dX10_lost_49 : decode cX10_lost 49 = .ok (.iaload, 1) := by decide +kernel
theorem dX10_lost_50 : decode cX10_lost 50 = .ok (.ifCond .gt 9, 3) := by decide +kernel
theorem dX10_lost_53 : decode cX10_lost 53 = .ok (.iload_n 2, 1) := by decide +kernel
theorem dX10_lost_54 : decode cX10_lost 54 = .ok (.iconst 1, 1) := by decide +kernel
theorem dX10_lost_55 : decode cX10_lost 55 = .ok (.iload_n 3, 1) := by decide +kernel
theorem dX10_lost_56 : decode cX10_lost 56 = .ok (.ishl, 1) := by decide +kernel
theorem dX10_lost_57 : decode cX10_lost 57 = .ok (.ior, 1) := by decide +kernel
theorem dX10_lost_58 : decode cX10_lost 58 = .ok (.istore_n 2, 1) := by decide +kernel
theorem dX10_lost_59 : decode cX10_lost 59 = .ok (.iinc 3 1, 3) := by decide +kernel
theorem dX10_lost_62 : decode cX10_lost 62 = .ok (.goto (-32), 3) := by decide +kernel
theorem dX10_lost_65 : decode cX10_lost 65 = .ok (.iload_n 2, 1) := by decide +kernel
theorem dX10_lost_66 : decode cX10_lost 66 = .ok (.ireturn, 1) := by decide +kernel
theorem dX10_sold_0 : decode cX10_sold 0 = .ok (.aload_n 0, 1) := by decide +kernel
theorem dX10_sold_1 : decode cX10_sold 1 = .ok (.getfield 23, 3) := by decide +kernel
theorem dX10_sold_4 : decode cX10_sold 4 = .ok (.iload_n 2, 1) := by decide +kernel
theorem dX10_sold_5 : decode cX10_sold 5 = .ok (.invokevirtual 165, 3) := by decide +kernel
theorem dX10_sold_8 : decode cX10_sold 8 = .ok (.ifCond .ne 6, 3) := by decide +kernel
theorem dX10_sold_11 : decode cX10_sold 11 = .ok (.ldc 160, 2) := by decide +kernel
theorem dX10_sold_13 : decode cX10_sold 13 = .ok (.ireturn, 1) := by decide +kernel
theorem dX10_sold_14 : decode cX10_sold 14 = .ok (.iload_n 1, 1) := by decide +kernel
theorem dX10_sold_15 : decode cX10_sold 15 = .ok (.iconst 1, 1) := by decide +kernel
theorem dX10_sold_16 : decode cX10_sold 16 = .ok (.if_icmp .lt 18, 3) := by decide +kernel
theorem dX10_sold_19 : decode cX10_sold 19 = .ok (.iload_n 1, 1) := by decide +kernel
theorem dX10_sold_20 : decode cX10_sold 20 = .ok (.bipush 9, 2) := by decide +kernel
theorem dX10_sold_22 : decode cX10_sold 22 = .ok (.if_icmp .gt 12, 3) := by decide +kernel
theorem dX10_sold_25 : decode cX10_sold 25 = .ok (.iload_n 3, 1) := by decide +kernel
theorem dX10_sold_26 : decode cX10_sold 26 = .ok (.ifCond .lt 8, 3) := by decide +kernel
theorem dX10_sold_29 : decode cX10_sold 29 = .ok (.iload_n 3, 1) := by decide +kernel
theorem dX10_sold_30 : decode cX10_sold 30 = .ok (.iconst 1, 1) := by decide +kernel
theorem dX10_sold_31 : decode cX10_sold 31 = .ok (.if_icmp .le 6, 3) := by decide +kernel
theorem dX10_sold_34 : decode cX10_sold 34 = .ok (.ldc 95, 2) := by decide +kernel
theorem dX10_sold_36 : decode cX10_sold 36 = .ok (.ireturn, 1) := by decide +kernel
theorem dX10_sold_37 : decode cX10_sold 37 = .ok (.aload_n 0, 1) := by decide +kernel
theorem dX10_sold_38 : decode cX10_sold 38 = .ok (.getfield 88, 3) := by decide +kernel
theorem dX10_sold_41 : decode cX10_sold 41 = .ok (.iconst 0, 1) := by decide +kernel
theorem dX10_sold_42 : decode cX10_sold 42 = .ok (.invokestatic 268, 3) := by decide +kernel
theorem dX10_sold_45 : decode cX10_sold 45 = .ok (.aload_n 0, 1) := by decide +kernel
theorem dX10_sold_46 : decode cX10_sold 46 = .ok (.getfield 92, 3) := by decide +kernel
theorem dX10_sold_49 : decode cX10_sold 49 = .ok (.iconst 0, 1) := by decide +kernel
theorem dX10_sold_50 : decode cX10_sold 50 = .ok (.invokestatic 268, 3) := by decide +kernel
theorem dX10_sold_53 : decode cX10_sold 53 = .ok (.iconst 0, 1) := by decide +kernel
theorem dX10_sold_54 : decode cX10_sold 54 = .ok (.istore 4, 2) := by decide +kernel
theorem dX10_sold_56 : decode cX10_sold 56 = .ok (.iload 4, 2) := by decide +kernel
theorem dX10_sold_58 : decode cX10_sold 58 = .ok (.iload_n 1, 1) := by decide +kernel
theorem dX10_sold_59 : decode cX10_sold 59 = .ok (.if_icmp .ge 13, 3) := by decide +kernel
theorem dX10_sold_62 : decode cX10_sold 62 = .ok (.aload_n 0, 1) := by decide +kernel
theorem dX10_sold_63 : decode cX10_sold 63 = .ok (.invokevirtual 274, 3) := by decide +kernel
theorem dX10_sold_66 : decode cX10_sold 66 = .ok (.iinc 4 1, 3) := by decide +kernel
theorem dX10_sold_69 : decode cX10_sold 69 = .ok (.goto (-13), 3) := by decide +kernel
theorem dX10_sold_72 : decode cX10_sold 72 = .ok (.iload_n 3, 1) := by decide +kernel
theorem dX10_sold_73 : decode cX10_sold 73 = .ok (.ifCond .ne 12, 3) := by decide +kernel
theorem dX10_sold_76 : decode cX10_sold 76 = .ok (.aload_n 0, 1) := by decide +kernel
theorem dX10_sold_77 : decode cX10_sold 77 = .ok (.getfield 88, 3) := by decide +kernel
theorem dX10_sold_80 : decode cX10_sold 80 = .ok (.iload_n 2, 1) := by decide +kernel
theorem dX10_sold_81 : decode cX10_sold 81 = .ok (.iaload, 1) := by decide +kernel
theorem dX10_sold_82 : decode cX10_sold 82 = .ok (.goto 9, 3) := by decide +kernel
theorem dX10_sold_85 : decode cX10_sold 85 = .ok (.aload_n 0, 1) := by decide +kernel
theorem dX10_sold_86 : decode cX10_sold 86 = .ok (.getfield 92, 3) := by decide +kernel
theorem dX10_sold_89 : decode cX10_sold 89 = .ok (.iload_n 2, 1) := by decide +kernel
theorem dX10_sold_90 : decode cX10_sold 90 = .ok (.iaload, 1) := by decide +kernel
theorem dX10_sold_91 : decode cX10_sold 91 = .ok (.ireturn, 1) := by decide +kernel
theorem dX10_thief_0 : decode cX10_thief 0 = .ok (.aload_n 0, 1) := by decide +kernel
theorem dX10_thief_1 : decode cX10_thief 1 = .ok (.getfield 23, 3) := by decide +kernel
theorem dX10_thief_4 : decode cX10_thief 4 = .ok (.iload_n 1, 1) := by decide +kernel
theorem dX10_thief_5 : decode cX10_thief 5 = .ok (.invokevirtual 156, 3) := by decide +kernel
theorem dX10_thief_8 : decode cX10_thief 8 = .ok (.ifCond .eq 25, 3) := by decide +kernel
theorem dX10_thief_11 : decode cX10_thief 11 = .ok (.aload_n 0, 1) := by decide +kernel
theorem dX10_thief_12 : decode cX10_thief 12 = .ok (.getfield 23, 3) := by decide +kernel
theorem dX10_thief_15 : decode cX10_thief 15 = .ok (.iload_n 2, 1) := by decide +kernel
theorem dX10_thief_16 : decode cX10_thief 16 = .ok (.invokevirtual 156, 3) := by decide +kernel
theorem dX10_thief_19 : decode cX10_thief 19 = .ok (.ifCond .eq 14, 3) := by decide +kernel
theorem dX10_thief_22 : decode cX10_thief 22 = .ok (.aload_n 0, 1) := by decide +kernel
theorem dX10_thief_23 : decode cX10_thief 23 = .ok (.getfield 23, 3) := by decide +kernel
theorem dX10_thief_26 : decode cX10_thief 26 = .ok (.iload_n 3, 1) := by decide +kernel
theorem dX10_thief_27 : decode cX10_thief 27 = .ok (.invokevirtual 156, 3) := by decide +kernel
theorem dX10_thief_30 : decode cX10_thief 30 = .ok (.ifCond .ne 6, 3) := by decide +kernel
theorem dX10_thief_33 : decode cX10_thief 33 = .ok (.ldc 160, 2) := by decide +kernel
theorem dX10_thief_35 : decode cX10_thief 35 = .ok (.ireturn, 1) := by decide +kernel
theorem dX10_thief_36 : decode cX10_thief 36 = .ok (.iload 4, 2) := by decide +kernel
theorem dX10_thief_38 : decode cX10_thief 38 = .ok (.ifCond .lt 9, 3) := by decide +kernel
theorem dX10_thief_41 : decode cX10_thief 41 = .ok (.iload 4, 2) := by decide +kernel
theorem dX10_thief_43 : decode cX10_thief 43 = .ok (.iconst 1, 1) := by decide +kernel
theorem dX10_thief_44 : decode cX10_thief 44 = .ok (.if_icmp .le 6, 3) := by decide +kernel
theorem dX10_thief_47 : decode cX10_thief 47 = .ok (.ldc 95, 2) := by decide +kernel
theorem dX10_thief_49 : decode cX10_thief 49 = .ok (.ireturn, 1) := by decide +kernel
theorem dX10_thief_50 : decode cX10_thief 50 = .ok (.aload_n 0, 1) := by decide +kernel
theorem dX10_thief_51 : decode cX10_thief 51 = .ok (.getfield 84, 3) := by decide +kernel
theorem dX10_thief_54 : decode cX10_thief 54 = .ok (.aload_n 0, 1) := by decide +kernel
theorem dX10_thief_55 : decode cX10_thief 55 = .ok (.getfield 23, 3) := by decide +kernel
theorem dX10_thief_58 : decode cX10_thief 58 = .ok (.iload_n 3, 1) := by decide +kernel
theorem dX10_thief_59 : decode cX10_thief 59 = .ok (.invokevirtual 277, 3) := by decide +kernel
theorem dX10_thief_62 : decode cX10_thief 62 = .ok (.iload_n 1, 1) := by decide +kernel
theorem dX10_thief_63 : decode cX10_thief 63 = .ok (.iload_n 2, 1) := by decide +kernel
theorem dX10_thief_64 : decode cX10_thief 64 = .ok (.iconst 0, 1) := by decide +kernel
theorem dX10_thief_65 : decode cX10_thief 65 = .ok (.invokestatic 280, 3) := by decide +kernel
theorem dX10_thief_68 : decode cX10_thief 68 = .ok (.istore 5, 2) := by decide +kernel
theorem dX10_thief_70 : decode cX10_thief 70 = .ok (.iload 4, 2) := by decide +kernel
theorem dX10_thief_72 : decode cX10_thief 72 = .ok (.ifCond .ne 14, 3) := by decide +kernel
theorem dX10_thief_75 : decode cX10_thief 75 = .ok (.aload_n 0, 1) := by decide +kernel
theorem dX10_thief_76 : decode cX10_thief 76 = .ok (.getfield 84, 3) := by decide +kernel
theorem dX10_thief_79 : decode cX10_thief 79 = .ok (.getfield 284, 3) := by decide +kernel
theorem dX10_thief_82 : decode cX10_thief 82 = .ok (.iload 5, 2) := by decide +kernel
theorem dX10_thief_84 : decode cX10_thief 84 = .ok (.iaload, 1) := by decide +kernel
theorem dX10_thief_85 : decode cX10_thief 85 = .ok (.ireturn, 1) := by decide +kernel
theorem dX10_thief_86 : decode cX10_thief 86 = .ok (.aload_n 0, 1) := by decide +kernel
theorem dX10_thief_87 : decode cX10_thief 87 = .ok (.getfield 84, 3) := by decide +kernel
theorem dX10_thief_90 : decode cX10_thief 90 = .ok (.getfield 284, 3) := by decide +kernel
theorem dX10_thief_93 : decode cX10_thief 93 = .ok (.iload 5, 2) := by decide +kernel
theorem dX10_thief_95 : decode cX10_thief 95 = .ok (.iaload, 1) := by decide +kernel
theorem dX10_thief_96 : decode cX10_thief 96 = .ok (.ifCond .ne 7, 3) := by decide +kernel
theorem dX10_thief_99 : decode cX10_thief 99 = .ok (.iconst (-1), 1) := by decide +kernel
theorem dX10_thief_100 : decode cX10_thief 100 = .ok (.goto 17, 3) := by decide +kernel
theorem dX10_thief_103 : decode cX10_thief 103 = .ok (.aload_n 0, 1) := by decide +kernel
theorem dX10_thief_104 : decode cX10_thief 104 = .ok (.getfield 84, 3) := by decide +kernel
theorem dX10_thief_107 : decode cX10_thief 107 = .ok (.getfield 287, 3) := by decide +kernel
theorem dX10_thief_110 : decode cX10_thief 110 = .ok (.iload 5, 2) := by decide +kernel
theorem dX10_thief_112 : decode cX10_thief 112 = .ok (.iaload, 1) := by decide +kernel
theorem dX10_thief_113 : decode cX10_thief 113 = .ok (.iconst 1, 1) := by decide +kernel
theorem dX10_thief_114 : decode cX10_thief 114 = .ok (.iadd, 1) := by decide +kernel
theorem dX10_thief_115 : decode cX10_thief 115 = .ok (.iconst 2, 1) := by decide +kernel
theorem dX10_thief_116 : decode cX10_thief 116 = .ok (.idiv, 1) := by decide +kernel
theorem dX10_thief_117 : decode cX10_thief 117 = .ok (.ireturn, 1) := by decide +kernel
theorem dX10_vote_0 : decode cX10_vote 0 = .ok (.iload_n 1, 1) := by decide +kernel
theorem dX10_vote_1 : decode cX10_vote 1 = .ok (.iconst (-1), 1) := by decide +kernel
theorem dX10_vote_2 : decode cX10_vote 2 = .ok (.if_icmp .eq 17, 3) := by decide +kernel
theorem dX10_vote_5 : decode cX10_vote 5 = .ok (.aload_n 0, 1) := by decide +kernel
theorem dX10_vote_6 : decode cX10_vote 6 = .ok (.getfield 23, 3) := by decide +kernel
theorem dX10_vote_9 : decode cX10_vote 9 = .ok (.iload_n 1, 1) := by decide +kernel
theorem dX10_vote_10 : decode cX10_vote 10 = .ok (.invokevirtual 207, 3) := by decide +kernel
theorem dX10_vote_13 : decode cX10_vote 13 = .ok (.ifCond .ne 6, 3) := by decide +kernel
theorem dX10_vote_16 : decode cX10_vote 16 = .ok (.ldc 160, 2) := by decide +kernel
theorem dX10_vote_18 : decode cX10_vote 18 = .ok (.ireturn, 1) := by decide +kernel
theorem dX10_vote_19 : decode cX10_vote 19 = .ok (.aload_n 0, 1) := by decide +kernel
theorem dX10_vote_20 : decode cX10_vote 20 = .ok (.getfield 88, 3) := by decide +kernel
theorem dX10_vote_23 : decode cX10_vote 23 = .ok (.iconst 0, 1) := by decide +kernel
theorem dX10_vote_24 : decode cX10_vote 24 = .ok (.invokestatic 268, 3) := by decide +kernel
theorem dX10_vote_27 : decode cX10_vote 27 = .ok (.aload_n 0, 1) := by decide +kernel
theorem dX10_vote_28 : decode cX10_vote 28 = .ok (.iconst 0, 1) := by decide +kernel
theorem dX10_vote_29 : decode cX10_vote 29 = .ok (.invokevirtual 149, 3) := by decide +kernel
theorem dX10_vote_32 : decode cX10_vote 32 = .ok (.istore_n 2, 1) := by decide +kernel
theorem dX10_vote_33 : decode cX10_vote 33 = .ok (.iconst 0, 1) := by decide +kernel
theorem dX10_vote_34 : decode cX10_vote 34 = .ok (.istore_n 3, 1) := by decide +kernel
theorem dX10_vote_35 : decode cX10_vote 35 = .ok (.iload_n 3, 1) := by decide +kernel
theorem dX10_vote_36 : decode cX10_vote 36 = .ok (.aload_n 0, 1) := by decide +kernel
theorem dX10_vote_37 : decode cX10_vote 37 = .ok (.getfield 23, 3) := by decide +kernel
theorem dX10_vote_40 : decode cX10_vote 40 = .ok (.getfield 134, 3) := by decide +kernel
theorem dX10_vote_43 : decode cX10_vote 43 = .ok (.if_icmp .ge 69, 3) := by decide +kernel
theorem dX10_vote_46 : decode cX10_vote 46 = .ok (.iload_n 2, 1) := by decide +kernel
theorem dX10_vote_47 : decode cX10_vote 47 = .ok (.aload_n 0, 1) := by decide +kernel
theorem dX10_vote_48 : decode cX10_vote 48 = .ok (.getfield 23, 3) := by decide +kernel
theorem dX10_vote_51 : decode cX10_vote 51 = .ok (.iload_n 3, 1) := by decide +kernel
theorem dX10_vote_52 : decode cX10_vote 52 = .ok (.invokevirtual 290, 3) := by decide +kernel
theorem dX10_vote_55 : decode cX10_vote 55 = .ok (.iand, 1) := by decide +kernel
theorem dX10_vote_56 : decode cX10_vote 56 = .ok (.istore 4, 2) := by decide +kernel
theorem dX10_vote_58 : decode cX10_vote 58 = .ok (.aload_n 0, 1) := by decide +kernel
theorem dX10_vote_59 : decode cX10_vote 59 = .ok (.iload 4, 2) := by decide +kernel
theorem dX10_vote_61 : decode cX10_vote 61 = .ok (.invokevirtual 293, 3) := by decide +kernel
theorem dX10_vote_64 : decode cX10_vote 64 = .ok (.istore 5, 2) := by decide +kernel
theorem dX10_vote_66 : decode cX10_vote 66 = .ok (.iload 5, 2) := by decide +kernel
theorem dX10_vote_68 : decode cX10_vote 68 = .ok (.iconst (-1), 1) := by decide +kernel
theorem dX10_vote_69 : decode cX10_vote 69 = .ok (.if_icmp .eq 37, 3) := by decide +kernel
theorem dX10_vote_72 : decode cX10_vote 72 = .ok (.aload_n 0, 1) := by decide +kernel
theorem dX10_vote_73 : decode cX10_vote 73 = .ok (.getfield 23, 3) := by decide +kernel
theorem dX10_vote_76 : decode cX10_vote 76 = .ok (.iload 4, 2) := by decide +kernel
theorem dX10_vote_78 : decode cX10_vote 78 = .ok (.aload_n 0, 1) := by decide +kernel
theorem dX10_vote_79 : decode cX10_vote 79 = .ok (.getfield 23, 3) := by decide +kernel
theorem dX10_vote_82 : decode cX10_vote 82 = .ok (.getfield 210, 3) := by decide +kernel
theorem dX10_vote_85 : decode cX10_vote 85 = .ok (.iload 5, 2) := by decide +kernel
theorem dX10_vote_87 : decode cX10_vote 87 = .ok (.iaload, 1) := by decide +kernel
theorem dX10_vote_88 : decode cX10_vote 88 = .ok (.iand, 1) := by decide +kernel
theorem dX10_vote_89 : decode cX10_vote 89 = .ok (.invokevirtual 153, 3) := by decide +kernel
theorem dX10_vote_92 : decode cX10_vote 92 = .ok (.ifCond .le 14, 3) := by decide +kernel
theorem dX10_vote_95 : decode cX10_vote 95 = .ok (.aload_n 0, 1) := by decide +kernel
theorem dX10_vote_96 : decode cX10_vote 96 = .ok (.getfield 88, 3) := by decide +kernel
theorem dX10_vote_99 : decode cX10_vote 99 = .ok (.iload 5, 2) := by decide +kernel
theorem dX10_vote_101 : decode cX10_vote 101 = .ok (.dup2, 1) := by decide +kernel
theorem dX10_vote_102 : decode cX10_vote 102 = .ok (.iaload, 1) := by decide +kernel
theorem dX10_vote_103 : decode cX10_vote 103 = .ok (.iconst 1, 1) := by decide +kernel
theorem dX10_vote_104 : decode cX10_vote 104 = .ok (.iadd, 1) := by decide +kernel
theorem dX10_vote_105 : decode cX10_vote 105 = .ok (.iastore, 1) := by decide +kernel
theorem dX10_vote_106 : decode cX10_vote 106 = .ok (.iinc 3 1, 3) := by decide +kernel
theorem dX10_vote_109 : decode cX10_vote 109 = .ok (.goto (-74), 3) := by decide +kernel
theorem dX10_vote_112 : decode cX10_vote 112 = .ok (.iload_n 1, 1) := by decide +kernel
theorem dX10_vote_113 : decode cX10_vote 113 = .ok (.iconst (-1), 1) := by decide +kernel
theorem dX10_vote_114 : decode cX10_vote 114 = .ok (.if_icmp .ne 10, 3) := by decide +kernel
theorem dX10_vote_117 : decode cX10_vote 117 = .ok (.aload_n 0, 1) := by decide +kernel
theorem dX10_vote_118 : decode cX10_vote 118 = .ok (.invokevirtual 296, 3) := by decide +kernel
theorem dX10_vote_121 : decode cX10_vote 121 = .ok (.goto 9, 3) := by decide +kernel
theorem dX10_vote_124 : decode cX10_vote 124 = .ok (.aload_n 0, 1) := by decide +kernel
theorem dX10_vote_125 : decode cX10_vote 125 = .ok (.getfield 88, 3) := by decide +kernel
theorem dX10_vote_128 : decode cX10_vote 128 = .ok (.iload_n 1, 1) := by decide +kernel
theorem dX10_vote_129 : decode cX10_vote 129 = .ok (.iaload, 1) := by decide +kernel
theorem dX10_vote_130 : decode cX10_vote 130 = .ok (.ireturn, 1) := by decide +kernel
theorem dX10_bestWord_0 : decode cX10_bestWord 0 = .ok (.aload_n 0, 1) := by decide +kernel
theorem dX10_bestWord_1 : decode cX10_bestWord 1 = .ok (.aload_n 0, 1) := by decide +kernel
theorem dX10_bestWord_2 : decode cX10_bestWord 2 = .ok (.iconst 0, 1) := by decide +kernel
theorem dX10_bestWord_3 : decode cX10_bestWord 3 = .ok (.invokevirtual 149, 3) := by decide +kernel
theorem dX10_bestWord_6 : decode cX10_bestWord 6 = .ok (.invokevirtual 293, 3) := by decide +kernel
theorem dX10_bestWord_9 : decode cX10_bestWord 9 = .ok (.ireturn, 1) := by decide +kernel
theorem dX10_tell_0 : decode cX10_tell 0 = .ok (.aload_n 0, 1) := by decide +kernel
theorem dX10_tell_1 : decode cX10_tell 1 = .ok (.getfield 23, 3) := by decide +kernel
theorem dX10_tell_4 : decode cX10_tell 4 = .ok (.iload_n 1, 1) := by decide +kernel
theorem dX10_tell_5 : decode cX10_tell 5 = .ok (.invokevirtual 174, 3) := by decide +kernel
theorem dX10_tell_8 : decode cX10_tell 8 = .ok (.ifCond .ne 6, 3) := by decide +kernel
theorem dX10_tell_11 : decode cX10_tell 11 = .ok (.ldc 160, 2) := by decide +kernel
theorem dX10_tell_13 : decode cX10_tell 13 = .ok (.ireturn, 1) := by decide +kernel
theorem dX10_tell_14 : decode cX10_tell 14 = .ok (.iload_n 2, 1) := by decide +kernel
theorem dX10_tell_15 : decode cX10_tell 15 = .ok (.iconst 1, 1) := by decide +kernel
theorem dX10_tell_16 : decode cX10_tell 16 = .ok (.if_icmp .lt 10, 3) := by decide +kernel
theorem dX10_tell_19 : decode cX10_tell 19 = .ok (.iload_n 2, 1) := by decide +kernel
theorem dX10_tell_20 : decode cX10_tell 20 = .ok (.sipush 999, 3) := by decide +kernel
theorem dX10_tell_23 : decode cX10_tell 23 = .ok (.if_icmp .le 6, 3) := by decide +kernel
theorem dX10_tell_26 : decode cX10_tell 26 = .ok (.ldc 95, 2) := by decide +kernel
theorem dX10_tell_28 : decode cX10_tell 28 = .ok (.ireturn, 1) := by decide +kernel
theorem dX10_tell_29 : decode cX10_tell 29 = .ok (.aload_n 0, 1) := by decide +kernel
theorem dX10_tell_30 : decode cX10_tell 30 = .ok (.getfield 70, 3) := by decide +kernel
theorem dX10_tell_33 : decode cX10_tell 33 = .ok (.iload_n 1, 1) := by decide +kernel
theorem dX10_tell_34 : decode cX10_tell 34 = .ok (.iload_n 2, 1) := by decide +kernel
theorem dX10_tell_35 : decode cX10_tell 35 = .ok (.invokevirtual 300, 3) := by decide +kernel
theorem dX10_tell_38 : decode cX10_tell 38 = .ok (.ifCond .eq 13, 3) := by decide +kernel
theorem dX10_tell_41 : decode cX10_tell 41 = .ok (.aload_n 0, 1) := by decide +kernel
theorem dX10_tell_42 : decode cX10_tell 42 = .ok (.getfield 70, 3) := by decide +kernel
theorem dX10_tell_45 : decode cX10_tell 45 = .ok (.getfield 122, 3) := by decide +kernel
theorem dX10_tell_48 : decode cX10_tell 48 = .ok (.goto 5, 3) := by decide +kernel
theorem dX10_tell_51 : decode cX10_tell 51 = .ok (.ldc 103, 2) := by decide +kernel
theorem dX10_tell_53 : decode cX10_tell 53 = .ok (.ireturn, 1) := by decide +kernel
theorem dX10_days_0 : decode cX10_days 0 = .ok (.aload_n 0, 1) := by decide +kernel
theorem dX10_days_1 : decode cX10_days 1 = .ok (.getfield 70, 3) := by decide +kernel
theorem dX10_days_4 : decode cX10_days 4 = .ok (.aload_n 0, 1) := by decide +kernel
theorem dX10_days_5 : decode cX10_days 5 = .ok (.getfield 23, 3) := by decide +kernel
theorem dX10_days_8 : decode cX10_days 8 = .ok (.iconst 0, 1) := by decide +kernel
theorem dX10_days_9 : decode cX10_days 9 = .ok (.invokevirtual 302, 3) := by decide +kernel
theorem dX10_days_12 : decode cX10_days 12 = .ok (.aload_n 0, 1) := by decide +kernel
theorem dX10_days_13 : decode cX10_days 13 = .ok (.getfield 70, 3) := by decide +kernel
theorem dX10_days_16 : decode cX10_days 16 = .ok (.getfield 303, 3) := by decide +kernel
theorem dX10_days_19 : decode cX10_days 19 = .ok (.ireturn, 1) := by decide +kernel
theorem dX10_where_0 : decode cX10_where 0 = .ok (.iload_n 1, 1) := by decide +kernel
theorem dX10_where_1 : decode cX10_where 1 = .ok (.ifCond .lt 10, 3) := by decide +kernel
theorem dX10_where_4 : decode cX10_where 4 = .ok (.iload_n 1, 1) := by decide +kernel
theorem dX10_where_5 : decode cX10_where 5 = .ok (.sipush 999, 3) := by decide +kernel
theorem dX10_where_8 : decode cX10_where 8 = .ok (.if_icmp .le 6, 3) := by decide +kernel
theorem dX10_where_11 : decode cX10_where 11 = .ok (.ldc 95, 2) := by decide +kernel
theorem dX10_where_13 : decode cX10_where 13 = .ok (.ireturn, 1) := by decide +kernel
theorem dX10_where_14 : decode cX10_where 14 = .ok (.aload_n 0, 1) := by decide +kernel
theorem dX10_where_15 : decode cX10_where 15 = .ok (.getfield 70, 3) := by decide +kernel
theorem dX10_where_18 : decode cX10_where 18 = .ok (.aload_n 0, 1) := by decide +kernel
theorem dX10_where_19 : decode cX10_where 19 = .ok (.getfield 23, 3) := by decide +kernel
theorem dX10_where_22 : decode cX10_where 22 = .ok (.iload_n 1, 1) := by decide +kernel
theorem dX10_where_23 : decode cX10_where 23 = .ok (.invokevirtual 302, 3) := by decide +kernel
theorem dX10_where_26 : decode cX10_where 26 = .ok (.aload_n 0, 1) := by decide +kernel
theorem dX10_where_27 : decode cX10_where 27 = .ok (.getfield 70, 3) := by decide +kernel
theorem dX10_where_30 : decode cX10_where 30 = .ok (.getfield 306, 3) := by decide +kernel
theorem dX10_where_33 : decode cX10_where 33 = .ok (.ireturn, 1) := by decide +kernel
theorem dX10_write_0 : decode cX10_write 0 = .ok (.aload_n 0, 1) := by decide +kernel
theorem dX10_write_1 : decode cX10_write 1 = .ok (.getfield 23, 3) := by decide +kernel
theorem dX10_write_4 : decode cX10_write 4 = .ok (.iload_n 1, 1) := by decide +kernel
theorem dX10_write_5 : decode cX10_write 5 = .ok (.invokevirtual 174, 3) := by decide +kernel
theorem dX10_write_8 : decode cX10_write 8 = .ok (.ifCond .ne 6, 3) := by decide +kernel
theorem dX10_write_11 : decode cX10_write 11 = .ok (.ldc 160, 2) := by decide +kernel
theorem dX10_write_13 : decode cX10_write 13 = .ok (.ireturn, 1) := by decide +kernel
theorem dX10_write_14 : decode cX10_write 14 = .ok (.iload_n 2, 1) := by decide +kernel
theorem dX10_write_15 : decode cX10_write 15 = .ok (.ifCond .lt 10, 3) := by decide +kernel
theorem dX10_write_18 : decode cX10_write 18 = .ok (.iload_n 2, 1) := by decide +kernel
theorem dX10_write_19 : decode cX10_write 19 = .ok (.ldc_w 307, 3) := by decide +kernel
theorem dX10_write_22 : decode cX10_write 22 = .ok (.if_icmp .le 6, 3) := by decide +kernel
theorem dX10_write_25 : decode cX10_write 25 = .ok (.ldc 95, 2) := by decide +kernel
theorem dX10_write_27 : decode cX10_write 27 = .ok (.ireturn, 1) := by decide +kernel
theorem dX10_write_28 : decode cX10_write 28 = .ok (.aload_n 0, 1) := by decide +kernel
theorem dX10_write_29 : decode cX10_write 29 = .ok (.getfield 46, 3) := by decide +kernel
theorem dX10_write_32 : decode cX10_write 32 = .ok (.iload_n 1, 1) := by decide +kernel
theorem dX10_write_33 : decode cX10_write 33 = .ok (.iload_n 2, 1) := by decide +kernel
theorem dX10_write_34 : decode cX10_write 34 = .ok (.invokevirtual 308, 3) := by decide +kernel
theorem dX10_write_37 : decode cX10_write 37 = .ok (.ifCond .eq 13, 3) := by decide +kernel
theorem dX10_write_40 : decode cX10_write 40 = .ok (.aload_n 0, 1) := by decide +kernel
theorem dX10_write_41 : decode cX10_write 41 = .ok (.getfield 46, 3) := by decide +kernel
theorem dX10_write_44 : decode cX10_write 44 = .ok (.getfield 125, 3) := by decide +kernel
theorem dX10_write_47 : decode cX10_write 47 = .ok (.goto 5, 3) := by decide +kernel
theorem dX10_write_50 : decode cX10_write 50 = .ok (.ldc 103, 2) := by decide +kernel
theorem dX10_write_52 : decode cX10_write 52 = .ok (.ireturn, 1) := by decide +kernel
theorem dX10_judge_0 : decode cX10_judge 0 = .ok (.aload_n 0, 1) := by decide +kernel
theorem dX10_judge_1 : decode cX10_judge 1 = .ok (.getfield 46, 3) := by decide +kernel
theorem dX10_judge_4 : decode cX10_judge 4 = .ok (.aload_n 0, 1) := by decide +kernel
theorem dX10_judge_5 : decode cX10_judge 5 = .ok (.getfield 33, 3) := by decide +kernel
theorem dX10_judge_8 : decode cX10_judge 8 = .ok (.invokevirtual 309, 3) := by decide +kernel
theorem dX10_judge_11 : decode cX10_judge 11 = .ok (.ireturn, 1) := by decide +kernel
theorem dX10_tear_0 : decode cX10_tear 0 = .ok (.aload_n 0, 1) := by decide +kernel
theorem dX10_tear_1 : decode cX10_tear 1 = .ok (.getfield 70, 3) := by decide +kernel
theorem dX10_tear_4 : decode cX10_tear 4 = .ok (.getfield 122, 3) := by decide +kernel
theorem dX10_tear_7 : decode cX10_tear 7 = .ok (.aload_n 0, 1) := by decide +kernel
theorem dX10_tear_8 : decode cX10_tear 8 = .ok (.getfield 46, 3) := by decide +kernel
theorem dX10_tear_11 : decode cX10_tear 11 = .ok (.getfield 125, 3) := by decide +kernel
theorem dX10_tear_14 : decode cX10_tear 14 = .ok (.iadd, 1) := by decide +kernel
theorem dX10_tear_15 : decode cX10_tear 15 = .ok (.istore_n 1, 1) := by decide +kernel
theorem dX10_tear_16 : decode cX10_tear 16 = .ok (.aload_n 0, 1) := by decide +kernel
theorem dX10_tear_17 : decode cX10_tear 17 = .ok (.getfield 70, 3) := by decide +kernel
theorem dX10_tear_20 : decode cX10_tear 20 = .ok (.iconst 0, 1) := by decide +kernel
theorem dX10_tear_21 : decode cX10_tear 21 = .ok (.putfield 122, 3) := by decide +kernel
theorem dX10_tear_24 : decode cX10_tear 24 = .ok (.aload_n 0, 1) := by decide +kernel
theorem dX10_tear_25 : decode cX10_tear 25 = .ok (.getfield 46, 3) := by decide +kernel
theorem dX10_tear_28 : decode cX10_tear 28 = .ok (.iconst 0, 1) := by decide +kernel
theorem dX10_tear_29 : decode cX10_tear 29 = .ok (.putfield 125, 3) := by decide +kernel
theorem dX10_tear_32 : decode cX10_tear 32 = .ok (.iload_n 1, 1) := by decide +kernel
theorem dX10_tear_33 : decode cX10_tear 33 = .ok (.ireturn, 1) := by decide +kernel
theorem dX10_seed_0 : decode cX10_seed 0 = .ok (.iload_n 1, 1) := by decide +kernel
theorem dX10_seed_1 : decode cX10_seed 1 = .ok (.ifCond .ge 6, 3) := by decide +kernel
theorem dX10_seed_4 : decode cX10_seed 4 = .ok (.ldc 95, 2) := by decide +kernel
theorem dX10_seed_6 : decode cX10_seed 6 = .ok (.ireturn, 1) := by decide +kernel
theorem dX10_seed_7 : decode cX10_seed 7 = .ok (.aload_n 0, 1) := by decide +kernel
theorem dX10_seed_8 : decode cX10_seed 8 = .ok (.getfield 33, 3) := by decide +kernel
theorem dX10_seed_11 : decode cX10_seed 11 = .ok (.getfield 313, 3) := by decide +kernel
theorem dX10_seed_14 : decode cX10_seed 14 = .ok (.istore_n 2, 1) := by decide +kernel
theorem dX10_seed_15 : decode cX10_seed 15 = .ok (.aload_n 0, 1) := by decide +kernel
theorem dX10_seed_16 : decode cX10_seed 16 = .ok (.getfield 33, 3) := by decide +kernel
theorem dX10_seed_19 : decode cX10_seed 19 = .ok (.iload_n 1, 1) := by decide +kernel
theorem dX10_seed_20 : decode cX10_seed 20 = .ok (.putfield 313, 3) := by decide +kernel
theorem dX10_seed_23 : decode cX10_seed 23 = .ok (.iload_n 2, 1) := by decide +kernel
theorem dX10_seed_24 : decode cX10_seed 24 = .ok (.ireturn, 1) := by decide +kernel
theorem dX10_keep_0 : decode cX10_keep 0 = .ok (.iload_n 1, 1) := by decide +kernel
theorem dX10_keep_1 : decode cX10_keep 1 = .ok (.ifCond .lt 8, 3) := by decide +kernel
theorem dX10_keep_4 : decode cX10_keep 4 = .ok (.iload_n 1, 1) := by decide +kernel
theorem dX10_keep_5 : decode cX10_keep 5 = .ok (.iconst 1, 1) := by decide +kernel
theorem dX10_keep_6 : decode cX10_keep 6 = .ok (.if_icmp .le 6, 3) := by decide +kernel
theorem dX10_keep_9 : decode cX10_keep 9 = .ok (.ldc 160, 2) := by decide +kernel
theorem dX10_keep_11 : decode cX10_keep 11 = .ok (.ireturn, 1) := by decide +kernel
theorem dX10_keep_12 : decode cX10_keep 12 = .ok (.iload_n 1, 1) := by decide +kernel
theorem dX10_keep_13 : decode cX10_keep 13 = .ok (.ifCond .ne 10, 3) := by decide +kernel
theorem dX10_keep_16 : decode cX10_keep 16 = .ok (.aload_n 0, 1) := by decide +kernel
theorem dX10_keep_17 : decode cX10_keep 17 = .ok (.getfield 37, 3) := by decide +kernel
theorem dX10_keep_20 : decode cX10_keep 20 = .ok (.goto 7, 3) := by decide +kernel
theorem dX10_keep_23 : decode cX10_keep 23 = .ok (.aload_n 0, 1) := by decide +kernel
theorem dX10_keep_24 : decode cX10_keep 24 = .ok (.getfield 40, 3) := by decide +kernel
theorem dX10_keep_27 : decode cX10_keep 27 = .ok (.astore_n 2, 1) := by decide +kernel
theorem dX10_keep_28 : decode cX10_keep 28 = .ok (.aload_n 2, 1) := by decide +kernel
theorem dX10_keep_29 : decode cX10_keep 29 = .ok (.aload_n 0, 1) := by decide +kernel
theorem dX10_keep_30 : decode cX10_keep 30 = .ok (.getfield 33, 3) := by decide +kernel
theorem dX10_keep_33 : decode cX10_keep 33 = .ok (.invokevirtual 316, 3) := by decide +kernel
theorem dX10_keep_36 : decode cX10_keep 36 = .ok (.aload_n 2, 1) := by decide +kernel
theorem dX10_keep_37 : decode cX10_keep 37 = .ok (.iconst 1, 1) := by decide +kernel
theorem dX10_keep_38 : decode cX10_keep 38 = .ok (.putfield 118, 3) := by decide +kernel
theorem dX10_keep_41 : decode cX10_keep 41 = .ok (.iconst 1, 1) := by decide +kernel
theorem dX10_keep_42 : decode cX10_keep 42 = .ok (.ireturn, 1) := by decide +kernel
theorem dX10_goBack_0 : decode cX10_goBack 0 = .ok (.iload_n 1, 1) := by decide +kernel
theorem dX10_goBack_1 : decode cX10_goBack 1 = .ok (.ifCond .lt 8, 3) := by decide +kernel
theorem dX10_goBack_4 : decode cX10_goBack 4 = .ok (.iload_n 1, 1) := by decide +kernel
theorem dX10_goBack_5 : decode cX10_goBack 5 = .ok (.iconst 1, 1) := by decide +kernel
theorem dX10_goBack_6 : decode cX10_goBack 6 = .ok (.if_icmp .le 6, 3) := by decide +kernel
theorem dX10_goBack_9 : decode cX10_goBack 9 = .ok (.ldc 160, 2) := by decide +kernel
theorem dX10_goBack_11 : decode cX10_goBack 11 = .ok (.ireturn, 1) := by decide +kernel
theorem dX10_goBack_12 : decode cX10_goBack 12 = .ok (.iload_n 1, 1) := by decide +kernel
theorem dX10_goBack_13 : decode cX10_goBack 13 = .ok (.ifCond .ne 10, 3) := by decide +kernel
theorem dX10_goBack_16 : decode cX10_goBack 16 = .ok (.aload_n 0, 1) := by decide +kernel
theorem dX10_goBack_17 : decode cX10_goBack 17 = .ok (.getfield 37, 3) := by decide +kernel
theorem dX10_goBack_20 : decode cX10_goBack 20 = .ok (.goto 7, 3) := by decide +kernel
theorem dX10_goBack_23 : decode cX10_goBack 23 = .ok (.aload_n 0, 1) := by decide +kernel
theorem dX10_goBack_24 : decode cX10_goBack 24 = .ok (.getfield 40, 3) := by decide +kernel
theorem dX10_goBack_27 : decode cX10_goBack 27 = .ok (.astore_n 2, 1) := by decide +kernel
theorem dX10_goBack_28 : decode cX10_goBack 28 = .ok (.aload_n 2, 1) := by decide +kernel
theorem dX10_goBack_29 : decode cX10_goBack 29 = .ok (.getfield 118, 3) := by decide +kernel
theorem dX10_goBack_32 : decode cX10_goBack 32 = .ok (.ifCond .ne 6, 3) := by decide +kernel
theorem dX10_goBack_35 : decode cX10_goBack 35 = .ok (.ldc 217, 2) := by decide +kernel
theorem dX10_goBack_37 : decode cX10_goBack 37 = .ok (.ireturn, 1) := by decide +kernel
theorem dX10_goBack_38 : decode cX10_goBack 38 = .ok (.aload_n 0, 1) := by decide +kernel
theorem dX10_goBack_39 : decode cX10_goBack 39 = .ok (.getfield 33, 3) := by decide +kernel
theorem dX10_goBack_42 : decode cX10_goBack 42 = .ok (.aload_n 2, 1) := by decide +kernel
theorem dX10_goBack_43 : decode cX10_goBack 43 = .ok (.invokevirtual 316, 3) := by decide +kernel
theorem dX10_goBack_46 : decode cX10_goBack 46 = .ok (.iconst 1, 1) := by decide +kernel
theorem dX10_goBack_47 : decode cX10_goBack 47 = .ok (.ireturn, 1) := by decide +kernel
theorem dX10_deedsThatAre_0 : decode cX10_deedsThatAre 0 = .ok (.iconst 0, 1) := by decide +kernel
theorem dX10_deedsThatAre_1 : decode cX10_deedsThatAre 1 = .ok (.istore_n 2, 1) := by decide +kernel
theorem dX10_deedsThatAre_2 : decode cX10_deedsThatAre 2 = .ok (.iconst 0, 1) := by decide +kernel
theorem dX10_deedsThatAre_3 : decode cX10_deedsThatAre 3 = .ok (.istore_n 3, 1) := by decide +kernel
theorem dX10_deedsThatAre_4 : decode cX10_deedsThatAre 4 = .ok (.iload_n 3, 1) := by decide +kernel
theorem dX10_deedsThatAre_5 : decode cX10_deedsThatAre 5 = .ok (.aload_n 0, 1) := by decide +kernel
theorem dX10_deedsThatAre_6 : decode cX10_deedsThatAre 6 = .ok (.getfield 23, 3) := by decide +kernel
theorem dX10_deedsThatAre_9 : decode cX10_deedsThatAre 9 = .ok (.getfield 128, 3) := by decide +kernel
theorem dX10_deedsThatAre_12 : decode cX10_deedsThatAre 12 = .ok (.if_icmp .ge 31, 3) := by decide +kernel
theorem dX10_deedsThatAre_15 : decode cX10_deedsThatAre 15 = .ok (.aload_n 0, 1) := by decide +kernel
theorem dX10_deedsThatAre_16 : decode cX10_deedsThatAre 16 = .ok (.getfield 33, 3) := by decide +kernel
theorem dX10_deedsThatAre_19 : decode cX10_deedsThatAre 19 = .ok (.aload_n 0, 1) := by decide +kernel
theorem dX10_deedsThatAre_20 : decode cX10_deedsThatAre 20 = .ok (.getfield 23, 3) := by decide +kernel
theorem dX10_deedsThatAre_23 : decode cX10_deedsThatAre 23 = .ok (.iload_n 3, 1) := by decide +kernel
theorem dX10_deedsThatAre_24 : decode cX10_deedsThatAre 24 = .ok (.invokevirtual 192, 3) := by decide +kernel
theorem dX10_deedsThatAre_27 : decode cX10_deedsThatAre 27 = .ok (.iload_n 1, 1) := by decide +kernel
theorem dX10_deedsThatAre_28 : decode cX10_deedsThatAre 28 = .ok (.if_icmp .ne 9, 3) := by decide +kernel
theorem dX10_deedsThatAre_31 : decode cX10_deedsThatAre 31 = .ok (.iload_n 2, 1) := by decide +kernel
theorem dX10_deedsThatAre_32 : decode cX10_deedsThatAre 32 = .ok (.iconst 1, 1) := by decide +kernel
theorem dX10_deedsThatAre_33 : decode cX10_deedsThatAre 33 = .ok (.iload_n 3, 1) := by decide +kernel
theorem dX10_deedsThatAre_34 : decode cX10_deedsThatAre 34 = .ok (.ishl, 1) := by decide +kernel
theorem dX10_deedsThatAre_35 : decode cX10_deedsThatAre 35 = .ok (.ior, 1) := by decide +kernel
theorem dX10_deedsThatAre_36 : decode cX10_deedsThatAre 36 = .ok (.istore_n 2, 1) := by decide +kernel
theorem dX10_deedsThatAre_37 : decode cX10_deedsThatAre 37 = .ok (.iinc 3 1, 3) := by decide +kernel
theorem dX10_deedsThatAre_40 : decode cX10_deedsThatAre 40 = .ok (.goto (-36), 3) := by decide +kernel
theorem dX10_deedsThatAre_43 : decode cX10_deedsThatAre 43 = .ok (.iload_n 2, 1) := by decide +kernel
theorem dX10_deedsThatAre_44 : decode cX10_deedsThatAre 44 = .ok (.ireturn, 1) := by decide +kernel
theorem dX10_driftOnce_0 : decode cX10_driftOnce 0 = .ok (.aload_n 0, 1) := by decide +kernel
theorem dX10_driftOnce_1 : decode cX10_driftOnce 1 = .ok (.getfield 33, 3) := by decide +kernel
theorem dX10_driftOnce_4 : decode cX10_driftOnce 4 = .ok (.aload_n 0, 1) := by decide +kernel
theorem dX10_driftOnce_5 : decode cX10_driftOnce 5 = .ok (.getfield 23, 3) := by decide +kernel
theorem dX10_driftOnce_8 : decode cX10_driftOnce 8 = .ok (.getfield 134, 3) := by decide +kernel
theorem dX10_driftOnce_11 : decode cX10_driftOnce 11 = .ok (.invokevirtual 320, 3) := by decide +kernel
theorem dX10_driftOnce_14 : decode cX10_driftOnce 14 = .ok (.istore_n 1, 1) := by decide +kernel
theorem dX10_driftOnce_15 : decode cX10_driftOnce 15 = .ok (.aload_n 0, 1) := by decide +kernel
theorem dX10_driftOnce_16 : decode cX10_driftOnce 16 = .ok (.getfield 33, 3) := by decide +kernel
theorem dX10_driftOnce_19 : decode cX10_driftOnce 19 = .ok (.aload_n 0, 1) := by decide +kernel
theorem dX10_driftOnce_20 : decode cX10_driftOnce 20 = .ok (.getfield 23, 3) := by decide +kernel
theorem dX10_driftOnce_23 : decode cX10_driftOnce 23 = .ok (.iload_n 1, 1) := by decide +kernel
theorem dX10_driftOnce_24 : decode cX10_driftOnce 24 = .ok (.invokevirtual 213, 3) := by decide +kernel
theorem dX10_driftOnce_27 : decode cX10_driftOnce 27 = .ok (.ifCond .eq 15, 3) := by decide +kernel
theorem dX10_driftOnce_30 : decode cX10_driftOnce 30 = .ok (.aload_n 0, 1) := by decide +kernel
theorem dX10_driftOnce_31 : decode cX10_driftOnce 31 = .ok (.getfield 33, 3) := by decide +kernel
theorem dX10_driftOnce_34 : decode cX10_driftOnce 34 = .ok (.aload_n 0, 1) := by decide +kernel
theorem dX10_driftOnce_35 : decode cX10_driftOnce 35 = .ok (.getfield 23, 3) := by decide +kernel
theorem dX10_driftOnce_38 : decode cX10_driftOnce 38 = .ok (.iload_n 1, 1) := by decide +kernel
theorem dX10_driftOnce_39 : decode cX10_driftOnce 39 = .ok (.invokevirtual 219, 3) := by decide +kernel
theorem dX10_driftOnce_42 : decode cX10_driftOnce 42 = .ok (.aload_n 0, 1) := by decide +kernel
theorem dX10_driftOnce_43 : decode cX10_driftOnce 43 = .ok (.iload_n 1, 1) := by decide +kernel
theorem dX10_driftOnce_44 : decode cX10_driftOnce 44 = .ok (.invokevirtual 323, 3) := by decide +kernel
theorem dX10_driftOnce_47 : decode cX10_driftOnce 47 = .ok (.istore_n 2, 1) := by decide +kernel
theorem dX10_driftOnce_48 : decode cX10_driftOnce 48 = .ok (.iload_n 2, 1) := by decide +kernel
theorem dX10_driftOnce_49 : decode cX10_driftOnce 49 = .ok (.iconst (-1), 1) := by decide +kernel
theorem dX10_driftOnce_50 : decode cX10_driftOnce 50 = .ok (.if_icmp .eq 29, 3) := by decide +kernel
theorem dX10_driftOnce_53 : decode cX10_driftOnce 53 = .ok (.aload_n 0, 1) := by decide +kernel
theorem dX10_driftOnce_54 : decode cX10_driftOnce 54 = .ok (.getfield 33, 3) := by decide +kernel
theorem dX10_driftOnce_57 : decode cX10_driftOnce 57 = .ok (.getfield 146, 3) := by decide +kernel
theorem dX10_driftOnce_60 : decode cX10_driftOnce 60 = .ok (.iload_n 1, 1) := by decide +kernel
theorem dX10_driftOnce_61 : decode cX10_driftOnce 61 = .ok (.if_icmp .ne 18, 3) := by decide +kernel
theorem dX10_driftOnce_64 : decode cX10_driftOnce 64 = .ok (.aload_n 0, 1) := by decide +kernel
theorem dX10_driftOnce_65 : decode cX10_driftOnce 65 = .ok (.getfield 33, 3) := by decide +kernel
theorem dX10_driftOnce_68 : decode cX10_driftOnce 68 = .ok (.aload_n 0, 1) := by decide +kernel
theorem dX10_driftOnce_69 : decode cX10_driftOnce 69 = .ok (.getfield 23, 3) := by decide +kernel
theorem dX10_driftOnce_72 : decode cX10_driftOnce 72 = .ok (.iload_n 2, 1) := by decide +kernel
theorem dX10_driftOnce_73 : decode cX10_driftOnce 73 = .ok (.invokevirtual 223, 3) := by decide +kernel
theorem dX10_driftOnce_76 : decode cX10_driftOnce 76 = .ok (.goto 16, 3) := by decide +kernel
theorem dX10_driftOnce_79 : decode cX10_driftOnce 79 = .ok (.aload_n 0, 1) := by decide +kernel
theorem dX10_driftOnce_80 : decode cX10_driftOnce 80 = .ok (.getfield 33, 3) := by decide +kernel
theorem dX10_driftOnce_83 : decode cX10_driftOnce 83 = .ok (.dup, 1) := by decide +kernel
theorem dX10_driftOnce_84 : decode cX10_driftOnce 84 = .ok (.getfield 140, 3) := by decide +kernel
theorem dX10_driftOnce_87 : decode cX10_driftOnce 87 = .ok (.iconst 1, 1) := by decide +kernel
theorem dX10_driftOnce_88 : decode cX10_driftOnce 88 = .ok (.iadd, 1) := by decide +kernel
theorem dX10_driftOnce_89 : decode cX10_driftOnce 89 = .ok (.putfield 140, 3) := by decide +kernel
theorem dX10_driftOnce_92 : decode cX10_driftOnce 92 = .ok (.return_, 1) := by decide +kernel
theorem dX10_firstOpenOf_0 : decode cX10_firstOpenOf 0 = .ok (.iconst 0, 1) := by decide +kernel
theorem dX10_firstOpenOf_1 : decode cX10_firstOpenOf 1 = .ok (.istore_n 2, 1) := by decide +kernel
theorem dX10_firstOpenOf_2 : decode cX10_firstOpenOf 2 = .ok (.iload_n 2, 1) := by decide +kernel
theorem dX10_firstOpenOf_3 : decode cX10_firstOpenOf 3 = .ok (.aload_n 0, 1) := by decide +kernel
theorem dX10_firstOpenOf_4 : decode cX10_firstOpenOf 4 = .ok (.getfield 23, 3) := by decide +kernel
theorem dX10_firstOpenOf_7 : decode cX10_firstOpenOf 7 = .ok (.getfield 128, 3) := by decide +kernel
theorem dX10_firstOpenOf_10 : decode cX10_firstOpenOf 10 = .ok (.if_icmp .ge 39, 3) := by decide +kernel
theorem dX10_firstOpenOf_13 : decode cX10_firstOpenOf 13 = .ok (.aload_n 0, 1) := by decide +kernel
theorem dX10_firstOpenOf_14 : decode cX10_firstOpenOf 14 = .ok (.getfield 23, 3) := by decide +kernel
theorem dX10_firstOpenOf_17 : decode cX10_firstOpenOf 17 = .ok (.getfield 177, 3) := by decide +kernel
theorem dX10_firstOpenOf_20 : decode cX10_firstOpenOf 20 = .ok (.iload_n 2, 1) := by decide +kernel
theorem dX10_firstOpenOf_21 : decode cX10_firstOpenOf 21 = .ok (.iaload, 1) := by decide +kernel
theorem dX10_firstOpenOf_22 : decode cX10_firstOpenOf 22 = .ok (.iload_n 1, 1) := by decide +kernel
theorem dX10_firstOpenOf_23 : decode cX10_firstOpenOf 23 = .ok (.if_icmp .ne 20, 3) := by decide +kernel
theorem dX10_firstOpenOf_26 : decode cX10_firstOpenOf 26 = .ok (.aload_n 0, 1) := by decide +kernel
theorem dX10_firstOpenOf_27 : decode cX10_firstOpenOf 27 = .ok (.getfield 33, 3) := by decide +kernel
theorem dX10_firstOpenOf_30 : decode cX10_firstOpenOf 30 = .ok (.aload_n 0, 1) := by decide +kernel
theorem dX10_firstOpenOf_31 : decode cX10_firstOpenOf 31 = .ok (.getfield 23, 3) := by decide +kernel
theorem dX10_firstOpenOf_34 : decode cX10_firstOpenOf 34 = .ok (.iload_n 2, 1) := by decide +kernel
theorem dX10_firstOpenOf_35 : decode cX10_firstOpenOf 35 = .ok (.invokevirtual 192, 3) := by decide +kernel
theorem dX10_firstOpenOf_38 : decode cX10_firstOpenOf 38 = .ok (.ifCond .ne 5, 3) := by decide +kernel
theorem dX10_firstOpenOf_41 : decode cX10_firstOpenOf 41 = .ok (.iload_n 2, 1) := by decide +kernel
theorem dX10_firstOpenOf_42 : decode cX10_firstOpenOf 42 = .ok (.ireturn, 1) := by decide +kernel
theorem dX10_firstOpenOf_43 : decode cX10_firstOpenOf 43 = .ok (.iinc 2 1, 3) := by decide +kernel
theorem dX10_firstOpenOf_46 : decode cX10_firstOpenOf 46 = .ok (.goto (-44), 3) := by decide +kernel
theorem dX10_firstOpenOf_49 : decode cX10_firstOpenOf 49 = .ok (.iconst (-1), 1) := by decide +kernel
theorem dX10_firstOpenOf_50 : decode cX10_firstOpenOf 50 = .ok (.ireturn, 1) := by decide +kernel
theorem dX10_mostBeside_0 : decode cX10_mostBeside 0 = .ok (.iconst 0, 1) := by decide +kernel
theorem dX10_mostBeside_1 : decode cX10_mostBeside 1 = .ok (.istore_n 3, 1) := by decide +kernel
theorem dX10_mostBeside_2 : decode cX10_mostBeside 2 = .ok (.iconst 0, 1) := by decide +kernel
theorem dX10_mostBeside_3 : decode cX10_mostBeside 3 = .ok (.istore 4, 2) := by decide +kernel
theorem dX10_mostBeside_5 : decode cX10_mostBeside 5 = .ok (.iload 4, 2) := by decide +kernel
theorem dX10_mostBeside_7 : decode cX10_mostBeside 7 = .ok (.iload_n 2, 1) := by decide +kernel
theorem dX10_mostBeside_8 : decode cX10_mostBeside 8 = .ok (.if_icmp .gt 43, 3) := by decide +kernel
theorem dX10_mostBeside_11 : decode cX10_mostBeside 11 = .ok (.iload 4, 2) := by decide +kernel
theorem dX10_mostBeside_13 : decode cX10_mostBeside 13 = .ok (.iload_n 1, 1) := by decide +kernel
theorem dX10_mostBeside_14 : decode cX10_mostBeside 14 = .ok (.iand, 1) := by decide +kernel
theorem dX10_mostBeside_15 : decode cX10_mostBeside 15 = .ok (.ifCond .ne 30, 3) := by decide +kernel
theorem dX10_mostBeside_18 : decode cX10_mostBeside 18 = .ok (.aload_n 0, 1) := by decide +kernel
theorem dX10_mostBeside_19 : decode cX10_mostBeside 19 = .ok (.getfield 64, 3) := by decide +kernel
theorem dX10_mostBeside_22 : decode cX10_mostBeside 22 = .ok (.getfield 245, 3) := by decide +kernel
theorem dX10_mostBeside_25 : decode cX10_mostBeside 25 = .ok (.iload 4, 2) := by decide +kernel
theorem dX10_mostBeside_27 : decode cX10_mostBeside 27 = .ok (.baload, 1) := by decide +kernel
theorem dX10_mostBeside_28 : decode cX10_mostBeside 28 = .ok (.ifCond .eq 17, 3) := by decide +kernel
theorem dX10_mostBeside_31 : decode cX10_mostBeside 31 = .ok (.iload_n 3, 1) := by decide +kernel
theorem dX10_mostBeside_32 : decode cX10_mostBeside 32 = .ok (.aload_n 0, 1) := by decide +kernel
theorem dX10_mostBeside_33 : decode cX10_mostBeside 33 = .ok (.getfield 23, 3) := by decide +kernel
theorem dX10_mostBeside_36 : decode cX10_mostBeside 36 = .ok (.iload 4, 2) := by decide +kernel
theorem dX10_mostBeside_38 : decode cX10_mostBeside 38 = .ok (.invokevirtual 153, 3) := by decide +kernel
theorem dX10_mostBeside_41 : decode cX10_mostBeside 41 = .ok (.invokestatic 252, 3) := by decide +kernel
theorem dX10_mostBeside_44 : decode cX10_mostBeside 44 = .ok (.istore_n 3, 1) := by decide +kernel
theorem dX10_mostBeside_45 : decode cX10_mostBeside 45 = .ok (.iinc 4 1, 3) := by decide +kernel
theorem dX10_mostBeside_48 : decode cX10_mostBeside 48 = .ok (.goto (-43), 3) := by decide +kernel
theorem dX10_mostBeside_51 : decode cX10_mostBeside 51 = .ok (.iload_n 3, 1) := by decide +kernel
theorem dX10_mostBeside_52 : decode cX10_mostBeside 52 = .ok (.ireturn, 1) := by decide +kernel
theorem dX10_sellMinute_0 : decode cX10_sellMinute 0 = .ok (.aload_n 0, 1) := by decide +kernel
theorem dX10_sellMinute_1 : decode cX10_sellMinute 1 = .ok (.iconst (-1), 1) := by decide +kernel
theorem dX10_sellMinute_2 : decode cX10_sellMinute 2 = .ok (.invokevirtual 326, 3) := by decide +kernel
theorem dX10_sellMinute_5 : decode cX10_sellMinute 5 = .ok (.istore_n 1, 1) := by decide +kernel
theorem dX10_sellMinute_6 : decode cX10_sellMinute 6 = .ok (.iload_n 1, 1) := by decide +kernel
theorem dX10_sellMinute_7 : decode cX10_sellMinute 7 = .ok (.iconst (-1), 1) := by decide +kernel
theorem dX10_sellMinute_8 : decode cX10_sellMinute 8 = .ok (.if_icmp .ne 4, 3) := by decide +kernel
theorem dX10_sellMinute_11 : decode cX10_sellMinute 11 = .ok (.return_, 1) := by decide +kernel
theorem dX10_sellMinute_12 : decode cX10_sellMinute 12 = .ok (.aload_n 0, 1) := by decide +kernel
theorem dX10_sellMinute_13 : decode cX10_sellMinute 13 = .ok (.iload_n 1, 1) := by decide +kernel
theorem dX10_sellMinute_14 : decode cX10_sellMinute 14 = .ok (.invokevirtual 326, 3) := by decide +kernel
theorem dX10_sellMinute_17 : decode cX10_sellMinute 17 = .ok (.istore_n 2, 1) := by decide +kernel
theorem dX10_sellMinute_18 : decode cX10_sellMinute 18 = .ok (.aload_n 0, 1) := by decide +kernel
theorem dX10_sellMinute_19 : decode cX10_sellMinute 19 = .ok (.getfield 92, 3) := by decide +kernel
theorem dX10_sellMinute_22 : decode cX10_sellMinute 22 = .ok (.iload_n 1, 1) := by decide +kernel
theorem dX10_sellMinute_23 : decode cX10_sellMinute 23 = .ok (.dup2, 1) := by decide +kernel
theorem dX10_sellMinute_24 : decode cX10_sellMinute 24 = .ok (.iaload, 1) := by decide +kernel
theorem dX10_sellMinute_25 : decode cX10_sellMinute 25 = .ok (.iload_n 2, 1) := by decide +kernel
theorem dX10_sellMinute_26 : decode cX10_sellMinute 26 = .ok (.iconst (-1), 1) := by decide +kernel
theorem dX10_sellMinute_27 : decode cX10_sellMinute 27 = .ok (.if_icmp .ne 7, 3) := by decide +kernel
theorem dX10_sellMinute_30 : decode cX10_sellMinute 30 = .ok (.iconst 0, 1) := by decide +kernel
theorem dX10_sellMinute_31 : decode cX10_sellMinute 31 = .ok (.goto 8, 3) := by decide +kernel
theorem dX10_sellMinute_34 : decode cX10_sellMinute 34 = .ok (.aload_n 0, 1) := by decide +kernel
theorem dX10_sellMinute_35 : decode cX10_sellMinute 35 = .ok (.iload_n 2, 1) := by decide +kernel
theorem dX10_sellMinute_36 : decode cX10_sellMinute 36 = .ok (.invokevirtual 329, 3) := by decide +kernel
theorem dX10_sellMinute_39 : decode cX10_sellMinute 39 = .ok (.iadd, 1) := by decide +kernel
theorem dX10_sellMinute_40 : decode cX10_sellMinute 40 = .ok (.iastore, 1) := by decide +kernel
theorem dX10_sellMinute_41 : decode cX10_sellMinute 41 = .ok (.aload_n 0, 1) := by decide +kernel
theorem dX10_sellMinute_42 : decode cX10_sellMinute 42 = .ok (.getfield 88, 3) := by decide +kernel
theorem dX10_sellMinute_45 : decode cX10_sellMinute 45 = .ok (.iload_n 1, 1) := by decide +kernel
theorem dX10_sellMinute_46 : decode cX10_sellMinute 46 = .ok (.dup2, 1) := by decide +kernel
theorem dX10_sellMinute_47 : decode cX10_sellMinute 47 = .ok (.iaload, 1) := by decide +kernel
theorem dX10_sellMinute_48 : decode cX10_sellMinute 48 = .ok (.iconst 1, 1) := by decide +kernel
theorem dX10_sellMinute_49 : decode cX10_sellMinute 49 = .ok (.iadd, 1) := by decide +kernel
theorem dX10_sellMinute_50 : decode cX10_sellMinute 50 = .ok (.iastore, 1) := by decide +kernel
theorem dX10_sellMinute_51 : decode cX10_sellMinute 51 = .ok (.return_, 1) := by decide +kernel
theorem dX10_bidOf_0 : decode cX10_bidOf 0 = .ok (.iconst 0, 1) := by decide +kernel
theorem dX10_bidOf_1 : decode cX10_bidOf 1 = .ok (.aload_n 0, 1) := by decide +kernel
theorem dX10_bidOf_2 : decode cX10_bidOf 2 = .ok (.getfield 23, 3) := by decide +kernel
theorem dX10_bidOf_5 : decode cX10_bidOf 5 = .ok (.getfield 171, 3) := by decide +kernel
theorem dX10_bidOf_8 : decode cX10_bidOf 8 = .ok (.iload_n 1, 1) := by decide +kernel
theorem dX10_bidOf_9 : decode cX10_bidOf 9 = .ok (.iaload, 1) := by decide +kernel
theorem dX10_bidOf_10 : decode cX10_bidOf 10 = .ok (.aload_n 0, 1) := by decide +kernel
theorem dX10_bidOf_11 : decode cX10_bidOf 11 = .ok (.getfield 88, 3) := by decide +kernel
theorem dX10_bidOf_14 : decode cX10_bidOf 14 = .ok (.iload_n 1, 1) := by decide +kernel
theorem dX10_bidOf_15 : decode cX10_bidOf 15 = .ok (.iaload, 1) := by decide +kernel
theorem dX10_bidOf_16 : decode cX10_bidOf 16 = .ok (.isub, 1) := by decide +kernel
theorem dX10_bidOf_17 : decode cX10_bidOf 17 = .ok (.invokestatic 252, 3) := by decide +kernel
theorem dX10_bidOf_20 : decode cX10_bidOf 20 = .ok (.ireturn, 1) := by decide +kernel
theorem dX10_highestBidder_0 : decode cX10_highestBidder 0 = .ok (.iconst (-1), 1) := by decide +kernel
theorem dX10_highestBidder_1 : decode cX10_highestBidder 1 = .ok (.istore_n 2, 1) := by decide +kernel
theorem dX10_highestBidder_2 : decode cX10_highestBidder 2 = .ok (.iconst 0, 1) := by decide +kernel
theorem dX10_highestBidder_3 : decode cX10_highestBidder 3 = .ok (.istore_n 3, 1) := by decide +kernel
theorem dX10_highestBidder_4 : decode cX10_highestBidder 4 = .ok (.iload_n 3, 1) := by decide +kernel
theorem dX10_highestBidder_5 : decode cX10_highestBidder 5 = .ok (.aload_n 0, 1) := by decide +kernel
theorem dX10_highestBidder_6 : decode cX10_highestBidder 6 = .ok (.getfield 23, 3) := by decide +kernel
theorem dX10_highestBidder_9 : decode cX10_highestBidder 9 = .ok (.getfield 134, 3) := by decide +kernel
theorem dX10_highestBidder_12 : decode cX10_highestBidder 12 = .ok (.if_icmp .ge 34, 3) := by decide +kernel
theorem dX10_highestBidder_15 : decode cX10_highestBidder 15 = .ok (.iload_n 3, 1) := by decide +kernel
theorem dX10_highestBidder_16 : decode cX10_highestBidder 16 = .ok (.iload_n 1, 1) := by decide +kernel
theorem dX10_highestBidder_17 : decode cX10_highestBidder 17 = .ok (.if_icmp .eq 23, 3) := by decide +kernel
theorem dX10_highestBidder_20 : decode cX10_highestBidder 20 = .ok (.iload_n 2, 1) := by decide +kernel
theorem dX10_highestBidder_21 : decode cX10_highestBidder 21 = .ok (.iconst (-1), 1) := by decide +kernel
theorem dX10_highestBidder_22 : decode cX10_highestBidder 22 = .ok (.if_icmp .eq 16, 3) := by decide +kernel
theorem dX10_highestBidder_25 : decode cX10_highestBidder 25 = .ok (.aload_n 0, 1) := by decide +kernel
theorem dX10_highestBidder_26 : decode cX10_highestBidder 26 = .ok (.iload_n 3, 1) := by decide +kernel
theorem dX10_highestBidder_27 : decode cX10_highestBidder 27 = .ok (.invokevirtual 329, 3) := by decide +kernel
theorem dX10_highestBidder_30 : decode cX10_highestBidder 30 = .ok (.aload_n 0, 1) := by decide +kernel
theorem dX10_highestBidder_31 : decode cX10_highestBidder 31 = .ok (.iload_n 2, 1) := by decide +kernel
theorem dX10_highestBidder_32 : decode cX10_highestBidder 32 = .ok (.invokevirtual 329, 3) := by decide +kernel
theorem dX10_highestBidder_35 : decode cX10_highestBidder 35 = .ok (.if_icmp .le 5, 3) := by decide +kernel
theorem dX10_highestBidder_38 : decode cX10_highestBidder 38 = .ok (.iload_n 3, 1) := by decide +kernel
theorem dX10_highestBidder_39 : decode cX10_highestBidder 39 = .ok (.istore_n 2, 1) := by decide +kernel
theorem dX10_highestBidder_40 : decode cX10_highestBidder 40 = .ok (.iinc 3 1, 3) := by decide +kernel
theorem dX10_highestBidder_43 : decode cX10_highestBidder 43 = .ok (.goto (-39), 3) := by decide +kernel
theorem dX10_highestBidder_46 : decode cX10_highestBidder 46 = .ok (.iload_n 2, 1) := by decide +kernel
theorem dX10_highestBidder_47 : decode cX10_highestBidder 47 = .ok (.ireturn, 1) := by decide +kernel
theorem dX10_wordForMost_0 : decode cX10_wordForMost 0 = .ok (.iconst (-1), 1) := by decide +kernel
theorem dX10_wordForMost_1 : decode cX10_wordForMost 1 = .ok (.istore_n 2, 1) := by decide +kernel
theorem dX10_wordForMost_2 : decode cX10_wordForMost 2 = .ok (.iconst (-1), 1) := by decide +kernel
theorem dX10_wordForMost_3 : decode cX10_wordForMost 3 = .ok (.istore_n 3, 1) := by decide +kernel
theorem dX10_wordForMost_4 : decode cX10_wordForMost 4 = .ok (.iconst 0, 1) := by decide +kernel
theorem dX10_wordForMost_5 : decode cX10_wordForMost 5 = .ok (.istore 4, 2) := by decide +kernel
theorem dX10_wordForMost_7 : decode cX10_wordForMost 7 = .ok (.iload 4, 2) := by decide +kernel
theorem dX10_wordForMost_9 : decode cX10_wordForMost 9 = .ok (.aload_n 0, 1) := by decide +kernel
theorem dX10_wordForMost_10 : decode cX10_wordForMost 10 = .ok (.getfield 23, 3) := by decide +kernel
theorem dX10_wordForMost_13 : decode cX10_wordForMost 13 = .ok (.getfield 137, 3) := by decide +kernel
theorem dX10_wordForMost_16 : decode cX10_wordForMost 16 = .ok (.if_icmp .ge 42, 3) := by decide +kernel
theorem dX10_wordForMost_19 : decode cX10_wordForMost 19 = .ok (.aload_n 0, 1) := by decide +kernel
theorem dX10_wordForMost_20 : decode cX10_wordForMost 20 = .ok (.getfield 23, 3) := by decide +kernel
theorem dX10_wordForMost_23 : decode cX10_wordForMost 23 = .ok (.iload_n 1, 1) := by decide +kernel
theorem dX10_wordForMost_24 : decode cX10_wordForMost 24 = .ok (.aload_n 0, 1) := by decide +kernel
theorem dX10_wordForMost_25 : decode cX10_wordForMost 25 = .ok (.getfield 23, 3) := by decide +kernel
theorem dX10_wordForMost_28 : decode cX10_wordForMost 28 = .ok (.getfield 210, 3) := by decide +kernel
theorem dX10_wordForMost_31 : decode cX10_wordForMost 31 = .ok (.iload 4, 2) := by decide +kernel
theorem dX10_wordForMost_33 : decode cX10_wordForMost 33 = .ok (.iaload, 1) := by decide +kernel
theorem dX10_wordForMost_34 : decode cX10_wordForMost 34 = .ok (.iand, 1) := by decide +kernel
theorem dX10_wordForMost_35 : decode cX10_wordForMost 35 = .ok (.invokevirtual 153, 3) := by decide +kernel
theorem dX10_wordForMost_38 : decode cX10_wordForMost 38 = .ok (.istore 5, 2) := by decide +kernel
theorem dX10_wordForMost_40 : decode cX10_wordForMost 40 = .ok (.iload 5, 2) := by decide +kernel
theorem dX10_wordForMost_42 : decode cX10_wordForMost 42 = .ok (.iload_n 3, 1) := by decide +kernel
theorem dX10_wordForMost_43 : decode cX10_wordForMost 43 = .ok (.if_icmp .le 9, 3) := by decide +kernel
theorem dX10_wordForMost_46 : decode cX10_wordForMost 46 = .ok (.iload 4, 2) := by decide +kernel
theorem dX10_wordForMost_48 : decode cX10_wordForMost 48 = .ok (.istore_n 2, 1) := by decide +kernel
theorem dX10_wordForMost_49 : decode cX10_wordForMost 49 = .ok (.iload 5, 2) := by decide +kernel
theorem dX10_wordForMost_51 : decode cX10_wordForMost 51 = .ok (.istore_n 3, 1) := by decide +kernel
theorem dX10_wordForMost_52 : decode cX10_wordForMost 52 = .ok (.iinc 4 1, 3) := by decide +kernel
theorem dX10_wordForMost_55 : decode cX10_wordForMost 55 = .ok (.goto (-48), 3) := by decide +kernel
theorem dX10_wordForMost_58 : decode cX10_wordForMost 58 = .ok (.iload_n 2, 1) := by decide +kernel
theorem dX10_wordForMost_59 : decode cX10_wordForMost 59 = .ok (.ireturn, 1) := by decide +kernel
theorem dX10_mostVoted_0 : decode cX10_mostVoted 0 = .ok (.iconst (-1), 1) := by decide +kernel
theorem dX10_mostVoted_1 : decode cX10_mostVoted 1 = .ok (.istore_n 1, 1) := by decide +kernel
theorem dX10_mostVoted_2 : decode cX10_mostVoted 2 = .ok (.iconst 0, 1) := by decide +kernel
theorem dX10_mostVoted_3 : decode cX10_mostVoted 3 = .ok (.istore_n 2, 1) := by decide +kernel
theorem dX10_mostVoted_4 : decode cX10_mostVoted 4 = .ok (.iconst 0, 1) := by decide +kernel
theorem dX10_mostVoted_5 : decode cX10_mostVoted 5 = .ok (.istore_n 3, 1) := by decide +kernel
theorem dX10_mostVoted_6 : decode cX10_mostVoted 6 = .ok (.iload_n 3, 1) := by decide +kernel
theorem dX10_mostVoted_7 : decode cX10_mostVoted 7 = .ok (.aload_n 0, 1) := by decide +kernel
theorem dX10_mostVoted_8 : decode cX10_mostVoted 8 = .ok (.getfield 23, 3) := by decide +kernel
theorem dX10_mostVoted_11 : decode cX10_mostVoted 11 = .ok (.getfield 137, 3) := by decide +kernel
theorem dX10_mostVoted_14 : decode cX10_mostVoted 14 = .ok (.if_icmp .ge 28, 3) := by decide +kernel
theorem dX10_mostVoted_17 : decode cX10_mostVoted 17 = .ok (.aload_n 0, 1) := by decide +kernel
theorem dX10_mostVoted_18 : decode cX10_mostVoted 18 = .ok (.getfield 88, 3) := by decide +kernel
theorem dX10_mostVoted_21 : decode cX10_mostVoted 21 = .ok (.iload_n 3, 1) := by decide +kernel
theorem dX10_mostVoted_22 : decode cX10_mostVoted 22 = .ok (.iaload, 1) := by decide +kernel
theorem dX10_mostVoted_23 : decode cX10_mostVoted 23 = .ok (.iload_n 2, 1) := by decide +kernel
theorem dX10_mostVoted_24 : decode cX10_mostVoted 24 = .ok (.if_icmp .le 12, 3) := by decide +kernel
theorem dX10_mostVoted_27 : decode cX10_mostVoted 27 = .ok (.iload_n 3, 1) := by decide +kernel
theorem dX10_mostVoted_28 : decode cX10_mostVoted 28 = .ok (.istore_n 1, 1) := by decide +kernel
theorem dX10_mostVoted_29 : decode cX10_mostVoted 29 = .ok (.aload_n 0, 1) := by decide +kernel
theorem dX10_mostVoted_30 : decode cX10_mostVoted 30 = .ok (.getfield 88, 3) := by decide +kernel
theorem dX10_mostVoted_33 : decode cX10_mostVoted 33 = .ok (.iload_n 3, 1) := by decide +kernel
theorem dX10_mostVoted_34 : decode cX10_mostVoted 34 = .ok (.iaload, 1) := by decide +kernel
theorem dX10_mostVoted_35 : decode cX10_mostVoted 35 = .ok (.istore_n 2, 1) := by decide +kernel
theorem dX10_mostVoted_36 : decode cX10_mostVoted 36 = .ok (.iinc 3 1, 3) := by decide +kernel
theorem dX10_mostVoted_39 : decode cX10_mostVoted 39 = .ok (.goto (-33), 3) := by decide +kernel
theorem dX10_mostVoted_42 : decode cX10_mostVoted 42 = .ok (.iload_n 1, 1) := by decide +kernel
theorem dX10_mostVoted_43 : decode cX10_mostVoted 43 = .ok (.ireturn, 1) := by decide +kernel
theorem dX11_init_0 : decode cX11_init 0 = .ok (.aload_n 0, 1) := by decide +kernel
theorem dX11_init_1 : decode cX11_init 1 = .ok (.invokespecial 1, 3) := by decide +kernel
theorem dX11_init_4 : decode cX11_init 4 = .ok (.aload_n 0, 1) := by decide +kernel
theorem dX11_init_5 : decode cX11_init 5 = .ok (.sipush 250, 3) := by decide +kernel
theorem dX11_init_8 : decode cX11_init 8 = .ok (.newarray .int, 2) := by decide +kernel
theorem dX11_init_10 : decode cX11_init 10 = .ok (.putfield 7, 3) := by decide +kernel
theorem dX11_init_13 : decode cX11_init 13 = .ok (.aload_n 0, 1) := by decide +kernel
theorem dX11_init_14 : decode cX11_init 14 = .ok (.iconst (-1), 1) := by decide +kernel
theorem dX11_init_15 : decode cX11_init 15 = .ok (.putfield 13, 3) := by decide +kernel
theorem dX11_init_18 : decode cX11_init 18 = .ok (.aload_n 0, 1) := by decide +kernel
theorem dX11_init_19 : decode cX11_init 19 = .ok (.bipush 49, 2) := by decide +kernel
theorem dX11_init_21 : decode cX11_init 21 = .ok (.newarray .int, 2) := by decide +kernel
theorem dX11_init_23 : decode cX11_init 23 = .ok (.putfield 17, 3) := by decide +kernel
theorem dX11_init_26 : decode cX11_init 26 = .ok (.aload_n 0, 1) := by decide +kernel
theorem dX11_init_27 : decode cX11_init 27 = .ok (.bipush 49, 2) := by decide +kernel
theorem dX11_init_29 : decode cX11_init 29 = .ok (.newarray .boolean, 2) := by decide +kernel
theorem dX11_init_31 : decode cX11_init 31 = .ok (.putfield 20, 3) := by decide +kernel
theorem dX11_init_34 : decode cX11_init 34 = .ok (.aload_n 0, 1) := by decide +kernel
theorem dX11_init_35 : decode cX11_init 35 = .ok (.bipush 6, 2) := by decide +kernel
theorem dX11_init_37 : decode cX11_init 37 = .ok (.newarray .int, 2) := by decide +kernel
theorem dX11_init_39 : decode cX11_init 39 = .ok (.putfield 24, 3) := by decide +kernel
theorem dX11_init_42 : decode cX11_init 42 = .ok (.aload_n 0, 1) := by decide +kernel
theorem dX11_init_43 : decode cX11_init 43 = .ok (.bipush 6, 2) := by decide +kernel
theorem dX11_init_45 : decode cX11_init 45 = .ok (.newarray .int, 2) := by decide +kernel
theorem dX11_init_47 : decode cX11_init 47 = .ok (.putfield 27, 3) := by decide +kernel
theorem dX11_init_50 : decode cX11_init 50 = .ok (.aload_n 0, 1) := by decide +kernel
theorem dX11_init_51 : decode cX11_init 51 = .ok (.bipush 30, 2) := by decide +kernel
theorem dX11_init_53 : decode cX11_init 53 = .ok (.newarray .int, 2) := by decide +kernel
theorem dX11_init_55 : decode cX11_init 55 = .ok (.putfield 30, 3) := by decide +kernel
theorem dX11_init_58 : decode cX11_init 58 = .ok (.aload_n 0, 1) := by decide +kernel
theorem dX11_init_59 : decode cX11_init 59 = .ok (.bipush 36, 2) := by decide +kernel
theorem dX11_init_61 : decode cX11_init 61 = .ok (.newarray .int, 2) := by decide +kernel
theorem dX11_init_63 : decode cX11_init 63 = .ok (.putfield 33, 3) := by decide +kernel
theorem dX11_init_66 : decode cX11_init 66 = .ok (.aload_n 0, 1) := by decide +kernel
theorem dX11_init_67 : decode cX11_init 67 = .ok (.iconst 4, 1) := by decide +kernel
theorem dX11_init_68 : decode cX11_init 68 = .ok (.newarray .int, 2) := by decide +kernel
theorem dX11_init_70 : decode cX11_init 70 = .ok (.putfield 36, 3) := by decide +kernel
theorem dX11_init_73 : decode cX11_init 73 = .ok (.aload_n 0, 1) := by decide +kernel
theorem dX11_init_74 : decode cX11_init 74 = .ok (.bipush 10, 2) := by decide +kernel
theorem dX11_init_76 : decode cX11_init 76 = .ok (.newarray .int, 2) := by decide +kernel
theorem dX11_init_78 : decode cX11_init 78 = .ok (.putfield 39, 3) := by decide +kernel
theorem dX11_init_81 : decode cX11_init 81 = .ok (.aload_n 0, 1) := by decide +kernel
theorem dX11_init_82 : decode cX11_init 82 = .ok (.bipush 12, 2) := by decide +kernel
theorem dX11_init_84 : decode cX11_init 84 = .ok (.newarray .int, 2) := by decide +kernel
theorem dX11_init_86 : decode cX11_init 86 = .ok (.putfield 42, 3) := by decide +kernel
theorem dX11_init_89 : decode cX11_init 89 = .ok (.aload_n 0, 1) := by decide +kernel
theorem dX11_init_90 : decode cX11_init 90 = .ok (.bipush 30, 2) := by decide +kernel
theorem dX11_init_92 : decode cX11_init 92 = .ok (.newarray .int, 2) := by decide +kernel
theorem dX11_init_94 : decode cX11_init 94 = .ok (.putfield 45, 3) := by decide +kernel
theorem dX11_init_97 : decode cX11_init 97 = .ok (.aload_n 0, 1) := by decide +kernel
theorem dX11_init_98 : decode cX11_init 98 = .ok (.bipush 49, 2) := by decide +kernel
theorem dX11_init_100 : decode cX11_init 100 = .ok (.newarray .int, 2) := by decide +kernel
theorem dX11_init_102 : decode cX11_init 102 = .ok (.putfield 48, 3) := by decide +kernel
theorem dX11_init_105 : decode cX11_init 105 = .ok (.aload_n 0, 1) := by decide +kernel
theorem dX11_init_106 : decode cX11_init 106 = .ok (.bipush 12, 2) := by decide +kernel
theorem dX11_init_108 : decode cX11_init 108 = .ok (.newarray .int, 2) := by decide +kernel
theorem dX11_init_110 : decode cX11_init 110 = .ok (.putfield 51, 3) := by decide +kernel
theorem dX11_init_113 : decode cX11_init 113 = .ok (.aload_n 0, 1) := by decide +kernel
theorem dX11_init_114 : decode cX11_init 114 = .ok (.bipush 30, 2) := by decide +kernel
theorem dX11_init_116 : decode cX11_init 116 = .ok (.newarray .int, 2) := by decide +kernel
theorem dX11_init_118 : decode cX11_init 118 = .ok (.putfield 54, 3) := by decide +kernel
theorem dX11_init_121 : decode cX11_init 121 = .ok (.aload_n 0, 1) := by decide +kernel
theorem dX11_init_122 : decode cX11_init 122 = .ok (.bipush 36, 2) := by decide +kernel
theorem dX11_init_124 : decode cX11_init 124 = .ok (.newarray .int, 2) := by decide +kernel
theorem dX11_init_126 : decode cX11_init 126 = .ok (.putfield 57, 3) := by decide +kernel
theorem dX11_init_129 : decode cX11_init 129 = .ok (.aload_n 0, 1) := by decide +kernel
theorem dX11_init_130 : decode cX11_init 130 = .ok (.iconst 4, 1) := by decide +kernel
theorem dX11_init_131 : decode cX11_init 131 = .ok (.newarray .int, 2) := by decide +kernel
theorem dX11_init_133 : decode cX11_init 133 = .ok (.putfield 60, 3) := by decide +kernel
theorem dX11_init_136 : decode cX11_init 136 = .ok (.aload_n 0, 1) := by decide +kernel
theorem dX11_init_137 : decode cX11_init 137 = .ok (.sipush 384, 3) := by decide +kernel
theorem dX11_init_140 : decode cX11_init 140 = .ok (.newarray .int, 2) := by decide +kernel
theorem dX11_init_142 : decode cX11_init 142 = .ok (.putfield 63, 3) := by decide +kernel
theorem dX11_init_145 : decode cX11_init 145 = .ok (.aload_n 0, 1) := by decide +kernel
theorem dX11_init_146 : decode cX11_init 146 = .ok (.bipush 6, 2) := by decide +kernel
theorem dX11_init_148 : decode cX11_init 148 = .ok (.newarray .int, 2) := by decide +kernel
theorem dX11_init_150 : decode cX11_init 150 = .ok (.putfield 66, 3) := by decide +kernel
theorem dX11_init_153 : decode cX11_init 153 = .ok (.aload_n 0, 1) := by decide +kernel
theorem dX11_init_154 : decode cX11_init 154 = .ok (.bipush 6, 2) := by decide +kernel
theorem dX11_init_156 : decode cX11_init 156 = .ok (.newarray .int, 2) := by decide +kernel
theorem dX11_init_158 : decode cX11_init 158 = .ok (.putfield 69, 3) := by decide +kernel
theorem dX11_init_161 : decode cX11_init 161 = .ok (.aload_n 0, 1) := by decide +kernel
theorem dX11_init_162 : decode cX11_init 162 = .ok (.bipush 64, 2) := by decide +kernel
theorem dX11_init_164 : decode cX11_init 164 = .ok (.newarray .boolean, 2) := by decide +kernel
theorem dX11_init_166 : decode cX11_init 166 = .ok (.putfield 72, 3) := by decide +kernel
theorem dX11_init_169 : decode cX11_init 169 = .ok (.aload_n 0, 1) := by decide +kernel
theorem dX11_init_170 : decode cX11_init 170 = .ok (.bipush 6, 2) := by decide +kernel
theorem dX11_init_172 : decode cX11_init 172 = .ok (.newarray .int, 2) := by decide +kernel
theorem dX11_init_174 : decode cX11_init 174 = .ok (.putfield 75, 3) := by decide +kernel
theorem dX11_init_177 : decode cX11_init 177 = .ok (.aload_n 0, 1) := by decide +kernel
theorem dX11_init_178 : decode cX11_init 178 = .ok (.bipush 6, 2) := by decide +kernel
theorem dX11_init_180 : decode cX11_init 180 = .ok (.newarray .int, 2) := by decide +kernel
theorem dX11_init_182 : decode cX11_init 182 = .ok (.putfield 78, 3) := by decide +kernel
theorem dX11_init_185 : decode cX11_init 185 = .ok (.aload_n 0, 1) := by decide +kernel
theorem dX11_init_186 : decode cX11_init 186 = .ok (.bipush 49, 2) := by decide +kernel
theorem dX11_init_188 : decode cX11_init 188 = .ok (.newarray .int, 2) := by decide +kernel
theorem dX11_init_190 : decode cX11_init 190 = .ok (.putfield 81, 3) := by decide +kernel
theorem dX11_init_193 : decode cX11_init 193 = .ok (.aload_n 0, 1) := by decide +kernel
theorem dX11_init_194 : decode cX11_init 194 = .ok (.bipush 49, 2) := by decide +kernel
theorem dX11_init_196 : decode cX11_init 196 = .ok (.newarray .int, 2) := by decide +kernel
theorem dX11_init_198 : decode cX11_init 198 = .ok (.putfield 84, 3) := by decide +kernel
theorem dX11_init_201 : decode cX11_init 201 = .ok (.aload_n 0, 1) := by decide +kernel
theorem dX11_init_202 : decode cX11_init 202 = .ok (.bipush 6, 2) := by decide +kernel
theorem dX11_init_204 : decode cX11_init 204 = .ok (.newarray .int, 2) := by decide +kernel
theorem dX11_init_206 : decode cX11_init 206 = .ok (.putfield 87, 3) := by decide +kernel
theorem dX11_init_209 : decode cX11_init 209 = .ok (.aload_n 0, 1) := by decide +kernel
theorem dX11_init_210 : decode cX11_init 210 = .ok (.bipush 6, 2) := by decide +kernel
theorem dX11_init_212 : decode cX11_init 212 = .ok (.newarray .int, 2) := by decide +kernel
theorem dX11_init_214 : decode cX11_init 214 = .ok (.putfield 90, 3) := by decide +kernel
theorem dX11_init_217 : decode cX11_init 217 = .ok (.aload_n 0, 1) := by decide +kernel
theorem dX11_init_218 : decode cX11_init 218 = .ok (.iconst 2, 1) := by decide +kernel
theorem dX11_init_219 : decode cX11_init 219 = .ok (.newarray .boolean, 2) := by decide +kernel
theorem dX11_init_221 : decode cX11_init 221 = .ok (.putfield 93, 3) := by decide +kernel
theorem dX11_init_224 : decode cX11_init 224 = .ok (.aload_n 0, 1) := by decide +kernel
theorem dX11_init_225 : decode cX11_init 225 = .ok (.bipush 20, 2) := by decide +kernel
theorem dX11_init_227 : decode cX11_init 227 = .ok (.newarray .int, 2) := by decide +kernel
theorem dX11_init_229 : decode cX11_init 229 = .ok (.putfield 96, 3) := by decide +kernel
theorem dX11_init_232 : decode cX11_init 232 = .ok (.iconst 0, 1) := by decide +kernel
theorem dX11_init_233 : decode cX11_init 233 = .ok (.istore_n 1, 1) := by decide +kernel
theorem dX11_init_234 : decode cX11_init 234 = .ok (.iload_n 1, 1) := by decide +kernel
theorem dX11_init_235 : decode cX11_init 235 = .ok (.bipush 6, 2) := by decide +kernel
theorem dX11_init_237 : decode cX11_init 237 = .ok (.if_icmp .ge 18, 3) := by decide +kernel
theorem dX11_init_240 : decode cX11_init 240 = .ok (.aload_n 0, 1) := by decide +kernel
theorem dX11_init_241 : decode cX11_init 241 = .ok (.getfield 39, 3) := by decide +kernel
theorem dX11_init_244 : decode cX11_init 244 = .ok (.iconst 4, 1) := by decide +kernel
theorem dX11_init_245 : decode cX11_init 245 = .ok (.iload_n 1, 1) := by decide +kernel
theorem dX11_init_246 : decode cX11_init 246 = .ok (.iadd, 1) := by decide +kernel
theorem dX11_init_247 : decode cX11_init 247 = .ok (.iconst (-1), 1) := by decide +kernel
theorem dX11_init_248 : decode cX11_init 248 = .ok (.iastore, 1) := by decide +kernel
theorem dX11_init_249 : decode cX11_init 249 = .ok (.iinc 1 1, 3) := by decide +kernel
theorem dX11_init_252 : decode cX11_init 252 = .ok (.goto (-18), 3) := by decide +kernel
theorem dX11_init_255 : decode cX11_init 255 = .ok (.aload_n 0, 1) := by decide +kernel
theorem dX11_init_256 : decode cX11_init 256 = .ok (.getfield 39, 3) := by decide +kernel
theorem dX11_init_259 : decode cX11_init 259 = .ok (.iconst 2, 1) := by decide +kernel
theorem dX11_init_260 : decode cX11_init 260 = .ok (.iconst (-1), 1) := by decide +kernel
theorem dX11_init_261 : decode cX11_init 261 = .ok (.iastore, 1) := by decide +kernel
theorem dX11_init_262 : decode cX11_init 262 = .ok (.return_, 1) := by decide +kernel
theorem dX11_in_0 : decode cX11_in 0 = .ok (.lload_n 0, 1) := by decide +kernel
theorem dX11_in_1 : decode cX11_in 1 = .ok (.lload_n 2, 1) := by decide +kernel
theorem dX11_in_2 : decode cX11_in 2 = .ok (.lcmp, 1) := by decide +kernel
theorem dX11_in_3 : decode cX11_in 3 = .ok (.ifCond .lt 14, 3) := by decide +kernel
theorem dX11_in_6 : decode cX11_in 6 = .ok (.lload_n 0, 1) := by decide +kernel
theorem dX11_in_7 : decode cX11_in 7 = .ok (.lload 4, 2) := by decide +kernel
theorem dX11_in_9 : decode cX11_in 9 = .ok (.lcmp, 1) := by decide +kernel
theorem dX11_in_10 : decode cX11_in 10 = .ok (.ifCond .gt 7, 3) := by decide +kernel
theorem dX11_in_13 : decode cX11_in 13 = .ok (.iconst 1, 1) := by decide +kernel
theorem dX11_in_14 : decode cX11_in 14 = .ok (.goto 4, 3) := by decide +kernel
theorem dX11_in_17 : decode cX11_in 17 = .ok (.iconst 0, 1) := by decide +kernel
theorem dX11_in_18 : decode cX11_in 18 = .ok (.ireturn, 1) := by decide +kernel
theorem dX11_has_0 : decode cX11_has 0 = .ok (.iload_n 0, 1) := by decide +kernel
theorem dX11_has_1 : decode cX11_has 1 = .ok (.iload_n 1, 1) := by decide +kernel
theorem dX11_has_2 : decode cX11_has 2 = .ok (.ishr, 1) := by decide +kernel
theorem dX11_has_3 : decode cX11_has 3 = .ok (.iconst 1, 1) := by decide +kernel
theorem dX11_has_4 : decode cX11_has 4 = .ok (.iand, 1) := by decide +kernel
theorem dX11_has_5 : decode cX11_has 5 = .ok (.iconst 1, 1) := by decide +kernel
theorem dX11_has_6 : decode cX11_has 6 = .ok (.if_icmp .ne 7, 3) := by decide +kernel
theorem dX11_has_9 : decode cX11_has 9 = .ok (.iconst 1, 1) := by decide +kernel
theorem dX11_has_10 : decode cX11_has 10 = .ok (.goto 4, 3) := by decide +kernel
theorem dX11_has_13 : decode cX11_has 13 = .ok (.iconst 0, 1) := by decide +kernel
theorem dX11_has_14 : decode cX11_has 14 = .ok (.ireturn, 1) := by decide +kernel
theorem dX11_isSquare_0 : decode cX11_isSquare 0 = .ok (.iload_n 1, 1) := by decide +kernel
theorem dX11_isSquare_1 : decode cX11_isSquare 1 = .ok (.i2l, 1) := by decide +kernel
theorem dX11_isSquare_2 : decode cX11_isSquare 2 = .ok (.lconst 0, 1) := by decide +kernel
theorem dX11_isSquare_3 : decode cX11_isSquare 3 = .ok (.aload_n 0, 1) := by decide +kernel
theorem dX11_isSquare_4 : decode cX11_isSquare 4 = .ok (.getfield 99, 3) := by decide +kernel
theorem dX11_isSquare_7 : decode cX11_isSquare 7 = .ok (.iconst 1, 1) := by decide +kernel
theorem dX11_isSquare_8 : decode cX11_isSquare 8 = .ok (.isub, 1) := by decide +kernel
theorem dX11_isSquare_9 : decode cX11_isSquare 9 = .ok (.i2l, 1) := by decide +kernel
theorem dX11_isSquare_10 : decode cX11_isSquare 10 = .ok (.invokestatic 102, 3) := by decide +kernel
theorem dX11_isSquare_13 : decode cX11_isSquare 13 = .ok (.ireturn, 1) := by decide +kernel
theorem dX11_isPerson_0 : decode cX11_isPerson 0 = .ok (.iload_n 1, 1) := by decide +kernel
theorem dX11_isPerson_1 : decode cX11_isPerson 1 = .ok (.i2l, 1) := by decide +kernel
theorem dX11_isPerson_2 : decode cX11_isPerson 2 = .ok (.lconst 0, 1) := by decide +kernel
theorem dX11_isPerson_3 : decode cX11_isPerson 3 = .ok (.aload_n 0, 1) := by decide +kernel
theorem dX11_isPerson_4 : decode cX11_isPerson 4 = .ok (.getfield 106, 3) := by decide +kernel
theorem dX11_isPerson_7 : decode cX11_isPerson 7 = .ok (.iconst 1, 1) := by decide +kernel
theorem dX11_isPerson_8 : decode cX11_isPerson 8 = .ok (.isub, 1) := by decide +kernel
theorem dX11_isPerson_9 : decode cX11_isPerson 9 = .ok (.i2l, 1) := by decide +kernel
theorem dX11_isPerson_10 : decode cX11_isPerson 10 = .ok (.invokestatic 102, 3) := by decide +kernel
theorem dX11_isPerson_13 : decode cX11_isPerson 13 = .ok (.ireturn, 1) := by decide +kernel
theorem dX11_isDeed_0 : decode cX11_isDeed 0 = .ok (.iload_n 1, 1) := by decide +kernel
theorem dX11_isDeed_1 : decode cX11_isDeed 1 = .ok (.i2l, 1) := by decide +kernel
theorem dX11_isDeed_2 : decode cX11_isDeed 2 = .ok (.lconst 0, 1) := by decide +kernel
theorem dX11_isDeed_3 : decode cX11_isDeed 3 = .ok (.aload_n 0, 1) := by decide +kernel
theorem dX11_isDeed_4 : decode cX11_isDeed 4 = .ok (.getfield 109, 3) := by decide +kernel
theorem dX11_isDeed_7 : decode cX11_isDeed 7 = .ok (.iconst 1, 1) := by decide +kernel
theorem dX11_isDeed_8 : decode cX11_isDeed 8 = .ok (.isub, 1) := by decide +kernel
theorem dX11_isDeed_9 : decode cX11_isDeed 9 = .ok (.i2l, 1) := by decide +kernel
theorem dX11_isDeed_10 : decode cX11_isDeed 10 = .ok (.invokestatic 102, 3) := by decide +kernel
theorem dX11_isDeed_13 : decode cX11_isDeed 13 = .ok (.ireturn, 1) := by decide +kernel
theorem dX11_feed_0 : decode cX11_feed 0 = .ok (.iload_n 1, 1) := by decide +kernel
theorem dX11_feed_1 : decode cX11_feed 1 = .ok (.i2l, 1) := by decide +kernel
theorem dX11_feed_2 : decode cX11_feed 2 = .ok (.lconst 0, 1) := by decide +kernel
theorem dX11_feed_3 : decode cX11_feed 3 = .ok (.ldc2_w 112, 3) := by decide +kernel
theorem dX11_feed_6 : decode cX11_feed 6 = .ok (.invokestatic 102, 3) := by decide +kernel
theorem dX11_feed_9 : decode cX11_feed 9 = .ok (.ifCond .ne 6, 3) := by decide +kernel
theorem dX11_feed_12 : decode cX11_feed 12 = .ok (.ldc 114, 2) := by decide +kernel
theorem dX11_feed_14 : decode cX11_feed 14 = .ok (.ireturn, 1) := by decide +kernel
theorem dX11_feed_15 : decode cX11_feed 15 = .ok (.aload_n 0, 1) := by decide +kernel
theorem dX11_feed_16 : decode cX11_feed 16 = .ok (.getfield 115, 3) := by decide +kernel
theorem dX11_feed_19 : decode cX11_feed 19 = .ok (.sipush 250, 3) := by decide +kernel
theorem dX11_feed_22 : decode cX11_feed 22 = .ok (.if_icmp .ne 6, 3) := by decide +kernel
theorem dX11_feed_25 : decode cX11_feed 25 = .ok (.ldc 118, 2) := by decide +kernel
theorem dX11_feed_27 : decode cX11_feed 27 = .ok (.ireturn, 1) := by decide +kernel
theorem dX11_feed_28 : decode cX11_feed 28 = .ok (.aload_n 0, 1) := by decide +kernel
theorem dX11_feed_29 : decode cX11_feed 29 = .ok (.getfield 7, 3) := by decide +kernel
theorem dX11_feed_32 : decode cX11_feed 32 = .ok (.aload_n 0, 1) := by decide +kernel
theorem dX11_feed_33 : decode cX11_feed 33 = .ok (.getfield 115, 3) := by decide +kernel
theorem dX11_feed_36 : decode cX11_feed 36 = .ok (.iload_n 1, 1) := by decide +kernel
theorem dX11_feed_37 : decode cX11_feed 37 = .ok (.iastore, 1) := by decide +kernel
theorem dX11_feed_38 : decode cX11_feed 38 = .ok (.aload_n 0, 1) := by decide +kernel
theorem dX11_feed_39 : decode cX11_feed 39 = .ok (.dup, 1) := by decide +kernel
theorem dX11_feed_40 : decode cX11_feed 40 = .ok (.getfield 115, 3) := by decide +kernel
theorem dX11_feed_43 : decode cX11_feed 43 = .ok (.iconst 1, 1) := by decide +kernel
theorem dX11_feed_44 : decode cX11_feed 44 = .ok (.iadd, 1) := by decide +kernel
theorem dX11_feed_45 : decode cX11_feed 45 = .ok (.putfield 115, 3) := by decide +kernel
theorem dX11_feed_48 : decode cX11_feed 48 = .ok (.aload_n 0, 1) := by decide +kernel
theorem dX11_feed_49 : decode cX11_feed 49 = .ok (.getfield 115, 3) := by decide +kernel
theorem dX11_feed_52 : decode cX11_feed 52 = .ok (.ireturn, 1) := by decide +kernel
theorem dX11_nextToken_0 : decode cX11_nextToken 0 = .ok (.aload_n 0, 1) := by decide +kernel
theorem dX11_nextToken_1 : decode cX11_nextToken 1 = .ok (.getfield 119, 3) := by decide +kernel
theorem dX11_nextToken_4 : decode cX11_nextToken 4 = .ok (.aload_n 0, 1) := by decide +kernel
theorem dX11_nextToken_5 : decode cX11_nextToken 5 = .ok (.getfield 115, 3) := by decide +kernel
theorem dX11_nextToken_8 : decode cX11_nextToken 8 = .ok (.if_icmp .ge 30, 3) := by decide +kernel
theorem dX11_nextToken_11 : decode cX11_nextToken 11 = .ok (.aload_n 0, 1) := by decide +kernel
theorem dX11_nextToken_12 : decode cX11_nextToken 12 = .ok (.getfield 7, 3) := by decide +kernel
theorem dX11_nextToken_15 : decode cX11_nextToken 15 = .ok (.aload_n 0, 1) := by decide +kernel
theorem dX11_nextToken_16 : decode cX11_nextToken 16 = .ok (.getfield 119, 3) := by decide +kernel
theorem dX11_nextToken_19 : decode cX11_nextToken 19 = .ok (.iaload, 1) := by decide +kernel
theorem dX11_nextToken_20 : decode cX11_nextToken 20 = .ok (.bipush 32, 2) := by decide +kernel
theorem dX11_nextToken_22 : decode cX11_nextToken 22 = .ok (.if_icmp .ne 16, 3) := by decide +kernel
theorem dX11_nextToken_25 : decode cX11_nextToken 25 = .ok (.aload_n 0, 1) := by decide +kernel
theorem dX11_nextToken_26 : decode cX11_nextToken 26 = .ok (.dup, 1) := by decide +kernel
theorem dX11_nextToken_27 : decode cX11_nextToken 27 = .ok (.getfield 119, 3) := by decide +kernel
theorem dX11_nextToken_30 : decode cX11_nextToken 30 = .ok (.iconst 1, 1) := by decide +kernel
theorem dX11_nextToken_31 : decode cX11_nextToken 31 = .ok (.iadd, 1) := by decide +kernel
theorem dX11_nextToken_32 : decode cX11_nextToken 32 = .ok (.putfield 119, 3) := by decide +kernel
theorem dX11_nextToken_35 : decode cX11_nextToken 35 = .ok (.goto (-35), 3) := by decide +kernel
theorem dX11_nextToken_38 : decode cX11_nextToken 38 = .ok (.aload_n 0, 1) := by decide +kernel
theorem dX11_nextToken_39 : decode cX11_nextToken 39 = .ok (.aload_n 0, 1) := by decide +kernel
theorem dX11_nextToken_40 : decode cX11_nextToken 40 = .ok (.getfield 119, 3) := by decide +kernel
theorem dX11_nextToken_43 : decode cX11_nextToken 43 = .ok (.putfield 122, 3) := by decide +kernel
theorem dX11_nextToken_46 : decode cX11_nextToken 46 = .ok (.aload_n 0, 1) := by decide +kernel
theorem dX11_nextToken_47 : decode cX11_nextToken 47 = .ok (.aload_n 0, 1) := by decide +kernel
theorem dX11_nextToken_48 : decode cX11_nextToken 48 = .ok (.getfield 119, 3) := by decide +kernel
theorem dX11_nextToken_51 : decode cX11_nextToken 51 = .ok (.aload_n 0, 1) := by decide +kernel
theorem dX11_nextToken_52 : decode cX11_nextToken 52 = .ok (.getfield 115, 3) := by decide +kernel
theorem dX11_nextToken_55 : decode cX11_nextToken 55 = .ok (.if_icmp .ne 7, 3) := by decide +kernel
theorem dX11_nextToken_58 : decode cX11_nextToken 58 = .ok (.iconst 3, 1) := by decide +kernel
theorem dX11_nextToken_59 : decode cX11_nextToken 59 = .ok (.goto 4, 3) := by decide +kernel
theorem dX11_nextToken_62 : decode cX11_nextToken 62 = .ok (.iconst 0, 1) := by decide +kernel
theorem dX11_nextToken_63 : decode cX11_nextToken 63 = .ok (.putfield 125, 3) := by decide +kernel
theorem dX11_nextToken_66 : decode cX11_nextToken 66 = .ok (.aload_n 0, 1) := by decide +kernel
theorem dX11_nextToken_67 : decode cX11_nextToken 67 = .ok (.iconst 0, 1) := by decide +kernel
theorem dX11_nextToken_68 : decode cX11_nextToken 68 = .ok (.putfield 128, 3) := by decide +kernel
theorem dX11_nextToken_71 : decode cX11_nextToken 71 = .ok (.aload_n 0, 1) := by decide +kernel
theorem dX11_nextToken_72 : decode cX11_nextToken 72 = .ok (.getfield 119, 3) := by decide +kernel
theorem dX11_nextToken_75 : decode cX11_nextToken 75 = .ok (.aload_n 0, 1) := by decide +kernel
theorem dX11_nextToken_76 : decode cX11_nextToken 76 = .ok (.getfield 115, 3) := by decide +kernel
theorem dX11_nextToken_79 : decode cX11_nextToken 79 = .ok (.if_icmp .ge 84, 3) := by decide +kernel
theorem dX11_nextToken_82 : decode cX11_nextToken 82 = .ok (.aload_n 0, 1) := by decide +kernel
theorem dX11_nextToken_83 : decode cX11_nextToken 83 = .ok (.getfield 7, 3) := by decide +kernel
theorem dX11_nextToken_86 : decode cX11_nextToken 86 = .ok (.aload_n 0, 1) := by decide +kernel
theorem dX11_nextToken_87 : decode cX11_nextToken 87 = .ok (.getfield 119, 3) := by decide +kernel
theorem dX11_nextToken_90 : decode cX11_nextToken 90 = .ok (.iaload, 1) := by decide +kernel
theorem dX11_nextToken_91 : decode cX11_nextToken 91 = .ok (.i2l, 1) := by decide +kernel
theorem dX11_nextToken_92 : decode cX11_nextToken 92 = .ok (.ldc2_w 131, 3) := by decide +kernel
theorem dX11_nextToken_95 : decode cX11_nextToken 95 = .ok (.ldc2_w 133, 3) := by decide +kernel
theorem dX11_nextToken_98 : decode cX11_nextToken 98 = .ok (.invokestatic 102, 3) := by decide +kernel
theorem dX11_nextToken_101 : decode cX11_nextToken 101 = .ok (.ifCond .eq 62, 3) := by decide +kernel
theorem dX11_nextToken_104 : decode cX11_nextToken 104 = .ok (.aload_n 0, 1) := by decide +kernel
theorem dX11_nextToken_105 : decode cX11_nextToken 105 = .ok (.aload_n 0, 1) := by decide +kernel
theorem dX11_nextToken_106 : decode cX11_nextToken 106 = .ok (.getfield 128, 3) := by decide +kernel
theorem dX11_nextToken_109 : decode cX11_nextToken 109 = .ok (.sipush 9999, 3) := by decide +kernel
theorem dX11_nextToken_112 : decode cX11_nextToken 112 = .ok (.if_icmp .le 10, 3) := by decide +kernel
theorem dX11_nextToken_115 : decode cX11_nextToken 115 = .ok (.aload_n 0, 1) := by decide +kernel
theorem dX11_nextToken_116 : decode cX11_nextToken 116 = .ok (.getfield 128, 3) := by decide +kernel
theorem dX11_nextToken_119 : decode cX11_nextToken 119 = .ok (.goto 23, 3) := by decide +kernel
theorem dX11_nextToken_122 : decode cX11_nextToken 122 = .ok (.bipush 10, 2) := by decide +kernel
theorem dX11_nextToken_124 : decode cX11_nextToken 124 = .ok (.aload_n 0, 1) := by decide +kernel
theorem dX11_nextToken_125 : decode cX11_nextToken 125 = .ok (.getfield 128, 3) := by decide +kernel
theorem dX11_nextToken_128 : decode cX11_nextToken 128 = .ok (.imul, 1) := by decide +kernel
theorem dX11_nextToken_129 : decode cX11_nextToken 129 = .ok (.aload_n 0, 1) := by decide +kernel
theorem dX11_nextToken_130 : decode cX11_nextToken 130 = .ok (.getfield 7, 3) := by decide +kernel
theorem dX11_nextToken_133 : decode cX11_nextToken 133 = .ok (.aload_n 0, 1) := by decide +kernel
theorem dX11_nextToken_134 : decode cX11_nextToken 134 = .ok (.getfield 119, 3) := by decide +kernel
theorem dX11_nextToken_137 : decode cX11_nextToken 137 = .ok (.iaload, 1) := by decide +kernel
theorem dX11_nextToken_138 : decode cX11_nextToken 138 = .ok (.iadd, 1) := by decide +kernel
theorem dX11_nextToken_139 : decode cX11_nextToken 139 = .ok (.bipush 48, 2) := by decide +kernel
theorem dX11_nextToken_141 : decode cX11_nextToken 141 = .ok (.isub, 1) := by decide +kernel
theorem dX11_nextToken_142 : decode cX11_nextToken 142 = .ok (.putfield 128, 3) := by decide +kernel
theorem dX11_nextToken_145 : decode cX11_nextToken 145 = .ok (.aload_n 0, 1) := by decide +kernel
theorem dX11_nextToken_146 : decode cX11_nextToken 146 = .ok (.iconst 2, 1) := by decide +kernel
theorem dX11_nextToken_147 : decode cX11_nextToken 147 = .ok (.putfield 125, 3) := by decide +kernel
theorem dX11_nextToken_150 : decode cX11_nextToken 150 = .ok (.aload_n 0, 1) := by decide +kernel
theorem dX11_nextToken_151 : decode cX11_nextToken 151 = .ok (.dup, 1) := by decide +kernel
theorem dX11_nextToken_152 : decode cX11_nextToken 152 = .ok (.getfield 119, 3) := by decide +kernel
theorem dX11_nextToken_155 : decode cX11_nextToken 155 = .ok (.iconst 1, 1) := by decide +kernel
theorem dX11_nextToken_156 : decode cX11_nextToken 156 = .ok (.iadd, 1) := by decide +kernel
theorem dX11_nextToken_157 : decode cX11_nextToken 157 = .ok (.putfield 119, 3) := by decide +kernel
theorem dX11_nextToken_160 : decode cX11_nextToken 160 = .ok (.goto (-89), 3) := by decide +kernel
theorem dX11_nextToken_163 : decode cX11_nextToken 163 = .ok (.aload_n 0, 1) := by decide +kernel
theorem dX11_nextToken_164 : decode cX11_nextToken 164 = .ok (.getfield 125, 3) := by decide +kernel
theorem dX11_nextToken_167 : decode cX11_nextToken 167 = .ok (.iconst 2, 1) := by decide +kernel
theorem dX11_nextToken_168 : decode cX11_nextToken 168 = .ok (.if_icmp .ne 22, 3) := by decide +kernel
theorem dX11_nextToken_171 : decode cX11_nextToken 171 = .ok (.aload_n 0, 1) := by decide +kernel
theorem dX11_nextToken_172 : decode cX11_nextToken 172 = .ok (.getfield 119, 3) := by decide +kernel
theorem dX11_nextToken_175 : decode cX11_nextToken 175 = .ok (.aload_n 0, 1) := by decide +kernel
theorem dX11_nextToken_176 : decode cX11_nextToken 176 = .ok (.getfield 122, 3) := by decide +kernel
theorem dX11_nextToken_179 : decode cX11_nextToken 179 = .ok (.isub, 1) := by decide +kernel
theorem dX11_nextToken_180 : decode cX11_nextToken 180 = .ok (.iconst 3, 1) := by decide +kernel
theorem dX11_nextToken_181 : decode cX11_nextToken 181 = .ok (.if_icmp .le 9, 3) := by decide +kernel
theorem dX11_nextToken_184 : decode cX11_nextToken 184 = .ok (.aload_n 0, 1) := by decide +kernel
theorem dX11_nextToken_185 : decode cX11_nextToken 185 = .ok (.ldc 135, 2) := by decide +kernel
theorem dX11_nextToken_187 : decode cX11_nextToken 187 = .ok (.putfield 128, 3) := by decide +kernel
theorem dX11_nextToken_190 : decode cX11_nextToken 190 = .ok (.aload_n 0, 1) := by decide +kernel
theorem dX11_nextToken_191 : decode cX11_nextToken 191 = .ok (.getfield 125, 3) := by decide +kernel
theorem dX11_nextToken_194 : decode cX11_nextToken 194 = .ok (.ifCond .ne 31, 3) := by decide +kernel
theorem dX11_nextToken_197 : decode cX11_nextToken 197 = .ok (.aload_n 0, 1) := by decide +kernel
theorem dX11_nextToken_198 : decode cX11_nextToken 198 = .ok (.iconst 1, 1) := by decide +kernel
theorem dX11_nextToken_199 : decode cX11_nextToken 199 = .ok (.putfield 125, 3) := by decide +kernel
theorem dX11_nextToken_202 : decode cX11_nextToken 202 = .ok (.aload_n 0, 1) := by decide +kernel
theorem dX11_nextToken_203 : decode cX11_nextToken 203 = .ok (.aload_n 0, 1) := by decide +kernel
theorem dX11_nextToken_204 : decode cX11_nextToken 204 = .ok (.getfield 7, 3) := by decide +kernel
theorem dX11_nextToken_207 : decode cX11_nextToken 207 = .ok (.aload_n 0, 1) := by decide +kernel
theorem dX11_nextToken_208 : decode cX11_nextToken 208 = .ok (.getfield 119, 3) := by decide +kernel
theorem dX11_nextToken_211 : decode cX11_nextToken 211 = .ok (.iaload, 1) := by decide +kernel
theorem dX11_nextToken_212 : decode cX11_nextToken 212 = .ok (.putfield 128, 3) := by decide +kernel
theorem dX11_nextToken_215 : decode cX11_nextToken 215 = .ok (.aload_n 0, 1) := by decide +kernel
theorem dX11_nextToken_216 : decode cX11_nextToken 216 = .ok (.dup, 1) := by decide +kernel
theorem dX11_nextToken_217 : decode cX11_nextToken 217 = .ok (.getfield 119, 3) := by decide +kernel
theorem dX11_nextToken_220 : decode cX11_nextToken 220 = .ok (.iconst 1, 1) := by decide +kernel
theorem dX11_nextToken_221 : decode cX11_nextToken 221 = .ok (.iadd, 1) := by decide +kernel
theorem dX11_nextToken_222 : decode cX11_nextToken 222 = .ok (.putfield 119, 3) := by decide +kernel
theorem dX11_nextToken_225 : decode cX11_nextToken 225 = .ok (.return_, 1) := by decide +kernel
theorem dX11_faults_0 : decode cX11_faults 0 = .ok (.aload_n 0, 1) := by decide +kernel
theorem dX11_faults_1 : decode cX11_faults 1 = .ok (.iload_n 1, 1) := by decide +kernel
theorem dX11_faults_2 : decode cX11_faults 2 = .ok (.putfield 136, 3) := by decide +kernel
theorem dX11_faults_5 : decode cX11_faults 5 = .ok (.iconst 0, 1) := by decide +kernel
theorem dX11_faults_6 : decode cX11_faults 6 = .ok (.ireturn, 1) := by decide +kernel
theorem dX11_takes_0 : decode cX11_takes 0 = .ok (.aload_n 0, 1) := by decide +kernel
theorem dX11_takes_1 : decode cX11_takes 1 = .ok (.getfield 125, 3) := by decide +kernel
theorem dX11_takes_4 : decode cX11_takes 4 = .ok (.iconst 1, 1) := by decide +kernel
theorem dX11_takes_5 : decode cX11_takes 5 = .ok (.if_icmp .ne 11, 3) := by decide +kernel
theorem dX11_takes_8 : decode cX11_takes 8 = .ok (.aload_n 0, 1) := by decide +kernel
theorem dX11_takes_9 : decode cX11_takes 9 = .ok (.getfield 128, 3) := by decide +kernel
theorem dX11_takes_12 : decode cX11_takes 12 = .ok (.iload_n 1, 1) := by decide +kernel
theorem dX11_takes_13 : decode cX11_takes 13 = .ok (.if_icmp .eq 9, 3) := by decide +kernel
theorem dX11_takes_16 : decode cX11_takes 16 = .ok (.aload_n 0, 1) := by decide +kernel
theorem dX11_takes_17 : decode cX11_takes 17 = .ok (.iconst 1, 1) := by decide +kernel
theorem dX11_takes_18 : decode cX11_takes 18 = .ok (.invokevirtual 139, 3) := by decide +kernel
theorem dX11_takes_21 : decode cX11_takes 21 = .ok (.ireturn, 1) := by decide +kernel
theorem dX11_takes_22 : decode cX11_takes 22 = .ok (.aload_n 0, 1) := by decide +kernel
theorem dX11_takes_23 : decode cX11_takes 23 = .ok (.invokevirtual 143, 3) := by decide +kernel
theorem dX11_takes_26 : decode cX11_takes 26 = .ok (.iconst 1, 1) := by decide +kernel
theorem dX11_takes_27 : decode cX11_takes 27 = .ok (.ireturn, 1) := by decide +kernel
theorem dX11_isNumber_0 : decode cX11_isNumber 0 = .ok (.aload_n 0, 1) := by decide +kernel
theorem dX11_isNumber_1 : decode cX11_isNumber 1 = .ok (.getfield 125, 3) := by decide +kernel
theorem dX11_isNumber_4 : decode cX11_isNumber 4 = .ok (.iconst 2, 1) := by decide +kernel
theorem dX11_isNumber_5 : decode cX11_isNumber 5 = .ok (.if_icmp .ne 34, 3) := by decide +kernel
theorem dX11_isNumber_8 : decode cX11_isNumber 8 = .ok (.aload_n 0, 1) := by decide +kernel
theorem dX11_isNumber_9 : decode cX11_isNumber 9 = .ok (.getfield 128, 3) := by decide +kernel
theorem dX11_isNumber_12 : decode cX11_isNumber 12 = .ok (.i2l, 1) := by decide +kernel
theorem dX11_isNumber_13 : decode cX11_isNumber 13 = .ok (.iload_n 1, 1) := by decide +kernel
theorem dX11_isNumber_14 : decode cX11_isNumber 14 = .ok (.i2l, 1) := by decide +kernel
theorem dX11_isNumber_15 : decode cX11_isNumber 15 = .ok (.iload_n 2, 1) := by decide +kernel
theorem dX11_isNumber_16 : decode cX11_isNumber 16 = .ok (.i2l, 1) := by decide +kernel
theorem dX11_isNumber_17 : decode cX11_isNumber 17 = .ok (.invokestatic 102, 3) := by decide +kernel
theorem dX11_isNumber_20 : decode cX11_isNumber 20 = .ok (.ifCond .ne 11, 3) := by decide +kernel
theorem dX11_isNumber_23 : decode cX11_isNumber 23 = .ok (.aload_n 0, 1) := by decide +kernel
theorem dX11_isNumber_24 : decode cX11_isNumber 24 = .ok (.iconst 2, 1) := by decide +kernel
theorem dX11_isNumber_25 : decode cX11_isNumber 25 = .ok (.invokevirtual 139, 3) := by decide +kernel
theorem dX11_isNumber_28 : decode cX11_isNumber 28 = .ok (.ifCond .eq 7, 3) := by decide +kernel
theorem dX11_isNumber_31 : decode cX11_isNumber 31 = .ok (.iconst 1, 1) := by decide +kernel
theorem dX11_isNumber_32 : decode cX11_isNumber 32 = .ok (.goto 12, 3) := by decide +kernel
theorem dX11_isNumber_35 : decode cX11_isNumber 35 = .ok (.iconst 0, 1) := by decide +kernel
theorem dX11_isNumber_36 : decode cX11_isNumber 36 = .ok (.goto 8, 3) := by decide +kernel
theorem dX11_isNumber_39 : decode cX11_isNumber 39 = .ok (.aload_n 0, 1) := by decide +kernel
theorem dX11_isNumber_40 : decode cX11_isNumber 40 = .ok (.iconst 1, 1) := by decide +kernel
theorem dX11_isNumber_41 : decode cX11_isNumber 41 = .ok (.invokevirtual 139, 3) := by decide +kernel
theorem dX11_isNumber_44 : decode cX11_isNumber 44 = .ok (.ireturn, 1) := by decide +kernel
theorem dX11_taken_0 : decode cX11_taken 0 = .ok (.aload_n 0, 1) := by decide +kernel
theorem dX11_taken_1 : decode cX11_taken 1 = .ok (.getfield 128, 3) := by decide +kernel
theorem dX11_taken_4 : decode cX11_taken 4 = .ok (.istore_n 1, 1) := by decide +kernel
theorem dX11_taken_5 : decode cX11_taken 5 = .ok (.aload_n 0, 1) := by decide +kernel
theorem dX11_taken_6 : decode cX11_taken 6 = .ok (.invokevirtual 143, 3) := by decide +kernel
theorem dX11_taken_9 : decode cX11_taken 9 = .ok (.iload_n 1, 1) := by decide +kernel
theorem dX11_taken_10 : decode cX11_taken 10 = .ok (.ireturn, 1) := by decide +kernel
theorem dX11_readWay_0 : decode cX11_readWay 0 = .ok (.aload_n 0, 1) := by decide +kernel
theorem dX11_readWay_1 : decode cX11_readWay 1 = .ok (.getfield 146, 3) := by decide +kernel
theorem dX11_readWay_4 : decode cX11_readWay 4 = .ok (.bipush 10, 2) := by decide +kernel
theorem dX11_readWay_6 : decode cX11_readWay 6 = .ok (.if_icmp .ne 9, 3) := by decide +kernel
theorem dX11_readWay_9 : decode cX11_readWay 9 = .ok (.aload_n 0, 1) := by decide +kernel
theorem dX11_readWay_10 : decode cX11_readWay 10 = .ok (.iconst 3, 1) := by decide +kernel
theorem dX11_readWay_11 : decode cX11_readWay 11 = .ok (.invokevirtual 139, 3) := by decide +kernel
theorem dX11_readWay_14 : decode cX11_readWay 14 = .ok (.ireturn, 1) := by decide +kernel
theorem dX11_readWay_15 : decode cX11_readWay 15 = .ok (.aload_n 0, 1) := by decide +kernel
theorem dX11_readWay_16 : decode cX11_readWay 16 = .ok (.invokevirtual 143, 3) := by decide +kernel
theorem dX11_readWay_19 : decode cX11_readWay 19 = .ok (.aload_n 0, 1) := by decide +kernel
theorem dX11_readWay_20 : decode cX11_readWay 20 = .ok (.iconst 0, 1) := by decide +kernel
theorem dX11_readWay_21 : decode cX11_readWay 21 = .ok (.aload_n 0, 1) := by decide +kernel
theorem dX11_readWay_22 : decode cX11_readWay 22 = .ok (.getfield 149, 3) := by decide +kernel
theorem dX11_readWay_25 : decode cX11_readWay 25 = .ok (.iconst 1, 1) := by decide +kernel
theorem dX11_readWay_26 : decode cX11_readWay 26 = .ok (.isub, 1) := by decide +kernel
theorem dX11_readWay_27 : decode cX11_readWay 27 = .ok (.invokevirtual 152, 3) := by decide +kernel
theorem dX11_readWay_30 : decode cX11_readWay 30 = .ok (.ifCond .ne 5, 3) := by decide +kernel
theorem dX11_readWay_33 : decode cX11_readWay 33 = .ok (.iconst 0, 1) := by decide +kernel
theorem dX11_readWay_34 : decode cX11_readWay 34 = .ok (.ireturn, 1) := by decide +kernel
theorem dX11_readWay_35 : decode cX11_readWay 35 = .ok (.aload_n 0, 1) := by decide +kernel
theorem dX11_readWay_36 : decode cX11_readWay 36 = .ok (.invokevirtual 156, 3) := by decide +kernel
theorem dX11_readWay_39 : decode cX11_readWay 39 = .ok (.istore_n 1, 1) := by decide +kernel
theorem dX11_readWay_40 : decode cX11_readWay 40 = .ok (.aload_n 0, 1) := by decide +kernel
theorem dX11_readWay_41 : decode cX11_readWay 41 = .ok (.iconst 0, 1) := by decide +kernel
theorem dX11_readWay_42 : decode cX11_readWay 42 = .ok (.aload_n 0, 1) := by decide +kernel
theorem dX11_readWay_43 : decode cX11_readWay 43 = .ok (.getfield 149, 3) := by decide +kernel
theorem dX11_readWay_46 : decode cX11_readWay 46 = .ok (.iconst 1, 1) := by decide +kernel
theorem dX11_readWay_47 : decode cX11_readWay 47 = .ok (.isub, 1) := by decide +kernel
theorem dX11_readWay_48 : decode cX11_readWay 48 = .ok (.invokevirtual 152, 3) := by decide +kernel
theorem dX11_readWay_51 : decode cX11_readWay 51 = .ok (.ifCond .eq 36, 3) := by decide +kernel
theorem dX11_readWay_54 : decode cX11_readWay 54 = .ok (.iload_n 1, 1) := by decide +kernel
theorem dX11_readWay_55 : decode cX11_readWay 55 = .ok (.aload_n 0, 1) := by decide +kernel
theorem dX11_readWay_56 : decode cX11_readWay 56 = .ok (.getfield 128, 3) := by decide +kernel
theorem dX11_readWay_59 : decode cX11_readWay 59 = .ok (.if_icmp .eq 20, 3) := by decide +kernel
theorem dX11_readWay_62 : decode cX11_readWay 62 = .ok (.aload_n 0, 1) := by decide +kernel
theorem dX11_readWay_63 : decode cX11_readWay 63 = .ok (.getfield 48, 3) := by decide +kernel
theorem dX11_readWay_66 : decode cX11_readWay 66 = .ok (.bipush 7, 2) := by decide +kernel
theorem dX11_readWay_68 : decode cX11_readWay 68 = .ok (.iload_n 1, 1) := by decide +kernel
theorem dX11_readWay_69 : decode cX11_readWay 69 = .ok (.imul, 1) := by decide +kernel
theorem dX11_readWay_70 : decode cX11_readWay 70 = .ok (.aload_n 0, 1) := by decide +kernel
theorem dX11_readWay_71 : decode cX11_readWay 71 = .ok (.getfield 128, 3) := by decide +kernel
theorem dX11_readWay_74 : decode cX11_readWay 74 = .ok (.iadd, 1) := by decide +kernel
theorem dX11_readWay_75 : decode cX11_readWay 75 = .ok (.iaload, 1) := by decide +kernel
theorem dX11_readWay_76 : decode cX11_readWay 76 = .ok (.ifCond .le 13, 3) := by decide +kernel
theorem dX11_readWay_79 : decode cX11_readWay 79 = .ok (.aload_n 0, 1) := by decide +kernel
theorem dX11_readWay_80 : decode cX11_readWay 80 = .ok (.iconst 4, 1) := by decide +kernel
theorem dX11_readWay_81 : decode cX11_readWay 81 = .ok (.invokevirtual 139, 3) := by decide +kernel
theorem dX11_readWay_84 : decode cX11_readWay 84 = .ok (.ifCond .ne 5, 3) := by decide +kernel
theorem dX11_readWay_87 : decode cX11_readWay 87 = .ok (.iconst 0, 1) := by decide +kernel
theorem dX11_readWay_88 : decode cX11_readWay 88 = .ok (.ireturn, 1) := by decide +kernel
theorem dX11_readWay_89 : decode cX11_readWay 89 = .ok (.aload_n 0, 1) := by decide +kernel
theorem dX11_readWay_90 : decode cX11_readWay 90 = .ok (.invokevirtual 156, 3) := by decide +kernel
theorem dX11_readWay_93 : decode cX11_readWay 93 = .ok (.istore_n 2, 1) := by decide +kernel
theorem dX11_readWay_94 : decode cX11_readWay 94 = .ok (.aload_n 0, 1) := by decide +kernel
theorem dX11_readWay_95 : decode cX11_readWay 95 = .ok (.iconst 1, 1) := by decide +kernel
theorem dX11_readWay_96 : decode cX11_readWay 96 = .ok (.bipush 30, 2) := by decide +kernel
theorem dX11_readWay_98 : decode cX11_readWay 98 = .ok (.invokevirtual 152, 3) := by decide +kernel
theorem dX11_readWay_101 : decode cX11_readWay 101 = .ok (.ifCond .ne 5, 3) := by decide +kernel
theorem dX11_readWay_104 : decode cX11_readWay 104 = .ok (.iconst 0, 1) := by decide +kernel
theorem dX11_readWay_105 : decode cX11_readWay 105 = .ok (.ireturn, 1) := by decide +kernel
theorem dX11_readWay_106 : decode cX11_readWay 106 = .ok (.aload_n 0, 1) := by decide +kernel
theorem dX11_readWay_107 : decode cX11_readWay 107 = .ok (.getfield 48, 3) := by decide +kernel
theorem dX11_readWay_110 : decode cX11_readWay 110 = .ok (.bipush 7, 2) := by decide +kernel
theorem dX11_readWay_112 : decode cX11_readWay 112 = .ok (.iload_n 1, 1) := by decide +kernel
theorem dX11_readWay_113 : decode cX11_readWay 113 = .ok (.imul, 1) := by decide +kernel
theorem dX11_readWay_114 : decode cX11_readWay 114 = .ok (.iload_n 2, 1) := by decide +kernel
theorem dX11_readWay_115 : decode cX11_readWay 115 = .ok (.iadd, 1) := by decide +kernel
theorem dX11_readWay_116 : decode cX11_readWay 116 = .ok (.aload_n 0, 1) := by decide +kernel
theorem dX11_readWay_117 : decode cX11_readWay 117 = .ok (.getfield 128, 3) := by decide +kernel
theorem dX11_readWay_120 : decode cX11_readWay 120 = .ok (.iastore, 1) := by decide +kernel
theorem dX11_readWay_121 : decode cX11_readWay 121 = .ok (.aload_n 0, 1) := by decide +kernel
theorem dX11_readWay_122 : decode cX11_readWay 122 = .ok (.getfield 48, 3) := by decide +kernel
theorem dX11_readWay_125 : decode cX11_readWay 125 = .ok (.bipush 7, 2) := by decide +kernel
theorem dX11_readWay_127 : decode cX11_readWay 127 = .ok (.iload_n 2, 1) := by decide +kernel
theorem dX11_readWay_128 : decode cX11_readWay 128 = .ok (.imul, 1) := by decide +kernel
theorem dX11_readWay_129 : decode cX11_readWay 129 = .ok (.iload_n 1, 1) := by decide +kernel
theorem dX11_readWay_130 : decode cX11_readWay 130 = .ok (.iadd, 1) := by decide +kernel
theorem dX11_readWay_131 : decode cX11_readWay 131 = .ok (.aload_n 0, 1) := by decide +kernel
theorem dX11_readWay_132 : decode cX11_readWay 132 = .ok (.invokevirtual 156, 3) := by decide +kernel
theorem dX11_readWay_135 : decode cX11_readWay 135 = .ok (.iastore, 1) := by decide +kernel
theorem dX11_readWay_136 : decode cX11_readWay 136 = .ok (.aload_n 0, 1) := by decide +kernel
theorem dX11_readWay_137 : decode cX11_readWay 137 = .ok (.dup, 1) := by decide +kernel
theorem dX11_readWay_138 : decode cX11_readWay 138 = .ok (.getfield 146, 3) := by decide +kernel
theorem dX11_readWay_141 : decode cX11_readWay 141 = .ok (.iconst 1, 1) := by decide +kernel
theorem dX11_readWay_142 : decode cX11_readWay 142 = .ok (.iadd, 1) := by decide +kernel
theorem dX11_readWay_143 : decode cX11_readWay 143 = .ok (.putfield 146, 3) := by decide +kernel
theorem dX11_readWay_146 : decode cX11_readWay 146 = .ok (.aload_n 0, 1) := by decide +kernel
theorem dX11_readWay_147 : decode cX11_readWay 147 = .ok (.bipush 59, 2) := by decide +kernel
theorem dX11_readWay_149 : decode cX11_readWay 149 = .ok (.invokevirtual 160, 3) := by decide +kernel
theorem dX11_readWay_152 : decode cX11_readWay 152 = .ok (.ireturn, 1) := by decide +kernel
theorem dX11_readPerson_0 : decode cX11_readPerson 0 = .ok (.aload_n 0, 1) := by decide +kernel
theorem dX11_readPerson_1 : decode cX11_readPerson 1 = .ok (.getfield 163, 3) := by decide +kernel
theorem dX11_readPerson_4 : decode cX11_readPerson 4 = .ok (.bipush 6, 2) := by decide +kernel
theorem dX11_readPerson_6 : decode cX11_readPerson 6 = .ok (.if_icmp .ne 9, 3) := by decide +kernel
theorem dX11_readPerson_9 : decode cX11_readPerson 9 = .ok (.aload_n 0, 1) := by decide +kernel
theorem dX11_readPerson_10 : decode cX11_readPerson 10 = .ok (.iconst 3, 1) := by decide +kernel
theorem dX11_readPerson_11 : decode cX11_readPerson 11 = .ok (.invokevirtual 139, 3) := by decide +kernel
theorem dX11_readPerson_14 : decode cX11_readPerson 14 = .ok (.ireturn, 1) := by decide +kernel
theorem dX11_readPerson_15 : decode cX11_readPerson 15 = .ok (.aload_n 0, 1) := by decide +kernel
theorem dX11_readPerson_16 : decode cX11_readPerson 16 = .ok (.invokevirtual 143, 3) := by decide +kernel
theorem dX11_readPerson_19 : decode cX11_readPerson 19 = .ok (.aload_n 0, 1) := by decide +kernel
theorem dX11_readPerson_20 : decode cX11_readPerson 20 = .ok (.iconst 0, 1) := by decide +kernel
theorem dX11_readPerson_21 : decode cX11_readPerson 21 = .ok (.aload_n 0, 1) := by decide +kernel
theorem dX11_readPerson_22 : decode cX11_readPerson 22 = .ok (.getfield 149, 3) := by decide +kernel
theorem dX11_readPerson_25 : decode cX11_readPerson 25 = .ok (.iconst 1, 1) := by decide +kernel
theorem dX11_readPerson_26 : decode cX11_readPerson 26 = .ok (.isub, 1) := by decide +kernel
theorem dX11_readPerson_27 : decode cX11_readPerson 27 = .ok (.invokevirtual 152, 3) := by decide +kernel
theorem dX11_readPerson_30 : decode cX11_readPerson 30 = .ok (.ifCond .ne 5, 3) := by decide +kernel
theorem dX11_readPerson_33 : decode cX11_readPerson 33 = .ok (.iconst 0, 1) := by decide +kernel
theorem dX11_readPerson_34 : decode cX11_readPerson 34 = .ok (.ireturn, 1) := by decide +kernel
theorem dX11_readPerson_35 : decode cX11_readPerson 35 = .ok (.aload_n 0, 1) := by decide +kernel
theorem dX11_readPerson_36 : decode cX11_readPerson 36 = .ok (.getfield 51, 3) := by decide +kernel
theorem dX11_readPerson_39 : decode cX11_readPerson 39 = .ok (.iconst 2, 1) := by decide +kernel
theorem dX11_readPerson_40 : decode cX11_readPerson 40 = .ok (.aload_n 0, 1) := by decide +kernel
theorem dX11_readPerson_41 : decode cX11_readPerson 41 = .ok (.getfield 163, 3) := by decide +kernel
theorem dX11_readPerson_44 : decode cX11_readPerson 44 = .ok (.imul, 1) := by decide +kernel
theorem dX11_readPerson_45 : decode cX11_readPerson 45 = .ok (.aload_n 0, 1) := by decide +kernel
theorem dX11_readPerson_46 : decode cX11_readPerson 46 = .ok (.invokevirtual 156, 3) := by decide +kernel
theorem dX11_readPerson_49 : decode cX11_readPerson 49 = .ok (.iastore, 1) := by decide +kernel
theorem dX11_readPerson_50 : decode cX11_readPerson 50 = .ok (.aload_n 0, 1) := by decide +kernel
theorem dX11_readPerson_51 : decode cX11_readPerson 51 = .ok (.iconst 0, 1) := by decide +kernel
theorem dX11_readPerson_52 : decode cX11_readPerson 52 = .ok (.bipush 99, 2) := by decide +kernel
theorem dX11_readPerson_54 : decode cX11_readPerson 54 = .ok (.invokevirtual 152, 3) := by decide +kernel
theorem dX11_readPerson_57 : decode cX11_readPerson 57 = .ok (.ifCond .ne 5, 3) := by decide +kernel
theorem dX11_readPerson_60 : decode cX11_readPerson 60 = .ok (.iconst 0, 1) := by decide +kernel
theorem dX11_readPerson_61 : decode cX11_readPerson 61 = .ok (.ireturn, 1) := by decide +kernel
theorem dX11_readPerson_62 : decode cX11_readPerson 62 = .ok (.aload_n 0, 1) := by decide +kernel
theorem dX11_readPerson_63 : decode cX11_readPerson 63 = .ok (.getfield 51, 3) := by decide +kernel
theorem dX11_readPerson_66 : decode cX11_readPerson 66 = .ok (.iconst 2, 1) := by decide +kernel
theorem dX11_readPerson_67 : decode cX11_readPerson 67 = .ok (.aload_n 0, 1) := by decide +kernel
theorem dX11_readPerson_68 : decode cX11_readPerson 68 = .ok (.getfield 163, 3) := by decide +kernel
theorem dX11_readPerson_71 : decode cX11_readPerson 71 = .ok (.imul, 1) := by decide +kernel
theorem dX11_readPerson_72 : decode cX11_readPerson 72 = .ok (.iconst 1, 1) := by decide +kernel
theorem dX11_readPerson_73 : decode cX11_readPerson 73 = .ok (.iadd, 1) := by decide +kernel
theorem dX11_readPerson_74 : decode cX11_readPerson 74 = .ok (.aload_n 0, 1) := by decide +kernel
theorem dX11_readPerson_75 : decode cX11_readPerson 75 = .ok (.invokevirtual 156, 3) := by decide +kernel
theorem dX11_readPerson_78 : decode cX11_readPerson 78 = .ok (.iastore, 1) := by decide +kernel
theorem dX11_readPerson_79 : decode cX11_readPerson 79 = .ok (.aload_n 0, 1) := by decide +kernel
theorem dX11_readPerson_80 : decode cX11_readPerson 80 = .ok (.dup, 1) := by decide +kernel
theorem dX11_readPerson_81 : decode cX11_readPerson 81 = .ok (.getfield 163, 3) := by decide +kernel
theorem dX11_readPerson_84 : decode cX11_readPerson 84 = .ok (.iconst 1, 1) := by decide +kernel
theorem dX11_readPerson_85 : decode cX11_readPerson 85 = .ok (.iadd, 1) := by decide +kernel
theorem dX11_readPerson_86 : decode cX11_readPerson 86 = .ok (.putfield 163, 3) := by decide +kernel
theorem dX11_readPerson_89 : decode cX11_readPerson 89 = .ok (.aload_n 0, 1) := by decide +kernel
theorem dX11_readPerson_90 : decode cX11_readPerson 90 = .ok (.bipush 59, 2) := by decide +kernel
theorem dX11_readPerson_92 : decode cX11_readPerson 92 = .ok (.invokevirtual 160, 3) := by decide +kernel
theorem dX11_readPerson_95 : decode cX11_readPerson 95 = .ok (.ireturn, 1) := by decide +kernel
theorem dX11_readDeed_0 : decode cX11_readDeed 0 = .ok (.aload_n 0, 1) := by decide +kernel
theorem dX11_readDeed_1 : decode cX11_readDeed 1 = .ok (.getfield 166, 3) := by decide +kernel
theorem dX11_readDeed_4 : decode cX11_readDeed 4 = .ok (.bipush 6, 2) := by decide +kernel
theorem dX11_readDeed_6 : decode cX11_readDeed 6 = .ok (.if_icmp .ne 9, 3) := by decide +kernel
theorem dX11_readDeed_9 : decode cX11_readDeed 9 = .ok (.aload_n 0, 1) := by decide +kernel
theorem dX11_readDeed_10 : decode cX11_readDeed 10 = .ok (.iconst 3, 1) := by decide +kernel
theorem dX11_readDeed_11 : decode cX11_readDeed 11 = .ok (.invokevirtual 139, 3) := by decide +kernel
theorem dX11_readDeed_14 : decode cX11_readDeed 14 = .ok (.ireturn, 1) := by decide +kernel
theorem dX11_readDeed_15 : decode cX11_readDeed 15 = .ok (.aload_n 0, 1) := by decide +kernel
theorem dX11_readDeed_16 : decode cX11_readDeed 16 = .ok (.invokevirtual 143, 3) := by decide +kernel
theorem dX11_readDeed_19 : decode cX11_readDeed 19 = .ok (.iconst 0, 1) := by decide +kernel
theorem dX11_readDeed_20 : decode cX11_readDeed 20 = .ok (.istore_n 1, 1) := by decide +kernel
theorem dX11_readDeed_21 : decode cX11_readDeed 21 = .ok (.iload_n 1, 1) := by decide +kernel
theorem dX11_readDeed_22 : decode cX11_readDeed 22 = .ok (.iconst 4, 1) := by decide +kernel
theorem dX11_readDeed_23 : decode cX11_readDeed 23 = .ok (.if_icmp .ge 90, 3) := by decide +kernel
theorem dX11_readDeed_26 : decode cX11_readDeed 26 = .ok (.iload_n 1, 1) := by decide +kernel
theorem dX11_readDeed_27 : decode cX11_readDeed 27 = .ok (.iconst 1, 1) := by decide +kernel
theorem dX11_readDeed_28 : decode cX11_readDeed 28 = .ok (.if_icmp .eq 8, 3) := by decide +kernel
theorem dX11_readDeed_31 : decode cX11_readDeed 31 = .ok (.iload_n 1, 1) := by decide +kernel
theorem dX11_readDeed_32 : decode cX11_readDeed 32 = .ok (.iconst 2, 1) := by decide +kernel
theorem dX11_readDeed_33 : decode cX11_readDeed 33 = .ok (.if_icmp .ne 7, 3) := by decide +kernel
theorem dX11_readDeed_36 : decode cX11_readDeed 36 = .ok (.iconst 1, 1) := by decide +kernel
theorem dX11_readDeed_37 : decode cX11_readDeed 37 = .ok (.goto 4, 3) := by decide +kernel
theorem dX11_readDeed_40 : decode cX11_readDeed 40 = .ok (.iconst 0, 1) := by decide +kernel
theorem dX11_readDeed_41 : decode cX11_readDeed 41 = .ok (.istore_n 2, 1) := by decide +kernel
theorem dX11_readDeed_42 : decode cX11_readDeed 42 = .ok (.iload_n 1, 1) := by decide +kernel
theorem dX11_readDeed_43 : decode cX11_readDeed 43 = .ok (.ifCond .ne 12, 3) := by decide +kernel
theorem dX11_readDeed_46 : decode cX11_readDeed 46 = .ok (.aload_n 0, 1) := by decide +kernel
theorem dX11_readDeed_47 : decode cX11_readDeed 47 = .ok (.getfield 163, 3) := by decide +kernel
theorem dX11_readDeed_50 : decode cX11_readDeed 50 = .ok (.iconst 1, 1) := by decide +kernel
theorem dX11_readDeed_51 : decode cX11_readDeed 51 = .ok (.isub, 1) := by decide +kernel
theorem dX11_readDeed_52 : decode cX11_readDeed 52 = .ok (.goto 26, 3) := by decide +kernel
theorem dX11_readDeed_55 : decode cX11_readDeed 55 = .ok (.iload_n 1, 1) := by decide +kernel
theorem dX11_readDeed_56 : decode cX11_readDeed 56 = .ok (.iconst 1, 1) := by decide +kernel
theorem dX11_readDeed_57 : decode cX11_readDeed 57 = .ok (.if_icmp .ne 8, 3) := by decide +kernel
theorem dX11_readDeed_60 : decode cX11_readDeed 60 = .ok (.bipush 30, 2) := by decide +kernel
theorem dX11_readDeed_62 : decode cX11_readDeed 62 = .ok (.goto 16, 3) := by decide +kernel
theorem dX11_readDeed_65 : decode cX11_readDeed 65 = .ok (.iload_n 1, 1) := by decide +kernel
theorem dX11_readDeed_66 : decode cX11_readDeed 66 = .ok (.iconst 2, 1) := by decide +kernel
theorem dX11_readDeed_67 : decode cX11_readDeed 67 = .ok (.if_icmp .ne 9, 3) := by decide +kernel
theorem dX11_readDeed_70 : decode cX11_readDeed 70 = .ok (.sipush 999, 3) := by decide +kernel
theorem dX11_readDeed_73 : decode cX11_readDeed 73 = .ok (.goto 5, 3) := by decide +kernel
theorem dX11_readDeed_76 : decode cX11_readDeed 76 = .ok (.bipush 99, 2) := by decide +kernel
theorem dX11_readDeed_78 : decode cX11_readDeed 78 = .ok (.istore_n 3, 1) := by decide +kernel
theorem dX11_readDeed_79 : decode cX11_readDeed 79 = .ok (.aload_n 0, 1) := by decide +kernel
theorem dX11_readDeed_80 : decode cX11_readDeed 80 = .ok (.iload_n 2, 1) := by decide +kernel
theorem dX11_readDeed_81 : decode cX11_readDeed 81 = .ok (.iload_n 3, 1) := by decide +kernel
theorem dX11_readDeed_82 : decode cX11_readDeed 82 = .ok (.invokevirtual 152, 3) := by decide +kernel
theorem dX11_readDeed_85 : decode cX11_readDeed 85 = .ok (.ifCond .ne 5, 3) := by decide +kernel
theorem dX11_readDeed_88 : decode cX11_readDeed 88 = .ok (.iconst 0, 1) := by decide +kernel
theorem dX11_readDeed_89 : decode cX11_readDeed 89 = .ok (.ireturn, 1) := by decide +kernel
theorem dX11_readDeed_90 : decode cX11_readDeed 90 = .ok (.aload_n 0, 1) := by decide +kernel
theorem dX11_readDeed_91 : decode cX11_readDeed 91 = .ok (.getfield 54, 3) := by decide +kernel
theorem dX11_readDeed_94 : decode cX11_readDeed 94 = .ok (.iconst 5, 1) := by decide +kernel
theorem dX11_readDeed_95 : decode cX11_readDeed 95 = .ok (.aload_n 0, 1) := by decide +kernel
theorem dX11_readDeed_96 : decode cX11_readDeed 96 = .ok (.getfield 166, 3) := by decide +kernel
theorem dX11_readDeed_99 : decode cX11_readDeed 99 = .ok (.imul, 1) := by decide +kernel
theorem dX11_readDeed_100 : decode cX11_readDeed 100 = .ok (.iload_n 1, 1) := by decide +kernel
theorem dX11_readDeed_101 : decode cX11_readDeed 101 = .ok (.iadd, 1) := by decide +kernel
theorem dX11_readDeed_102 : decode cX11_readDeed 102 = .ok (.aload_n 0, 1) := by decide +kernel
theorem dX11_readDeed_103 : decode cX11_readDeed 103 = .ok (.invokevirtual 156, 3) := by decide +kernel
theorem dX11_readDeed_106 : decode cX11_readDeed 106 = .ok (.iastore, 1) := by decide +kernel
theorem dX11_readDeed_107 : decode cX11_readDeed 107 = .ok (.iinc 1 1, 3) := by decide +kernel
theorem dX11_readDeed_110 : decode cX11_readDeed 110 = .ok (.goto (-89), 3) := by decide +kernel
theorem dX11_readDeed_113 : decode cX11_readDeed 113 = .ok (.aload_n 0, 1) := by decide +kernel
theorem dX11_readDeed_114 : decode cX11_readDeed 114 = .ok (.getfield 54, 3) := by decide +kernel
theorem dX11_readDeed_117 : decode cX11_readDeed 117 = .ok (.iconst 5, 1) := by decide +kernel
theorem dX11_readDeed_118 : decode cX11_readDeed 118 = .ok (.aload_n 0, 1) := by decide +kernel
theorem dX11_readDeed_119 : decode cX11_readDeed 119 = .ok (.getfield 166, 3) := by decide +kernel
theorem dX11_readDeed_122 : decode cX11_readDeed 122 = .ok (.imul, 1) := by decide +kernel
theorem dX11_readDeed_123 : decode cX11_readDeed 123 = .ok (.iconst 4, 1) := by decide +kernel
theorem dX11_readDeed_124 : decode cX11_readDeed 124 = .ok (.iadd, 1) := by decide +kernel
theorem dX11_readDeed_125 : decode cX11_readDeed 125 = .ok (.iconst (-1), 1) := by decide +kernel
theorem dX11_readDeed_126 : decode cX11_readDeed 126 = .ok (.iastore, 1) := by decide +kernel
theorem dX11_readDeed_127 : decode cX11_readDeed 127 = .ok (.aload_n 0, 1) := by decide +kernel
theorem dX11_readDeed_128 : decode cX11_readDeed 128 = .ok (.dup, 1) := by decide +kernel
theorem dX11_readDeed_129 : decode cX11_readDeed 129 = .ok (.getfield 166, 3) := by decide +kernel
theorem dX11_readDeed_132 : decode cX11_readDeed 132 = .ok (.iconst 1, 1) := by decide +kernel
theorem dX11_readDeed_133 : decode cX11_readDeed 133 = .ok (.iadd, 1) := by decide +kernel
theorem dX11_readDeed_134 : decode cX11_readDeed 134 = .ok (.putfield 166, 3) := by decide +kernel
theorem dX11_readDeed_137 : decode cX11_readDeed 137 = .ok (.aload_n 0, 1) := by decide +kernel
theorem dX11_readDeed_138 : decode cX11_readDeed 138 = .ok (.bipush 59, 2) := by decide +kernel
theorem dX11_readDeed_140 : decode cX11_readDeed 140 = .ok (.invokevirtual 160, 3) := by decide +kernel
theorem dX11_readDeed_143 : decode cX11_readDeed 143 = .ok (.ireturn, 1) := by decide +kernel
theorem dX11_readReword_0 : decode cX11_readReword 0 = .ok (.aload_n 0, 1) := by decide +kernel
theorem dX11_readReword_1 : decode cX11_readReword 1 = .ok (.invokevirtual 143, 3) := by decide +kernel
theorem dX11_readReword_4 : decode cX11_readReword 4 = .ok (.aload_n 0, 1) := by decide +kernel
theorem dX11_readReword_5 : decode cX11_readReword 5 = .ok (.iconst 0, 1) := by decide +kernel
theorem dX11_readReword_6 : decode cX11_readReword 6 = .ok (.aload_n 0, 1) := by decide +kernel
theorem dX11_readReword_7 : decode cX11_readReword 7 = .ok (.getfield 166, 3) := by decide +kernel
theorem dX11_readReword_10 : decode cX11_readReword 10 = .ok (.iconst 1, 1) := by decide +kernel
theorem dX11_readReword_11 : decode cX11_readReword 11 = .ok (.isub, 1) := by decide +kernel
theorem dX11_readReword_12 : decode cX11_readReword 12 = .ok (.invokevirtual 152, 3) := by decide +kernel
theorem dX11_readReword_15 : decode cX11_readReword 15 = .ok (.ifCond .eq 27, 3) := by decide +kernel
theorem dX11_readReword_18 : decode cX11_readReword 18 = .ok (.aload_n 0, 1) := by decide +kernel
theorem dX11_readReword_19 : decode cX11_readReword 19 = .ok (.getfield 54, 3) := by decide +kernel
theorem dX11_readReword_22 : decode cX11_readReword 22 = .ok (.iconst 5, 1) := by decide +kernel
theorem dX11_readReword_23 : decode cX11_readReword 23 = .ok (.aload_n 0, 1) := by decide +kernel
theorem dX11_readReword_24 : decode cX11_readReword 24 = .ok (.getfield 128, 3) := by decide +kernel
theorem dX11_readReword_27 : decode cX11_readReword 27 = .ok (.imul, 1) := by decide +kernel
theorem dX11_readReword_28 : decode cX11_readReword 28 = .ok (.iconst 4, 1) := by decide +kernel
theorem dX11_readReword_29 : decode cX11_readReword 29 = .ok (.iadd, 1) := by decide +kernel
theorem dX11_readReword_30 : decode cX11_readReword 30 = .ok (.iaload, 1) := by decide +kernel
theorem dX11_readReword_31 : decode cX11_readReword 31 = .ok (.ifCond .lt 13, 3) := by decide +kernel
theorem dX11_readReword_34 : decode cX11_readReword 34 = .ok (.aload_n 0, 1) := by decide +kernel
theorem dX11_readReword_35 : decode cX11_readReword 35 = .ok (.iconst 4, 1) := by decide +kernel
theorem dX11_readReword_36 : decode cX11_readReword 36 = .ok (.invokevirtual 139, 3) := by decide +kernel
theorem dX11_readReword_39 : decode cX11_readReword 39 = .ok (.ifCond .ne 5, 3) := by decide +kernel
theorem dX11_readReword_42 : decode cX11_readReword 42 = .ok (.iconst 0, 1) := by decide +kernel
theorem dX11_readReword_43 : decode cX11_readReword 43 = .ok (.ireturn, 1) := by decide +kernel
theorem dX11_readReword_44 : decode cX11_readReword 44 = .ok (.aload_n 0, 1) := by decide +kernel
theorem dX11_readReword_45 : decode cX11_readReword 45 = .ok (.invokevirtual 156, 3) := by decide +kernel
theorem dX11_readReword_48 : decode cX11_readReword 48 = .ok (.istore_n 1, 1) := by decide +kernel
theorem dX11_readReword_49 : decode cX11_readReword 49 = .ok (.aload_n 0, 1) := by decide +kernel
theorem dX11_readReword_50 : decode cX11_readReword 50 = .ok (.iconst 0, 1) := by decide +kernel
theorem dX11_readReword_51 : decode cX11_readReword 51 = .ok (.bipush 99, 2) := by decide +kernel
theorem dX11_readReword_53 : decode cX11_readReword 53 = .ok (.invokevirtual 152, 3) := by decide +kernel
theorem dX11_readReword_56 : decode cX11_readReword 56 = .ok (.ifCond .ne 5, 3) := by decide +kernel
theorem dX11_readReword_59 : decode cX11_readReword 59 = .ok (.iconst 0, 1) := by decide +kernel
theorem dX11_readReword_60 : decode cX11_readReword 60 = .ok (.ireturn, 1) := by decide +kernel
theorem dX11_readReword_61 : decode cX11_readReword 61 = .ok (.aload_n 0, 1) := by decide +kernel
end
section
theorem dX11_readReword_62 : decode cX11_readReword 62 = .ok (.getfield 54, 3) := by decide +kernel
theorem dX11_readReword_65 : decode cX11_readReword 65 = .ok (.iconst 5, 1) := by decide +kernel
theorem dX11_readReword_66 : decode cX11_readReword 66 = .ok (.iload_n 1, 1) := by decide +kernel
theorem dX11_readReword_67 : decode cX11_readReword 67 = .ok (.imul, 1) := by decide +kernel
theorem dX11_readReword_68 : decode cX11_readReword 68 = .ok (.iconst 4, 1) := by decide +kernel
theorem dX11_readReword_69 : decode cX11_readReword 69 = .ok (.iadd, 1) := by decide +kernel
theorem dX11_readReword_70 : decode cX11_readReword 70 = .ok (.aload_n 0, 1) := by decide +kernel
theorem dX11_readReword_71 : decode cX11_readReword 71 = .ok (.invokevirtual 156, 3) := by decide +kernel
theorem dX11_readReword_74 : decode cX11_readReword 74 = .ok (.iastore, 1) := by decide +kernel
theorem dX11_readReword_75 : decode cX11_readReword 75 = .ok (.aload_n 0, 1) := by decide +kernel
theorem dX11_readReword_76 : decode cX11_readReword 76 = .ok (.bipush 59, 2) := by decide +kernel
theorem dX11_readReword_78 : decode cX11_readReword 78 = .ok (.invokevirtual 160, 3) := by decide +kernel
theorem dX11_readReword_81 : decode cX11_readReword 81 = .ok (.ireturn, 1) := by decide +kernel
theorem dX11_readTrust_0 : decode cX11_readTrust 0 = .ok (.aload_n 0, 1) := by decide +kernel
theorem dX11_readTrust_1 : decode cX11_readTrust 1 = .ok (.getfield 169, 3) := by decide +kernel
theorem dX11_readTrust_4 : decode cX11_readTrust 4 = .ok (.bipush 12, 2) := by decide +kernel
theorem dX11_readTrust_6 : decode cX11_readTrust 6 = .ok (.if_icmp .ne 9, 3) := by decide +kernel
theorem dX11_readTrust_9 : decode cX11_readTrust 9 = .ok (.aload_n 0, 1) := by decide +kernel
theorem dX11_readTrust_10 : decode cX11_readTrust 10 = .ok (.iconst 3, 1) := by decide +kernel
theorem dX11_readTrust_11 : decode cX11_readTrust 11 = .ok (.invokevirtual 139, 3) := by decide +kernel
theorem dX11_readTrust_14 : decode cX11_readTrust 14 = .ok (.ireturn, 1) := by decide +kernel
theorem dX11_readTrust_15 : decode cX11_readTrust 15 = .ok (.aload_n 0, 1) := by decide +kernel
theorem dX11_readTrust_16 : decode cX11_readTrust 16 = .ok (.invokevirtual 143, 3) := by decide +kernel
theorem dX11_readTrust_19 : decode cX11_readTrust 19 = .ok (.aload_n 0, 1) := by decide +kernel
theorem dX11_readTrust_20 : decode cX11_readTrust 20 = .ok (.iconst 0, 1) := by decide +kernel
theorem dX11_readTrust_21 : decode cX11_readTrust 21 = .ok (.aload_n 0, 1) := by decide +kernel
theorem dX11_readTrust_22 : decode cX11_readTrust 22 = .ok (.getfield 163, 3) := by decide +kernel
theorem dX11_readTrust_25 : decode cX11_readTrust 25 = .ok (.iconst 1, 1) := by decide +kernel
theorem dX11_readTrust_26 : decode cX11_readTrust 26 = .ok (.isub, 1) := by decide +kernel
theorem dX11_readTrust_27 : decode cX11_readTrust 27 = .ok (.invokevirtual 152, 3) := by decide +kernel
theorem dX11_readTrust_30 : decode cX11_readTrust 30 = .ok (.ifCond .ne 5, 3) := by decide +kernel
theorem dX11_readTrust_33 : decode cX11_readTrust 33 = .ok (.iconst 0, 1) := by decide +kernel
theorem dX11_readTrust_34 : decode cX11_readTrust 34 = .ok (.ireturn, 1) := by decide +kernel
theorem dX11_readTrust_35 : decode cX11_readTrust 35 = .ok (.aload_n 0, 1) := by decide +kernel
theorem dX11_readTrust_36 : decode cX11_readTrust 36 = .ok (.invokevirtual 156, 3) := by decide +kernel
theorem dX11_readTrust_39 : decode cX11_readTrust 39 = .ok (.istore_n 1, 1) := by decide +kernel
theorem dX11_readTrust_40 : decode cX11_readTrust 40 = .ok (.aload_n 0, 1) := by decide +kernel
theorem dX11_readTrust_41 : decode cX11_readTrust 41 = .ok (.iconst 0, 1) := by decide +kernel
theorem dX11_readTrust_42 : decode cX11_readTrust 42 = .ok (.aload_n 0, 1) := by decide +kernel
theorem dX11_readTrust_43 : decode cX11_readTrust 43 = .ok (.getfield 163, 3) := by decide +kernel
theorem dX11_readTrust_46 : decode cX11_readTrust 46 = .ok (.iconst 1, 1) := by decide +kernel
theorem dX11_readTrust_47 : decode cX11_readTrust 47 = .ok (.isub, 1) := by decide +kernel
theorem dX11_readTrust_48 : decode cX11_readTrust 48 = .ok (.invokevirtual 152, 3) := by decide +kernel
theorem dX11_readTrust_51 : decode cX11_readTrust 51 = .ok (.ifCond .eq 36, 3) := by decide +kernel
theorem dX11_readTrust_54 : decode cX11_readTrust 54 = .ok (.iload_n 1, 1) := by decide +kernel
theorem dX11_readTrust_55 : decode cX11_readTrust 55 = .ok (.aload_n 0, 1) := by decide +kernel
theorem dX11_readTrust_56 : decode cX11_readTrust 56 = .ok (.getfield 128, 3) := by decide +kernel
theorem dX11_readTrust_59 : decode cX11_readTrust 59 = .ok (.if_icmp .eq 20, 3) := by decide +kernel
theorem dX11_readTrust_62 : decode cX11_readTrust 62 = .ok (.aload_n 0, 1) := by decide +kernel
theorem dX11_readTrust_63 : decode cX11_readTrust 63 = .ok (.getfield 57, 3) := by decide +kernel
theorem dX11_readTrust_66 : decode cX11_readTrust 66 = .ok (.bipush 6, 2) := by decide +kernel
theorem dX11_readTrust_68 : decode cX11_readTrust 68 = .ok (.iload_n 1, 1) := by decide +kernel
theorem dX11_readTrust_69 : decode cX11_readTrust 69 = .ok (.imul, 1) := by decide +kernel
theorem dX11_readTrust_70 : decode cX11_readTrust 70 = .ok (.aload_n 0, 1) := by decide +kernel
theorem dX11_readTrust_71 : decode cX11_readTrust 71 = .ok (.getfield 128, 3) := by decide +kernel
theorem dX11_readTrust_74 : decode cX11_readTrust 74 = .ok (.iadd, 1) := by decide +kernel
theorem dX11_readTrust_75 : decode cX11_readTrust 75 = .ok (.iaload, 1) := by decide +kernel
theorem dX11_readTrust_76 : decode cX11_readTrust 76 = .ok (.ifCond .lt 13, 3) := by decide +kernel
theorem dX11_readTrust_79 : decode cX11_readTrust 79 = .ok (.aload_n 0, 1) := by decide +kernel
theorem dX11_readTrust_80 : decode cX11_readTrust 80 = .ok (.iconst 4, 1) := by decide +kernel
theorem dX11_readTrust_81 : decode cX11_readTrust 81 = .ok (.invokevirtual 139, 3) := by decide +kernel
theorem dX11_readTrust_84 : decode cX11_readTrust 84 = .ok (.ifCond .ne 5, 3) := by decide +kernel
theorem dX11_readTrust_87 : decode cX11_readTrust 87 = .ok (.iconst 0, 1) := by decide +kernel
theorem dX11_readTrust_88 : decode cX11_readTrust 88 = .ok (.ireturn, 1) := by decide +kernel
theorem dX11_readTrust_89 : decode cX11_readTrust 89 = .ok (.aload_n 0, 1) := by decide +kernel
theorem dX11_readTrust_90 : decode cX11_readTrust 90 = .ok (.invokevirtual 156, 3) := by decide +kernel
theorem dX11_readTrust_93 : decode cX11_readTrust 93 = .ok (.istore_n 2, 1) := by decide +kernel
theorem dX11_readTrust_94 : decode cX11_readTrust 94 = .ok (.aload_n 0, 1) := by decide +kernel
theorem dX11_readTrust_95 : decode cX11_readTrust 95 = .ok (.iconst 0, 1) := by decide +kernel
theorem dX11_readTrust_96 : decode cX11_readTrust 96 = .ok (.bipush 10, 2) := by decide +kernel
theorem dX11_readTrust_98 : decode cX11_readTrust 98 = .ok (.invokevirtual 152, 3) := by decide +kernel
theorem dX11_readTrust_101 : decode cX11_readTrust 101 = .ok (.ifCond .ne 5, 3) := by decide +kernel
theorem dX11_readTrust_104 : decode cX11_readTrust 104 = .ok (.iconst 0, 1) := by decide +kernel
theorem dX11_readTrust_105 : decode cX11_readTrust 105 = .ok (.ireturn, 1) := by decide +kernel
theorem dX11_readTrust_106 : decode cX11_readTrust 106 = .ok (.aload_n 0, 1) := by decide +kernel
theorem dX11_readTrust_107 : decode cX11_readTrust 107 = .ok (.getfield 57, 3) := by decide +kernel
theorem dX11_readTrust_110 : decode cX11_readTrust 110 = .ok (.bipush 6, 2) := by decide +kernel
theorem dX11_readTrust_112 : decode cX11_readTrust 112 = .ok (.iload_n 1, 1) := by decide +kernel
theorem dX11_readTrust_113 : decode cX11_readTrust 113 = .ok (.imul, 1) := by decide +kernel
theorem dX11_readTrust_114 : decode cX11_readTrust 114 = .ok (.iload_n 2, 1) := by decide +kernel
theorem dX11_readTrust_115 : decode cX11_readTrust 115 = .ok (.iadd, 1) := by decide +kernel
theorem dX11_readTrust_116 : decode cX11_readTrust 116 = .ok (.aload_n 0, 1) := by decide +kernel
theorem dX11_readTrust_117 : decode cX11_readTrust 117 = .ok (.invokevirtual 156, 3) := by decide +kernel
theorem dX11_readTrust_120 : decode cX11_readTrust 120 = .ok (.iastore, 1) := by decide +kernel
theorem dX11_readTrust_121 : decode cX11_readTrust 121 = .ok (.aload_n 0, 1) := by decide +kernel
theorem dX11_readTrust_122 : decode cX11_readTrust 122 = .ok (.dup, 1) := by decide +kernel
theorem dX11_readTrust_123 : decode cX11_readTrust 123 = .ok (.getfield 169, 3) := by decide +kernel
theorem dX11_readTrust_126 : decode cX11_readTrust 126 = .ok (.iconst 1, 1) := by decide +kernel
theorem dX11_readTrust_127 : decode cX11_readTrust 127 = .ok (.iadd, 1) := by decide +kernel
theorem dX11_readTrust_128 : decode cX11_readTrust 128 = .ok (.putfield 169, 3) := by decide +kernel
theorem dX11_readTrust_131 : decode cX11_readTrust 131 = .ok (.aload_n 0, 1) := by decide +kernel
theorem dX11_readTrust_132 : decode cX11_readTrust 132 = .ok (.bipush 59, 2) := by decide +kernel
theorem dX11_readTrust_134 : decode cX11_readTrust 134 = .ok (.invokevirtual 160, 3) := by decide +kernel
theorem dX11_readTrust_137 : decode cX11_readTrust 137 = .ok (.ireturn, 1) := by decide +kernel
theorem dX11_readOther_0 : decode cX11_readOther 0 = .ok (.aload_n 0, 1) := by decide +kernel
theorem dX11_readOther_1 : decode cX11_readOther 1 = .ok (.getfield 172, 3) := by decide +kernel
theorem dX11_readOther_4 : decode cX11_readOther 4 = .ok (.iconst 4, 1) := by decide +kernel
theorem dX11_readOther_5 : decode cX11_readOther 5 = .ok (.if_icmp .ne 9, 3) := by decide +kernel
theorem dX11_readOther_8 : decode cX11_readOther 8 = .ok (.aload_n 0, 1) := by decide +kernel
theorem dX11_readOther_9 : decode cX11_readOther 9 = .ok (.iconst 3, 1) := by decide +kernel
theorem dX11_readOther_10 : decode cX11_readOther 10 = .ok (.invokevirtual 139, 3) := by decide +kernel
theorem dX11_readOther_13 : decode cX11_readOther 13 = .ok (.ireturn, 1) := by decide +kernel
theorem dX11_readOther_14 : decode cX11_readOther 14 = .ok (.aload_n 0, 1) := by decide +kernel
theorem dX11_readOther_15 : decode cX11_readOther 15 = .ok (.invokevirtual 143, 3) := by decide +kernel
theorem dX11_readOther_18 : decode cX11_readOther 18 = .ok (.aload_n 0, 1) := by decide +kernel
theorem dX11_readOther_19 : decode cX11_readOther 19 = .ok (.iconst 1, 1) := by decide +kernel
theorem dX11_readOther_20 : decode cX11_readOther 20 = .ok (.bipush 63, 2) := by decide +kernel
theorem dX11_readOther_22 : decode cX11_readOther 22 = .ok (.invokevirtual 152, 3) := by decide +kernel
theorem dX11_readOther_25 : decode cX11_readOther 25 = .ok (.ifCond .eq 23, 3) := by decide +kernel
theorem dX11_readOther_28 : decode cX11_readOther 28 = .ok (.aload_n 0, 1) := by decide +kernel
theorem dX11_readOther_29 : decode cX11_readOther 29 = .ok (.getfield 128, 3) := by decide +kernel
theorem dX11_readOther_32 : decode cX11_readOther 32 = .ok (.aload_n 0, 1) := by decide +kernel
theorem dX11_readOther_33 : decode cX11_readOther 33 = .ok (.getfield 166, 3) := by decide +kernel
theorem dX11_readOther_36 : decode cX11_readOther 36 = .ok (.ishr, 1) := by decide +kernel
theorem dX11_readOther_37 : decode cX11_readOther 37 = .ok (.ifCond .eq 13, 3) := by decide +kernel
theorem dX11_readOther_40 : decode cX11_readOther 40 = .ok (.aload_n 0, 1) := by decide +kernel
theorem dX11_readOther_41 : decode cX11_readOther 41 = .ok (.iconst 2, 1) := by decide +kernel
theorem dX11_readOther_42 : decode cX11_readOther 42 = .ok (.invokevirtual 139, 3) := by decide +kernel
theorem dX11_readOther_45 : decode cX11_readOther 45 = .ok (.ifCond .ne 5, 3) := by decide +kernel
theorem dX11_readOther_48 : decode cX11_readOther 48 = .ok (.iconst 0, 1) := by decide +kernel
theorem dX11_readOther_49 : decode cX11_readOther 49 = .ok (.ireturn, 1) := by decide +kernel
theorem dX11_readOther_50 : decode cX11_readOther 50 = .ok (.aload_n 0, 1) := by decide +kernel
theorem dX11_readOther_51 : decode cX11_readOther 51 = .ok (.getfield 60, 3) := by decide +kernel
theorem dX11_readOther_54 : decode cX11_readOther 54 = .ok (.aload_n 0, 1) := by decide +kernel
theorem dX11_readOther_55 : decode cX11_readOther 55 = .ok (.getfield 172, 3) := by decide +kernel
theorem dX11_readOther_58 : decode cX11_readOther 58 = .ok (.aload_n 0, 1) := by decide +kernel
theorem dX11_readOther_59 : decode cX11_readOther 59 = .ok (.invokevirtual 156, 3) := by decide +kernel
theorem dX11_readOther_62 : decode cX11_readOther 62 = .ok (.iastore, 1) := by decide +kernel
theorem dX11_readOther_63 : decode cX11_readOther 63 = .ok (.aload_n 0, 1) := by decide +kernel
theorem dX11_readOther_64 : decode cX11_readOther 64 = .ok (.dup, 1) := by decide +kernel
theorem dX11_readOther_65 : decode cX11_readOther 65 = .ok (.getfield 172, 3) := by decide +kernel
theorem dX11_readOther_68 : decode cX11_readOther 68 = .ok (.iconst 1, 1) := by decide +kernel
theorem dX11_readOther_69 : decode cX11_readOther 69 = .ok (.iadd, 1) := by decide +kernel
theorem dX11_readOther_70 : decode cX11_readOther 70 = .ok (.putfield 172, 3) := by decide +kernel
theorem dX11_readOther_73 : decode cX11_readOther 73 = .ok (.aload_n 0, 1) := by decide +kernel
theorem dX11_readOther_74 : decode cX11_readOther 74 = .ok (.bipush 59, 2) := by decide +kernel
theorem dX11_readOther_76 : decode cX11_readOther 76 = .ok (.invokevirtual 160, 3) := by decide +kernel
theorem dX11_readOther_79 : decode cX11_readOther 79 = .ok (.ireturn, 1) := by decide +kernel
theorem dX11_readTown_0 : decode cX11_readTown 0 = .ok (.aload_n 0, 1) := by decide +kernel
theorem dX11_readTown_1 : decode cX11_readTown 1 = .ok (.iconst 0, 1) := by decide +kernel
theorem dX11_readTown_2 : decode cX11_readTown 2 = .ok (.putfield 119, 3) := by decide +kernel
theorem dX11_readTown_5 : decode cX11_readTown 5 = .ok (.aload_n 0, 1) := by decide +kernel
theorem dX11_readTown_6 : decode cX11_readTown 6 = .ok (.iconst 0, 1) := by decide +kernel
theorem dX11_readTown_7 : decode cX11_readTown 7 = .ok (.putfield 149, 3) := by decide +kernel
theorem dX11_readTown_10 : decode cX11_readTown 10 = .ok (.aload_n 0, 1) := by decide +kernel
theorem dX11_readTown_11 : decode cX11_readTown 11 = .ok (.iconst 0, 1) := by decide +kernel
theorem dX11_readTown_12 : decode cX11_readTown 12 = .ok (.putfield 175, 3) := by decide +kernel
theorem dX11_readTown_15 : decode cX11_readTown 15 = .ok (.aload_n 0, 1) := by decide +kernel
theorem dX11_readTown_16 : decode cX11_readTown 16 = .ok (.iconst 0, 1) := by decide +kernel
theorem dX11_readTown_17 : decode cX11_readTown 17 = .ok (.putfield 146, 3) := by decide +kernel
theorem dX11_readTown_20 : decode cX11_readTown 20 = .ok (.aload_n 0, 1) := by decide +kernel
theorem dX11_readTown_21 : decode cX11_readTown 21 = .ok (.iconst 0, 1) := by decide +kernel
theorem dX11_readTown_22 : decode cX11_readTown 22 = .ok (.putfield 163, 3) := by decide +kernel
theorem dX11_readTown_25 : decode cX11_readTown 25 = .ok (.aload_n 0, 1) := by decide +kernel
theorem dX11_readTown_26 : decode cX11_readTown 26 = .ok (.iconst 0, 1) := by decide +kernel
theorem dX11_readTown_27 : decode cX11_readTown 27 = .ok (.putfield 166, 3) := by decide +kernel
theorem dX11_readTown_30 : decode cX11_readTown 30 = .ok (.aload_n 0, 1) := by decide +kernel
theorem dX11_readTown_31 : decode cX11_readTown 31 = .ok (.iconst 0, 1) := by decide +kernel
theorem dX11_readTown_32 : decode cX11_readTown 32 = .ok (.putfield 169, 3) := by decide +kernel
theorem dX11_readTown_35 : decode cX11_readTown 35 = .ok (.aload_n 0, 1) := by decide +kernel
theorem dX11_readTown_36 : decode cX11_readTown 36 = .ok (.iconst 0, 1) := by decide +kernel
theorem dX11_readTown_37 : decode cX11_readTown 37 = .ok (.putfield 172, 3) := by decide +kernel
theorem dX11_readTown_40 : decode cX11_readTown 40 = .ok (.iconst 0, 1) := by decide +kernel
theorem dX11_readTown_41 : decode cX11_readTown 41 = .ok (.istore_n 1, 1) := by decide +kernel
theorem dX11_readTown_42 : decode cX11_readTown 42 = .ok (.iload_n 1, 1) := by decide +kernel
theorem dX11_readTown_43 : decode cX11_readTown 43 = .ok (.bipush 49, 2) := by decide +kernel
theorem dX11_readTown_45 : decode cX11_readTown 45 = .ok (.if_icmp .ge 16, 3) := by decide +kernel
theorem dX11_readTown_48 : decode cX11_readTown 48 = .ok (.aload_n 0, 1) := by decide +kernel
theorem dX11_readTown_49 : decode cX11_readTown 49 = .ok (.getfield 48, 3) := by decide +kernel
theorem dX11_readTown_52 : decode cX11_readTown 52 = .ok (.iload_n 1, 1) := by decide +kernel
theorem dX11_readTown_53 : decode cX11_readTown 53 = .ok (.iconst 0, 1) := by decide +kernel
theorem dX11_readTown_54 : decode cX11_readTown 54 = .ok (.iastore, 1) := by decide +kernel
theorem dX11_readTown_55 : decode cX11_readTown 55 = .ok (.iinc 1 1, 3) := by decide +kernel
theorem dX11_readTown_58 : decode cX11_readTown 58 = .ok (.goto (-16), 3) := by decide +kernel
theorem dX11_readTown_61 : decode cX11_readTown 61 = .ok (.iconst 0, 1) := by decide +kernel
theorem dX11_readTown_62 : decode cX11_readTown 62 = .ok (.istore_n 1, 1) := by decide +kernel
theorem dX11_readTown_63 : decode cX11_readTown 63 = .ok (.iload_n 1, 1) := by decide +kernel
theorem dX11_readTown_64 : decode cX11_readTown 64 = .ok (.bipush 36, 2) := by decide +kernel
theorem dX11_readTown_66 : decode cX11_readTown 66 = .ok (.if_icmp .ge 16, 3) := by decide +kernel
theorem dX11_readTown_69 : decode cX11_readTown 69 = .ok (.aload_n 0, 1) := by decide +kernel
theorem dX11_readTown_70 : decode cX11_readTown 70 = .ok (.getfield 57, 3) := by decide +kernel
theorem dX11_readTown_73 : decode cX11_readTown 73 = .ok (.iload_n 1, 1) := by decide +kernel
theorem dX11_readTown_74 : decode cX11_readTown 74 = .ok (.iconst (-1), 1) := by decide +kernel
theorem dX11_readTown_75 : decode cX11_readTown 75 = .ok (.iastore, 1) := by decide +kernel
theorem dX11_readTown_76 : decode cX11_readTown 76 = .ok (.iinc 1 1, 3) := by decide +kernel
theorem dX11_readTown_79 : decode cX11_readTown 79 = .ok (.goto (-16), 3) := by decide +kernel
theorem dX11_readTown_82 : decode cX11_readTown 82 = .ok (.aload_n 0, 1) := by decide +kernel
theorem dX11_readTown_83 : decode cX11_readTown 83 = .ok (.invokevirtual 143, 3) := by decide +kernel
theorem dX11_readTown_86 : decode cX11_readTown 86 = .ok (.aload_n 0, 1) := by decide +kernel
theorem dX11_readTown_87 : decode cX11_readTown 87 = .ok (.getfield 125, 3) := by decide +kernel
theorem dX11_readTown_90 : decode cX11_readTown 90 = .ok (.iconst 3, 1) := by decide +kernel
theorem dX11_readTown_91 : decode cX11_readTown 91 = .ok (.if_icmp .ne 5, 3) := by decide +kernel
theorem dX11_readTown_94 : decode cX11_readTown 94 = .ok (.iconst 1, 1) := by decide +kernel
theorem dX11_readTown_95 : decode cX11_readTown 95 = .ok (.ireturn, 1) := by decide +kernel
theorem dX11_readTown_96 : decode cX11_readTown 96 = .ok (.aload_n 0, 1) := by decide +kernel
theorem dX11_readTown_97 : decode cX11_readTown 97 = .ok (.bipush 116, 2) := by decide +kernel
theorem dX11_readTown_99 : decode cX11_readTown 99 = .ok (.invokevirtual 160, 3) := by decide +kernel
theorem dX11_readTown_102 : decode cX11_readTown 102 = .ok (.ifCond .eq 13, 3) := by decide +kernel
theorem dX11_readTown_105 : decode cX11_readTown 105 = .ok (.aload_n 0, 1) := by decide +kernel
theorem dX11_readTown_106 : decode cX11_readTown 106 = .ok (.iconst 1, 1) := by decide +kernel
theorem dX11_readTown_107 : decode cX11_readTown 107 = .ok (.bipush 7, 2) := by decide +kernel
theorem dX11_readTown_109 : decode cX11_readTown 109 = .ok (.invokevirtual 152, 3) := by decide +kernel
theorem dX11_readTown_112 : decode cX11_readTown 112 = .ok (.ifCond .ne 5, 3) := by decide +kernel
theorem dX11_readTown_115 : decode cX11_readTown 115 = .ok (.iconst 0, 1) := by decide +kernel
theorem dX11_readTown_116 : decode cX11_readTown 116 = .ok (.ireturn, 1) := by decide +kernel
theorem dX11_readTown_117 : decode cX11_readTown 117 = .ok (.aload_n 0, 1) := by decide +kernel
theorem dX11_readTown_118 : decode cX11_readTown 118 = .ok (.aload_n 0, 1) := by decide +kernel
theorem dX11_readTown_119 : decode cX11_readTown 119 = .ok (.invokevirtual 156, 3) := by decide +kernel
theorem dX11_readTown_122 : decode cX11_readTown 122 = .ok (.putfield 149, 3) := by decide +kernel
theorem dX11_readTown_125 : decode cX11_readTown 125 = .ok (.aload_n 0, 1) := by decide +kernel
theorem dX11_readTown_126 : decode cX11_readTown 126 = .ok (.iconst 0, 1) := by decide +kernel
theorem dX11_readTown_127 : decode cX11_readTown 127 = .ok (.aload_n 0, 1) := by decide +kernel
theorem dX11_readTown_128 : decode cX11_readTown 128 = .ok (.getfield 149, 3) := by decide +kernel
theorem dX11_readTown_131 : decode cX11_readTown 131 = .ok (.iconst 1, 1) := by decide +kernel
theorem dX11_readTown_132 : decode cX11_readTown 132 = .ok (.isub, 1) := by decide +kernel
theorem dX11_readTown_133 : decode cX11_readTown 133 = .ok (.invokevirtual 152, 3) := by decide +kernel
theorem dX11_readTown_136 : decode cX11_readTown 136 = .ok (.ifCond .ne 5, 3) := by decide +kernel
theorem dX11_readTown_139 : decode cX11_readTown 139 = .ok (.iconst 0, 1) := by decide +kernel
theorem dX11_readTown_140 : decode cX11_readTown 140 = .ok (.ireturn, 1) := by decide +kernel
theorem dX11_readTown_141 : decode cX11_readTown 141 = .ok (.aload_n 0, 1) := by decide +kernel
theorem dX11_readTown_142 : decode cX11_readTown 142 = .ok (.aload_n 0, 1) := by decide +kernel
theorem dX11_readTown_143 : decode cX11_readTown 143 = .ok (.invokevirtual 156, 3) := by decide +kernel
theorem dX11_readTown_146 : decode cX11_readTown 146 = .ok (.putfield 175, 3) := by decide +kernel
theorem dX11_readTown_149 : decode cX11_readTown 149 = .ok (.aload_n 0, 1) := by decide +kernel
theorem dX11_readTown_150 : decode cX11_readTown 150 = .ok (.bipush 59, 2) := by decide +kernel
theorem dX11_readTown_152 : decode cX11_readTown 152 = .ok (.invokevirtual 160, 3) := by decide +kernel
theorem dX11_readTown_155 : decode cX11_readTown 155 = .ok (.ifCond .ne 5, 3) := by decide +kernel
theorem dX11_readTown_158 : decode cX11_readTown 158 = .ok (.iconst 0, 1) := by decide +kernel
theorem dX11_readTown_159 : decode cX11_readTown 159 = .ok (.ireturn, 1) := by decide +kernel
theorem dX11_readTown_160 : decode cX11_readTown 160 = .ok (.iconst 1, 1) := by decide +kernel
theorem dX11_readTown_161 : decode cX11_readTown 161 = .ok (.istore_n 1, 1) := by decide +kernel
theorem dX11_readTown_162 : decode cX11_readTown 162 = .ok (.iload_n 1, 1) := by decide +kernel
theorem dX11_readTown_163 : decode cX11_readTown 163 = .ok (.ifCond .eq 125, 3) := by decide +kernel
theorem dX11_readTown_166 : decode cX11_readTown 166 = .ok (.aload_n 0, 1) := by decide +kernel
theorem dX11_readTown_167 : decode cX11_readTown 167 = .ok (.getfield 125, 3) := by decide +kernel
theorem dX11_readTown_170 : decode cX11_readTown 170 = .ok (.iconst 3, 1) := by decide +kernel
theorem dX11_readTown_171 : decode cX11_readTown 171 = .ok (.if_icmp .eq 117, 3) := by decide +kernel
theorem dX11_readTown_174 : decode cX11_readTown 174 = .ok (.aload_n 0, 1) := by decide +kernel
theorem dX11_readTown_175 : decode cX11_readTown 175 = .ok (.getfield 125, 3) := by decide +kernel
theorem dX11_readTown_178 : decode cX11_readTown 178 = .ok (.iconst 1, 1) := by decide +kernel
theorem dX11_readTown_179 : decode cX11_readTown 179 = .ok (.if_icmp .ne 10, 3) := by decide +kernel
theorem dX11_readTown_182 : decode cX11_readTown 182 = .ok (.aload_n 0, 1) := by decide +kernel
theorem dX11_readTown_183 : decode cX11_readTown 183 = .ok (.getfield 128, 3) := by decide +kernel
theorem dX11_readTown_186 : decode cX11_readTown 186 = .ok (.goto 4, 3) := by decide +kernel
theorem dX11_readTown_189 : decode cX11_readTown 189 = .ok (.iconst 0, 1) := by decide +kernel
theorem dX11_readTown_190 : decode cX11_readTown 190 = .ok (.istore_n 2, 1) := by decide +kernel
theorem dX11_readTown_191 : decode cX11_readTown 191 = .ok (.iload_n 2, 1) := by decide +kernel
theorem dX11_readTown_192 : decode cX11_readTown 192 = .ok (.bipush 119, 2) := by decide +kernel
theorem dX11_readTown_194 : decode cX11_readTown 194 = .ok (.if_icmp .ne 10, 3) := by decide +kernel
theorem dX11_readTown_197 : decode cX11_readTown 197 = .ok (.aload_n 0, 1) := by decide +kernel
theorem dX11_readTown_198 : decode cX11_readTown 198 = .ok (.invokevirtual 178, 3) := by decide +kernel
theorem dX11_readTown_201 : decode cX11_readTown 201 = .ok (.goto 83, 3) := by decide +kernel
theorem dX11_readTown_204 : decode cX11_readTown 204 = .ok (.iload_n 2, 1) := by decide +kernel
theorem dX11_readTown_205 : decode cX11_readTown 205 = .ok (.bipush 112, 2) := by decide +kernel
theorem dX11_readTown_207 : decode cX11_readTown 207 = .ok (.if_icmp .ne 10, 3) := by decide +kernel
theorem dX11_readTown_210 : decode cX11_readTown 210 = .ok (.aload_n 0, 1) := by decide +kernel
theorem dX11_readTown_211 : decode cX11_readTown 211 = .ok (.invokevirtual 182, 3) := by decide +kernel
theorem dX11_readTown_214 : decode cX11_readTown 214 = .ok (.goto 70, 3) := by decide +kernel
theorem dX11_readTown_217 : decode cX11_readTown 217 = .ok (.iload_n 2, 1) := by decide +kernel
theorem dX11_readTown_218 : decode cX11_readTown 218 = .ok (.bipush 100, 2) := by decide +kernel
theorem dX11_readTown_220 : decode cX11_readTown 220 = .ok (.if_icmp .ne 10, 3) := by decide +kernel
theorem dX11_readTown_223 : decode cX11_readTown 223 = .ok (.aload_n 0, 1) := by decide +kernel
theorem dX11_readTown_224 : decode cX11_readTown 224 = .ok (.invokevirtual 185, 3) := by decide +kernel
theorem dX11_readTown_227 : decode cX11_readTown 227 = .ok (.goto 57, 3) := by decide +kernel
theorem dX11_readTown_230 : decode cX11_readTown 230 = .ok (.iload_n 2, 1) := by decide +kernel
theorem dX11_readTown_231 : decode cX11_readTown 231 = .ok (.bipush 114, 2) := by decide +kernel
theorem dX11_readTown_233 : decode cX11_readTown 233 = .ok (.if_icmp .ne 10, 3) := by decide +kernel
theorem dX11_readTown_236 : decode cX11_readTown 236 = .ok (.aload_n 0, 1) := by decide +kernel
theorem dX11_readTown_237 : decode cX11_readTown 237 = .ok (.invokevirtual 188, 3) := by decide +kernel
theorem dX11_readTown_240 : decode cX11_readTown 240 = .ok (.goto 44, 3) := by decide +kernel
theorem dX11_readTown_243 : decode cX11_readTown 243 = .ok (.iload_n 2, 1) := by decide +kernel
theorem dX11_readTown_244 : decode cX11_readTown 244 = .ok (.bipush 113, 2) := by decide +kernel
theorem dX11_readTown_246 : decode cX11_readTown 246 = .ok (.if_icmp .ne 10, 3) := by decide +kernel
theorem dX11_readTown_249 : decode cX11_readTown 249 = .ok (.aload_n 0, 1) := by decide +kernel
theorem dX11_readTown_250 : decode cX11_readTown 250 = .ok (.invokevirtual 191, 3) := by decide +kernel
theorem dX11_readTown_253 : decode cX11_readTown 253 = .ok (.goto 31, 3) := by decide +kernel
theorem dX11_readTown_256 : decode cX11_readTown 256 = .ok (.iload_n 2, 1) := by decide +kernel
theorem dX11_readTown_257 : decode cX11_readTown 257 = .ok (.bipush 111, 2) := by decide +kernel
theorem dX11_readTown_259 : decode cX11_readTown 259 = .ok (.if_icmp .ne 10, 3) := by decide +kernel
theorem dX11_readTown_262 : decode cX11_readTown 262 = .ok (.aload_n 0, 1) := by decide +kernel
theorem dX11_readTown_263 : decode cX11_readTown 263 = .ok (.invokevirtual 194, 3) := by decide +kernel
theorem dX11_readTown_266 : decode cX11_readTown 266 = .ok (.goto 18, 3) := by decide +kernel
theorem dX11_readTown_269 : decode cX11_readTown 269 = .ok (.aload_n 0, 1) := by decide +kernel
theorem dX11_readTown_270 : decode cX11_readTown 270 = .ok (.iload_n 2, 1) := by decide +kernel
theorem dX11_readTown_271 : decode cX11_readTown 271 = .ok (.bipush 116, 2) := by decide +kernel
theorem dX11_readTown_273 : decode cX11_readTown 273 = .ok (.if_icmp .ne 7, 3) := by decide +kernel
theorem dX11_readTown_276 : decode cX11_readTown 276 = .ok (.iconst 3, 1) := by decide +kernel
theorem dX11_readTown_277 : decode cX11_readTown 277 = .ok (.goto 4, 3) := by decide +kernel
theorem dX11_readTown_280 : decode cX11_readTown 280 = .ok (.iconst 1, 1) := by decide +kernel
theorem dX11_readTown_281 : decode cX11_readTown 281 = .ok (.invokevirtual 139, 3) := by decide +kernel
theorem dX11_readTown_284 : decode cX11_readTown 284 = .ok (.istore_n 1, 1) := by decide +kernel
theorem dX11_readTown_285 : decode cX11_readTown 285 = .ok (.goto (-123), 3) := by decide +kernel
theorem dX11_readTown_288 : decode cX11_readTown 288 = .ok (.iload_n 1, 1) := by decide +kernel
theorem dX11_readTown_289 : decode cX11_readTown 289 = .ok (.ireturn, 1) := by decide +kernel
theorem dX11_findFars_0 : decode cX11_findFars 0 = .ok (.iconst 0, 1) := by decide +kernel
theorem dX11_findFars_1 : decode cX11_findFars 1 = .ok (.istore_n 1, 1) := by decide +kernel
theorem dX11_findFars_2 : decode cX11_findFars 2 = .ok (.iload_n 1, 1) := by decide +kernel
theorem dX11_findFars_3 : decode cX11_findFars 3 = .ok (.bipush 49, 2) := by decide +kernel
theorem dX11_findFars_5 : decode cX11_findFars 5 = .ok (.if_icmp .ge 70, 3) := by decide +kernel
theorem dX11_findFars_8 : decode cX11_findFars 8 = .ok (.aload_n 0, 1) := by decide +kernel
theorem dX11_findFars_9 : decode cX11_findFars 9 = .ok (.getfield 20, 3) := by decide +kernel
theorem dX11_findFars_12 : decode cX11_findFars 12 = .ok (.iload_n 1, 1) := by decide +kernel
theorem dX11_findFars_13 : decode cX11_findFars 13 = .ok (.aload_n 0, 1) := by decide +kernel
theorem dX11_findFars_14 : decode cX11_findFars 14 = .ok (.getfield 48, 3) := by decide +kernel
theorem dX11_findFars_17 : decode cX11_findFars 17 = .ok (.iload_n 1, 1) := by decide +kernel
theorem dX11_findFars_18 : decode cX11_findFars 18 = .ok (.iaload, 1) := by decide +kernel
theorem dX11_findFars_19 : decode cX11_findFars 19 = .ok (.ifCond .le 7, 3) := by decide +kernel
theorem dX11_findFars_22 : decode cX11_findFars 22 = .ok (.iconst 1, 1) := by decide +kernel
theorem dX11_findFars_23 : decode cX11_findFars 23 = .ok (.goto 4, 3) := by decide +kernel
theorem dX11_findFars_26 : decode cX11_findFars 26 = .ok (.iconst 0, 1) := by decide +kernel
theorem dX11_findFars_27 : decode cX11_findFars 27 = .ok (.bastore, 1) := by decide +kernel
theorem dX11_findFars_28 : decode cX11_findFars 28 = .ok (.aload_n 0, 1) := by decide +kernel
theorem dX11_findFars_29 : decode cX11_findFars 29 = .ok (.getfield 17, 3) := by decide +kernel
theorem dX11_findFars_32 : decode cX11_findFars 32 = .ok (.iload_n 1, 1) := by decide +kernel
theorem dX11_findFars_33 : decode cX11_findFars 33 = .ok (.iload_n 1, 1) := by decide +kernel
theorem dX11_findFars_34 : decode cX11_findFars 34 = .ok (.bipush 7, 2) := by decide +kernel
theorem dX11_findFars_36 : decode cX11_findFars 36 = .ok (.idiv, 1) := by decide +kernel
theorem dX11_findFars_37 : decode cX11_findFars 37 = .ok (.iload_n 1, 1) := by decide +kernel
theorem dX11_findFars_38 : decode cX11_findFars 38 = .ok (.bipush 7, 2) := by decide +kernel
theorem dX11_findFars_40 : decode cX11_findFars 40 = .ok (.irem, 1) := by decide +kernel
theorem dX11_findFars_41 : decode cX11_findFars 41 = .ok (.if_icmp .ne 7, 3) := by decide +kernel
theorem dX11_findFars_44 : decode cX11_findFars 44 = .ok (.iconst 0, 1) := by decide +kernel
theorem dX11_findFars_45 : decode cX11_findFars 45 = .ok (.goto 23, 3) := by decide +kernel
theorem dX11_findFars_48 : decode cX11_findFars 48 = .ok (.aload_n 0, 1) := by decide +kernel
theorem dX11_findFars_49 : decode cX11_findFars 49 = .ok (.getfield 48, 3) := by decide +kernel
theorem dX11_findFars_52 : decode cX11_findFars 52 = .ok (.iload_n 1, 1) := by decide +kernel
theorem dX11_findFars_53 : decode cX11_findFars 53 = .ok (.iaload, 1) := by decide +kernel
theorem dX11_findFars_54 : decode cX11_findFars 54 = .ok (.ifCond .le 12, 3) := by decide +kernel
theorem dX11_findFars_57 : decode cX11_findFars 57 = .ok (.aload_n 0, 1) := by decide +kernel
theorem dX11_findFars_58 : decode cX11_findFars 58 = .ok (.getfield 48, 3) := by decide +kernel
theorem dX11_findFars_61 : decode cX11_findFars 61 = .ok (.iload_n 1, 1) := by decide +kernel
theorem dX11_findFars_62 : decode cX11_findFars 62 = .ok (.iaload, 1) := by decide +kernel
theorem dX11_findFars_63 : decode cX11_findFars 63 = .ok (.goto 5, 3) := by decide +kernel
theorem dX11_findFars_66 : decode cX11_findFars 66 = .ok (.ldc 135, 2) := by decide +kernel
theorem dX11_findFars_68 : decode cX11_findFars 68 = .ok (.iastore, 1) := by decide +kernel
theorem dX11_findFars_69 : decode cX11_findFars 69 = .ok (.iinc 1 1, 3) := by decide +kernel
theorem dX11_findFars_72 : decode cX11_findFars 72 = .ok (.goto (-70), 3) := by decide +kernel
theorem dX11_findFars_75 : decode cX11_findFars 75 = .ok (.iconst 0, 1) := by decide +kernel
theorem dX11_findFars_76 : decode cX11_findFars 76 = .ok (.istore_n 1, 1) := by decide +kernel
theorem dX11_findFars_77 : decode cX11_findFars 77 = .ok (.iload_n 1, 1) := by decide +kernel
theorem dX11_findFars_78 : decode cX11_findFars 78 = .ok (.bipush 7, 2) := by decide +kernel
theorem dX11_findFars_80 : decode cX11_findFars 80 = .ok (.if_icmp .ge 79, 3) := by decide +kernel
theorem dX11_findFars_83 : decode cX11_findFars 83 = .ok (.iconst 0, 1) := by decide +kernel
theorem dX11_findFars_84 : decode cX11_findFars 84 = .ok (.istore_n 2, 1) := by decide +kernel
theorem dX11_findFars_85 : decode cX11_findFars 85 = .ok (.iload_n 2, 1) := by decide +kernel
theorem dX11_findFars_86 : decode cX11_findFars 86 = .ok (.bipush 49, 2) := by decide +kernel
theorem dX11_findFars_88 : decode cX11_findFars 88 = .ok (.if_icmp .ge 65, 3) := by decide +kernel
theorem dX11_findFars_91 : decode cX11_findFars 91 = .ok (.aload_n 0, 1) := by decide +kernel
theorem dX11_findFars_92 : decode cX11_findFars 92 = .ok (.getfield 17, 3) := by decide +kernel
theorem dX11_findFars_95 : decode cX11_findFars 95 = .ok (.iload_n 2, 1) := by decide +kernel
theorem dX11_findFars_96 : decode cX11_findFars 96 = .ok (.bipush 7, 2) := by decide +kernel
theorem dX11_findFars_98 : decode cX11_findFars 98 = .ok (.idiv, 1) := by decide +kernel
theorem dX11_findFars_99 : decode cX11_findFars 99 = .ok (.bipush 7, 2) := by decide +kernel
theorem dX11_findFars_101 : decode cX11_findFars 101 = .ok (.imul, 1) := by decide +kernel
theorem dX11_findFars_102 : decode cX11_findFars 102 = .ok (.iload_n 1, 1) := by decide +kernel
theorem dX11_findFars_103 : decode cX11_findFars 103 = .ok (.iadd, 1) := by decide +kernel
theorem dX11_findFars_104 : decode cX11_findFars 104 = .ok (.iaload, 1) := by decide +kernel
theorem dX11_findFars_105 : decode cX11_findFars 105 = .ok (.aload_n 0, 1) := by decide +kernel
theorem dX11_findFars_106 : decode cX11_findFars 106 = .ok (.getfield 17, 3) := by decide +kernel
theorem dX11_findFars_109 : decode cX11_findFars 109 = .ok (.bipush 7, 2) := by decide +kernel
theorem dX11_findFars_111 : decode cX11_findFars 111 = .ok (.iload_n 1, 1) := by decide +kernel
theorem dX11_findFars_112 : decode cX11_findFars 112 = .ok (.imul, 1) := by decide +kernel
theorem dX11_findFars_113 : decode cX11_findFars 113 = .ok (.iload_n 2, 1) := by decide +kernel
theorem dX11_findFars_114 : decode cX11_findFars 114 = .ok (.bipush 7, 2) := by decide +kernel
theorem dX11_findFars_116 : decode cX11_findFars 116 = .ok (.irem, 1) := by decide +kernel
theorem dX11_findFars_117 : decode cX11_findFars 117 = .ok (.iadd, 1) := by decide +kernel
theorem dX11_findFars_118 : decode cX11_findFars 118 = .ok (.iaload, 1) := by decide +kernel
theorem dX11_findFars_119 : decode cX11_findFars 119 = .ok (.iadd, 1) := by decide +kernel
theorem dX11_findFars_120 : decode cX11_findFars 120 = .ok (.istore_n 3, 1) := by decide +kernel
theorem dX11_findFars_121 : decode cX11_findFars 121 = .ok (.aload_n 0, 1) := by decide +kernel
theorem dX11_findFars_122 : decode cX11_findFars 122 = .ok (.getfield 17, 3) := by decide +kernel
theorem dX11_findFars_125 : decode cX11_findFars 125 = .ok (.iload_n 2, 1) := by decide +kernel
theorem dX11_findFars_126 : decode cX11_findFars 126 = .ok (.iload_n 3, 1) := by decide +kernel
theorem dX11_findFars_127 : decode cX11_findFars 127 = .ok (.aload_n 0, 1) := by decide +kernel
theorem dX11_findFars_128 : decode cX11_findFars 128 = .ok (.getfield 17, 3) := by decide +kernel
theorem dX11_findFars_131 : decode cX11_findFars 131 = .ok (.iload_n 2, 1) := by decide +kernel
theorem dX11_findFars_132 : decode cX11_findFars 132 = .ok (.iaload, 1) := by decide +kernel
theorem dX11_findFars_133 : decode cX11_findFars 133 = .ok (.if_icmp .ge 7, 3) := by decide +kernel
theorem dX11_findFars_136 : decode cX11_findFars 136 = .ok (.iload_n 3, 1) := by decide +kernel
theorem dX11_findFars_137 : decode cX11_findFars 137 = .ok (.goto 9, 3) := by decide +kernel
theorem dX11_findFars_140 : decode cX11_findFars 140 = .ok (.aload_n 0, 1) := by decide +kernel
theorem dX11_findFars_141 : decode cX11_findFars 141 = .ok (.getfield 17, 3) := by decide +kernel
theorem dX11_findFars_144 : decode cX11_findFars 144 = .ok (.iload_n 2, 1) := by decide +kernel
theorem dX11_findFars_145 : decode cX11_findFars 145 = .ok (.iaload, 1) := by decide +kernel
theorem dX11_findFars_146 : decode cX11_findFars 146 = .ok (.iastore, 1) := by decide +kernel
theorem dX11_findFars_147 : decode cX11_findFars 147 = .ok (.iinc 2 1, 3) := by decide +kernel
theorem dX11_findFars_150 : decode cX11_findFars 150 = .ok (.goto (-65), 3) := by decide +kernel
theorem dX11_findFars_153 : decode cX11_findFars 153 = .ok (.iinc 1 1, 3) := by decide +kernel
theorem dX11_findFars_156 : decode cX11_findFars 156 = .ok (.goto (-79), 3) := by decide +kernel
theorem dX11_findFars_159 : decode cX11_findFars 159 = .ok (.return_, 1) := by decide +kernel
theorem dX11_town_0 : decode cX11_town 0 = .ok (.aload_n 0, 1) := by decide +kernel
theorem dX11_town_1 : decode cX11_town 1 = .ok (.invokevirtual 197, 3) := by decide +kernel
theorem dX11_town_4 : decode cX11_town 4 = .ok (.istore_n 1, 1) := by decide +kernel
theorem dX11_town_5 : decode cX11_town 5 = .ok (.aload_n 0, 1) := by decide +kernel
theorem dX11_town_6 : decode cX11_town 6 = .ok (.iconst 0, 1) := by decide +kernel
theorem dX11_town_7 : decode cX11_town 7 = .ok (.putfield 115, 3) := by decide +kernel
theorem dX11_town_10 : decode cX11_town 10 = .ok (.aload_n 0, 1) := by decide +kernel
theorem dX11_town_11 : decode cX11_town 11 = .ok (.iload_n 1, 1) := by decide +kernel
theorem dX11_town_12 : decode cX11_town 12 = .ok (.ifCond .eq 7, 3) := by decide +kernel
theorem dX11_town_15 : decode cX11_town 15 = .ok (.iconst (-1), 1) := by decide +kernel
theorem dX11_town_16 : decode cX11_town 16 = .ok (.goto 7, 3) := by decide +kernel
theorem dX11_town_19 : decode cX11_town 19 = .ok (.aload_n 0, 1) := by decide +kernel
theorem dX11_town_20 : decode cX11_town 20 = .ok (.getfield 122, 3) := by decide +kernel
theorem dX11_town_23 : decode cX11_town 23 = .ok (.putfield 13, 3) := by decide +kernel
theorem dX11_town_26 : decode cX11_town 26 = .ok (.iload_n 1, 1) := by decide +kernel
theorem dX11_town_27 : decode cX11_town 27 = .ok (.ifCond .ne 11, 3) := by decide +kernel
theorem dX11_town_30 : decode cX11_town 30 = .ok (.bipush (-10), 2) := by decide +kernel
theorem dX11_town_32 : decode cX11_town 32 = .ok (.aload_n 0, 1) := by decide +kernel
theorem dX11_town_33 : decode cX11_town 33 = .ok (.getfield 136, 3) := by decide +kernel
theorem dX11_town_36 : decode cX11_town 36 = .ok (.isub, 1) := by decide +kernel
theorem dX11_town_37 : decode cX11_town 37 = .ok (.ireturn, 1) := by decide +kernel
theorem dX11_town_38 : decode cX11_town 38 = .ok (.aload_n 0, 1) := by decide +kernel
theorem dX11_town_39 : decode cX11_town 39 = .ok (.aload_n 0, 1) := by decide +kernel
theorem dX11_town_40 : decode cX11_town 40 = .ok (.getfield 149, 3) := by decide +kernel
theorem dX11_town_43 : decode cX11_town 43 = .ok (.putfield 99, 3) := by decide +kernel
theorem dX11_town_46 : decode cX11_town 46 = .ok (.aload_n 0, 1) := by decide +kernel
theorem dX11_town_47 : decode cX11_town 47 = .ok (.aload_n 0, 1) := by decide +kernel
theorem dX11_town_48 : decode cX11_town 48 = .ok (.getfield 175, 3) := by decide +kernel
theorem dX11_town_51 : decode cX11_town 51 = .ok (.putfield 200, 3) := by decide +kernel
theorem dX11_town_54 : decode cX11_town 54 = .ok (.aload_n 0, 1) := by decide +kernel
theorem dX11_town_55 : decode cX11_town 55 = .ok (.aload_n 0, 1) := by decide +kernel
theorem dX11_town_56 : decode cX11_town 56 = .ok (.getfield 163, 3) := by decide +kernel
theorem dX11_town_59 : decode cX11_town 59 = .ok (.putfield 106, 3) := by decide +kernel
theorem dX11_town_62 : decode cX11_town 62 = .ok (.aload_n 0, 1) := by decide +kernel
theorem dX11_town_63 : decode cX11_town 63 = .ok (.aload_n 0, 1) := by decide +kernel
theorem dX11_town_64 : decode cX11_town 64 = .ok (.getfield 166, 3) := by decide +kernel
theorem dX11_town_67 : decode cX11_town 67 = .ok (.putfield 109, 3) := by decide +kernel
theorem dX11_town_70 : decode cX11_town 70 = .ok (.aload_n 0, 1) := by decide +kernel
theorem dX11_town_71 : decode cX11_town 71 = .ok (.aload_n 0, 1) := by decide +kernel
theorem dX11_town_72 : decode cX11_town 72 = .ok (.getfield 172, 3) := by decide +kernel
theorem dX11_town_75 : decode cX11_town 75 = .ok (.putfield 203, 3) := by decide +kernel
theorem dX11_town_78 : decode cX11_town 78 = .ok (.aload_n 0, 1) := by decide +kernel
theorem dX11_town_79 : decode cX11_town 79 = .ok (.invokevirtual 206, 3) := by decide +kernel
theorem dX11_town_82 : decode cX11_town 82 = .ok (.iconst 0, 1) := by decide +kernel
theorem dX11_town_83 : decode cX11_town 83 = .ok (.istore_n 2, 1) := by decide +kernel
theorem dX11_town_84 : decode cX11_town 84 = .ok (.iload_n 2, 1) := by decide +kernel
theorem dX11_town_85 : decode cX11_town 85 = .ok (.bipush 6, 2) := by decide +kernel
theorem dX11_town_87 : decode cX11_town 87 = .ok (.if_icmp .ge 39, 3) := by decide +kernel
theorem dX11_town_90 : decode cX11_town 90 = .ok (.aload_n 0, 1) := by decide +kernel
theorem dX11_town_91 : decode cX11_town 91 = .ok (.getfield 24, 3) := by decide +kernel
theorem dX11_town_94 : decode cX11_town 94 = .ok (.iload_n 2, 1) := by decide +kernel
theorem dX11_town_95 : decode cX11_town 95 = .ok (.aload_n 0, 1) := by decide +kernel
theorem dX11_town_96 : decode cX11_town 96 = .ok (.getfield 51, 3) := by decide +kernel
theorem dX11_town_99 : decode cX11_town 99 = .ok (.iconst 2, 1) := by decide +kernel
theorem dX11_town_100 : decode cX11_town 100 = .ok (.iload_n 2, 1) := by decide +kernel
theorem dX11_town_101 : decode cX11_town 101 = .ok (.imul, 1) := by decide +kernel
theorem dX11_town_102 : decode cX11_town 102 = .ok (.iaload, 1) := by decide +kernel
theorem dX11_town_103 : decode cX11_town 103 = .ok (.iastore, 1) := by decide +kernel
theorem dX11_town_104 : decode cX11_town 104 = .ok (.aload_n 0, 1) := by decide +kernel
theorem dX11_town_105 : decode cX11_town 105 = .ok (.getfield 27, 3) := by decide +kernel
theorem dX11_town_108 : decode cX11_town 108 = .ok (.iload_n 2, 1) := by decide +kernel
theorem dX11_town_109 : decode cX11_town 109 = .ok (.aload_n 0, 1) := by decide +kernel
theorem dX11_town_110 : decode cX11_town 110 = .ok (.getfield 51, 3) := by decide +kernel
theorem dX11_town_113 : decode cX11_town 113 = .ok (.iconst 2, 1) := by decide +kernel
theorem dX11_town_114 : decode cX11_town 114 = .ok (.iload_n 2, 1) := by decide +kernel
theorem dX11_town_115 : decode cX11_town 115 = .ok (.imul, 1) := by decide +kernel
theorem dX11_town_116 : decode cX11_town 116 = .ok (.iconst 1, 1) := by decide +kernel
theorem dX11_town_117 : decode cX11_town 117 = .ok (.iadd, 1) := by decide +kernel
theorem dX11_town_118 : decode cX11_town 118 = .ok (.iaload, 1) := by decide +kernel
theorem dX11_town_119 : decode cX11_town 119 = .ok (.iastore, 1) := by decide +kernel
theorem dX11_town_120 : decode cX11_town 120 = .ok (.iinc 2 1, 3) := by decide +kernel
theorem dX11_town_123 : decode cX11_town 123 = .ok (.goto (-39), 3) := by decide +kernel
theorem dX11_town_126 : decode cX11_town 126 = .ok (.iconst 0, 1) := by decide +kernel
theorem dX11_town_127 : decode cX11_town 127 = .ok (.istore_n 2, 1) := by decide +kernel
theorem dX11_town_128 : decode cX11_town 128 = .ok (.iload_n 2, 1) := by decide +kernel
theorem dX11_town_129 : decode cX11_town 129 = .ok (.bipush 30, 2) := by decide +kernel
theorem dX11_town_131 : decode cX11_town 131 = .ok (.if_icmp .ge 21, 3) := by decide +kernel
theorem dX11_town_134 : decode cX11_town 134 = .ok (.aload_n 0, 1) := by decide +kernel
theorem dX11_town_135 : decode cX11_town 135 = .ok (.getfield 30, 3) := by decide +kernel
theorem dX11_town_138 : decode cX11_town 138 = .ok (.iload_n 2, 1) := by decide +kernel
theorem dX11_town_139 : decode cX11_town 139 = .ok (.aload_n 0, 1) := by decide +kernel
theorem dX11_town_140 : decode cX11_town 140 = .ok (.getfield 54, 3) := by decide +kernel
theorem dX11_town_143 : decode cX11_town 143 = .ok (.iload_n 2, 1) := by decide +kernel
theorem dX11_town_144 : decode cX11_town 144 = .ok (.iaload, 1) := by decide +kernel
theorem dX11_town_145 : decode cX11_town 145 = .ok (.iastore, 1) := by decide +kernel
theorem dX11_town_146 : decode cX11_town 146 = .ok (.iinc 2 1, 3) := by decide +kernel
theorem dX11_town_149 : decode cX11_town 149 = .ok (.goto (-21), 3) := by decide +kernel
theorem dX11_town_152 : decode cX11_town 152 = .ok (.iconst 0, 1) := by decide +kernel
theorem dX11_town_153 : decode cX11_town 153 = .ok (.istore_n 2, 1) := by decide +kernel
theorem dX11_town_154 : decode cX11_town 154 = .ok (.iload_n 2, 1) := by decide +kernel
theorem dX11_town_155 : decode cX11_town 155 = .ok (.bipush 36, 2) := by decide +kernel
theorem dX11_town_157 : decode cX11_town 157 = .ok (.if_icmp .ge 21, 3) := by decide +kernel
theorem dX11_town_160 : decode cX11_town 160 = .ok (.aload_n 0, 1) := by decide +kernel
theorem dX11_town_161 : decode cX11_town 161 = .ok (.getfield 33, 3) := by decide +kernel
theorem dX11_town_164 : decode cX11_town 164 = .ok (.iload_n 2, 1) := by decide +kernel
theorem dX11_town_165 : decode cX11_town 165 = .ok (.aload_n 0, 1) := by decide +kernel
theorem dX11_town_166 : decode cX11_town 166 = .ok (.getfield 57, 3) := by decide +kernel
theorem dX11_town_169 : decode cX11_town 169 = .ok (.iload_n 2, 1) := by decide +kernel
theorem dX11_town_170 : decode cX11_town 170 = .ok (.iaload, 1) := by decide +kernel
theorem dX11_town_171 : decode cX11_town 171 = .ok (.iastore, 1) := by decide +kernel
theorem dX11_town_172 : decode cX11_town 172 = .ok (.iinc 2 1, 3) := by decide +kernel
theorem dX11_town_175 : decode cX11_town 175 = .ok (.goto (-21), 3) := by decide +kernel
theorem dX11_town_178 : decode cX11_town 178 = .ok (.iconst 0, 1) := by decide +kernel
theorem dX11_town_179 : decode cX11_town 179 = .ok (.istore_n 2, 1) := by decide +kernel
theorem dX11_town_180 : decode cX11_town 180 = .ok (.iload_n 2, 1) := by decide +kernel
theorem dX11_town_181 : decode cX11_town 181 = .ok (.iconst 4, 1) := by decide +kernel
theorem dX11_town_182 : decode cX11_town 182 = .ok (.if_icmp .ge 21, 3) := by decide +kernel
theorem dX11_town_185 : decode cX11_town 185 = .ok (.aload_n 0, 1) := by decide +kernel
theorem dX11_town_186 : decode cX11_town 186 = .ok (.getfield 36, 3) := by decide +kernel
theorem dX11_town_189 : decode cX11_town 189 = .ok (.iload_n 2, 1) := by decide +kernel
theorem dX11_town_190 : decode cX11_town 190 = .ok (.aload_n 0, 1) := by decide +kernel
theorem dX11_town_191 : decode cX11_town 191 = .ok (.getfield 60, 3) := by decide +kernel
theorem dX11_town_194 : decode cX11_town 194 = .ok (.iload_n 2, 1) := by decide +kernel
theorem dX11_town_195 : decode cX11_town 195 = .ok (.iaload, 1) := by decide +kernel
theorem dX11_town_196 : decode cX11_town 196 = .ok (.iastore, 1) := by decide +kernel
theorem dX11_town_197 : decode cX11_town 197 = .ok (.iinc 2 1, 3) := by decide +kernel
theorem dX11_town_200 : decode cX11_town 200 = .ok (.goto (-20), 3) := by decide +kernel
theorem dX11_town_203 : decode cX11_town 203 = .ok (.aload_n 0, 1) := by decide +kernel
theorem dX11_town_204 : decode cX11_town 204 = .ok (.getfield 39, 3) := by decide +kernel
theorem dX11_town_207 : decode cX11_town 207 = .ok (.iconst 0, 1) := by decide +kernel
theorem dX11_town_208 : decode cX11_town 208 = .ok (.iconst 0, 1) := by decide +kernel
theorem dX11_town_209 : decode cX11_town 209 = .ok (.iastore, 1) := by decide +kernel
theorem dX11_town_210 : decode cX11_town 210 = .ok (.aload_n 0, 1) := by decide +kernel
theorem dX11_town_211 : decode cX11_town 211 = .ok (.getfield 39, 3) := by decide +kernel
theorem dX11_town_214 : decode cX11_town 214 = .ok (.iconst 1, 1) := by decide +kernel
theorem dX11_town_215 : decode cX11_town 215 = .ok (.aload_n 0, 1) := by decide +kernel
theorem dX11_town_216 : decode cX11_town 216 = .ok (.getfield 200, 3) := by decide +kernel
theorem dX11_town_219 : decode cX11_town 219 = .ok (.iastore, 1) := by decide +kernel
theorem dX11_town_220 : decode cX11_town 220 = .ok (.aload_n 0, 1) := by decide +kernel
theorem dX11_town_221 : decode cX11_town 221 = .ok (.getfield 39, 3) := by decide +kernel
theorem dX11_town_224 : decode cX11_town 224 = .ok (.iconst 2, 1) := by decide +kernel
theorem dX11_town_225 : decode cX11_town 225 = .ok (.iconst (-1), 1) := by decide +kernel
theorem dX11_town_226 : decode cX11_town 226 = .ok (.iastore, 1) := by decide +kernel
theorem dX11_town_227 : decode cX11_town 227 = .ok (.iconst 0, 1) := by decide +kernel
theorem dX11_town_228 : decode cX11_town 228 = .ok (.istore_n 2, 1) := by decide +kernel
theorem dX11_town_229 : decode cX11_town 229 = .ok (.iload_n 2, 1) := by decide +kernel
theorem dX11_town_230 : decode cX11_town 230 = .ok (.bipush 6, 2) := by decide +kernel
theorem dX11_town_232 : decode cX11_town 232 = .ok (.if_icmp .ge 18, 3) := by decide +kernel
theorem dX11_town_235 : decode cX11_town 235 = .ok (.aload_n 0, 1) := by decide +kernel
theorem dX11_town_236 : decode cX11_town 236 = .ok (.getfield 39, 3) := by decide +kernel
theorem dX11_town_239 : decode cX11_town 239 = .ok (.iconst 4, 1) := by decide +kernel
theorem dX11_town_240 : decode cX11_town 240 = .ok (.iload_n 2, 1) := by decide +kernel
theorem dX11_town_241 : decode cX11_town 241 = .ok (.iadd, 1) := by decide +kernel
theorem dX11_town_242 : decode cX11_town 242 = .ok (.iconst (-1), 1) := by decide +kernel
theorem dX11_town_243 : decode cX11_town 243 = .ok (.iastore, 1) := by decide +kernel
theorem dX11_town_244 : decode cX11_town 244 = .ok (.iinc 2 1, 3) := by decide +kernel
theorem dX11_town_247 : decode cX11_town 247 = .ok (.goto (-18), 3) := by decide +kernel
theorem dX11_town_250 : decode cX11_town 250 = .ok (.aload_n 0, 1) := by decide +kernel
theorem dX11_town_251 : decode cX11_town 251 = .ok (.iconst 0, 1) := by decide +kernel
theorem dX11_town_252 : decode cX11_town 252 = .ok (.putfield 209, 3) := by decide +kernel
theorem dX11_town_255 : decode cX11_town 255 = .ok (.aload_n 0, 1) := by decide +kernel
theorem dX11_town_256 : decode cX11_town 256 = .ok (.iconst 0, 1) := by decide +kernel
theorem dX11_town_257 : decode cX11_town 257 = .ok (.putfield 212, 3) := by decide +kernel
theorem dX11_town_260 : decode cX11_town 260 = .ok (.aload_n 0, 1) := by decide +kernel
theorem dX11_town_261 : decode cX11_town 261 = .ok (.getfield 93, 3) := by decide +kernel
theorem dX11_town_264 : decode cX11_town 264 = .ok (.iconst 0, 1) := by decide +kernel
theorem dX11_town_265 : decode cX11_town 265 = .ok (.iconst 0, 1) := by decide +kernel
theorem dX11_town_266 : decode cX11_town 266 = .ok (.bastore, 1) := by decide +kernel
theorem dX11_town_267 : decode cX11_town 267 = .ok (.aload_n 0, 1) := by decide +kernel
theorem dX11_town_268 : decode cX11_town 268 = .ok (.getfield 93, 3) := by decide +kernel
theorem dX11_town_271 : decode cX11_town 271 = .ok (.iconst 1, 1) := by decide +kernel
theorem dX11_town_272 : decode cX11_town 272 = .ok (.iconst 0, 1) := by decide +kernel
theorem dX11_town_273 : decode cX11_town 273 = .ok (.bastore, 1) := by decide +kernel
theorem dX11_town_274 : decode cX11_town 274 = .ok (.aload_n 0, 1) := by decide +kernel
theorem dX11_town_275 : decode cX11_town 275 = .ok (.getfield 109, 3) := by decide +kernel
theorem dX11_town_278 : decode cX11_town 278 = .ok (.ireturn, 1) := by decide +kernel
theorem dX11_fault_0 : decode cX11_fault 0 = .ok (.aload_n 0, 1) := by decide +kernel
theorem dX11_fault_1 : decode cX11_fault 1 = .ok (.getfield 13, 3) := by decide +kernel
theorem dX11_fault_4 : decode cX11_fault 4 = .ok (.ireturn, 1) := by decide +kernel
theorem dX11_howOf_0 : decode cX11_howOf 0 = .ok (.aload_n 0, 1) := by decide +kernel
theorem dX11_howOf_1 : decode cX11_howOf 1 = .ok (.getfield 39, 3) := by decide +kernel
theorem dX11_howOf_4 : decode cX11_howOf 4 = .ok (.iconst 4, 1) := by decide +kernel
theorem dX11_howOf_5 : decode cX11_howOf 5 = .ok (.iload_n 1, 1) := by decide +kernel
theorem dX11_howOf_6 : decode cX11_howOf 6 = .ok (.iadd, 1) := by decide +kernel
theorem dX11_howOf_7 : decode cX11_howOf 7 = .ok (.iaload, 1) := by decide +kernel
theorem dX11_howOf_8 : decode cX11_howOf 8 = .ok (.ifCond .lt 7, 3) := by decide +kernel
theorem dX11_howOf_11 : decode cX11_howOf 11 = .ok (.iconst 1, 1) := by decide +kernel
theorem dX11_howOf_12 : decode cX11_howOf 12 = .ok (.goto 38, 3) := by decide +kernel
theorem dX11_howOf_15 : decode cX11_howOf 15 = .ok (.aload_n 0, 1) := by decide +kernel
theorem dX11_howOf_16 : decode cX11_howOf 16 = .ok (.getfield 39, 3) := by decide +kernel
theorem dX11_howOf_19 : decode cX11_howOf 19 = .ok (.iconst 0, 1) := by decide +kernel
theorem dX11_howOf_20 : decode cX11_howOf 20 = .ok (.iaload, 1) := by decide +kernel
theorem dX11_howOf_21 : decode cX11_howOf 21 = .ok (.aload_n 0, 1) := by decide +kernel
theorem dX11_howOf_22 : decode cX11_howOf 22 = .ok (.getfield 30, 3) := by decide +kernel
theorem dX11_howOf_25 : decode cX11_howOf 25 = .ok (.iconst 5, 1) := by decide +kernel
theorem dX11_howOf_26 : decode cX11_howOf 26 = .ok (.iload_n 1, 1) := by decide +kernel
theorem dX11_howOf_27 : decode cX11_howOf 27 = .ok (.imul, 1) := by decide +kernel
theorem dX11_howOf_28 : decode cX11_howOf 28 = .ok (.iconst 2, 1) := by decide +kernel
theorem dX11_howOf_29 : decode cX11_howOf 29 = .ok (.iadd, 1) := by decide +kernel
theorem dX11_howOf_30 : decode cX11_howOf 30 = .ok (.iaload, 1) := by decide +kernel
theorem dX11_howOf_31 : decode cX11_howOf 31 = .ok (.aload_n 0, 1) := by decide +kernel
theorem dX11_howOf_32 : decode cX11_howOf 32 = .ok (.getfield 30, 3) := by decide +kernel
theorem dX11_howOf_35 : decode cX11_howOf 35 = .ok (.iconst 5, 1) := by decide +kernel
theorem dX11_howOf_36 : decode cX11_howOf 36 = .ok (.iload_n 1, 1) := by decide +kernel
theorem dX11_howOf_37 : decode cX11_howOf 37 = .ok (.imul, 1) := by decide +kernel
theorem dX11_howOf_38 : decode cX11_howOf 38 = .ok (.iconst 1, 1) := by decide +kernel
theorem dX11_howOf_39 : decode cX11_howOf 39 = .ok (.iadd, 1) := by decide +kernel
theorem dX11_howOf_40 : decode cX11_howOf 40 = .ok (.iaload, 1) := by decide +kernel
theorem dX11_howOf_41 : decode cX11_howOf 41 = .ok (.isub, 1) := by decide +kernel
theorem dX11_howOf_42 : decode cX11_howOf 42 = .ok (.if_icmp .le 7, 3) := by decide +kernel
theorem dX11_howOf_45 : decode cX11_howOf 45 = .ok (.iconst 2, 1) := by decide +kernel
theorem dX11_howOf_46 : decode cX11_howOf 46 = .ok (.goto 4, 3) := by decide +kernel
theorem dX11_howOf_49 : decode cX11_howOf 49 = .ok (.iconst 0, 1) := by decide +kernel
theorem dX11_howOf_50 : decode cX11_howOf 50 = .ok (.ireturn, 1) := by decide +kernel
theorem dX11_deedsThatAre_0 : decode cX11_deedsThatAre 0 = .ok (.iconst 0, 1) := by decide +kernel
theorem dX11_deedsThatAre_1 : decode cX11_deedsThatAre 1 = .ok (.istore_n 2, 1) := by decide +kernel
theorem dX11_deedsThatAre_2 : decode cX11_deedsThatAre 2 = .ok (.iconst 0, 1) := by decide +kernel
theorem dX11_deedsThatAre_3 : decode cX11_deedsThatAre 3 = .ok (.istore_n 3, 1) := by decide +kernel
theorem dX11_deedsThatAre_4 : decode cX11_deedsThatAre 4 = .ok (.iload_n 3, 1) := by decide +kernel
theorem dX11_deedsThatAre_5 : decode cX11_deedsThatAre 5 = .ok (.aload_n 0, 1) := by decide +kernel
theorem dX11_deedsThatAre_6 : decode cX11_deedsThatAre 6 = .ok (.getfield 109, 3) := by decide +kernel
theorem dX11_deedsThatAre_9 : decode cX11_deedsThatAre 9 = .ok (.if_icmp .ge 28, 3) := by decide +kernel
theorem dX11_deedsThatAre_12 : decode cX11_deedsThatAre 12 = .ok (.iload_n 2, 1) := by decide +kernel
theorem dX11_deedsThatAre_13 : decode cX11_deedsThatAre 13 = .ok (.aload_n 0, 1) := by decide +kernel
theorem dX11_deedsThatAre_14 : decode cX11_deedsThatAre 14 = .ok (.iload_n 3, 1) := by decide +kernel
theorem dX11_deedsThatAre_15 : decode cX11_deedsThatAre 15 = .ok (.invokevirtual 215, 3) := by decide +kernel
theorem dX11_deedsThatAre_18 : decode cX11_deedsThatAre 18 = .ok (.iload_n 1, 1) := by decide +kernel
theorem dX11_deedsThatAre_19 : decode cX11_deedsThatAre 19 = .ok (.if_icmp .ne 9, 3) := by decide +kernel
theorem dX11_deedsThatAre_22 : decode cX11_deedsThatAre 22 = .ok (.iconst 1, 1) := by decide +kernel
theorem dX11_deedsThatAre_23 : decode cX11_deedsThatAre 23 = .ok (.iload_n 3, 1) := by decide +kernel
theorem dX11_deedsThatAre_24 : decode cX11_deedsThatAre 24 = .ok (.ishl, 1) := by decide +kernel
theorem dX11_deedsThatAre_25 : decode cX11_deedsThatAre 25 = .ok (.goto 4, 3) := by decide +kernel
theorem dX11_deedsThatAre_28 : decode cX11_deedsThatAre 28 = .ok (.iconst 0, 1) := by decide +kernel
theorem dX11_deedsThatAre_29 : decode cX11_deedsThatAre 29 = .ok (.ior, 1) := by decide +kernel
theorem dX11_deedsThatAre_30 : decode cX11_deedsThatAre 30 = .ok (.istore_n 2, 1) := by decide +kernel
theorem dX11_deedsThatAre_31 : decode cX11_deedsThatAre 31 = .ok (.iinc 3 1, 3) := by decide +kernel
theorem dX11_deedsThatAre_34 : decode cX11_deedsThatAre 34 = .ok (.goto (-30), 3) := by decide +kernel
theorem dX11_deedsThatAre_37 : decode cX11_deedsThatAre 37 = .ok (.iload_n 2, 1) := by decide +kernel
theorem dX11_deedsThatAre_38 : decode cX11_deedsThatAre 38 = .ok (.ireturn, 1) := by decide +kernel
theorem dX11_worthOf_0 : decode cX11_worthOf 0 = .ok (.iconst 0, 1) := by decide +kernel
theorem dX11_worthOf_1 : decode cX11_worthOf 1 = .ok (.istore_n 2, 1) := by decide +kernel
theorem dX11_worthOf_2 : decode cX11_worthOf 2 = .ok (.iconst 0, 1) := by decide +kernel
theorem dX11_worthOf_3 : decode cX11_worthOf 3 = .ok (.istore_n 3, 1) := by decide +kernel
theorem dX11_worthOf_4 : decode cX11_worthOf 4 = .ok (.iload_n 3, 1) := by decide +kernel
theorem dX11_worthOf_5 : decode cX11_worthOf 5 = .ok (.aload_n 0, 1) := by decide +kernel
theorem dX11_worthOf_6 : decode cX11_worthOf 6 = .ok (.getfield 109, 3) := by decide +kernel
theorem dX11_worthOf_9 : decode cX11_worthOf 9 = .ok (.if_icmp .ge 34, 3) := by decide +kernel
theorem dX11_worthOf_12 : decode cX11_worthOf 12 = .ok (.iload_n 2, 1) := by decide +kernel
theorem dX11_worthOf_13 : decode cX11_worthOf 13 = .ok (.iload_n 1, 1) := by decide +kernel
theorem dX11_worthOf_14 : decode cX11_worthOf 14 = .ok (.iload_n 3, 1) := by decide +kernel
theorem dX11_worthOf_15 : decode cX11_worthOf 15 = .ok (.invokestatic 219, 3) := by decide +kernel
theorem dX11_worthOf_18 : decode cX11_worthOf 18 = .ok (.ifCond .eq 16, 3) := by decide +kernel
theorem dX11_worthOf_21 : decode cX11_worthOf 21 = .ok (.aload_n 0, 1) := by decide +kernel
theorem dX11_worthOf_22 : decode cX11_worthOf 22 = .ok (.getfield 30, 3) := by decide +kernel
theorem dX11_worthOf_25 : decode cX11_worthOf 25 = .ok (.iconst 5, 1) := by decide +kernel
theorem dX11_worthOf_26 : decode cX11_worthOf 26 = .ok (.iload_n 3, 1) := by decide +kernel
theorem dX11_worthOf_27 : decode cX11_worthOf 27 = .ok (.imul, 1) := by decide +kernel
theorem dX11_worthOf_28 : decode cX11_worthOf 28 = .ok (.iconst 3, 1) := by decide +kernel
theorem dX11_worthOf_29 : decode cX11_worthOf 29 = .ok (.iadd, 1) := by decide +kernel
theorem dX11_worthOf_30 : decode cX11_worthOf 30 = .ok (.iaload, 1) := by decide +kernel
theorem dX11_worthOf_31 : decode cX11_worthOf 31 = .ok (.goto 4, 3) := by decide +kernel
theorem dX11_worthOf_34 : decode cX11_worthOf 34 = .ok (.iconst 0, 1) := by decide +kernel
theorem dX11_worthOf_35 : decode cX11_worthOf 35 = .ok (.iadd, 1) := by decide +kernel
theorem dX11_worthOf_36 : decode cX11_worthOf 36 = .ok (.istore_n 2, 1) := by decide +kernel
theorem dX11_worthOf_37 : decode cX11_worthOf 37 = .ok (.iinc 3 1, 3) := by decide +kernel
theorem dX11_worthOf_40 : decode cX11_worthOf 40 = .ok (.goto (-36), 3) := by decide +kernel
theorem dX11_worthOf_43 : decode cX11_worthOf 43 = .ok (.iload_n 2, 1) := by decide +kernel
theorem dX11_worthOf_44 : decode cX11_worthOf 44 = .ok (.ireturn, 1) := by decide +kernel
theorem dX11_told_0 : decode cX11_told 0 = .ok (.iload_n 1, 1) := by decide +kernel
theorem dX11_told_1 : decode cX11_told 1 = .ok (.tableswitch 156 0 12 #[67, 72, 77, 82, 87, 92, 99, 117, 124, 130, 136, 146, 151], 67) := by decide +kernel
theorem dX11_told_68 : decode cX11_told 68 = .ok (.aload_n 0, 1) := by decide +kernel
theorem dX11_told_69 : decode cX11_told 69 = .ok (.getfield 99, 3) := by decide +kernel
theorem dX11_told_72 : decode cX11_told 72 = .ok (.ireturn, 1) := by decide +kernel
theorem dX11_told_73 : decode cX11_told 73 = .ok (.aload_n 0, 1) := by decide +kernel
theorem dX11_told_74 : decode cX11_told 74 = .ok (.getfield 106, 3) := by decide +kernel
theorem dX11_told_77 : decode cX11_told 77 = .ok (.ireturn, 1) := by decide +kernel
theorem dX11_told_78 : decode cX11_told 78 = .ok (.aload_n 0, 1) := by decide +kernel
theorem dX11_told_79 : decode cX11_told 79 = .ok (.getfield 109, 3) := by decide +kernel
theorem dX11_told_82 : decode cX11_told 82 = .ok (.ireturn, 1) := by decide +kernel
theorem dX11_told_83 : decode cX11_told 83 = .ok (.aload_n 0, 1) := by decide +kernel
theorem dX11_told_84 : decode cX11_told 84 = .ok (.getfield 203, 3) := by decide +kernel
theorem dX11_told_87 : decode cX11_told 87 = .ok (.ireturn, 1) := by decide +kernel
theorem dX11_told_88 : decode cX11_told 88 = .ok (.aload_n 0, 1) := by decide +kernel
theorem dX11_told_89 : decode cX11_told 89 = .ok (.getfield 115, 3) := by decide +kernel
theorem dX11_told_92 : decode cX11_told 92 = .ok (.ireturn, 1) := by decide +kernel
theorem dX11_told_93 : decode cX11_told 93 = .ok (.aload_n 0, 1) := by decide +kernel
theorem dX11_told_94 : decode cX11_told 94 = .ok (.getfield 39, 3) := by decide +kernel
theorem dX11_told_97 : decode cX11_told 97 = .ok (.iconst 0, 1) := by decide +kernel
theorem dX11_told_98 : decode cX11_told 98 = .ok (.iaload, 1) := by decide +kernel
theorem dX11_told_99 : decode cX11_told 99 = .ok (.ireturn, 1) := by decide +kernel
theorem dX11_told_100 : decode cX11_told 100 = .ok (.aload_n 0, 1) := by decide +kernel
theorem dX11_told_101 : decode cX11_told 101 = .ok (.getfield 99, 3) := by decide +kernel
theorem dX11_told_104 : decode cX11_told 104 = .ok (.ifCond .ne 7, 3) := by decide +kernel
theorem dX11_told_107 : decode cX11_told 107 = .ok (.iconst (-1), 1) := by decide +kernel
theorem dX11_told_108 : decode cX11_told 108 = .ok (.goto 9, 3) := by decide +kernel
theorem dX11_told_111 : decode cX11_told 111 = .ok (.aload_n 0, 1) := by decide +kernel
theorem dX11_told_112 : decode cX11_told 112 = .ok (.getfield 39, 3) := by decide +kernel
theorem dX11_told_115 : decode cX11_told 115 = .ok (.iconst 1, 1) := by decide +kernel
theorem dX11_told_116 : decode cX11_told 116 = .ok (.iaload, 1) := by decide +kernel
theorem dX11_told_117 : decode cX11_told 117 = .ok (.ireturn, 1) := by decide +kernel
theorem dX11_told_118 : decode cX11_told 118 = .ok (.aload_n 0, 1) := by decide +kernel
theorem dX11_told_119 : decode cX11_told 119 = .ok (.getfield 39, 3) := by decide +kernel
theorem dX11_told_122 : decode cX11_told 122 = .ok (.iconst 2, 1) := by decide +kernel
theorem dX11_told_123 : decode cX11_told 123 = .ok (.iaload, 1) := by decide +kernel
theorem dX11_told_124 : decode cX11_told 124 = .ok (.ireturn, 1) := by decide +kernel
theorem dX11_told_125 : decode cX11_told 125 = .ok (.aload_n 0, 1) := by decide +kernel
theorem dX11_told_126 : decode cX11_told 126 = .ok (.iconst 1, 1) := by decide +kernel
theorem dX11_told_127 : decode cX11_told 127 = .ok (.invokevirtual 222, 3) := by decide +kernel
theorem dX11_told_130 : decode cX11_told 130 = .ok (.ireturn, 1) := by decide +kernel
theorem dX11_told_131 : decode cX11_told 131 = .ok (.aload_n 0, 1) := by decide +kernel
theorem dX11_told_132 : decode cX11_told 132 = .ok (.iconst 2, 1) := by decide +kernel
theorem dX11_told_133 : decode cX11_told 133 = .ok (.invokevirtual 222, 3) := by decide +kernel
theorem dX11_told_136 : decode cX11_told 136 = .ok (.ireturn, 1) := by decide +kernel
theorem dX11_told_137 : decode cX11_told 137 = .ok (.aload_n 0, 1) := by decide +kernel
theorem dX11_told_138 : decode cX11_told 138 = .ok (.aload_n 0, 1) := by decide +kernel
theorem dX11_told_139 : decode cX11_told 139 = .ok (.iconst 1, 1) := by decide +kernel
theorem dX11_told_140 : decode cX11_told 140 = .ok (.invokevirtual 222, 3) := by decide +kernel
theorem dX11_told_143 : decode cX11_told 143 = .ok (.invokevirtual 225, 3) := by decide +kernel
theorem dX11_told_146 : decode cX11_told 146 = .ok (.ireturn, 1) := by decide +kernel
theorem dX11_told_147 : decode cX11_told 147 = .ok (.aload_n 0, 1) := by decide +kernel
theorem dX11_told_148 : decode cX11_told 148 = .ok (.getfield 209, 3) := by decide +kernel
theorem dX11_told_151 : decode cX11_told 151 = .ok (.ireturn, 1) := by decide +kernel
theorem dX11_told_152 : decode cX11_told 152 = .ok (.aload_n 0, 1) := by decide +kernel
theorem dX11_told_153 : decode cX11_told 153 = .ok (.getfield 212, 3) := by decide +kernel
theorem dX11_told_156 : decode cX11_told 156 = .ok (.ireturn, 1) := by decide +kernel
theorem dX11_told_157 : decode cX11_told 157 = .ok (.ldc 114, 2) := by decide +kernel
theorem dX11_told_159 : decode cX11_told 159 = .ok (.ireturn, 1) := by decide +kernel
theorem dX11_farOf_0 : decode cX11_farOf 0 = .ok (.aload_n 0, 1) := by decide +kernel
theorem dX11_farOf_1 : decode cX11_farOf 1 = .ok (.getfield 17, 3) := by decide +kernel
theorem dX11_farOf_4 : decode cX11_farOf 4 = .ok (.bipush 7, 2) := by decide +kernel
theorem dX11_farOf_6 : decode cX11_farOf 6 = .ok (.iload_n 1, 1) := by decide +kernel
theorem dX11_farOf_7 : decode cX11_farOf 7 = .ok (.imul, 1) := by decide +kernel
theorem dX11_farOf_8 : decode cX11_farOf 8 = .ok (.iload_n 2, 1) := by decide +kernel
theorem dX11_farOf_9 : decode cX11_farOf 9 = .ok (.iadd, 1) := by decide +kernel
theorem dX11_farOf_10 : decode cX11_farOf 10 = .ok (.iaload, 1) := by decide +kernel
theorem dX11_farOf_11 : decode cX11_farOf 11 = .ok (.istore_n 3, 1) := by decide +kernel
theorem dX11_farOf_12 : decode cX11_farOf 12 = .ok (.iload_n 3, 1) := by decide +kernel
theorem dX11_farOf_13 : decode cX11_farOf 13 = .ok (.ldc 135, 2) := by decide +kernel
theorem dX11_farOf_15 : decode cX11_farOf 15 = .ok (.if_icmp .lt 7, 3) := by decide +kernel
theorem dX11_farOf_18 : decode cX11_farOf 18 = .ok (.iconst (-1), 1) := by decide +kernel
theorem dX11_farOf_19 : decode cX11_farOf 19 = .ok (.goto 4, 3) := by decide +kernel
theorem dX11_farOf_22 : decode cX11_farOf 22 = .ok (.iload_n 3, 1) := by decide +kernel
theorem dX11_farOf_23 : decode cX11_farOf 23 = .ok (.ireturn, 1) := by decide +kernel
theorem dX11_far_0 : decode cX11_far 0 = .ok (.aload_n 0, 1) := by decide +kernel
theorem dX11_far_1 : decode cX11_far 1 = .ok (.iload_n 1, 1) := by decide +kernel
theorem dX11_far_2 : decode cX11_far 2 = .ok (.invokevirtual 228, 3) := by decide +kernel
theorem dX11_far_5 : decode cX11_far 5 = .ok (.ifCond .eq 20, 3) := by decide +kernel
theorem dX11_far_8 : decode cX11_far 8 = .ok (.aload_n 0, 1) := by decide +kernel
theorem dX11_far_9 : decode cX11_far 9 = .ok (.iload_n 2, 1) := by decide +kernel
theorem dX11_far_10 : decode cX11_far 10 = .ok (.invokevirtual 228, 3) := by decide +kernel
theorem dX11_far_13 : decode cX11_far 13 = .ok (.ifCond .eq 12, 3) := by decide +kernel
theorem dX11_far_16 : decode cX11_far 16 = .ok (.aload_n 0, 1) := by decide +kernel
theorem dX11_far_17 : decode cX11_far 17 = .ok (.iload_n 1, 1) := by decide +kernel
theorem dX11_far_18 : decode cX11_far 18 = .ok (.iload_n 2, 1) := by decide +kernel
theorem dX11_far_19 : decode cX11_far 19 = .ok (.invokevirtual 231, 3) := by decide +kernel
theorem dX11_far_22 : decode cX11_far 22 = .ok (.goto 5, 3) := by decide +kernel
theorem dX11_far_25 : decode cX11_far 25 = .ok (.ldc 235, 2) := by decide +kernel
theorem dX11_far_27 : decode cX11_far 27 = .ok (.ireturn, 1) := by decide +kernel
theorem dX11_person_0 : decode cX11_person 0 = .ok (.aload_n 0, 1) := by decide +kernel
theorem dX11_person_1 : decode cX11_person 1 = .ok (.iload_n 1, 1) := by decide +kernel
theorem dX11_person_2 : decode cX11_person 2 = .ok (.invokevirtual 236, 3) := by decide +kernel
theorem dX11_person_5 : decode cX11_person 5 = .ok (.ifCond .ne 6, 3) := by decide +kernel
theorem dX11_person_8 : decode cX11_person 8 = .ok (.ldc 235, 2) := by decide +kernel
theorem dX11_person_10 : decode cX11_person 10 = .ok (.ireturn, 1) := by decide +kernel
theorem dX11_person_11 : decode cX11_person 11 = .ok (.iload_n 2, 1) := by decide +kernel
theorem dX11_person_12 : decode cX11_person 12 = .ok (.ifCond .ne 12, 3) := by decide +kernel
theorem dX11_person_15 : decode cX11_person 15 = .ok (.aload_n 0, 1) := by decide +kernel
theorem dX11_person_16 : decode cX11_person 16 = .ok (.getfield 24, 3) := by decide +kernel
theorem dX11_person_19 : decode cX11_person 19 = .ok (.iload_n 1, 1) := by decide +kernel
theorem dX11_person_20 : decode cX11_person 20 = .ok (.iaload, 1) := by decide +kernel
theorem dX11_person_21 : decode cX11_person 21 = .ok (.goto 19, 3) := by decide +kernel
theorem dX11_person_24 : decode cX11_person 24 = .ok (.iload_n 2, 1) := by decide +kernel
theorem dX11_person_25 : decode cX11_person 25 = .ok (.iconst 1, 1) := by decide +kernel
theorem dX11_person_26 : decode cX11_person 26 = .ok (.if_icmp .ne 12, 3) := by decide +kernel
theorem dX11_person_29 : decode cX11_person 29 = .ok (.aload_n 0, 1) := by decide +kernel
theorem dX11_person_30 : decode cX11_person 30 = .ok (.getfield 27, 3) := by decide +kernel
theorem dX11_person_33 : decode cX11_person 33 = .ok (.iload_n 1, 1) := by decide +kernel
theorem dX11_person_34 : decode cX11_person 34 = .ok (.iaload, 1) := by decide +kernel
theorem dX11_person_35 : decode cX11_person 35 = .ok (.goto 5, 3) := by decide +kernel
theorem dX11_person_38 : decode cX11_person 38 = .ok (.ldc 114, 2) := by decide +kernel
theorem dX11_person_40 : decode cX11_person 40 = .ok (.ireturn, 1) := by decide +kernel
theorem dX11_deed_0 : decode cX11_deed 0 = .ok (.aload_n 0, 1) := by decide +kernel
theorem dX11_deed_1 : decode cX11_deed 1 = .ok (.iload_n 1, 1) := by decide +kernel
theorem dX11_deed_2 : decode cX11_deed 2 = .ok (.invokevirtual 239, 3) := by decide +kernel
theorem dX11_deed_5 : decode cX11_deed 5 = .ok (.ifCond .ne 6, 3) := by decide +kernel
theorem dX11_deed_8 : decode cX11_deed 8 = .ok (.ldc 235, 2) := by decide +kernel
theorem dX11_deed_10 : decode cX11_deed 10 = .ok (.ireturn, 1) := by decide +kernel
theorem dX11_deed_11 : decode cX11_deed 11 = .ok (.iload_n 2, 1) := by decide +kernel
theorem dX11_deed_12 : decode cX11_deed 12 = .ok (.i2l, 1) := by decide +kernel
theorem dX11_deed_13 : decode cX11_deed 13 = .ok (.lconst 0, 1) := by decide +kernel
theorem dX11_deed_14 : decode cX11_deed 14 = .ok (.ldc2_w 242, 3) := by decide +kernel
theorem dX11_deed_17 : decode cX11_deed 17 = .ok (.invokestatic 102, 3) := by decide +kernel
theorem dX11_deed_20 : decode cX11_deed 20 = .ok (.ifCond .ne 6, 3) := by decide +kernel
theorem dX11_deed_23 : decode cX11_deed 23 = .ok (.ldc 114, 2) := by decide +kernel
theorem dX11_deed_25 : decode cX11_deed 25 = .ok (.ireturn, 1) := by decide +kernel
theorem dX11_deed_26 : decode cX11_deed 26 = .ok (.iload_n 2, 1) := by decide +kernel
theorem dX11_deed_27 : decode cX11_deed 27 = .ok (.iconst 5, 1) := by decide +kernel
theorem dX11_deed_28 : decode cX11_deed 28 = .ok (.if_icmp .ge 16, 3) := by decide +kernel
theorem dX11_deed_31 : decode cX11_deed 31 = .ok (.aload_n 0, 1) := by decide +kernel
theorem dX11_deed_32 : decode cX11_deed 32 = .ok (.getfield 30, 3) := by decide +kernel
theorem dX11_deed_35 : decode cX11_deed 35 = .ok (.iconst 5, 1) := by decide +kernel
theorem dX11_deed_36 : decode cX11_deed 36 = .ok (.iload_n 1, 1) := by decide +kernel
theorem dX11_deed_37 : decode cX11_deed 37 = .ok (.imul, 1) := by decide +kernel
theorem dX11_deed_38 : decode cX11_deed 38 = .ok (.iload_n 2, 1) := by decide +kernel
theorem dX11_deed_39 : decode cX11_deed 39 = .ok (.iadd, 1) := by decide +kernel
theorem dX11_deed_40 : decode cX11_deed 40 = .ok (.iaload, 1) := by decide +kernel
theorem dX11_deed_41 : decode cX11_deed 41 = .ok (.goto 24, 3) := by decide +kernel
theorem dX11_deed_44 : decode cX11_deed 44 = .ok (.iload_n 2, 1) := by decide +kernel
theorem dX11_deed_45 : decode cX11_deed 45 = .ok (.iconst 5, 1) := by decide +kernel
theorem dX11_deed_46 : decode cX11_deed 46 = .ok (.if_icmp .ne 11, 3) := by decide +kernel
theorem dX11_deed_49 : decode cX11_deed 49 = .ok (.aload_n 0, 1) := by decide +kernel
theorem dX11_deed_50 : decode cX11_deed 50 = .ok (.iload_n 1, 1) := by decide +kernel
theorem dX11_deed_51 : decode cX11_deed 51 = .ok (.invokevirtual 215, 3) := by decide +kernel
theorem dX11_deed_54 : decode cX11_deed 54 = .ok (.goto 11, 3) := by decide +kernel
theorem dX11_deed_57 : decode cX11_deed 57 = .ok (.aload_n 0, 1) := by decide +kernel
theorem dX11_deed_58 : decode cX11_deed 58 = .ok (.getfield 39, 3) := by decide +kernel
theorem dX11_deed_61 : decode cX11_deed 61 = .ok (.iconst 4, 1) := by decide +kernel
theorem dX11_deed_62 : decode cX11_deed 62 = .ok (.iload_n 1, 1) := by decide +kernel
theorem dX11_deed_63 : decode cX11_deed 63 = .ok (.iadd, 1) := by decide +kernel
theorem dX11_deed_64 : decode cX11_deed 64 = .ok (.iaload, 1) := by decide +kernel
theorem dX11_deed_65 : decode cX11_deed 65 = .ok (.ireturn, 1) := by decide +kernel
theorem dX11_areTwo_0 : decode cX11_areTwo 0 = .ok (.aload_n 0, 1) := by decide +kernel
theorem dX11_areTwo_1 : decode cX11_areTwo 1 = .ok (.iload_n 1, 1) := by decide +kernel
theorem dX11_areTwo_2 : decode cX11_areTwo 2 = .ok (.invokevirtual 236, 3) := by decide +kernel
theorem dX11_areTwo_5 : decode cX11_areTwo 5 = .ok (.ifCond .eq 20, 3) := by decide +kernel
theorem dX11_areTwo_8 : decode cX11_areTwo 8 = .ok (.aload_n 0, 1) := by decide +kernel
theorem dX11_areTwo_9 : decode cX11_areTwo 9 = .ok (.iload_n 2, 1) := by decide +kernel
theorem dX11_areTwo_10 : decode cX11_areTwo 10 = .ok (.invokevirtual 236, 3) := by decide +kernel
theorem dX11_areTwo_13 : decode cX11_areTwo 13 = .ok (.ifCond .eq 12, 3) := by decide +kernel
theorem dX11_areTwo_16 : decode cX11_areTwo 16 = .ok (.iload_n 1, 1) := by decide +kernel
theorem dX11_areTwo_17 : decode cX11_areTwo 17 = .ok (.iload_n 2, 1) := by decide +kernel
theorem dX11_areTwo_18 : decode cX11_areTwo 18 = .ok (.if_icmp .eq 7, 3) := by decide +kernel
theorem dX11_areTwo_21 : decode cX11_areTwo 21 = .ok (.iconst 1, 1) := by decide +kernel
theorem dX11_areTwo_22 : decode cX11_areTwo 22 = .ok (.goto 4, 3) := by decide +kernel
theorem dX11_areTwo_25 : decode cX11_areTwo 25 = .ok (.iconst 0, 1) := by decide +kernel
theorem dX11_areTwo_26 : decode cX11_areTwo 26 = .ok (.ireturn, 1) := by decide +kernel
theorem dX11_trust_0 : decode cX11_trust 0 = .ok (.aload_n 0, 1) := by decide +kernel
theorem dX11_trust_1 : decode cX11_trust 1 = .ok (.iload_n 1, 1) := by decide +kernel
theorem dX11_trust_2 : decode cX11_trust 2 = .ok (.iload_n 2, 1) := by decide +kernel
theorem dX11_trust_3 : decode cX11_trust 3 = .ok (.invokevirtual 244, 3) := by decide +kernel
theorem dX11_trust_6 : decode cX11_trust 6 = .ok (.ifCond .eq 17, 3) := by decide +kernel
theorem dX11_trust_9 : decode cX11_trust 9 = .ok (.aload_n 0, 1) := by decide +kernel
theorem dX11_trust_10 : decode cX11_trust 10 = .ok (.getfield 33, 3) := by decide +kernel
theorem dX11_trust_13 : decode cX11_trust 13 = .ok (.bipush 6, 2) := by decide +kernel
theorem dX11_trust_15 : decode cX11_trust 15 = .ok (.iload_n 1, 1) := by decide +kernel
theorem dX11_trust_16 : decode cX11_trust 16 = .ok (.imul, 1) := by decide +kernel
theorem dX11_trust_17 : decode cX11_trust 17 = .ok (.iload_n 2, 1) := by decide +kernel
theorem dX11_trust_18 : decode cX11_trust 18 = .ok (.iadd, 1) := by decide +kernel
theorem dX11_trust_19 : decode cX11_trust 19 = .ok (.iaload, 1) := by decide +kernel
theorem dX11_trust_20 : decode cX11_trust 20 = .ok (.goto 5, 3) := by decide +kernel
theorem dX11_trust_23 : decode cX11_trust 23 = .ok (.ldc 235, 2) := by decide +kernel
theorem dX11_trust_25 : decode cX11_trust 25 = .ok (.ireturn, 1) := by decide +kernel
theorem dX11_lets_0 : decode cX11_lets 0 = .ok (.iload_n 1, 1) := by decide +kernel
theorem dX11_lets_1 : decode cX11_lets 1 = .ok (.i2l, 1) := by decide +kernel
theorem dX11_lets_2 : decode cX11_lets 2 = .ok (.lconst 0, 1) := by decide +kernel
theorem dX11_lets_3 : decode cX11_lets 3 = .ok (.aload_n 0, 1) := by decide +kernel
theorem dX11_lets_4 : decode cX11_lets 4 = .ok (.getfield 203, 3) := by decide +kernel
theorem dX11_lets_7 : decode cX11_lets 7 = .ok (.iconst 1, 1) := by decide +kernel
theorem dX11_lets_8 : decode cX11_lets 8 = .ok (.isub, 1) := by decide +kernel
theorem dX11_lets_9 : decode cX11_lets 9 = .ok (.i2l, 1) := by decide +kernel
theorem dX11_lets_10 : decode cX11_lets 10 = .ok (.invokestatic 102, 3) := by decide +kernel
theorem dX11_lets_13 : decode cX11_lets 13 = .ok (.ifCond .eq 12, 3) := by decide +kernel
theorem dX11_lets_16 : decode cX11_lets 16 = .ok (.aload_n 0, 1) := by decide +kernel
theorem dX11_lets_17 : decode cX11_lets 17 = .ok (.getfield 36, 3) := by decide +kernel
theorem dX11_lets_20 : decode cX11_lets 20 = .ok (.iload_n 1, 1) := by decide +kernel
theorem dX11_lets_21 : decode cX11_lets 21 = .ok (.iaload, 1) := by decide +kernel
theorem dX11_lets_22 : decode cX11_lets 22 = .ok (.goto 5, 3) := by decide +kernel
theorem dX11_lets_25 : decode cX11_lets 25 = .ok (.ldc 235, 2) := by decide +kernel
theorem dX11_lets_27 : decode cX11_lets 27 = .ok (.ireturn, 1) := by decide +kernel
theorem dX11_placeOf_0 : decode cX11_placeOf 0 = .ok (.aload_n 0, 1) := by decide +kernel
theorem dX11_placeOf_1 : decode cX11_placeOf 1 = .ok (.getfield 24, 3) := by decide +kernel
theorem dX11_placeOf_4 : decode cX11_placeOf 4 = .ok (.aload_n 0, 1) := by decide +kernel
theorem dX11_placeOf_5 : decode cX11_placeOf 5 = .ok (.getfield 30, 3) := by decide +kernel
theorem dX11_placeOf_8 : decode cX11_placeOf 8 = .ok (.iconst 5, 1) := by decide +kernel
theorem dX11_placeOf_9 : decode cX11_placeOf 9 = .ok (.iload_n 1, 1) := by decide +kernel
theorem dX11_placeOf_10 : decode cX11_placeOf 10 = .ok (.imul, 1) := by decide +kernel
theorem dX11_placeOf_11 : decode cX11_placeOf 11 = .ok (.iaload, 1) := by decide +kernel
theorem dX11_placeOf_12 : decode cX11_placeOf 12 = .ok (.iaload, 1) := by decide +kernel
theorem dX11_placeOf_13 : decode cX11_placeOf 13 = .ok (.ireturn, 1) := by decide +kernel
theorem dX11_lend_0 : decode cX11_lend 0 = .ok (.aload_n 0, 1) := by decide +kernel
theorem dX11_lend_1 : decode cX11_lend 1 = .ok (.iload_n 1, 1) := by decide +kernel
theorem dX11_lend_2 : decode cX11_lend 2 = .ok (.invokevirtual 236, 3) := by decide +kernel
theorem dX11_lend_5 : decode cX11_lend 5 = .ok (.ifCond .ne 6, 3) := by decide +kernel
theorem dX11_lend_8 : decode cX11_lend 8 = .ok (.ldc 235, 2) := by decide +kernel
theorem dX11_lend_10 : decode cX11_lend 10 = .ok (.ireturn, 1) := by decide +kernel
theorem dX11_lend_11 : decode cX11_lend 11 = .ok (.aload_n 0, 1) := by decide +kernel
theorem dX11_lend_12 : decode cX11_lend 12 = .ok (.aload_n 0, 1) := by decide +kernel
theorem dX11_lend_13 : decode cX11_lend 13 = .ok (.getfield 39, 3) := by decide +kernel
theorem dX11_lend_16 : decode cX11_lend 16 = .ok (.iconst 1, 1) := by decide +kernel
theorem dX11_lend_17 : decode cX11_lend 17 = .ok (.iaload, 1) := by decide +kernel
theorem dX11_lend_18 : decode cX11_lend 18 = .ok (.aload_n 0, 1) := by decide +kernel
theorem dX11_lend_19 : decode cX11_lend 19 = .ok (.getfield 24, 3) := by decide +kernel
theorem dX11_lend_22 : decode cX11_lend 22 = .ok (.iload_n 1, 1) := by decide +kernel
theorem dX11_lend_23 : decode cX11_lend 23 = .ok (.iaload, 1) := by decide +kernel
theorem dX11_lend_24 : decode cX11_lend 24 = .ok (.invokevirtual 231, 3) := by decide +kernel
theorem dX11_lend_27 : decode cX11_lend 27 = .ok (.istore_n 2, 1) := by decide +kernel
theorem dX11_lend_28 : decode cX11_lend 28 = .ok (.iload_n 2, 1) := by decide +kernel
theorem dX11_lend_29 : decode cX11_lend 29 = .ok (.ifCond .ge 6, 3) := by decide +kernel
theorem dX11_lend_32 : decode cX11_lend 32 = .ok (.ldc 247, 2) := by decide +kernel
theorem dX11_lend_34 : decode cX11_lend 34 = .ok (.ireturn, 1) := by decide +kernel
theorem dX11_lend_35 : decode cX11_lend 35 = .ok (.aload_n 0, 1) := by decide +kernel
theorem dX11_lend_36 : decode cX11_lend 36 = .ok (.getfield 39, 3) := by decide +kernel
theorem dX11_lend_39 : decode cX11_lend 39 = .ok (.iconst 0, 1) := by decide +kernel
theorem dX11_lend_40 : decode cX11_lend 40 = .ok (.iaload, 1) := by decide +kernel
theorem dX11_lend_41 : decode cX11_lend 41 = .ok (.ldc 248, 2) := by decide +kernel
theorem dX11_lend_43 : decode cX11_lend 43 = .ok (.if_icmp .le 6, 3) := by decide +kernel
theorem dX11_lend_46 : decode cX11_lend 46 = .ok (.ldc 118, 2) := by decide +kernel
theorem dX11_lend_48 : decode cX11_lend 48 = .ok (.ireturn, 1) := by decide +kernel
theorem dX11_lend_49 : decode cX11_lend 49 = .ok (.aload_n 0, 1) := by decide +kernel
theorem dX11_lend_50 : decode cX11_lend 50 = .ok (.iload_n 1, 1) := by decide +kernel
theorem dX11_lend_51 : decode cX11_lend 51 = .ok (.iload_n 2, 1) := by decide +kernel
theorem dX11_lend_52 : decode cX11_lend 52 = .ok (.invokevirtual 249, 3) := by decide +kernel
theorem dX11_lend_55 : decode cX11_lend 55 = .ok (.aload_n 0, 1) := by decide +kernel
theorem dX11_lend_56 : decode cX11_lend 56 = .ok (.getfield 39, 3) := by decide +kernel
theorem dX11_lend_59 : decode cX11_lend 59 = .ok (.iconst 0, 1) := by decide +kernel
theorem dX11_lend_60 : decode cX11_lend 60 = .ok (.iaload, 1) := by decide +kernel
theorem dX11_lend_61 : decode cX11_lend 61 = .ok (.ireturn, 1) := by decide +kernel
theorem dX11_walkTo_0 : decode cX11_walkTo 0 = .ok (.aload_n 0, 1) := by decide +kernel
theorem dX11_walkTo_1 : decode cX11_walkTo 1 = .ok (.getfield 39, 3) := by decide +kernel
theorem dX11_walkTo_4 : decode cX11_walkTo 4 = .ok (.iconst 0, 1) := by decide +kernel
theorem dX11_walkTo_5 : decode cX11_walkTo 5 = .ok (.dup2, 1) := by decide +kernel
theorem dX11_walkTo_6 : decode cX11_walkTo 6 = .ok (.iaload, 1) := by decide +kernel
theorem dX11_walkTo_7 : decode cX11_walkTo 7 = .ok (.iload_n 2, 1) := by decide +kernel
theorem dX11_walkTo_8 : decode cX11_walkTo 8 = .ok (.iadd, 1) := by decide +kernel
theorem dX11_walkTo_9 : decode cX11_walkTo 9 = .ok (.iastore, 1) := by decide +kernel
theorem dX11_walkTo_10 : decode cX11_walkTo 10 = .ok (.aload_n 0, 1) := by decide +kernel
theorem dX11_walkTo_11 : decode cX11_walkTo 11 = .ok (.getfield 39, 3) := by decide +kernel
theorem dX11_walkTo_14 : decode cX11_walkTo 14 = .ok (.iconst 1, 1) := by decide +kernel
theorem dX11_walkTo_15 : decode cX11_walkTo 15 = .ok (.aload_n 0, 1) := by decide +kernel
theorem dX11_walkTo_16 : decode cX11_walkTo 16 = .ok (.getfield 24, 3) := by decide +kernel
theorem dX11_walkTo_19 : decode cX11_walkTo 19 = .ok (.iload_n 1, 1) := by decide +kernel
theorem dX11_walkTo_20 : decode cX11_walkTo 20 = .ok (.iaload, 1) := by decide +kernel
theorem dX11_walkTo_21 : decode cX11_walkTo 21 = .ok (.iastore, 1) := by decide +kernel
theorem dX11_walkTo_22 : decode cX11_walkTo 22 = .ok (.aload_n 0, 1) := by decide +kernel
theorem dX11_walkTo_23 : decode cX11_walkTo 23 = .ok (.getfield 39, 3) := by decide +kernel
theorem dX11_walkTo_26 : decode cX11_walkTo 26 = .ok (.iconst 2, 1) := by decide +kernel
theorem dX11_walkTo_27 : decode cX11_walkTo 27 = .ok (.iload_n 1, 1) := by decide +kernel
theorem dX11_walkTo_28 : decode cX11_walkTo 28 = .ok (.iastore, 1) := by decide +kernel
theorem dX11_walkTo_29 : decode cX11_walkTo 29 = .ok (.return_, 1) := by decide +kernel
theorem dX11_doNow_0 : decode cX11_doNow 0 = .ok (.aload_n 0, 1) := by decide +kernel
theorem dX11_doNow_1 : decode cX11_doNow 1 = .ok (.getfield 39, 3) := by decide +kernel
theorem dX11_doNow_4 : decode cX11_doNow 4 = .ok (.iconst 0, 1) := by decide +kernel
theorem dX11_doNow_5 : decode cX11_doNow 5 = .ok (.dup2, 1) := by decide +kernel
theorem dX11_doNow_6 : decode cX11_doNow 6 = .ok (.iaload, 1) := by decide +kernel
theorem dX11_doNow_7 : decode cX11_doNow 7 = .ok (.aload_n 0, 1) := by decide +kernel
theorem dX11_doNow_8 : decode cX11_doNow 8 = .ok (.getfield 30, 3) := by decide +kernel
theorem dX11_doNow_11 : decode cX11_doNow 11 = .ok (.iconst 5, 1) := by decide +kernel
theorem dX11_doNow_12 : decode cX11_doNow 12 = .ok (.iload_n 1, 1) := by decide +kernel
theorem dX11_doNow_13 : decode cX11_doNow 13 = .ok (.imul, 1) := by decide +kernel
theorem dX11_doNow_14 : decode cX11_doNow 14 = .ok (.iconst 1, 1) := by decide +kernel
theorem dX11_doNow_15 : decode cX11_doNow 15 = .ok (.iadd, 1) := by decide +kernel
theorem dX11_doNow_16 : decode cX11_doNow 16 = .ok (.iaload, 1) := by decide +kernel
theorem dX11_doNow_17 : decode cX11_doNow 17 = .ok (.iadd, 1) := by decide +kernel
theorem dX11_doNow_18 : decode cX11_doNow 18 = .ok (.iastore, 1) := by decide +kernel
theorem dX11_doNow_19 : decode cX11_doNow 19 = .ok (.aload_n 0, 1) := by decide +kernel
theorem dX11_doNow_20 : decode cX11_doNow 20 = .ok (.getfield 39, 3) := by decide +kernel
theorem dX11_doNow_23 : decode cX11_doNow 23 = .ok (.iconst 4, 1) := by decide +kernel
theorem dX11_doNow_24 : decode cX11_doNow 24 = .ok (.iload_n 1, 1) := by decide +kernel
theorem dX11_doNow_25 : decode cX11_doNow 25 = .ok (.iadd, 1) := by decide +kernel
theorem dX11_doNow_26 : decode cX11_doNow 26 = .ok (.aload_n 0, 1) := by decide +kernel
theorem dX11_doNow_27 : decode cX11_doNow 27 = .ok (.getfield 39, 3) := by decide +kernel
theorem dX11_doNow_30 : decode cX11_doNow 30 = .ok (.iconst 0, 1) := by decide +kernel
theorem dX11_doNow_31 : decode cX11_doNow 31 = .ok (.iaload, 1) := by decide +kernel
theorem dX11_doNow_32 : decode cX11_doNow 32 = .ok (.iastore, 1) := by decide +kernel
theorem dX11_doNow_33 : decode cX11_doNow 33 = .ok (.return_, 1) := by decide +kernel
theorem dX11_act_0 : decode cX11_act 0 = .ok (.aload_n 0, 1) := by decide +kernel
theorem dX11_act_1 : decode cX11_act 1 = .ok (.iload_n 1, 1) := by decide +kernel
theorem dX11_act_2 : decode cX11_act 2 = .ok (.invokevirtual 239, 3) := by decide +kernel
theorem dX11_act_5 : decode cX11_act 5 = .ok (.ifCond .ne 6, 3) := by decide +kernel
theorem dX11_act_8 : decode cX11_act 8 = .ok (.ldc 235, 2) := by decide +kernel
theorem dX11_act_10 : decode cX11_act 10 = .ok (.ireturn, 1) := by decide +kernel
theorem dX11_act_11 : decode cX11_act 11 = .ok (.aload_n 0, 1) := by decide +kernel
theorem dX11_act_12 : decode cX11_act 12 = .ok (.iload_n 1, 1) := by decide +kernel
theorem dX11_act_13 : decode cX11_act 13 = .ok (.invokevirtual 215, 3) := by decide +kernel
theorem dX11_act_16 : decode cX11_act 16 = .ok (.ifCond .ne 20, 3) := by decide +kernel
theorem dX11_act_19 : decode cX11_act 19 = .ok (.aload_n 0, 1) := by decide +kernel
theorem dX11_act_20 : decode cX11_act 20 = .ok (.getfield 39, 3) := by decide +kernel
theorem dX11_act_23 : decode cX11_act 23 = .ok (.iconst 2, 1) := by decide +kernel
theorem dX11_act_24 : decode cX11_act 24 = .ok (.iaload, 1) := by decide +kernel
theorem dX11_act_25 : decode cX11_act 25 = .ok (.aload_n 0, 1) := by decide +kernel
theorem dX11_act_26 : decode cX11_act 26 = .ok (.getfield 30, 3) := by decide +kernel
theorem dX11_act_29 : decode cX11_act 29 = .ok (.iconst 5, 1) := by decide +kernel
theorem dX11_act_30 : decode cX11_act 30 = .ok (.iload_n 1, 1) := by decide +kernel
theorem dX11_act_31 : decode cX11_act 31 = .ok (.imul, 1) := by decide +kernel
theorem dX11_act_32 : decode cX11_act 32 = .ok (.iaload, 1) := by decide +kernel
theorem dX11_act_33 : decode cX11_act 33 = .ok (.if_icmp .eq 6, 3) := by decide +kernel
theorem dX11_act_36 : decode cX11_act 36 = .ok (.ldc 247, 2) := by decide +kernel
theorem dX11_act_38 : decode cX11_act 38 = .ok (.ireturn, 1) := by decide +kernel
theorem dX11_act_39 : decode cX11_act 39 = .ok (.aload_n 0, 1) := by decide +kernel
theorem dX11_act_40 : decode cX11_act 40 = .ok (.iload_n 1, 1) := by decide +kernel
theorem dX11_act_41 : decode cX11_act 41 = .ok (.invokevirtual 253, 3) := by decide +kernel
theorem dX11_act_44 : decode cX11_act 44 = .ok (.aload_n 0, 1) := by decide +kernel
theorem dX11_act_45 : decode cX11_act 45 = .ok (.getfield 39, 3) := by decide +kernel
theorem dX11_act_48 : decode cX11_act 48 = .ok (.iconst 0, 1) := by decide +kernel
theorem dX11_act_49 : decode cX11_act 49 = .ok (.iaload, 1) := by decide +kernel
theorem dX11_act_50 : decode cX11_act 50 = .ok (.ireturn, 1) := by decide +kernel
theorem dX11_drop_0 : decode cX11_drop 0 = .ok (.aload_n 0, 1) := by decide +kernel
theorem dX11_drop_1 : decode cX11_drop 1 = .ok (.getfield 39, 3) := by decide +kernel
theorem dX11_drop_4 : decode cX11_drop 4 = .ok (.iconst 2, 1) := by decide +kernel
theorem dX11_drop_5 : decode cX11_drop 5 = .ok (.iaload, 1) := by decide +kernel
theorem dX11_drop_6 : decode cX11_drop 6 = .ok (.istore_n 1, 1) := by decide +kernel
theorem dX11_drop_7 : decode cX11_drop 7 = .ok (.aload_n 0, 1) := by decide +kernel
theorem dX11_drop_8 : decode cX11_drop 8 = .ok (.getfield 39, 3) := by decide +kernel
theorem dX11_drop_11 : decode cX11_drop 11 = .ok (.iconst 2, 1) := by decide +kernel
theorem dX11_drop_12 : decode cX11_drop 12 = .ok (.iconst (-1), 1) := by decide +kernel
theorem dX11_drop_13 : decode cX11_drop 13 = .ok (.iastore, 1) := by decide +kernel
theorem dX11_drop_14 : decode cX11_drop 14 = .ok (.iload_n 1, 1) := by decide +kernel
theorem dX11_drop_15 : decode cX11_drop 15 = .ok (.ireturn, 1) := by decide +kernel
theorem dX11_pass_0 : decode cX11_pass 0 = .ok (.iload_n 1, 1) := by decide +kernel
theorem dX11_pass_1 : decode cX11_pass 1 = .ok (.i2l, 1) := by decide +kernel
theorem dX11_pass_2 : decode cX11_pass 2 = .ok (.lconst 1, 1) := by decide +kernel
theorem dX11_pass_3 : decode cX11_pass 3 = .ok (.ldc2_w 257, 3) := by decide +kernel
theorem dX11_pass_6 : decode cX11_pass 6 = .ok (.invokestatic 102, 3) := by decide +kernel
theorem dX11_pass_9 : decode cX11_pass 9 = .ok (.ifCond .ne 6, 3) := by decide +kernel
theorem dX11_pass_12 : decode cX11_pass 12 = .ok (.ldc 114, 2) := by decide +kernel
theorem dX11_pass_14 : decode cX11_pass 14 = .ok (.ireturn, 1) := by decide +kernel
theorem dX11_pass_15 : decode cX11_pass 15 = .ok (.aload_n 0, 1) := by decide +kernel
theorem dX11_pass_16 : decode cX11_pass 16 = .ok (.getfield 39, 3) := by decide +kernel
theorem dX11_pass_19 : decode cX11_pass 19 = .ok (.iconst 0, 1) := by decide +kernel
theorem dX11_pass_20 : decode cX11_pass 20 = .ok (.iaload, 1) := by decide +kernel
theorem dX11_pass_21 : decode cX11_pass 21 = .ok (.ldc 248, 2) := by decide +kernel
theorem dX11_pass_23 : decode cX11_pass 23 = .ok (.if_icmp .le 6, 3) := by decide +kernel
theorem dX11_pass_26 : decode cX11_pass 26 = .ok (.ldc 118, 2) := by decide +kernel
theorem dX11_pass_28 : decode cX11_pass 28 = .ok (.ireturn, 1) := by decide +kernel
theorem dX11_pass_29 : decode cX11_pass 29 = .ok (.aload_n 0, 1) := by decide +kernel
theorem dX11_pass_30 : decode cX11_pass 30 = .ok (.getfield 39, 3) := by decide +kernel
theorem dX11_pass_33 : decode cX11_pass 33 = .ok (.iconst 0, 1) := by decide +kernel
theorem dX11_pass_34 : decode cX11_pass 34 = .ok (.dup2, 1) := by decide +kernel
theorem dX11_pass_35 : decode cX11_pass 35 = .ok (.iaload, 1) := by decide +kernel
theorem dX11_pass_36 : decode cX11_pass 36 = .ok (.iload_n 1, 1) := by decide +kernel
theorem dX11_pass_37 : decode cX11_pass 37 = .ok (.iadd, 1) := by decide +kernel
theorem dX11_pass_38 : decode cX11_pass 38 = .ok (.iastore, 1) := by decide +kernel
theorem dX11_pass_39 : decode cX11_pass 39 = .ok (.aload_n 0, 1) := by decide +kernel
theorem dX11_pass_40 : decode cX11_pass 40 = .ok (.getfield 39, 3) := by decide +kernel
theorem dX11_pass_43 : decode cX11_pass 43 = .ok (.iconst 0, 1) := by decide +kernel
theorem dX11_pass_44 : decode cX11_pass 44 = .ok (.iaload, 1) := by decide +kernel
theorem dX11_pass_45 : decode cX11_pass 45 = .ok (.ireturn, 1) := by decide +kernel
theorem dX11_draw_0 : decode cX11_draw 0 = .ok (.aload_n 0, 1) := by decide +kernel
theorem dX11_draw_1 : decode cX11_draw 1 = .ok (.getfield 39, 3) := by decide +kernel
theorem dX11_draw_4 : decode cX11_draw 4 = .ok (.iconst 3, 1) := by decide +kernel
theorem dX11_draw_5 : decode cX11_draw 5 = .ok (.aload_n 0, 1) := by decide +kernel
theorem dX11_draw_6 : decode cX11_draw 6 = .ok (.getfield 39, 3) := by decide +kernel
theorem dX11_draw_9 : decode cX11_draw 9 = .ok (.iconst 3, 1) := by decide +kernel
theorem dX11_draw_10 : decode cX11_draw 10 = .ok (.iaload, 1) := by decide +kernel
theorem dX11_draw_11 : decode cX11_draw 11 = .ok (.i2l, 1) := by decide +kernel
theorem dX11_draw_12 : decode cX11_draw 12 = .ok (.ldc2_w 259, 3) := by decide +kernel
theorem dX11_draw_15 : decode cX11_draw 15 = .ok (.lmul, 1) := by decide +kernel
theorem dX11_draw_16 : decode cX11_draw 16 = .ok (.ldc2_w 261, 3) := by decide +kernel
theorem dX11_draw_19 : decode cX11_draw 19 = .ok (.ladd, 1) := by decide +kernel
theorem dX11_draw_20 : decode cX11_draw 20 = .ok (.ldc2_w 263, 3) := by decide +kernel
theorem dX11_draw_23 : decode cX11_draw 23 = .ok (.land, 1) := by decide +kernel
theorem dX11_draw_24 : decode cX11_draw 24 = .ok (.l2i, 1) := by decide +kernel
theorem dX11_draw_25 : decode cX11_draw 25 = .ok (.iastore, 1) := by decide +kernel
theorem dX11_draw_26 : decode cX11_draw 26 = .ok (.aload_n 0, 1) := by decide +kernel
theorem dX11_draw_27 : decode cX11_draw 27 = .ok (.getfield 39, 3) := by decide +kernel
theorem dX11_draw_30 : decode cX11_draw 30 = .ok (.iconst 3, 1) := by decide +kernel
theorem dX11_draw_31 : decode cX11_draw 31 = .ok (.iaload, 1) := by decide +kernel
theorem dX11_draw_32 : decode cX11_draw 32 = .ok (.ldc_w 265, 3) := by decide +kernel
theorem dX11_draw_35 : decode cX11_draw 35 = .ok (.idiv, 1) := by decide +kernel
theorem dX11_draw_36 : decode cX11_draw 36 = .ok (.iload_n 1, 1) := by decide +kernel
theorem dX11_draw_37 : decode cX11_draw 37 = .ok (.irem, 1) := by decide +kernel
theorem dX11_draw_38 : decode cX11_draw 38 = .ok (.ireturn, 1) := by decide +kernel
theorem dX11_drift_0 : decode cX11_drift 0 = .ok (.iload_n 1, 1) := by decide +kernel
theorem dX11_drift_1 : decode cX11_drift 1 = .ok (.i2l, 1) := by decide +kernel
theorem dX11_drift_2 : decode cX11_drift 2 = .ok (.lconst 1, 1) := by decide +kernel
theorem dX11_drift_3 : decode cX11_drift 3 = .ok (.ldc2_w 266, 3) := by decide +kernel
theorem dX11_drift_6 : decode cX11_drift 6 = .ok (.invokestatic 102, 3) := by decide +kernel
theorem dX11_drift_9 : decode cX11_drift 9 = .ok (.ifCond .ne 6, 3) := by decide +kernel
theorem dX11_drift_12 : decode cX11_drift 12 = .ok (.ldc 114, 2) := by decide +kernel
theorem dX11_drift_14 : decode cX11_drift 14 = .ok (.ireturn, 1) := by decide +kernel
theorem dX11_drift_15 : decode cX11_drift 15 = .ok (.aload_n 0, 1) := by decide +kernel
theorem dX11_drift_16 : decode cX11_drift 16 = .ok (.getfield 106, 3) := by decide +kernel
theorem dX11_drift_19 : decode cX11_drift 19 = .ok (.ifCond .ne 6, 3) := by decide +kernel
theorem dX11_drift_22 : decode cX11_drift 22 = .ok (.ldc 247, 2) := by decide +kernel
theorem dX11_drift_24 : decode cX11_drift 24 = .ok (.ireturn, 1) := by decide +kernel
theorem dX11_drift_25 : decode cX11_drift 25 = .ok (.aload_n 0, 1) := by decide +kernel
theorem dX11_drift_26 : decode cX11_drift 26 = .ok (.getfield 39, 3) := by decide +kernel
theorem dX11_drift_29 : decode cX11_drift 29 = .ok (.iconst 0, 1) := by decide +kernel
theorem dX11_drift_30 : decode cX11_drift 30 = .ok (.iaload, 1) := by decide +kernel
theorem dX11_drift_31 : decode cX11_drift 31 = .ok (.ldc 248, 2) := by decide +kernel
theorem dX11_drift_33 : decode cX11_drift 33 = .ok (.if_icmp .le 6, 3) := by decide +kernel
theorem dX11_drift_36 : decode cX11_drift 36 = .ok (.ldc 118, 2) := by decide +kernel
theorem dX11_drift_38 : decode cX11_drift 38 = .ok (.ireturn, 1) := by decide +kernel
theorem dX11_drift_39 : decode cX11_drift 39 = .ok (.iconst 0, 1) := by decide +kernel
theorem dX11_drift_40 : decode cX11_drift 40 = .ok (.istore_n 2, 1) := by decide +kernel
theorem dX11_drift_41 : decode cX11_drift 41 = .ok (.iload_n 2, 1) := by decide +kernel
theorem dX11_drift_42 : decode cX11_drift 42 = .ok (.iload_n 1, 1) := by decide +kernel
theorem dX11_drift_43 : decode cX11_drift 43 = .ok (.if_icmp .ge 135, 3) := by decide +kernel
theorem dX11_drift_46 : decode cX11_drift 46 = .ok (.aload_n 0, 1) := by decide +kernel
theorem dX11_drift_47 : decode cX11_drift 47 = .ok (.aload_n 0, 1) := by decide +kernel
theorem dX11_drift_48 : decode cX11_drift 48 = .ok (.getfield 106, 3) := by decide +kernel
theorem dX11_drift_51 : decode cX11_drift 51 = .ok (.invokevirtual 268, 3) := by decide +kernel
theorem dX11_drift_54 : decode cX11_drift 54 = .ok (.istore_n 3, 1) := by decide +kernel
theorem dX11_drift_55 : decode cX11_drift 55 = .ok (.aload_n 0, 1) := by decide +kernel
theorem dX11_drift_56 : decode cX11_drift 56 = .ok (.aload_n 0, 1) := by decide +kernel
theorem dX11_drift_57 : decode cX11_drift 57 = .ok (.getfield 39, 3) := by decide +kernel
theorem dX11_drift_60 : decode cX11_drift 60 = .ok (.iconst 1, 1) := by decide +kernel
theorem dX11_drift_61 : decode cX11_drift 61 = .ok (.iaload, 1) := by decide +kernel
theorem dX11_drift_62 : decode cX11_drift 62 = .ok (.aload_n 0, 1) := by decide +kernel
theorem dX11_drift_63 : decode cX11_drift 63 = .ok (.getfield 24, 3) := by decide +kernel
theorem dX11_drift_66 : decode cX11_drift 66 = .ok (.iload_n 3, 1) := by decide +kernel
theorem dX11_drift_67 : decode cX11_drift 67 = .ok (.iaload, 1) := by decide +kernel
theorem dX11_drift_68 : decode cX11_drift 68 = .ok (.invokevirtual 231, 3) := by decide +kernel
theorem dX11_drift_71 : decode cX11_drift 71 = .ok (.istore 4, 2) := by decide +kernel
theorem dX11_drift_73 : decode cX11_drift 73 = .ok (.iload 4, 2) := by decide +kernel
theorem dX11_drift_75 : decode cX11_drift 75 = .ok (.ifCond .lt 10, 3) := by decide +kernel
theorem dX11_drift_78 : decode cX11_drift 78 = .ok (.aload_n 0, 1) := by decide +kernel
theorem dX11_drift_79 : decode cX11_drift 79 = .ok (.iload_n 3, 1) := by decide +kernel
theorem dX11_drift_80 : decode cX11_drift 80 = .ok (.iload 4, 2) := by decide +kernel
theorem dX11_drift_82 : decode cX11_drift 82 = .ok (.invokevirtual 249, 3) := by decide +kernel
theorem dX11_drift_85 : decode cX11_drift 85 = .ok (.iconst (-1), 1) := by decide +kernel
theorem dX11_drift_86 : decode cX11_drift 86 = .ok (.istore 5, 2) := by decide +kernel
theorem dX11_drift_88 : decode cX11_drift 88 = .ok (.aload_n 0, 1) := by decide +kernel
theorem dX11_drift_89 : decode cX11_drift 89 = .ok (.getfield 109, 3) := by decide +kernel
theorem dX11_drift_92 : decode cX11_drift 92 = .ok (.iconst 1, 1) := by decide +kernel
theorem dX11_drift_93 : decode cX11_drift 93 = .ok (.isub, 1) := by decide +kernel
theorem dX11_drift_94 : decode cX11_drift 94 = .ok (.istore 6, 2) := by decide +kernel
theorem dX11_drift_96 : decode cX11_drift 96 = .ok (.iload 6, 2) := by decide +kernel
theorem dX11_drift_98 : decode cX11_drift 98 = .ok (.ifCond .lt 50, 3) := by decide +kernel
theorem dX11_drift_101 : decode cX11_drift 101 = .ok (.aload_n 0, 1) := by decide +kernel
theorem dX11_drift_102 : decode cX11_drift 102 = .ok (.getfield 39, 3) := by decide +kernel
theorem dX11_drift_105 : decode cX11_drift 105 = .ok (.iconst 2, 1) := by decide +kernel
theorem dX11_drift_106 : decode cX11_drift 106 = .ok (.iaload, 1) := by decide +kernel
theorem dX11_drift_107 : decode cX11_drift 107 = .ok (.iload_n 3, 1) := by decide +kernel
theorem dX11_drift_108 : decode cX11_drift 108 = .ok (.if_icmp .ne 30, 3) := by decide +kernel
theorem dX11_drift_111 : decode cX11_drift 111 = .ok (.aload_n 0, 1) := by decide +kernel
theorem dX11_drift_112 : decode cX11_drift 112 = .ok (.getfield 30, 3) := by decide +kernel
theorem dX11_drift_115 : decode cX11_drift 115 = .ok (.iconst 5, 1) := by decide +kernel
theorem dX11_drift_116 : decode cX11_drift 116 = .ok (.iload 6, 2) := by decide +kernel
theorem dX11_drift_118 : decode cX11_drift 118 = .ok (.imul, 1) := by decide +kernel
theorem dX11_drift_119 : decode cX11_drift 119 = .ok (.iaload, 1) := by decide +kernel
theorem dX11_drift_120 : decode cX11_drift 120 = .ok (.iload_n 3, 1) := by decide +kernel
theorem dX11_drift_121 : decode cX11_drift 121 = .ok (.if_icmp .ne 17, 3) := by decide +kernel
theorem dX11_drift_124 : decode cX11_drift 124 = .ok (.aload_n 0, 1) := by decide +kernel
theorem dX11_drift_125 : decode cX11_drift 125 = .ok (.iload 6, 2) := by decide +kernel
theorem dX11_drift_127 : decode cX11_drift 127 = .ok (.invokevirtual 215, 3) := by decide +kernel
theorem dX11_drift_130 : decode cX11_drift 130 = .ok (.ifCond .ne 8, 3) := by decide +kernel
theorem dX11_drift_133 : decode cX11_drift 133 = .ok (.iload 6, 2) := by decide +kernel
theorem dX11_drift_135 : decode cX11_drift 135 = .ok (.goto 5, 3) := by decide +kernel
theorem dX11_drift_138 : decode cX11_drift 138 = .ok (.iload 5, 2) := by decide +kernel
theorem dX11_drift_140 : decode cX11_drift 140 = .ok (.istore 5, 2) := by decide +kernel
theorem dX11_drift_142 : decode cX11_drift 142 = .ok (.iinc 6 (-1), 3) := by decide +kernel
theorem dX11_drift_145 : decode cX11_drift 145 = .ok (.goto (-49), 3) := by decide +kernel
theorem dX11_drift_148 : decode cX11_drift 148 = .ok (.iload 5, 2) := by decide +kernel
theorem dX11_drift_150 : decode cX11_drift 150 = .ok (.ifCond .lt 12, 3) := by decide +kernel
theorem dX11_drift_153 : decode cX11_drift 153 = .ok (.aload_n 0, 1) := by decide +kernel
theorem dX11_drift_154 : decode cX11_drift 154 = .ok (.iload 5, 2) := by decide +kernel
theorem dX11_drift_156 : decode cX11_drift 156 = .ok (.invokevirtual 253, 3) := by decide +kernel
theorem dX11_drift_159 : decode cX11_drift 159 = .ok (.goto 13, 3) := by decide +kernel
theorem dX11_drift_162 : decode cX11_drift 162 = .ok (.aload_n 0, 1) := by decide +kernel
theorem dX11_drift_163 : decode cX11_drift 163 = .ok (.getfield 39, 3) := by decide +kernel
theorem dX11_drift_166 : decode cX11_drift 166 = .ok (.iconst 0, 1) := by decide +kernel
theorem dX11_drift_167 : decode cX11_drift 167 = .ok (.dup2, 1) := by decide +kernel
theorem dX11_drift_168 : decode cX11_drift 168 = .ok (.iaload, 1) := by decide +kernel
theorem dX11_drift_169 : decode cX11_drift 169 = .ok (.iconst 1, 1) := by decide +kernel
theorem dX11_drift_170 : decode cX11_drift 170 = .ok (.iadd, 1) := by decide +kernel
theorem dX11_drift_171 : decode cX11_drift 171 = .ok (.iastore, 1) := by decide +kernel
theorem dX11_drift_172 : decode cX11_drift 172 = .ok (.iinc 2 1, 3) := by decide +kernel
theorem dX11_drift_175 : decode cX11_drift 175 = .ok (.goto (-134), 3) := by decide +kernel
theorem dX11_drift_178 : decode cX11_drift 178 = .ok (.aload_n 0, 1) := by decide +kernel
theorem dX11_drift_179 : decode cX11_drift 179 = .ok (.getfield 39, 3) := by decide +kernel
theorem dX11_drift_182 : decode cX11_drift 182 = .ok (.iconst 0, 1) := by decide +kernel
theorem dX11_drift_183 : decode cX11_drift 183 = .ok (.iaload, 1) := by decide +kernel
theorem dX11_drift_184 : decode cX11_drift 184 = .ok (.ireturn, 1) := by decide +kernel
theorem dX11_endBehind_0 : decode cX11_endBehind 0 = .ok (.aload_n 0, 1) := by decide +kernel
theorem dX11_endBehind_1 : decode cX11_endBehind 1 = .ok (.getfield 17, 3) := by decide +kernel
theorem dX11_endBehind_4 : decode cX11_endBehind 4 = .ok (.bipush 7, 2) := by decide +kernel
theorem dX11_endBehind_6 : decode cX11_endBehind 6 = .ok (.iload_n 2, 1) := by decide +kernel
theorem dX11_endBehind_7 : decode cX11_endBehind 7 = .ok (.imul, 1) := by decide +kernel
theorem dX11_endBehind_8 : decode cX11_endBehind 8 = .ok (.aload_n 0, 1) := by decide +kernel
theorem dX11_endBehind_9 : decode cX11_endBehind 9 = .ok (.iload_n 3, 1) := by decide +kernel
theorem dX11_endBehind_10 : decode cX11_endBehind 10 = .ok (.invokevirtual 271, 3) := by decide +kernel
theorem dX11_endBehind_13 : decode cX11_endBehind 13 = .ok (.iadd, 1) := by decide +kernel
theorem dX11_endBehind_14 : decode cX11_endBehind 14 = .ok (.iaload, 1) := by decide +kernel
theorem dX11_endBehind_15 : decode cX11_endBehind 15 = .ok (.istore 4, 2) := by decide +kernel
theorem dX11_endBehind_17 : decode cX11_endBehind 17 = .ok (.iload_n 1, 1) := by decide +kernel
theorem dX11_endBehind_18 : decode cX11_endBehind 18 = .ok (.ldc 135, 2) := by decide +kernel
theorem dX11_endBehind_20 : decode cX11_endBehind 20 = .ok (.if_icmp .ge 10, 3) := by decide +kernel
theorem dX11_endBehind_23 : decode cX11_endBehind 23 = .ok (.iload 4, 2) := by decide +kernel
theorem dX11_endBehind_25 : decode cX11_endBehind 25 = .ok (.ldc 135, 2) := by decide +kernel
theorem dX11_endBehind_27 : decode cX11_endBehind 27 = .ok (.if_icmp .lt 8, 3) := by decide +kernel
theorem dX11_endBehind_30 : decode cX11_endBehind 30 = .ok (.ldc 135, 2) := by decide +kernel
theorem dX11_endBehind_32 : decode cX11_endBehind 32 = .ok (.goto 18, 3) := by decide +kernel
theorem dX11_endBehind_35 : decode cX11_endBehind 35 = .ok (.iload_n 1, 1) := by decide +kernel
theorem dX11_endBehind_36 : decode cX11_endBehind 36 = .ok (.iload 4, 2) := by decide +kernel
theorem dX11_endBehind_38 : decode cX11_endBehind 38 = .ok (.iadd, 1) := by decide +kernel
theorem dX11_endBehind_39 : decode cX11_endBehind 39 = .ok (.aload_n 0, 1) := by decide +kernel
theorem dX11_endBehind_40 : decode cX11_endBehind 40 = .ok (.getfield 30, 3) := by decide +kernel
theorem dX11_endBehind_43 : decode cX11_endBehind 43 = .ok (.iconst 5, 1) := by decide +kernel
theorem dX11_endBehind_44 : decode cX11_endBehind 44 = .ok (.iload_n 3, 1) := by decide +kernel
theorem dX11_endBehind_45 : decode cX11_endBehind 45 = .ok (.imul, 1) := by decide +kernel
theorem dX11_endBehind_46 : decode cX11_endBehind 46 = .ok (.iconst 1, 1) := by decide +kernel
theorem dX11_endBehind_47 : decode cX11_endBehind 47 = .ok (.iadd, 1) := by decide +kernel
theorem dX11_endBehind_48 : decode cX11_endBehind 48 = .ok (.iaload, 1) := by decide +kernel
theorem dX11_endBehind_49 : decode cX11_endBehind 49 = .ok (.iadd, 1) := by decide +kernel
theorem dX11_endBehind_50 : decode cX11_endBehind 50 = .ok (.istore 5, 2) := by decide +kernel
theorem dX11_endBehind_52 : decode cX11_endBehind 52 = .ok (.iload 5, 2) := by decide +kernel
theorem dX11_endBehind_54 : decode cX11_endBehind 54 = .ok (.aload_n 0, 1) := by decide +kernel
theorem dX11_endBehind_55 : decode cX11_endBehind 55 = .ok (.getfield 30, 3) := by decide +kernel
theorem dX11_endBehind_58 : decode cX11_endBehind 58 = .ok (.iconst 5, 1) := by decide +kernel
theorem dX11_endBehind_59 : decode cX11_endBehind 59 = .ok (.iload_n 3, 1) := by decide +kernel
theorem dX11_endBehind_60 : decode cX11_endBehind 60 = .ok (.imul, 1) := by decide +kernel
theorem dX11_endBehind_61 : decode cX11_endBehind 61 = .ok (.iconst 2, 1) := by decide +kernel
theorem dX11_endBehind_62 : decode cX11_endBehind 62 = .ok (.iadd, 1) := by decide +kernel
theorem dX11_endBehind_63 : decode cX11_endBehind 63 = .ok (.iaload, 1) := by decide +kernel
theorem dX11_endBehind_64 : decode cX11_endBehind 64 = .ok (.if_icmp .le 8, 3) := by decide +kernel
theorem dX11_endBehind_67 : decode cX11_endBehind 67 = .ok (.ldc 135, 2) := by decide +kernel
theorem dX11_endBehind_69 : decode cX11_endBehind 69 = .ok (.goto 5, 3) := by decide +kernel
theorem dX11_endBehind_72 : decode cX11_endBehind 72 = .ok (.iload 5, 2) := by decide +kernel
theorem dX11_endBehind_74 : decode cX11_endBehind 74 = .ok (.ireturn, 1) := by decide +kernel
theorem dX11_findEnds_0 : decode cX11_findEnds 0 = .ok (.iconst 1, 1) := by decide +kernel
theorem dX11_findEnds_1 : decode cX11_findEnds 1 = .ok (.istore 4, 2) := by decide +kernel
theorem dX11_findEnds_3 : decode cX11_findEnds 3 = .ok (.iload 4, 2) := by decide +kernel
theorem dX11_findEnds_5 : decode cX11_findEnds 5 = .ok (.bipush 64, 2) := by decide +kernel
theorem dX11_findEnds_7 : decode cX11_findEnds 7 = .ok (.if_icmp .ge 181, 3) := by decide +kernel
theorem dX11_findEnds_10 : decode cX11_findEnds 10 = .ok (.iconst 0, 1) := by decide +kernel
theorem dX11_findEnds_11 : decode cX11_findEnds 11 = .ok (.istore 5, 2) := by decide +kernel
theorem dX11_findEnds_13 : decode cX11_findEnds 13 = .ok (.iload 5, 2) := by decide +kernel
theorem dX11_findEnds_15 : decode cX11_findEnds 15 = .ok (.bipush 6, 2) := by decide +kernel
theorem dX11_findEnds_17 : decode cX11_findEnds 17 = .ok (.if_icmp .ge 165, 3) := by decide +kernel
theorem dX11_findEnds_20 : decode cX11_findEnds 20 = .ok (.aload_n 0, 1) := by decide +kernel
theorem dX11_findEnds_21 : decode cX11_findEnds 21 = .ok (.getfield 63, 3) := by decide +kernel
theorem dX11_findEnds_24 : decode cX11_findEnds 24 = .ok (.bipush 6, 2) := by decide +kernel
theorem dX11_findEnds_26 : decode cX11_findEnds 26 = .ok (.iload 4, 2) := by decide +kernel
theorem dX11_findEnds_28 : decode cX11_findEnds 28 = .ok (.imul, 1) := by decide +kernel
theorem dX11_findEnds_29 : decode cX11_findEnds 29 = .ok (.iload 5, 2) := by decide +kernel
theorem dX11_findEnds_31 : decode cX11_findEnds 31 = .ok (.iadd, 1) := by decide +kernel
theorem dX11_findEnds_32 : decode cX11_findEnds 32 = .ok (.ldc 135, 2) := by decide +kernel
theorem dX11_findEnds_34 : decode cX11_findEnds 34 = .ok (.iastore, 1) := by decide +kernel
theorem dX11_findEnds_35 : decode cX11_findEnds 35 = .ok (.iload 4, 2) := by decide +kernel
theorem dX11_findEnds_37 : decode cX11_findEnds 37 = .ok (.iload 5, 2) := by decide +kernel
theorem dX11_findEnds_39 : decode cX11_findEnds 39 = .ok (.invokestatic 219, 3) := by decide +kernel
theorem dX11_findEnds_42 : decode cX11_findEnds 42 = .ok (.ifCond .eq 134, 3) := by decide +kernel
theorem dX11_findEnds_45 : decode cX11_findEnds 45 = .ok (.iload 4, 2) := by decide +kernel
theorem dX11_findEnds_47 : decode cX11_findEnds 47 = .ok (.iload_n 3, 1) := by decide +kernel
theorem dX11_findEnds_48 : decode cX11_findEnds 48 = .ok (.iconst (-1), 1) := by decide +kernel
theorem dX11_findEnds_49 : decode cX11_findEnds 49 = .ok (.ixor, 1) := by decide +kernel
theorem dX11_findEnds_50 : decode cX11_findEnds 50 = .ok (.iand, 1) := by decide +kernel
theorem dX11_findEnds_51 : decode cX11_findEnds 51 = .ok (.ifCond .ne 125, 3) := by decide +kernel
theorem dX11_findEnds_54 : decode cX11_findEnds 54 = .ok (.iload 4, 2) := by decide +kernel
theorem dX11_findEnds_56 : decode cX11_findEnds 56 = .ok (.iconst 1, 1) := by decide +kernel
theorem dX11_findEnds_57 : decode cX11_findEnds 57 = .ok (.iload 5, 2) := by decide +kernel
theorem dX11_findEnds_59 : decode cX11_findEnds 59 = .ok (.ishl, 1) := by decide +kernel
theorem dX11_findEnds_60 : decode cX11_findEnds 60 = .ok (.iconst (-1), 1) := by decide +kernel
theorem dX11_findEnds_61 : decode cX11_findEnds 61 = .ok (.ixor, 1) := by decide +kernel
theorem dX11_findEnds_62 : decode cX11_findEnds 62 = .ok (.iand, 1) := by decide +kernel
theorem dX11_findEnds_63 : decode cX11_findEnds 63 = .ok (.istore 6, 2) := by decide +kernel
theorem dX11_findEnds_65 : decode cX11_findEnds 65 = .ok (.iload 6, 2) := by decide +kernel
theorem dX11_findEnds_67 : decode cX11_findEnds 67 = .ok (.ifCond .ne 14, 3) := by decide +kernel
theorem dX11_findEnds_70 : decode cX11_findEnds 70 = .ok (.aload_n 0, 1) := by decide +kernel
theorem dX11_findEnds_71 : decode cX11_findEnds 71 = .ok (.iload_n 1, 1) := by decide +kernel
theorem dX11_findEnds_72 : decode cX11_findEnds 72 = .ok (.iload_n 2, 1) := by decide +kernel
theorem dX11_findEnds_73 : decode cX11_findEnds 73 = .ok (.iload 5, 2) := by decide +kernel
theorem dX11_findEnds_75 : decode cX11_findEnds 75 = .ok (.invokevirtual 274, 3) := by decide +kernel
theorem dX11_findEnds_78 : decode cX11_findEnds 78 = .ok (.goto 5, 3) := by decide +kernel
theorem dX11_findEnds_81 : decode cX11_findEnds 81 = .ok (.ldc 135, 2) := by decide +kernel
theorem dX11_findEnds_83 : decode cX11_findEnds 83 = .ok (.istore 7, 2) := by decide +kernel
theorem dX11_findEnds_85 : decode cX11_findEnds 85 = .ok (.iconst 0, 1) := by decide +kernel
theorem dX11_findEnds_86 : decode cX11_findEnds 86 = .ok (.istore 8, 2) := by decide +kernel
theorem dX11_findEnds_88 : decode cX11_findEnds 88 = .ok (.iload 8, 2) := by decide +kernel
theorem dX11_findEnds_90 : decode cX11_findEnds 90 = .ok (.aload_n 0, 1) := by decide +kernel
theorem dX11_findEnds_91 : decode cX11_findEnds 91 = .ok (.getfield 109, 3) := by decide +kernel
theorem dX11_findEnds_94 : decode cX11_findEnds 94 = .ok (.if_icmp .ge 67, 3) := by decide +kernel
theorem dX11_findEnds_97 : decode cX11_findEnds 97 = .ok (.iload 6, 2) := by decide +kernel
theorem dX11_findEnds_99 : decode cX11_findEnds 99 = .ok (.iload 8, 2) := by decide +kernel
theorem dX11_findEnds_101 : decode cX11_findEnds 101 = .ok (.invokestatic 219, 3) := by decide +kernel
theorem dX11_findEnds_104 : decode cX11_findEnds 104 = .ok (.ifCond .eq 31, 3) := by decide +kernel
theorem dX11_findEnds_107 : decode cX11_findEnds 107 = .ok (.aload_n 0, 1) := by decide +kernel
theorem dX11_findEnds_108 : decode cX11_findEnds 108 = .ok (.aload_n 0, 1) := by decide +kernel
theorem dX11_findEnds_109 : decode cX11_findEnds 109 = .ok (.getfield 63, 3) := by decide +kernel
theorem dX11_findEnds_112 : decode cX11_findEnds 112 = .ok (.bipush 6, 2) := by decide +kernel
theorem dX11_findEnds_114 : decode cX11_findEnds 114 = .ok (.iload 6, 2) := by decide +kernel
theorem dX11_findEnds_116 : decode cX11_findEnds 116 = .ok (.imul, 1) := by decide +kernel
theorem dX11_findEnds_117 : decode cX11_findEnds 117 = .ok (.iload 8, 2) := by decide +kernel
theorem dX11_findEnds_119 : decode cX11_findEnds 119 = .ok (.iadd, 1) := by decide +kernel
theorem dX11_findEnds_120 : decode cX11_findEnds 120 = .ok (.iaload, 1) := by decide +kernel
theorem dX11_findEnds_121 : decode cX11_findEnds 121 = .ok (.aload_n 0, 1) := by decide +kernel
theorem dX11_findEnds_122 : decode cX11_findEnds 122 = .ok (.iload 8, 2) := by decide +kernel
theorem dX11_findEnds_124 : decode cX11_findEnds 124 = .ok (.invokevirtual 271, 3) := by decide +kernel
theorem dX11_findEnds_127 : decode cX11_findEnds 127 = .ok (.iload 5, 2) := by decide +kernel
theorem dX11_findEnds_129 : decode cX11_findEnds 129 = .ok (.invokevirtual 274, 3) := by decide +kernel
theorem dX11_findEnds_132 : decode cX11_findEnds 132 = .ok (.goto 5, 3) := by decide +kernel
theorem dX11_findEnds_135 : decode cX11_findEnds 135 = .ok (.ldc 135, 2) := by decide +kernel
theorem dX11_findEnds_137 : decode cX11_findEnds 137 = .ok (.istore 9, 2) := by decide +kernel
theorem dX11_findEnds_139 : decode cX11_findEnds 139 = .ok (.iload 9, 2) := by decide +kernel
theorem dX11_findEnds_141 : decode cX11_findEnds 141 = .ok (.iload 7, 2) := by decide +kernel
theorem dX11_findEnds_143 : decode cX11_findEnds 143 = .ok (.if_icmp .ge 8, 3) := by decide +kernel
theorem dX11_findEnds_146 : decode cX11_findEnds 146 = .ok (.iload 9, 2) := by decide +kernel
theorem dX11_findEnds_148 : decode cX11_findEnds 148 = .ok (.goto 5, 3) := by decide +kernel
theorem dX11_findEnds_151 : decode cX11_findEnds 151 = .ok (.iload 7, 2) := by decide +kernel
theorem dX11_findEnds_153 : decode cX11_findEnds 153 = .ok (.istore 7, 2) := by decide +kernel
theorem dX11_findEnds_155 : decode cX11_findEnds 155 = .ok (.iinc 8 1, 3) := by decide +kernel
theorem dX11_findEnds_158 : decode cX11_findEnds 158 = .ok (.goto (-70), 3) := by decide +kernel
theorem dX11_findEnds_161 : decode cX11_findEnds 161 = .ok (.aload_n 0, 1) := by decide +kernel
theorem dX11_findEnds_162 : decode cX11_findEnds 162 = .ok (.getfield 63, 3) := by decide +kernel
theorem dX11_findEnds_165 : decode cX11_findEnds 165 = .ok (.bipush 6, 2) := by decide +kernel
theorem dX11_findEnds_167 : decode cX11_findEnds 167 = .ok (.iload 4, 2) := by decide +kernel
theorem dX11_findEnds_169 : decode cX11_findEnds 169 = .ok (.imul, 1) := by decide +kernel
theorem dX11_findEnds_170 : decode cX11_findEnds 170 = .ok (.iload 5, 2) := by decide +kernel
theorem dX11_findEnds_172 : decode cX11_findEnds 172 = .ok (.iadd, 1) := by decide +kernel
theorem dX11_findEnds_173 : decode cX11_findEnds 173 = .ok (.iload 7, 2) := by decide +kernel
theorem dX11_findEnds_175 : decode cX11_findEnds 175 = .ok (.iastore, 1) := by decide +kernel
theorem dX11_findEnds_176 : decode cX11_findEnds 176 = .ok (.iinc 5 1, 3) := by decide +kernel
theorem dX11_findEnds_179 : decode cX11_findEnds 179 = .ok (.goto (-166), 3) := by decide +kernel
theorem dX11_findEnds_182 : decode cX11_findEnds 182 = .ok (.iinc 4 1, 3) := by decide +kernel
theorem dX11_findEnds_185 : decode cX11_findEnds 185 = .ok (.goto (-182), 3) := by decide +kernel
theorem dX11_findEnds_188 : decode cX11_findEnds 188 = .ok (.return_, 1) := by decide +kernel
theorem dX11_endOf_0 : decode cX11_endOf 0 = .ok (.iload_n 1, 1) := by decide +kernel
theorem dX11_endOf_1 : decode cX11_endOf 1 = .ok (.ifCond .ne 7, 3) := by decide +kernel
theorem dX11_endOf_4 : decode cX11_endOf 4 = .ok (.iload_n 2, 1) := by decide +kernel
theorem dX11_endOf_5 : decode cX11_endOf 5 = .ok (.goto 5, 3) := by decide +kernel
theorem dX11_endOf_8 : decode cX11_endOf 8 = .ok (.ldc 135, 2) := by decide +kernel
theorem dX11_endOf_10 : decode cX11_endOf 10 = .ok (.istore_n 3, 1) := by decide +kernel
theorem dX11_endOf_11 : decode cX11_endOf 11 = .ok (.iconst 0, 1) := by decide +kernel
theorem dX11_endOf_12 : decode cX11_endOf 12 = .ok (.istore 4, 2) := by decide +kernel
theorem dX11_endOf_14 : decode cX11_endOf 14 = .ok (.iload 4, 2) := by decide +kernel
theorem dX11_endOf_16 : decode cX11_endOf 16 = .ok (.aload_n 0, 1) := by decide +kernel
theorem dX11_endOf_17 : decode cX11_endOf 17 = .ok (.getfield 109, 3) := by decide +kernel
theorem dX11_endOf_20 : decode cX11_endOf 20 = .ok (.if_icmp .ge 51, 3) := by decide +kernel
theorem dX11_endOf_23 : decode cX11_endOf 23 = .ok (.iload_n 1, 1) := by decide +kernel
theorem dX11_endOf_24 : decode cX11_endOf 24 = .ok (.iload 4, 2) := by decide +kernel
theorem dX11_endOf_26 : decode cX11_endOf 26 = .ok (.invokestatic 219, 3) := by decide +kernel
theorem dX11_endOf_29 : decode cX11_endOf 29 = .ok (.ifCond .eq 34, 3) := by decide +kernel
theorem dX11_endOf_32 : decode cX11_endOf 32 = .ok (.aload_n 0, 1) := by decide +kernel
theorem dX11_endOf_33 : decode cX11_endOf 33 = .ok (.getfield 63, 3) := by decide +kernel
theorem dX11_endOf_36 : decode cX11_endOf 36 = .ok (.bipush 6, 2) := by decide +kernel
theorem dX11_endOf_38 : decode cX11_endOf 38 = .ok (.iload_n 1, 1) := by decide +kernel
theorem dX11_endOf_39 : decode cX11_endOf 39 = .ok (.imul, 1) := by decide +kernel
theorem dX11_endOf_40 : decode cX11_endOf 40 = .ok (.iload 4, 2) := by decide +kernel
theorem dX11_endOf_42 : decode cX11_endOf 42 = .ok (.iadd, 1) := by decide +kernel
theorem dX11_endOf_43 : decode cX11_endOf 43 = .ok (.iaload, 1) := by decide +kernel
theorem dX11_endOf_44 : decode cX11_endOf 44 = .ok (.iload_n 3, 1) := by decide +kernel
theorem dX11_endOf_45 : decode cX11_endOf 45 = .ok (.if_icmp .ge 18, 3) := by decide +kernel
theorem dX11_endOf_48 : decode cX11_endOf 48 = .ok (.aload_n 0, 1) := by decide +kernel
theorem dX11_endOf_49 : decode cX11_endOf 49 = .ok (.getfield 63, 3) := by decide +kernel
theorem dX11_endOf_52 : decode cX11_endOf 52 = .ok (.bipush 6, 2) := by decide +kernel
theorem dX11_endOf_54 : decode cX11_endOf 54 = .ok (.iload_n 1, 1) := by decide +kernel
theorem dX11_endOf_55 : decode cX11_endOf 55 = .ok (.imul, 1) := by decide +kernel
theorem dX11_endOf_56 : decode cX11_endOf 56 = .ok (.iload 4, 2) := by decide +kernel
theorem dX11_endOf_58 : decode cX11_endOf 58 = .ok (.iadd, 1) := by decide +kernel
theorem dX11_endOf_59 : decode cX11_endOf 59 = .ok (.iaload, 1) := by decide +kernel
theorem dX11_endOf_60 : decode cX11_endOf 60 = .ok (.goto 4, 3) := by decide +kernel
theorem dX11_endOf_63 : decode cX11_endOf 63 = .ok (.iload_n 3, 1) := by decide +kernel
theorem dX11_endOf_64 : decode cX11_endOf 64 = .ok (.istore_n 3, 1) := by decide +kernel
theorem dX11_endOf_65 : decode cX11_endOf 65 = .ok (.iinc 4 1, 3) := by decide +kernel
theorem dX11_endOf_68 : decode cX11_endOf 68 = .ok (.goto (-54), 3) := by decide +kernel
theorem dX11_endOf_71 : decode cX11_endOf 71 = .ok (.iload_n 3, 1) := by decide +kernel
theorem dX11_endOf_72 : decode cX11_endOf 72 = .ok (.ireturn, 1) := by decide +kernel
theorem dX11_isRow_0 : decode cX11_isRow 0 = .ok (.aload_n 0, 1) := by decide +kernel
theorem dX11_isRow_1 : decode cX11_isRow 1 = .ok (.getfield 39, 3) := by decide +kernel
theorem dX11_isRow_4 : decode cX11_isRow 4 = .ok (.iconst 0, 1) := by decide +kernel
theorem dX11_isRow_5 : decode cX11_isRow 5 = .ok (.iaload, 1) := by decide +kernel
theorem dX11_isRow_6 : decode cX11_isRow 6 = .ok (.istore 4, 2) := by decide +kernel
theorem dX11_isRow_8 : decode cX11_isRow 8 = .ok (.aload_n 0, 1) := by decide +kernel
theorem dX11_isRow_9 : decode cX11_isRow 9 = .ok (.getfield 39, 3) := by decide +kernel
theorem dX11_isRow_12 : decode cX11_isRow 12 = .ok (.iconst 1, 1) := by decide +kernel
theorem dX11_isRow_13 : decode cX11_isRow 13 = .ok (.iaload, 1) := by decide +kernel
theorem dX11_isRow_14 : decode cX11_isRow 14 = .ok (.istore 5, 2) := by decide +kernel
theorem dX11_isRow_16 : decode cX11_isRow 16 = .ok (.iload_n 2, 1) := by decide +kernel
theorem dX11_isRow_17 : decode cX11_isRow 17 = .ok (.istore 6, 2) := by decide +kernel
theorem dX11_isRow_19 : decode cX11_isRow 19 = .ok (.iconst 0, 1) := by decide +kernel
theorem dX11_isRow_20 : decode cX11_isRow 20 = .ok (.istore 7, 2) := by decide +kernel
theorem dX11_isRow_22 : decode cX11_isRow 22 = .ok (.iload 7, 2) := by decide +kernel
theorem dX11_isRow_24 : decode cX11_isRow 24 = .ok (.iload_n 1, 1) := by decide +kernel
theorem dX11_isRow_25 : decode cX11_isRow 25 = .ok (.if_icmp .ge 75, 3) := by decide +kernel
theorem dX11_isRow_28 : decode cX11_isRow 28 = .ok (.iload 6, 2) := by decide +kernel
theorem dX11_isRow_30 : decode cX11_isRow 30 = .ok (.aload_n 0, 1) := by decide +kernel
theorem dX11_isRow_31 : decode cX11_isRow 31 = .ok (.getfield 66, 3) := by decide +kernel
theorem dX11_isRow_34 : decode cX11_isRow 34 = .ok (.iload 7, 2) := by decide +kernel
theorem dX11_isRow_36 : decode cX11_isRow 36 = .ok (.iaload, 1) := by decide +kernel
theorem dX11_isRow_37 : decode cX11_isRow 37 = .ok (.invokestatic 219, 3) := by decide +kernel
theorem dX11_isRow_40 : decode cX11_isRow 40 = .ok (.ifCond .eq 21, 3) := by decide +kernel
theorem dX11_isRow_43 : decode cX11_isRow 43 = .ok (.aload_n 0, 1) := by decide +kernel
theorem dX11_isRow_44 : decode cX11_isRow 44 = .ok (.iload 4, 2) := by decide +kernel
theorem dX11_isRow_46 : decode cX11_isRow 46 = .ok (.iload 5, 2) := by decide +kernel
theorem dX11_isRow_48 : decode cX11_isRow 48 = .ok (.aload_n 0, 1) := by decide +kernel
theorem dX11_isRow_49 : decode cX11_isRow 49 = .ok (.getfield 66, 3) := by decide +kernel
theorem dX11_isRow_52 : decode cX11_isRow 52 = .ok (.iload 7, 2) := by decide +kernel
theorem dX11_isRow_54 : decode cX11_isRow 54 = .ok (.iaload, 1) := by decide +kernel
theorem dX11_isRow_55 : decode cX11_isRow 55 = .ok (.invokevirtual 274, 3) := by decide +kernel
theorem dX11_isRow_58 : decode cX11_isRow 58 = .ok (.goto 5, 3) := by decide +kernel
theorem dX11_isRow_61 : decode cX11_isRow 61 = .ok (.ldc 135, 2) := by decide +kernel
theorem dX11_isRow_63 : decode cX11_isRow 63 = .ok (.istore 4, 2) := by decide +kernel
theorem dX11_isRow_65 : decode cX11_isRow 65 = .ok (.iload 6, 2) := by decide +kernel
theorem dX11_isRow_67 : decode cX11_isRow 67 = .ok (.iconst 1, 1) := by decide +kernel
theorem dX11_isRow_68 : decode cX11_isRow 68 = .ok (.aload_n 0, 1) := by decide +kernel
theorem dX11_isRow_69 : decode cX11_isRow 69 = .ok (.getfield 66, 3) := by decide +kernel
theorem dX11_isRow_72 : decode cX11_isRow 72 = .ok (.iload 7, 2) := by decide +kernel
theorem dX11_isRow_74 : decode cX11_isRow 74 = .ok (.iaload, 1) := by decide +kernel
theorem dX11_isRow_75 : decode cX11_isRow 75 = .ok (.ishl, 1) := by decide +kernel
theorem dX11_isRow_76 : decode cX11_isRow 76 = .ok (.iconst (-1), 1) := by decide +kernel
theorem dX11_isRow_77 : decode cX11_isRow 77 = .ok (.ixor, 1) := by decide +kernel
theorem dX11_isRow_78 : decode cX11_isRow 78 = .ok (.iand, 1) := by decide +kernel
theorem dX11_isRow_79 : decode cX11_isRow 79 = .ok (.istore 6, 2) := by decide +kernel
theorem dX11_isRow_81 : decode cX11_isRow 81 = .ok (.aload_n 0, 1) := by decide +kernel
theorem dX11_isRow_82 : decode cX11_isRow 82 = .ok (.aload_n 0, 1) := by decide +kernel
theorem dX11_isRow_83 : decode cX11_isRow 83 = .ok (.getfield 66, 3) := by decide +kernel
theorem dX11_isRow_86 : decode cX11_isRow 86 = .ok (.iload 7, 2) := by decide +kernel
theorem dX11_isRow_88 : decode cX11_isRow 88 = .ok (.iaload, 1) := by decide +kernel
theorem dX11_isRow_89 : decode cX11_isRow 89 = .ok (.invokevirtual 271, 3) := by decide +kernel
theorem dX11_isRow_92 : decode cX11_isRow 92 = .ok (.istore 5, 2) := by decide +kernel
theorem dX11_isRow_94 : decode cX11_isRow 94 = .ok (.iinc 7 1, 3) := by decide +kernel
theorem dX11_isRow_97 : decode cX11_isRow 97 = .ok (.goto (-75), 3) := by decide +kernel
theorem dX11_isRow_100 : decode cX11_isRow 100 = .ok (.iload 4, 2) := by decide +kernel
theorem dX11_isRow_102 : decode cX11_isRow 102 = .ok (.iload_n 3, 1) := by decide +kernel
theorem dX11_isRow_103 : decode cX11_isRow 103 = .ok (.if_icmp .ne 7, 3) := by decide +kernel
theorem dX11_isRow_106 : decode cX11_isRow 106 = .ok (.iconst 1, 1) := by decide +kernel
theorem dX11_isRow_107 : decode cX11_isRow 107 = .ok (.goto 4, 3) := by decide +kernel
theorem dX11_isRow_110 : decode cX11_isRow 110 = .ok (.iconst 0, 1) := by decide +kernel
theorem dX11_isRow_111 : decode cX11_isRow 111 = .ok (.ireturn, 1) := by decide +kernel
theorem dX11_firstRow_0 : decode cX11_firstRow 0 = .ok (.iconst (-1), 1) := by decide +kernel
theorem dX11_firstRow_1 : decode cX11_firstRow 1 = .ok (.istore 4, 2) := by decide +kernel
theorem dX11_firstRow_3 : decode cX11_firstRow 3 = .ok (.iconst 0, 1) := by decide +kernel
theorem dX11_firstRow_4 : decode cX11_firstRow 4 = .ok (.istore 5, 2) := by decide +kernel
theorem dX11_firstRow_6 : decode cX11_firstRow 6 = .ok (.iconst 0, 1) := by decide +kernel
theorem dX11_firstRow_7 : decode cX11_firstRow 7 = .ok (.istore 6, 2) := by decide +kernel
theorem dX11_firstRow_9 : decode cX11_firstRow 9 = .ok (.iload 6, 2) := by decide +kernel
theorem dX11_firstRow_11 : decode cX11_firstRow 11 = .ok (.aload_n 0, 1) := by decide +kernel
theorem dX11_firstRow_12 : decode cX11_firstRow 12 = .ok (.getfield 109, 3) := by decide +kernel
theorem dX11_firstRow_15 : decode cX11_firstRow 15 = .ok (.if_icmp .gt 151, 3) := by decide +kernel
theorem dX11_firstRow_18 : decode cX11_firstRow 18 = .ok (.iconst 1, 1) := by decide +kernel
theorem dX11_firstRow_19 : decode cX11_firstRow 19 = .ok (.istore 7, 2) := by decide +kernel
theorem dX11_firstRow_21 : decode cX11_firstRow 21 = .ok (.iconst 0, 1) := by decide +kernel
theorem dX11_firstRow_22 : decode cX11_firstRow 22 = .ok (.istore 8, 2) := by decide +kernel
theorem dX11_firstRow_24 : decode cX11_firstRow 24 = .ok (.iload 8, 2) := by decide +kernel
theorem dX11_firstRow_26 : decode cX11_firstRow 26 = .ok (.iload 6, 2) := by decide +kernel
theorem dX11_firstRow_28 : decode cX11_firstRow 28 = .ok (.if_icmp .ge 16, 3) := by decide +kernel
theorem dX11_firstRow_31 : decode cX11_firstRow 31 = .ok (.iload 7, 2) := by decide +kernel
theorem dX11_firstRow_33 : decode cX11_firstRow 33 = .ok (.bipush 6, 2) := by decide +kernel
theorem dX11_firstRow_35 : decode cX11_firstRow 35 = .ok (.imul, 1) := by decide +kernel
theorem dX11_firstRow_36 : decode cX11_firstRow 36 = .ok (.istore 7, 2) := by decide +kernel
theorem dX11_firstRow_38 : decode cX11_firstRow 38 = .ok (.iinc 8 1, 3) := by decide +kernel
theorem dX11_firstRow_41 : decode cX11_firstRow 41 = .ok (.goto (-17), 3) := by decide +kernel
theorem dX11_firstRow_44 : decode cX11_firstRow 44 = .ok (.iconst 0, 1) := by decide +kernel
theorem dX11_firstRow_45 : decode cX11_firstRow 45 = .ok (.istore 8, 2) := by decide +kernel
theorem dX11_firstRow_47 : decode cX11_firstRow 47 = .ok (.iload 8, 2) := by decide +kernel
theorem dX11_firstRow_49 : decode cX11_firstRow 49 = .ok (.iload 7, 2) := by decide +kernel
theorem dX11_firstRow_51 : decode cX11_firstRow 51 = .ok (.if_icmp .ge 109, 3) := by decide +kernel
theorem dX11_firstRow_54 : decode cX11_firstRow 54 = .ok (.aload_n 0, 1) := by decide +kernel
theorem dX11_firstRow_55 : decode cX11_firstRow 55 = .ok (.iload 8, 2) := by decide +kernel
theorem dX11_firstRow_57 : decode cX11_firstRow 57 = .ok (.iload 6, 2) := by decide +kernel
theorem dX11_firstRow_59 : decode cX11_firstRow 59 = .ok (.invokevirtual 278, 3) := by decide +kernel
theorem dX11_firstRow_62 : decode cX11_firstRow 62 = .ok (.istore 9, 2) := by decide +kernel
theorem dX11_firstRow_64 : decode cX11_firstRow 64 = .ok (.iload 9, 2) := by decide +kernel
theorem dX11_firstRow_66 : decode cX11_firstRow 66 = .ok (.ifCond .lt 88, 3) := by decide +kernel
theorem dX11_firstRow_69 : decode cX11_firstRow 69 = .ok (.iload 9, 2) := by decide +kernel
theorem dX11_firstRow_71 : decode cX11_firstRow 71 = .ok (.iload_n 3, 1) := by decide +kernel
theorem dX11_firstRow_72 : decode cX11_firstRow 72 = .ok (.iconst (-1), 1) := by decide +kernel
theorem dX11_firstRow_73 : decode cX11_firstRow 73 = .ok (.ixor, 1) := by decide +kernel
theorem dX11_firstRow_74 : decode cX11_firstRow 74 = .ok (.iand, 1) := by decide +kernel
theorem dX11_firstRow_75 : decode cX11_firstRow 75 = .ok (.ifCond .ne 79, 3) := by decide +kernel
theorem dX11_firstRow_78 : decode cX11_firstRow 78 = .ok (.aload_n 0, 1) := by decide +kernel
theorem dX11_firstRow_79 : decode cX11_firstRow 79 = .ok (.iload 9, 2) := by decide +kernel
theorem dX11_firstRow_81 : decode cX11_firstRow 81 = .ok (.invokevirtual 225, 3) := by decide +kernel
theorem dX11_firstRow_84 : decode cX11_firstRow 84 = .ok (.iload_n 1, 1) := by decide +kernel
theorem dX11_firstRow_85 : decode cX11_firstRow 85 = .ok (.if_icmp .ne 69, 3) := by decide +kernel
theorem dX11_firstRow_88 : decode cX11_firstRow 88 = .ok (.aload_n 0, 1) := by decide +kernel
theorem dX11_firstRow_89 : decode cX11_firstRow 89 = .ok (.iload 6, 2) := by decide +kernel
theorem dX11_firstRow_91 : decode cX11_firstRow 91 = .ok (.iload 9, 2) := by decide +kernel
theorem dX11_firstRow_93 : decode cX11_firstRow 93 = .ok (.iload_n 2, 1) := by decide +kernel
theorem dX11_firstRow_94 : decode cX11_firstRow 94 = .ok (.invokevirtual 281, 3) := by decide +kernel
theorem dX11_firstRow_97 : decode cX11_firstRow 97 = .ok (.ifCond .eq 57, 3) := by decide +kernel
theorem dX11_firstRow_100 : decode cX11_firstRow 100 = .ok (.iload 4, 2) := by decide +kernel
theorem dX11_firstRow_102 : decode cX11_firstRow 102 = .ok (.ifCond .lt 14, 3) := by decide +kernel
theorem dX11_firstRow_105 : decode cX11_firstRow 105 = .ok (.aload_n 0, 1) := by decide +kernel
theorem dX11_firstRow_106 : decode cX11_firstRow 106 = .ok (.iload 6, 2) := by decide +kernel
theorem dX11_firstRow_108 : decode cX11_firstRow 108 = .ok (.iload 5, 2) := by decide +kernel
theorem dX11_firstRow_110 : decode cX11_firstRow 110 = .ok (.invokevirtual 285, 3) := by decide +kernel
theorem dX11_firstRow_113 : decode cX11_firstRow 113 = .ok (.ifCond .eq 41, 3) := by decide +kernel
theorem dX11_firstRow_116 : decode cX11_firstRow 116 = .ok (.iload 8, 2) := by decide +kernel
theorem dX11_firstRow_118 : decode cX11_firstRow 118 = .ok (.istore 4, 2) := by decide +kernel
theorem dX11_firstRow_120 : decode cX11_firstRow 120 = .ok (.iload 6, 2) := by decide +kernel
theorem dX11_firstRow_122 : decode cX11_firstRow 122 = .ok (.istore 5, 2) := by decide +kernel
theorem dX11_firstRow_124 : decode cX11_firstRow 124 = .ok (.iconst 0, 1) := by decide +kernel
theorem dX11_firstRow_125 : decode cX11_firstRow 125 = .ok (.istore 10, 2) := by decide +kernel
theorem dX11_firstRow_127 : decode cX11_firstRow 127 = .ok (.iload 10, 2) := by decide +kernel
theorem dX11_firstRow_129 : decode cX11_firstRow 129 = .ok (.iload 6, 2) := by decide +kernel
theorem dX11_firstRow_131 : decode cX11_firstRow 131 = .ok (.if_icmp .ge 23, 3) := by decide +kernel
theorem dX11_firstRow_134 : decode cX11_firstRow 134 = .ok (.aload_n 0, 1) := by decide +kernel
theorem dX11_firstRow_135 : decode cX11_firstRow 135 = .ok (.getfield 69, 3) := by decide +kernel
theorem dX11_firstRow_138 : decode cX11_firstRow 138 = .ok (.iload 10, 2) := by decide +kernel
theorem dX11_firstRow_140 : decode cX11_firstRow 140 = .ok (.aload_n 0, 1) := by decide +kernel
theorem dX11_firstRow_141 : decode cX11_firstRow 141 = .ok (.getfield 66, 3) := by decide +kernel
theorem dX11_firstRow_144 : decode cX11_firstRow 144 = .ok (.iload 10, 2) := by decide +kernel
theorem dX11_firstRow_146 : decode cX11_firstRow 146 = .ok (.iaload, 1) := by decide +kernel
theorem dX11_firstRow_147 : decode cX11_firstRow 147 = .ok (.iastore, 1) := by decide +kernel
theorem dX11_firstRow_148 : decode cX11_firstRow 148 = .ok (.iinc 10 1, 3) := by decide +kernel
theorem dX11_firstRow_151 : decode cX11_firstRow 151 = .ok (.goto (-24), 3) := by decide +kernel
theorem dX11_firstRow_154 : decode cX11_firstRow 154 = .ok (.iinc 8 1, 3) := by decide +kernel
theorem dX11_firstRow_157 : decode cX11_firstRow 157 = .ok (.goto (-110), 3) := by decide +kernel
theorem dX11_firstRow_160 : decode cX11_firstRow 160 = .ok (.iinc 6 1, 3) := by decide +kernel
theorem dX11_firstRow_163 : decode cX11_firstRow 163 = .ok (.goto (-154), 3) := by decide +kernel
theorem dX11_firstRow_166 : decode cX11_firstRow 166 = .ok (.iload 5, 2) := by decide +kernel
theorem dX11_firstRow_168 : decode cX11_firstRow 168 = .ok (.ireturn, 1) := by decide +kernel
theorem dX11_digits_0 : decode cX11_digits 0 = .ok (.iconst 0, 1) := by decide +kernel
theorem dX11_digits_1 : decode cX11_digits 1 = .ok (.istore_n 3, 1) := by decide +kernel
theorem dX11_digits_2 : decode cX11_digits 2 = .ok (.iload_n 1, 1) := by decide +kernel
theorem dX11_digits_3 : decode cX11_digits 3 = .ok (.istore 4, 2) := by decide +kernel
theorem dX11_digits_5 : decode cX11_digits 5 = .ok (.iconst 1, 1) := by decide +kernel
theorem dX11_digits_6 : decode cX11_digits 6 = .ok (.istore 5, 2) := by decide +kernel
theorem dX11_digits_8 : decode cX11_digits 8 = .ok (.iload_n 2, 1) := by decide +kernel
theorem dX11_digits_9 : decode cX11_digits 9 = .ok (.iconst 1, 1) := by decide +kernel
theorem dX11_digits_10 : decode cX11_digits 10 = .ok (.isub, 1) := by decide +kernel
theorem dX11_digits_11 : decode cX11_digits 11 = .ok (.istore 6, 2) := by decide +kernel
theorem dX11_digits_13 : decode cX11_digits 13 = .ok (.iload 6, 2) := by decide +kernel
theorem dX11_digits_15 : decode cX11_digits 15 = .ok (.ifCond .lt 80, 3) := by decide +kernel
theorem dX11_digits_18 : decode cX11_digits 18 = .ok (.aload_n 0, 1) := by decide +kernel
theorem dX11_digits_19 : decode cX11_digits 19 = .ok (.getfield 66, 3) := by decide +kernel
theorem dX11_digits_22 : decode cX11_digits 22 = .ok (.iload 6, 2) := by decide +kernel
theorem dX11_digits_24 : decode cX11_digits 24 = .ok (.iload 4, 2) := by decide +kernel
theorem dX11_digits_26 : decode cX11_digits 26 = .ok (.bipush 6, 2) := by decide +kernel
theorem dX11_digits_28 : decode cX11_digits 28 = .ok (.irem, 1) := by decide +kernel
theorem dX11_digits_29 : decode cX11_digits 29 = .ok (.iastore, 1) := by decide +kernel
theorem dX11_digits_30 : decode cX11_digits 30 = .ok (.iload 4, 2) := by decide +kernel
theorem dX11_digits_32 : decode cX11_digits 32 = .ok (.bipush 6, 2) := by decide +kernel
theorem dX11_digits_34 : decode cX11_digits 34 = .ok (.idiv, 1) := by decide +kernel
theorem dX11_digits_35 : decode cX11_digits 35 = .ok (.istore 4, 2) := by decide +kernel
theorem dX11_digits_37 : decode cX11_digits 37 = .ok (.iload 5, 2) := by decide +kernel
theorem dX11_digits_39 : decode cX11_digits 39 = .ok (.ifCond .eq 35, 3) := by decide +kernel
theorem dX11_digits_42 : decode cX11_digits 42 = .ok (.aload_n 0, 1) := by decide +kernel
theorem dX11_digits_43 : decode cX11_digits 43 = .ok (.getfield 66, 3) := by decide +kernel
theorem dX11_digits_46 : decode cX11_digits 46 = .ok (.iload 6, 2) := by decide +kernel
theorem dX11_digits_48 : decode cX11_digits 48 = .ok (.iaload, 1) := by decide +kernel
theorem dX11_digits_49 : decode cX11_digits 49 = .ok (.aload_n 0, 1) := by decide +kernel
theorem dX11_digits_50 : decode cX11_digits 50 = .ok (.getfield 109, 3) := by decide +kernel
theorem dX11_digits_53 : decode cX11_digits 53 = .ok (.if_icmp .ge 21, 3) := by decide +kernel
theorem dX11_digits_56 : decode cX11_digits 56 = .ok (.iload_n 3, 1) := by decide +kernel
theorem dX11_digits_57 : decode cX11_digits 57 = .ok (.aload_n 0, 1) := by decide +kernel
theorem dX11_digits_58 : decode cX11_digits 58 = .ok (.getfield 66, 3) := by decide +kernel
theorem dX11_digits_61 : decode cX11_digits 61 = .ok (.iload 6, 2) := by decide +kernel
theorem dX11_digits_63 : decode cX11_digits 63 = .ok (.iaload, 1) := by decide +kernel
theorem dX11_digits_64 : decode cX11_digits 64 = .ok (.invokestatic 219, 3) := by decide +kernel
theorem dX11_digits_67 : decode cX11_digits 67 = .ok (.ifCond .ne 7, 3) := by decide +kernel
theorem dX11_digits_70 : decode cX11_digits 70 = .ok (.iconst 1, 1) := by decide +kernel
theorem dX11_digits_71 : decode cX11_digits 71 = .ok (.goto 4, 3) := by decide +kernel
theorem dX11_digits_74 : decode cX11_digits 74 = .ok (.iconst 0, 1) := by decide +kernel
theorem dX11_digits_75 : decode cX11_digits 75 = .ok (.istore 5, 2) := by decide +kernel
theorem dX11_digits_77 : decode cX11_digits 77 = .ok (.iload_n 3, 1) := by decide +kernel
theorem dX11_digits_78 : decode cX11_digits 78 = .ok (.iconst 1, 1) := by decide +kernel
theorem dX11_digits_79 : decode cX11_digits 79 = .ok (.aload_n 0, 1) := by decide +kernel
theorem dX11_digits_80 : decode cX11_digits 80 = .ok (.getfield 66, 3) := by decide +kernel
theorem dX11_digits_83 : decode cX11_digits 83 = .ok (.iload 6, 2) := by decide +kernel
theorem dX11_digits_85 : decode cX11_digits 85 = .ok (.iaload, 1) := by decide +kernel
theorem dX11_digits_86 : decode cX11_digits 86 = .ok (.ishl, 1) := by decide +kernel
theorem dX11_digits_87 : decode cX11_digits 87 = .ok (.ior, 1) := by decide +kernel
theorem dX11_digits_88 : decode cX11_digits 88 = .ok (.istore_n 3, 1) := by decide +kernel
theorem dX11_digits_89 : decode cX11_digits 89 = .ok (.iinc 6 (-1), 3) := by decide +kernel
theorem dX11_digits_92 : decode cX11_digits 92 = .ok (.goto (-79), 3) := by decide +kernel
theorem dX11_digits_95 : decode cX11_digits 95 = .ok (.iload 5, 2) := by decide +kernel
theorem dX11_digits_97 : decode cX11_digits 97 = .ok (.ifCond .eq 7, 3) := by decide +kernel
theorem dX11_digits_100 : decode cX11_digits 100 = .ok (.iload_n 3, 1) := by decide +kernel
theorem dX11_digits_101 : decode cX11_digits 101 = .ok (.goto 4, 3) := by decide +kernel
theorem dX11_digits_104 : decode cX11_digits 104 = .ok (.iconst (-1), 1) := by decide +kernel
theorem dX11_digits_105 : decode cX11_digits 105 = .ok (.ireturn, 1) := by decide +kernel
theorem dX11_isAhead_0 : decode cX11_isAhead 0 = .ok (.iconst 0, 1) := by decide +kernel
theorem dX11_isAhead_1 : decode cX11_isAhead 1 = .ok (.istore_n 3, 1) := by decide +kernel
theorem dX11_isAhead_2 : decode cX11_isAhead 2 = .ok (.iload_n 3, 1) := by decide +kernel
theorem dX11_isAhead_3 : decode cX11_isAhead 3 = .ok (.iload_n 1, 1) := by decide +kernel
theorem dX11_isAhead_4 : decode cX11_isAhead 4 = .ok (.if_icmp .ge 50, 3) := by decide +kernel
theorem dX11_isAhead_7 : decode cX11_isAhead 7 = .ok (.iload_n 3, 1) := by decide +kernel
theorem dX11_isAhead_8 : decode cX11_isAhead 8 = .ok (.iload_n 2, 1) := by decide +kernel
theorem dX11_isAhead_9 : decode cX11_isAhead 9 = .ok (.if_icmp .ge 45, 3) := by decide +kernel
theorem dX11_isAhead_12 : decode cX11_isAhead 12 = .ok (.aload_n 0, 1) := by decide +kernel
theorem dX11_isAhead_13 : decode cX11_isAhead 13 = .ok (.getfield 66, 3) := by decide +kernel
theorem dX11_isAhead_16 : decode cX11_isAhead 16 = .ok (.iload_n 3, 1) := by decide +kernel
theorem dX11_isAhead_17 : decode cX11_isAhead 17 = .ok (.iaload, 1) := by decide +kernel
theorem dX11_isAhead_18 : decode cX11_isAhead 18 = .ok (.aload_n 0, 1) := by decide +kernel
theorem dX11_isAhead_19 : decode cX11_isAhead 19 = .ok (.getfield 69, 3) := by decide +kernel
theorem dX11_isAhead_22 : decode cX11_isAhead 22 = .ok (.iload_n 3, 1) := by decide +kernel
theorem dX11_isAhead_23 : decode cX11_isAhead 23 = .ok (.iaload, 1) := by decide +kernel
theorem dX11_isAhead_24 : decode cX11_isAhead 24 = .ok (.if_icmp .eq 24, 3) := by decide +kernel
theorem dX11_isAhead_27 : decode cX11_isAhead 27 = .ok (.aload_n 0, 1) := by decide +kernel
theorem dX11_isAhead_28 : decode cX11_isAhead 28 = .ok (.getfield 66, 3) := by decide +kernel
theorem dX11_isAhead_31 : decode cX11_isAhead 31 = .ok (.iload_n 3, 1) := by decide +kernel
theorem dX11_isAhead_32 : decode cX11_isAhead 32 = .ok (.iaload, 1) := by decide +kernel
theorem dX11_isAhead_33 : decode cX11_isAhead 33 = .ok (.aload_n 0, 1) := by decide +kernel
theorem dX11_isAhead_34 : decode cX11_isAhead 34 = .ok (.getfield 69, 3) := by decide +kernel
theorem dX11_isAhead_37 : decode cX11_isAhead 37 = .ok (.iload_n 3, 1) := by decide +kernel
theorem dX11_isAhead_38 : decode cX11_isAhead 38 = .ok (.iaload, 1) := by decide +kernel
theorem dX11_isAhead_39 : decode cX11_isAhead 39 = .ok (.if_icmp .ge 7, 3) := by decide +kernel
theorem dX11_isAhead_42 : decode cX11_isAhead 42 = .ok (.iconst 1, 1) := by decide +kernel
theorem dX11_isAhead_43 : decode cX11_isAhead 43 = .ok (.goto 4, 3) := by decide +kernel
theorem dX11_isAhead_46 : decode cX11_isAhead 46 = .ok (.iconst 0, 1) := by decide +kernel
theorem dX11_isAhead_47 : decode cX11_isAhead 47 = .ok (.ireturn, 1) := by decide +kernel
theorem dX11_isAhead_48 : decode cX11_isAhead 48 = .ok (.iinc 3 1, 3) := by decide +kernel
theorem dX11_isAhead_51 : decode cX11_isAhead 51 = .ok (.goto (-49), 3) := by decide +kernel
theorem dX11_isAhead_54 : decode cX11_isAhead 54 = .ok (.iload_n 1, 1) := by decide +kernel
theorem dX11_isAhead_55 : decode cX11_isAhead 55 = .ok (.iload_n 2, 1) := by decide +kernel
theorem dX11_isAhead_56 : decode cX11_isAhead 56 = .ok (.if_icmp .ge 7, 3) := by decide +kernel
theorem dX11_isAhead_59 : decode cX11_isAhead 59 = .ok (.iconst 1, 1) := by decide +kernel
theorem dX11_isAhead_60 : decode cX11_isAhead 60 = .ok (.goto 4, 3) := by decide +kernel
theorem dX11_isAhead_63 : decode cX11_isAhead 63 = .ok (.iconst 0, 1) := by decide +kernel
theorem dX11_isAhead_64 : decode cX11_isAhead 64 = .ok (.ireturn, 1) := by decide +kernel
theorem dX11_round_0 : decode cX11_round 0 = .ok (.aload_n 0, 1) := by decide +kernel
theorem dX11_round_1 : decode cX11_round 1 = .ok (.iconst 0, 1) := by decide +kernel
theorem dX11_round_2 : decode cX11_round 2 = .ok (.invokevirtual 222, 3) := by decide +kernel
theorem dX11_round_5 : decode cX11_round 5 = .ok (.istore_n 2, 1) := by decide +kernel
theorem dX11_round_6 : decode cX11_round 6 = .ok (.aload_n 0, 1) := by decide +kernel
theorem dX11_round_7 : decode cX11_round 7 = .ok (.aload_n 0, 1) := by decide +kernel
theorem dX11_round_8 : decode cX11_round 8 = .ok (.getfield 39, 3) := by decide +kernel
theorem dX11_round_11 : decode cX11_round 11 = .ok (.iconst 0, 1) := by decide +kernel
theorem dX11_round_12 : decode cX11_round 12 = .ok (.iaload, 1) := by decide +kernel
theorem dX11_round_13 : decode cX11_round 13 = .ok (.aload_n 0, 1) := by decide +kernel
theorem dX11_round_14 : decode cX11_round 14 = .ok (.getfield 39, 3) := by decide +kernel
theorem dX11_round_17 : decode cX11_round 17 = .ok (.iconst 1, 1) := by decide +kernel
theorem dX11_round_18 : decode cX11_round 18 = .ok (.iaload, 1) := by decide +kernel
theorem dX11_round_19 : decode cX11_round 19 = .ok (.iload_n 2, 1) := by decide +kernel
theorem dX11_round_20 : decode cX11_round 20 = .ok (.invokevirtual 288, 3) := by decide +kernel
theorem dX11_round_23 : decode cX11_round 23 = .ok (.iconst 0, 1) := by decide +kernel
theorem dX11_round_24 : decode cX11_round 24 = .ok (.istore_n 3, 1) := by decide +kernel
theorem dX11_round_25 : decode cX11_round 25 = .ok (.aload_n 0, 1) := by decide +kernel
theorem dX11_round_26 : decode cX11_round 26 = .ok (.getfield 39, 3) := by decide +kernel
theorem dX11_round_29 : decode cX11_round 29 = .ok (.iconst 0, 1) := by decide +kernel
theorem dX11_round_30 : decode cX11_round 30 = .ok (.iaload, 1) := by decide +kernel
theorem dX11_round_31 : decode cX11_round 31 = .ok (.istore 4, 2) := by decide +kernel
theorem dX11_round_33 : decode cX11_round 33 = .ok (.iconst 1, 1) := by decide +kernel
theorem dX11_round_34 : decode cX11_round 34 = .ok (.istore 5, 2) := by decide +kernel
theorem dX11_round_36 : decode cX11_round 36 = .ok (.iload 5, 2) := by decide +kernel
theorem dX11_round_38 : decode cX11_round 38 = .ok (.bipush 64, 2) := by decide +kernel
theorem dX11_round_40 : decode cX11_round 40 = .ok (.if_icmp .ge 82, 3) := by decide +kernel
theorem dX11_round_43 : decode cX11_round 43 = .ok (.iload 5, 2) := by decide +kernel
theorem dX11_round_45 : decode cX11_round 45 = .ok (.iload_n 2, 1) := by decide +kernel
theorem dX11_round_46 : decode cX11_round 46 = .ok (.iconst (-1), 1) := by decide +kernel
theorem dX11_round_47 : decode cX11_round 47 = .ok (.ixor, 1) := by decide +kernel
theorem dX11_round_48 : decode cX11_round 48 = .ok (.iand, 1) := by decide +kernel
theorem dX11_round_49 : decode cX11_round 49 = .ok (.ifCond .ne 18, 3) := by decide +kernel
theorem dX11_round_52 : decode cX11_round 52 = .ok (.aload_n 0, 1) := by decide +kernel
theorem dX11_round_53 : decode cX11_round 53 = .ok (.iload 5, 2) := by decide +kernel
theorem dX11_round_55 : decode cX11_round 55 = .ok (.aload_n 0, 1) := by decide +kernel
theorem dX11_round_56 : decode cX11_round 56 = .ok (.getfield 39, 3) := by decide +kernel
theorem dX11_round_59 : decode cX11_round 59 = .ok (.iconst 0, 1) := by decide +kernel
theorem dX11_round_60 : decode cX11_round 60 = .ok (.iaload, 1) := by decide +kernel
theorem dX11_round_61 : decode cX11_round 61 = .ok (.invokevirtual 292, 3) := by decide +kernel
theorem dX11_round_64 : decode cX11_round 64 = .ok (.goto 5, 3) := by decide +kernel
theorem dX11_round_67 : decode cX11_round 67 = .ok (.ldc 135, 2) := by decide +kernel
theorem dX11_round_69 : decode cX11_round 69 = .ok (.istore 6, 2) := by decide +kernel
theorem dX11_round_71 : decode cX11_round 71 = .ok (.iload 6, 2) := by decide +kernel
theorem dX11_round_73 : decode cX11_round 73 = .ok (.ldc 135, 2) := by decide +kernel
theorem dX11_round_75 : decode cX11_round 75 = .ok (.if_icmp .ge 41, 3) := by decide +kernel
theorem dX11_round_78 : decode cX11_round 78 = .ok (.aload_n 0, 1) := by decide +kernel
theorem dX11_round_79 : decode cX11_round 79 = .ok (.iload 5, 2) := by decide +kernel
theorem dX11_round_81 : decode cX11_round 81 = .ok (.invokevirtual 225, 3) := by decide +kernel
theorem dX11_round_84 : decode cX11_round 84 = .ok (.iload_n 3, 1) := by decide +kernel
theorem dX11_round_85 : decode cX11_round 85 = .ok (.if_icmp .gt 20, 3) := by decide +kernel
theorem dX11_round_88 : decode cX11_round 88 = .ok (.aload_n 0, 1) := by decide +kernel
theorem dX11_round_89 : decode cX11_round 89 = .ok (.iload 5, 2) := by decide +kernel
theorem dX11_round_91 : decode cX11_round 91 = .ok (.invokevirtual 225, 3) := by decide +kernel
theorem dX11_round_94 : decode cX11_round 94 = .ok (.iload_n 3, 1) := by decide +kernel
theorem dX11_round_95 : decode cX11_round 95 = .ok (.if_icmp .ne 21, 3) := by decide +kernel
theorem dX11_round_98 : decode cX11_round 98 = .ok (.iload 6, 2) := by decide +kernel
theorem dX11_round_100 : decode cX11_round 100 = .ok (.iload 4, 2) := by decide +kernel
theorem dX11_round_102 : decode cX11_round 102 = .ok (.if_icmp .ge 14, 3) := by decide +kernel
theorem dX11_round_105 : decode cX11_round 105 = .ok (.aload_n 0, 1) := by decide +kernel
theorem dX11_round_106 : decode cX11_round 106 = .ok (.iload 5, 2) := by decide +kernel
theorem dX11_round_108 : decode cX11_round 108 = .ok (.invokevirtual 225, 3) := by decide +kernel
theorem dX11_round_111 : decode cX11_round 111 = .ok (.istore_n 3, 1) := by decide +kernel
theorem dX11_round_112 : decode cX11_round 112 = .ok (.iload 6, 2) := by decide +kernel
theorem dX11_round_114 : decode cX11_round 114 = .ok (.istore 4, 2) := by decide +kernel
theorem dX11_round_116 : decode cX11_round 116 = .ok (.iinc 5 1, 3) := by decide +kernel
theorem dX11_round_119 : decode cX11_round 119 = .ok (.goto (-83), 3) := by decide +kernel
theorem dX11_round_122 : decode cX11_round 122 = .ok (.iload_n 1, 1) := by decide +kernel
theorem dX11_round_123 : decode cX11_round 123 = .ok (.iconst (-1), 1) := by decide +kernel
theorem dX11_round_124 : decode cX11_round 124 = .ok (.if_icmp .eq 9, 3) := by decide +kernel
theorem dX11_round_127 : decode cX11_round 127 = .ok (.iload_n 1, 1) := by decide +kernel
theorem dX11_round_128 : decode cX11_round 128 = .ok (.bipush (-2), 2) := by decide +kernel
theorem dX11_round_130 : decode cX11_round 130 = .ok (.if_icmp .ne 15, 3) := by decide +kernel
theorem dX11_round_133 : decode cX11_round 133 = .ok (.iload_n 1, 1) := by decide +kernel
theorem dX11_round_134 : decode cX11_round 134 = .ok (.iconst (-1), 1) := by decide +kernel
theorem dX11_round_135 : decode cX11_round 135 = .ok (.if_icmp .ne 7, 3) := by decide +kernel
theorem dX11_round_138 : decode cX11_round 138 = .ok (.iload_n 3, 1) := by decide +kernel
theorem dX11_round_139 : decode cX11_round 139 = .ok (.goto 5, 3) := by decide +kernel
theorem dX11_round_142 : decode cX11_round 142 = .ok (.iload 4, 2) := by decide +kernel
theorem dX11_round_144 : decode cX11_round 144 = .ok (.ireturn, 1) := by decide +kernel
theorem dX11_round_145 : decode cX11_round 145 = .ok (.aload_n 0, 1) := by decide +kernel
theorem dX11_round_146 : decode cX11_round 146 = .ok (.iload_n 3, 1) := by decide +kernel
theorem dX11_round_147 : decode cX11_round 147 = .ok (.iload 4, 2) := by decide +kernel
theorem dX11_round_149 : decode cX11_round 149 = .ok (.iload_n 2, 1) := by decide +kernel
theorem dX11_round_150 : decode cX11_round 150 = .ok (.invokevirtual 295, 3) := by decide +kernel
theorem dX11_round_153 : decode cX11_round 153 = .ok (.istore 5, 2) := by decide +kernel
theorem dX11_round_155 : decode cX11_round 155 = .ok (.iload_n 1, 1) := by decide +kernel
theorem dX11_round_156 : decode cX11_round 156 = .ok (.i2l, 1) := by decide +kernel
theorem dX11_round_157 : decode cX11_round 157 = .ok (.lconst 0, 1) := by decide +kernel
theorem dX11_round_158 : decode cX11_round 158 = .ok (.iload 5, 2) := by decide +kernel
theorem dX11_round_160 : decode cX11_round 160 = .ok (.iconst 1, 1) := by decide +kernel
theorem dX11_round_161 : decode cX11_round 161 = .ok (.isub, 1) := by decide +kernel
theorem dX11_round_162 : decode cX11_round 162 = .ok (.i2l, 1) := by decide +kernel
theorem dX11_round_163 : decode cX11_round 163 = .ok (.invokestatic 102, 3) := by decide +kernel
theorem dX11_round_166 : decode cX11_round 166 = .ok (.ifCond .eq 12, 3) := by decide +kernel
theorem dX11_round_169 : decode cX11_round 169 = .ok (.aload_n 0, 1) := by decide +kernel
theorem dX11_round_170 : decode cX11_round 170 = .ok (.getfield 69, 3) := by decide +kernel
theorem dX11_round_173 : decode cX11_round 173 = .ok (.iload_n 1, 1) := by decide +kernel
theorem dX11_round_174 : decode cX11_round 174 = .ok (.iaload, 1) := by decide +kernel
theorem dX11_round_175 : decode cX11_round 175 = .ok (.goto 4, 3) := by decide +kernel
theorem dX11_round_178 : decode cX11_round 178 = .ok (.iconst (-1), 1) := by decide +kernel
theorem dX11_round_179 : decode cX11_round 179 = .ok (.ireturn, 1) := by decide +kernel
theorem dX11_two_0 : decode cX11_two 0 = .ok (.aload_n 0, 1) := by decide +kernel
theorem dX11_two_1 : decode cX11_two 1 = .ok (.iload_n 1, 1) := by decide +kernel
theorem dX11_two_2 : decode cX11_two 2 = .ok (.invokevirtual 228, 3) := by decide +kernel
theorem dX11_two_5 : decode cX11_two 5 = .ok (.ifCond .ne 6, 3) := by decide +kernel
theorem dX11_two_8 : decode cX11_two 8 = .ok (.ldc 235, 2) := by decide +kernel
theorem dX11_two_10 : decode cX11_two 10 = .ok (.ireturn, 1) := by decide +kernel
theorem dX11_two_11 : decode cX11_two 11 = .ok (.aload_n 0, 1) := by decide +kernel
theorem dX11_two_12 : decode cX11_two 12 = .ok (.iconst 0, 1) := by decide +kernel
theorem dX11_two_13 : decode cX11_two 13 = .ok (.invokevirtual 222, 3) := by decide +kernel
theorem dX11_two_16 : decode cX11_two 16 = .ok (.istore_n 2, 1) := by decide +kernel
theorem dX11_two_17 : decode cX11_two 17 = .ok (.aload_n 0, 1) := by decide +kernel
theorem dX11_two_18 : decode cX11_two 18 = .ok (.aload_n 0, 1) := by decide +kernel
theorem dX11_two_19 : decode cX11_two 19 = .ok (.getfield 39, 3) := by decide +kernel
theorem dX11_two_22 : decode cX11_two 22 = .ok (.iconst 0, 1) := by decide +kernel
theorem dX11_two_23 : decode cX11_two 23 = .ok (.iaload, 1) := by decide +kernel
theorem dX11_two_24 : decode cX11_two 24 = .ok (.iload_n 1, 1) := by decide +kernel
theorem dX11_two_25 : decode cX11_two 25 = .ok (.iload_n 2, 1) := by decide +kernel
theorem dX11_two_26 : decode cX11_two 26 = .ok (.invokevirtual 288, 3) := by decide +kernel
theorem dX11_two_29 : decode cX11_two 29 = .ok (.iconst 0, 1) := by decide +kernel
theorem dX11_two_30 : decode cX11_two 30 = .ok (.istore_n 3, 1) := by decide +kernel
theorem dX11_two_31 : decode cX11_two 31 = .ok (.iload_n 3, 1) := by decide +kernel
theorem dX11_two_32 : decode cX11_two 32 = .ok (.bipush 64, 2) := by decide +kernel
theorem dX11_two_34 : decode cX11_two 34 = .ok (.if_icmp .ge 39, 3) := by decide +kernel
theorem dX11_two_37 : decode cX11_two 37 = .ok (.aload_n 0, 1) := by decide +kernel
theorem dX11_two_38 : decode cX11_two 38 = .ok (.getfield 72, 3) := by decide +kernel
theorem dX11_two_41 : decode cX11_two 41 = .ok (.iload_n 3, 1) := by decide +kernel
theorem dX11_two_42 : decode cX11_two 42 = .ok (.iload_n 3, 1) := by decide +kernel
theorem dX11_two_43 : decode cX11_two 43 = .ok (.iload_n 2, 1) := by decide +kernel
theorem dX11_two_44 : decode cX11_two 44 = .ok (.iconst (-1), 1) := by decide +kernel
theorem dX11_two_45 : decode cX11_two 45 = .ok (.ixor, 1) := by decide +kernel
theorem dX11_two_46 : decode cX11_two 46 = .ok (.iand, 1) := by decide +kernel
theorem dX11_two_47 : decode cX11_two 47 = .ok (.ifCond .ne 18, 3) := by decide +kernel
theorem dX11_two_50 : decode cX11_two 50 = .ok (.aload_n 0, 1) := by decide +kernel
theorem dX11_two_51 : decode cX11_two 51 = .ok (.iload_n 3, 1) := by decide +kernel
theorem dX11_two_52 : decode cX11_two 52 = .ok (.iconst 0, 1) := by decide +kernel
theorem dX11_two_53 : decode cX11_two 53 = .ok (.invokevirtual 292, 3) := by decide +kernel
theorem dX11_two_56 : decode cX11_two 56 = .ok (.ldc 135, 2) := by decide +kernel
theorem dX11_two_58 : decode cX11_two 58 = .ok (.if_icmp .ge 7, 3) := by decide +kernel
theorem dX11_two_61 : decode cX11_two 61 = .ok (.iconst 1, 1) := by decide +kernel
theorem dX11_two_62 : decode cX11_two 62 = .ok (.goto 4, 3) := by decide +kernel
theorem dX11_two_65 : decode cX11_two 65 = .ok (.iconst 0, 1) := by decide +kernel
theorem dX11_two_66 : decode cX11_two 66 = .ok (.bastore, 1) := by decide +kernel
theorem dX11_two_67 : decode cX11_two 67 = .ok (.iinc 3 1, 3) := by decide +kernel
theorem dX11_two_70 : decode cX11_two 70 = .ok (.goto (-39), 3) := by decide +kernel
theorem dX11_two_73 : decode cX11_two 73 = .ok (.aload_n 0, 1) := by decide +kernel
theorem dX11_two_74 : decode cX11_two 74 = .ok (.aload_n 0, 1) := by decide +kernel
theorem dX11_two_75 : decode cX11_two 75 = .ok (.getfield 39, 3) := by decide +kernel
theorem dX11_two_78 : decode cX11_two 78 = .ok (.iconst 0, 1) := by decide +kernel
theorem dX11_two_79 : decode cX11_two 79 = .ok (.iaload, 1) := by decide +kernel
theorem dX11_two_80 : decode cX11_two 80 = .ok (.aload_n 0, 1) := by decide +kernel
theorem dX11_two_81 : decode cX11_two 81 = .ok (.getfield 39, 3) := by decide +kernel
theorem dX11_two_84 : decode cX11_two 84 = .ok (.iconst 1, 1) := by decide +kernel
theorem dX11_two_85 : decode cX11_two 85 = .ok (.iaload, 1) := by decide +kernel
theorem dX11_two_86 : decode cX11_two 86 = .ok (.iload_n 2, 1) := by decide +kernel
theorem dX11_two_87 : decode cX11_two 87 = .ok (.invokevirtual 288, 3) := by decide +kernel
theorem dX11_two_90 : decode cX11_two 90 = .ok (.iconst 0, 1) := by decide +kernel
theorem dX11_two_91 : decode cX11_two 91 = .ok (.istore_n 3, 1) := by decide +kernel
theorem dX11_two_92 : decode cX11_two 92 = .ok (.iconst 0, 1) := by decide +kernel
theorem dX11_two_93 : decode cX11_two 93 = .ok (.istore 4, 2) := by decide +kernel
theorem dX11_two_95 : decode cX11_two 95 = .ok (.iload 4, 2) := by decide +kernel
theorem dX11_two_97 : decode cX11_two 97 = .ok (.bipush 64, 2) := by decide +kernel
theorem dX11_two_99 : decode cX11_two 99 = .ok (.if_icmp .ge 104, 3) := by decide +kernel
theorem dX11_two_102 : decode cX11_two 102 = .ok (.iload 4, 2) := by decide +kernel
theorem dX11_two_104 : decode cX11_two 104 = .ok (.iload_n 2, 1) := by decide +kernel
theorem dX11_two_105 : decode cX11_two 105 = .ok (.iconst (-1), 1) := by decide +kernel
theorem dX11_two_106 : decode cX11_two 106 = .ok (.ixor, 1) := by decide +kernel
theorem dX11_two_107 : decode cX11_two 107 = .ok (.iand, 1) := by decide +kernel
theorem dX11_two_108 : decode cX11_two 108 = .ok (.ifCond .ne 19, 3) := by decide +kernel
theorem dX11_two_111 : decode cX11_two 111 = .ok (.aload_n 0, 1) := by decide +kernel
theorem dX11_two_112 : decode cX11_two 112 = .ok (.iload 4, 2) := by decide +kernel
theorem dX11_two_114 : decode cX11_two 114 = .ok (.iconst 0, 1) := by decide +kernel
theorem dX11_two_115 : decode cX11_two 115 = .ok (.invokevirtual 292, 3) := by decide +kernel
theorem dX11_two_118 : decode cX11_two 118 = .ok (.ldc 135, 2) := by decide +kernel
theorem dX11_two_120 : decode cX11_two 120 = .ok (.if_icmp .ge 7, 3) := by decide +kernel
theorem dX11_two_123 : decode cX11_two 123 = .ok (.iconst 1, 1) := by decide +kernel
theorem dX11_two_124 : decode cX11_two 124 = .ok (.goto 4, 3) := by decide +kernel
theorem dX11_two_127 : decode cX11_two 127 = .ok (.iconst 0, 1) := by decide +kernel
theorem dX11_two_128 : decode cX11_two 128 = .ok (.istore 5, 2) := by decide +kernel
theorem dX11_two_130 : decode cX11_two 130 = .ok (.iconst 0, 1) := by decide +kernel
theorem dX11_two_131 : decode cX11_two 131 = .ok (.istore 6, 2) := by decide +kernel
theorem dX11_two_133 : decode cX11_two 133 = .ok (.iload 6, 2) := by decide +kernel
theorem dX11_two_135 : decode cX11_two 135 = .ok (.bipush 64, 2) := by decide +kernel
theorem dX11_two_137 : decode cX11_two 137 = .ok (.if_icmp .ge 60, 3) := by decide +kernel
theorem dX11_two_140 : decode cX11_two 140 = .ok (.iload 5, 2) := by decide +kernel
theorem dX11_two_142 : decode cX11_two 142 = .ok (.ifCond .eq 55, 3) := by decide +kernel
theorem dX11_two_145 : decode cX11_two 145 = .ok (.aload_n 0, 1) := by decide +kernel
theorem dX11_two_146 : decode cX11_two 146 = .ok (.getfield 72, 3) := by decide +kernel
theorem dX11_two_149 : decode cX11_two 149 = .ok (.iload 6, 2) := by decide +kernel
theorem dX11_two_151 : decode cX11_two 151 = .ok (.baload, 1) := by decide +kernel
theorem dX11_two_152 : decode cX11_two 152 = .ok (.ifCond .eq 23, 3) := by decide +kernel
theorem dX11_two_155 : decode cX11_two 155 = .ok (.iload 4, 2) := by decide +kernel
theorem dX11_two_157 : decode cX11_two 157 = .ok (.iload 6, 2) := by decide +kernel
theorem dX11_two_159 : decode cX11_two 159 = .ok (.iand, 1) := by decide +kernel
theorem dX11_two_160 : decode cX11_two 160 = .ok (.ifCond .ne 15, 3) := by decide +kernel
theorem dX11_two_163 : decode cX11_two 163 = .ok (.aload_n 0, 1) := by decide +kernel
theorem dX11_two_164 : decode cX11_two 164 = .ok (.iload 4, 2) := by decide +kernel
theorem dX11_two_166 : decode cX11_two 166 = .ok (.iload 6, 2) := by decide +kernel
theorem dX11_two_168 : decode cX11_two 168 = .ok (.ior, 1) := by decide +kernel
theorem dX11_two_169 : decode cX11_two 169 = .ok (.invokevirtual 225, 3) := by decide +kernel
theorem dX11_two_172 : decode cX11_two 172 = .ok (.goto 4, 3) := by decide +kernel
theorem dX11_two_175 : decode cX11_two 175 = .ok (.iconst 0, 1) := by decide +kernel
theorem dX11_two_176 : decode cX11_two 176 = .ok (.istore 7, 2) := by decide +kernel
theorem dX11_two_178 : decode cX11_two 178 = .ok (.iload 7, 2) := by decide +kernel
theorem dX11_two_180 : decode cX11_two 180 = .ok (.iload_n 3, 1) := by decide +kernel
theorem dX11_two_181 : decode cX11_two 181 = .ok (.if_icmp .le 8, 3) := by decide +kernel
theorem dX11_two_184 : decode cX11_two 184 = .ok (.iload 7, 2) := by decide +kernel
theorem dX11_two_186 : decode cX11_two 186 = .ok (.goto 4, 3) := by decide +kernel
theorem dX11_two_189 : decode cX11_two 189 = .ok (.iload_n 3, 1) := by decide +kernel
theorem dX11_two_190 : decode cX11_two 190 = .ok (.istore_n 3, 1) := by decide +kernel
theorem dX11_two_191 : decode cX11_two 191 = .ok (.iinc 6 1, 3) := by decide +kernel
theorem dX11_two_194 : decode cX11_two 194 = .ok (.goto (-61), 3) := by decide +kernel
theorem dX11_two_197 : decode cX11_two 197 = .ok (.iinc 4 1, 3) := by decide +kernel
theorem dX11_two_200 : decode cX11_two 200 = .ok (.goto (-105), 3) := by decide +kernel
theorem dX11_two_203 : decode cX11_two 203 = .ok (.iload_n 3, 1) := by decide +kernel
theorem dX11_two_204 : decode cX11_two 204 = .ok (.ireturn, 1) := by decide +kernel
theorem dX11_costOf_0 : decode cX11_costOf 0 = .ok (.iconst 0, 1) := by decide +kernel
theorem dX11_costOf_1 : decode cX11_costOf 1 = .ok (.istore_n 2, 1) := by decide +kernel
theorem dX11_costOf_2 : decode cX11_costOf 2 = .ok (.iconst 0, 1) := by decide +kernel
theorem dX11_costOf_3 : decode cX11_costOf 3 = .ok (.istore_n 3, 1) := by decide +kernel
theorem dX11_costOf_4 : decode cX11_costOf 4 = .ok (.iload_n 3, 1) := by decide +kernel
theorem dX11_costOf_5 : decode cX11_costOf 5 = .ok (.aload_n 0, 1) := by decide +kernel
theorem dX11_costOf_6 : decode cX11_costOf 6 = .ok (.getfield 109, 3) := by decide +kernel
theorem dX11_costOf_9 : decode cX11_costOf 9 = .ok (.if_icmp .ge 48, 3) := by decide +kernel
theorem dX11_costOf_12 : decode cX11_costOf 12 = .ok (.aload_n 0, 1) := by decide +kernel
theorem dX11_costOf_13 : decode cX11_costOf 13 = .ok (.getfield 30, 3) := by decide +kernel
theorem dX11_costOf_16 : decode cX11_costOf 16 = .ok (.iconst 5, 1) := by decide +kernel
theorem dX11_costOf_17 : decode cX11_costOf 17 = .ok (.iload_n 3, 1) := by decide +kernel
theorem dX11_costOf_18 : decode cX11_costOf 18 = .ok (.imul, 1) := by decide +kernel
theorem dX11_costOf_19 : decode cX11_costOf 19 = .ok (.iconst 4, 1) := by decide +kernel
theorem dX11_costOf_20 : decode cX11_costOf 20 = .ok (.iadd, 1) := by decide +kernel
theorem dX11_costOf_21 : decode cX11_costOf 21 = .ok (.iaload, 1) := by decide +kernel
theorem dX11_costOf_22 : decode cX11_costOf 22 = .ok (.istore 4, 2) := by decide +kernel
theorem dX11_costOf_24 : decode cX11_costOf 24 = .ok (.iload_n 2, 1) := by decide +kernel
theorem dX11_costOf_25 : decode cX11_costOf 25 = .ok (.iload_n 1, 1) := by decide +kernel
theorem dX11_costOf_26 : decode cX11_costOf 26 = .ok (.iload_n 3, 1) := by decide +kernel
theorem dX11_costOf_27 : decode cX11_costOf 27 = .ok (.invokestatic 219, 3) := by decide +kernel
theorem dX11_costOf_30 : decode cX11_costOf 30 = .ok (.ifCond .ne 7, 3) := by decide +kernel
theorem dX11_costOf_33 : decode cX11_costOf 33 = .ok (.iconst 0, 1) := by decide +kernel
theorem dX11_costOf_34 : decode cX11_costOf 34 = .ok (.goto 15, 3) := by decide +kernel
theorem dX11_costOf_37 : decode cX11_costOf 37 = .ok (.iload 4, 2) := by decide +kernel
theorem dX11_costOf_39 : decode cX11_costOf 39 = .ok (.ifCond .ge 8, 3) := by decide +kernel
theorem dX11_costOf_42 : decode cX11_costOf 42 = .ok (.ldc 135, 2) := by decide +kernel
theorem dX11_costOf_44 : decode cX11_costOf 44 = .ok (.goto 5, 3) := by decide +kernel
theorem dX11_costOf_47 : decode cX11_costOf 47 = .ok (.iload 4, 2) := by decide +kernel
theorem dX11_costOf_49 : decode cX11_costOf 49 = .ok (.iadd, 1) := by decide +kernel
theorem dX11_costOf_50 : decode cX11_costOf 50 = .ok (.istore_n 2, 1) := by decide +kernel
theorem dX11_costOf_51 : decode cX11_costOf 51 = .ok (.iinc 3 1, 3) := by decide +kernel
theorem dX11_costOf_54 : decode cX11_costOf 54 = .ok (.goto (-50), 3) := by decide +kernel
theorem dX11_costOf_57 : decode cX11_costOf 57 = .ok (.iload_n 2, 1) := by decide +kernel
theorem dX11_costOf_58 : decode cX11_costOf 58 = .ok (.ireturn, 1) := by decide +kernel
theorem dX11_reword_0 : decode cX11_reword 0 = .ok (.iload_n 1, 1) := by decide +kernel
theorem dX11_reword_1 : decode cX11_reword 1 = .ok (.i2l, 1) := by decide +kernel
theorem dX11_reword_2 : decode cX11_reword 2 = .ok (.lconst 0, 1) := by decide +kernel
theorem dX11_reword_3 : decode cX11_reword 3 = .ok (.lconst 1, 1) := by decide +kernel
theorem dX11_reword_4 : decode cX11_reword 4 = .ok (.invokestatic 102, 3) := by decide +kernel
theorem dX11_reword_7 : decode cX11_reword 7 = .ok (.ifCond .ne 6, 3) := by decide +kernel
theorem dX11_reword_10 : decode cX11_reword 10 = .ok (.ldc 114, 2) := by decide +kernel
theorem dX11_reword_12 : decode cX11_reword 12 = .ok (.ireturn, 1) := by decide +kernel
theorem dX11_reword_13 : decode cX11_reword 13 = .ok (.aload_n 0, 1) := by decide +kernel
theorem dX11_reword_14 : decode cX11_reword 14 = .ok (.iconst 0, 1) := by decide +kernel
theorem dX11_reword_15 : decode cX11_reword 15 = .ok (.invokevirtual 222, 3) := by decide +kernel
theorem dX11_reword_18 : decode cX11_reword 18 = .ok (.istore_n 2, 1) := by decide +kernel
theorem dX11_reword_19 : decode cX11_reword 19 = .ok (.aload_n 0, 1) := by decide +kernel
theorem dX11_reword_20 : decode cX11_reword 20 = .ok (.aload_n 0, 1) := by decide +kernel
theorem dX11_reword_21 : decode cX11_reword 21 = .ok (.getfield 39, 3) := by decide +kernel
theorem dX11_reword_24 : decode cX11_reword 24 = .ok (.iconst 0, 1) := by decide +kernel
theorem dX11_reword_25 : decode cX11_reword 25 = .ok (.iaload, 1) := by decide +kernel
theorem dX11_reword_26 : decode cX11_reword 26 = .ok (.aload_n 0, 1) := by decide +kernel
theorem dX11_reword_27 : decode cX11_reword 27 = .ok (.getfield 39, 3) := by decide +kernel
theorem dX11_reword_30 : decode cX11_reword 30 = .ok (.iconst 1, 1) := by decide +kernel
theorem dX11_reword_31 : decode cX11_reword 31 = .ok (.iaload, 1) := by decide +kernel
theorem dX11_reword_32 : decode cX11_reword 32 = .ok (.iload_n 2, 1) := by decide +kernel
theorem dX11_reword_33 : decode cX11_reword 33 = .ok (.invokevirtual 288, 3) := by decide +kernel
theorem dX11_reword_36 : decode cX11_reword 36 = .ok (.iconst (-1), 1) := by decide +kernel
theorem dX11_reword_37 : decode cX11_reword 37 = .ok (.istore_n 3, 1) := by decide +kernel
theorem dX11_reword_38 : decode cX11_reword 38 = .ok (.ldc 135, 2) := by decide +kernel
theorem dX11_reword_40 : decode cX11_reword 40 = .ok (.istore 4, 2) := by decide +kernel
theorem dX11_reword_42 : decode cX11_reword 42 = .ok (.iconst 0, 1) := by decide +kernel
theorem dX11_reword_43 : decode cX11_reword 43 = .ok (.istore 5, 2) := by decide +kernel
theorem dX11_reword_45 : decode cX11_reword 45 = .ok (.iload 5, 2) := by decide +kernel
theorem dX11_reword_47 : decode cX11_reword 47 = .ok (.bipush 64, 2) := by decide +kernel
theorem dX11_reword_49 : decode cX11_reword 49 = .ok (.if_icmp .ge 56, 3) := by decide +kernel
theorem dX11_reword_52 : decode cX11_reword 52 = .ok (.iload 5, 2) := by decide +kernel
theorem dX11_reword_54 : decode cX11_reword 54 = .ok (.iload_n 2, 1) := by decide +kernel
theorem dX11_reword_55 : decode cX11_reword 55 = .ok (.iconst (-1), 1) := by decide +kernel
theorem dX11_reword_56 : decode cX11_reword 56 = .ok (.ixor, 1) := by decide +kernel
theorem dX11_reword_57 : decode cX11_reword 57 = .ok (.iand, 1) := by decide +kernel
theorem dX11_reword_58 : decode cX11_reword 58 = .ok (.ifCond .ne 41, 3) := by decide +kernel
theorem dX11_reword_61 : decode cX11_reword 61 = .ok (.aload_n 0, 1) := by decide +kernel
theorem dX11_reword_62 : decode cX11_reword 62 = .ok (.iload_n 2, 1) := by decide +kernel
theorem dX11_reword_63 : decode cX11_reword 63 = .ok (.iload 5, 2) := by decide +kernel
theorem dX11_reword_65 : decode cX11_reword 65 = .ok (.iconst (-1), 1) := by decide +kernel
theorem dX11_reword_66 : decode cX11_reword 66 = .ok (.ixor, 1) := by decide +kernel
theorem dX11_reword_67 : decode cX11_reword 67 = .ok (.iand, 1) := by decide +kernel
theorem dX11_reword_68 : decode cX11_reword 68 = .ok (.iconst 0, 1) := by decide +kernel
theorem dX11_reword_69 : decode cX11_reword 69 = .ok (.invokevirtual 292, 3) := by decide +kernel
theorem dX11_reword_72 : decode cX11_reword 72 = .ok (.ldc 135, 2) := by decide +kernel
theorem dX11_reword_74 : decode cX11_reword 74 = .ok (.if_icmp .ge 25, 3) := by decide +kernel
theorem dX11_reword_77 : decode cX11_reword 77 = .ok (.aload_n 0, 1) := by decide +kernel
theorem dX11_reword_78 : decode cX11_reword 78 = .ok (.iload 5, 2) := by decide +kernel
theorem dX11_reword_80 : decode cX11_reword 80 = .ok (.invokevirtual 298, 3) := by decide +kernel
theorem dX11_reword_83 : decode cX11_reword 83 = .ok (.iload 4, 2) := by decide +kernel
theorem dX11_reword_85 : decode cX11_reword 85 = .ok (.if_icmp .ge 14, 3) := by decide +kernel
theorem dX11_reword_88 : decode cX11_reword 88 = .ok (.iload 5, 2) := by decide +kernel
theorem dX11_reword_90 : decode cX11_reword 90 = .ok (.istore_n 3, 1) := by decide +kernel
theorem dX11_reword_91 : decode cX11_reword 91 = .ok (.aload_n 0, 1) := by decide +kernel
theorem dX11_reword_92 : decode cX11_reword 92 = .ok (.iload 5, 2) := by decide +kernel
theorem dX11_reword_94 : decode cX11_reword 94 = .ok (.invokevirtual 298, 3) := by decide +kernel
theorem dX11_reword_97 : decode cX11_reword 97 = .ok (.istore 4, 2) := by decide +kernel
theorem dX11_reword_99 : decode cX11_reword 99 = .ok (.iinc 5 1, 3) := by decide +kernel
theorem dX11_reword_102 : decode cX11_reword 102 = .ok (.goto (-57), 3) := by decide +kernel
theorem dX11_reword_105 : decode cX11_reword 105 = .ok (.iload_n 3, 1) := by decide +kernel
theorem dX11_reword_106 : decode cX11_reword 106 = .ok (.ifCond .ge 7, 3) := by decide +kernel
theorem dX11_reword_109 : decode cX11_reword 109 = .ok (.iconst (-1), 1) := by decide +kernel
theorem dX11_reword_110 : decode cX11_reword 110 = .ok (.goto 13, 3) := by decide +kernel
theorem dX11_reword_113 : decode cX11_reword 113 = .ok (.iload_n 1, 1) := by decide +kernel
theorem dX11_reword_114 : decode cX11_reword 114 = .ok (.ifCond .ne 7, 3) := by decide +kernel
theorem dX11_reword_117 : decode cX11_reword 117 = .ok (.iload_n 3, 1) := by decide +kernel
theorem dX11_reword_118 : decode cX11_reword 118 = .ok (.goto 5, 3) := by decide +kernel
theorem dX11_reword_121 : decode cX11_reword 121 = .ok (.iload 4, 2) := by decide +kernel
theorem dX11_reword_123 : decode cX11_reword 123 = .ok (.ireturn, 1) := by decide +kernel
theorem dX11_chain_0 : decode cX11_chain 0 = .ok (.aload_n 0, 1) := by decide +kernel
theorem dX11_chain_1 : decode cX11_chain 1 = .ok (.iload_n 1, 1) := by decide +kernel
theorem dX11_chain_2 : decode cX11_chain 2 = .ok (.iload_n 2, 1) := by decide +kernel
theorem dX11_chain_3 : decode cX11_chain 3 = .ok (.invokevirtual 244, 3) := by decide +kernel
theorem dX11_chain_6 : decode cX11_chain 6 = .ok (.ifCond .ne 6, 3) := by decide +kernel
theorem dX11_chain_9 : decode cX11_chain 9 = .ok (.ldc 235, 2) := by decide +kernel
theorem dX11_chain_11 : decode cX11_chain 11 = .ok (.ireturn, 1) := by decide +kernel
theorem dX11_chain_12 : decode cX11_chain 12 = .ok (.iload_n 3, 1) := by decide +kernel
theorem dX11_chain_13 : decode cX11_chain 13 = .ok (.i2l, 1) := by decide +kernel
theorem dX11_chain_14 : decode cX11_chain 14 = .ok (.lconst 0, 1) := by decide +kernel
theorem dX11_chain_15 : decode cX11_chain 15 = .ok (.lconst 1, 1) := by decide +kernel
theorem dX11_chain_16 : decode cX11_chain 16 = .ok (.invokestatic 102, 3) := by decide +kernel
theorem dX11_chain_19 : decode cX11_chain 19 = .ok (.ifCond .ne 6, 3) := by decide +kernel
theorem dX11_chain_22 : decode cX11_chain 22 = .ok (.ldc 114, 2) := by decide +kernel
theorem dX11_chain_24 : decode cX11_chain 24 = .ok (.ireturn, 1) := by decide +kernel
theorem dX11_chain_25 : decode cX11_chain 25 = .ok (.iconst (-1), 1) := by decide +kernel
theorem dX11_chain_26 : decode cX11_chain 26 = .ok (.istore 4, 2) := by decide +kernel
theorem dX11_chain_28 : decode cX11_chain 28 = .ok (.iconst (-1), 1) := by decide +kernel
theorem dX11_chain_29 : decode cX11_chain 29 = .ok (.istore 5, 2) := by decide +kernel
theorem dX11_chain_31 : decode cX11_chain 31 = .ok (.iconst 1, 1) := by decide +kernel
theorem dX11_chain_32 : decode cX11_chain 32 = .ok (.istore 6, 2) := by decide +kernel
theorem dX11_chain_34 : decode cX11_chain 34 = .ok (.iconst 0, 1) := by decide +kernel
theorem dX11_chain_35 : decode cX11_chain 35 = .ok (.istore 7, 2) := by decide +kernel
theorem dX11_chain_37 : decode cX11_chain 37 = .ok (.iload 7, 2) := by decide +kernel
theorem dX11_chain_39 : decode cX11_chain 39 = .ok (.iconst 2, 1) := by decide +kernel
theorem dX11_chain_40 : decode cX11_chain 40 = .ok (.iadd, 1) := by decide +kernel
theorem dX11_chain_41 : decode cX11_chain 41 = .ok (.aload_n 0, 1) := by decide +kernel
theorem dX11_chain_42 : decode cX11_chain 42 = .ok (.getfield 106, 3) := by decide +kernel
theorem dX11_chain_45 : decode cX11_chain 45 = .ok (.if_icmp .gt 61, 3) := by decide +kernel
theorem dX11_chain_48 : decode cX11_chain 48 = .ok (.iconst 0, 1) := by decide +kernel
theorem dX11_chain_49 : decode cX11_chain 49 = .ok (.istore 8, 2) := by decide +kernel
theorem dX11_chain_51 : decode cX11_chain 51 = .ok (.iload 8, 2) := by decide +kernel
theorem dX11_chain_53 : decode cX11_chain 53 = .ok (.iload 6, 2) := by decide +kernel
theorem dX11_chain_55 : decode cX11_chain 55 = .ok (.if_icmp .ge 38, 3) := by decide +kernel
theorem dX11_chain_58 : decode cX11_chain 58 = .ok (.aload_n 0, 1) := by decide +kernel
theorem dX11_chain_59 : decode cX11_chain 59 = .ok (.iload_n 1, 1) := by decide +kernel
theorem dX11_chain_60 : decode cX11_chain 60 = .ok (.iload_n 2, 1) := by decide +kernel
theorem dX11_chain_61 : decode cX11_chain 61 = .ok (.iload 8, 2) := by decide +kernel
theorem dX11_chain_63 : decode cX11_chain 63 = .ok (.iload 7, 2) := by decide +kernel
theorem dX11_chain_65 : decode cX11_chain 65 = .ok (.invokevirtual 301, 3) := by decide +kernel
theorem dX11_chain_68 : decode cX11_chain 68 = .ok (.istore 9, 2) := by decide +kernel
theorem dX11_chain_70 : decode cX11_chain 70 = .ok (.iload 9, 2) := by decide +kernel
theorem dX11_chain_72 : decode cX11_chain 72 = .ok (.iload 4, 2) := by decide +kernel
theorem dX11_chain_74 : decode cX11_chain 74 = .ok (.if_icmp .le 13, 3) := by decide +kernel
theorem dX11_chain_77 : decode cX11_chain 77 = .ok (.iload 9, 2) := by decide +kernel
theorem dX11_chain_79 : decode cX11_chain 79 = .ok (.istore 4, 2) := by decide +kernel
theorem dX11_chain_81 : decode cX11_chain 81 = .ok (.iload 7, 2) := by decide +kernel
theorem dX11_chain_83 : decode cX11_chain 83 = .ok (.iconst 2, 1) := by decide +kernel
theorem dX11_chain_84 : decode cX11_chain 84 = .ok (.iadd, 1) := by decide +kernel
theorem dX11_chain_85 : decode cX11_chain 85 = .ok (.istore 5, 2) := by decide +kernel
theorem dX11_chain_87 : decode cX11_chain 87 = .ok (.iinc 8 1, 3) := by decide +kernel
theorem dX11_chain_90 : decode cX11_chain 90 = .ok (.goto (-39), 3) := by decide +kernel
theorem dX11_chain_93 : decode cX11_chain 93 = .ok (.iload 6, 2) := by decide +kernel
theorem dX11_chain_95 : decode cX11_chain 95 = .ok (.bipush 6, 2) := by decide +kernel
theorem dX11_chain_97 : decode cX11_chain 97 = .ok (.imul, 1) := by decide +kernel
theorem dX11_chain_98 : decode cX11_chain 98 = .ok (.istore 6, 2) := by decide +kernel
theorem dX11_chain_100 : decode cX11_chain 100 = .ok (.iinc 7 1, 3) := by decide +kernel
theorem dX11_chain_103 : decode cX11_chain 103 = .ok (.goto (-66), 3) := by decide +kernel
theorem dX11_chain_106 : decode cX11_chain 106 = .ok (.iload_n 3, 1) := by decide +kernel
theorem dX11_chain_107 : decode cX11_chain 107 = .ok (.ifCond .ne 8, 3) := by decide +kernel
theorem dX11_chain_110 : decode cX11_chain 110 = .ok (.iload 4, 2) := by decide +kernel
theorem dX11_chain_112 : decode cX11_chain 112 = .ok (.goto 5, 3) := by decide +kernel
theorem dX11_chain_115 : decode cX11_chain 115 = .ok (.iload 5, 2) := by decide +kernel
theorem dX11_chain_117 : decode cX11_chain 117 = .ok (.ireturn, 1) := by decide +kernel
theorem dX11_oddsOf_0 : decode cX11_oddsOf 0 = .ok (.iconst 1, 1) := by decide +kernel
theorem dX11_oddsOf_1 : decode cX11_oddsOf 1 = .ok (.iload_n 1, 1) := by decide +kernel
theorem dX11_oddsOf_2 : decode cX11_oddsOf 2 = .ok (.ishl, 1) := by decide +kernel
theorem dX11_oddsOf_3 : decode cX11_oddsOf 3 = .ok (.iconst 1, 1) := by decide +kernel
theorem dX11_oddsOf_4 : decode cX11_oddsOf 4 = .ok (.iload_n 2, 1) := by decide +kernel
theorem dX11_oddsOf_5 : decode cX11_oddsOf 5 = .ok (.ishl, 1) := by decide +kernel
theorem dX11_oddsOf_6 : decode cX11_oddsOf 6 = .ok (.ior, 1) := by decide +kernel
theorem dX11_oddsOf_7 : decode cX11_oddsOf 7 = .ok (.istore 5, 2) := by decide +kernel
theorem dX11_oddsOf_9 : decode cX11_oddsOf 9 = .ok (.iload_n 1, 1) := by decide +kernel
theorem dX11_oddsOf_10 : decode cX11_oddsOf 10 = .ok (.istore 6, 2) := by decide +kernel
theorem dX11_oddsOf_12 : decode cX11_oddsOf 12 = .ok (.iload_n 3, 1) := by decide +kernel
theorem dX11_oddsOf_13 : decode cX11_oddsOf 13 = .ok (.istore 7, 2) := by decide +kernel
theorem dX11_oddsOf_15 : decode cX11_oddsOf 15 = .ok (.ldc2_w 305, 3) := by decide +kernel
theorem dX11_oddsOf_18 : decode cX11_oddsOf 18 = .ok (.lstore 8, 2) := by decide +kernel
theorem dX11_oddsOf_20 : decode cX11_oddsOf 20 = .ok (.iconst 0, 1) := by decide +kernel
theorem dX11_oddsOf_21 : decode cX11_oddsOf 21 = .ok (.istore 10, 2) := by decide +kernel
theorem dX11_oddsOf_23 : decode cX11_oddsOf 23 = .ok (.iload 10, 2) := by decide +kernel
theorem dX11_oddsOf_25 : decode cX11_oddsOf 25 = .ok (.iload 4, 2) := by decide +kernel
theorem dX11_oddsOf_27 : decode cX11_oddsOf 27 = .ok (.if_icmp .gt 114, 3) := by decide +kernel
theorem dX11_oddsOf_30 : decode cX11_oddsOf 30 = .ok (.iload 10, 2) := by decide +kernel
theorem dX11_oddsOf_32 : decode cX11_oddsOf 32 = .ok (.iload 4, 2) := by decide +kernel
theorem dX11_oddsOf_34 : decode cX11_oddsOf 34 = .ok (.if_icmp .ne 7, 3) := by decide +kernel
theorem dX11_oddsOf_37 : decode cX11_oddsOf 37 = .ok (.iload_n 2, 1) := by decide +kernel
theorem dX11_oddsOf_38 : decode cX11_oddsOf 38 = .ok (.goto 8, 3) := by decide +kernel
theorem dX11_oddsOf_41 : decode cX11_oddsOf 41 = .ok (.iload 7, 2) := by decide +kernel
theorem dX11_oddsOf_43 : decode cX11_oddsOf 43 = .ok (.bipush 6, 2) := by decide +kernel
theorem dX11_oddsOf_45 : decode cX11_oddsOf 45 = .ok (.irem, 1) := by decide +kernel
theorem dX11_oddsOf_46 : decode cX11_oddsOf 46 = .ok (.istore 11, 2) := by decide +kernel
theorem dX11_oddsOf_48 : decode cX11_oddsOf 48 = .ok (.iload 7, 2) := by decide +kernel
theorem dX11_oddsOf_50 : decode cX11_oddsOf 50 = .ok (.bipush 6, 2) := by decide +kernel
theorem dX11_oddsOf_52 : decode cX11_oddsOf 52 = .ok (.idiv, 1) := by decide +kernel
theorem dX11_oddsOf_53 : decode cX11_oddsOf 53 = .ok (.istore 7, 2) := by decide +kernel
theorem dX11_oddsOf_55 : decode cX11_oddsOf 55 = .ok (.iload 10, 2) := by decide +kernel
theorem dX11_oddsOf_57 : decode cX11_oddsOf 57 = .ok (.iload 4, 2) := by decide +kernel
theorem dX11_oddsOf_59 : decode cX11_oddsOf 59 = .ok (.if_icmp .ge 22, 3) := by decide +kernel
theorem dX11_oddsOf_62 : decode cX11_oddsOf 62 = .ok (.iload 11, 2) := by decide +kernel
theorem dX11_oddsOf_64 : decode cX11_oddsOf 64 = .ok (.aload_n 0, 1) := by decide +kernel
theorem dX11_oddsOf_65 : decode cX11_oddsOf 65 = .ok (.getfield 106, 3) := by decide +kernel
theorem dX11_oddsOf_68 : decode cX11_oddsOf 68 = .ok (.if_icmp .ge 29, 3) := by decide +kernel
theorem dX11_oddsOf_71 : decode cX11_oddsOf 71 = .ok (.iload 5, 2) := by decide +kernel
end
section
theorem dX11_oddsOf_73 : decode cX11_oddsOf 73 = .ok (.iload 11, 2) := by decide +kernel
theorem dX11_oddsOf_75 : decode cX11_oddsOf 75 = .ok (.invokestatic 219, 3) := by decide +kernel
theorem dX11_oddsOf_78 : decode cX11_oddsOf 78 = .ok (.ifCond .ne 19, 3) := by decide +kernel
theorem dX11_oddsOf_81 : decode cX11_oddsOf 81 = .ok (.aload_n 0, 1) := by decide +kernel
theorem dX11_oddsOf_82 : decode cX11_oddsOf 82 = .ok (.getfield 33, 3) := by decide +kernel
theorem dX11_oddsOf_85 : decode cX11_oddsOf 85 = .ok (.bipush 6, 2) := by decide +kernel
theorem dX11_oddsOf_87 : decode cX11_oddsOf 87 = .ok (.iload 6, 2) := by decide +kernel
theorem dX11_oddsOf_89 : decode cX11_oddsOf 89 = .ok (.imul, 1) := by decide +kernel
theorem dX11_oddsOf_90 : decode cX11_oddsOf 90 = .ok (.iload 11, 2) := by decide +kernel
theorem dX11_oddsOf_92 : decode cX11_oddsOf 92 = .ok (.iadd, 1) := by decide +kernel
theorem dX11_oddsOf_93 : decode cX11_oddsOf 93 = .ok (.iaload, 1) := by decide +kernel
theorem dX11_oddsOf_94 : decode cX11_oddsOf 94 = .ok (.ifCond .ge 5, 3) := by decide +kernel
theorem dX11_oddsOf_97 : decode cX11_oddsOf 97 = .ok (.iconst (-1), 1) := by decide +kernel
theorem dX11_oddsOf_98 : decode cX11_oddsOf 98 = .ok (.ireturn, 1) := by decide +kernel
theorem dX11_oddsOf_99 : decode cX11_oddsOf 99 = .ok (.lload 8, 2) := by decide +kernel
theorem dX11_oddsOf_101 : decode cX11_oddsOf 101 = .ok (.aload_n 0, 1) := by decide +kernel
theorem dX11_oddsOf_102 : decode cX11_oddsOf 102 = .ok (.getfield 33, 3) := by decide +kernel
theorem dX11_oddsOf_105 : decode cX11_oddsOf 105 = .ok (.bipush 6, 2) := by decide +kernel
theorem dX11_oddsOf_107 : decode cX11_oddsOf 107 = .ok (.iload 6, 2) := by decide +kernel
theorem dX11_oddsOf_109 : decode cX11_oddsOf 109 = .ok (.imul, 1) := by decide +kernel
theorem dX11_oddsOf_110 : decode cX11_oddsOf 110 = .ok (.iload 11, 2) := by decide +kernel
theorem dX11_oddsOf_112 : decode cX11_oddsOf 112 = .ok (.iadd, 1) := by decide +kernel
theorem dX11_oddsOf_113 : decode cX11_oddsOf 113 = .ok (.iaload, 1) := by decide +kernel
theorem dX11_oddsOf_114 : decode cX11_oddsOf 114 = .ok (.i2l, 1) := by decide +kernel
theorem dX11_oddsOf_115 : decode cX11_oddsOf 115 = .ok (.lmul, 1) := by decide +kernel
theorem dX11_oddsOf_116 : decode cX11_oddsOf 116 = .ok (.ldc2_w 307, 3) := by decide +kernel
theorem dX11_oddsOf_119 : decode cX11_oddsOf 119 = .ok (.ldiv, 1) := by decide +kernel
theorem dX11_oddsOf_120 : decode cX11_oddsOf 120 = .ok (.lstore 8, 2) := by decide +kernel
theorem dX11_oddsOf_122 : decode cX11_oddsOf 122 = .ok (.iload 5, 2) := by decide +kernel
theorem dX11_oddsOf_124 : decode cX11_oddsOf 124 = .ok (.iconst 1, 1) := by decide +kernel
theorem dX11_oddsOf_125 : decode cX11_oddsOf 125 = .ok (.iload 11, 2) := by decide +kernel
theorem dX11_oddsOf_127 : decode cX11_oddsOf 127 = .ok (.ishl, 1) := by decide +kernel
theorem dX11_oddsOf_128 : decode cX11_oddsOf 128 = .ok (.ior, 1) := by decide +kernel
theorem dX11_oddsOf_129 : decode cX11_oddsOf 129 = .ok (.istore 5, 2) := by decide +kernel
theorem dX11_oddsOf_131 : decode cX11_oddsOf 131 = .ok (.iload 11, 2) := by decide +kernel
theorem dX11_oddsOf_133 : decode cX11_oddsOf 133 = .ok (.istore 6, 2) := by decide +kernel
theorem dX11_oddsOf_135 : decode cX11_oddsOf 135 = .ok (.iinc 10 1, 3) := by decide +kernel
theorem dX11_oddsOf_138 : decode cX11_oddsOf 138 = .ok (.goto (-115), 3) := by decide +kernel
theorem dX11_oddsOf_141 : decode cX11_oddsOf 141 = .ok (.lload 8, 2) := by decide +kernel
theorem dX11_oddsOf_143 : decode cX11_oddsOf 143 = .ok (.l2i, 1) := by decide +kernel
theorem dX11_oddsOf_144 : decode cX11_oddsOf 144 = .ok (.ireturn, 1) := by decide +kernel
theorem dX11_lost_0 : decode cX11_lost 0 = .ok (.aload_n 0, 1) := by decide +kernel
theorem dX11_lost_1 : decode cX11_lost 1 = .ok (.iload_n 1, 1) := by decide +kernel
theorem dX11_lost_2 : decode cX11_lost 2 = .ok (.invokevirtual 236, 3) := by decide +kernel
theorem dX11_lost_5 : decode cX11_lost 5 = .ok (.ifCond .ne 6, 3) := by decide +kernel
theorem dX11_lost_8 : decode cX11_lost 8 = .ok (.ldc 235, 2) := by decide +kernel
theorem dX11_lost_10 : decode cX11_lost 10 = .ok (.ireturn, 1) := by decide +kernel
theorem dX11_lost_11 : decode cX11_lost 11 = .ok (.iconst 1, 1) := by decide +kernel
theorem dX11_lost_12 : decode cX11_lost 12 = .ok (.iload_n 1, 1) := by decide +kernel
theorem dX11_lost_13 : decode cX11_lost 13 = .ok (.ishl, 1) := by decide +kernel
theorem dX11_lost_14 : decode cX11_lost 14 = .ok (.istore_n 2, 1) := by decide +kernel
theorem dX11_lost_15 : decode cX11_lost 15 = .ok (.iconst 0, 1) := by decide +kernel
theorem dX11_lost_16 : decode cX11_lost 16 = .ok (.istore_n 3, 1) := by decide +kernel
theorem dX11_lost_17 : decode cX11_lost 17 = .ok (.iload_n 3, 1) := by decide +kernel
theorem dX11_lost_18 : decode cX11_lost 18 = .ok (.bipush 6, 2) := by decide +kernel
theorem dX11_lost_20 : decode cX11_lost 20 = .ok (.if_icmp .ge 61, 3) := by decide +kernel
theorem dX11_lost_23 : decode cX11_lost 23 = .ok (.iconst 0, 1) := by decide +kernel
theorem dX11_lost_24 : decode cX11_lost 24 = .ok (.istore 4, 2) := by decide +kernel
theorem dX11_lost_26 : decode cX11_lost 26 = .ok (.iload 4, 2) := by decide +kernel
theorem dX11_lost_28 : decode cX11_lost 28 = .ok (.bipush 36, 2) := by decide +kernel
theorem dX11_lost_30 : decode cX11_lost 30 = .ok (.if_icmp .ge 45, 3) := by decide +kernel
theorem dX11_lost_33 : decode cX11_lost 33 = .ok (.iload_n 2, 1) := by decide +kernel
theorem dX11_lost_34 : decode cX11_lost 34 = .ok (.iload_n 2, 1) := by decide +kernel
theorem dX11_lost_35 : decode cX11_lost 35 = .ok (.iload 4, 2) := by decide +kernel
theorem dX11_lost_37 : decode cX11_lost 37 = .ok (.bipush 6, 2) := by decide +kernel
theorem dX11_lost_39 : decode cX11_lost 39 = .ok (.idiv, 1) := by decide +kernel
theorem dX11_lost_40 : decode cX11_lost 40 = .ok (.invokestatic 219, 3) := by decide +kernel
theorem dX11_lost_43 : decode cX11_lost 43 = .ok (.ifCond .eq 23, 3) := by decide +kernel
theorem dX11_lost_46 : decode cX11_lost 46 = .ok (.aload_n 0, 1) := by decide +kernel
theorem dX11_lost_47 : decode cX11_lost 47 = .ok (.getfield 33, 3) := by decide +kernel
theorem dX11_lost_50 : decode cX11_lost 50 = .ok (.iload 4, 2) := by decide +kernel
theorem dX11_lost_52 : decode cX11_lost 52 = .ok (.iaload, 1) := by decide +kernel
theorem dX11_lost_53 : decode cX11_lost 53 = .ok (.ifCond .le 13, 3) := by decide +kernel
theorem dX11_lost_56 : decode cX11_lost 56 = .ok (.iconst 1, 1) := by decide +kernel
theorem dX11_lost_57 : decode cX11_lost 57 = .ok (.iload 4, 2) := by decide +kernel
theorem dX11_lost_59 : decode cX11_lost 59 = .ok (.bipush 6, 2) := by decide +kernel
theorem dX11_lost_61 : decode cX11_lost 61 = .ok (.irem, 1) := by decide +kernel
theorem dX11_lost_62 : decode cX11_lost 62 = .ok (.ishl, 1) := by decide +kernel
theorem dX11_lost_63 : decode cX11_lost 63 = .ok (.goto 4, 3) := by decide +kernel
theorem dX11_lost_66 : decode cX11_lost 66 = .ok (.iconst 0, 1) := by decide +kernel
theorem dX11_lost_67 : decode cX11_lost 67 = .ok (.ior, 1) := by decide +kernel
theorem dX11_lost_68 : decode cX11_lost 68 = .ok (.istore_n 2, 1) := by decide +kernel
theorem dX11_lost_69 : decode cX11_lost 69 = .ok (.iinc 4 1, 3) := by decide +kernel
theorem dX11_lost_72 : decode cX11_lost 72 = .ok (.goto (-46), 3) := by decide +kernel
theorem dX11_lost_75 : decode cX11_lost 75 = .ok (.iinc 3 1, 3) := by decide +kernel
theorem dX11_lost_78 : decode cX11_lost 78 = .ok (.goto (-61), 3) := by decide +kernel
theorem dX11_lost_81 : decode cX11_lost 81 = .ok (.iconst 1, 1) := by decide +kernel
theorem dX11_lost_82 : decode cX11_lost 82 = .ok (.aload_n 0, 1) := by decide +kernel
theorem dX11_lost_83 : decode cX11_lost 83 = .ok (.getfield 106, 3) := by decide +kernel
theorem dX11_lost_86 : decode cX11_lost 86 = .ok (.ishl, 1) := by decide +kernel
theorem dX11_lost_87 : decode cX11_lost 87 = .ok (.iconst 1, 1) := by decide +kernel
theorem dX11_lost_88 : decode cX11_lost 88 = .ok (.isub, 1) := by decide +kernel
theorem dX11_lost_89 : decode cX11_lost 89 = .ok (.iload_n 2, 1) := by decide +kernel
theorem dX11_lost_90 : decode cX11_lost 90 = .ok (.iconst (-1), 1) := by decide +kernel
theorem dX11_lost_91 : decode cX11_lost 91 = .ok (.ixor, 1) := by decide +kernel
theorem dX11_lost_92 : decode cX11_lost 92 = .ok (.iand, 1) := by decide +kernel
theorem dX11_lost_93 : decode cX11_lost 93 = .ok (.ireturn, 1) := by decide +kernel
theorem dX11_bidOf_0 : decode cX11_bidOf 0 = .ok (.aload_n 0, 1) := by decide +kernel
theorem dX11_bidOf_1 : decode cX11_bidOf 1 = .ok (.getfield 27, 3) := by decide +kernel
theorem dX11_bidOf_4 : decode cX11_bidOf 4 = .ok (.iload_n 1, 1) := by decide +kernel
theorem dX11_bidOf_5 : decode cX11_bidOf 5 = .ok (.iaload, 1) := by decide +kernel
theorem dX11_bidOf_6 : decode cX11_bidOf 6 = .ok (.aload_n 0, 1) := by decide +kernel
theorem dX11_bidOf_7 : decode cX11_bidOf 7 = .ok (.getfield 75, 3) := by decide +kernel
theorem dX11_bidOf_10 : decode cX11_bidOf 10 = .ok (.iload_n 1, 1) := by decide +kernel
theorem dX11_bidOf_11 : decode cX11_bidOf 11 = .ok (.iaload, 1) := by decide +kernel
theorem dX11_bidOf_12 : decode cX11_bidOf 12 = .ok (.isub, 1) := by decide +kernel
theorem dX11_bidOf_13 : decode cX11_bidOf 13 = .ok (.istore_n 2, 1) := by decide +kernel
theorem dX11_bidOf_14 : decode cX11_bidOf 14 = .ok (.iload_n 2, 1) := by decide +kernel
theorem dX11_bidOf_15 : decode cX11_bidOf 15 = .ok (.ifCond .ge 7, 3) := by decide +kernel
theorem dX11_bidOf_18 : decode cX11_bidOf 18 = .ok (.iconst 0, 1) := by decide +kernel
theorem dX11_bidOf_19 : decode cX11_bidOf 19 = .ok (.goto 4, 3) := by decide +kernel
theorem dX11_bidOf_22 : decode cX11_bidOf 22 = .ok (.iload_n 2, 1) := by decide +kernel
theorem dX11_bidOf_23 : decode cX11_bidOf 23 = .ok (.ireturn, 1) := by decide +kernel
theorem dX11_sold_0 : decode cX11_sold 0 = .ok (.aload_n 0, 1) := by decide +kernel
theorem dX11_sold_1 : decode cX11_sold 1 = .ok (.iload_n 2, 1) := by decide +kernel
theorem dX11_sold_2 : decode cX11_sold 2 = .ok (.invokevirtual 236, 3) := by decide +kernel
theorem dX11_sold_5 : decode cX11_sold 5 = .ok (.ifCond .ne 6, 3) := by decide +kernel
theorem dX11_sold_8 : decode cX11_sold 8 = .ok (.ldc 235, 2) := by decide +kernel
theorem dX11_sold_10 : decode cX11_sold 10 = .ok (.ireturn, 1) := by decide +kernel
theorem dX11_sold_11 : decode cX11_sold 11 = .ok (.iload_n 1, 1) := by decide +kernel
theorem dX11_sold_12 : decode cX11_sold 12 = .ok (.i2l, 1) := by decide +kernel
theorem dX11_sold_13 : decode cX11_sold 13 = .ok (.lconst 1, 1) := by decide +kernel
theorem dX11_sold_14 : decode cX11_sold 14 = .ok (.ldc2_w 309, 3) := by decide +kernel
theorem dX11_sold_17 : decode cX11_sold 17 = .ok (.invokestatic 102, 3) := by decide +kernel
theorem dX11_sold_20 : decode cX11_sold 20 = .ok (.ifCond .eq 13, 3) := by decide +kernel
theorem dX11_sold_23 : decode cX11_sold 23 = .ok (.iload_n 3, 1) := by decide +kernel
theorem dX11_sold_24 : decode cX11_sold 24 = .ok (.i2l, 1) := by decide +kernel
theorem dX11_sold_25 : decode cX11_sold 25 = .ok (.lconst 0, 1) := by decide +kernel
theorem dX11_sold_26 : decode cX11_sold 26 = .ok (.lconst 1, 1) := by decide +kernel
theorem dX11_sold_27 : decode cX11_sold 27 = .ok (.invokestatic 102, 3) := by decide +kernel
theorem dX11_sold_30 : decode cX11_sold 30 = .ok (.ifCond .ne 6, 3) := by decide +kernel
theorem dX11_sold_33 : decode cX11_sold 33 = .ok (.ldc 114, 2) := by decide +kernel
theorem dX11_sold_35 : decode cX11_sold 35 = .ok (.ireturn, 1) := by decide +kernel
theorem dX11_sold_36 : decode cX11_sold 36 = .ok (.iconst 0, 1) := by decide +kernel
theorem dX11_sold_37 : decode cX11_sold 37 = .ok (.istore 4, 2) := by decide +kernel
theorem dX11_sold_39 : decode cX11_sold 39 = .ok (.iload 4, 2) := by decide +kernel
theorem dX11_sold_41 : decode cX11_sold 41 = .ok (.aload_n 0, 1) := by decide +kernel
theorem dX11_sold_42 : decode cX11_sold 42 = .ok (.getfield 106, 3) := by decide +kernel
theorem dX11_sold_45 : decode cX11_sold 45 = .ok (.if_icmp .ge 25, 3) := by decide +kernel
theorem dX11_sold_48 : decode cX11_sold 48 = .ok (.aload_n 0, 1) := by decide +kernel
theorem dX11_sold_49 : decode cX11_sold 49 = .ok (.getfield 75, 3) := by decide +kernel
theorem dX11_sold_52 : decode cX11_sold 52 = .ok (.iload 4, 2) := by decide +kernel
theorem dX11_sold_54 : decode cX11_sold 54 = .ok (.iconst 0, 1) := by decide +kernel
theorem dX11_sold_55 : decode cX11_sold 55 = .ok (.iastore, 1) := by decide +kernel
theorem dX11_sold_56 : decode cX11_sold 56 = .ok (.aload_n 0, 1) := by decide +kernel
theorem dX11_sold_57 : decode cX11_sold 57 = .ok (.getfield 78, 3) := by decide +kernel
theorem dX11_sold_60 : decode cX11_sold 60 = .ok (.iload 4, 2) := by decide +kernel
theorem dX11_sold_62 : decode cX11_sold 62 = .ok (.iconst 0, 1) := by decide +kernel
theorem dX11_sold_63 : decode cX11_sold 63 = .ok (.iastore, 1) := by decide +kernel
theorem dX11_sold_64 : decode cX11_sold 64 = .ok (.iinc 4 1, 3) := by decide +kernel
theorem dX11_sold_67 : decode cX11_sold 67 = .ok (.goto (-28), 3) := by decide +kernel
theorem dX11_sold_70 : decode cX11_sold 70 = .ok (.iconst 0, 1) := by decide +kernel
theorem dX11_sold_71 : decode cX11_sold 71 = .ok (.istore 4, 2) := by decide +kernel
theorem dX11_sold_73 : decode cX11_sold 73 = .ok (.iload 4, 2) := by decide +kernel
theorem dX11_sold_75 : decode cX11_sold 75 = .ok (.iload_n 1, 1) := by decide +kernel
theorem dX11_sold_76 : decode cX11_sold 76 = .ok (.if_icmp .ge 129, 3) := by decide +kernel
theorem dX11_sold_79 : decode cX11_sold 79 = .ok (.iconst 0, 1) := by decide +kernel
theorem dX11_sold_80 : decode cX11_sold 80 = .ok (.istore 5, 2) := by decide +kernel
theorem dX11_sold_82 : decode cX11_sold 82 = .ok (.iconst 1, 1) := by decide +kernel
theorem dX11_sold_83 : decode cX11_sold 83 = .ok (.istore 6, 2) := by decide +kernel
theorem dX11_sold_85 : decode cX11_sold 85 = .ok (.iload 6, 2) := by decide +kernel
theorem dX11_sold_87 : decode cX11_sold 87 = .ok (.aload_n 0, 1) := by decide +kernel
theorem dX11_sold_88 : decode cX11_sold 88 = .ok (.getfield 106, 3) := by decide +kernel
theorem dX11_sold_91 : decode cX11_sold 91 = .ok (.if_icmp .ge 33, 3) := by decide +kernel
theorem dX11_sold_94 : decode cX11_sold 94 = .ok (.aload_n 0, 1) := by decide +kernel
theorem dX11_sold_95 : decode cX11_sold 95 = .ok (.iload 6, 2) := by decide +kernel
theorem dX11_sold_97 : decode cX11_sold 97 = .ok (.invokevirtual 311, 3) := by decide +kernel
theorem dX11_sold_100 : decode cX11_sold 100 = .ok (.aload_n 0, 1) := by decide +kernel
theorem dX11_sold_101 : decode cX11_sold 101 = .ok (.iload 5, 2) := by decide +kernel
theorem dX11_sold_103 : decode cX11_sold 103 = .ok (.invokevirtual 311, 3) := by decide +kernel
theorem dX11_sold_106 : decode cX11_sold 106 = .ok (.if_icmp .le 8, 3) := by decide +kernel
theorem dX11_sold_109 : decode cX11_sold 109 = .ok (.iload 6, 2) := by decide +kernel
theorem dX11_sold_111 : decode cX11_sold 111 = .ok (.goto 5, 3) := by decide +kernel
theorem dX11_sold_114 : decode cX11_sold 114 = .ok (.iload 5, 2) := by decide +kernel
theorem dX11_sold_116 : decode cX11_sold 116 = .ok (.istore 5, 2) := by decide +kernel
theorem dX11_sold_118 : decode cX11_sold 118 = .ok (.iinc 6 1, 3) := by decide +kernel
theorem dX11_sold_121 : decode cX11_sold 121 = .ok (.goto (-36), 3) := by decide +kernel
theorem dX11_sold_124 : decode cX11_sold 124 = .ok (.iconst 0, 1) := by decide +kernel
theorem dX11_sold_125 : decode cX11_sold 125 = .ok (.istore 6, 2) := by decide +kernel
theorem dX11_sold_127 : decode cX11_sold 127 = .ok (.iconst 0, 1) := by decide +kernel
theorem dX11_sold_128 : decode cX11_sold 128 = .ok (.istore 7, 2) := by decide +kernel
theorem dX11_sold_130 : decode cX11_sold 130 = .ok (.iload 7, 2) := by decide +kernel
theorem dX11_sold_132 : decode cX11_sold 132 = .ok (.aload_n 0, 1) := by decide +kernel
theorem dX11_sold_133 : decode cX11_sold 133 = .ok (.getfield 106, 3) := by decide +kernel
theorem dX11_sold_136 : decode cX11_sold 136 = .ok (.if_icmp .ge 40, 3) := by decide +kernel
theorem dX11_sold_139 : decode cX11_sold 139 = .ok (.iload 7, 2) := by decide +kernel
theorem dX11_sold_141 : decode cX11_sold 141 = .ok (.iload 5, 2) := by decide +kernel
theorem dX11_sold_143 : decode cX11_sold 143 = .ok (.if_icmp .eq 23, 3) := by decide +kernel
theorem dX11_sold_146 : decode cX11_sold 146 = .ok (.aload_n 0, 1) := by decide +kernel
theorem dX11_sold_147 : decode cX11_sold 147 = .ok (.iload 7, 2) := by decide +kernel
theorem dX11_sold_149 : decode cX11_sold 149 = .ok (.invokevirtual 311, 3) := by decide +kernel
theorem dX11_sold_152 : decode cX11_sold 152 = .ok (.iload 6, 2) := by decide +kernel
theorem dX11_sold_154 : decode cX11_sold 154 = .ok (.if_icmp .le 12, 3) := by decide +kernel
theorem dX11_sold_157 : decode cX11_sold 157 = .ok (.aload_n 0, 1) := by decide +kernel
theorem dX11_sold_158 : decode cX11_sold 158 = .ok (.iload 7, 2) := by decide +kernel
theorem dX11_sold_160 : decode cX11_sold 160 = .ok (.invokevirtual 311, 3) := by decide +kernel
theorem dX11_sold_163 : decode cX11_sold 163 = .ok (.goto 5, 3) := by decide +kernel
theorem dX11_sold_166 : decode cX11_sold 166 = .ok (.iload 6, 2) := by decide +kernel
theorem dX11_sold_168 : decode cX11_sold 168 = .ok (.istore 6, 2) := by decide +kernel
theorem dX11_sold_170 : decode cX11_sold 170 = .ok (.iinc 7 1, 3) := by decide +kernel
theorem dX11_sold_173 : decode cX11_sold 173 = .ok (.goto (-43), 3) := by decide +kernel
theorem dX11_sold_176 : decode cX11_sold 176 = .ok (.aload_n 0, 1) := by decide +kernel
theorem dX11_sold_177 : decode cX11_sold 177 = .ok (.getfield 75, 3) := by decide +kernel
theorem dX11_sold_180 : decode cX11_sold 180 = .ok (.iload 5, 2) := by decide +kernel
theorem dX11_sold_182 : decode cX11_sold 182 = .ok (.dup2, 1) := by decide +kernel
theorem dX11_sold_183 : decode cX11_sold 183 = .ok (.iaload, 1) := by decide +kernel
theorem dX11_sold_184 : decode cX11_sold 184 = .ok (.iconst 1, 1) := by decide +kernel
theorem dX11_sold_185 : decode cX11_sold 185 = .ok (.iadd, 1) := by decide +kernel
theorem dX11_sold_186 : decode cX11_sold 186 = .ok (.iastore, 1) := by decide +kernel
theorem dX11_sold_187 : decode cX11_sold 187 = .ok (.aload_n 0, 1) := by decide +kernel
theorem dX11_sold_188 : decode cX11_sold 188 = .ok (.getfield 78, 3) := by decide +kernel
theorem dX11_sold_191 : decode cX11_sold 191 = .ok (.iload 5, 2) := by decide +kernel
theorem dX11_sold_193 : decode cX11_sold 193 = .ok (.dup2, 1) := by decide +kernel
theorem dX11_sold_194 : decode cX11_sold 194 = .ok (.iaload, 1) := by decide +kernel
theorem dX11_sold_195 : decode cX11_sold 195 = .ok (.iload 6, 2) := by decide +kernel
theorem dX11_sold_197 : decode cX11_sold 197 = .ok (.iadd, 1) := by decide +kernel
theorem dX11_sold_198 : decode cX11_sold 198 = .ok (.iastore, 1) := by decide +kernel
theorem dX11_sold_199 : decode cX11_sold 199 = .ok (.iinc 4 1, 3) := by decide +kernel
theorem dX11_sold_202 : decode cX11_sold 202 = .ok (.goto (-129), 3) := by decide +kernel
theorem dX11_sold_205 : decode cX11_sold 205 = .ok (.iload_n 3, 1) := by decide +kernel
theorem dX11_sold_206 : decode cX11_sold 206 = .ok (.ifCond .ne 12, 3) := by decide +kernel
theorem dX11_sold_209 : decode cX11_sold 209 = .ok (.aload_n 0, 1) := by decide +kernel
theorem dX11_sold_210 : decode cX11_sold 210 = .ok (.getfield 75, 3) := by decide +kernel
theorem dX11_sold_213 : decode cX11_sold 213 = .ok (.iload_n 2, 1) := by decide +kernel
theorem dX11_sold_214 : decode cX11_sold 214 = .ok (.iaload, 1) := by decide +kernel
theorem dX11_sold_215 : decode cX11_sold 215 = .ok (.goto 9, 3) := by decide +kernel
theorem dX11_sold_218 : decode cX11_sold 218 = .ok (.aload_n 0, 1) := by decide +kernel
theorem dX11_sold_219 : decode cX11_sold 219 = .ok (.getfield 78, 3) := by decide +kernel
theorem dX11_sold_222 : decode cX11_sold 222 = .ok (.iload_n 2, 1) := by decide +kernel
theorem dX11_sold_223 : decode cX11_sold 223 = .ok (.iaload, 1) := by decide +kernel
theorem dX11_sold_224 : decode cX11_sold 224 = .ok (.ireturn, 1) := by decide +kernel
theorem dX11_leads_0 : decode cX11_leads 0 = .ok (.iload_n 1, 1) := by decide +kernel
theorem dX11_leads_1 : decode cX11_leads 1 = .ok (.iload_n 2, 1) := by decide +kernel
theorem dX11_leads_2 : decode cX11_leads 2 = .ok (.if_icmp .eq 17, 3) := by decide +kernel
theorem dX11_leads_5 : decode cX11_leads 5 = .ok (.aload_n 0, 1) := by decide +kernel
theorem dX11_leads_6 : decode cX11_leads 6 = .ok (.getfield 20, 3) := by decide +kernel
theorem dX11_leads_9 : decode cX11_leads 9 = .ok (.bipush 7, 2) := by decide +kernel
theorem dX11_leads_11 : decode cX11_leads 11 = .ok (.iload_n 1, 1) := by decide +kernel
theorem dX11_leads_12 : decode cX11_leads 12 = .ok (.imul, 1) := by decide +kernel
theorem dX11_leads_13 : decode cX11_leads 13 = .ok (.iload_n 2, 1) := by decide +kernel
theorem dX11_leads_14 : decode cX11_leads 14 = .ok (.iadd, 1) := by decide +kernel
theorem dX11_leads_15 : decode cX11_leads 15 = .ok (.baload, 1) := by decide +kernel
theorem dX11_leads_16 : decode cX11_leads 16 = .ok (.ifCond .eq 7, 3) := by decide +kernel
theorem dX11_leads_19 : decode cX11_leads 19 = .ok (.iconst 1, 1) := by decide +kernel
theorem dX11_leads_20 : decode cX11_leads 20 = .ok (.goto 4, 3) := by decide +kernel
theorem dX11_leads_23 : decode cX11_leads 23 = .ok (.iconst 0, 1) := by decide +kernel
theorem dX11_leads_24 : decode cX11_leads 24 = .ok (.ireturn, 1) := by decide +kernel
theorem dX11_escapesFrom_0 : decode cX11_escapesFrom 0 = .ok (.ldc 135, 2) := by decide +kernel
theorem dX11_escapesFrom_2 : decode cX11_escapesFrom 2 = .ok (.istore 4, 2) := by decide +kernel
theorem dX11_escapesFrom_4 : decode cX11_escapesFrom 4 = .ok (.iconst 0, 1) := by decide +kernel
theorem dX11_escapesFrom_5 : decode cX11_escapesFrom 5 = .ok (.istore 5, 2) := by decide +kernel
theorem dX11_escapesFrom_7 : decode cX11_escapesFrom 7 = .ok (.iload 5, 2) := by decide +kernel
theorem dX11_escapesFrom_9 : decode cX11_escapesFrom 9 = .ok (.aload_n 0, 1) := by decide +kernel
theorem dX11_escapesFrom_10 : decode cX11_escapesFrom 10 = .ok (.getfield 99, 3) := by decide +kernel
theorem dX11_escapesFrom_13 : decode cX11_escapesFrom 13 = .ok (.if_icmp .ge 137, 3) := by decide +kernel
theorem dX11_escapesFrom_16 : decode cX11_escapesFrom 16 = .ok (.aload_n 0, 1) := by decide +kernel
theorem dX11_escapesFrom_17 : decode cX11_escapesFrom 17 = .ok (.iload_n 1, 1) := by decide +kernel
theorem dX11_escapesFrom_18 : decode cX11_escapesFrom 18 = .ok (.iload 5, 2) := by decide +kernel
theorem dX11_escapesFrom_20 : decode cX11_escapesFrom 20 = .ok (.invokevirtual 314, 3) := by decide +kernel
theorem dX11_escapesFrom_23 : decode cX11_escapesFrom 23 = .ok (.ifCond .eq 121, 3) := by decide +kernel
theorem dX11_escapesFrom_26 : decode cX11_escapesFrom 26 = .ok (.iload 5, 2) := by decide +kernel
theorem dX11_escapesFrom_28 : decode cX11_escapesFrom 28 = .ok (.iload_n 2, 1) := by decide +kernel
theorem dX11_escapesFrom_29 : decode cX11_escapesFrom 29 = .ok (.if_icmp .eq 115, 3) := by decide +kernel
theorem dX11_escapesFrom_32 : decode cX11_escapesFrom 32 = .ok (.iload 5, 2) := by decide +kernel
theorem dX11_escapesFrom_34 : decode cX11_escapesFrom 34 = .ok (.iload_n 3, 1) := by decide +kernel
theorem dX11_escapesFrom_35 : decode cX11_escapesFrom 35 = .ok (.if_icmp .ne 7, 3) := by decide +kernel
theorem dX11_escapesFrom_38 : decode cX11_escapesFrom 38 = .ok (.iconst 1, 1) := by decide +kernel
theorem dX11_escapesFrom_39 : decode cX11_escapesFrom 39 = .ok (.goto 4, 3) := by decide +kernel
theorem dX11_escapesFrom_42 : decode cX11_escapesFrom 42 = .ok (.iconst 0, 1) := by decide +kernel
theorem dX11_escapesFrom_43 : decode cX11_escapesFrom 43 = .ok (.istore 6, 2) := by decide +kernel
theorem dX11_escapesFrom_45 : decode cX11_escapesFrom 45 = .ok (.iconst 0, 1) := by decide +kernel
theorem dX11_escapesFrom_46 : decode cX11_escapesFrom 46 = .ok (.istore 7, 2) := by decide +kernel
theorem dX11_escapesFrom_48 : decode cX11_escapesFrom 48 = .ok (.iload 7, 2) := by decide +kernel
theorem dX11_escapesFrom_50 : decode cX11_escapesFrom 50 = .ok (.aload_n 0, 1) := by decide +kernel
theorem dX11_escapesFrom_51 : decode cX11_escapesFrom 51 = .ok (.getfield 99, 3) := by decide +kernel
theorem dX11_escapesFrom_54 : decode cX11_escapesFrom 54 = .ok (.if_icmp .ge 74, 3) := by decide +kernel
theorem dX11_escapesFrom_57 : decode cX11_escapesFrom 57 = .ok (.iload 5, 2) := by decide +kernel
theorem dX11_escapesFrom_59 : decode cX11_escapesFrom 59 = .ok (.iload_n 3, 1) := by decide +kernel
theorem dX11_escapesFrom_60 : decode cX11_escapesFrom 60 = .ok (.if_icmp .eq 68, 3) := by decide +kernel
theorem dX11_escapesFrom_63 : decode cX11_escapesFrom 63 = .ok (.aload_n 0, 1) := by decide +kernel
theorem dX11_escapesFrom_64 : decode cX11_escapesFrom 64 = .ok (.iload_n 2, 1) := by decide +kernel
theorem dX11_escapesFrom_65 : decode cX11_escapesFrom 65 = .ok (.iload 7, 2) := by decide +kernel
theorem dX11_escapesFrom_67 : decode cX11_escapesFrom 67 = .ok (.invokevirtual 314, 3) := by decide +kernel
theorem dX11_escapesFrom_70 : decode cX11_escapesFrom 70 = .ok (.ifCond .ne 7, 3) := by decide +kernel
theorem dX11_escapesFrom_73 : decode cX11_escapesFrom 73 = .ok (.iconst 0, 1) := by decide +kernel
theorem dX11_escapesFrom_74 : decode cX11_escapesFrom 74 = .ok (.goto 30, 3) := by decide +kernel
theorem dX11_escapesFrom_77 : decode cX11_escapesFrom 77 = .ok (.iload 7, 2) := by decide +kernel
theorem dX11_escapesFrom_79 : decode cX11_escapesFrom 79 = .ok (.iload 5, 2) := by decide +kernel
theorem dX11_escapesFrom_81 : decode cX11_escapesFrom 81 = .ok (.if_icmp .ne 8, 3) := by decide +kernel
theorem dX11_escapesFrom_84 : decode cX11_escapesFrom 84 = .ok (.ldc 135, 2) := by decide +kernel
theorem dX11_escapesFrom_86 : decode cX11_escapesFrom 86 = .ok (.goto 18, 3) := by decide +kernel
theorem dX11_escapesFrom_89 : decode cX11_escapesFrom 89 = .ok (.aload_n 0, 1) := by decide +kernel
theorem dX11_escapesFrom_90 : decode cX11_escapesFrom 90 = .ok (.getfield 81, 3) := by decide +kernel
theorem dX11_escapesFrom_93 : decode cX11_escapesFrom 93 = .ok (.bipush 7, 2) := by decide +kernel
theorem dX11_escapesFrom_95 : decode cX11_escapesFrom 95 = .ok (.iload 5, 2) := by decide +kernel
theorem dX11_escapesFrom_97 : decode cX11_escapesFrom 97 = .ok (.imul, 1) := by decide +kernel
theorem dX11_escapesFrom_98 : decode cX11_escapesFrom 98 = .ok (.iload 7, 2) := by decide +kernel
theorem dX11_escapesFrom_100 : decode cX11_escapesFrom 100 = .ok (.iadd, 1) := by decide +kernel
theorem dX11_escapesFrom_101 : decode cX11_escapesFrom 101 = .ok (.iaload, 1) := by decide +kernel
theorem dX11_escapesFrom_102 : decode cX11_escapesFrom 102 = .ok (.iconst 1, 1) := by decide +kernel
theorem dX11_escapesFrom_103 : decode cX11_escapesFrom 103 = .ok (.iadd, 1) := by decide +kernel
theorem dX11_escapesFrom_104 : decode cX11_escapesFrom 104 = .ok (.istore 8, 2) := by decide +kernel
theorem dX11_escapesFrom_106 : decode cX11_escapesFrom 106 = .ok (.iload 8, 2) := by decide +kernel
theorem dX11_escapesFrom_108 : decode cX11_escapesFrom 108 = .ok (.iload 6, 2) := by decide +kernel
theorem dX11_escapesFrom_110 : decode cX11_escapesFrom 110 = .ok (.if_icmp .le 8, 3) := by decide +kernel
theorem dX11_escapesFrom_113 : decode cX11_escapesFrom 113 = .ok (.iload 8, 2) := by decide +kernel
theorem dX11_escapesFrom_115 : decode cX11_escapesFrom 115 = .ok (.goto 5, 3) := by decide +kernel
theorem dX11_escapesFrom_118 : decode cX11_escapesFrom 118 = .ok (.iload 6, 2) := by decide +kernel
theorem dX11_escapesFrom_120 : decode cX11_escapesFrom 120 = .ok (.istore 6, 2) := by decide +kernel
theorem dX11_escapesFrom_122 : decode cX11_escapesFrom 122 = .ok (.iinc 7 1, 3) := by decide +kernel
theorem dX11_escapesFrom_125 : decode cX11_escapesFrom 125 = .ok (.goto (-77), 3) := by decide +kernel
theorem dX11_escapesFrom_128 : decode cX11_escapesFrom 128 = .ok (.iload 6, 2) := by decide +kernel
theorem dX11_escapesFrom_130 : decode cX11_escapesFrom 130 = .ok (.iload 4, 2) := by decide +kernel
theorem dX11_escapesFrom_132 : decode cX11_escapesFrom 132 = .ok (.if_icmp .ge 8, 3) := by decide +kernel
theorem dX11_escapesFrom_135 : decode cX11_escapesFrom 135 = .ok (.iload 6, 2) := by decide +kernel
theorem dX11_escapesFrom_137 : decode cX11_escapesFrom 137 = .ok (.goto 5, 3) := by decide +kernel
theorem dX11_escapesFrom_140 : decode cX11_escapesFrom 140 = .ok (.iload 4, 2) := by decide +kernel
theorem dX11_escapesFrom_142 : decode cX11_escapesFrom 142 = .ok (.istore 4, 2) := by decide +kernel
theorem dX11_escapesFrom_144 : decode cX11_escapesFrom 144 = .ok (.iinc 5 1, 3) := by decide +kernel
theorem dX11_escapesFrom_147 : decode cX11_escapesFrom 147 = .ok (.goto (-140), 3) := by decide +kernel
theorem dX11_escapesFrom_150 : decode cX11_escapesFrom 150 = .ok (.iload 4, 2) := by decide +kernel
theorem dX11_escapesFrom_152 : decode cX11_escapesFrom 152 = .ok (.ldc 135, 2) := by decide +kernel
theorem dX11_escapesFrom_154 : decode cX11_escapesFrom 154 = .ok (.if_icmp .le 8, 3) := by decide +kernel
theorem dX11_escapesFrom_157 : decode cX11_escapesFrom 157 = .ok (.ldc 135, 2) := by decide +kernel
theorem dX11_escapesFrom_159 : decode cX11_escapesFrom 159 = .ok (.goto 5, 3) := by decide +kernel
theorem dX11_escapesFrom_162 : decode cX11_escapesFrom 162 = .ok (.iload 4, 2) := by decide +kernel
theorem dX11_escapesFrom_164 : decode cX11_escapesFrom 164 = .ok (.ireturn, 1) := by decide +kernel
theorem dX11_catchesFrom_0 : decode cX11_catchesFrom 0 = .ok (.iconst 0, 1) := by decide +kernel
theorem dX11_catchesFrom_1 : decode cX11_catchesFrom 1 = .ok (.istore 4, 2) := by decide +kernel
theorem dX11_catchesFrom_3 : decode cX11_catchesFrom 3 = .ok (.iconst 0, 1) := by decide +kernel
theorem dX11_catchesFrom_4 : decode cX11_catchesFrom 4 = .ok (.istore 5, 2) := by decide +kernel
theorem dX11_catchesFrom_6 : decode cX11_catchesFrom 6 = .ok (.iload 5, 2) := by decide +kernel
theorem dX11_catchesFrom_8 : decode cX11_catchesFrom 8 = .ok (.aload_n 0, 1) := by decide +kernel
theorem dX11_catchesFrom_9 : decode cX11_catchesFrom 9 = .ok (.getfield 99, 3) := by decide +kernel
theorem dX11_catchesFrom_12 : decode cX11_catchesFrom 12 = .ok (.if_icmp .ge 138, 3) := by decide +kernel
theorem dX11_catchesFrom_15 : decode cX11_catchesFrom 15 = .ok (.aload_n 0, 1) := by decide +kernel
theorem dX11_catchesFrom_16 : decode cX11_catchesFrom 16 = .ok (.iload_n 1, 1) := by decide +kernel
theorem dX11_catchesFrom_17 : decode cX11_catchesFrom 17 = .ok (.iload 5, 2) := by decide +kernel
theorem dX11_catchesFrom_19 : decode cX11_catchesFrom 19 = .ok (.invokevirtual 314, 3) := by decide +kernel
theorem dX11_catchesFrom_22 : decode cX11_catchesFrom 22 = .ok (.ifCond .eq 122, 3) := by decide +kernel
theorem dX11_catchesFrom_25 : decode cX11_catchesFrom 25 = .ok (.iload 5, 2) := by decide +kernel
theorem dX11_catchesFrom_27 : decode cX11_catchesFrom 27 = .ok (.iload_n 2, 1) := by decide +kernel
theorem dX11_catchesFrom_28 : decode cX11_catchesFrom 28 = .ok (.if_icmp .ne 7, 3) := by decide +kernel
theorem dX11_catchesFrom_31 : decode cX11_catchesFrom 31 = .ok (.iconst 1, 1) := by decide +kernel
theorem dX11_catchesFrom_32 : decode cX11_catchesFrom 32 = .ok (.goto 5, 3) := by decide +kernel
theorem dX11_catchesFrom_35 : decode cX11_catchesFrom 35 = .ok (.ldc 135, 2) := by decide +kernel
theorem dX11_catchesFrom_37 : decode cX11_catchesFrom 37 = .ok (.istore 6, 2) := by decide +kernel
theorem dX11_catchesFrom_39 : decode cX11_catchesFrom 39 = .ok (.iconst 0, 1) := by decide +kernel
theorem dX11_catchesFrom_40 : decode cX11_catchesFrom 40 = .ok (.istore 7, 2) := by decide +kernel
theorem dX11_catchesFrom_42 : decode cX11_catchesFrom 42 = .ok (.iload 7, 2) := by decide +kernel
theorem dX11_catchesFrom_44 : decode cX11_catchesFrom 44 = .ok (.aload_n 0, 1) := by decide +kernel
theorem dX11_catchesFrom_45 : decode cX11_catchesFrom 45 = .ok (.getfield 99, 3) := by decide +kernel
theorem dX11_catchesFrom_48 : decode cX11_catchesFrom 48 = .ok (.if_icmp .ge 80, 3) := by decide +kernel
theorem dX11_catchesFrom_51 : decode cX11_catchesFrom 51 = .ok (.iload 5, 2) := by decide +kernel
theorem dX11_catchesFrom_53 : decode cX11_catchesFrom 53 = .ok (.iload_n 2, 1) := by decide +kernel
theorem dX11_catchesFrom_54 : decode cX11_catchesFrom 54 = .ok (.if_icmp .eq 74, 3) := by decide +kernel
theorem dX11_catchesFrom_57 : decode cX11_catchesFrom 57 = .ok (.iload 5, 2) := by decide +kernel
theorem dX11_catchesFrom_59 : decode cX11_catchesFrom 59 = .ok (.iload_n 3, 1) := by decide +kernel
theorem dX11_catchesFrom_60 : decode cX11_catchesFrom 60 = .ok (.if_icmp .eq 68, 3) := by decide +kernel
theorem dX11_catchesFrom_63 : decode cX11_catchesFrom 63 = .ok (.aload_n 0, 1) := by decide +kernel
theorem dX11_catchesFrom_64 : decode cX11_catchesFrom 64 = .ok (.iload_n 2, 1) := by decide +kernel
theorem dX11_catchesFrom_65 : decode cX11_catchesFrom 65 = .ok (.iload 7, 2) := by decide +kernel
theorem dX11_catchesFrom_67 : decode cX11_catchesFrom 67 = .ok (.invokevirtual 314, 3) := by decide +kernel
theorem dX11_catchesFrom_70 : decode cX11_catchesFrom 70 = .ok (.ifCond .ne 8, 3) := by decide +kernel
theorem dX11_catchesFrom_73 : decode cX11_catchesFrom 73 = .ok (.ldc 135, 2) := by decide +kernel
theorem dX11_catchesFrom_75 : decode cX11_catchesFrom 75 = .ok (.goto 29, 3) := by decide +kernel
theorem dX11_catchesFrom_78 : decode cX11_catchesFrom 78 = .ok (.iload 7, 2) := by decide +kernel
theorem dX11_catchesFrom_80 : decode cX11_catchesFrom 80 = .ok (.iload 5, 2) := by decide +kernel
theorem dX11_catchesFrom_82 : decode cX11_catchesFrom 82 = .ok (.if_icmp .ne 7, 3) := by decide +kernel
theorem dX11_catchesFrom_85 : decode cX11_catchesFrom 85 = .ok (.iconst 1, 1) := by decide +kernel
theorem dX11_catchesFrom_86 : decode cX11_catchesFrom 86 = .ok (.goto 18, 3) := by decide +kernel
theorem dX11_catchesFrom_89 : decode cX11_catchesFrom 89 = .ok (.aload_n 0, 1) := by decide +kernel
theorem dX11_catchesFrom_90 : decode cX11_catchesFrom 90 = .ok (.getfield 84, 3) := by decide +kernel
theorem dX11_catchesFrom_93 : decode cX11_catchesFrom 93 = .ok (.bipush 7, 2) := by decide +kernel
theorem dX11_catchesFrom_95 : decode cX11_catchesFrom 95 = .ok (.iload 5, 2) := by decide +kernel
theorem dX11_catchesFrom_97 : decode cX11_catchesFrom 97 = .ok (.imul, 1) := by decide +kernel
theorem dX11_catchesFrom_98 : decode cX11_catchesFrom 98 = .ok (.iload 7, 2) := by decide +kernel
theorem dX11_catchesFrom_100 : decode cX11_catchesFrom 100 = .ok (.iadd, 1) := by decide +kernel
theorem dX11_catchesFrom_101 : decode cX11_catchesFrom 101 = .ok (.iaload, 1) := by decide +kernel
theorem dX11_catchesFrom_102 : decode cX11_catchesFrom 102 = .ok (.iconst 1, 1) := by decide +kernel
theorem dX11_catchesFrom_103 : decode cX11_catchesFrom 103 = .ok (.iadd, 1) := by decide +kernel
theorem dX11_catchesFrom_104 : decode cX11_catchesFrom 104 = .ok (.istore 8, 2) := by decide +kernel
theorem dX11_catchesFrom_106 : decode cX11_catchesFrom 106 = .ok (.iload 8, 2) := by decide +kernel
theorem dX11_catchesFrom_108 : decode cX11_catchesFrom 108 = .ok (.iload 6, 2) := by decide +kernel
theorem dX11_catchesFrom_110 : decode cX11_catchesFrom 110 = .ok (.if_icmp .ge 8, 3) := by decide +kernel
theorem dX11_catchesFrom_113 : decode cX11_catchesFrom 113 = .ok (.iload 8, 2) := by decide +kernel
theorem dX11_catchesFrom_115 : decode cX11_catchesFrom 115 = .ok (.goto 5, 3) := by decide +kernel
theorem dX11_catchesFrom_118 : decode cX11_catchesFrom 118 = .ok (.iload 6, 2) := by decide +kernel
theorem dX11_catchesFrom_120 : decode cX11_catchesFrom 120 = .ok (.istore 6, 2) := by decide +kernel
theorem dX11_catchesFrom_122 : decode cX11_catchesFrom 122 = .ok (.iinc 7 1, 3) := by decide +kernel
theorem dX11_catchesFrom_125 : decode cX11_catchesFrom 125 = .ok (.goto (-83), 3) := by decide +kernel
theorem dX11_catchesFrom_128 : decode cX11_catchesFrom 128 = .ok (.iload 6, 2) := by decide +kernel
theorem dX11_catchesFrom_130 : decode cX11_catchesFrom 130 = .ok (.iload 4, 2) := by decide +kernel
theorem dX11_catchesFrom_132 : decode cX11_catchesFrom 132 = .ok (.if_icmp .le 8, 3) := by decide +kernel
theorem dX11_catchesFrom_135 : decode cX11_catchesFrom 135 = .ok (.iload 6, 2) := by decide +kernel
theorem dX11_catchesFrom_137 : decode cX11_catchesFrom 137 = .ok (.goto 5, 3) := by decide +kernel
theorem dX11_catchesFrom_140 : decode cX11_catchesFrom 140 = .ok (.iload 4, 2) := by decide +kernel
theorem dX11_catchesFrom_142 : decode cX11_catchesFrom 142 = .ok (.istore 4, 2) := by decide +kernel
theorem dX11_catchesFrom_144 : decode cX11_catchesFrom 144 = .ok (.iinc 5 1, 3) := by decide +kernel
theorem dX11_catchesFrom_147 : decode cX11_catchesFrom 147 = .ok (.goto (-141), 3) := by decide +kernel
theorem dX11_catchesFrom_150 : decode cX11_catchesFrom 150 = .ok (.iload 4, 2) := by decide +kernel
theorem dX11_catchesFrom_152 : decode cX11_catchesFrom 152 = .ok (.ldc 135, 2) := by decide +kernel
theorem dX11_catchesFrom_154 : decode cX11_catchesFrom 154 = .ok (.if_icmp .le 8, 3) := by decide +kernel
theorem dX11_catchesFrom_157 : decode cX11_catchesFrom 157 = .ok (.ldc 135, 2) := by decide +kernel
theorem dX11_catchesFrom_159 : decode cX11_catchesFrom 159 = .ok (.goto 5, 3) := by decide +kernel
theorem dX11_catchesFrom_162 : decode cX11_catchesFrom 162 = .ok (.iload 4, 2) := by decide +kernel
theorem dX11_catchesFrom_164 : decode cX11_catchesFrom 164 = .ok (.ireturn, 1) := by decide +kernel
theorem dX11_findThief_0 : decode cX11_findThief 0 = .ok (.iconst 0, 1) := by decide +kernel
theorem dX11_findThief_1 : decode cX11_findThief 1 = .ok (.istore_n 2, 1) := by decide +kernel
theorem dX11_findThief_2 : decode cX11_findThief 2 = .ok (.iload_n 2, 1) := by decide +kernel
theorem dX11_findThief_3 : decode cX11_findThief 3 = .ok (.bipush 49, 2) := by decide +kernel
theorem dX11_findThief_5 : decode cX11_findThief 5 = .ok (.if_icmp .ge 61, 3) := by decide +kernel
theorem dX11_findThief_8 : decode cX11_findThief 8 = .ok (.iload_n 2, 1) := by decide +kernel
theorem dX11_findThief_9 : decode cX11_findThief 9 = .ok (.bipush 7, 2) := by decide +kernel
theorem dX11_findThief_11 : decode cX11_findThief 11 = .ok (.idiv, 1) := by decide +kernel
theorem dX11_findThief_12 : decode cX11_findThief 12 = .ok (.istore_n 3, 1) := by decide +kernel
theorem dX11_findThief_13 : decode cX11_findThief 13 = .ok (.iload_n 2, 1) := by decide +kernel
theorem dX11_findThief_14 : decode cX11_findThief 14 = .ok (.bipush 7, 2) := by decide +kernel
theorem dX11_findThief_16 : decode cX11_findThief 16 = .ok (.irem, 1) := by decide +kernel
theorem dX11_findThief_17 : decode cX11_findThief 17 = .ok (.istore 4, 2) := by decide +kernel
theorem dX11_findThief_19 : decode cX11_findThief 19 = .ok (.aload_n 0, 1) := by decide +kernel
theorem dX11_findThief_20 : decode cX11_findThief 20 = .ok (.getfield 81, 3) := by decide +kernel
theorem dX11_findThief_23 : decode cX11_findThief 23 = .ok (.iload_n 2, 1) := by decide +kernel
theorem dX11_findThief_24 : decode cX11_findThief 24 = .ok (.iload_n 3, 1) := by decide +kernel
theorem dX11_findThief_25 : decode cX11_findThief 25 = .ok (.iload_n 1, 1) := by decide +kernel
theorem dX11_findThief_26 : decode cX11_findThief 26 = .ok (.if_icmp .ne 13, 3) := by decide +kernel
theorem dX11_findThief_29 : decode cX11_findThief 29 = .ok (.iload_n 3, 1) := by decide +kernel
theorem dX11_findThief_30 : decode cX11_findThief 30 = .ok (.iload 4, 2) := by decide +kernel
theorem dX11_findThief_32 : decode cX11_findThief 32 = .ok (.if_icmp .eq 7, 3) := by decide +kernel
theorem dX11_findThief_35 : decode cX11_findThief 35 = .ok (.iconst 0, 1) := by decide +kernel
theorem dX11_findThief_36 : decode cX11_findThief 36 = .ok (.goto 5, 3) := by decide +kernel
theorem dX11_findThief_39 : decode cX11_findThief 39 = .ok (.ldc 135, 2) := by decide +kernel
theorem dX11_findThief_41 : decode cX11_findThief 41 = .ok (.iastore, 1) := by decide +kernel
theorem dX11_findThief_42 : decode cX11_findThief 42 = .ok (.aload_n 0, 1) := by decide +kernel
theorem dX11_findThief_43 : decode cX11_findThief 43 = .ok (.getfield 84, 3) := by decide +kernel
theorem dX11_findThief_46 : decode cX11_findThief 46 = .ok (.iload_n 2, 1) := by decide +kernel
theorem dX11_findThief_47 : decode cX11_findThief 47 = .ok (.iload_n 3, 1) := by decide +kernel
theorem dX11_findThief_48 : decode cX11_findThief 48 = .ok (.iload 4, 2) := by decide +kernel
theorem dX11_findThief_50 : decode cX11_findThief 50 = .ok (.if_icmp .ne 7, 3) := by decide +kernel
theorem dX11_findThief_53 : decode cX11_findThief 53 = .ok (.iconst 0, 1) := by decide +kernel
theorem dX11_findThief_54 : decode cX11_findThief 54 = .ok (.goto 5, 3) := by decide +kernel
theorem dX11_findThief_57 : decode cX11_findThief 57 = .ok (.ldc 135, 2) := by decide +kernel
theorem dX11_findThief_59 : decode cX11_findThief 59 = .ok (.iastore, 1) := by decide +kernel
theorem dX11_findThief_60 : decode cX11_findThief 60 = .ok (.iinc 2 1, 3) := by decide +kernel
theorem dX11_findThief_63 : decode cX11_findThief 63 = .ok (.goto (-61), 3) := by decide +kernel
theorem dX11_findThief_66 : decode cX11_findThief 66 = .ok (.iconst 0, 1) := by decide +kernel
theorem dX11_findThief_67 : decode cX11_findThief 67 = .ok (.istore_n 2, 1) := by decide +kernel
theorem dX11_findThief_68 : decode cX11_findThief 68 = .ok (.iload_n 2, 1) := by decide +kernel
theorem dX11_findThief_69 : decode cX11_findThief 69 = .ok (.bipush 60, 2) := by decide +kernel
theorem dX11_findThief_71 : decode cX11_findThief 71 = .ok (.if_icmp .ge 96, 3) := by decide +kernel
theorem dX11_findThief_74 : decode cX11_findThief 74 = .ok (.iconst 0, 1) := by decide +kernel
theorem dX11_findThief_75 : decode cX11_findThief 75 = .ok (.istore_n 3, 1) := by decide +kernel
theorem dX11_findThief_76 : decode cX11_findThief 76 = .ok (.iload_n 3, 1) := by decide +kernel
theorem dX11_findThief_77 : decode cX11_findThief 77 = .ok (.bipush 49, 2) := by decide +kernel
theorem dX11_findThief_79 : decode cX11_findThief 79 = .ok (.if_icmp .ge 82, 3) := by decide +kernel
theorem dX11_findThief_82 : decode cX11_findThief 82 = .ok (.iload_n 3, 1) := by decide +kernel
theorem dX11_findThief_83 : decode cX11_findThief 83 = .ok (.bipush 7, 2) := by decide +kernel
theorem dX11_findThief_85 : decode cX11_findThief 85 = .ok (.idiv, 1) := by decide +kernel
theorem dX11_findThief_86 : decode cX11_findThief 86 = .ok (.istore 4, 2) := by decide +kernel
theorem dX11_findThief_88 : decode cX11_findThief 88 = .ok (.iload_n 3, 1) := by decide +kernel
theorem dX11_findThief_89 : decode cX11_findThief 89 = .ok (.bipush 7, 2) := by decide +kernel
theorem dX11_findThief_91 : decode cX11_findThief 91 = .ok (.irem, 1) := by decide +kernel
theorem dX11_findThief_92 : decode cX11_findThief 92 = .ok (.istore 5, 2) := by decide +kernel
theorem dX11_findThief_94 : decode cX11_findThief 94 = .ok (.iload 4, 2) := by decide +kernel
theorem dX11_findThief_96 : decode cX11_findThief 96 = .ok (.aload_n 0, 1) := by decide +kernel
theorem dX11_findThief_97 : decode cX11_findThief 97 = .ok (.getfield 99, 3) := by decide +kernel
theorem dX11_findThief_100 : decode cX11_findThief 100 = .ok (.if_icmp .ge 55, 3) := by decide +kernel
theorem dX11_findThief_103 : decode cX11_findThief 103 = .ok (.iload 5, 2) := by decide +kernel
theorem dX11_findThief_105 : decode cX11_findThief 105 = .ok (.aload_n 0, 1) := by decide +kernel
theorem dX11_findThief_106 : decode cX11_findThief 106 = .ok (.getfield 99, 3) := by decide +kernel
theorem dX11_findThief_109 : decode cX11_findThief 109 = .ok (.if_icmp .ge 46, 3) := by decide +kernel
theorem dX11_findThief_112 : decode cX11_findThief 112 = .ok (.iload 4, 2) := by decide +kernel
theorem dX11_findThief_114 : decode cX11_findThief 114 = .ok (.iload 5, 2) := by decide +kernel
theorem dX11_findThief_116 : decode cX11_findThief 116 = .ok (.if_icmp .eq 39, 3) := by decide +kernel
theorem dX11_findThief_119 : decode cX11_findThief 119 = .ok (.iload 4, 2) := by decide +kernel
theorem dX11_findThief_121 : decode cX11_findThief 121 = .ok (.iload_n 1, 1) := by decide +kernel
theorem dX11_findThief_122 : decode cX11_findThief 122 = .ok (.if_icmp .eq 33, 3) := by decide +kernel
theorem dX11_findThief_125 : decode cX11_findThief 125 = .ok (.aload_n 0, 1) := by decide +kernel
theorem dX11_findThief_126 : decode cX11_findThief 126 = .ok (.getfield 81, 3) := by decide +kernel
theorem dX11_findThief_129 : decode cX11_findThief 129 = .ok (.iload_n 3, 1) := by decide +kernel
theorem dX11_findThief_130 : decode cX11_findThief 130 = .ok (.aload_n 0, 1) := by decide +kernel
theorem dX11_findThief_131 : decode cX11_findThief 131 = .ok (.iload 4, 2) := by decide +kernel
theorem dX11_findThief_133 : decode cX11_findThief 133 = .ok (.iload 5, 2) := by decide +kernel
theorem dX11_findThief_135 : decode cX11_findThief 135 = .ok (.iload_n 1, 1) := by decide +kernel
theorem dX11_findThief_136 : decode cX11_findThief 136 = .ok (.invokevirtual 317, 3) := by decide +kernel
theorem dX11_findThief_139 : decode cX11_findThief 139 = .ok (.iastore, 1) := by decide +kernel
theorem dX11_findThief_140 : decode cX11_findThief 140 = .ok (.aload_n 0, 1) := by decide +kernel
theorem dX11_findThief_141 : decode cX11_findThief 141 = .ok (.getfield 84, 3) := by decide +kernel
theorem dX11_findThief_144 : decode cX11_findThief 144 = .ok (.iload_n 3, 1) := by decide +kernel
theorem dX11_findThief_145 : decode cX11_findThief 145 = .ok (.aload_n 0, 1) := by decide +kernel
theorem dX11_findThief_146 : decode cX11_findThief 146 = .ok (.iload 4, 2) := by decide +kernel
theorem dX11_findThief_148 : decode cX11_findThief 148 = .ok (.iload 5, 2) := by decide +kernel
theorem dX11_findThief_150 : decode cX11_findThief 150 = .ok (.iload_n 1, 1) := by decide +kernel
theorem dX11_findThief_151 : decode cX11_findThief 151 = .ok (.invokevirtual 320, 3) := by decide +kernel
theorem dX11_findThief_154 : decode cX11_findThief 154 = .ok (.iastore, 1) := by decide +kernel
theorem dX11_findThief_155 : decode cX11_findThief 155 = .ok (.iinc 3 1, 3) := by decide +kernel
theorem dX11_findThief_158 : decode cX11_findThief 158 = .ok (.goto (-82), 3) := by decide +kernel
theorem dX11_findThief_161 : decode cX11_findThief 161 = .ok (.iinc 2 1, 3) := by decide +kernel
theorem dX11_findThief_164 : decode cX11_findThief 164 = .ok (.goto (-96), 3) := by decide +kernel
theorem dX11_findThief_167 : decode cX11_findThief 167 = .ok (.return_, 1) := by decide +kernel
theorem dX11_thief_0 : decode cX11_thief 0 = .ok (.aload_n 0, 1) := by decide +kernel
theorem dX11_thief_1 : decode cX11_thief 1 = .ok (.iload_n 1, 1) := by decide +kernel
theorem dX11_thief_2 : decode cX11_thief 2 = .ok (.invokevirtual 228, 3) := by decide +kernel
theorem dX11_thief_5 : decode cX11_thief 5 = .ok (.ifCond .eq 19, 3) := by decide +kernel
theorem dX11_thief_8 : decode cX11_thief 8 = .ok (.aload_n 0, 1) := by decide +kernel
theorem dX11_thief_9 : decode cX11_thief 9 = .ok (.iload_n 2, 1) := by decide +kernel
theorem dX11_thief_10 : decode cX11_thief 10 = .ok (.invokevirtual 228, 3) := by decide +kernel
theorem dX11_thief_13 : decode cX11_thief 13 = .ok (.ifCond .eq 11, 3) := by decide +kernel
theorem dX11_thief_16 : decode cX11_thief 16 = .ok (.aload_n 0, 1) := by decide +kernel
theorem dX11_thief_17 : decode cX11_thief 17 = .ok (.iload_n 3, 1) := by decide +kernel
theorem dX11_thief_18 : decode cX11_thief 18 = .ok (.invokevirtual 228, 3) := by decide +kernel
theorem dX11_thief_21 : decode cX11_thief 21 = .ok (.ifCond .ne 6, 3) := by decide +kernel
theorem dX11_thief_24 : decode cX11_thief 24 = .ok (.ldc 235, 2) := by decide +kernel
theorem dX11_thief_26 : decode cX11_thief 26 = .ok (.ireturn, 1) := by decide +kernel
theorem dX11_thief_27 : decode cX11_thief 27 = .ok (.iload 4, 2) := by decide +kernel
theorem dX11_thief_29 : decode cX11_thief 29 = .ok (.i2l, 1) := by decide +kernel
theorem dX11_thief_30 : decode cX11_thief 30 = .ok (.lconst 0, 1) := by decide +kernel
theorem dX11_thief_31 : decode cX11_thief 31 = .ok (.lconst 1, 1) := by decide +kernel
theorem dX11_thief_32 : decode cX11_thief 32 = .ok (.invokestatic 102, 3) := by decide +kernel
theorem dX11_thief_35 : decode cX11_thief 35 = .ok (.ifCond .ne 6, 3) := by decide +kernel
theorem dX11_thief_38 : decode cX11_thief 38 = .ok (.ldc 114, 2) := by decide +kernel
theorem dX11_thief_40 : decode cX11_thief 40 = .ok (.ireturn, 1) := by decide +kernel
theorem dX11_thief_41 : decode cX11_thief 41 = .ok (.aload_n 0, 1) := by decide +kernel
theorem dX11_thief_42 : decode cX11_thief 42 = .ok (.iload_n 3, 1) := by decide +kernel
theorem dX11_thief_43 : decode cX11_thief 43 = .ok (.invokevirtual 323, 3) := by decide +kernel
theorem dX11_thief_46 : decode cX11_thief 46 = .ok (.bipush 7, 2) := by decide +kernel
theorem dX11_thief_48 : decode cX11_thief 48 = .ok (.iload_n 1, 1) := by decide +kernel
theorem dX11_thief_49 : decode cX11_thief 49 = .ok (.imul, 1) := by decide +kernel
theorem dX11_thief_50 : decode cX11_thief 50 = .ok (.iload_n 2, 1) := by decide +kernel
theorem dX11_thief_51 : decode cX11_thief 51 = .ok (.iadd, 1) := by decide +kernel
theorem dX11_thief_52 : decode cX11_thief 52 = .ok (.istore 5, 2) := by decide +kernel
theorem dX11_thief_54 : decode cX11_thief 54 = .ok (.aload_n 0, 1) := by decide +kernel
theorem dX11_thief_55 : decode cX11_thief 55 = .ok (.getfield 81, 3) := by decide +kernel
theorem dX11_thief_58 : decode cX11_thief 58 = .ok (.iload 5, 2) := by decide +kernel
theorem dX11_thief_60 : decode cX11_thief 60 = .ok (.iaload, 1) := by decide +kernel
theorem dX11_thief_61 : decode cX11_thief 61 = .ok (.ldc 135, 2) := by decide +kernel
theorem dX11_thief_63 : decode cX11_thief 63 = .ok (.if_icmp .ge 7, 3) := by decide +kernel
theorem dX11_thief_66 : decode cX11_thief 66 = .ok (.iconst 1, 1) := by decide +kernel
theorem dX11_thief_67 : decode cX11_thief 67 = .ok (.goto 20, 3) := by decide +kernel
theorem dX11_thief_70 : decode cX11_thief 70 = .ok (.aload_n 0, 1) := by decide +kernel
theorem dX11_thief_71 : decode cX11_thief 71 = .ok (.getfield 84, 3) := by decide +kernel
theorem dX11_thief_74 : decode cX11_thief 74 = .ok (.iload 5, 2) := by decide +kernel
theorem dX11_thief_76 : decode cX11_thief 76 = .ok (.iaload, 1) := by decide +kernel
theorem dX11_thief_77 : decode cX11_thief 77 = .ok (.ldc 135, 2) := by decide +kernel
theorem dX11_thief_79 : decode cX11_thief 79 = .ok (.if_icmp .ge 7, 3) := by decide +kernel
theorem dX11_thief_82 : decode cX11_thief 82 = .ok (.iconst 2, 1) := by decide +kernel
theorem dX11_thief_83 : decode cX11_thief 83 = .ok (.goto 4, 3) := by decide +kernel
theorem dX11_thief_86 : decode cX11_thief 86 = .ok (.iconst 0, 1) := by decide +kernel
theorem dX11_thief_87 : decode cX11_thief 87 = .ok (.istore 6, 2) := by decide +kernel
theorem dX11_thief_89 : decode cX11_thief 89 = .ok (.iload 4, 2) := by decide +kernel
theorem dX11_thief_91 : decode cX11_thief 91 = .ok (.ifCond .ne 8, 3) := by decide +kernel
theorem dX11_thief_94 : decode cX11_thief 94 = .ok (.iload 6, 2) := by decide +kernel
theorem dX11_thief_96 : decode cX11_thief 96 = .ok (.goto 36, 3) := by decide +kernel
theorem dX11_thief_99 : decode cX11_thief 99 = .ok (.iload 6, 2) := by decide +kernel
theorem dX11_thief_101 : decode cX11_thief 101 = .ok (.iconst 1, 1) := by decide +kernel
theorem dX11_thief_102 : decode cX11_thief 102 = .ok (.if_icmp .ne 13, 3) := by decide +kernel
theorem dX11_thief_105 : decode cX11_thief 105 = .ok (.aload_n 0, 1) := by decide +kernel
theorem dX11_thief_106 : decode cX11_thief 106 = .ok (.getfield 81, 3) := by decide +kernel
theorem dX11_thief_109 : decode cX11_thief 109 = .ok (.iload 5, 2) := by decide +kernel
theorem dX11_thief_111 : decode cX11_thief 111 = .ok (.iaload, 1) := by decide +kernel
theorem dX11_thief_112 : decode cX11_thief 112 = .ok (.goto 20, 3) := by decide +kernel
theorem dX11_thief_115 : decode cX11_thief 115 = .ok (.iload 6, 2) := by decide +kernel
theorem dX11_thief_117 : decode cX11_thief 117 = .ok (.iconst 2, 1) := by decide +kernel
theorem dX11_thief_118 : decode cX11_thief 118 = .ok (.if_icmp .ne 13, 3) := by decide +kernel
theorem dX11_thief_121 : decode cX11_thief 121 = .ok (.aload_n 0, 1) := by decide +kernel
theorem dX11_thief_122 : decode cX11_thief 122 = .ok (.getfield 84, 3) := by decide +kernel
theorem dX11_thief_125 : decode cX11_thief 125 = .ok (.iload 5, 2) := by decide +kernel
theorem dX11_thief_127 : decode cX11_thief 127 = .ok (.iaload, 1) := by decide +kernel
theorem dX11_thief_128 : decode cX11_thief 128 = .ok (.goto 4, 3) := by decide +kernel
theorem dX11_thief_131 : decode cX11_thief 131 = .ok (.iconst (-1), 1) := by decide +kernel
theorem dX11_thief_132 : decode cX11_thief 132 = .ok (.ireturn, 1) := by decide +kernel
theorem dX11_deedsOf_0 : decode cX11_deedsOf 0 = .ok (.iconst 0, 1) := by decide +kernel
theorem dX11_deedsOf_1 : decode cX11_deedsOf 1 = .ok (.istore_n 2, 1) := by decide +kernel
theorem dX11_deedsOf_2 : decode cX11_deedsOf 2 = .ok (.iconst 0, 1) := by decide +kernel
theorem dX11_deedsOf_3 : decode cX11_deedsOf 3 = .ok (.istore_n 3, 1) := by decide +kernel
theorem dX11_deedsOf_4 : decode cX11_deedsOf 4 = .ok (.iload_n 3, 1) := by decide +kernel
theorem dX11_deedsOf_5 : decode cX11_deedsOf 5 = .ok (.aload_n 0, 1) := by decide +kernel
theorem dX11_deedsOf_6 : decode cX11_deedsOf 6 = .ok (.getfield 109, 3) := by decide +kernel
theorem dX11_deedsOf_9 : decode cX11_deedsOf 9 = .ok (.if_icmp .ge 31, 3) := by decide +kernel
theorem dX11_deedsOf_12 : decode cX11_deedsOf 12 = .ok (.iload_n 2, 1) := by decide +kernel
theorem dX11_deedsOf_13 : decode cX11_deedsOf 13 = .ok (.aload_n 0, 1) := by decide +kernel
theorem dX11_deedsOf_14 : decode cX11_deedsOf 14 = .ok (.getfield 30, 3) := by decide +kernel
theorem dX11_deedsOf_17 : decode cX11_deedsOf 17 = .ok (.iconst 5, 1) := by decide +kernel
theorem dX11_deedsOf_18 : decode cX11_deedsOf 18 = .ok (.iload_n 3, 1) := by decide +kernel
theorem dX11_deedsOf_19 : decode cX11_deedsOf 19 = .ok (.imul, 1) := by decide +kernel
theorem dX11_deedsOf_20 : decode cX11_deedsOf 20 = .ok (.iaload, 1) := by decide +kernel
theorem dX11_deedsOf_21 : decode cX11_deedsOf 21 = .ok (.iload_n 1, 1) := by decide +kernel
theorem dX11_deedsOf_22 : decode cX11_deedsOf 22 = .ok (.if_icmp .ne 9, 3) := by decide +kernel
theorem dX11_deedsOf_25 : decode cX11_deedsOf 25 = .ok (.iconst 1, 1) := by decide +kernel
theorem dX11_deedsOf_26 : decode cX11_deedsOf 26 = .ok (.iload_n 3, 1) := by decide +kernel
theorem dX11_deedsOf_27 : decode cX11_deedsOf 27 = .ok (.ishl, 1) := by decide +kernel
theorem dX11_deedsOf_28 : decode cX11_deedsOf 28 = .ok (.goto 4, 3) := by decide +kernel
theorem dX11_deedsOf_31 : decode cX11_deedsOf 31 = .ok (.iconst 0, 1) := by decide +kernel
theorem dX11_deedsOf_32 : decode cX11_deedsOf 32 = .ok (.ior, 1) := by decide +kernel
theorem dX11_deedsOf_33 : decode cX11_deedsOf 33 = .ok (.istore_n 2, 1) := by decide +kernel
theorem dX11_deedsOf_34 : decode cX11_deedsOf 34 = .ok (.iinc 3 1, 3) := by decide +kernel
theorem dX11_deedsOf_37 : decode cX11_deedsOf 37 = .ok (.goto (-33), 3) := by decide +kernel
theorem dX11_deedsOf_40 : decode cX11_deedsOf 40 = .ok (.iload_n 2, 1) := by decide +kernel
theorem dX11_deedsOf_41 : decode cX11_deedsOf 41 = .ok (.ireturn, 1) := by decide +kernel
theorem dX11_voteOf_0 : decode cX11_voteOf 0 = .ok (.aload_n 0, 1) := by decide +kernel
theorem dX11_voteOf_1 : decode cX11_voteOf 1 = .ok (.iload_n 1, 1) := by decide +kernel
theorem dX11_voteOf_2 : decode cX11_voteOf 2 = .ok (.invokevirtual 326, 3) := by decide +kernel
theorem dX11_voteOf_5 : decode cX11_voteOf 5 = .ok (.aload_n 0, 1) := by decide +kernel
theorem dX11_voteOf_6 : decode cX11_voteOf 6 = .ok (.iconst 0, 1) := by decide +kernel
theorem dX11_voteOf_7 : decode cX11_voteOf 7 = .ok (.invokevirtual 222, 3) := by decide +kernel
theorem dX11_voteOf_10 : decode cX11_voteOf 10 = .ok (.iand, 1) := by decide +kernel
theorem dX11_voteOf_11 : decode cX11_voteOf 11 = .ok (.istore_n 2, 1) := by decide +kernel
theorem dX11_voteOf_12 : decode cX11_voteOf 12 = .ok (.iconst (-1), 1) := by decide +kernel
theorem dX11_voteOf_13 : decode cX11_voteOf 13 = .ok (.istore_n 3, 1) := by decide +kernel
theorem dX11_voteOf_14 : decode cX11_voteOf 14 = .ok (.iconst 0, 1) := by decide +kernel
theorem dX11_voteOf_15 : decode cX11_voteOf 15 = .ok (.istore 4, 2) := by decide +kernel
theorem dX11_voteOf_17 : decode cX11_voteOf 17 = .ok (.iconst 0, 1) := by decide +kernel
theorem dX11_voteOf_18 : decode cX11_voteOf 18 = .ok (.istore 5, 2) := by decide +kernel
theorem dX11_voteOf_20 : decode cX11_voteOf 20 = .ok (.iload 5, 2) := by decide +kernel
theorem dX11_voteOf_22 : decode cX11_voteOf 22 = .ok (.aload_n 0, 1) := by decide +kernel
theorem dX11_voteOf_23 : decode cX11_voteOf 23 = .ok (.getfield 203, 3) := by decide +kernel
theorem dX11_voteOf_26 : decode cX11_voteOf 26 = .ok (.if_icmp .ge 54, 3) := by decide +kernel
theorem dX11_voteOf_29 : decode cX11_voteOf 29 = .ok (.aload_n 0, 1) := by decide +kernel
theorem dX11_voteOf_30 : decode cX11_voteOf 30 = .ok (.iload_n 2, 1) := by decide +kernel
theorem dX11_voteOf_31 : decode cX11_voteOf 31 = .ok (.aload_n 0, 1) := by decide +kernel
theorem dX11_voteOf_32 : decode cX11_voteOf 32 = .ok (.getfield 36, 3) := by decide +kernel
theorem dX11_voteOf_35 : decode cX11_voteOf 35 = .ok (.iload 5, 2) := by decide +kernel
theorem dX11_voteOf_37 : decode cX11_voteOf 37 = .ok (.iaload, 1) := by decide +kernel
theorem dX11_voteOf_38 : decode cX11_voteOf 38 = .ok (.iand, 1) := by decide +kernel
theorem dX11_voteOf_39 : decode cX11_voteOf 39 = .ok (.invokevirtual 225, 3) := by decide +kernel
theorem dX11_voteOf_42 : decode cX11_voteOf 42 = .ok (.istore 6, 2) := by decide +kernel
theorem dX11_voteOf_44 : decode cX11_voteOf 44 = .ok (.iload 6, 2) := by decide +kernel
theorem dX11_voteOf_46 : decode cX11_voteOf 46 = .ok (.iload 4, 2) := by decide +kernel
theorem dX11_voteOf_48 : decode cX11_voteOf 48 = .ok (.if_icmp .le 8, 3) := by decide +kernel
theorem dX11_voteOf_51 : decode cX11_voteOf 51 = .ok (.iload 5, 2) := by decide +kernel
theorem dX11_voteOf_53 : decode cX11_voteOf 53 = .ok (.goto 4, 3) := by decide +kernel
theorem dX11_voteOf_56 : decode cX11_voteOf 56 = .ok (.iload_n 3, 1) := by decide +kernel
theorem dX11_voteOf_57 : decode cX11_voteOf 57 = .ok (.istore_n 3, 1) := by decide +kernel
theorem dX11_voteOf_58 : decode cX11_voteOf 58 = .ok (.iload 6, 2) := by decide +kernel
theorem dX11_voteOf_60 : decode cX11_voteOf 60 = .ok (.iload 4, 2) := by decide +kernel
theorem dX11_voteOf_62 : decode cX11_voteOf 62 = .ok (.if_icmp .le 8, 3) := by decide +kernel
theorem dX11_voteOf_65 : decode cX11_voteOf 65 = .ok (.iload 6, 2) := by decide +kernel
theorem dX11_voteOf_67 : decode cX11_voteOf 67 = .ok (.goto 5, 3) := by decide +kernel
theorem dX11_voteOf_70 : decode cX11_voteOf 70 = .ok (.iload 4, 2) := by decide +kernel
theorem dX11_voteOf_72 : decode cX11_voteOf 72 = .ok (.istore 4, 2) := by decide +kernel
theorem dX11_voteOf_74 : decode cX11_voteOf 74 = .ok (.iinc 5 1, 3) := by decide +kernel
theorem dX11_voteOf_77 : decode cX11_voteOf 77 = .ok (.goto (-57), 3) := by decide +kernel
theorem dX11_voteOf_80 : decode cX11_voteOf 80 = .ok (.iload_n 3, 1) := by decide +kernel
theorem dX11_voteOf_81 : decode cX11_voteOf 81 = .ok (.ireturn, 1) := by decide +kernel
theorem dX11_votesFor_0 : decode cX11_votesFor 0 = .ok (.iconst 0, 1) := by decide +kernel
theorem dX11_votesFor_1 : decode cX11_votesFor 1 = .ok (.istore_n 2, 1) := by decide +kernel
theorem dX11_votesFor_2 : decode cX11_votesFor 2 = .ok (.iconst 0, 1) := by decide +kernel
theorem dX11_votesFor_3 : decode cX11_votesFor 3 = .ok (.istore_n 3, 1) := by decide +kernel
theorem dX11_votesFor_4 : decode cX11_votesFor 4 = .ok (.iload_n 3, 1) := by decide +kernel
theorem dX11_votesFor_5 : decode cX11_votesFor 5 = .ok (.aload_n 0, 1) := by decide +kernel
theorem dX11_votesFor_6 : decode cX11_votesFor 6 = .ok (.getfield 106, 3) := by decide +kernel
theorem dX11_votesFor_9 : decode cX11_votesFor 9 = .ok (.if_icmp .ge 26, 3) := by decide +kernel
theorem dX11_votesFor_12 : decode cX11_votesFor 12 = .ok (.iload_n 2, 1) := by decide +kernel
theorem dX11_votesFor_13 : decode cX11_votesFor 13 = .ok (.aload_n 0, 1) := by decide +kernel
theorem dX11_votesFor_14 : decode cX11_votesFor 14 = .ok (.iload_n 3, 1) := by decide +kernel
theorem dX11_votesFor_15 : decode cX11_votesFor 15 = .ok (.invokevirtual 329, 3) := by decide +kernel
theorem dX11_votesFor_18 : decode cX11_votesFor 18 = .ok (.iload_n 1, 1) := by decide +kernel
theorem dX11_votesFor_19 : decode cX11_votesFor 19 = .ok (.if_icmp .ne 7, 3) := by decide +kernel
theorem dX11_votesFor_22 : decode cX11_votesFor 22 = .ok (.iconst 1, 1) := by decide +kernel
theorem dX11_votesFor_23 : decode cX11_votesFor 23 = .ok (.goto 4, 3) := by decide +kernel
theorem dX11_votesFor_26 : decode cX11_votesFor 26 = .ok (.iconst 0, 1) := by decide +kernel
theorem dX11_votesFor_27 : decode cX11_votesFor 27 = .ok (.iadd, 1) := by decide +kernel
theorem dX11_votesFor_28 : decode cX11_votesFor 28 = .ok (.istore_n 2, 1) := by decide +kernel
theorem dX11_votesFor_29 : decode cX11_votesFor 29 = .ok (.iinc 3 1, 3) := by decide +kernel
theorem dX11_votesFor_32 : decode cX11_votesFor 32 = .ok (.goto (-28), 3) := by decide +kernel
theorem dX11_votesFor_35 : decode cX11_votesFor 35 = .ok (.iload_n 2, 1) := by decide +kernel
theorem dX11_votesFor_36 : decode cX11_votesFor 36 = .ok (.ireturn, 1) := by decide +kernel
theorem dX11_vote_0 : decode cX11_vote 0 = .ok (.iload_n 1, 1) := by decide +kernel
theorem dX11_vote_1 : decode cX11_vote 1 = .ok (.i2l, 1) := by decide +kernel
theorem dX11_vote_2 : decode cX11_vote 2 = .ok (.ldc2_w 332, 3) := by decide +kernel
theorem dX11_vote_5 : decode cX11_vote 5 = .ok (.aload_n 0, 1) := by decide +kernel
theorem dX11_vote_6 : decode cX11_vote 6 = .ok (.getfield 203, 3) := by decide +kernel
theorem dX11_vote_9 : decode cX11_vote 9 = .ok (.iconst 1, 1) := by decide +kernel
theorem dX11_vote_10 : decode cX11_vote 10 = .ok (.isub, 1) := by decide +kernel
theorem dX11_vote_11 : decode cX11_vote 11 = .ok (.i2l, 1) := by decide +kernel
theorem dX11_vote_12 : decode cX11_vote 12 = .ok (.invokestatic 102, 3) := by decide +kernel
theorem dX11_vote_15 : decode cX11_vote 15 = .ok (.ifCond .ne 6, 3) := by decide +kernel
theorem dX11_vote_18 : decode cX11_vote 18 = .ok (.ldc 235, 2) := by decide +kernel
theorem dX11_vote_20 : decode cX11_vote 20 = .ok (.ireturn, 1) := by decide +kernel
theorem dX11_vote_21 : decode cX11_vote 21 = .ok (.iload_n 1, 1) := by decide +kernel
theorem dX11_vote_22 : decode cX11_vote 22 = .ok (.ifCond .lt 9, 3) := by decide +kernel
theorem dX11_vote_25 : decode cX11_vote 25 = .ok (.aload_n 0, 1) := by decide +kernel
theorem dX11_vote_26 : decode cX11_vote 26 = .ok (.iload_n 1, 1) := by decide +kernel
theorem dX11_vote_27 : decode cX11_vote 27 = .ok (.invokevirtual 334, 3) := by decide +kernel
theorem dX11_vote_30 : decode cX11_vote 30 = .ok (.ireturn, 1) := by decide +kernel
theorem dX11_vote_31 : decode cX11_vote 31 = .ok (.iconst (-1), 1) := by decide +kernel
theorem dX11_vote_32 : decode cX11_vote 32 = .ok (.istore_n 2, 1) := by decide +kernel
theorem dX11_vote_33 : decode cX11_vote 33 = .ok (.iconst 0, 1) := by decide +kernel
theorem dX11_vote_34 : decode cX11_vote 34 = .ok (.istore_n 3, 1) := by decide +kernel
theorem dX11_vote_35 : decode cX11_vote 35 = .ok (.iconst 0, 1) := by decide +kernel
theorem dX11_vote_36 : decode cX11_vote 36 = .ok (.istore 4, 2) := by decide +kernel
theorem dX11_vote_38 : decode cX11_vote 38 = .ok (.iload 4, 2) := by decide +kernel
theorem dX11_vote_40 : decode cX11_vote 40 = .ok (.aload_n 0, 1) := by decide +kernel
theorem dX11_vote_41 : decode cX11_vote 41 = .ok (.getfield 203, 3) := by decide +kernel
theorem dX11_vote_44 : decode cX11_vote 44 = .ok (.if_icmp .ge 43, 3) := by decide +kernel
theorem dX11_vote_47 : decode cX11_vote 47 = .ok (.aload_n 0, 1) := by decide +kernel
theorem dX11_vote_48 : decode cX11_vote 48 = .ok (.iload 4, 2) := by decide +kernel
theorem dX11_vote_50 : decode cX11_vote 50 = .ok (.invokevirtual 334, 3) := by decide +kernel
theorem dX11_vote_53 : decode cX11_vote 53 = .ok (.istore 5, 2) := by decide +kernel
theorem dX11_vote_55 : decode cX11_vote 55 = .ok (.iload 5, 2) := by decide +kernel
theorem dX11_vote_57 : decode cX11_vote 57 = .ok (.iload_n 3, 1) := by decide +kernel
theorem dX11_vote_58 : decode cX11_vote 58 = .ok (.if_icmp .le 8, 3) := by decide +kernel
theorem dX11_vote_61 : decode cX11_vote 61 = .ok (.iload 4, 2) := by decide +kernel
theorem dX11_vote_63 : decode cX11_vote 63 = .ok (.goto 4, 3) := by decide +kernel
theorem dX11_vote_66 : decode cX11_vote 66 = .ok (.iload_n 2, 1) := by decide +kernel
theorem dX11_vote_67 : decode cX11_vote 67 = .ok (.istore_n 2, 1) := by decide +kernel
theorem dX11_vote_68 : decode cX11_vote 68 = .ok (.iload 5, 2) := by decide +kernel
theorem dX11_vote_70 : decode cX11_vote 70 = .ok (.iload_n 3, 1) := by decide +kernel
theorem dX11_vote_71 : decode cX11_vote 71 = .ok (.if_icmp .le 8, 3) := by decide +kernel
theorem dX11_vote_74 : decode cX11_vote 74 = .ok (.iload 5, 2) := by decide +kernel
theorem dX11_vote_76 : decode cX11_vote 76 = .ok (.goto 4, 3) := by decide +kernel
theorem dX11_vote_79 : decode cX11_vote 79 = .ok (.iload_n 3, 1) := by decide +kernel
theorem dX11_vote_80 : decode cX11_vote 80 = .ok (.istore_n 3, 1) := by decide +kernel
theorem dX11_vote_81 : decode cX11_vote 81 = .ok (.iinc 4 1, 3) := by decide +kernel
theorem dX11_vote_84 : decode cX11_vote 84 = .ok (.goto (-46), 3) := by decide +kernel
theorem dX11_vote_87 : decode cX11_vote 87 = .ok (.iload_n 2, 1) := by decide +kernel
theorem dX11_vote_88 : decode cX11_vote 88 = .ok (.ireturn, 1) := by decide +kernel
theorem dX11_bestWord_0 : decode cX11_bestWord 0 = .ok (.iconst (-1), 1) := by decide +kernel
theorem dX11_bestWord_1 : decode cX11_bestWord 1 = .ok (.istore_n 1, 1) := by decide +kernel
theorem dX11_bestWord_2 : decode cX11_bestWord 2 = .ok (.iconst (-1), 1) := by decide +kernel
theorem dX11_bestWord_3 : decode cX11_bestWord 3 = .ok (.istore_n 2, 1) := by decide +kernel
theorem dX11_bestWord_4 : decode cX11_bestWord 4 = .ok (.iconst 0, 1) := by decide +kernel
theorem dX11_bestWord_5 : decode cX11_bestWord 5 = .ok (.istore_n 3, 1) := by decide +kernel
theorem dX11_bestWord_6 : decode cX11_bestWord 6 = .ok (.iload_n 3, 1) := by decide +kernel
theorem dX11_bestWord_7 : decode cX11_bestWord 7 = .ok (.aload_n 0, 1) := by decide +kernel
theorem dX11_bestWord_8 : decode cX11_bestWord 8 = .ok (.getfield 203, 3) := by decide +kernel
theorem dX11_bestWord_11 : decode cX11_bestWord 11 = .ok (.if_icmp .ge 52, 3) := by decide +kernel
theorem dX11_bestWord_14 : decode cX11_bestWord 14 = .ok (.aload_n 0, 1) := by decide +kernel
theorem dX11_bestWord_15 : decode cX11_bestWord 15 = .ok (.aload_n 0, 1) := by decide +kernel
theorem dX11_bestWord_16 : decode cX11_bestWord 16 = .ok (.getfield 36, 3) := by decide +kernel
theorem dX11_bestWord_19 : decode cX11_bestWord 19 = .ok (.iload_n 3, 1) := by decide +kernel
theorem dX11_bestWord_20 : decode cX11_bestWord 20 = .ok (.iaload, 1) := by decide +kernel
theorem dX11_bestWord_21 : decode cX11_bestWord 21 = .ok (.aload_n 0, 1) := by decide +kernel
theorem dX11_bestWord_22 : decode cX11_bestWord 22 = .ok (.iconst 0, 1) := by decide +kernel
theorem dX11_bestWord_23 : decode cX11_bestWord 23 = .ok (.invokevirtual 222, 3) := by decide +kernel
theorem dX11_bestWord_26 : decode cX11_bestWord 26 = .ok (.iand, 1) := by decide +kernel
theorem dX11_bestWord_27 : decode cX11_bestWord 27 = .ok (.invokevirtual 225, 3) := by decide +kernel
theorem dX11_bestWord_30 : decode cX11_bestWord 30 = .ok (.istore 4, 2) := by decide +kernel
theorem dX11_bestWord_32 : decode cX11_bestWord 32 = .ok (.iload 4, 2) := by decide +kernel
theorem dX11_bestWord_34 : decode cX11_bestWord 34 = .ok (.iload_n 2, 1) := by decide +kernel
theorem dX11_bestWord_35 : decode cX11_bestWord 35 = .ok (.if_icmp .le 7, 3) := by decide +kernel
theorem dX11_bestWord_38 : decode cX11_bestWord 38 = .ok (.iload_n 3, 1) := by decide +kernel
theorem dX11_bestWord_39 : decode cX11_bestWord 39 = .ok (.goto 4, 3) := by decide +kernel
theorem dX11_bestWord_42 : decode cX11_bestWord 42 = .ok (.iload_n 1, 1) := by decide +kernel
theorem dX11_bestWord_43 : decode cX11_bestWord 43 = .ok (.istore_n 1, 1) := by decide +kernel
theorem dX11_bestWord_44 : decode cX11_bestWord 44 = .ok (.iload 4, 2) := by decide +kernel
theorem dX11_bestWord_46 : decode cX11_bestWord 46 = .ok (.iload_n 2, 1) := by decide +kernel
theorem dX11_bestWord_47 : decode cX11_bestWord 47 = .ok (.if_icmp .le 8, 3) := by decide +kernel
theorem dX11_bestWord_50 : decode cX11_bestWord 50 = .ok (.iload 4, 2) := by decide +kernel
theorem dX11_bestWord_52 : decode cX11_bestWord 52 = .ok (.goto 4, 3) := by decide +kernel
theorem dX11_bestWord_55 : decode cX11_bestWord 55 = .ok (.iload_n 2, 1) := by decide +kernel
theorem dX11_bestWord_56 : decode cX11_bestWord 56 = .ok (.istore_n 2, 1) := by decide +kernel
theorem dX11_bestWord_57 : decode cX11_bestWord 57 = .ok (.iinc 3 1, 3) := by decide +kernel
theorem dX11_bestWord_60 : decode cX11_bestWord 60 = .ok (.goto (-54), 3) := by decide +kernel
theorem dX11_bestWord_63 : decode cX11_bestWord 63 = .ok (.iload_n 1, 1) := by decide +kernel
theorem dX11_bestWord_64 : decode cX11_bestWord 64 = .ok (.ireturn, 1) := by decide +kernel
theorem dX11_tell_0 : decode cX11_tell 0 = .ok (.aload_n 0, 1) := by decide +kernel
theorem dX11_tell_1 : decode cX11_tell 1 = .ok (.iload_n 1, 1) := by decide +kernel
theorem dX11_tell_2 : decode cX11_tell 2 = .ok (.invokevirtual 239, 3) := by decide +kernel
theorem dX11_tell_5 : decode cX11_tell 5 = .ok (.ifCond .ne 6, 3) := by decide +kernel
theorem dX11_tell_8 : decode cX11_tell 8 = .ok (.ldc 235, 2) := by decide +kernel
theorem dX11_tell_10 : decode cX11_tell 10 = .ok (.ireturn, 1) := by decide +kernel
theorem dX11_tell_11 : decode cX11_tell 11 = .ok (.iload_n 2, 1) := by decide +kernel
theorem dX11_tell_12 : decode cX11_tell 12 = .ok (.i2l, 1) := by decide +kernel
theorem dX11_tell_13 : decode cX11_tell 13 = .ok (.lconst 1, 1) := by decide +kernel
theorem dX11_tell_14 : decode cX11_tell 14 = .ok (.ldc2_w 257, 3) := by decide +kernel
theorem dX11_tell_17 : decode cX11_tell 17 = .ok (.invokestatic 102, 3) := by decide +kernel
theorem dX11_tell_20 : decode cX11_tell 20 = .ok (.ifCond .ne 6, 3) := by decide +kernel
theorem dX11_tell_23 : decode cX11_tell 23 = .ok (.ldc 114, 2) := by decide +kernel
theorem dX11_tell_25 : decode cX11_tell 25 = .ok (.ireturn, 1) := by decide +kernel
theorem dX11_tell_26 : decode cX11_tell 26 = .ok (.aload_n 0, 1) := by decide +kernel
theorem dX11_tell_27 : decode cX11_tell 27 = .ok (.getfield 209, 3) := by decide +kernel
theorem dX11_tell_30 : decode cX11_tell 30 = .ok (.bipush 6, 2) := by decide +kernel
theorem dX11_tell_32 : decode cX11_tell 32 = .ok (.if_icmp .ne 6, 3) := by decide +kernel
theorem dX11_tell_35 : decode cX11_tell 35 = .ok (.ldc 118, 2) := by decide +kernel
theorem dX11_tell_37 : decode cX11_tell 37 = .ok (.ireturn, 1) := by decide +kernel
theorem dX11_tell_38 : decode cX11_tell 38 = .ok (.aload_n 0, 1) := by decide +kernel
theorem dX11_tell_39 : decode cX11_tell 39 = .ok (.getfield 42, 3) := by decide +kernel
theorem dX11_tell_42 : decode cX11_tell 42 = .ok (.iconst 2, 1) := by decide +kernel
theorem dX11_tell_43 : decode cX11_tell 43 = .ok (.aload_n 0, 1) := by decide +kernel
theorem dX11_tell_44 : decode cX11_tell 44 = .ok (.getfield 209, 3) := by decide +kernel
theorem dX11_tell_47 : decode cX11_tell 47 = .ok (.imul, 1) := by decide +kernel
theorem dX11_tell_48 : decode cX11_tell 48 = .ok (.iload_n 1, 1) := by decide +kernel
theorem dX11_tell_49 : decode cX11_tell 49 = .ok (.iastore, 1) := by decide +kernel
theorem dX11_tell_50 : decode cX11_tell 50 = .ok (.aload_n 0, 1) := by decide +kernel
theorem dX11_tell_51 : decode cX11_tell 51 = .ok (.getfield 42, 3) := by decide +kernel
theorem dX11_tell_54 : decode cX11_tell 54 = .ok (.iconst 2, 1) := by decide +kernel
theorem dX11_tell_55 : decode cX11_tell 55 = .ok (.aload_n 0, 1) := by decide +kernel
theorem dX11_tell_56 : decode cX11_tell 56 = .ok (.getfield 209, 3) := by decide +kernel
theorem dX11_tell_59 : decode cX11_tell 59 = .ok (.imul, 1) := by decide +kernel
theorem dX11_tell_60 : decode cX11_tell 60 = .ok (.iconst 1, 1) := by decide +kernel
theorem dX11_tell_61 : decode cX11_tell 61 = .ok (.iadd, 1) := by decide +kernel
theorem dX11_tell_62 : decode cX11_tell 62 = .ok (.iload_n 2, 1) := by decide +kernel
theorem dX11_tell_63 : decode cX11_tell 63 = .ok (.iastore, 1) := by decide +kernel
theorem dX11_tell_64 : decode cX11_tell 64 = .ok (.aload_n 0, 1) := by decide +kernel
theorem dX11_tell_65 : decode cX11_tell 65 = .ok (.dup, 1) := by decide +kernel
theorem dX11_tell_66 : decode cX11_tell 66 = .ok (.getfield 209, 3) := by decide +kernel
theorem dX11_tell_69 : decode cX11_tell 69 = .ok (.iconst 1, 1) := by decide +kernel
theorem dX11_tell_70 : decode cX11_tell 70 = .ok (.iadd, 1) := by decide +kernel
theorem dX11_tell_71 : decode cX11_tell 71 = .ok (.putfield 209, 3) := by decide +kernel
theorem dX11_tell_74 : decode cX11_tell 74 = .ok (.aload_n 0, 1) := by decide +kernel
theorem dX11_tell_75 : decode cX11_tell 75 = .ok (.getfield 209, 3) := by decide +kernel
theorem dX11_tell_78 : decode cX11_tell 78 = .ok (.ireturn, 1) := by decide +kernel
theorem dX11_isDay_0 : decode cX11_isDay 0 = .ok (.iconst 0, 1) := by decide +kernel
theorem dX11_isDay_1 : decode cX11_isDay 1 = .ok (.istore_n 2, 1) := by decide +kernel
theorem dX11_isDay_2 : decode cX11_isDay 2 = .ok (.aload_n 0, 1) := by decide +kernel
theorem dX11_isDay_3 : decode cX11_isDay 3 = .ok (.getfield 200, 3) := by decide +kernel
theorem dX11_isDay_6 : decode cX11_isDay 6 = .ok (.istore_n 3, 1) := by decide +kernel
theorem dX11_isDay_7 : decode cX11_isDay 7 = .ok (.iconst 0, 1) := by decide +kernel
theorem dX11_isDay_8 : decode cX11_isDay 8 = .ok (.istore 4, 2) := by decide +kernel
theorem dX11_isDay_10 : decode cX11_isDay 10 = .ok (.iload 4, 2) := by decide +kernel
theorem dX11_isDay_12 : decode cX11_isDay 12 = .ok (.bipush 6, 2) := by decide +kernel
theorem dX11_isDay_14 : decode cX11_isDay 14 = .ok (.if_icmp .ge 17, 3) := by decide +kernel
theorem dX11_isDay_17 : decode cX11_isDay 17 = .ok (.aload_n 0, 1) := by decide +kernel
theorem dX11_isDay_18 : decode cX11_isDay 18 = .ok (.getfield 90, 3) := by decide +kernel
theorem dX11_isDay_21 : decode cX11_isDay 21 = .ok (.iload 4, 2) := by decide +kernel
theorem dX11_isDay_23 : decode cX11_isDay 23 = .ok (.iconst (-1), 1) := by decide +kernel
theorem dX11_isDay_24 : decode cX11_isDay 24 = .ok (.iastore, 1) := by decide +kernel
theorem dX11_isDay_25 : decode cX11_isDay 25 = .ok (.iinc 4 1, 3) := by decide +kernel
theorem dX11_isDay_28 : decode cX11_isDay 28 = .ok (.goto (-18), 3) := by decide +kernel
theorem dX11_isDay_31 : decode cX11_isDay 31 = .ok (.iconst 0, 1) := by decide +kernel
theorem dX11_isDay_32 : decode cX11_isDay 32 = .ok (.istore 4, 2) := by decide +kernel
theorem dX11_isDay_34 : decode cX11_isDay 34 = .ok (.iload 4, 2) := by decide +kernel
theorem dX11_isDay_36 : decode cX11_isDay 36 = .ok (.iload_n 1, 1) := by decide +kernel
theorem dX11_isDay_37 : decode cX11_isDay 37 = .ok (.if_icmp .ge 64, 3) := by decide +kernel
theorem dX11_isDay_40 : decode cX11_isDay 40 = .ok (.aload_n 0, 1) := by decide +kernel
theorem dX11_isDay_41 : decode cX11_isDay 41 = .ok (.getfield 87, 3) := by decide +kernel
theorem dX11_isDay_44 : decode cX11_isDay 44 = .ok (.iload 4, 2) := by decide +kernel
theorem dX11_isDay_46 : decode cX11_isDay 46 = .ok (.iload_n 2, 1) := by decide +kernel
theorem dX11_isDay_47 : decode cX11_isDay 47 = .ok (.iastore, 1) := by decide +kernel
theorem dX11_isDay_48 : decode cX11_isDay 48 = .ok (.aload_n 0, 1) := by decide +kernel
theorem dX11_isDay_49 : decode cX11_isDay 49 = .ok (.iload_n 2, 1) := by decide +kernel
theorem dX11_isDay_50 : decode cX11_isDay 50 = .ok (.iload_n 3, 1) := by decide +kernel
theorem dX11_isDay_51 : decode cX11_isDay 51 = .ok (.aload_n 0, 1) := by decide +kernel
theorem dX11_isDay_52 : decode cX11_isDay 52 = .ok (.getfield 66, 3) := by decide +kernel
theorem dX11_isDay_55 : decode cX11_isDay 55 = .ok (.iload 4, 2) := by decide +kernel
theorem dX11_isDay_57 : decode cX11_isDay 57 = .ok (.iaload, 1) := by decide +kernel
theorem dX11_isDay_58 : decode cX11_isDay 58 = .ok (.invokevirtual 274, 3) := by decide +kernel
theorem dX11_isDay_61 : decode cX11_isDay 61 = .ok (.istore_n 2, 1) := by decide +kernel
theorem dX11_isDay_62 : decode cX11_isDay 62 = .ok (.iload_n 2, 1) := by decide +kernel
theorem dX11_isDay_63 : decode cX11_isDay 63 = .ok (.ldc 135, 2) := by decide +kernel
theorem dX11_isDay_65 : decode cX11_isDay 65 = .ok (.if_icmp .lt 5, 3) := by decide +kernel
theorem dX11_isDay_68 : decode cX11_isDay 68 = .ok (.iconst 0, 1) := by decide +kernel
theorem dX11_isDay_69 : decode cX11_isDay 69 = .ok (.ireturn, 1) := by decide +kernel
theorem dX11_isDay_70 : decode cX11_isDay 70 = .ok (.aload_n 0, 1) := by decide +kernel
theorem dX11_isDay_71 : decode cX11_isDay 71 = .ok (.getfield 90, 3) := by decide +kernel
theorem dX11_isDay_74 : decode cX11_isDay 74 = .ok (.aload_n 0, 1) := by decide +kernel
theorem dX11_isDay_75 : decode cX11_isDay 75 = .ok (.getfield 66, 3) := by decide +kernel
theorem dX11_isDay_78 : decode cX11_isDay 78 = .ok (.iload 4, 2) := by decide +kernel
theorem dX11_isDay_80 : decode cX11_isDay 80 = .ok (.iaload, 1) := by decide +kernel
theorem dX11_isDay_81 : decode cX11_isDay 81 = .ok (.iload_n 2, 1) := by decide +kernel
theorem dX11_isDay_82 : decode cX11_isDay 82 = .ok (.iastore, 1) := by decide +kernel
theorem dX11_isDay_83 : decode cX11_isDay 83 = .ok (.aload_n 0, 1) := by decide +kernel
theorem dX11_isDay_84 : decode cX11_isDay 84 = .ok (.aload_n 0, 1) := by decide +kernel
theorem dX11_isDay_85 : decode cX11_isDay 85 = .ok (.getfield 66, 3) := by decide +kernel
theorem dX11_isDay_88 : decode cX11_isDay 88 = .ok (.iload 4, 2) := by decide +kernel
theorem dX11_isDay_90 : decode cX11_isDay 90 = .ok (.iaload, 1) := by decide +kernel
theorem dX11_isDay_91 : decode cX11_isDay 91 = .ok (.invokevirtual 271, 3) := by decide +kernel
theorem dX11_isDay_94 : decode cX11_isDay 94 = .ok (.istore_n 3, 1) := by decide +kernel
theorem dX11_isDay_95 : decode cX11_isDay 95 = .ok (.iinc 4 1, 3) := by decide +kernel
theorem dX11_isDay_98 : decode cX11_isDay 98 = .ok (.goto (-64), 3) := by decide +kernel
theorem dX11_isDay_101 : decode cX11_isDay 101 = .ok (.iconst 1, 1) := by decide +kernel
theorem dX11_isDay_102 : decode cX11_isDay 102 = .ok (.istore 4, 2) := by decide +kernel
theorem dX11_isDay_104 : decode cX11_isDay 104 = .ok (.iconst 0, 1) := by decide +kernel
theorem dX11_isDay_105 : decode cX11_isDay 105 = .ok (.istore 5, 2) := by decide +kernel
theorem dX11_isDay_107 : decode cX11_isDay 107 = .ok (.iload 5, 2) := by decide +kernel
theorem dX11_isDay_109 : decode cX11_isDay 109 = .ok (.aload_n 0, 1) := by decide +kernel
theorem dX11_isDay_110 : decode cX11_isDay 110 = .ok (.getfield 209, 3) := by decide +kernel
theorem dX11_isDay_113 : decode cX11_isDay 113 = .ok (.if_icmp .ge 49, 3) := by decide +kernel
theorem dX11_isDay_116 : decode cX11_isDay 116 = .ok (.iload 4, 2) := by decide +kernel
theorem dX11_isDay_118 : decode cX11_isDay 118 = .ok (.ifCond .eq 35, 3) := by decide +kernel
theorem dX11_isDay_121 : decode cX11_isDay 121 = .ok (.aload_n 0, 1) := by decide +kernel
theorem dX11_isDay_122 : decode cX11_isDay 122 = .ok (.getfield 90, 3) := by decide +kernel
theorem dX11_isDay_125 : decode cX11_isDay 125 = .ok (.aload_n 0, 1) := by decide +kernel
theorem dX11_isDay_126 : decode cX11_isDay 126 = .ok (.getfield 42, 3) := by decide +kernel
theorem dX11_isDay_129 : decode cX11_isDay 129 = .ok (.iconst 2, 1) := by decide +kernel
theorem dX11_isDay_130 : decode cX11_isDay 130 = .ok (.iload 5, 2) := by decide +kernel
theorem dX11_isDay_132 : decode cX11_isDay 132 = .ok (.imul, 1) := by decide +kernel
theorem dX11_isDay_133 : decode cX11_isDay 133 = .ok (.iaload, 1) := by decide +kernel
theorem dX11_isDay_134 : decode cX11_isDay 134 = .ok (.iaload, 1) := by decide +kernel
theorem dX11_isDay_135 : decode cX11_isDay 135 = .ok (.aload_n 0, 1) := by decide +kernel
theorem dX11_isDay_136 : decode cX11_isDay 136 = .ok (.getfield 42, 3) := by decide +kernel
theorem dX11_isDay_139 : decode cX11_isDay 139 = .ok (.iconst 2, 1) := by decide +kernel
theorem dX11_isDay_140 : decode cX11_isDay 140 = .ok (.iload 5, 2) := by decide +kernel
theorem dX11_isDay_142 : decode cX11_isDay 142 = .ok (.imul, 1) := by decide +kernel
theorem dX11_isDay_143 : decode cX11_isDay 143 = .ok (.iconst 1, 1) := by decide +kernel
theorem dX11_isDay_144 : decode cX11_isDay 144 = .ok (.iadd, 1) := by decide +kernel
theorem dX11_isDay_145 : decode cX11_isDay 145 = .ok (.iaload, 1) := by decide +kernel
theorem dX11_isDay_146 : decode cX11_isDay 146 = .ok (.if_icmp .ne 7, 3) := by decide +kernel
theorem dX11_isDay_149 : decode cX11_isDay 149 = .ok (.iconst 1, 1) := by decide +kernel
theorem dX11_isDay_150 : decode cX11_isDay 150 = .ok (.goto 4, 3) := by decide +kernel
theorem dX11_isDay_153 : decode cX11_isDay 153 = .ok (.iconst 0, 1) := by decide +kernel
theorem dX11_isDay_154 : decode cX11_isDay 154 = .ok (.istore 4, 2) := by decide +kernel
theorem dX11_isDay_156 : decode cX11_isDay 156 = .ok (.iinc 5 1, 3) := by decide +kernel
theorem dX11_isDay_159 : decode cX11_isDay 159 = .ok (.goto (-52), 3) := by decide +kernel
theorem dX11_isDay_162 : decode cX11_isDay 162 = .ok (.iload 4, 2) := by decide +kernel
theorem dX11_isDay_164 : decode cX11_isDay 164 = .ok (.ireturn, 1) := by decide +kernel
theorem dX11_findDays_0 : decode cX11_findDays 0 = .ok (.iconst 0, 1) := by decide +kernel
theorem dX11_findDays_1 : decode cX11_findDays 1 = .ok (.istore_n 2, 1) := by decide +kernel
theorem dX11_findDays_2 : decode cX11_findDays 2 = .ok (.aload_n 0, 1) := by decide +kernel
theorem dX11_findDays_3 : decode cX11_findDays 3 = .ok (.iconst 0, 1) := by decide +kernel
theorem dX11_findDays_4 : decode cX11_findDays 4 = .ok (.putfield 337, 3) := by decide +kernel
theorem dX11_findDays_7 : decode cX11_findDays 7 = .ok (.iconst 1, 1) := by decide +kernel
theorem dX11_findDays_8 : decode cX11_findDays 8 = .ok (.istore_n 3, 1) := by decide +kernel
theorem dX11_findDays_9 : decode cX11_findDays 9 = .ok (.iconst 0, 1) := by decide +kernel
theorem dX11_findDays_10 : decode cX11_findDays 10 = .ok (.istore 4, 2) := by decide +kernel
theorem dX11_findDays_12 : decode cX11_findDays 12 = .ok (.iload 4, 2) := by decide +kernel
theorem dX11_findDays_14 : decode cX11_findDays 14 = .ok (.aload_n 0, 1) := by decide +kernel
theorem dX11_findDays_15 : decode cX11_findDays 15 = .ok (.getfield 109, 3) := by decide +kernel
theorem dX11_findDays_18 : decode cX11_findDays 18 = .ok (.if_icmp .gt 116, 3) := by decide +kernel
theorem dX11_findDays_21 : decode cX11_findDays 21 = .ok (.iconst 0, 1) := by decide +kernel
theorem dX11_findDays_22 : decode cX11_findDays 22 = .ok (.istore 5, 2) := by decide +kernel
theorem dX11_findDays_24 : decode cX11_findDays 24 = .ok (.iload 5, 2) := by decide +kernel
theorem dX11_findDays_26 : decode cX11_findDays 26 = .ok (.iload_n 3, 1) := by decide +kernel
theorem dX11_findDays_27 : decode cX11_findDays 27 = .ok (.if_icmp .ge 96, 3) := by decide +kernel
theorem dX11_findDays_30 : decode cX11_findDays 30 = .ok (.aload_n 0, 1) := by decide +kernel
theorem dX11_findDays_31 : decode cX11_findDays 31 = .ok (.iload 5, 2) := by decide +kernel
theorem dX11_findDays_33 : decode cX11_findDays 33 = .ok (.iload 4, 2) := by decide +kernel
theorem dX11_findDays_35 : decode cX11_findDays 35 = .ok (.invokevirtual 278, 3) := by decide +kernel
theorem dX11_findDays_38 : decode cX11_findDays 38 = .ok (.ifCond .lt 79, 3) := by decide +kernel
theorem dX11_findDays_41 : decode cX11_findDays 41 = .ok (.aload_n 0, 1) := by decide +kernel
theorem dX11_findDays_42 : decode cX11_findDays 42 = .ok (.iload 4, 2) := by decide +kernel
theorem dX11_findDays_44 : decode cX11_findDays 44 = .ok (.invokevirtual 340, 3) := by decide +kernel
theorem dX11_findDays_47 : decode cX11_findDays 47 = .ok (.ifCond .eq 70, 3) := by decide +kernel
theorem dX11_findDays_50 : decode cX11_findDays 50 = .ok (.iinc 2 1, 3) := by decide +kernel
theorem dX11_findDays_53 : decode cX11_findDays 53 = .ok (.aload_n 0, 1) := by decide +kernel
theorem dX11_findDays_54 : decode cX11_findDays 54 = .ok (.getfield 200, 3) := by decide +kernel
theorem dX11_findDays_57 : decode cX11_findDays 57 = .ok (.istore 6, 2) := by decide +kernel
theorem dX11_findDays_59 : decode cX11_findDays 59 = .ok (.iconst 0, 1) := by decide +kernel
theorem dX11_findDays_60 : decode cX11_findDays 60 = .ok (.istore 7, 2) := by decide +kernel
theorem dX11_findDays_62 : decode cX11_findDays 62 = .ok (.iload 7, 2) := by decide +kernel
theorem dX11_findDays_64 : decode cX11_findDays 64 = .ok (.iload 4, 2) := by decide +kernel
theorem dX11_findDays_66 : decode cX11_findDays 66 = .ok (.if_icmp .ge 38, 3) := by decide +kernel
theorem dX11_findDays_69 : decode cX11_findDays 69 = .ok (.aload_n 0, 1) := by decide +kernel
theorem dX11_findDays_70 : decode cX11_findDays 70 = .ok (.getfield 87, 3) := by decide +kernel
theorem dX11_findDays_73 : decode cX11_findDays 73 = .ok (.iload 7, 2) := by decide +kernel
theorem dX11_findDays_75 : decode cX11_findDays 75 = .ok (.iaload, 1) := by decide +kernel
theorem dX11_findDays_76 : decode cX11_findDays 76 = .ok (.iload_n 1, 1) := by decide +kernel
theorem dX11_findDays_77 : decode cX11_findDays 77 = .ok (.if_icmp .gt 17, 3) := by decide +kernel
theorem dX11_findDays_80 : decode cX11_findDays 80 = .ok (.aload_n 0, 1) := by decide +kernel
theorem dX11_findDays_81 : decode cX11_findDays 81 = .ok (.aload_n 0, 1) := by decide +kernel
theorem dX11_findDays_82 : decode cX11_findDays 82 = .ok (.getfield 66, 3) := by decide +kernel
theorem dX11_findDays_85 : decode cX11_findDays 85 = .ok (.iload 7, 2) := by decide +kernel
theorem dX11_findDays_87 : decode cX11_findDays 87 = .ok (.iaload, 1) := by decide +kernel
theorem dX11_findDays_88 : decode cX11_findDays 88 = .ok (.invokevirtual 271, 3) := by decide +kernel
theorem dX11_findDays_91 : decode cX11_findDays 91 = .ok (.goto 5, 3) := by decide +kernel
theorem dX11_findDays_94 : decode cX11_findDays 94 = .ok (.iload 6, 2) := by decide +kernel
theorem dX11_findDays_96 : decode cX11_findDays 96 = .ok (.istore 6, 2) := by decide +kernel
theorem dX11_findDays_98 : decode cX11_findDays 98 = .ok (.iinc 7 1, 3) := by decide +kernel
theorem dX11_findDays_101 : decode cX11_findDays 101 = .ok (.goto (-39), 3) := by decide +kernel
theorem dX11_findDays_104 : decode cX11_findDays 104 = .ok (.aload_n 0, 1) := by decide +kernel
theorem dX11_findDays_105 : decode cX11_findDays 105 = .ok (.dup, 1) := by decide +kernel
theorem dX11_findDays_106 : decode cX11_findDays 106 = .ok (.getfield 337, 3) := by decide +kernel
theorem dX11_findDays_109 : decode cX11_findDays 109 = .ok (.iconst 1, 1) := by decide +kernel
theorem dX11_findDays_110 : decode cX11_findDays 110 = .ok (.iload 6, 2) := by decide +kernel
theorem dX11_findDays_112 : decode cX11_findDays 112 = .ok (.ishl, 1) := by decide +kernel
theorem dX11_findDays_113 : decode cX11_findDays 113 = .ok (.ior, 1) := by decide +kernel
theorem dX11_findDays_114 : decode cX11_findDays 114 = .ok (.putfield 337, 3) := by decide +kernel
theorem dX11_findDays_117 : decode cX11_findDays 117 = .ok (.iinc 5 1, 3) := by decide +kernel
theorem dX11_findDays_120 : decode cX11_findDays 120 = .ok (.goto (-96), 3) := by decide +kernel
theorem dX11_findDays_123 : decode cX11_findDays 123 = .ok (.iload_n 3, 1) := by decide +kernel
theorem dX11_findDays_124 : decode cX11_findDays 124 = .ok (.bipush 6, 2) := by decide +kernel
theorem dX11_findDays_126 : decode cX11_findDays 126 = .ok (.imul, 1) := by decide +kernel
theorem dX11_findDays_127 : decode cX11_findDays 127 = .ok (.istore_n 3, 1) := by decide +kernel
theorem dX11_findDays_128 : decode cX11_findDays 128 = .ok (.iinc 4 1, 3) := by decide +kernel
theorem dX11_findDays_131 : decode cX11_findDays 131 = .ok (.goto (-119), 3) := by decide +kernel
theorem dX11_findDays_134 : decode cX11_findDays 134 = .ok (.iload_n 2, 1) := by decide +kernel
theorem dX11_findDays_135 : decode cX11_findDays 135 = .ok (.ireturn, 1) := by decide +kernel
theorem dX11_days_0 : decode cX11_days 0 = .ok (.aload_n 0, 1) := by decide +kernel
theorem dX11_days_1 : decode cX11_days 1 = .ok (.getfield 99, 3) := by decide +kernel
theorem dX11_days_4 : decode cX11_days 4 = .ok (.ifCond .ne 7, 3) := by decide +kernel
theorem dX11_days_7 : decode cX11_days 7 = .ok (.iconst 0, 1) := by decide +kernel
theorem dX11_days_8 : decode cX11_days 8 = .ok (.goto 8, 3) := by decide +kernel
theorem dX11_days_11 : decode cX11_days 11 = .ok (.aload_n 0, 1) := by decide +kernel
theorem dX11_days_12 : decode cX11_days 12 = .ok (.iconst 0, 1) := by decide +kernel
theorem dX11_days_13 : decode cX11_days 13 = .ok (.invokevirtual 343, 3) := by decide +kernel
theorem dX11_days_16 : decode cX11_days 16 = .ok (.ireturn, 1) := by decide +kernel
theorem dX11_where_0 : decode cX11_where 0 = .ok (.iload_n 1, 1) := by decide +kernel
theorem dX11_where_1 : decode cX11_where 1 = .ok (.i2l, 1) := by decide +kernel
theorem dX11_where_2 : decode cX11_where 2 = .ok (.lconst 0, 1) := by decide +kernel
theorem dX11_where_3 : decode cX11_where 3 = .ok (.ldc2_w 257, 3) := by decide +kernel
theorem dX11_where_6 : decode cX11_where 6 = .ok (.invokestatic 102, 3) := by decide +kernel
theorem dX11_where_9 : decode cX11_where 9 = .ok (.ifCond .ne 6, 3) := by decide +kernel
theorem dX11_where_12 : decode cX11_where 12 = .ok (.ldc 114, 2) := by decide +kernel
theorem dX11_where_14 : decode cX11_where 14 = .ok (.ireturn, 1) := by decide +kernel
theorem dX11_where_15 : decode cX11_where 15 = .ok (.aload_n 0, 1) := by decide +kernel
theorem dX11_where_16 : decode cX11_where 16 = .ok (.iload_n 1, 1) := by decide +kernel
theorem dX11_where_17 : decode cX11_where 17 = .ok (.invokevirtual 343, 3) := by decide +kernel
theorem dX11_where_20 : decode cX11_where 20 = .ok (.pop, 1) := by decide +kernel
theorem dX11_where_21 : decode cX11_where 21 = .ok (.aload_n 0, 1) := by decide +kernel
theorem dX11_where_22 : decode cX11_where 22 = .ok (.getfield 99, 3) := by decide +kernel
theorem dX11_where_25 : decode cX11_where 25 = .ok (.ifCond .ne 7, 3) := by decide +kernel
theorem dX11_where_28 : decode cX11_where 28 = .ok (.iconst 0, 1) := by decide +kernel
theorem dX11_where_29 : decode cX11_where 29 = .ok (.goto 7, 3) := by decide +kernel
theorem dX11_where_32 : decode cX11_where 32 = .ok (.aload_n 0, 1) := by decide +kernel
theorem dX11_where_33 : decode cX11_where 33 = .ok (.getfield 337, 3) := by decide +kernel
theorem dX11_where_36 : decode cX11_where 36 = .ok (.ireturn, 1) := by decide +kernel
theorem dX11_write_0 : decode cX11_write 0 = .ok (.aload_n 0, 1) := by decide +kernel
theorem dX11_write_1 : decode cX11_write 1 = .ok (.iload_n 1, 1) := by decide +kernel
theorem dX11_write_2 : decode cX11_write 2 = .ok (.invokevirtual 239, 3) := by decide +kernel
theorem dX11_write_5 : decode cX11_write 5 = .ok (.ifCond .ne 6, 3) := by decide +kernel
theorem dX11_write_8 : decode cX11_write 8 = .ok (.ldc 235, 2) := by decide +kernel
theorem dX11_write_10 : decode cX11_write 10 = .ok (.ireturn, 1) := by decide +kernel
theorem dX11_write_11 : decode cX11_write 11 = .ok (.iload_n 2, 1) := by decide +kernel
theorem dX11_write_12 : decode cX11_write 12 = .ok (.i2l, 1) := by decide +kernel
theorem dX11_write_13 : decode cX11_write 13 = .ok (.lconst 0, 1) := by decide +kernel
theorem dX11_write_14 : decode cX11_write 14 = .ok (.ldc2_w 346, 3) := by decide +kernel
theorem dX11_write_17 : decode cX11_write 17 = .ok (.invokestatic 102, 3) := by decide +kernel
theorem dX11_write_20 : decode cX11_write 20 = .ok (.ifCond .ne 6, 3) := by decide +kernel
theorem dX11_write_23 : decode cX11_write 23 = .ok (.ldc 114, 2) := by decide +kernel
theorem dX11_write_25 : decode cX11_write 25 = .ok (.ireturn, 1) := by decide +kernel
theorem dX11_write_26 : decode cX11_write 26 = .ok (.aload_n 0, 1) := by decide +kernel
theorem dX11_write_27 : decode cX11_write 27 = .ok (.getfield 212, 3) := by decide +kernel
theorem dX11_write_30 : decode cX11_write 30 = .ok (.bipush 15, 2) := by decide +kernel
theorem dX11_write_32 : decode cX11_write 32 = .ok (.if_icmp .ne 6, 3) := by decide +kernel
theorem dX11_write_35 : decode cX11_write 35 = .ok (.ldc 118, 2) := by decide +kernel
theorem dX11_write_37 : decode cX11_write 37 = .ok (.ireturn, 1) := by decide +kernel
theorem dX11_write_38 : decode cX11_write 38 = .ok (.aload_n 0, 1) := by decide +kernel
theorem dX11_write_39 : decode cX11_write 39 = .ok (.getfield 45, 3) := by decide +kernel
theorem dX11_write_42 : decode cX11_write 42 = .ok (.iconst 2, 1) := by decide +kernel
theorem dX11_write_43 : decode cX11_write 43 = .ok (.aload_n 0, 1) := by decide +kernel
theorem dX11_write_44 : decode cX11_write 44 = .ok (.getfield 212, 3) := by decide +kernel
theorem dX11_write_47 : decode cX11_write 47 = .ok (.imul, 1) := by decide +kernel
theorem dX11_write_48 : decode cX11_write 48 = .ok (.iload_n 1, 1) := by decide +kernel
theorem dX11_write_49 : decode cX11_write 49 = .ok (.iastore, 1) := by decide +kernel
theorem dX11_write_50 : decode cX11_write 50 = .ok (.aload_n 0, 1) := by decide +kernel
theorem dX11_write_51 : decode cX11_write 51 = .ok (.getfield 45, 3) := by decide +kernel
theorem dX11_write_54 : decode cX11_write 54 = .ok (.iconst 2, 1) := by decide +kernel
theorem dX11_write_55 : decode cX11_write 55 = .ok (.aload_n 0, 1) := by decide +kernel
theorem dX11_write_56 : decode cX11_write 56 = .ok (.getfield 212, 3) := by decide +kernel
theorem dX11_write_59 : decode cX11_write 59 = .ok (.imul, 1) := by decide +kernel
theorem dX11_write_60 : decode cX11_write 60 = .ok (.iconst 1, 1) := by decide +kernel
theorem dX11_write_61 : decode cX11_write 61 = .ok (.iadd, 1) := by decide +kernel
theorem dX11_write_62 : decode cX11_write 62 = .ok (.iload_n 2, 1) := by decide +kernel
theorem dX11_write_63 : decode cX11_write 63 = .ok (.iastore, 1) := by decide +kernel
theorem dX11_write_64 : decode cX11_write 64 = .ok (.aload_n 0, 1) := by decide +kernel
theorem dX11_write_65 : decode cX11_write 65 = .ok (.dup, 1) := by decide +kernel
theorem dX11_write_66 : decode cX11_write 66 = .ok (.getfield 212, 3) := by decide +kernel
theorem dX11_write_69 : decode cX11_write 69 = .ok (.iconst 1, 1) := by decide +kernel
theorem dX11_write_70 : decode cX11_write 70 = .ok (.iadd, 1) := by decide +kernel
theorem dX11_write_71 : decode cX11_write 71 = .ok (.putfield 212, 3) := by decide +kernel
theorem dX11_write_74 : decode cX11_write 74 = .ok (.aload_n 0, 1) := by decide +kernel
theorem dX11_write_75 : decode cX11_write 75 = .ok (.getfield 212, 3) := by decide +kernel
theorem dX11_write_78 : decode cX11_write 78 = .ok (.ireturn, 1) := by decide +kernel
theorem dX11_judge_0 : decode cX11_judge 0 = .ok (.iconst 0, 1) := by decide +kernel
theorem dX11_judge_1 : decode cX11_judge 1 = .ok (.istore_n 1, 1) := by decide +kernel
theorem dX11_judge_2 : decode cX11_judge 2 = .ok (.iload_n 1, 1) := by decide +kernel
theorem dX11_judge_3 : decode cX11_judge 3 = .ok (.aload_n 0, 1) := by decide +kernel
theorem dX11_judge_4 : decode cX11_judge 4 = .ok (.getfield 212, 3) := by decide +kernel
theorem dX11_judge_7 : decode cX11_judge 7 = .ok (.if_icmp .ge 39, 3) := by decide +kernel
theorem dX11_judge_10 : decode cX11_judge 10 = .ok (.aload_n 0, 1) := by decide +kernel
theorem dX11_judge_11 : decode cX11_judge 11 = .ok (.getfield 39, 3) := by decide +kernel
theorem dX11_judge_14 : decode cX11_judge 14 = .ok (.iconst 4, 1) := by decide +kernel
theorem dX11_judge_15 : decode cX11_judge 15 = .ok (.aload_n 0, 1) := by decide +kernel
theorem dX11_judge_16 : decode cX11_judge 16 = .ok (.getfield 45, 3) := by decide +kernel
theorem dX11_judge_19 : decode cX11_judge 19 = .ok (.iconst 2, 1) := by decide +kernel
theorem dX11_judge_20 : decode cX11_judge 20 = .ok (.iload_n 1, 1) := by decide +kernel
theorem dX11_judge_21 : decode cX11_judge 21 = .ok (.imul, 1) := by decide +kernel
theorem dX11_judge_22 : decode cX11_judge 22 = .ok (.iaload, 1) := by decide +kernel
theorem dX11_judge_23 : decode cX11_judge 23 = .ok (.iadd, 1) := by decide +kernel
theorem dX11_judge_24 : decode cX11_judge 24 = .ok (.iaload, 1) := by decide +kernel
theorem dX11_judge_25 : decode cX11_judge 25 = .ok (.aload_n 0, 1) := by decide +kernel
theorem dX11_judge_26 : decode cX11_judge 26 = .ok (.getfield 45, 3) := by decide +kernel
theorem dX11_judge_29 : decode cX11_judge 29 = .ok (.iconst 2, 1) := by decide +kernel
theorem dX11_judge_30 : decode cX11_judge 30 = .ok (.iload_n 1, 1) := by decide +kernel
theorem dX11_judge_31 : decode cX11_judge 31 = .ok (.imul, 1) := by decide +kernel
theorem dX11_judge_32 : decode cX11_judge 32 = .ok (.iconst 1, 1) := by decide +kernel
theorem dX11_judge_33 : decode cX11_judge 33 = .ok (.iadd, 1) := by decide +kernel
theorem dX11_judge_34 : decode cX11_judge 34 = .ok (.iaload, 1) := by decide +kernel
theorem dX11_judge_35 : decode cX11_judge 35 = .ok (.if_icmp .eq 5, 3) := by decide +kernel
theorem dX11_judge_38 : decode cX11_judge 38 = .ok (.iload_n 1, 1) := by decide +kernel
theorem dX11_judge_39 : decode cX11_judge 39 = .ok (.ireturn, 1) := by decide +kernel
theorem dX11_judge_40 : decode cX11_judge 40 = .ok (.iinc 1 1, 3) := by decide +kernel
theorem dX11_judge_43 : decode cX11_judge 43 = .ok (.goto (-41), 3) := by decide +kernel
theorem dX11_judge_46 : decode cX11_judge 46 = .ok (.iconst (-1), 1) := by decide +kernel
theorem dX11_judge_47 : decode cX11_judge 47 = .ok (.ireturn, 1) := by decide +kernel
theorem dX11_tear_0 : decode cX11_tear 0 = .ok (.aload_n 0, 1) := by decide +kernel
theorem dX11_tear_1 : decode cX11_tear 1 = .ok (.getfield 209, 3) := by decide +kernel
theorem dX11_tear_4 : decode cX11_tear 4 = .ok (.aload_n 0, 1) := by decide +kernel
theorem dX11_tear_5 : decode cX11_tear 5 = .ok (.getfield 212, 3) := by decide +kernel
theorem dX11_tear_8 : decode cX11_tear 8 = .ok (.iadd, 1) := by decide +kernel
theorem dX11_tear_9 : decode cX11_tear 9 = .ok (.istore_n 1, 1) := by decide +kernel
theorem dX11_tear_10 : decode cX11_tear 10 = .ok (.aload_n 0, 1) := by decide +kernel
theorem dX11_tear_11 : decode cX11_tear 11 = .ok (.iconst 0, 1) := by decide +kernel
theorem dX11_tear_12 : decode cX11_tear 12 = .ok (.putfield 209, 3) := by decide +kernel
theorem dX11_tear_15 : decode cX11_tear 15 = .ok (.aload_n 0, 1) := by decide +kernel
theorem dX11_tear_16 : decode cX11_tear 16 = .ok (.iconst 0, 1) := by decide +kernel
theorem dX11_tear_17 : decode cX11_tear 17 = .ok (.putfield 212, 3) := by decide +kernel
theorem dX11_tear_20 : decode cX11_tear 20 = .ok (.iload_n 1, 1) := by decide +kernel
theorem dX11_tear_21 : decode cX11_tear 21 = .ok (.ireturn, 1) := by decide +kernel
theorem dX11_seed_0 : decode cX11_seed 0 = .ok (.iload_n 1, 1) := by decide +kernel
theorem dX11_seed_1 : decode cX11_seed 1 = .ok (.ifCond .ge 6, 3) := by decide +kernel
theorem dX11_seed_4 : decode cX11_seed 4 = .ok (.ldc 114, 2) := by decide +kernel
theorem dX11_seed_6 : decode cX11_seed 6 = .ok (.ireturn, 1) := by decide +kernel
theorem dX11_seed_7 : decode cX11_seed 7 = .ok (.aload_n 0, 1) := by decide +kernel
theorem dX11_seed_8 : decode cX11_seed 8 = .ok (.getfield 39, 3) := by decide +kernel
theorem dX11_seed_11 : decode cX11_seed 11 = .ok (.iconst 3, 1) := by decide +kernel
theorem dX11_seed_12 : decode cX11_seed 12 = .ok (.iaload, 1) := by decide +kernel
theorem dX11_seed_13 : decode cX11_seed 13 = .ok (.istore_n 2, 1) := by decide +kernel
theorem dX11_seed_14 : decode cX11_seed 14 = .ok (.aload_n 0, 1) := by decide +kernel
theorem dX11_seed_15 : decode cX11_seed 15 = .ok (.getfield 39, 3) := by decide +kernel
theorem dX11_seed_18 : decode cX11_seed 18 = .ok (.iconst 3, 1) := by decide +kernel
theorem dX11_seed_19 : decode cX11_seed 19 = .ok (.iload_n 1, 1) := by decide +kernel
theorem dX11_seed_20 : decode cX11_seed 20 = .ok (.iastore, 1) := by decide +kernel
theorem dX11_seed_21 : decode cX11_seed 21 = .ok (.iload_n 2, 1) := by decide +kernel
theorem dX11_seed_22 : decode cX11_seed 22 = .ok (.ireturn, 1) := by decide +kernel
theorem dX11_keep_0 : decode cX11_keep 0 = .ok (.iload_n 1, 1) := by decide +kernel
theorem dX11_keep_1 : decode cX11_keep 1 = .ok (.i2l, 1) := by decide +kernel
theorem dX11_keep_2 : decode cX11_keep 2 = .ok (.lconst 0, 1) := by decide +kernel
theorem dX11_keep_3 : decode cX11_keep 3 = .ok (.lconst 1, 1) := by decide +kernel
theorem dX11_keep_4 : decode cX11_keep 4 = .ok (.invokestatic 102, 3) := by decide +kernel
theorem dX11_keep_7 : decode cX11_keep 7 = .ok (.ifCond .ne 6, 3) := by decide +kernel
theorem dX11_keep_10 : decode cX11_keep 10 = .ok (.ldc 235, 2) := by decide +kernel
theorem dX11_keep_12 : decode cX11_keep 12 = .ok (.ireturn, 1) := by decide +kernel
theorem dX11_keep_13 : decode cX11_keep 13 = .ok (.iconst 0, 1) := by decide +kernel
theorem dX11_keep_14 : decode cX11_keep 14 = .ok (.istore_n 2, 1) := by decide +kernel
theorem dX11_keep_15 : decode cX11_keep 15 = .ok (.iload_n 2, 1) := by decide +kernel
theorem dX11_keep_16 : decode cX11_keep 16 = .ok (.bipush 10, 2) := by decide +kernel
theorem dX11_keep_18 : decode cX11_keep 18 = .ok (.if_icmp .ge 26, 3) := by decide +kernel
theorem dX11_keep_21 : decode cX11_keep 21 = .ok (.aload_n 0, 1) := by decide +kernel
theorem dX11_keep_22 : decode cX11_keep 22 = .ok (.getfield 96, 3) := by decide +kernel
theorem dX11_keep_25 : decode cX11_keep 25 = .ok (.bipush 10, 2) := by decide +kernel
theorem dX11_keep_27 : decode cX11_keep 27 = .ok (.iload_n 1, 1) := by decide +kernel
theorem dX11_keep_28 : decode cX11_keep 28 = .ok (.imul, 1) := by decide +kernel
theorem dX11_keep_29 : decode cX11_keep 29 = .ok (.iload_n 2, 1) := by decide +kernel
theorem dX11_keep_30 : decode cX11_keep 30 = .ok (.iadd, 1) := by decide +kernel
theorem dX11_keep_31 : decode cX11_keep 31 = .ok (.aload_n 0, 1) := by decide +kernel
theorem dX11_keep_32 : decode cX11_keep 32 = .ok (.getfield 39, 3) := by decide +kernel
theorem dX11_keep_35 : decode cX11_keep 35 = .ok (.iload_n 2, 1) := by decide +kernel
theorem dX11_keep_36 : decode cX11_keep 36 = .ok (.iaload, 1) := by decide +kernel
theorem dX11_keep_37 : decode cX11_keep 37 = .ok (.iastore, 1) := by decide +kernel
theorem dX11_keep_38 : decode cX11_keep 38 = .ok (.iinc 2 1, 3) := by decide +kernel
theorem dX11_keep_41 : decode cX11_keep 41 = .ok (.goto (-26), 3) := by decide +kernel
theorem dX11_keep_44 : decode cX11_keep 44 = .ok (.aload_n 0, 1) := by decide +kernel
theorem dX11_keep_45 : decode cX11_keep 45 = .ok (.getfield 93, 3) := by decide +kernel
theorem dX11_keep_48 : decode cX11_keep 48 = .ok (.iload_n 1, 1) := by decide +kernel
theorem dX11_keep_49 : decode cX11_keep 49 = .ok (.iconst 1, 1) := by decide +kernel
theorem dX11_keep_50 : decode cX11_keep 50 = .ok (.bastore, 1) := by decide +kernel
theorem dX11_keep_51 : decode cX11_keep 51 = .ok (.iconst 1, 1) := by decide +kernel
theorem dX11_keep_52 : decode cX11_keep 52 = .ok (.ireturn, 1) := by decide +kernel
theorem dX11_goBack_0 : decode cX11_goBack 0 = .ok (.iload_n 1, 1) := by decide +kernel
theorem dX11_goBack_1 : decode cX11_goBack 1 = .ok (.i2l, 1) := by decide +kernel
theorem dX11_goBack_2 : decode cX11_goBack 2 = .ok (.lconst 0, 1) := by decide +kernel
theorem dX11_goBack_3 : decode cX11_goBack 3 = .ok (.lconst 1, 1) := by decide +kernel
theorem dX11_goBack_4 : decode cX11_goBack 4 = .ok (.invokestatic 102, 3) := by decide +kernel
theorem dX11_goBack_7 : decode cX11_goBack 7 = .ok (.ifCond .ne 6, 3) := by decide +kernel
theorem dX11_goBack_10 : decode cX11_goBack 10 = .ok (.ldc 235, 2) := by decide +kernel
theorem dX11_goBack_12 : decode cX11_goBack 12 = .ok (.ireturn, 1) := by decide +kernel
theorem dX11_goBack_13 : decode cX11_goBack 13 = .ok (.aload_n 0, 1) := by decide +kernel
theorem dX11_goBack_14 : decode cX11_goBack 14 = .ok (.getfield 93, 3) := by decide +kernel
theorem dX11_goBack_17 : decode cX11_goBack 17 = .ok (.iload_n 1, 1) := by decide +kernel
theorem dX11_goBack_18 : decode cX11_goBack 18 = .ok (.baload, 1) := by decide +kernel
theorem dX11_goBack_19 : decode cX11_goBack 19 = .ok (.ifCond .ne 6, 3) := by decide +kernel
theorem dX11_goBack_22 : decode cX11_goBack 22 = .ok (.ldc 247, 2) := by decide +kernel
theorem dX11_goBack_24 : decode cX11_goBack 24 = .ok (.ireturn, 1) := by decide +kernel
theorem dX11_goBack_25 : decode cX11_goBack 25 = .ok (.iconst 0, 1) := by decide +kernel
theorem dX11_goBack_26 : decode cX11_goBack 26 = .ok (.istore_n 2, 1) := by decide +kernel
theorem dX11_goBack_27 : decode cX11_goBack 27 = .ok (.iload_n 2, 1) := by decide +kernel
theorem dX11_goBack_28 : decode cX11_goBack 28 = .ok (.bipush 10, 2) := by decide +kernel
theorem dX11_goBack_30 : decode cX11_goBack 30 = .ok (.if_icmp .ge 26, 3) := by decide +kernel
theorem dX11_goBack_33 : decode cX11_goBack 33 = .ok (.aload_n 0, 1) := by decide +kernel
theorem dX11_goBack_34 : decode cX11_goBack 34 = .ok (.getfield 39, 3) := by decide +kernel
theorem dX11_goBack_37 : decode cX11_goBack 37 = .ok (.iload_n 2, 1) := by decide +kernel
theorem dX11_goBack_38 : decode cX11_goBack 38 = .ok (.aload_n 0, 1) := by decide +kernel
theorem dX11_goBack_39 : decode cX11_goBack 39 = .ok (.getfield 96, 3) := by decide +kernel
theorem dX11_goBack_42 : decode cX11_goBack 42 = .ok (.bipush 10, 2) := by decide +kernel
theorem dX11_goBack_44 : decode cX11_goBack 44 = .ok (.iload_n 1, 1) := by decide +kernel
theorem dX11_goBack_45 : decode cX11_goBack 45 = .ok (.imul, 1) := by decide +kernel
theorem dX11_goBack_46 : decode cX11_goBack 46 = .ok (.iload_n 2, 1) := by decide +kernel
theorem dX11_goBack_47 : decode cX11_goBack 47 = .ok (.iadd, 1) := by decide +kernel
theorem dX11_goBack_48 : decode cX11_goBack 48 = .ok (.iaload, 1) := by decide +kernel
theorem dX11_goBack_49 : decode cX11_goBack 49 = .ok (.iastore, 1) := by decide +kernel
theorem dX11_goBack_50 : decode cX11_goBack 50 = .ok (.iinc 2 1, 3) := by decide +kernel
theorem dX11_goBack_53 : decode cX11_goBack 53 = .ok (.goto (-26), 3) := by decide +kernel
theorem dX11_goBack_56 : decode cX11_goBack 56 = .ok (.iconst 1, 1) := by decide +kernel
theorem dX11_goBack_57 : decode cX11_goBack 57 = .ok (.ireturn, 1) := by decide +kernel
theorem dJ11_isValidCodePoint_9a6ad_0 : decode cJ11_isValidCodePoint_9a6ad 0 = .ok (.iload_n 0, 1) := by decide +kernel
theorem dJ11_isValidCodePoint_9a6ad_1 : decode cJ11_isValidCodePoint_9a6ad 1 = .ok (.bipush 16, 2) := by decide +kernel
theorem dJ11_isValidCodePoint_9a6ad_3 : decode cJ11_isValidCodePoint_9a6ad 3 = .ok (.iushr, 1) := by decide +kernel
theorem dJ11_isValidCodePoint_9a6ad_4 : decode cJ11_isValidCodePoint_9a6ad 4 = .ok (.istore_n 1, 1) := by decide +kernel
theorem dJ11_isValidCodePoint_9a6ad_5 : decode cJ11_isValidCodePoint_9a6ad 5 = .ok (.iload_n 1, 1) := by decide +kernel
theorem dJ11_isValidCodePoint_9a6ad_6 : decode cJ11_isValidCodePoint_9a6ad 6 = .ok (.bipush 17, 2) := by decide +kernel
theorem dJ11_isValidCodePoint_9a6ad_8 : decode cJ11_isValidCodePoint_9a6ad 8 = .ok (.if_icmp .ge 7, 3) := by decide +kernel
theorem dJ11_isValidCodePoint_9a6ad_11 : decode cJ11_isValidCodePoint_9a6ad 11 = .ok (.iconst 1, 1) := by decide +kernel
theorem dJ11_isValidCodePoint_9a6ad_12 : decode cJ11_isValidCodePoint_9a6ad 12 = .ok (.goto 4, 3) := by decide +kernel
theorem dJ11_isValidCodePoint_9a6ad_15 : decode cJ11_isValidCodePoint_9a6ad 15 = .ok (.iconst 0, 1) := by decide +kernel
theorem dJ11_isValidCodePoint_9a6ad_16 : decode cJ11_isValidCodePoint_9a6ad 16 = .ok (.ireturn, 1) := by decide +kernel
theorem dJ11_highSurrogate_5068e_0 : decode cJ11_highSurrogate_5068e 0 = .ok (.iload_n 0, 1) := by decide +kernel
theorem dJ11_highSurrogate_5068e_1 : decode cJ11_highSurrogate_5068e 1 = .ok (.bipush 10, 2) := by decide +kernel
theorem dJ11_highSurrogate_5068e_3 : decode cJ11_highSurrogate_5068e 3 = .ok (.iushr, 1) := by decide +kernel
theorem dJ11_highSurrogate_5068e_4 : decode cJ11_highSurrogate_5068e 4 = .ok (.ldc 110, 2) := by decide +kernel
theorem dJ11_highSurrogate_5068e_6 : decode cJ11_highSurrogate_5068e 6 = .ok (.iadd, 1) := by decide +kernel
theorem dJ11_highSurrogate_5068e_7 : decode cJ11_highSurrogate_5068e 7 = .ok (.i2c, 1) := by decide +kernel
theorem dJ11_highSurrogate_5068e_8 : decode cJ11_highSurrogate_5068e 8 = .ok (.ireturn, 1) := by decide +kernel
theorem dJ11_lowSurrogate_5068e_0 : decode cJ11_lowSurrogate_5068e 0 = .ok (.iload_n 0, 1) := by decide +kernel
theorem dJ11_lowSurrogate_5068e_1 : decode cJ11_lowSurrogate_5068e 1 = .ok (.sipush 1023, 3) := by decide +kernel
theorem dJ11_lowSurrogate_5068e_4 : decode cJ11_lowSurrogate_5068e 4 = .ok (.iand, 1) := by decide +kernel
theorem dJ11_lowSurrogate_5068e_5 : decode cJ11_lowSurrogate_5068e 5 = .ok (.ldc 76, 2) := by decide +kernel
theorem dJ11_lowSurrogate_5068e_7 : decode cJ11_lowSurrogate_5068e 7 = .ok (.iadd, 1) := by decide +kernel
theorem dJ11_lowSurrogate_5068e_8 : decode cJ11_lowSurrogate_5068e 8 = .ok (.i2c, 1) := by decide +kernel
theorem dJ11_lowSurrogate_5068e_9 : decode cJ11_lowSurrogate_5068e 9 = .ok (.ireturn, 1) := by decide +kernel
theorem dJ9_max_7cf53_0 : decode cJ9_max_7cf53 0 = .ok (.iload_n 0, 1) := by decide +kernel
theorem dJ9_max_7cf53_1 : decode cJ9_max_7cf53 1 = .ok (.iload_n 1, 1) := by decide +kernel
theorem dJ9_max_7cf53_2 : decode cJ9_max_7cf53 2 = .ok (.if_icmp .lt 7, 3) := by decide +kernel
theorem dJ9_max_7cf53_5 : decode cJ9_max_7cf53 5 = .ok (.iload_n 0, 1) := by decide +kernel
theorem dJ9_max_7cf53_6 : decode cJ9_max_7cf53 6 = .ok (.goto 4, 3) := by decide +kernel
theorem dJ9_max_7cf53_9 : decode cJ9_max_7cf53 9 = .ok (.iload_n 1, 1) := by decide +kernel
theorem dJ9_max_7cf53_10 : decode cJ9_max_7cf53 10 = .ok (.ireturn, 1) := by decide +kernel
theorem dJ9_min_7cf53_0 : decode cJ9_min_7cf53 0 = .ok (.iload_n 0, 1) := by decide +kernel
theorem dJ9_min_7cf53_1 : decode cJ9_min_7cf53 1 = .ok (.iload_n 1, 1) := by decide +kernel
theorem dJ9_min_7cf53_2 : decode cJ9_min_7cf53 2 = .ok (.if_icmp .gt 7, 3) := by decide +kernel
theorem dJ9_min_7cf53_5 : decode cJ9_min_7cf53 5 = .ok (.iload_n 0, 1) := by decide +kernel
theorem dJ9_min_7cf53_6 : decode cJ9_min_7cf53 6 = .ok (.goto 4, 3) := by decide +kernel
theorem dJ9_min_7cf53_9 : decode cJ9_min_7cf53 9 = .ok (.iload_n 1, 1) := by decide +kernel
theorem dJ9_min_7cf53_10 : decode cJ9_min_7cf53 10 = .ok (.ireturn, 1) := by decide +kernel
theorem dJ0_length_8abf5_0 : decode cJ0_length_8abf5 0 = .ok (.aload_n 0, 1) := by decide +kernel
theorem dJ0_length_8abf5_1 : decode cJ0_length_8abf5 1 = .ok (.getfield 9, 3) := by decide +kernel
theorem dJ0_length_8abf5_4 : decode cJ0_length_8abf5 4 = .ok (.arraylength, 1) := by decide +kernel
theorem dJ0_length_8abf5_5 : decode cJ0_length_8abf5 5 = .ok (.aload_n 0, 1) := by decide +kernel
theorem dJ0_length_8abf5_6 : decode cJ0_length_8abf5 6 = .ok (.invokevirtual 335, 3) := by decide +kernel
theorem dJ0_length_8abf5_9 : decode cJ0_length_8abf5 9 = .ok (.ishr, 1) := by decide +kernel
theorem dJ0_length_8abf5_10 : decode cJ0_length_8abf5 10 = .ok (.ireturn, 1) := by decide +kernel
theorem dJ0_indexOf_0f7a4_0 : decode cJ0_indexOf_0f7a4 0 = .ok (.aload_n 0, 1) := by decide +kernel
theorem dJ0_indexOf_0f7a4_1 : decode cJ0_indexOf_0f7a4 1 = .ok (.iload_n 1, 1) := by decide +kernel
theorem dJ0_indexOf_0f7a4_2 : decode cJ0_indexOf_0f7a4 2 = .ok (.iconst 0, 1) := by decide +kernel
theorem dJ0_indexOf_0f7a4_3 : decode cJ0_indexOf_0f7a4 3 = .ok (.invokevirtual 633, 3) := by decide +kernel
theorem dJ0_indexOf_0f7a4_6 : decode cJ0_indexOf_0f7a4 6 = .ok (.ireturn, 1) := by decide +kernel
theorem dJ0_indexOf_7cf53_0 : decode cJ0_indexOf_7cf53 0 = .ok (.aload_n 0, 1) := by decide +kernel
theorem dJ0_indexOf_7cf53_1 : decode cJ0_indexOf_7cf53 1 = .ok (.invokevirtual 492, 3) := by decide +kernel
theorem dJ0_indexOf_7cf53_4 : decode cJ0_indexOf_7cf53 4 = .ok (.ifCond .eq 19, 3) := by decide +kernel
theorem dJ0_indexOf_7cf53_7 : decode cJ0_indexOf_7cf53 7 = .ok (.aload_n 0, 1) := by decide +kernel
theorem dJ0_indexOf_7cf53_8 : decode cJ0_indexOf_7cf53 8 = .ok (.getfield 9, 3) := by decide +kernel
theorem dJ0_indexOf_7cf53_11 : decode cJ0_indexOf_7cf53 11 = .ok (.iload_n 1, 1) := by decide +kernel
theorem dJ0_indexOf_7cf53_12 : decode cJ0_indexOf_7cf53 12 = .ok (.iload_n 2, 1) := by decide +kernel
theorem dJ0_indexOf_7cf53_13 : decode cJ0_indexOf_7cf53 13 = .ok (.aload_n 0, 1) := by decide +kernel
theorem dJ0_indexOf_7cf53_14 : decode cJ0_indexOf_7cf53 14 = .ok (.invokevirtual 505, 3) := by decide +kernel
theorem dJ0_indexOf_7cf53_17 : decode cJ0_indexOf_7cf53 17 = .ok (.invokestatic 637, 3) := by decide +kernel
theorem dJ0_indexOf_7cf53_20 : decode cJ0_indexOf_7cf53 20 = .ok (.goto 16, 3) := by decide +kernel
theorem dJ0_indexOf_7cf53_23 : decode cJ0_indexOf_7cf53 23 = .ok (.aload_n 0, 1) := by decide +kernel
theorem dJ0_indexOf_7cf53_24 : decode cJ0_indexOf_7cf53 24 = .ok (.getfield 9, 3) := by decide +kernel
theorem dJ0_indexOf_7cf53_27 : decode cJ0_indexOf_7cf53 27 = .ok (.iload_n 1, 1) := by decide +kernel
theorem dJ0_indexOf_7cf53_28 : decode cJ0_indexOf_7cf53 28 = .ok (.iload_n 2, 1) := by decide +kernel
theorem dJ0_indexOf_7cf53_29 : decode cJ0_indexOf_7cf53 29 = .ok (.aload_n 0, 1) := by decide +kernel
theorem dJ0_indexOf_7cf53_30 : decode cJ0_indexOf_7cf53 30 = .ok (.invokevirtual 505, 3) := by decide +kernel
theorem dJ0_indexOf_7cf53_33 : decode cJ0_indexOf_7cf53 33 = .ok (.invokestatic 640, 3) := by decide +kernel
theorem dJ0_indexOf_7cf53_36 : decode cJ0_indexOf_7cf53 36 = .ok (.ireturn, 1) := by decide +kernel
theorem dJ0_coder_7d493_0 : decode cJ0_coder_7d493 0 = .ok (.getstatic 38, 3) := by decide +kernel
theorem dJ0_coder_7d493_3 : decode cJ0_coder_7d493 3 = .ok (.ifCond .eq 10, 3) := by decide +kernel
theorem dJ0_coder_7d493_6 : decode cJ0_coder_7d493 6 = .ok (.aload_n 0, 1) := by decide +kernel
theorem dJ0_coder_7d493_7 : decode cJ0_coder_7d493 7 = .ok (.getfield 15, 3) := by decide +kernel
theorem dJ0_coder_7d493_10 : decode cJ0_coder_7d493 10 = .ok (.goto 4, 3) := by decide +kernel
theorem dJ0_coder_7d493_13 : decode cJ0_coder_7d493 13 = .ok (.iconst 1, 1) := by decide +kernel
theorem dJ0_coder_7d493_14 : decode cJ0_coder_7d493 14 = .ok (.ireturn, 1) := by decide +kernel
theorem dJ0_isLatin1_aae02_0 : decode cJ0_isLatin1_aae02 0 = .ok (.getstatic 38, 3) := by decide +kernel
theorem dJ0_isLatin1_aae02_3 : decode cJ0_isLatin1_aae02 3 = .ok (.ifCond .eq 14, 3) := by decide +kernel
theorem dJ0_isLatin1_aae02_6 : decode cJ0_isLatin1_aae02 6 = .ok (.aload_n 0, 1) := by decide +kernel
theorem dJ0_isLatin1_aae02_7 : decode cJ0_isLatin1_aae02 7 = .ok (.getfield 15, 3) := by decide +kernel
theorem dJ0_isLatin1_aae02_10 : decode cJ0_isLatin1_aae02 10 = .ok (.ifCond .ne 7, 3) := by decide +kernel
theorem dJ0_isLatin1_aae02_13 : decode cJ0_isLatin1_aae02 13 = .ok (.iconst 1, 1) := by decide +kernel
theorem dJ0_isLatin1_aae02_14 : decode cJ0_isLatin1_aae02 14 = .ok (.goto 4, 3) := by decide +kernel
theorem dJ0_isLatin1_aae02_17 : decode cJ0_isLatin1_aae02 17 = .ok (.iconst 0, 1) := by decide +kernel
theorem dJ0_isLatin1_aae02_18 : decode cJ0_isLatin1_aae02 18 = .ok (.ireturn, 1) := by decide +kernel
theorem dJ0_checkBoundsBeginEnd_23922_0 : decode cJ0_checkBoundsBeginEnd_23922 0 = .ok (.iload_n 0, 1) := by decide +kernel
theorem dJ0_checkBoundsBeginEnd_23922_1 : decode cJ0_checkBoundsBeginEnd_23922 1 = .ok (.iload_n 1, 1) := by decide +kernel
theorem dJ0_checkBoundsBeginEnd_23922_2 : decode cJ0_checkBoundsBeginEnd_23922 2 = .ok (.iload_n 2, 1) := by decide +kernel
theorem dJ0_checkBoundsBeginEnd_23922_3 : decode cJ0_checkBoundsBeginEnd_23922 3 = .ok (.getstatic 1053, 3) := by decide +kernel
theorem dJ0_checkBoundsBeginEnd_23922_6 : decode cJ0_checkBoundsBeginEnd_23922 6 = .ok (.invokestatic 1062, 3) := by decide +kernel
theorem dJ0_checkBoundsBeginEnd_23922_9 : decode cJ0_checkBoundsBeginEnd_23922 9 = .ok (.pop, 1) := by decide +kernel
theorem dJ0_checkBoundsBeginEnd_23922_10 : decode cJ0_checkBoundsBeginEnd_23922 10 = .ok (.return_, 1) := by decide +kernel
theorem dJ1_canEncode_9a6ad_0 : decode cJ1_canEncode_9a6ad 0 = .ok (.iload_n 0, 1) := by decide +kernel
theorem dJ1_canEncode_9a6ad_1 : decode cJ1_canEncode_9a6ad 1 = .ok (.ifCond .lt 14, 3) := by decide +kernel
theorem dJ1_canEncode_9a6ad_4 : decode cJ1_canEncode_9a6ad 4 = .ok (.iload_n 0, 1) := by decide +kernel
theorem dJ1_canEncode_9a6ad_5 : decode cJ1_canEncode_9a6ad 5 = .ok (.sipush 255, 3) := by decide +kernel
theorem dJ1_canEncode_9a6ad_8 : decode cJ1_canEncode_9a6ad 8 = .ok (.if_icmp .gt 7, 3) := by decide +kernel
theorem dJ1_canEncode_9a6ad_11 : decode cJ1_canEncode_9a6ad 11 = .ok (.iconst 1, 1) := by decide +kernel
theorem dJ1_canEncode_9a6ad_12 : decode cJ1_canEncode_9a6ad 12 = .ok (.goto 4, 3) := by decide +kernel
theorem dJ1_canEncode_9a6ad_15 : decode cJ1_canEncode_9a6ad 15 = .ok (.iconst 0, 1) := by decide +kernel
theorem dJ1_canEncode_9a6ad_16 : decode cJ1_canEncode_9a6ad 16 = .ok (.ireturn, 1) := by decide +kernel
theorem dJ1_indexOf_4cfef_0 : decode cJ1_indexOf_4cfef 0 = .ok (.iload_n 1, 1) := by decide +kernel
theorem dJ1_indexOf_4cfef_1 : decode cJ1_indexOf_4cfef 1 = .ok (.invokestatic 88, 3) := by decide +kernel
theorem dJ1_indexOf_4cfef_4 : decode cJ1_indexOf_4cfef 4 = .ok (.ifCond .ne 5, 3) := by decide +kernel
theorem dJ1_indexOf_4cfef_7 : decode cJ1_indexOf_4cfef 7 = .ok (.iconst (-1), 1) := by decide +kernel
theorem dJ1_indexOf_4cfef_8 : decode cJ1_indexOf_4cfef 8 = .ok (.ireturn, 1) := by decide +kernel
theorem dJ1_indexOf_4cfef_9 : decode cJ1_indexOf_4cfef 9 = .ok (.iload_n 2, 1) := by decide +kernel
theorem dJ1_indexOf_4cfef_10 : decode cJ1_indexOf_4cfef 10 = .ok (.iconst 0, 1) := by decide +kernel
theorem dJ1_indexOf_4cfef_11 : decode cJ1_indexOf_4cfef 11 = .ok (.invokestatic 92, 3) := by decide +kernel
theorem dJ1_indexOf_4cfef_14 : decode cJ1_indexOf_4cfef 14 = .ok (.istore_n 2, 1) := by decide +kernel
theorem dJ1_indexOf_4cfef_15 : decode cJ1_indexOf_4cfef 15 = .ok (.iload_n 3, 1) := by decide +kernel
theorem dJ1_indexOf_4cfef_16 : decode cJ1_indexOf_4cfef 16 = .ok (.aload_n 0, 1) := by decide +kernel
theorem dJ1_indexOf_4cfef_17 : decode cJ1_indexOf_4cfef 17 = .ok (.arraylength, 1) := by decide +kernel
theorem dJ1_indexOf_4cfef_18 : decode cJ1_indexOf_4cfef 18 = .ok (.invokestatic 38, 3) := by decide +kernel
theorem dJ1_indexOf_4cfef_21 : decode cJ1_indexOf_4cfef 21 = .ok (.istore_n 3, 1) := by decide +kernel
theorem dJ1_indexOf_4cfef_22 : decode cJ1_indexOf_4cfef 22 = .ok (.iload_n 2, 1) := by decide +kernel
theorem dJ1_indexOf_4cfef_23 : decode cJ1_indexOf_4cfef 23 = .ok (.iload_n 3, 1) := by decide +kernel
theorem dJ1_indexOf_4cfef_24 : decode cJ1_indexOf_4cfef 24 = .ok (.if_icmp .lt 5, 3) := by decide +kernel
theorem dJ1_indexOf_4cfef_27 : decode cJ1_indexOf_4cfef 27 = .ok (.iconst (-1), 1) := by decide +kernel
theorem dJ1_indexOf_4cfef_28 : decode cJ1_indexOf_4cfef 28 = .ok (.ireturn, 1) := by decide +kernel
theorem dJ1_indexOf_4cfef_29 : decode cJ1_indexOf_4cfef 29 = .ok (.aload_n 0, 1) := by decide +kernel
theorem dJ1_indexOf_4cfef_30 : decode cJ1_indexOf_4cfef 30 = .ok (.iload_n 1, 1) := by decide +kernel
theorem dJ1_indexOf_4cfef_31 : decode cJ1_indexOf_4cfef 31 = .ok (.iload_n 2, 1) := by decide +kernel
theorem dJ1_indexOf_4cfef_32 : decode cJ1_indexOf_4cfef 32 = .ok (.iload_n 3, 1) := by decide +kernel
theorem dJ1_indexOf_4cfef_33 : decode cJ1_indexOf_4cfef 33 = .ok (.invokestatic 95, 3) := by decide +kernel
theorem dJ1_indexOf_4cfef_36 : decode cJ1_indexOf_4cfef 36 = .ok (.ireturn, 1) := by decide +kernel
theorem dJ1_indexOfChar_4cfef_0 : decode cJ1_indexOfChar_4cfef 0 = .ok (.iload_n 1, 1) := by decide +kernel
theorem dJ1_indexOfChar_4cfef_1 : decode cJ1_indexOfChar_4cfef 1 = .ok (.i2b, 1) := by decide +kernel
theorem dJ1_indexOfChar_4cfef_2 : decode cJ1_indexOfChar_4cfef 2 = .ok (.istore 4, 2) := by decide +kernel
theorem dJ1_indexOfChar_4cfef_4 : decode cJ1_indexOfChar_4cfef 4 = .ok (.iload_n 2, 1) := by decide +kernel
theorem dJ1_indexOfChar_4cfef_5 : decode cJ1_indexOfChar_4cfef 5 = .ok (.istore 5, 2) := by decide +kernel
theorem dJ1_indexOfChar_4cfef_7 : decode cJ1_indexOfChar_4cfef 7 = .ok (.iload 5, 2) := by decide +kernel
theorem dJ1_indexOfChar_4cfef_9 : decode cJ1_indexOfChar_4cfef 9 = .ok (.iload_n 3, 1) := by decide +kernel
theorem dJ1_indexOfChar_4cfef_10 : decode cJ1_indexOfChar_4cfef 10 = .ok (.if_icmp .ge 21, 3) := by decide +kernel
theorem dJ1_indexOfChar_4cfef_13 : decode cJ1_indexOfChar_4cfef 13 = .ok (.aload_n 0, 1) := by decide +kernel
theorem dJ1_indexOfChar_4cfef_14 : decode cJ1_indexOfChar_4cfef 14 = .ok (.iload 5, 2) := by decide +kernel
theorem dJ1_indexOfChar_4cfef_16 : decode cJ1_indexOfChar_4cfef 16 = .ok (.baload, 1) := by decide +kernel
theorem dJ1_indexOfChar_4cfef_17 : decode cJ1_indexOfChar_4cfef 17 = .ok (.iload 4, 2) := by decide +kernel
theorem dJ1_indexOfChar_4cfef_19 : decode cJ1_indexOfChar_4cfef 19 = .ok (.if_icmp .ne 6, 3) := by decide +kernel
theorem dJ1_indexOfChar_4cfef_22 : decode cJ1_indexOfChar_4cfef 22 = .ok (.iload 5, 2) := by decide +kernel
theorem dJ1_indexOfChar_4cfef_24 : decode cJ1_indexOfChar_4cfef 24 = .ok (.ireturn, 1) := by decide +kernel
theorem dJ1_indexOfChar_4cfef_25 : decode cJ1_indexOfChar_4cfef 25 = .ok (.iinc 5 1, 3) := by decide +kernel
theorem dJ1_indexOfChar_4cfef_28 : decode cJ1_indexOfChar_4cfef 28 = .ok (.goto (-21), 3) := by decide +kernel
theorem dJ1_indexOfChar_4cfef_31 : decode cJ1_indexOfChar_4cfef 31 = .ok (.iconst (-1), 1) := by decide +kernel
theorem dJ1_indexOfChar_4cfef_32 : decode cJ1_indexOfChar_4cfef 32 = .ok (.ireturn, 1) := by decide +kernel
theorem dJ2_getChar_3b067_0 : decode cJ2_getChar_3b067 0 = .ok (.getstatic 44, 3) := by decide +kernel
theorem dJ2_getChar_3b067_3 : decode cJ2_getChar_3b067 3 = .ok (.ifCond .ne 25, 3) := by decide +kernel
theorem dJ2_getChar_3b067_6 : decode cJ2_getChar_3b067 6 = .ok (.iload_n 1, 1) := by decide +kernel
theorem dJ2_getChar_3b067_7 : decode cJ2_getChar_3b067 7 = .ok (.ifCond .lt 11, 3) := by decide +kernel
theorem dJ2_getChar_3b067_10 : decode cJ2_getChar_3b067 10 = .ok (.iload_n 1, 1) := by decide +kernel
theorem dJ2_getChar_3b067_11 : decode cJ2_getChar_3b067 11 = .ok (.aload_n 0, 1) := by decide +kernel
theorem dJ2_getChar_3b067_12 : decode cJ2_getChar_3b067 12 = .ok (.invokestatic 48, 3) := by decide +kernel
theorem dJ2_getChar_3b067_15 : decode cJ2_getChar_3b067 15 = .ok (.if_icmp .lt 13, 3) := by decide +kernel
theorem dJ2_getChar_3b067_18 : decode cJ2_getChar_3b067 18 = .ok (.new 52, 3) := by decide +kernel
theorem dJ2_getChar_3b067_21 : decode cJ2_getChar_3b067 21 = .ok (.dup, 1) := by decide +kernel
theorem dJ2_getChar_3b067_22 : decode cJ2_getChar_3b067 22 = .ok (.ldc 54, 2) := by decide +kernel
theorem dJ2_getChar_3b067_24 : decode cJ2_getChar_3b067 24 = .ok (.invokespecial 56, 3) := by decide +kernel
theorem dJ2_getChar_3b067_27 : decode cJ2_getChar_3b067 27 = .ok (.athrow, 1) := by decide +kernel
theorem dJ2_getChar_3b067_28 : decode cJ2_getChar_3b067 28 = .ok (.iload_n 1, 1) := by decide +kernel
theorem dJ2_getChar_3b067_29 : decode cJ2_getChar_3b067 29 = .ok (.iconst 1, 1) := by decide +kernel
theorem dJ2_getChar_3b067_30 : decode cJ2_getChar_3b067 30 = .ok (.ishl, 1) := by decide +kernel
theorem dJ2_getChar_3b067_31 : decode cJ2_getChar_3b067 31 = .ok (.istore_n 1, 1) := by decide +kernel
theorem dJ2_getChar_3b067_32 : decode cJ2_getChar_3b067 32 = .ok (.aload_n 0, 1) := by decide +kernel
theorem dJ2_getChar_3b067_33 : decode cJ2_getChar_3b067 33 = .ok (.iload_n 1, 1) := by decide +kernel
theorem dJ2_getChar_3b067_34 : decode cJ2_getChar_3b067 34 = .ok (.iinc 1 1, 3) := by decide +kernel
theorem dJ2_getChar_3b067_37 : decode cJ2_getChar_3b067 37 = .ok (.baload, 1) := by decide +kernel
theorem dJ2_getChar_3b067_38 : decode cJ2_getChar_3b067 38 = .ok (.sipush 255, 3) := by decide +kernel
theorem dJ2_getChar_3b067_41 : decode cJ2_getChar_3b067 41 = .ok (.iand, 1) := by decide +kernel
theorem dJ2_getChar_3b067_42 : decode cJ2_getChar_3b067 42 = .ok (.getstatic 59, 3) := by decide +kernel
theorem dJ2_getChar_3b067_45 : decode cJ2_getChar_3b067 45 = .ok (.ishl, 1) := by decide +kernel
theorem dJ2_getChar_3b067_46 : decode cJ2_getChar_3b067 46 = .ok (.aload_n 0, 1) := by decide +kernel
theorem dJ2_getChar_3b067_47 : decode cJ2_getChar_3b067 47 = .ok (.iload_n 1, 1) := by decide +kernel
theorem dJ2_getChar_3b067_48 : decode cJ2_getChar_3b067 48 = .ok (.baload, 1) := by decide +kernel
theorem dJ2_getChar_3b067_49 : decode cJ2_getChar_3b067 49 = .ok (.sipush 255, 3) := by decide +kernel
theorem dJ2_getChar_3b067_52 : decode cJ2_getChar_3b067 52 = .ok (.iand, 1) := by decide +kernel
theorem dJ2_getChar_3b067_53 : decode cJ2_getChar_3b067 53 = .ok (.getstatic 63, 3) := by decide +kernel
theorem dJ2_getChar_3b067_56 : decode cJ2_getChar_3b067 56 = .ok (.ishl, 1) := by decide +kernel
theorem dJ2_getChar_3b067_57 : decode cJ2_getChar_3b067 57 = .ok (.ior, 1) := by decide +kernel
theorem dJ2_getChar_3b067_58 : decode cJ2_getChar_3b067 58 = .ok (.i2c, 1) := by decide +kernel
theorem dJ2_getChar_3b067_59 : decode cJ2_getChar_3b067 59 = .ok (.ireturn, 1) := by decide +kernel
theorem dJ2_length_9d52b_0 : decode cJ2_length_9d52b 0 = .ok (.aload_n 0, 1) := by decide +kernel
theorem dJ2_length_9d52b_1 : decode cJ2_length_9d52b 1 = .ok (.arraylength, 1) := by decide +kernel
theorem dJ2_length_9d52b_2 : decode cJ2_length_9d52b 2 = .ok (.iconst 1, 1) := by decide +kernel
theorem dJ2_length_9d52b_3 : decode cJ2_length_9d52b 3 = .ok (.ishr, 1) := by decide +kernel
theorem dJ2_length_9d52b_4 : decode cJ2_length_9d52b 4 = .ok (.ireturn, 1) := by decide +kernel
theorem dJ2_indexOf_4cfef_0 : decode cJ2_indexOf_4cfef 0 = .ok (.iload_n 2, 1) := by decide +kernel
theorem dJ2_indexOf_4cfef_1 : decode cJ2_indexOf_4cfef 1 = .ok (.iconst 0, 1) := by decide +kernel
theorem dJ2_indexOf_4cfef_2 : decode cJ2_indexOf_4cfef 2 = .ok (.invokestatic 224, 3) := by decide +kernel
theorem dJ2_indexOf_4cfef_5 : decode cJ2_indexOf_4cfef 5 = .ok (.istore_n 2, 1) := by decide +kernel
theorem dJ2_indexOf_4cfef_6 : decode cJ2_indexOf_4cfef 6 = .ok (.iload_n 3, 1) := by decide +kernel
theorem dJ2_indexOf_4cfef_7 : decode cJ2_indexOf_4cfef 7 = .ok (.aload_n 0, 1) := by decide +kernel
theorem dJ2_indexOf_4cfef_8 : decode cJ2_indexOf_4cfef 8 = .ok (.arraylength, 1) := by decide +kernel
theorem dJ2_indexOf_4cfef_9 : decode cJ2_indexOf_4cfef 9 = .ok (.iconst 1, 1) := by decide +kernel
theorem dJ2_indexOf_4cfef_10 : decode cJ2_indexOf_4cfef 10 = .ok (.ishr, 1) := by decide +kernel
theorem dJ2_indexOf_4cfef_11 : decode cJ2_indexOf_4cfef 11 = .ok (.invokestatic 183, 3) := by decide +kernel
theorem dJ2_indexOf_4cfef_14 : decode cJ2_indexOf_4cfef 14 = .ok (.istore_n 3, 1) := by decide +kernel
theorem dJ2_indexOf_4cfef_15 : decode cJ2_indexOf_4cfef 15 = .ok (.iload_n 2, 1) := by decide +kernel
theorem dJ2_indexOf_4cfef_16 : decode cJ2_indexOf_4cfef 16 = .ok (.iload_n 3, 1) := by decide +kernel
theorem dJ2_indexOf_4cfef_17 : decode cJ2_indexOf_4cfef 17 = .ok (.if_icmp .lt 5, 3) := by decide +kernel
theorem dJ2_indexOf_4cfef_20 : decode cJ2_indexOf_4cfef 20 = .ok (.iconst (-1), 1) := by decide +kernel
theorem dJ2_indexOf_4cfef_21 : decode cJ2_indexOf_4cfef 21 = .ok (.ireturn, 1) := by decide +kernel
theorem dJ2_indexOf_4cfef_22 : decode cJ2_indexOf_4cfef 22 = .ok (.iload_n 1, 1) := by decide +kernel
theorem dJ2_indexOf_4cfef_23 : decode cJ2_indexOf_4cfef 23 = .ok (.ldc 227, 2) := by decide +kernel
theorem dJ2_indexOf_4cfef_25 : decode cJ2_indexOf_4cfef 25 = .ok (.if_icmp .ge 11, 3) := by decide +kernel
theorem dJ2_indexOf_4cfef_28 : decode cJ2_indexOf_4cfef 28 = .ok (.aload_n 0, 1) := by decide +kernel
theorem dJ2_indexOf_4cfef_29 : decode cJ2_indexOf_4cfef 29 = .ok (.iload_n 1, 1) := by decide +kernel
theorem dJ2_indexOf_4cfef_30 : decode cJ2_indexOf_4cfef 30 = .ok (.iload_n 2, 1) := by decide +kernel
theorem dJ2_indexOf_4cfef_31 : decode cJ2_indexOf_4cfef 31 = .ok (.iload_n 3, 1) := by decide +kernel
theorem dJ2_indexOf_4cfef_32 : decode cJ2_indexOf_4cfef 32 = .ok (.invokestatic 228, 3) := by decide +kernel
theorem dJ2_indexOf_4cfef_35 : decode cJ2_indexOf_4cfef 35 = .ok (.ireturn, 1) := by decide +kernel
theorem dJ2_indexOf_4cfef_36 : decode cJ2_indexOf_4cfef 36 = .ok (.aload_n 0, 1) := by decide +kernel
theorem dJ2_indexOf_4cfef_37 : decode cJ2_indexOf_4cfef 37 = .ok (.iload_n 1, 1) := by decide +kernel
theorem dJ2_indexOf_4cfef_38 : decode cJ2_indexOf_4cfef 38 = .ok (.iload_n 2, 1) := by decide +kernel
theorem dJ2_indexOf_4cfef_39 : decode cJ2_indexOf_4cfef 39 = .ok (.iload_n 3, 1) := by decide +kernel
theorem dJ2_indexOf_4cfef_40 : decode cJ2_indexOf_4cfef 40 = .ok (.invokestatic 232, 3) := by decide +kernel
theorem dJ2_indexOf_4cfef_43 : decode cJ2_indexOf_4cfef 43 = .ok (.ireturn, 1) := by decide +kernel
theorem dJ2_indexOfChar_4cfef_0 : decode cJ2_indexOfChar_4cfef 0 = .ok (.iload_n 2, 1) := by decide +kernel
theorem dJ2_indexOfChar_4cfef_1 : decode cJ2_indexOfChar_4cfef 1 = .ok (.iload_n 3, 1) := by decide +kernel
theorem dJ2_indexOfChar_4cfef_2 : decode cJ2_indexOfChar_4cfef 2 = .ok (.aload_n 0, 1) := by decide +kernel
theorem dJ2_indexOfChar_4cfef_3 : decode cJ2_indexOfChar_4cfef 3 = .ok (.invokestatic 96, 3) := by decide +kernel
theorem dJ2_indexOfChar_4cfef_6 : decode cJ2_indexOfChar_4cfef 6 = .ok (.aload_n 0, 1) := by decide +kernel
theorem dJ2_indexOfChar_4cfef_7 : decode cJ2_indexOfChar_4cfef 7 = .ok (.iload_n 1, 1) := by decide +kernel
theorem dJ2_indexOfChar_4cfef_8 : decode cJ2_indexOfChar_4cfef 8 = .ok (.iload_n 2, 1) := by decide +kernel
theorem dJ2_indexOfChar_4cfef_9 : decode cJ2_indexOfChar_4cfef 9 = .ok (.iload_n 3, 1) := by decide +kernel
theorem dJ2_indexOfChar_4cfef_10 : decode cJ2_indexOfChar_4cfef 10 = .ok (.invokestatic 244, 3) := by decide +kernel
theorem dJ2_indexOfChar_4cfef_13 : decode cJ2_indexOfChar_4cfef 13 = .ok (.ireturn, 1) := by decide +kernel
theorem dJ2_indexOfCharUnsafe_4cfef_0 : decode cJ2_indexOfCharUnsafe_4cfef 0 = .ok (.iload_n 2, 1) := by decide +kernel
theorem dJ2_indexOfCharUnsafe_4cfef_1 : decode cJ2_indexOfCharUnsafe_4cfef 1 = .ok (.istore 4, 2) := by decide +kernel
theorem dJ2_indexOfCharUnsafe_4cfef_3 : decode cJ2_indexOfCharUnsafe_4cfef 3 = .ok (.iload 4, 2) := by decide +kernel
theorem dJ2_indexOfCharUnsafe_4cfef_5 : decode cJ2_indexOfCharUnsafe_4cfef 5 = .ok (.iload_n 3, 1) := by decide +kernel
theorem dJ2_indexOfCharUnsafe_4cfef_6 : decode cJ2_indexOfCharUnsafe_4cfef 6 = .ok (.if_icmp .ge 22, 3) := by decide +kernel
theorem dJ2_indexOfCharUnsafe_4cfef_9 : decode cJ2_indexOfCharUnsafe_4cfef 9 = .ok (.aload_n 0, 1) := by decide +kernel
theorem dJ2_indexOfCharUnsafe_4cfef_10 : decode cJ2_indexOfCharUnsafe_4cfef 10 = .ok (.iload 4, 2) := by decide +kernel
theorem dJ2_indexOfCharUnsafe_4cfef_12 : decode cJ2_indexOfCharUnsafe_4cfef 12 = .ok (.invokestatic 71, 3) := by decide +kernel
theorem dJ2_indexOfCharUnsafe_4cfef_15 : decode cJ2_indexOfCharUnsafe_4cfef 15 = .ok (.iload_n 1, 1) := by decide +kernel
theorem dJ2_indexOfCharUnsafe_4cfef_16 : decode cJ2_indexOfCharUnsafe_4cfef 16 = .ok (.if_icmp .ne 6, 3) := by decide +kernel
theorem dJ2_indexOfCharUnsafe_4cfef_19 : decode cJ2_indexOfCharUnsafe_4cfef 19 = .ok (.iload 4, 2) := by decide +kernel
theorem dJ2_indexOfCharUnsafe_4cfef_21 : decode cJ2_indexOfCharUnsafe_4cfef 21 = .ok (.ireturn, 1) := by decide +kernel
theorem dJ2_indexOfCharUnsafe_4cfef_22 : decode cJ2_indexOfCharUnsafe_4cfef 22 = .ok (.iinc 4 1, 3) := by decide +kernel
theorem dJ2_indexOfCharUnsafe_4cfef_25 : decode cJ2_indexOfCharUnsafe_4cfef 25 = .ok (.goto (-22), 3) := by decide +kernel
theorem dJ2_indexOfCharUnsafe_4cfef_28 : decode cJ2_indexOfCharUnsafe_4cfef 28 = .ok (.iconst (-1), 1) := by decide +kernel
theorem dJ2_indexOfCharUnsafe_4cfef_29 : decode cJ2_indexOfCharUnsafe_4cfef 29 = .ok (.ireturn, 1) := by decide +kernel
theorem dJ2_indexOfSupplementary_4cfef_0 : decode cJ2_indexOfSupplementary_4cfef 0 = .ok (.iload_n 1, 1) := by decide +kernel
theorem dJ2_indexOfSupplementary_4cfef_1 : decode cJ2_indexOfSupplementary_4cfef 1 = .ok (.invokestatic 164, 3) := by decide +kernel
theorem dJ2_indexOfSupplementary_4cfef_4 : decode cJ2_indexOfSupplementary_4cfef 4 = .ok (.ifCond .eq 65, 3) := by decide +kernel
theorem dJ2_indexOfSupplementary_4cfef_7 : decode cJ2_indexOfSupplementary_4cfef 7 = .ok (.iload_n 1, 1) := by decide +kernel
theorem dJ2_indexOfSupplementary_4cfef_8 : decode cJ2_indexOfSupplementary_4cfef 8 = .ok (.invokestatic 157, 3) := by decide +kernel
theorem dJ2_indexOfSupplementary_4cfef_11 : decode cJ2_indexOfSupplementary_4cfef 11 = .ok (.istore 4, 2) := by decide +kernel
theorem dJ2_indexOfSupplementary_4cfef_13 : decode cJ2_indexOfSupplementary_4cfef 13 = .ok (.iload_n 1, 1) := by decide +kernel
theorem dJ2_indexOfSupplementary_4cfef_14 : decode cJ2_indexOfSupplementary_4cfef 14 = .ok (.invokestatic 161, 3) := by decide +kernel
theorem dJ2_indexOfSupplementary_4cfef_17 : decode cJ2_indexOfSupplementary_4cfef 17 = .ok (.istore 5, 2) := by decide +kernel
theorem dJ2_indexOfSupplementary_4cfef_19 : decode cJ2_indexOfSupplementary_4cfef 19 = .ok (.iload_n 2, 1) := by decide +kernel
theorem dJ2_indexOfSupplementary_4cfef_20 : decode cJ2_indexOfSupplementary_4cfef 20 = .ok (.iload_n 3, 1) := by decide +kernel
theorem dJ2_indexOfSupplementary_4cfef_21 : decode cJ2_indexOfSupplementary_4cfef 21 = .ok (.aload_n 0, 1) := by decide +kernel
theorem dJ2_indexOfSupplementary_4cfef_22 : decode cJ2_indexOfSupplementary_4cfef 22 = .ok (.invokestatic 96, 3) := by decide +kernel
theorem dJ2_indexOfSupplementary_4cfef_25 : decode cJ2_indexOfSupplementary_4cfef 25 = .ok (.iload_n 2, 1) := by decide +kernel
theorem dJ2_indexOfSupplementary_4cfef_26 : decode cJ2_indexOfSupplementary_4cfef 26 = .ok (.istore 6, 2) := by decide +kernel
theorem dJ2_indexOfSupplementary_4cfef_28 : decode cJ2_indexOfSupplementary_4cfef 28 = .ok (.iload 6, 2) := by decide +kernel
theorem dJ2_indexOfSupplementary_4cfef_30 : decode cJ2_indexOfSupplementary_4cfef 30 = .ok (.iload_n 3, 1) := by decide +kernel
theorem dJ2_indexOfSupplementary_4cfef_31 : decode cJ2_indexOfSupplementary_4cfef 31 = .ok (.iconst 1, 1) := by decide +kernel
theorem dJ2_indexOfSupplementary_4cfef_32 : decode cJ2_indexOfSupplementary_4cfef 32 = .ok (.isub, 1) := by decide +kernel
theorem dJ2_indexOfSupplementary_4cfef_33 : decode cJ2_indexOfSupplementary_4cfef 33 = .ok (.if_icmp .ge 36, 3) := by decide +kernel
theorem dJ2_indexOfSupplementary_4cfef_36 : decode cJ2_indexOfSupplementary_4cfef 36 = .ok (.aload_n 0, 1) := by decide +kernel
theorem dJ2_indexOfSupplementary_4cfef_37 : decode cJ2_indexOfSupplementary_4cfef 37 = .ok (.iload 6, 2) := by decide +kernel
theorem dJ2_indexOfSupplementary_4cfef_39 : decode cJ2_indexOfSupplementary_4cfef 39 = .ok (.invokestatic 71, 3) := by decide +kernel
theorem dJ2_indexOfSupplementary_4cfef_42 : decode cJ2_indexOfSupplementary_4cfef 42 = .ok (.iload 4, 2) := by decide +kernel
theorem dJ2_indexOfSupplementary_4cfef_44 : decode cJ2_indexOfSupplementary_4cfef 44 = .ok (.if_icmp .ne 19, 3) := by decide +kernel
theorem dJ2_indexOfSupplementary_4cfef_47 : decode cJ2_indexOfSupplementary_4cfef 47 = .ok (.aload_n 0, 1) := by decide +kernel
theorem dJ2_indexOfSupplementary_4cfef_48 : decode cJ2_indexOfSupplementary_4cfef 48 = .ok (.iload 6, 2) := by decide +kernel
theorem dJ2_indexOfSupplementary_4cfef_50 : decode cJ2_indexOfSupplementary_4cfef 50 = .ok (.iconst 1, 1) := by decide +kernel
theorem dJ2_indexOfSupplementary_4cfef_51 : decode cJ2_indexOfSupplementary_4cfef 51 = .ok (.iadd, 1) := by decide +kernel
theorem dJ2_indexOfSupplementary_4cfef_52 : decode cJ2_indexOfSupplementary_4cfef 52 = .ok (.invokestatic 71, 3) := by decide +kernel
theorem dJ2_indexOfSupplementary_4cfef_55 : decode cJ2_indexOfSupplementary_4cfef 55 = .ok (.iload 5, 2) := by decide +kernel
theorem dJ2_indexOfSupplementary_4cfef_57 : decode cJ2_indexOfSupplementary_4cfef 57 = .ok (.if_icmp .ne 6, 3) := by decide +kernel
theorem dJ2_indexOfSupplementary_4cfef_60 : decode cJ2_indexOfSupplementary_4cfef 60 = .ok (.iload 6, 2) := by decide +kernel
theorem dJ2_indexOfSupplementary_4cfef_62 : decode cJ2_indexOfSupplementary_4cfef 62 = .ok (.ireturn, 1) := by decide +kernel
theorem dJ2_indexOfSupplementary_4cfef_63 : decode cJ2_indexOfSupplementary_4cfef 63 = .ok (.iinc 6 1, 3) := by decide +kernel
theorem dJ2_indexOfSupplementary_4cfef_66 : decode cJ2_indexOfSupplementary_4cfef 66 = .ok (.goto (-38), 3) := by decide +kernel
theorem dJ2_indexOfSupplementary_4cfef_69 : decode cJ2_indexOfSupplementary_4cfef 69 = .ok (.iconst (-1), 1) := by decide +kernel
theorem dJ2_indexOfSupplementary_4cfef_70 : decode cJ2_indexOfSupplementary_4cfef 70 = .ok (.ireturn, 1) := by decide +kernel
theorem dJ2_checkBoundsBeginEnd_d044e_0 : decode cJ2_checkBoundsBeginEnd_d044e 0 = .ok (.iload_n 0, 1) := by decide +kernel
theorem dJ2_checkBoundsBeginEnd_d044e_1 : decode cJ2_checkBoundsBeginEnd_d044e 1 = .ok (.iload_n 1, 1) := by decide +kernel
theorem dJ2_checkBoundsBeginEnd_d044e_2 : decode cJ2_checkBoundsBeginEnd_d044e 2 = .ok (.aload_n 2, 1) := by decide +kernel
theorem dJ2_checkBoundsBeginEnd_d044e_3 : decode cJ2_checkBoundsBeginEnd_d044e 3 = .ok (.invokestatic 48, 3) := by decide +kernel
theorem dJ2_checkBoundsBeginEnd_d044e_6 : decode cJ2_checkBoundsBeginEnd_d044e 6 = .ok (.invokestatic 241, 3) := by decide +kernel
theorem dJ2_checkBoundsBeginEnd_d044e_9 : decode cJ2_checkBoundsBeginEnd_d044e 9 = .ok (.return_, 1) := by decide +kernel
theorem dJ7_fill_53178_0 : decode cJ7_fill_53178 0 = .ok (.iconst 0, 1) := by decide +kernel
theorem dJ7_fill_53178_1 : decode cJ7_fill_53178 1 = .ok (.istore_n 2, 1) := by decide +kernel
theorem dJ7_fill_53178_2 : decode cJ7_fill_53178 2 = .ok (.aload_n 0, 1) := by decide +kernel
theorem dJ7_fill_53178_3 : decode cJ7_fill_53178 3 = .ok (.arraylength, 1) := by decide +kernel
theorem dJ7_fill_53178_4 : decode cJ7_fill_53178 4 = .ok (.istore_n 3, 1) := by decide +kernel
theorem dJ7_fill_53178_5 : decode cJ7_fill_53178 5 = .ok (.iload_n 2, 1) := by decide +kernel
theorem dJ7_fill_53178_6 : decode cJ7_fill_53178 6 = .ok (.iload_n 3, 1) := by decide +kernel
theorem dJ7_fill_53178_7 : decode cJ7_fill_53178 7 = .ok (.if_icmp .ge 13, 3) := by decide +kernel
theorem dJ7_fill_53178_10 : decode cJ7_fill_53178 10 = .ok (.aload_n 0, 1) := by decide +kernel
theorem dJ7_fill_53178_11 : decode cJ7_fill_53178 11 = .ok (.iload_n 2, 1) := by decide +kernel
theorem dJ7_fill_53178_12 : decode cJ7_fill_53178 12 = .ok (.iload_n 1, 1) := by decide +kernel
theorem dJ7_fill_53178_13 : decode cJ7_fill_53178 13 = .ok (.iastore, 1) := by decide +kernel
theorem dJ7_fill_53178_14 : decode cJ7_fill_53178 14 = .ok (.iinc 2 1, 3) := by decide +kernel
theorem dJ7_fill_53178_17 : decode cJ7_fill_53178 17 = .ok (.goto (-12), 3) := by decide +kernel
theorem dJ7_fill_53178_20 : decode cJ7_fill_53178 20 = .ok (.return_, 1) := by decide +kernel
theorem dJ3_checkFromToIndex_8c36e_0 : decode cJ3_checkFromToIndex_8c36e 0 = .ok (.iload_n 0, 1) := by decide +kernel
theorem dJ3_checkFromToIndex_8c36e_1 : decode cJ3_checkFromToIndex_8c36e 1 = .ok (.ifCond .lt 13, 3) := by decide +kernel
theorem dJ3_checkFromToIndex_8c36e_4 : decode cJ3_checkFromToIndex_8c36e 4 = .ok (.iload_n 0, 1) := by decide +kernel
theorem dJ3_checkFromToIndex_8c36e_5 : decode cJ3_checkFromToIndex_8c36e 5 = .ok (.iload_n 1, 1) := by decide +kernel
theorem dJ3_checkFromToIndex_8c36e_6 : decode cJ3_checkFromToIndex_8c36e 6 = .ok (.if_icmp .gt 8, 3) := by decide +kernel
theorem dJ3_checkFromToIndex_8c36e_9 : decode cJ3_checkFromToIndex_8c36e 9 = .ok (.iload_n 1, 1) := by decide +kernel
theorem dJ3_checkFromToIndex_8c36e_10 : decode cJ3_checkFromToIndex_8c36e 10 = .ok (.iload_n 2, 1) := by decide +kernel
theorem dJ3_checkFromToIndex_8c36e_11 : decode cJ3_checkFromToIndex_8c36e 11 = .ok (.if_icmp .le 11, 3) := by decide +kernel
theorem dJ3_checkFromToIndex_8c36e_14 : decode cJ3_checkFromToIndex_8c36e 14 = .ok (.aload_n 3, 1) := by decide +kernel
theorem dJ3_checkFromToIndex_8c36e_15 : decode cJ3_checkFromToIndex_8c36e 15 = .ok (.iload_n 0, 1) := by decide +kernel
theorem dJ3_checkFromToIndex_8c36e_16 : decode cJ3_checkFromToIndex_8c36e 16 = .ok (.iload_n 1, 1) := by decide +kernel
theorem dJ3_checkFromToIndex_8c36e_17 : decode cJ3_checkFromToIndex_8c36e 17 = .ok (.iload_n 2, 1) := by decide +kernel
theorem dJ3_checkFromToIndex_8c36e_18 : decode cJ3_checkFromToIndex_8c36e 18 = .ok (.invokestatic 99, 3) := by decide +kernel
theorem dJ3_checkFromToIndex_8c36e_21 : decode cJ3_checkFromToIndex_8c36e 21 = .ok (.athrow, 1) := by decide +kernel
theorem dJ3_checkFromToIndex_8c36e_22 : decode cJ3_checkFromToIndex_8c36e 22 = .ok (.iload_n 0, 1) := by decide +kernel
theorem dJ3_checkFromToIndex_8c36e_23 : decode cJ3_checkFromToIndex_8c36e 23 = .ok (.ireturn, 1) := by decide +kernel
theorem dL_law_0 : decode cL_law 0 = .ok (.new 7, 3) := by decide +kernel
theorem dL_law_3 : decode cL_law 3 = .ok (.dup, 1) := by decide +kernel
theorem dL_law_4 : decode cL_law 4 = .ok (.invokespecial 9, 3) := by decide +kernel
theorem dL_law_7 : decode cL_law 7 = .ok (.astore_n 1, 1) := by decide +kernel
theorem dL_law_8 : decode cL_law 8 = .ok (.new 10, 3) := by decide +kernel
theorem dL_law_11 : decode cL_law 11 = .ok (.dup, 1) := by decide +kernel
theorem dL_law_12 : decode cL_law 12 = .ok (.invokespecial 12, 3) := by decide +kernel
theorem dL_law_15 : decode cL_law 15 = .ok (.astore_n 2, 1) := by decide +kernel
theorem dL_law_16 : decode cL_law 16 = .ok (.iconst 0, 1) := by decide +kernel
theorem dL_law_17 : decode cL_law 17 = .ok (.istore_n 3, 1) := by decide +kernel
theorem dL_law_18 : decode cL_law 18 = .ok (.iload_n 3, 1) := by decide +kernel
theorem dL_law_19 : decode cL_law 19 = .ok (.aload_n 0, 1) := by decide +kernel
theorem dL_law_20 : decode cL_law 20 = .ok (.arraylength, 1) := by decide +kernel
theorem dL_law_21 : decode cL_law 21 = .ok (.iconst 5, 1) := by decide +kernel
theorem dL_law_22 : decode cL_law 22 = .ok (.isub, 1) := by decide +kernel
theorem dL_law_23 : decode cL_law 23 = .ok (.if_icmp .gt 955, 3) := by decide +kernel
theorem dL_law_26 : decode cL_law 26 = .ok (.aload_n 0, 1) := by decide +kernel
theorem dL_law_27 : decode cL_law 27 = .ok (.iload_n 3, 1) := by decide +kernel
theorem dL_law_28 : decode cL_law 28 = .ok (.iaload, 1) := by decide +kernel
theorem dL_law_29 : decode cL_law 29 = .ok (.bipush 31, 2) := by decide +kernel
theorem dL_law_31 : decode cL_law 31 = .ok (.iand, 1) := by decide +kernel
theorem dL_law_32 : decode cL_law 32 = .ok (.tableswitch 940 0 31 #[144, 167, 180, 193, 216, 249, 282, 315, 348, 371, 394, 417, 430, 453, 476, 499, 522, 545, 588, 611, 654, 707, 730, 743, 776, 789, 812, 845, 858, 871, 894, 917], 144) := by decide +kernel
theorem dL_law_176 : decode cL_law 176 = .ok (.aload_n 1, 1) := by decide +kernel
theorem dL_law_177 : decode cL_law 177 = .ok (.aload_n 0, 1) := by decide +kernel
theorem dL_law_178 : decode cL_law 178 = .ok (.iload_n 3, 1) := by decide +kernel
theorem dL_law_179 : decode cL_law 179 = .ok (.iconst 1, 1) := by decide +kernel
theorem dL_law_180 : decode cL_law 180 = .ok (.iadd, 1) := by decide +kernel
theorem dL_law_181 : decode cL_law 181 = .ok (.iaload, 1) := by decide +kernel
theorem dL_law_182 : decode cL_law 182 = .ok (.invokevirtual 13, 3) := by decide +kernel
theorem dL_law_185 : decode cL_law 185 = .ok (.aload_n 2, 1) := by decide +kernel
theorem dL_law_186 : decode cL_law 186 = .ok (.aload_n 0, 1) := by decide +kernel
theorem dL_law_187 : decode cL_law 187 = .ok (.iload_n 3, 1) := by decide +kernel
theorem dL_law_188 : decode cL_law 188 = .ok (.iconst 1, 1) := by decide +kernel
theorem dL_law_189 : decode cL_law 189 = .ok (.iadd, 1) := by decide +kernel
theorem dL_law_190 : decode cL_law 190 = .ok (.iaload, 1) := by decide +kernel
theorem dL_law_191 : decode cL_law 191 = .ok (.invokevirtual 17, 3) := by decide +kernel
theorem dL_law_194 : decode cL_law 194 = .ok (.if_icmp .eq 778, 3) := by decide +kernel
theorem dL_law_197 : decode cL_law 197 = .ok (.iconst 0, 1) := by decide +kernel
theorem dL_law_198 : decode cL_law 198 = .ok (.ireturn, 1) := by decide +kernel
theorem dL_law_199 : decode cL_law 199 = .ok (.aload_n 1, 1) := by decide +kernel
theorem dL_law_200 : decode cL_law 200 = .ok (.invokevirtual 18, 3) := by decide +kernel
theorem dL_law_203 : decode cL_law 203 = .ok (.aload_n 2, 1) := by decide +kernel
theorem dL_law_204 : decode cL_law 204 = .ok (.invokevirtual 22, 3) := by decide +kernel
theorem dL_law_207 : decode cL_law 207 = .ok (.if_icmp .eq 765, 3) := by decide +kernel
theorem dL_law_210 : decode cL_law 210 = .ok (.iconst 0, 1) := by decide +kernel
theorem dL_law_211 : decode cL_law 211 = .ok (.ireturn, 1) := by decide +kernel
theorem dL_law_212 : decode cL_law 212 = .ok (.aload_n 1, 1) := by decide +kernel
theorem dL_law_213 : decode cL_law 213 = .ok (.invokevirtual 23, 3) := by decide +kernel
theorem dL_law_216 : decode cL_law 216 = .ok (.aload_n 2, 1) := by decide +kernel
theorem dL_law_217 : decode cL_law 217 = .ok (.invokevirtual 26, 3) := by decide +kernel
theorem dL_law_220 : decode cL_law 220 = .ok (.if_icmp .eq 752, 3) := by decide +kernel
theorem dL_law_223 : decode cL_law 223 = .ok (.iconst 0, 1) := by decide +kernel
theorem dL_law_224 : decode cL_law 224 = .ok (.ireturn, 1) := by decide +kernel
theorem dL_law_225 : decode cL_law 225 = .ok (.aload_n 1, 1) := by decide +kernel
theorem dL_law_226 : decode cL_law 226 = .ok (.aload_n 0, 1) := by decide +kernel
theorem dL_law_227 : decode cL_law 227 = .ok (.iload_n 3, 1) := by decide +kernel
theorem dL_law_228 : decode cL_law 228 = .ok (.iconst 1, 1) := by decide +kernel
theorem dL_law_229 : decode cL_law 229 = .ok (.iadd, 1) := by decide +kernel
theorem dL_law_230 : decode cL_law 230 = .ok (.iaload, 1) := by decide +kernel
theorem dL_law_231 : decode cL_law 231 = .ok (.invokevirtual 27, 3) := by decide +kernel
theorem dL_law_234 : decode cL_law 234 = .ok (.aload_n 2, 1) := by decide +kernel
theorem dL_law_235 : decode cL_law 235 = .ok (.aload_n 0, 1) := by decide +kernel
theorem dL_law_236 : decode cL_law 236 = .ok (.iload_n 3, 1) := by decide +kernel
theorem dL_law_237 : decode cL_law 237 = .ok (.iconst 1, 1) := by decide +kernel
theorem dL_law_238 : decode cL_law 238 = .ok (.iadd, 1) := by decide +kernel
theorem dL_law_239 : decode cL_law 239 = .ok (.iaload, 1) := by decide +kernel
theorem dL_law_240 : decode cL_law 240 = .ok (.invokevirtual 30, 3) := by decide +kernel
theorem dL_law_243 : decode cL_law 243 = .ok (.if_icmp .eq 729, 3) := by decide +kernel
theorem dL_law_246 : decode cL_law 246 = .ok (.iconst 0, 1) := by decide +kernel
theorem dL_law_247 : decode cL_law 247 = .ok (.ireturn, 1) := by decide +kernel
theorem dL_law_248 : decode cL_law 248 = .ok (.aload_n 1, 1) := by decide +kernel
theorem dL_law_249 : decode cL_law 249 = .ok (.aload_n 0, 1) := by decide +kernel
theorem dL_law_250 : decode cL_law 250 = .ok (.iload_n 3, 1) := by decide +kernel
theorem dL_law_251 : decode cL_law 251 = .ok (.iconst 1, 1) := by decide +kernel
theorem dL_law_252 : decode cL_law 252 = .ok (.iadd, 1) := by decide +kernel
theorem dL_law_253 : decode cL_law 253 = .ok (.iaload, 1) := by decide +kernel
theorem dL_law_254 : decode cL_law 254 = .ok (.aload_n 0, 1) := by decide +kernel
theorem dL_law_255 : decode cL_law 255 = .ok (.iload_n 3, 1) := by decide +kernel
theorem dL_law_256 : decode cL_law 256 = .ok (.iconst 2, 1) := by decide +kernel
theorem dL_law_257 : decode cL_law 257 = .ok (.iadd, 1) := by decide +kernel
theorem dL_law_258 : decode cL_law 258 = .ok (.iaload, 1) := by decide +kernel
theorem dL_law_259 : decode cL_law 259 = .ok (.invokevirtual 31, 3) := by decide +kernel
theorem dL_law_262 : decode cL_law 262 = .ok (.aload_n 2, 1) := by decide +kernel
theorem dL_law_263 : decode cL_law 263 = .ok (.aload_n 0, 1) := by decide +kernel
theorem dL_law_264 : decode cL_law 264 = .ok (.iload_n 3, 1) := by decide +kernel
theorem dL_law_265 : decode cL_law 265 = .ok (.iconst 1, 1) := by decide +kernel
theorem dL_law_266 : decode cL_law 266 = .ok (.iadd, 1) := by decide +kernel
theorem dL_law_267 : decode cL_law 267 = .ok (.iaload, 1) := by decide +kernel
theorem dL_law_268 : decode cL_law 268 = .ok (.aload_n 0, 1) := by decide +kernel
theorem dL_law_269 : decode cL_law 269 = .ok (.iload_n 3, 1) := by decide +kernel
theorem dL_law_270 : decode cL_law 270 = .ok (.iconst 2, 1) := by decide +kernel
theorem dL_law_271 : decode cL_law 271 = .ok (.iadd, 1) := by decide +kernel
theorem dL_law_272 : decode cL_law 272 = .ok (.iaload, 1) := by decide +kernel
theorem dL_law_273 : decode cL_law 273 = .ok (.invokevirtual 35, 3) := by decide +kernel
theorem dL_law_276 : decode cL_law 276 = .ok (.if_icmp .eq 696, 3) := by decide +kernel
theorem dL_law_279 : decode cL_law 279 = .ok (.iconst 0, 1) := by decide +kernel
theorem dL_law_280 : decode cL_law 280 = .ok (.ireturn, 1) := by decide +kernel
theorem dL_law_281 : decode cL_law 281 = .ok (.aload_n 1, 1) := by decide +kernel
theorem dL_law_282 : decode cL_law 282 = .ok (.aload_n 0, 1) := by decide +kernel
theorem dL_law_283 : decode cL_law 283 = .ok (.iload_n 3, 1) := by decide +kernel
theorem dL_law_284 : decode cL_law 284 = .ok (.iconst 1, 1) := by decide +kernel
theorem dL_law_285 : decode cL_law 285 = .ok (.iadd, 1) := by decide +kernel
theorem dL_law_286 : decode cL_law 286 = .ok (.iaload, 1) := by decide +kernel
theorem dL_law_287 : decode cL_law 287 = .ok (.aload_n 0, 1) := by decide +kernel
theorem dL_law_288 : decode cL_law 288 = .ok (.iload_n 3, 1) := by decide +kernel
theorem dL_law_289 : decode cL_law 289 = .ok (.iconst 2, 1) := by decide +kernel
theorem dL_law_290 : decode cL_law 290 = .ok (.iadd, 1) := by decide +kernel
theorem dL_law_291 : decode cL_law 291 = .ok (.iaload, 1) := by decide +kernel
theorem dL_law_292 : decode cL_law 292 = .ok (.invokevirtual 36, 3) := by decide +kernel
theorem dL_law_295 : decode cL_law 295 = .ok (.aload_n 2, 1) := by decide +kernel
theorem dL_law_296 : decode cL_law 296 = .ok (.aload_n 0, 1) := by decide +kernel
theorem dL_law_297 : decode cL_law 297 = .ok (.iload_n 3, 1) := by decide +kernel
theorem dL_law_298 : decode cL_law 298 = .ok (.iconst 1, 1) := by decide +kernel
theorem dL_law_299 : decode cL_law 299 = .ok (.iadd, 1) := by decide +kernel
theorem dL_law_300 : decode cL_law 300 = .ok (.iaload, 1) := by decide +kernel
theorem dL_law_301 : decode cL_law 301 = .ok (.aload_n 0, 1) := by decide +kernel
theorem dL_law_302 : decode cL_law 302 = .ok (.iload_n 3, 1) := by decide +kernel
theorem dL_law_303 : decode cL_law 303 = .ok (.iconst 2, 1) := by decide +kernel
theorem dL_law_304 : decode cL_law 304 = .ok (.iadd, 1) := by decide +kernel
theorem dL_law_305 : decode cL_law 305 = .ok (.iaload, 1) := by decide +kernel
theorem dL_law_306 : decode cL_law 306 = .ok (.invokevirtual 39, 3) := by decide +kernel
theorem dL_law_309 : decode cL_law 309 = .ok (.if_icmp .eq 663, 3) := by decide +kernel
theorem dL_law_312 : decode cL_law 312 = .ok (.iconst 0, 1) := by decide +kernel
theorem dL_law_313 : decode cL_law 313 = .ok (.ireturn, 1) := by decide +kernel
theorem dL_law_314 : decode cL_law 314 = .ok (.aload_n 1, 1) := by decide +kernel
theorem dL_law_315 : decode cL_law 315 = .ok (.aload_n 0, 1) := by decide +kernel
theorem dL_law_316 : decode cL_law 316 = .ok (.iload_n 3, 1) := by decide +kernel
theorem dL_law_317 : decode cL_law 317 = .ok (.iconst 1, 1) := by decide +kernel
theorem dL_law_318 : decode cL_law 318 = .ok (.iadd, 1) := by decide +kernel
theorem dL_law_319 : decode cL_law 319 = .ok (.iaload, 1) := by decide +kernel
theorem dL_law_320 : decode cL_law 320 = .ok (.aload_n 0, 1) := by decide +kernel
theorem dL_law_321 : decode cL_law 321 = .ok (.iload_n 3, 1) := by decide +kernel
theorem dL_law_322 : decode cL_law 322 = .ok (.iconst 2, 1) := by decide +kernel
theorem dL_law_323 : decode cL_law 323 = .ok (.iadd, 1) := by decide +kernel
theorem dL_law_324 : decode cL_law 324 = .ok (.iaload, 1) := by decide +kernel
theorem dL_law_325 : decode cL_law 325 = .ok (.invokevirtual 40, 3) := by decide +kernel
theorem dL_law_328 : decode cL_law 328 = .ok (.aload_n 2, 1) := by decide +kernel
theorem dL_law_329 : decode cL_law 329 = .ok (.aload_n 0, 1) := by decide +kernel
theorem dL_law_330 : decode cL_law 330 = .ok (.iload_n 3, 1) := by decide +kernel
theorem dL_law_331 : decode cL_law 331 = .ok (.iconst 1, 1) := by decide +kernel
theorem dL_law_332 : decode cL_law 332 = .ok (.iadd, 1) := by decide +kernel
theorem dL_law_333 : decode cL_law 333 = .ok (.iaload, 1) := by decide +kernel
theorem dL_law_334 : decode cL_law 334 = .ok (.aload_n 0, 1) := by decide +kernel
theorem dL_law_335 : decode cL_law 335 = .ok (.iload_n 3, 1) := by decide +kernel
theorem dL_law_336 : decode cL_law 336 = .ok (.iconst 2, 1) := by decide +kernel
theorem dL_law_337 : decode cL_law 337 = .ok (.iadd, 1) := by decide +kernel
theorem dL_law_338 : decode cL_law 338 = .ok (.iaload, 1) := by decide +kernel
theorem dL_law_339 : decode cL_law 339 = .ok (.invokevirtual 43, 3) := by decide +kernel
theorem dL_law_342 : decode cL_law 342 = .ok (.if_icmp .eq 630, 3) := by decide +kernel
theorem dL_law_345 : decode cL_law 345 = .ok (.iconst 0, 1) := by decide +kernel
theorem dL_law_346 : decode cL_law 346 = .ok (.ireturn, 1) := by decide +kernel
theorem dL_law_347 : decode cL_law 347 = .ok (.aload_n 1, 1) := by decide +kernel
theorem dL_law_348 : decode cL_law 348 = .ok (.aload_n 0, 1) := by decide +kernel
theorem dL_law_349 : decode cL_law 349 = .ok (.iload_n 3, 1) := by decide +kernel
theorem dL_law_350 : decode cL_law 350 = .ok (.iconst 1, 1) := by decide +kernel
theorem dL_law_351 : decode cL_law 351 = .ok (.iadd, 1) := by decide +kernel
theorem dL_law_352 : decode cL_law 352 = .ok (.iaload, 1) := by decide +kernel
theorem dL_law_353 : decode cL_law 353 = .ok (.aload_n 0, 1) := by decide +kernel
theorem dL_law_354 : decode cL_law 354 = .ok (.iload_n 3, 1) := by decide +kernel
theorem dL_law_355 : decode cL_law 355 = .ok (.iconst 2, 1) := by decide +kernel
theorem dL_law_356 : decode cL_law 356 = .ok (.iadd, 1) := by decide +kernel
theorem dL_law_357 : decode cL_law 357 = .ok (.iaload, 1) := by decide +kernel
theorem dL_law_358 : decode cL_law 358 = .ok (.invokevirtual 44, 3) := by decide +kernel
theorem dL_law_361 : decode cL_law 361 = .ok (.aload_n 2, 1) := by decide +kernel
theorem dL_law_362 : decode cL_law 362 = .ok (.aload_n 0, 1) := by decide +kernel
theorem dL_law_363 : decode cL_law 363 = .ok (.iload_n 3, 1) := by decide +kernel
theorem dL_law_364 : decode cL_law 364 = .ok (.iconst 1, 1) := by decide +kernel
theorem dL_law_365 : decode cL_law 365 = .ok (.iadd, 1) := by decide +kernel
theorem dL_law_366 : decode cL_law 366 = .ok (.iaload, 1) := by decide +kernel
theorem dL_law_367 : decode cL_law 367 = .ok (.aload_n 0, 1) := by decide +kernel
theorem dL_law_368 : decode cL_law 368 = .ok (.iload_n 3, 1) := by decide +kernel
theorem dL_law_369 : decode cL_law 369 = .ok (.iconst 2, 1) := by decide +kernel
theorem dL_law_370 : decode cL_law 370 = .ok (.iadd, 1) := by decide +kernel
theorem dL_law_371 : decode cL_law 371 = .ok (.iaload, 1) := by decide +kernel
theorem dL_law_372 : decode cL_law 372 = .ok (.invokevirtual 47, 3) := by decide +kernel
theorem dL_law_375 : decode cL_law 375 = .ok (.if_icmp .eq 597, 3) := by decide +kernel
theorem dL_law_378 : decode cL_law 378 = .ok (.iconst 0, 1) := by decide +kernel
theorem dL_law_379 : decode cL_law 379 = .ok (.ireturn, 1) := by decide +kernel
theorem dL_law_380 : decode cL_law 380 = .ok (.aload_n 1, 1) := by decide +kernel
theorem dL_law_381 : decode cL_law 381 = .ok (.aload_n 0, 1) := by decide +kernel
theorem dL_law_382 : decode cL_law 382 = .ok (.iload_n 3, 1) := by decide +kernel
theorem dL_law_383 : decode cL_law 383 = .ok (.iconst 1, 1) := by decide +kernel
theorem dL_law_384 : decode cL_law 384 = .ok (.iadd, 1) := by decide +kernel
theorem dL_law_385 : decode cL_law 385 = .ok (.iaload, 1) := by decide +kernel
theorem dL_law_386 : decode cL_law 386 = .ok (.invokevirtual 48, 3) := by decide +kernel
theorem dL_law_389 : decode cL_law 389 = .ok (.aload_n 2, 1) := by decide +kernel
theorem dL_law_390 : decode cL_law 390 = .ok (.aload_n 0, 1) := by decide +kernel
theorem dL_law_391 : decode cL_law 391 = .ok (.iload_n 3, 1) := by decide +kernel
theorem dL_law_392 : decode cL_law 392 = .ok (.iconst 1, 1) := by decide +kernel
theorem dL_law_393 : decode cL_law 393 = .ok (.iadd, 1) := by decide +kernel
theorem dL_law_394 : decode cL_law 394 = .ok (.iaload, 1) := by decide +kernel
theorem dL_law_395 : decode cL_law 395 = .ok (.invokevirtual 51, 3) := by decide +kernel
theorem dL_law_398 : decode cL_law 398 = .ok (.if_icmp .eq 574, 3) := by decide +kernel
theorem dL_law_401 : decode cL_law 401 = .ok (.iconst 0, 1) := by decide +kernel
theorem dL_law_402 : decode cL_law 402 = .ok (.ireturn, 1) := by decide +kernel
theorem dL_law_403 : decode cL_law 403 = .ok (.aload_n 1, 1) := by decide +kernel
theorem dL_law_404 : decode cL_law 404 = .ok (.aload_n 0, 1) := by decide +kernel
theorem dL_law_405 : decode cL_law 405 = .ok (.iload_n 3, 1) := by decide +kernel
theorem dL_law_406 : decode cL_law 406 = .ok (.iconst 1, 1) := by decide +kernel
theorem dL_law_407 : decode cL_law 407 = .ok (.iadd, 1) := by decide +kernel
theorem dL_law_408 : decode cL_law 408 = .ok (.iaload, 1) := by decide +kernel
theorem dL_law_409 : decode cL_law 409 = .ok (.invokevirtual 52, 3) := by decide +kernel
theorem dL_law_412 : decode cL_law 412 = .ok (.aload_n 2, 1) := by decide +kernel
theorem dL_law_413 : decode cL_law 413 = .ok (.aload_n 0, 1) := by decide +kernel
theorem dL_law_414 : decode cL_law 414 = .ok (.iload_n 3, 1) := by decide +kernel
theorem dL_law_415 : decode cL_law 415 = .ok (.iconst 1, 1) := by decide +kernel
theorem dL_law_416 : decode cL_law 416 = .ok (.iadd, 1) := by decide +kernel
theorem dL_law_417 : decode cL_law 417 = .ok (.iaload, 1) := by decide +kernel
theorem dL_law_418 : decode cL_law 418 = .ok (.invokevirtual 55, 3) := by decide +kernel
theorem dL_law_421 : decode cL_law 421 = .ok (.if_icmp .eq 551, 3) := by decide +kernel
theorem dL_law_424 : decode cL_law 424 = .ok (.iconst 0, 1) := by decide +kernel
theorem dL_law_425 : decode cL_law 425 = .ok (.ireturn, 1) := by decide +kernel
theorem dL_law_426 : decode cL_law 426 = .ok (.aload_n 1, 1) := by decide +kernel
theorem dL_law_427 : decode cL_law 427 = .ok (.aload_n 0, 1) := by decide +kernel
theorem dL_law_428 : decode cL_law 428 = .ok (.iload_n 3, 1) := by decide +kernel
theorem dL_law_429 : decode cL_law 429 = .ok (.iconst 1, 1) := by decide +kernel
theorem dL_law_430 : decode cL_law 430 = .ok (.iadd, 1) := by decide +kernel
theorem dL_law_431 : decode cL_law 431 = .ok (.iaload, 1) := by decide +kernel
theorem dL_law_432 : decode cL_law 432 = .ok (.invokevirtual 56, 3) := by decide +kernel
theorem dL_law_435 : decode cL_law 435 = .ok (.aload_n 2, 1) := by decide +kernel
theorem dL_law_436 : decode cL_law 436 = .ok (.aload_n 0, 1) := by decide +kernel
theorem dL_law_437 : decode cL_law 437 = .ok (.iload_n 3, 1) := by decide +kernel
theorem dL_law_438 : decode cL_law 438 = .ok (.iconst 1, 1) := by decide +kernel
theorem dL_law_439 : decode cL_law 439 = .ok (.iadd, 1) := by decide +kernel
theorem dL_law_440 : decode cL_law 440 = .ok (.iaload, 1) := by decide +kernel
theorem dL_law_441 : decode cL_law 441 = .ok (.invokevirtual 59, 3) := by decide +kernel
theorem dL_law_444 : decode cL_law 444 = .ok (.if_icmp .eq 528, 3) := by decide +kernel
theorem dL_law_447 : decode cL_law 447 = .ok (.iconst 0, 1) := by decide +kernel
theorem dL_law_448 : decode cL_law 448 = .ok (.ireturn, 1) := by decide +kernel
theorem dL_law_449 : decode cL_law 449 = .ok (.aload_n 1, 1) := by decide +kernel
theorem dL_law_450 : decode cL_law 450 = .ok (.invokevirtual 60, 3) := by decide +kernel
theorem dL_law_453 : decode cL_law 453 = .ok (.aload_n 2, 1) := by decide +kernel
theorem dL_law_454 : decode cL_law 454 = .ok (.invokevirtual 63, 3) := by decide +kernel
theorem dL_law_457 : decode cL_law 457 = .ok (.if_icmp .eq 515, 3) := by decide +kernel
theorem dL_law_460 : decode cL_law 460 = .ok (.iconst 0, 1) := by decide +kernel
theorem dL_law_461 : decode cL_law 461 = .ok (.ireturn, 1) := by decide +kernel
theorem dL_law_462 : decode cL_law 462 = .ok (.aload_n 1, 1) := by decide +kernel
theorem dL_law_463 : decode cL_law 463 = .ok (.aload_n 0, 1) := by decide +kernel
theorem dL_law_464 : decode cL_law 464 = .ok (.iload_n 3, 1) := by decide +kernel
theorem dL_law_465 : decode cL_law 465 = .ok (.iconst 1, 1) := by decide +kernel
theorem dL_law_466 : decode cL_law 466 = .ok (.iadd, 1) := by decide +kernel
theorem dL_law_467 : decode cL_law 467 = .ok (.iaload, 1) := by decide +kernel
theorem dL_law_468 : decode cL_law 468 = .ok (.invokevirtual 64, 3) := by decide +kernel
theorem dL_law_471 : decode cL_law 471 = .ok (.aload_n 2, 1) := by decide +kernel
theorem dL_law_472 : decode cL_law 472 = .ok (.aload_n 0, 1) := by decide +kernel
theorem dL_law_473 : decode cL_law 473 = .ok (.iload_n 3, 1) := by decide +kernel
theorem dL_law_474 : decode cL_law 474 = .ok (.iconst 1, 1) := by decide +kernel
theorem dL_law_475 : decode cL_law 475 = .ok (.iadd, 1) := by decide +kernel
theorem dL_law_476 : decode cL_law 476 = .ok (.iaload, 1) := by decide +kernel
theorem dL_law_477 : decode cL_law 477 = .ok (.invokevirtual 67, 3) := by decide +kernel
theorem dL_law_480 : decode cL_law 480 = .ok (.if_icmp .eq 492, 3) := by decide +kernel
theorem dL_law_483 : decode cL_law 483 = .ok (.iconst 0, 1) := by decide +kernel
theorem dL_law_484 : decode cL_law 484 = .ok (.ireturn, 1) := by decide +kernel
theorem dL_law_485 : decode cL_law 485 = .ok (.aload_n 1, 1) := by decide +kernel
theorem dL_law_486 : decode cL_law 486 = .ok (.aload_n 0, 1) := by decide +kernel
theorem dL_law_487 : decode cL_law 487 = .ok (.iload_n 3, 1) := by decide +kernel
theorem dL_law_488 : decode cL_law 488 = .ok (.iconst 1, 1) := by decide +kernel
theorem dL_law_489 : decode cL_law 489 = .ok (.iadd, 1) := by decide +kernel
theorem dL_law_490 : decode cL_law 490 = .ok (.iaload, 1) := by decide +kernel
theorem dL_law_491 : decode cL_law 491 = .ok (.invokevirtual 68, 3) := by decide +kernel
theorem dL_law_494 : decode cL_law 494 = .ok (.aload_n 2, 1) := by decide +kernel
theorem dL_law_495 : decode cL_law 495 = .ok (.aload_n 0, 1) := by decide +kernel
theorem dL_law_496 : decode cL_law 496 = .ok (.iload_n 3, 1) := by decide +kernel
theorem dL_law_497 : decode cL_law 497 = .ok (.iconst 1, 1) := by decide +kernel
theorem dL_law_498 : decode cL_law 498 = .ok (.iadd, 1) := by decide +kernel
theorem dL_law_499 : decode cL_law 499 = .ok (.iaload, 1) := by decide +kernel
theorem dL_law_500 : decode cL_law 500 = .ok (.invokevirtual 71, 3) := by decide +kernel
theorem dL_law_503 : decode cL_law 503 = .ok (.if_icmp .eq 469, 3) := by decide +kernel
theorem dL_law_506 : decode cL_law 506 = .ok (.iconst 0, 1) := by decide +kernel
theorem dL_law_507 : decode cL_law 507 = .ok (.ireturn, 1) := by decide +kernel
theorem dL_law_508 : decode cL_law 508 = .ok (.aload_n 1, 1) := by decide +kernel
theorem dL_law_509 : decode cL_law 509 = .ok (.aload_n 0, 1) := by decide +kernel
theorem dL_law_510 : decode cL_law 510 = .ok (.iload_n 3, 1) := by decide +kernel
theorem dL_law_511 : decode cL_law 511 = .ok (.iconst 1, 1) := by decide +kernel
theorem dL_law_512 : decode cL_law 512 = .ok (.iadd, 1) := by decide +kernel
theorem dL_law_513 : decode cL_law 513 = .ok (.iaload, 1) := by decide +kernel
theorem dL_law_514 : decode cL_law 514 = .ok (.invokevirtual 72, 3) := by decide +kernel
theorem dL_law_517 : decode cL_law 517 = .ok (.aload_n 2, 1) := by decide +kernel
theorem dL_law_518 : decode cL_law 518 = .ok (.aload_n 0, 1) := by decide +kernel
theorem dL_law_519 : decode cL_law 519 = .ok (.iload_n 3, 1) := by decide +kernel
theorem dL_law_520 : decode cL_law 520 = .ok (.iconst 1, 1) := by decide +kernel
theorem dL_law_521 : decode cL_law 521 = .ok (.iadd, 1) := by decide +kernel
theorem dL_law_522 : decode cL_law 522 = .ok (.iaload, 1) := by decide +kernel
theorem dL_law_523 : decode cL_law 523 = .ok (.invokevirtual 75, 3) := by decide +kernel
theorem dL_law_526 : decode cL_law 526 = .ok (.if_icmp .eq 446, 3) := by decide +kernel
theorem dL_law_529 : decode cL_law 529 = .ok (.iconst 0, 1) := by decide +kernel
theorem dL_law_530 : decode cL_law 530 = .ok (.ireturn, 1) := by decide +kernel
theorem dL_law_531 : decode cL_law 531 = .ok (.aload_n 1, 1) := by decide +kernel
theorem dL_law_532 : decode cL_law 532 = .ok (.aload_n 0, 1) := by decide +kernel
theorem dL_law_533 : decode cL_law 533 = .ok (.iload_n 3, 1) := by decide +kernel
theorem dL_law_534 : decode cL_law 534 = .ok (.iconst 1, 1) := by decide +kernel
theorem dL_law_535 : decode cL_law 535 = .ok (.iadd, 1) := by decide +kernel
theorem dL_law_536 : decode cL_law 536 = .ok (.iaload, 1) := by decide +kernel
theorem dL_law_537 : decode cL_law 537 = .ok (.invokevirtual 76, 3) := by decide +kernel
theorem dL_law_540 : decode cL_law 540 = .ok (.aload_n 2, 1) := by decide +kernel
theorem dL_law_541 : decode cL_law 541 = .ok (.aload_n 0, 1) := by decide +kernel
theorem dL_law_542 : decode cL_law 542 = .ok (.iload_n 3, 1) := by decide +kernel
theorem dL_law_543 : decode cL_law 543 = .ok (.iconst 1, 1) := by decide +kernel
theorem dL_law_544 : decode cL_law 544 = .ok (.iadd, 1) := by decide +kernel
theorem dL_law_545 : decode cL_law 545 = .ok (.iaload, 1) := by decide +kernel
theorem dL_law_546 : decode cL_law 546 = .ok (.invokevirtual 79, 3) := by decide +kernel
theorem dL_law_549 : decode cL_law 549 = .ok (.if_icmp .eq 423, 3) := by decide +kernel
theorem dL_law_552 : decode cL_law 552 = .ok (.iconst 0, 1) := by decide +kernel
theorem dL_law_553 : decode cL_law 553 = .ok (.ireturn, 1) := by decide +kernel
theorem dL_law_554 : decode cL_law 554 = .ok (.aload_n 1, 1) := by decide +kernel
theorem dL_law_555 : decode cL_law 555 = .ok (.aload_n 0, 1) := by decide +kernel
theorem dL_law_556 : decode cL_law 556 = .ok (.iload_n 3, 1) := by decide +kernel
theorem dL_law_557 : decode cL_law 557 = .ok (.iconst 1, 1) := by decide +kernel
theorem dL_law_558 : decode cL_law 558 = .ok (.iadd, 1) := by decide +kernel
theorem dL_law_559 : decode cL_law 559 = .ok (.iaload, 1) := by decide +kernel
theorem dL_law_560 : decode cL_law 560 = .ok (.invokevirtual 80, 3) := by decide +kernel
theorem dL_law_563 : decode cL_law 563 = .ok (.aload_n 2, 1) := by decide +kernel
theorem dL_law_564 : decode cL_law 564 = .ok (.aload_n 0, 1) := by decide +kernel
theorem dL_law_565 : decode cL_law 565 = .ok (.iload_n 3, 1) := by decide +kernel
theorem dL_law_566 : decode cL_law 566 = .ok (.iconst 1, 1) := by decide +kernel
theorem dL_law_567 : decode cL_law 567 = .ok (.iadd, 1) := by decide +kernel
theorem dL_law_568 : decode cL_law 568 = .ok (.iaload, 1) := by decide +kernel
theorem dL_law_569 : decode cL_law 569 = .ok (.invokevirtual 83, 3) := by decide +kernel
theorem dL_law_572 : decode cL_law 572 = .ok (.if_icmp .eq 400, 3) := by decide +kernel
theorem dL_law_575 : decode cL_law 575 = .ok (.iconst 0, 1) := by decide +kernel
theorem dL_law_576 : decode cL_law 576 = .ok (.ireturn, 1) := by decide +kernel
theorem dL_law_577 : decode cL_law 577 = .ok (.aload_n 1, 1) := by decide +kernel
theorem dL_law_578 : decode cL_law 578 = .ok (.aload_n 0, 1) := by decide +kernel
theorem dL_law_579 : decode cL_law 579 = .ok (.iload_n 3, 1) := by decide +kernel
theorem dL_law_580 : decode cL_law 580 = .ok (.iconst 1, 1) := by decide +kernel
theorem dL_law_581 : decode cL_law 581 = .ok (.iadd, 1) := by decide +kernel
theorem dL_law_582 : decode cL_law 582 = .ok (.iaload, 1) := by decide +kernel
theorem dL_law_583 : decode cL_law 583 = .ok (.aload_n 0, 1) := by decide +kernel
theorem dL_law_584 : decode cL_law 584 = .ok (.iload_n 3, 1) := by decide +kernel
theorem dL_law_585 : decode cL_law 585 = .ok (.iconst 2, 1) := by decide +kernel
theorem dL_law_586 : decode cL_law 586 = .ok (.iadd, 1) := by decide +kernel
theorem dL_law_587 : decode cL_law 587 = .ok (.iaload, 1) := by decide +kernel
theorem dL_law_588 : decode cL_law 588 = .ok (.aload_n 0, 1) := by decide +kernel
theorem dL_law_589 : decode cL_law 589 = .ok (.iload_n 3, 1) := by decide +kernel
theorem dL_law_590 : decode cL_law 590 = .ok (.iconst 3, 1) := by decide +kernel
theorem dL_law_591 : decode cL_law 591 = .ok (.iadd, 1) := by decide +kernel
theorem dL_law_592 : decode cL_law 592 = .ok (.iaload, 1) := by decide +kernel
theorem dL_law_593 : decode cL_law 593 = .ok (.invokevirtual 84, 3) := by decide +kernel
theorem dL_law_596 : decode cL_law 596 = .ok (.aload_n 2, 1) := by decide +kernel
theorem dL_law_597 : decode cL_law 597 = .ok (.aload_n 0, 1) := by decide +kernel
theorem dL_law_598 : decode cL_law 598 = .ok (.iload_n 3, 1) := by decide +kernel
theorem dL_law_599 : decode cL_law 599 = .ok (.iconst 1, 1) := by decide +kernel
theorem dL_law_600 : decode cL_law 600 = .ok (.iadd, 1) := by decide +kernel
theorem dL_law_601 : decode cL_law 601 = .ok (.iaload, 1) := by decide +kernel
theorem dL_law_602 : decode cL_law 602 = .ok (.aload_n 0, 1) := by decide +kernel
theorem dL_law_603 : decode cL_law 603 = .ok (.iload_n 3, 1) := by decide +kernel
theorem dL_law_604 : decode cL_law 604 = .ok (.iconst 2, 1) := by decide +kernel
theorem dL_law_605 : decode cL_law 605 = .ok (.iadd, 1) := by decide +kernel
theorem dL_law_606 : decode cL_law 606 = .ok (.iaload, 1) := by decide +kernel
theorem dL_law_607 : decode cL_law 607 = .ok (.aload_n 0, 1) := by decide +kernel
theorem dL_law_608 : decode cL_law 608 = .ok (.iload_n 3, 1) := by decide +kernel
theorem dL_law_609 : decode cL_law 609 = .ok (.iconst 3, 1) := by decide +kernel
theorem dL_law_610 : decode cL_law 610 = .ok (.iadd, 1) := by decide +kernel
theorem dL_law_611 : decode cL_law 611 = .ok (.iaload, 1) := by decide +kernel
theorem dL_law_612 : decode cL_law 612 = .ok (.invokevirtual 88, 3) := by decide +kernel
theorem dL_law_615 : decode cL_law 615 = .ok (.if_icmp .eq 357, 3) := by decide +kernel
theorem dL_law_618 : decode cL_law 618 = .ok (.iconst 0, 1) := by decide +kernel
theorem dL_law_619 : decode cL_law 619 = .ok (.ireturn, 1) := by decide +kernel
theorem dL_law_620 : decode cL_law 620 = .ok (.aload_n 1, 1) := by decide +kernel
theorem dL_law_621 : decode cL_law 621 = .ok (.aload_n 0, 1) := by decide +kernel
theorem dL_law_622 : decode cL_law 622 = .ok (.iload_n 3, 1) := by decide +kernel
theorem dL_law_623 : decode cL_law 623 = .ok (.iconst 1, 1) := by decide +kernel
theorem dL_law_624 : decode cL_law 624 = .ok (.iadd, 1) := by decide +kernel
theorem dL_law_625 : decode cL_law 625 = .ok (.iaload, 1) := by decide +kernel
theorem dL_law_626 : decode cL_law 626 = .ok (.invokevirtual 89, 3) := by decide +kernel
theorem dL_law_629 : decode cL_law 629 = .ok (.aload_n 2, 1) := by decide +kernel
theorem dL_law_630 : decode cL_law 630 = .ok (.aload_n 0, 1) := by decide +kernel
theorem dL_law_631 : decode cL_law 631 = .ok (.iload_n 3, 1) := by decide +kernel
theorem dL_law_632 : decode cL_law 632 = .ok (.iconst 1, 1) := by decide +kernel
theorem dL_law_633 : decode cL_law 633 = .ok (.iadd, 1) := by decide +kernel
theorem dL_law_634 : decode cL_law 634 = .ok (.iaload, 1) := by decide +kernel
theorem dL_law_635 : decode cL_law 635 = .ok (.invokevirtual 92, 3) := by decide +kernel
theorem dL_law_638 : decode cL_law 638 = .ok (.if_icmp .eq 334, 3) := by decide +kernel
theorem dL_law_641 : decode cL_law 641 = .ok (.iconst 0, 1) := by decide +kernel
theorem dL_law_642 : decode cL_law 642 = .ok (.ireturn, 1) := by decide +kernel
theorem dL_law_643 : decode cL_law 643 = .ok (.aload_n 1, 1) := by decide +kernel
theorem dL_law_644 : decode cL_law 644 = .ok (.aload_n 0, 1) := by decide +kernel
theorem dL_law_645 : decode cL_law 645 = .ok (.iload_n 3, 1) := by decide +kernel
theorem dL_law_646 : decode cL_law 646 = .ok (.iconst 1, 1) := by decide +kernel
theorem dL_law_647 : decode cL_law 647 = .ok (.iadd, 1) := by decide +kernel
theorem dL_law_648 : decode cL_law 648 = .ok (.iaload, 1) := by decide +kernel
theorem dL_law_649 : decode cL_law 649 = .ok (.aload_n 0, 1) := by decide +kernel
theorem dL_law_650 : decode cL_law 650 = .ok (.iload_n 3, 1) := by decide +kernel
theorem dL_law_651 : decode cL_law 651 = .ok (.iconst 2, 1) := by decide +kernel
theorem dL_law_652 : decode cL_law 652 = .ok (.iadd, 1) := by decide +kernel
theorem dL_law_653 : decode cL_law 653 = .ok (.iaload, 1) := by decide +kernel
theorem dL_law_654 : decode cL_law 654 = .ok (.aload_n 0, 1) := by decide +kernel
theorem dL_law_655 : decode cL_law 655 = .ok (.iload_n 3, 1) := by decide +kernel
theorem dL_law_656 : decode cL_law 656 = .ok (.iconst 3, 1) := by decide +kernel
theorem dL_law_657 : decode cL_law 657 = .ok (.iadd, 1) := by decide +kernel
theorem dL_law_658 : decode cL_law 658 = .ok (.iaload, 1) := by decide +kernel
theorem dL_law_659 : decode cL_law 659 = .ok (.invokevirtual 93, 3) := by decide +kernel
theorem dL_law_662 : decode cL_law 662 = .ok (.aload_n 2, 1) := by decide +kernel
theorem dL_law_663 : decode cL_law 663 = .ok (.aload_n 0, 1) := by decide +kernel
theorem dL_law_664 : decode cL_law 664 = .ok (.iload_n 3, 1) := by decide +kernel
theorem dL_law_665 : decode cL_law 665 = .ok (.iconst 1, 1) := by decide +kernel
theorem dL_law_666 : decode cL_law 666 = .ok (.iadd, 1) := by decide +kernel
theorem dL_law_667 : decode cL_law 667 = .ok (.iaload, 1) := by decide +kernel
theorem dL_law_668 : decode cL_law 668 = .ok (.aload_n 0, 1) := by decide +kernel
theorem dL_law_669 : decode cL_law 669 = .ok (.iload_n 3, 1) := by decide +kernel
theorem dL_law_670 : decode cL_law 670 = .ok (.iconst 2, 1) := by decide +kernel
theorem dL_law_671 : decode cL_law 671 = .ok (.iadd, 1) := by decide +kernel
theorem dL_law_672 : decode cL_law 672 = .ok (.iaload, 1) := by decide +kernel
theorem dL_law_673 : decode cL_law 673 = .ok (.aload_n 0, 1) := by decide +kernel
theorem dL_law_674 : decode cL_law 674 = .ok (.iload_n 3, 1) := by decide +kernel
theorem dL_law_675 : decode cL_law 675 = .ok (.iconst 3, 1) := by decide +kernel
theorem dL_law_676 : decode cL_law 676 = .ok (.iadd, 1) := by decide +kernel
theorem dL_law_677 : decode cL_law 677 = .ok (.iaload, 1) := by decide +kernel
theorem dL_law_678 : decode cL_law 678 = .ok (.invokevirtual 96, 3) := by decide +kernel
theorem dL_law_681 : decode cL_law 681 = .ok (.if_icmp .eq 291, 3) := by decide +kernel
theorem dL_law_684 : decode cL_law 684 = .ok (.iconst 0, 1) := by decide +kernel
theorem dL_law_685 : decode cL_law 685 = .ok (.ireturn, 1) := by decide +kernel
theorem dL_law_686 : decode cL_law 686 = .ok (.aload_n 1, 1) := by decide +kernel
theorem dL_law_687 : decode cL_law 687 = .ok (.aload_n 0, 1) := by decide +kernel
theorem dL_law_688 : decode cL_law 688 = .ok (.iload_n 3, 1) := by decide +kernel
theorem dL_law_689 : decode cL_law 689 = .ok (.iconst 1, 1) := by decide +kernel
theorem dL_law_690 : decode cL_law 690 = .ok (.iadd, 1) := by decide +kernel
theorem dL_law_691 : decode cL_law 691 = .ok (.iaload, 1) := by decide +kernel
theorem dL_law_692 : decode cL_law 692 = .ok (.aload_n 0, 1) := by decide +kernel
theorem dL_law_693 : decode cL_law 693 = .ok (.iload_n 3, 1) := by decide +kernel
theorem dL_law_694 : decode cL_law 694 = .ok (.iconst 2, 1) := by decide +kernel
theorem dL_law_695 : decode cL_law 695 = .ok (.iadd, 1) := by decide +kernel
theorem dL_law_696 : decode cL_law 696 = .ok (.iaload, 1) := by decide +kernel
theorem dL_law_697 : decode cL_law 697 = .ok (.aload_n 0, 1) := by decide +kernel
theorem dL_law_698 : decode cL_law 698 = .ok (.iload_n 3, 1) := by decide +kernel
theorem dL_law_699 : decode cL_law 699 = .ok (.iconst 3, 1) := by decide +kernel
theorem dL_law_700 : decode cL_law 700 = .ok (.iadd, 1) := by decide +kernel
theorem dL_law_701 : decode cL_law 701 = .ok (.iaload, 1) := by decide +kernel
theorem dL_law_702 : decode cL_law 702 = .ok (.aload_n 0, 1) := by decide +kernel
theorem dL_law_703 : decode cL_law 703 = .ok (.iload_n 3, 1) := by decide +kernel
theorem dL_law_704 : decode cL_law 704 = .ok (.iconst 4, 1) := by decide +kernel
theorem dL_law_705 : decode cL_law 705 = .ok (.iadd, 1) := by decide +kernel
theorem dL_law_706 : decode cL_law 706 = .ok (.iaload, 1) := by decide +kernel
theorem dL_law_707 : decode cL_law 707 = .ok (.invokevirtual 97, 3) := by decide +kernel
theorem dL_law_710 : decode cL_law 710 = .ok (.aload_n 2, 1) := by decide +kernel
theorem dL_law_711 : decode cL_law 711 = .ok (.aload_n 0, 1) := by decide +kernel
theorem dL_law_712 : decode cL_law 712 = .ok (.iload_n 3, 1) := by decide +kernel
theorem dL_law_713 : decode cL_law 713 = .ok (.iconst 1, 1) := by decide +kernel
theorem dL_law_714 : decode cL_law 714 = .ok (.iadd, 1) := by decide +kernel
theorem dL_law_715 : decode cL_law 715 = .ok (.iaload, 1) := by decide +kernel
theorem dL_law_716 : decode cL_law 716 = .ok (.aload_n 0, 1) := by decide +kernel
theorem dL_law_717 : decode cL_law 717 = .ok (.iload_n 3, 1) := by decide +kernel
theorem dL_law_718 : decode cL_law 718 = .ok (.iconst 2, 1) := by decide +kernel
theorem dL_law_719 : decode cL_law 719 = .ok (.iadd, 1) := by decide +kernel
theorem dL_law_720 : decode cL_law 720 = .ok (.iaload, 1) := by decide +kernel
theorem dL_law_721 : decode cL_law 721 = .ok (.aload_n 0, 1) := by decide +kernel
theorem dL_law_722 : decode cL_law 722 = .ok (.iload_n 3, 1) := by decide +kernel
theorem dL_law_723 : decode cL_law 723 = .ok (.iconst 3, 1) := by decide +kernel
theorem dL_law_724 : decode cL_law 724 = .ok (.iadd, 1) := by decide +kernel
theorem dL_law_725 : decode cL_law 725 = .ok (.iaload, 1) := by decide +kernel
theorem dL_law_726 : decode cL_law 726 = .ok (.aload_n 0, 1) := by decide +kernel
theorem dL_law_727 : decode cL_law 727 = .ok (.iload_n 3, 1) := by decide +kernel
theorem dL_law_728 : decode cL_law 728 = .ok (.iconst 4, 1) := by decide +kernel
theorem dL_law_729 : decode cL_law 729 = .ok (.iadd, 1) := by decide +kernel
theorem dL_law_730 : decode cL_law 730 = .ok (.iaload, 1) := by decide +kernel
theorem dL_law_731 : decode cL_law 731 = .ok (.invokevirtual 101, 3) := by decide +kernel
theorem dL_law_734 : decode cL_law 734 = .ok (.if_icmp .eq 238, 3) := by decide +kernel
theorem dL_law_737 : decode cL_law 737 = .ok (.iconst 0, 1) := by decide +kernel
theorem dL_law_738 : decode cL_law 738 = .ok (.ireturn, 1) := by decide +kernel
theorem dL_law_739 : decode cL_law 739 = .ok (.aload_n 1, 1) := by decide +kernel
theorem dL_law_740 : decode cL_law 740 = .ok (.aload_n 0, 1) := by decide +kernel
theorem dL_law_741 : decode cL_law 741 = .ok (.iload_n 3, 1) := by decide +kernel
theorem dL_law_742 : decode cL_law 742 = .ok (.iconst 1, 1) := by decide +kernel
theorem dL_law_743 : decode cL_law 743 = .ok (.iadd, 1) := by decide +kernel
theorem dL_law_744 : decode cL_law 744 = .ok (.iaload, 1) := by decide +kernel
theorem dL_law_745 : decode cL_law 745 = .ok (.invokevirtual 102, 3) := by decide +kernel
theorem dL_law_748 : decode cL_law 748 = .ok (.aload_n 2, 1) := by decide +kernel
theorem dL_law_749 : decode cL_law 749 = .ok (.aload_n 0, 1) := by decide +kernel
theorem dL_law_750 : decode cL_law 750 = .ok (.iload_n 3, 1) := by decide +kernel
theorem dL_law_751 : decode cL_law 751 = .ok (.iconst 1, 1) := by decide +kernel
theorem dL_law_752 : decode cL_law 752 = .ok (.iadd, 1) := by decide +kernel
theorem dL_law_753 : decode cL_law 753 = .ok (.iaload, 1) := by decide +kernel
theorem dL_law_754 : decode cL_law 754 = .ok (.invokevirtual 105, 3) := by decide +kernel
theorem dL_law_757 : decode cL_law 757 = .ok (.if_icmp .eq 215, 3) := by decide +kernel
theorem dL_law_760 : decode cL_law 760 = .ok (.iconst 0, 1) := by decide +kernel
theorem dL_law_761 : decode cL_law 761 = .ok (.ireturn, 1) := by decide +kernel
theorem dL_law_762 : decode cL_law 762 = .ok (.aload_n 1, 1) := by decide +kernel
theorem dL_law_763 : decode cL_law 763 = .ok (.invokevirtual 106, 3) := by decide +kernel
theorem dL_law_766 : decode cL_law 766 = .ok (.aload_n 2, 1) := by decide +kernel
theorem dL_law_767 : decode cL_law 767 = .ok (.invokevirtual 109, 3) := by decide +kernel
theorem dL_law_770 : decode cL_law 770 = .ok (.if_icmp .eq 202, 3) := by decide +kernel
theorem dL_law_773 : decode cL_law 773 = .ok (.iconst 0, 1) := by decide +kernel
theorem dL_law_774 : decode cL_law 774 = .ok (.ireturn, 1) := by decide +kernel
theorem dL_law_775 : decode cL_law 775 = .ok (.aload_n 1, 1) := by decide +kernel
theorem dL_law_776 : decode cL_law 776 = .ok (.aload_n 0, 1) := by decide +kernel
theorem dL_law_777 : decode cL_law 777 = .ok (.iload_n 3, 1) := by decide +kernel
theorem dL_law_778 : decode cL_law 778 = .ok (.iconst 1, 1) := by decide +kernel
theorem dL_law_779 : decode cL_law 779 = .ok (.iadd, 1) := by decide +kernel
theorem dL_law_780 : decode cL_law 780 = .ok (.iaload, 1) := by decide +kernel
theorem dL_law_781 : decode cL_law 781 = .ok (.aload_n 0, 1) := by decide +kernel
theorem dL_law_782 : decode cL_law 782 = .ok (.iload_n 3, 1) := by decide +kernel
theorem dL_law_783 : decode cL_law 783 = .ok (.iconst 2, 1) := by decide +kernel
theorem dL_law_784 : decode cL_law 784 = .ok (.iadd, 1) := by decide +kernel
theorem dL_law_785 : decode cL_law 785 = .ok (.iaload, 1) := by decide +kernel
theorem dL_law_786 : decode cL_law 786 = .ok (.invokevirtual 110, 3) := by decide +kernel
theorem dL_law_789 : decode cL_law 789 = .ok (.aload_n 2, 1) := by decide +kernel
theorem dL_law_790 : decode cL_law 790 = .ok (.aload_n 0, 1) := by decide +kernel
theorem dL_law_791 : decode cL_law 791 = .ok (.iload_n 3, 1) := by decide +kernel
theorem dL_law_792 : decode cL_law 792 = .ok (.iconst 1, 1) := by decide +kernel
theorem dL_law_793 : decode cL_law 793 = .ok (.iadd, 1) := by decide +kernel
theorem dL_law_794 : decode cL_law 794 = .ok (.iaload, 1) := by decide +kernel
theorem dL_law_795 : decode cL_law 795 = .ok (.aload_n 0, 1) := by decide +kernel
theorem dL_law_796 : decode cL_law 796 = .ok (.iload_n 3, 1) := by decide +kernel
theorem dL_law_797 : decode cL_law 797 = .ok (.iconst 2, 1) := by decide +kernel
theorem dL_law_798 : decode cL_law 798 = .ok (.iadd, 1) := by decide +kernel
theorem dL_law_799 : decode cL_law 799 = .ok (.iaload, 1) := by decide +kernel
end
section
theorem dL_law_800 : decode cL_law 800 = .ok (.invokevirtual 113, 3) := by decide +kernel
theorem dL_law_803 : decode cL_law 803 = .ok (.if_icmp .eq 169, 3) := by decide +kernel
theorem dL_law_806 : decode cL_law 806 = .ok (.iconst 0, 1) := by decide +kernel
theorem dL_law_807 : decode cL_law 807 = .ok (.ireturn, 1) := by decide +kernel
theorem dL_law_808 : decode cL_law 808 = .ok (.aload_n 1, 1) := by decide +kernel
theorem dL_law_809 : decode cL_law 809 = .ok (.invokevirtual 114, 3) := by decide +kernel
theorem dL_law_812 : decode cL_law 812 = .ok (.aload_n 2, 1) := by decide +kernel
theorem dL_law_813 : decode cL_law 813 = .ok (.invokevirtual 117, 3) := by decide +kernel
theorem dL_law_816 : decode cL_law 816 = .ok (.if_icmp .eq 156, 3) := by decide +kernel
theorem dL_law_819 : decode cL_law 819 = .ok (.iconst 0, 1) := by decide +kernel
theorem dL_law_820 : decode cL_law 820 = .ok (.ireturn, 1) := by decide +kernel
theorem dL_law_821 : decode cL_law 821 = .ok (.aload_n 1, 1) := by decide +kernel
theorem dL_law_822 : decode cL_law 822 = .ok (.aload_n 0, 1) := by decide +kernel
theorem dL_law_823 : decode cL_law 823 = .ok (.iload_n 3, 1) := by decide +kernel
theorem dL_law_824 : decode cL_law 824 = .ok (.iconst 1, 1) := by decide +kernel
theorem dL_law_825 : decode cL_law 825 = .ok (.iadd, 1) := by decide +kernel
theorem dL_law_826 : decode cL_law 826 = .ok (.iaload, 1) := by decide +kernel
theorem dL_law_827 : decode cL_law 827 = .ok (.invokevirtual 118, 3) := by decide +kernel
theorem dL_law_830 : decode cL_law 830 = .ok (.aload_n 2, 1) := by decide +kernel
theorem dL_law_831 : decode cL_law 831 = .ok (.aload_n 0, 1) := by decide +kernel
theorem dL_law_832 : decode cL_law 832 = .ok (.iload_n 3, 1) := by decide +kernel
theorem dL_law_833 : decode cL_law 833 = .ok (.iconst 1, 1) := by decide +kernel
theorem dL_law_834 : decode cL_law 834 = .ok (.iadd, 1) := by decide +kernel
theorem dL_law_835 : decode cL_law 835 = .ok (.iaload, 1) := by decide +kernel
theorem dL_law_836 : decode cL_law 836 = .ok (.invokevirtual 121, 3) := by decide +kernel
theorem dL_law_839 : decode cL_law 839 = .ok (.if_icmp .eq 133, 3) := by decide +kernel
theorem dL_law_842 : decode cL_law 842 = .ok (.iconst 0, 1) := by decide +kernel
theorem dL_law_843 : decode cL_law 843 = .ok (.ireturn, 1) := by decide +kernel
theorem dL_law_844 : decode cL_law 844 = .ok (.aload_n 1, 1) := by decide +kernel
theorem dL_law_845 : decode cL_law 845 = .ok (.aload_n 0, 1) := by decide +kernel
theorem dL_law_846 : decode cL_law 846 = .ok (.iload_n 3, 1) := by decide +kernel
theorem dL_law_847 : decode cL_law 847 = .ok (.iconst 1, 1) := by decide +kernel
theorem dL_law_848 : decode cL_law 848 = .ok (.iadd, 1) := by decide +kernel
theorem dL_law_849 : decode cL_law 849 = .ok (.iaload, 1) := by decide +kernel
theorem dL_law_850 : decode cL_law 850 = .ok (.aload_n 0, 1) := by decide +kernel
theorem dL_law_851 : decode cL_law 851 = .ok (.iload_n 3, 1) := by decide +kernel
theorem dL_law_852 : decode cL_law 852 = .ok (.iconst 2, 1) := by decide +kernel
theorem dL_law_853 : decode cL_law 853 = .ok (.iadd, 1) := by decide +kernel
theorem dL_law_854 : decode cL_law 854 = .ok (.iaload, 1) := by decide +kernel
theorem dL_law_855 : decode cL_law 855 = .ok (.invokevirtual 122, 3) := by decide +kernel
theorem dL_law_858 : decode cL_law 858 = .ok (.aload_n 2, 1) := by decide +kernel
theorem dL_law_859 : decode cL_law 859 = .ok (.aload_n 0, 1) := by decide +kernel
theorem dL_law_860 : decode cL_law 860 = .ok (.iload_n 3, 1) := by decide +kernel
theorem dL_law_861 : decode cL_law 861 = .ok (.iconst 1, 1) := by decide +kernel
theorem dL_law_862 : decode cL_law 862 = .ok (.iadd, 1) := by decide +kernel
theorem dL_law_863 : decode cL_law 863 = .ok (.iaload, 1) := by decide +kernel
theorem dL_law_864 : decode cL_law 864 = .ok (.aload_n 0, 1) := by decide +kernel
theorem dL_law_865 : decode cL_law 865 = .ok (.iload_n 3, 1) := by decide +kernel
theorem dL_law_866 : decode cL_law 866 = .ok (.iconst 2, 1) := by decide +kernel
theorem dL_law_867 : decode cL_law 867 = .ok (.iadd, 1) := by decide +kernel
theorem dL_law_868 : decode cL_law 868 = .ok (.iaload, 1) := by decide +kernel
theorem dL_law_869 : decode cL_law 869 = .ok (.invokevirtual 125, 3) := by decide +kernel
theorem dL_law_872 : decode cL_law 872 = .ok (.if_icmp .eq 100, 3) := by decide +kernel
theorem dL_law_875 : decode cL_law 875 = .ok (.iconst 0, 1) := by decide +kernel
theorem dL_law_876 : decode cL_law 876 = .ok (.ireturn, 1) := by decide +kernel
theorem dL_law_877 : decode cL_law 877 = .ok (.aload_n 1, 1) := by decide +kernel
theorem dL_law_878 : decode cL_law 878 = .ok (.invokevirtual 126, 3) := by decide +kernel
theorem dL_law_881 : decode cL_law 881 = .ok (.aload_n 2, 1) := by decide +kernel
theorem dL_law_882 : decode cL_law 882 = .ok (.invokevirtual 129, 3) := by decide +kernel
theorem dL_law_885 : decode cL_law 885 = .ok (.if_icmp .eq 87, 3) := by decide +kernel
theorem dL_law_888 : decode cL_law 888 = .ok (.iconst 0, 1) := by decide +kernel
theorem dL_law_889 : decode cL_law 889 = .ok (.ireturn, 1) := by decide +kernel
theorem dL_law_890 : decode cL_law 890 = .ok (.aload_n 1, 1) := by decide +kernel
theorem dL_law_891 : decode cL_law 891 = .ok (.invokevirtual 130, 3) := by decide +kernel
theorem dL_law_894 : decode cL_law 894 = .ok (.aload_n 2, 1) := by decide +kernel
theorem dL_law_895 : decode cL_law 895 = .ok (.invokevirtual 133, 3) := by decide +kernel
theorem dL_law_898 : decode cL_law 898 = .ok (.if_icmp .eq 74, 3) := by decide +kernel
theorem dL_law_901 : decode cL_law 901 = .ok (.iconst 0, 1) := by decide +kernel
theorem dL_law_902 : decode cL_law 902 = .ok (.ireturn, 1) := by decide +kernel
theorem dL_law_903 : decode cL_law 903 = .ok (.aload_n 1, 1) := by decide +kernel
theorem dL_law_904 : decode cL_law 904 = .ok (.aload_n 0, 1) := by decide +kernel
theorem dL_law_905 : decode cL_law 905 = .ok (.iload_n 3, 1) := by decide +kernel
theorem dL_law_906 : decode cL_law 906 = .ok (.iconst 1, 1) := by decide +kernel
theorem dL_law_907 : decode cL_law 907 = .ok (.iadd, 1) := by decide +kernel
theorem dL_law_908 : decode cL_law 908 = .ok (.iaload, 1) := by decide +kernel
theorem dL_law_909 : decode cL_law 909 = .ok (.invokevirtual 134, 3) := by decide +kernel
theorem dL_law_912 : decode cL_law 912 = .ok (.aload_n 2, 1) := by decide +kernel
theorem dL_law_913 : decode cL_law 913 = .ok (.aload_n 0, 1) := by decide +kernel
theorem dL_law_914 : decode cL_law 914 = .ok (.iload_n 3, 1) := by decide +kernel
theorem dL_law_915 : decode cL_law 915 = .ok (.iconst 1, 1) := by decide +kernel
theorem dL_law_916 : decode cL_law 916 = .ok (.iadd, 1) := by decide +kernel
theorem dL_law_917 : decode cL_law 917 = .ok (.iaload, 1) := by decide +kernel
theorem dL_law_918 : decode cL_law 918 = .ok (.invokevirtual 137, 3) := by decide +kernel
theorem dL_law_921 : decode cL_law 921 = .ok (.if_icmp .eq 51, 3) := by decide +kernel
theorem dL_law_924 : decode cL_law 924 = .ok (.iconst 0, 1) := by decide +kernel
theorem dL_law_925 : decode cL_law 925 = .ok (.ireturn, 1) := by decide +kernel
theorem dL_law_926 : decode cL_law 926 = .ok (.aload_n 1, 1) := by decide +kernel
theorem dL_law_927 : decode cL_law 927 = .ok (.aload_n 0, 1) := by decide +kernel
theorem dL_law_928 : decode cL_law 928 = .ok (.iload_n 3, 1) := by decide +kernel
theorem dL_law_929 : decode cL_law 929 = .ok (.iconst 1, 1) := by decide +kernel
theorem dL_law_930 : decode cL_law 930 = .ok (.iadd, 1) := by decide +kernel
theorem dL_law_931 : decode cL_law 931 = .ok (.iaload, 1) := by decide +kernel
theorem dL_law_932 : decode cL_law 932 = .ok (.invokevirtual 138, 3) := by decide +kernel
theorem dL_law_935 : decode cL_law 935 = .ok (.aload_n 2, 1) := by decide +kernel
theorem dL_law_936 : decode cL_law 936 = .ok (.aload_n 0, 1) := by decide +kernel
theorem dL_law_937 : decode cL_law 937 = .ok (.iload_n 3, 1) := by decide +kernel
theorem dL_law_938 : decode cL_law 938 = .ok (.iconst 1, 1) := by decide +kernel
theorem dL_law_939 : decode cL_law 939 = .ok (.iadd, 1) := by decide +kernel
theorem dL_law_940 : decode cL_law 940 = .ok (.iaload, 1) := by decide +kernel
theorem dL_law_941 : decode cL_law 941 = .ok (.invokevirtual 141, 3) := by decide +kernel
theorem dL_law_944 : decode cL_law 944 = .ok (.if_icmp .eq 28, 3) := by decide +kernel
theorem dL_law_947 : decode cL_law 947 = .ok (.iconst 0, 1) := by decide +kernel
theorem dL_law_948 : decode cL_law 948 = .ok (.ireturn, 1) := by decide +kernel
theorem dL_law_949 : decode cL_law 949 = .ok (.aload_n 1, 1) := by decide +kernel
theorem dL_law_950 : decode cL_law 950 = .ok (.aload_n 0, 1) := by decide +kernel
theorem dL_law_951 : decode cL_law 951 = .ok (.iload_n 3, 1) := by decide +kernel
theorem dL_law_952 : decode cL_law 952 = .ok (.iconst 1, 1) := by decide +kernel
theorem dL_law_953 : decode cL_law 953 = .ok (.iadd, 1) := by decide +kernel
theorem dL_law_954 : decode cL_law 954 = .ok (.iaload, 1) := by decide +kernel
theorem dL_law_955 : decode cL_law 955 = .ok (.invokevirtual 142, 3) := by decide +kernel
theorem dL_law_958 : decode cL_law 958 = .ok (.aload_n 2, 1) := by decide +kernel
theorem dL_law_959 : decode cL_law 959 = .ok (.aload_n 0, 1) := by decide +kernel
theorem dL_law_960 : decode cL_law 960 = .ok (.iload_n 3, 1) := by decide +kernel
theorem dL_law_961 : decode cL_law 961 = .ok (.iconst 1, 1) := by decide +kernel
theorem dL_law_962 : decode cL_law 962 = .ok (.iadd, 1) := by decide +kernel
theorem dL_law_963 : decode cL_law 963 = .ok (.iaload, 1) := by decide +kernel
theorem dL_law_964 : decode cL_law 964 = .ok (.invokevirtual 145, 3) := by decide +kernel
theorem dL_law_967 : decode cL_law 967 = .ok (.if_icmp .eq 5, 3) := by decide +kernel
theorem dL_law_970 : decode cL_law 970 = .ok (.iconst 0, 1) := by decide +kernel
theorem dL_law_971 : decode cL_law 971 = .ok (.ireturn, 1) := by decide +kernel
theorem dL_law_972 : decode cL_law 972 = .ok (.iinc 3 5, 3) := by decide +kernel
theorem dL_law_975 : decode cL_law 975 = .ok (.goto (-957), 3) := by decide +kernel
theorem dL_law_978 : decode cL_law 978 = .ok (.iconst 1, 1) := by decide +kernel
theorem dL_law_979 : decode cL_law 979 = .ok (.ireturn, 1) := by decide +kernel
end
section
set_option maxRecDepth 100000 in
theorem tb_good : lw_tbl.all goodWord = true := by decide +kernel
theorem tb_t1 : tables_1[30]? = some (.instantiable "LoneAdjective$Reader" 6) := by decide +kernel
end
